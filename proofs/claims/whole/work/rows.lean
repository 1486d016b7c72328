section
-- ===== PART A: goes FIRST, ahead of the names: the tables' words, and 'selects' of the private methods out of them =====
/-- a private method of a class that the tables say can be made, by its rows of tables_1 -/
def lw_okq (q : MethodName × Nat) : Prop := (q.1.cls ≠ "java/lang/invoke/MethodHandle" ∧ q.1.cls ≠ "java/lang/invoke/VarHandle") ∧ Cond.instantiable q.1.cls q.2 ∈ tables_1 ∧ Cond.privateMethod q.1 ∈ tables_1 ∧ Cond.instanceMethod q.1 ∈ tables_1
theorem lw_p0 : lw_okq (⟨"WalkingLaw$Text", "takeItem", "(ILWalkingLaw$Road;)I"⟩, 3) := ⟨⟨by decide +kernel, by decide +kernel⟩, List.mem_of_getElem? (i := 19) (by decide +kernel), List.mem_of_getElem? (i := 252) (by decide +kernel), List.mem_of_getElem? (i := 253) (by decide +kernel)⟩
theorem lw_p1 : lw_okq (⟨"WalkingLaw$Text", "byteAt", "(I)I"⟩, 3) := ⟨⟨by decide +kernel, by decide +kernel⟩, List.mem_of_getElem? (i := 19) (by decide +kernel), List.mem_of_getElem? (i := 256) (by decide +kernel), List.mem_of_getElem? (i := 257) (by decide +kernel)⟩
theorem lw_p2 : lw_okq (⟨"WalkingLaw$Text", "takeNumber", "(IIC)I"⟩, 3) := ⟨⟨by decide +kernel, by decide +kernel⟩, List.mem_of_getElem? (i := 19) (by decide +kernel), List.mem_of_getElem? (i := 263) (by decide +kernel), List.mem_of_getElem? (i := 264) (by decide +kernel)⟩
theorem lw_p3 : lw_okq (⟨"WalkingLaw$Text", "isFigure", "(I)Z"⟩, 3) := ⟨⟨by decide +kernel, by decide +kernel⟩, List.mem_of_getElem? (i := 19) (by decide +kernel), List.mem_of_getElem? (i := 267) (by decide +kernel), List.mem_of_getElem? (i := 268) (by decide +kernel)⟩
theorem lw_p4 : lw_okq (⟨"WalkingLaw$Text", "addItem", "(ILWalkingLaw$Road;)Z"⟩, 3) := ⟨⟨by decide +kernel, by decide +kernel⟩, List.mem_of_getElem? (i := 19) (by decide +kernel), List.mem_of_getElem? (i := 271) (by decide +kernel), List.mem_of_getElem? (i := 272) (by decide +kernel)⟩
theorem lw_p5 : lw_okq (⟨"WalkingLaw", "isParish", "(I)Z"⟩, 9) := ⟨⟨by decide +kernel, by decide +kernel⟩, List.mem_of_getElem? (i := 11) (by decide +kernel), List.mem_of_getElem? (i := 294) (by decide +kernel), List.mem_of_getElem? (i := 295) (by decide +kernel)⟩
theorem lw_p6 : lw_okq (⟨"WalkingLaw", "isMember", "(I)Z"⟩, 9) := ⟨⟨by decide +kernel, by decide +kernel⟩, List.mem_of_getElem? (i := 11) (by decide +kernel), List.mem_of_getElem? (i := 306) (by decide +kernel), List.mem_of_getElem? (i := 307) (by decide +kernel)⟩
theorem lw_p7 : lw_okq (⟨"WalkingLaw$Walk", "clearInns", "()V"⟩, 6) := ⟨⟨by decide +kernel, by decide +kernel⟩, List.mem_of_getElem? (i := 117) (by decide +kernel), List.mem_of_getElem? (i := 342) (by decide +kernel), List.mem_of_getElem? (i := 343) (by decide +kernel)⟩
theorem lw_p8 : lw_okq (⟨"WalkingLaw$Walk", "changeMinds", "()V"⟩, 6) := ⟨⟨by decide +kernel, by decide +kernel⟩, List.mem_of_getElem? (i := 117) (by decide +kernel), List.mem_of_getElem? (i := 353) (by decide +kernel), List.mem_of_getElem? (i := 354) (by decide +kernel)⟩
theorem lw_p9 : lw_okq (⟨"WalkingLaw", "isBill", "(I)Z"⟩, 9) := ⟨⟨by decide +kernel, by decide +kernel⟩, List.mem_of_getElem? (i := 11) (by decide +kernel), List.mem_of_getElem? (i := 371) (by decide +kernel), List.mem_of_getElem? (i := 372) (by decide +kernel)⟩
theorem lw_p10 : lw_okq (⟨"WalkingLaw$Walk", "yesOf", "(IIII)I"⟩, 6) := ⟨⟨by decide +kernel, by decide +kernel⟩, List.mem_of_getElem? (i := 117) (by decide +kernel), List.mem_of_getElem? (i := 379) (by decide +kernel), List.mem_of_getElem? (i := 380) (by decide +kernel)⟩
theorem lw_p11 : lw_okq (⟨"WalkingLaw$Walk", "noOf", "(III)I"⟩, 6) := ⟨⟨by decide +kernel, by decide +kernel⟩, List.mem_of_getElem? (i := 117) (by decide +kernel), List.mem_of_getElem? (i := 391) (by decide +kernel), List.mem_of_getElem? (i := 392) (by decide +kernel)⟩
theorem lw_p12 : lw_okq (⟨"WalkingLaw", "lookAhead", "(I)V"⟩, 9) := ⟨⟨by decide +kernel, by decide +kernel⟩, List.mem_of_getElem? (i := 11) (by decide +kernel), List.mem_of_getElem? (i := 424) (by decide +kernel), List.mem_of_getElem? (i := 425) (by decide +kernel)⟩
theorem lw_p13 : lw_okq (⟨"WalkingLaw$Rows", "findPassing", "(LWalkingLaw$Walk;)V"⟩, 4) := ⟨⟨by decide +kernel, by decide +kernel⟩, List.mem_of_getElem? (i := 180) (by decide +kernel), List.mem_of_getElem? (i := 453) (by decide +kernel), List.mem_of_getElem? (i := 454) (by decide +kernel)⟩
theorem lw_p14 : lw_okq (⟨"WalkingLaw$Rows", "notePassing", "(LWalkingLaw$Walk;I)V"⟩, 4) := ⟨⟨by decide +kernel, by decide +kernel⟩, List.mem_of_getElem? (i := 180) (by decide +kernel), List.mem_of_getElem? (i := 457) (by decide +kernel), List.mem_of_getElem? (i := 458) (by decide +kernel)⟩
theorem lw_p15 : lw_okq (⟨"WalkingLaw$Rows", "setRow", "(II)Z"⟩, 4) := ⟨⟨by decide +kernel, by decide +kernel⟩, List.mem_of_getElem? (i := 180) (by decide +kernel), List.mem_of_getElem? (i := 464) (by decide +kernel), List.mem_of_getElem? (i := 465) (by decide +kernel)⟩
def lw_privs_1 : List (MethodName × Nat) := [(⟨"WalkingLaw$Text", "takeItem", "(ILWalkingLaw$Road;)I"⟩, 3), (⟨"WalkingLaw$Text", "byteAt", "(I)I"⟩, 3), (⟨"WalkingLaw$Text", "takeNumber", "(IIC)I"⟩, 3), (⟨"WalkingLaw$Text", "isFigure", "(I)Z"⟩, 3), (⟨"WalkingLaw$Text", "addItem", "(ILWalkingLaw$Road;)Z"⟩, 3), (⟨"WalkingLaw", "isParish", "(I)Z"⟩, 9), (⟨"WalkingLaw", "isMember", "(I)Z"⟩, 9), (⟨"WalkingLaw$Walk", "clearInns", "()V"⟩, 6), (⟨"WalkingLaw$Walk", "changeMinds", "()V"⟩, 6), (⟨"WalkingLaw", "isBill", "(I)Z"⟩, 9), (⟨"WalkingLaw$Walk", "yesOf", "(IIII)I"⟩, 6), (⟨"WalkingLaw$Walk", "noOf", "(III)I"⟩, 6), (⟨"WalkingLaw", "lookAhead", "(I)V"⟩, 9), (⟨"WalkingLaw$Rows", "findPassing", "(LWalkingLaw$Walk;)V"⟩, 4), (⟨"WalkingLaw$Rows", "notePassing", "(LWalkingLaw$Walk;I)V"⟩, 4), (⟨"WalkingLaw$Rows", "setRow", "(II)Z"⟩, 4)]
theorem lw_r1 : ∀ q ∈ lw_privs_1, lw_okq q := List.forall_mem_cons.mpr ⟨lw_p0, List.forall_mem_cons.mpr ⟨lw_p1, List.forall_mem_cons.mpr ⟨lw_p2, List.forall_mem_cons.mpr ⟨lw_p3, List.forall_mem_cons.mpr ⟨lw_p4, List.forall_mem_cons.mpr ⟨lw_p5, List.forall_mem_cons.mpr ⟨lw_p6, List.forall_mem_cons.mpr ⟨lw_p7, List.forall_mem_cons.mpr ⟨lw_p8, List.forall_mem_cons.mpr ⟨lw_p9, List.forall_mem_cons.mpr ⟨lw_p10, List.forall_mem_cons.mpr ⟨lw_p11, List.forall_mem_cons.mpr ⟨lw_p12, List.forall_mem_cons.mpr ⟨lw_p13, List.forall_mem_cons.mpr ⟨lw_p14, List.forall_mem_cons.mpr ⟨lw_p15, fun _ h => absurd h List.not_mem_nil⟩⟩⟩⟩⟩⟩⟩⟩⟩⟩⟩⟩⟩⟩⟩⟩
theorem lw_p16 : lw_okq (⟨"WalkingLaw$Rows", "compare", "(II)V"⟩, 4) := ⟨⟨by decide +kernel, by decide +kernel⟩, List.mem_of_getElem? (i := 180) (by decide +kernel), List.mem_of_getElem? (i := 468) (by decide +kernel), List.mem_of_getElem? (i := 469) (by decide +kernel)⟩
theorem lw_p17 : lw_okq (⟨"WalkingLaw", "heldAhead", "(I)I"⟩, 9) := ⟨⟨by decide +kernel, by decide +kernel⟩, List.mem_of_getElem? (i := 11) (by decide +kernel), List.mem_of_getElem? (i := 476) (by decide +kernel), List.mem_of_getElem? (i := 477) (by decide +kernel)⟩
theorem lw_p18 : lw_okq (⟨"WalkingLaw", "isParty", "(II)Z"⟩, 9) := ⟨⟨by decide +kernel, by decide +kernel⟩, List.mem_of_getElem? (i := 11) (by decide +kernel), List.mem_of_getElem? (i := 499) (by decide +kernel), List.mem_of_getElem? (i := 500) (by decide +kernel)⟩
theorem lw_p19 : lw_okq (⟨"WalkingLaw$Diary", "isSo", "(ILWalkingLaw$Walk;)Z"⟩, 5) := ⟨⟨by decide +kernel, by decide +kernel⟩, List.mem_of_getElem? (i := 157) (by decide +kernel), List.mem_of_getElem? (i := 532) (by decide +kernel), List.mem_of_getElem? (i := 533) (by decide +kernel)⟩
theorem lw_p20 : lw_okq (⟨"WalkingLaw$Diary", "noteFitting", "(II)V"⟩, 5) := ⟨⟨by decide +kernel, by decide +kernel⟩, List.mem_of_getElem? (i := 157) (by decide +kernel), List.mem_of_getElem? (i := 546) (by decide +kernel), List.mem_of_getElem? (i := 547) (by decide +kernel)⟩
theorem lw_p21 : lw_okq (⟨"WalkingLaw$Diary", "mostFitting", "()I"⟩, 5) := ⟨⟨by decide +kernel, by decide +kernel⟩, List.mem_of_getElem? (i := 157) (by decide +kernel), List.mem_of_getElem? (i := 554) (by decide +kernel), List.mem_of_getElem? (i := 555) (by decide +kernel)⟩
theorem lw_p22 : lw_okq (⟨"WalkingLaw", "heldInYear", "(I)I"⟩, 9) := ⟨⟨by decide +kernel, by decide +kernel⟩, List.mem_of_getElem? (i := 11) (by decide +kernel), List.mem_of_getElem? (i := 565) (by decide +kernel), List.mem_of_getElem? (i := 566) (by decide +kernel)⟩
theorem lw_p23 : lw_okq (⟨"WalkingLawModel", "begins", "()V"⟩, 19) := ⟨⟨by decide +kernel, by decide +kernel⟩, List.mem_of_getElem? (i := 593) (by decide +kernel), List.mem_of_getElem? (i := 599) (by decide +kernel), List.mem_of_getElem? (i := 600) (by decide +kernel)⟩
theorem lw_p24 : lw_okq (⟨"WalkingLawModel", "takes", "()V"⟩, 19) := ⟨⟨by decide +kernel, by decide +kernel⟩, List.mem_of_getElem? (i := 593) (by decide +kernel), List.mem_of_getElem? (i := 603) (by decide +kernel), List.mem_of_getElem? (i := 604) (by decide +kernel)⟩
theorem lw_p25 : lw_okq (⟨"WalkingLawModel", "laid", "(I)V"⟩, 19) := ⟨⟨by decide +kernel, by decide +kernel⟩, List.mem_of_getElem? (i := 593) (by decide +kernel), List.mem_of_getElem? (i := 607) (by decide +kernel), List.mem_of_getElem? (i := 608) (by decide +kernel)⟩
theorem lw_p26 : lw_okq (⟨"WalkingLawModel", "isItem", "()Z"⟩, 19) := ⟨⟨by decide +kernel, by decide +kernel⟩, List.mem_of_getElem? (i := 593) (by decide +kernel), List.mem_of_getElem? (i := 686) (by decide +kernel), List.mem_of_getElem? (i := 687) (by decide +kernel)⟩
theorem lw_p27 : lw_okq (⟨"WalkingLawModel", "number", "()I"⟩, 19) := ⟨⟨by decide +kernel, by decide +kernel⟩, List.mem_of_getElem? (i := 593) (by decide +kernel), List.mem_of_getElem? (i := 690) (by decide +kernel), List.mem_of_getElem? (i := 691) (by decide +kernel)⟩
theorem lw_p28 : lw_okq (⟨"WalkingLawModel", "isGood", "(I)Z"⟩, 19) := ⟨⟨by decide +kernel, by decide +kernel⟩, List.mem_of_getElem? (i := 593) (by decide +kernel), List.mem_of_getElem? (i := 697) (by decide +kernel), List.mem_of_getElem? (i := 698) (by decide +kernel)⟩
theorem lw_p29 : lw_okq (⟨"WalkingLawModel", "isIn", "(III)Z"⟩, 19) := ⟨⟨by decide +kernel, by decide +kernel⟩, List.mem_of_getElem? (i := 593) (by decide +kernel), List.mem_of_getElem? (i := 701) (by decide +kernel), List.mem_of_getElem? (i := 702) (by decide +kernel)⟩
theorem lw_p30 : lw_okq (⟨"WalkingLawModel", "isParish", "(I)Z"⟩, 19) := ⟨⟨by decide +kernel, by decide +kernel⟩, List.mem_of_getElem? (i := 593) (by decide +kernel), List.mem_of_getElem? (i := 714) (by decide +kernel), List.mem_of_getElem? (i := 715) (by decide +kernel)⟩
theorem lw_p31 : lw_okq (⟨"WalkingLawModel", "there", "(II)I"⟩, 19) := ⟨⟨by decide +kernel, by decide +kernel⟩, List.mem_of_getElem? (i := 593) (by decide +kernel), List.mem_of_getElem? (i := 719) (by decide +kernel), List.mem_of_getElem? (i := 720) (by decide +kernel)⟩
def lw_privs_2 : List (MethodName × Nat) := [(⟨"WalkingLaw$Rows", "compare", "(II)V"⟩, 4), (⟨"WalkingLaw", "heldAhead", "(I)I"⟩, 9), (⟨"WalkingLaw", "isParty", "(II)Z"⟩, 9), (⟨"WalkingLaw$Diary", "isSo", "(ILWalkingLaw$Walk;)Z"⟩, 5), (⟨"WalkingLaw$Diary", "noteFitting", "(II)V"⟩, 5), (⟨"WalkingLaw$Diary", "mostFitting", "()I"⟩, 5), (⟨"WalkingLaw", "heldInYear", "(I)I"⟩, 9), (⟨"WalkingLawModel", "begins", "()V"⟩, 19), (⟨"WalkingLawModel", "takes", "()V"⟩, 19), (⟨"WalkingLawModel", "laid", "(I)V"⟩, 19), (⟨"WalkingLawModel", "isItem", "()Z"⟩, 19), (⟨"WalkingLawModel", "number", "()I"⟩, 19), (⟨"WalkingLawModel", "isGood", "(I)Z"⟩, 19), (⟨"WalkingLawModel", "isIn", "(III)Z"⟩, 19), (⟨"WalkingLawModel", "isParish", "(I)Z"⟩, 19), (⟨"WalkingLawModel", "there", "(II)I"⟩, 19)]
theorem lw_r2 : ∀ q ∈ lw_privs_2, lw_okq q := List.forall_mem_cons.mpr ⟨lw_p16, List.forall_mem_cons.mpr ⟨lw_p17, List.forall_mem_cons.mpr ⟨lw_p18, List.forall_mem_cons.mpr ⟨lw_p19, List.forall_mem_cons.mpr ⟨lw_p20, List.forall_mem_cons.mpr ⟨lw_p21, List.forall_mem_cons.mpr ⟨lw_p22, List.forall_mem_cons.mpr ⟨lw_p23, List.forall_mem_cons.mpr ⟨lw_p24, List.forall_mem_cons.mpr ⟨lw_p25, List.forall_mem_cons.mpr ⟨lw_p26, List.forall_mem_cons.mpr ⟨lw_p27, List.forall_mem_cons.mpr ⟨lw_p28, List.forall_mem_cons.mpr ⟨lw_p29, List.forall_mem_cons.mpr ⟨lw_p30, List.forall_mem_cons.mpr ⟨lw_p31, fun _ h => absurd h List.not_mem_nil⟩⟩⟩⟩⟩⟩⟩⟩⟩⟩⟩⟩⟩⟩⟩⟩
theorem lw_p32 : lw_okq (⟨"WalkingLawModel", "parishOf", "(I)I"⟩, 19) := ⟨⟨by decide +kernel, by decide +kernel⟩, List.mem_of_getElem? (i := 593) (by decide +kernel), List.mem_of_getElem? (i := 723) (by decide +kernel), List.mem_of_getElem? (i := 724) (by decide +kernel)⟩
theorem lw_p33 : lw_okq (⟨"WalkingLawModel", "begin", "(I)I"⟩, 19) := ⟨⟨by decide +kernel, by decide +kernel⟩, List.mem_of_getElem? (i := 593) (by decide +kernel), List.mem_of_getElem? (i := 727) (by decide +kernel), List.mem_of_getElem? (i := 728) (by decide +kernel)⟩
theorem lw_p34 : lw_okq (⟨"WalkingLawModel", "isMember", "(I)Z"⟩, 19) := ⟨⟨by decide +kernel, by decide +kernel⟩, List.mem_of_getElem? (i := 593) (by decide +kernel), List.mem_of_getElem? (i := 735) (by decide +kernel), List.mem_of_getElem? (i := 736) (by decide +kernel)⟩
theorem lw_p35 : lw_okq (⟨"WalkingLawModel", "hour", "(II)V"⟩, 19) := ⟨⟨by decide +kernel, by decide +kernel⟩, List.mem_of_getElem? (i := 593) (by decide +kernel), List.mem_of_getElem? (i := 745) (by decide +kernel), List.mem_of_getElem? (i := 746) (by decide +kernel)⟩
theorem lw_p36 : lw_okq (⟨"WalkingLawModel", "end", "()I"⟩, 19) := ⟨⟨by decide +kernel, by decide +kernel⟩, List.mem_of_getElem? (i := 593) (by decide +kernel), List.mem_of_getElem? (i := 749) (by decide +kernel), List.mem_of_getElem? (i := 750) (by decide +kernel)⟩
theorem lw_p37 : lw_okq (⟨"WalkingLawModel", "pace", "(II)I"⟩, 19) := ⟨⟨by decide +kernel, by decide +kernel⟩, List.mem_of_getElem? (i := 593) (by decide +kernel), List.mem_of_getElem? (i := 753) (by decide +kernel), List.mem_of_getElem? (i := 754) (by decide +kernel)⟩
theorem lw_p38 : lw_okq (⟨"WalkingLawModel", "beds", "(I)V"⟩, 19) := ⟨⟨by decide +kernel, by decide +kernel⟩, List.mem_of_getElem? (i := 593) (by decide +kernel), List.mem_of_getElem? (i := 757) (by decide +kernel), List.mem_of_getElem? (i := 758) (by decide +kernel)⟩
theorem lw_p39 : lw_okq (⟨"WalkingLawModel", "minds", "(I)V"⟩, 19) := ⟨⟨by decide +kernel, by decide +kernel⟩, List.mem_of_getElem? (i := 593) (by decide +kernel), List.mem_of_getElem? (i := 764) (by decide +kernel), List.mem_of_getElem? (i := 765) (by decide +kernel)⟩
theorem lw_p40 : lw_okq (⟨"WalkingLawModel", "atEnd", "(I)I"⟩, 19) := ⟨⟨by decide +kernel, by decide +kernel⟩, List.mem_of_getElem? (i := 593) (by decide +kernel), List.mem_of_getElem? (i := 768) (by decide +kernel), List.mem_of_getElem? (i := 769) (by decide +kernel)⟩
theorem lw_p41 : lw_okq (⟨"WalkingLawModel", "isBill", "(I)Z"⟩, 19) := ⟨⟨by decide +kernel, by decide +kernel⟩, List.mem_of_getElem? (i := 593) (by decide +kernel), List.mem_of_getElem? (i := 776) (by decide +kernel), List.mem_of_getElem? (i := 777) (by decide +kernel)⟩
theorem lw_p42 : lw_okq (⟨"WalkingLawModel", "passes", "(IIII)Z"⟩, 19) := ⟨⟨by decide +kernel, by decide +kernel⟩, List.mem_of_getElem? (i := 593) (by decide +kernel), List.mem_of_getElem? (i := 780) (by decide +kernel), List.mem_of_getElem? (i := 781) (by decide +kernel)⟩
theorem lw_p43 : lw_okq (⟨"WalkingLawModel", "isRead", "(II)Z"⟩, 19) := ⟨⟨by decide +kernel, by decide +kernel⟩, List.mem_of_getElem? (i := 593) (by decide +kernel), List.mem_of_getElem? (i := 788) (by decide +kernel), List.mem_of_getElem? (i := 789) (by decide +kernel)⟩
theorem lw_p44 : lw_okq (⟨"WalkingLawModel", "isHeld", "(II)Z"⟩, 19) := ⟨⟨by decide +kernel, by decide +kernel⟩, List.mem_of_getElem? (i := 593) (by decide +kernel), List.mem_of_getElem? (i := 796) (by decide +kernel), List.mem_of_getElem? (i := 797) (by decide +kernel)⟩
theorem lw_p45 : lw_okq (⟨"WalkingLawModel", "tries", "(I)V"⟩, 19) := ⟨⟨by decide +kernel, by decide +kernel⟩, List.mem_of_getElem? (i := 593) (by decide +kernel), List.mem_of_getElem? (i := 808) (by decide +kernel), List.mem_of_getElem? (i := 809) (by decide +kernel)⟩
theorem lw_p46 : lw_okq (⟨"WalkingLawModel", "copies", "(II)V"⟩, 19) := ⟨⟨by decide +kernel, by decide +kernel⟩, List.mem_of_getElem? (i := 593) (by decide +kernel), List.mem_of_getElem? (i := 812) (by decide +kernel), List.mem_of_getElem? (i := 813) (by decide +kernel)⟩
theorem lw_p47 : lw_okq (⟨"WalkingLawModel", "holds", "()I"⟩, 19) := ⟨⟨by decide +kernel, by decide +kernel⟩, List.mem_of_getElem? (i := 593) (by decide +kernel), List.mem_of_getElem? (i := 833) (by decide +kernel), List.mem_of_getElem? (i := 834) (by decide +kernel)⟩
def lw_privs_3 : List (MethodName × Nat) := [(⟨"WalkingLawModel", "parishOf", "(I)I"⟩, 19), (⟨"WalkingLawModel", "begin", "(I)I"⟩, 19), (⟨"WalkingLawModel", "isMember", "(I)Z"⟩, 19), (⟨"WalkingLawModel", "hour", "(II)V"⟩, 19), (⟨"WalkingLawModel", "end", "()I"⟩, 19), (⟨"WalkingLawModel", "pace", "(II)I"⟩, 19), (⟨"WalkingLawModel", "beds", "(I)V"⟩, 19), (⟨"WalkingLawModel", "minds", "(I)V"⟩, 19), (⟨"WalkingLawModel", "atEnd", "(I)I"⟩, 19), (⟨"WalkingLawModel", "isBill", "(I)Z"⟩, 19), (⟨"WalkingLawModel", "passes", "(IIII)Z"⟩, 19), (⟨"WalkingLawModel", "isRead", "(II)Z"⟩, 19), (⟨"WalkingLawModel", "isHeld", "(II)Z"⟩, 19), (⟨"WalkingLawModel", "tries", "(I)V"⟩, 19), (⟨"WalkingLawModel", "copies", "(II)V"⟩, 19), (⟨"WalkingLawModel", "holds", "()I"⟩, 19)]
theorem lw_r3 : ∀ q ∈ lw_privs_3, lw_okq q := List.forall_mem_cons.mpr ⟨lw_p32, List.forall_mem_cons.mpr ⟨lw_p33, List.forall_mem_cons.mpr ⟨lw_p34, List.forall_mem_cons.mpr ⟨lw_p35, List.forall_mem_cons.mpr ⟨lw_p36, List.forall_mem_cons.mpr ⟨lw_p37, List.forall_mem_cons.mpr ⟨lw_p38, List.forall_mem_cons.mpr ⟨lw_p39, List.forall_mem_cons.mpr ⟨lw_p40, List.forall_mem_cons.mpr ⟨lw_p41, List.forall_mem_cons.mpr ⟨lw_p42, List.forall_mem_cons.mpr ⟨lw_p43, List.forall_mem_cons.mpr ⟨lw_p44, List.forall_mem_cons.mpr ⟨lw_p45, List.forall_mem_cons.mpr ⟨lw_p46, List.forall_mem_cons.mpr ⟨lw_p47, fun _ h => absurd h List.not_mem_nil⟩⟩⟩⟩⟩⟩⟩⟩⟩⟩⟩⟩⟩⟩⟩⟩
theorem lw_p48 : lw_okq (⟨"WalkingLawModel", "held", "(I)I"⟩, 19) := ⟨⟨by decide +kernel, by decide +kernel⟩, List.mem_of_getElem? (i := 593) (by decide +kernel), List.mem_of_getElem? (i := 841) (by decide +kernel), List.mem_of_getElem? (i := 842) (by decide +kernel)⟩
theorem lw_p49 : lw_okq (⟨"WalkingLawModel", "readAll", "()I"⟩, 19) := ⟨⟨by decide +kernel, by decide +kernel⟩, List.mem_of_getElem? (i := 593) (by decide +kernel), List.mem_of_getElem? (i := 845) (by decide +kernel), List.mem_of_getElem? (i := 846) (by decide +kernel)⟩
theorem lw_p50 : lw_okq (⟨"WalkingLawModel", "paces", "(I)I"⟩, 19) := ⟨⟨by decide +kernel, by decide +kernel⟩, List.mem_of_getElem? (i := 593) (by decide +kernel), List.mem_of_getElem? (i := 853) (by decide +kernel), List.mem_of_getElem? (i := 854) (by decide +kernel)⟩
theorem lw_p51 : lw_okq (⟨"WalkingLawModel", "isParty", "(II)Z"⟩, 19) := ⟨⟨by decide +kernel, by decide +kernel⟩, List.mem_of_getElem? (i := 593) (by decide +kernel), List.mem_of_getElem? (i := 857) (by decide +kernel), List.mem_of_getElem? (i := 858) (by decide +kernel)⟩
theorem lw_p52 : lw_okq (⟨"WalkingLawModel", "goes", "()V"⟩, 19) := ⟨⟨by decide +kernel, by decide +kernel⟩, List.mem_of_getElem? (i := 593) (by decide +kernel), List.mem_of_getElem? (i := 877) (by decide +kernel), List.mem_of_getElem? (i := 878) (by decide +kernel)⟩
theorem lw_p53 : lw_okq (⟨"WalkingLawModel", "right", "(I)I"⟩, 19) := ⟨⟨by decide +kernel, by decide +kernel⟩, List.mem_of_getElem? (i := 593) (by decide +kernel), List.mem_of_getElem? (i := 885) (by decide +kernel), List.mem_of_getElem? (i := 886) (by decide +kernel)⟩
theorem lw_p54 : lw_okq (⟨"WalkingLawModel", "yearOf", "(I)I"⟩, 19) := ⟨⟨by decide +kernel, by decide +kernel⟩, List.mem_of_getElem? (i := 593) (by decide +kernel), List.mem_of_getElem? (i := 897) (by decide +kernel), List.mem_of_getElem? (i := 898) (by decide +kernel)⟩
def lw_privs_4 : List (MethodName × Nat) := [(⟨"WalkingLawModel", "held", "(I)I"⟩, 19), (⟨"WalkingLawModel", "readAll", "()I"⟩, 19), (⟨"WalkingLawModel", "paces", "(I)I"⟩, 19), (⟨"WalkingLawModel", "isParty", "(II)Z"⟩, 19), (⟨"WalkingLawModel", "goes", "()V"⟩, 19), (⟨"WalkingLawModel", "right", "(I)I"⟩, 19), (⟨"WalkingLawModel", "yearOf", "(I)I"⟩, 19)]
theorem lw_r4 : ∀ q ∈ lw_privs_4, lw_okq q := List.forall_mem_cons.mpr ⟨lw_p48, List.forall_mem_cons.mpr ⟨lw_p49, List.forall_mem_cons.mpr ⟨lw_p50, List.forall_mem_cons.mpr ⟨lw_p51, List.forall_mem_cons.mpr ⟨lw_p52, List.forall_mem_cons.mpr ⟨lw_p53, List.forall_mem_cons.mpr ⟨lw_p54, fun _ h => absurd h List.not_mem_nil⟩⟩⟩⟩⟩⟩⟩
def lw_privs : List (MethodName × Nat) := lw_privs_1 ++ (lw_privs_2 ++ (lw_privs_3 ++ (lw_privs_4)))
def lw_tbl : List Cond := k2_sels lw_privs ++ tables_1
theorem lw_privs_ok : ∀ q ∈ lw_privs, lw_okq q := by
  show ∀ q ∈ lw_privs_1 ++ (lw_privs_2 ++ (lw_privs_3 ++ (lw_privs_4))), lw_okq q
  exact List.forall_mem_append.mpr ⟨lw_r1, List.forall_mem_append.mpr ⟨lw_r2, List.forall_mem_append.mpr ⟨lw_r3, lw_r4⟩⟩⟩
end
section
def RX0 : String := "WalkingLaw$Diary"
def TX0 : u_T := fun k => match k with
  | 0 => ("WalkingLaw$Diary", "members", "[I", true)
  | 1 => ("WalkingLaw$Diary", "parishes", "[I", true)
  | 2 => ("WalkingLaw$Diary", "hoursGone", "[I", true)
  | 3 => ("WalkingLaw$Diary", "lines", "I", false)
  | _ => ("WalkingLaw$Diary", "fitting", "[I", true)
def tyX0 : Nat → FieldType := fun k => match k with
  | 0 => .array .int
  | 1 => .array .int
  | 2 => .array .int
  | 3 => .int
  | _ => .array .int
abbrev wsX00 : List Cond := u_ws RX0 TX0 5
theorem nmX0 : ∀ a, a < 5 → ∀ b, b < 5 → a ≠ b → (TX0 a).2.1 ≠ (TX0 b).2.1 := by decide +kernel
theorem tyX0_ok : ∀ k, k < 5 → parseFieldDescriptor (TX0 k).2.2.1 = some (tyX0 k) := by decide +kernel
abbrev cX0_init : ByteArray := prog_2_method_1_code
def yX0_init : MethodName := ⟨RX0, "<init>", "()V"⟩
abbrev cX0_append : ByteArray := prog_2_method_2_code
def yX0_append : MethodName := ⟨RX0, "append", "(III)Z"⟩
abbrev cX0_falseLines : ByteArray := prog_2_method_3_code
def yX0_falseLines : MethodName := ⟨RX0, "falseLines", "(LWalkingLaw$Walk;)I"⟩
abbrev cX0_bestDelay : ByteArray := prog_2_method_4_code
def yX0_bestDelay : MethodName := ⟨RX0, "bestDelay", "(LWalkingLaw$Walk;)I"⟩
abbrev cX0_isSo : ByteArray := prog_2_method_5_code
def yX0_isSo : MethodName := ⟨RX0, "isSo", "(ILWalkingLaw$Walk;)Z"⟩
abbrev cX0_noteFitting : ByteArray := prog_2_method_6_code
def yX0_noteFitting : MethodName := ⟨RX0, "noteFitting", "(II)V"⟩
abbrev cX0_mostFitting : ByteArray := prog_2_method_7_code
def yX0_mostFitting : MethodName := ⟨RX0, "mostFitting", "()I"⟩
def RX1 : String := "WalkingLaw$Road"
def TX1 : u_T := fun k => match k with
  | 0 => ("WalkingLaw$Road", "parishes", "I", false)
  | 1 => ("WalkingLaw$Road", "lengths", "[I", true)
  | 2 => ("WalkingLaw$Road", "muddy", "[I", true)
  | 3 => ("WalkingLaw$Road", "beds", "[I", true)
  | 4 => ("WalkingLaw$Road", "firstMiles", "[I", true)
  | 5 => ("WalkingLaw$Road", "end", "I", false)
  | 6 => ("WalkingLaw$Road", "members", "I", false)
  | 7 => ("WalkingLaw$Road", "kinds", "[I", true)
  | 8 => ("WalkingLaw$Road", "paces", "[I", true)
  | 9 => ("WalkingLaw$Road", "minds", "[I", true)
  | 10 => ("WalkingLaw$Road", "ofKind", "[I", true)
  | 11 => ("WalkingLaw$Road", "quorum", "I", false)
  | _ => ("WalkingLaw$Road", "bills", "I", false)
def tyX1 : Nat → FieldType := fun k => match k with
  | 0 => .int
  | 1 => .array .int
  | 2 => .array .int
  | 3 => .array .int
  | 4 => .array .int
  | 5 => .int
  | 6 => .int
  | 7 => .array .int
  | 8 => .array .int
  | 9 => .array .int
  | 10 => .array .int
  | 11 => .int
  | _ => .int
abbrev wsX10 : List Cond := u_ws RX1 TX1 13
theorem nmX1 : ∀ a, a < 13 → ∀ b, b < 13 → a ≠ b → (TX1 a).2.1 ≠ (TX1 b).2.1 := by decide +kernel
theorem tyX1_ok : ∀ k, k < 13 → parseFieldDescriptor (TX1 k).2.2.1 = some (tyX1 k) := by decide +kernel
abbrev cX1_init : ByteArray := prog_3_method_1_code
def yX1_init : MethodName := ⟨RX1, "<init>", "()V"⟩
abbrev cX1_clear : ByteArray := prog_3_method_2_code
def yX1_clear : MethodName := ⟨RX1, "clear", "()V"⟩
abbrev cX1_addParish : ByteArray := prog_3_method_3_code
def yX1_addParish : MethodName := ⟨RX1, "addParish", "(III)Z"⟩
abbrev cX1_addMember : ByteArray := prog_3_method_4_code
def yX1_addMember : MethodName := ⟨RX1, "addMember", "(III)Z"⟩
abbrev cX1_setQuorum : ByteArray := prog_3_method_5_code
def yX1_setQuorum : MethodName := ⟨RX1, "setQuorum", "(I)Z"⟩
abbrev cX1_setBills : ByteArray := prog_3_method_6_code
def yX1_setBills : MethodName := ⟨RX1, "setBills", "(I)Z"⟩
abbrev cX1_parishAt : ByteArray := prog_3_method_7_code
def yX1_parishAt : MethodName := ⟨RX1, "parishAt", "(I)I"⟩
abbrev cX1_strideFrom : ByteArray := prog_3_method_8_code
def yX1_strideFrom : MethodName := ⟨RX1, "strideFrom", "(II)I"⟩
abbrev cX1_outspoken : ByteArray := prog_3_method_9_code
def yX1_outspoken : MethodName := ⟨RX1, "outspoken", "()I"⟩
abbrev cX1_paceOf : ByteArray := prog_3_method_10_code
def yX1_paceOf : MethodName := ⟨RX1, "paceOf", "(I)I"⟩
abbrev cX1_slowestOf : ByteArray := prog_3_method_11_code
def yX1_slowestOf : MethodName := ⟨RX1, "slowestOf", "(I)I"⟩
def RX2 : String := "WalkingLaw$Rows"
def TX2 : u_T := fun k => match k with
  | 0 => ("WalkingLaw$Rows", "passing", "[[I", true)
  | 1 => ("WalkingLaw$Rows", "row", "[I", true)
  | 2 => ("WalkingLaw$Rows", "best", "[I", true)
  | _ => ("WalkingLaw$Rows", "most", "I", false)
def tyX2 : Nat → FieldType := fun k => match k with
  | 0 => .array (.array .int)
  | 1 => .array .int
  | 2 => .array .int
  | _ => .int
abbrev wsX20 : List Cond := u_ws RX2 TX2 4
theorem nmX2 : ∀ a, a < 4 → ∀ b, b < 4 → a ≠ b → (TX2 a).2.1 ≠ (TX2 b).2.1 := by decide +kernel
theorem tyX2_ok : ∀ k, k < 4 → parseFieldDescriptor (TX2 k).2.2.1 = some (tyX2 k) := by decide +kernel
abbrev cX2_init : ByteArray := prog_4_method_1_code
def yX2_init : MethodName := ⟨RX2, "<init>", "()V"⟩
abbrev cX2_weigh : ByteArray := prog_4_method_2_code
def yX2_weigh : MethodName := ⟨RX2, "weigh", "(LWalkingLaw$Walk;)V"⟩
abbrev cX2_findPassing : ByteArray := prog_4_method_3_code
def yX2_findPassing : MethodName := ⟨RX2, "findPassing", "(LWalkingLaw$Walk;)V"⟩
abbrev cX2_notePassing : ByteArray := prog_4_method_4_code
def yX2_notePassing : MethodName := ⟨RX2, "notePassing", "(LWalkingLaw$Walk;I)V"⟩
abbrev cX2_setRow : ByteArray := prog_4_method_5_code
def yX2_setRow : MethodName := ⟨RX2, "setRow", "(II)Z"⟩
abbrev cX2_compare : ByteArray := prog_4_method_6_code
def yX2_compare : MethodName := ⟨RX2, "compare", "(II)V"⟩
def RX3 : String := "WalkingLaw$Text"
def TX3 : u_T := fun k => match k with
  | 0 => ("WalkingLaw$Text", "bytes", "[B", true)
  | 1 => ("WalkingLaw$Text", "numbers", "[I", true)
  | _ => ("WalkingLaw$Text", "length", "I", false)
def tyX3 : Nat → FieldType := fun k => match k with
  | 0 => .array .byte
  | 1 => .array .int
  | _ => .int
abbrev wsX30 : List Cond := u_ws RX3 TX3 3
theorem nmX3 : ∀ a, a < 3 → ∀ b, b < 3 → a ≠ b → (TX3 a).2.1 ≠ (TX3 b).2.1 := by decide +kernel
theorem tyX3_ok : ∀ k, k < 3 → parseFieldDescriptor (TX3 k).2.2.1 = some (tyX3 k) := by decide +kernel
abbrev cX3_init : ByteArray := prog_5_method_1_code
def yX3_init : MethodName := ⟨RX3, "<init>", "()V"⟩
abbrev cX3_append : ByteArray := prog_5_method_2_code
def yX3_append : MethodName := ⟨RX3, "append", "(IJ)Z"⟩
abbrev cX3_tell : ByteArray := prog_5_method_3_code
def yX3_tell : MethodName := ⟨RX3, "tell", "(LWalkingLaw$Road;)I"⟩
abbrev cX3_takeItem : ByteArray := prog_5_method_4_code
def yX3_takeItem : MethodName := ⟨RX3, "takeItem", "(ILWalkingLaw$Road;)I"⟩
abbrev cX3_numbersBehind : ByteArray := prog_5_method_5_code
def yX3_numbersBehind : MethodName := ⟨RX3, "numbersBehind", "(I)I"⟩
abbrev cX3_takeNumber : ByteArray := prog_5_method_6_code
def yX3_takeNumber : MethodName := ⟨RX3, "takeNumber", "(IIC)I"⟩
abbrev cX3_addItem : ByteArray := prog_5_method_7_code
def yX3_addItem : MethodName := ⟨RX3, "addItem", "(ILWalkingLaw$Road;)Z"⟩
abbrev cX3_isFigure : ByteArray := prog_5_method_8_code
def yX3_isFigure : MethodName := ⟨RX3, "isFigure", "(I)Z"⟩
abbrev cX3_byteAt : ByteArray := prog_5_method_9_code
def yX3_byteAt : MethodName := ⟨RX3, "byteAt", "(I)I"⟩
def RX4 : String := "WalkingLaw$Walk"
def TX4 : u_T := fun k => match k with
  | 0 => ("WalkingLaw$Walk", "road", "LWalkingLaw$Road;", false)
  | 1 => ("WalkingLaw$Walk", "miles", "[I", true)
  | 2 => ("WalkingLaw$Walk", "backers", "[I", true)
  | 3 => ("WalkingLaw$Walk", "passed", "[I", true)
  | 4 => ("WalkingLaw$Walk", "made", "[I", true)
  | _ => ("WalkingLaw$Walk", "hour", "I", false)
def tyX4 : Nat → FieldType := fun k => match k with
  | 0 => .object "WalkingLaw$Road"
  | 1 => .array .int
  | 2 => .array .int
  | 3 => .array .int
  | 4 => .array .int
  | _ => .int
abbrev wsX40 : List Cond := u_ws RX4 TX4 6
theorem nmX4 : ∀ a, a < 6 → ∀ b, b < 6 → a ≠ b → (TX4 a).2.1 ≠ (TX4 b).2.1 := by decide +kernel
theorem tyX4_ok : ∀ k, k < 6 → parseFieldDescriptor (TX4 k).2.2.1 = some (tyX4 k) := by decide +kernel
abbrev cX4_init : ByteArray := prog_6_method_1_code
def yX4_init : MethodName := ⟨RX4, "<init>", "(LWalkingLaw$Road;)V"⟩
abbrev cX4_begin : ByteArray := prog_6_method_2_code
def yX4_begin : MethodName := ⟨RX4, "begin", "(LWalkingLaw$Road;)V"⟩
abbrev cX4_become : ByteArray := prog_6_method_3_code
def yX4_become : MethodName := ⟨RX4, "become", "(LWalkingLaw$Walk;)V"⟩
abbrev cX4_setMind : ByteArray := prog_6_method_4_code
def yX4_setMind : MethodName := ⟨RX4, "setMind", "(II)V"⟩
abbrev cX4_mindOf : ByteArray := prog_6_method_5_code
def yX4_mindOf : MethodName := ⟨RX4, "mindOf", "(I)I"⟩
abbrev cX4_parishOf : ByteArray := prog_6_method_6_code
def yX4_parishOf : MethodName := ⟨RX4, "parishOf", "(I)I"⟩
abbrev cX4_thoseIn : ByteArray := prog_6_method_7_code
def yX4_thoseIn : MethodName := ⟨RX4, "thoseIn", "(I)I"⟩
abbrev cX4_arrived : ByteArray := prog_6_method_8_code
def yX4_arrived : MethodName := ⟨RX4, "arrived", "()I"⟩
abbrev cX4_goHours : ByteArray := prog_6_method_9_code
def yX4_goHours : MethodName := ⟨RX4, "goHours", "(I)V"⟩
abbrev cX4_goHour : ByteArray := prog_6_method_10_code
def yX4_goHour : MethodName := ⟨RX4, "goHour", "(I)V"⟩
abbrev cX4_clearInns : ByteArray := prog_6_method_11_code
def yX4_clearInns : MethodName := ⟨RX4, "clearInns", "()V"⟩
abbrev cX4_changeMinds : ByteArray := prog_6_method_12_code
def yX4_changeMinds : MethodName := ⟨RX4, "changeMinds", "()V"⟩
abbrev cX4_swayed : ByteArray := prog_6_method_13_code
def yX4_swayed : MethodName := ⟨RX4, "swayed", "(II)I"⟩
abbrev cX4_yesIn : ByteArray := prog_6_method_14_code
def yX4_yesIn : MethodName := ⟨RX4, "yesIn", "(II)I"⟩
abbrev cX4_noIn : ByteArray := prog_6_method_15_code
def yX4_noIn : MethodName := ⟨RX4, "noIn", "(II)I"⟩
abbrev cX4_passesIn : ByteArray := prog_6_method_16_code
def yX4_passesIn : MethodName := ⟨RX4, "passesIn", "(III)Z"⟩
abbrev cX4_yesOf : ByteArray := prog_6_method_17_code
def yX4_yesOf : MethodName := ⟨RX4, "yesOf", "(IIII)I"⟩
abbrev cX4_noOf : ByteArray := prog_6_method_18_code
def yX4_noOf : MethodName := ⟨RX4, "noOf", "(III)I"⟩
abbrev cX4_readOut : ByteArray := prog_6_method_19_code
def yX4_readOut : MethodName := ⟨RX4, "readOut", "(I)Z"⟩
abbrev cX4_readAllFor : ByteArray := prog_6_method_20_code
def yX4_readAllFor : MethodName := ⟨RX4, "readAllFor", "(I)V"⟩
abbrev cX4_isHeld : ByteArray := prog_6_method_21_code
def yX4_isHeld : MethodName := ⟨RX4, "isHeld", "(I)Z"⟩
abbrev cX4_allHeld : ByteArray := prog_6_method_22_code
def yX4_allHeld : MethodName := ⟨RX4, "allHeld", "()I"⟩
def RX5 : String := "WalkingLaw"
def TX5 : u_T := fun k => match k with
  | 0 => ("WalkingLaw", "text", "LWalkingLaw$Text;", true)
  | 1 => ("WalkingLaw", "road", "LWalkingLaw$Road;", false)
  | 2 => ("WalkingLaw", "draft", "LWalkingLaw$Road;", false)
  | 3 => ("WalkingLaw", "now", "LWalkingLaw$Walk;", true)
  | 4 => ("WalkingLaw", "trial", "LWalkingLaw$Walk;", true)
  | 5 => ("WalkingLaw", "kept", "[LWalkingLaw$Walk;", true)
  | 6 => ("WalkingLaw", "keptWalks", "I", false)
  | 7 => ("WalkingLaw", "notes", "LWalkingLaw$Diary;", true)
  | _ => ("WalkingLaw", "rows", "LWalkingLaw$Rows;", true)
def tyX5 : Nat → FieldType := fun k => match k with
  | 0 => .object "WalkingLaw$Text"
  | 1 => .object "WalkingLaw$Road"
  | 2 => .object "WalkingLaw$Road"
  | 3 => .object "WalkingLaw$Walk"
  | 4 => .object "WalkingLaw$Walk"
  | 5 => .array (.object "WalkingLaw$Walk")
  | 6 => .int
  | 7 => .object "WalkingLaw$Diary"
  | _ => .object "WalkingLaw$Rows"
abbrev wsX50 : List Cond := u_ws RX5 TX5 9
theorem nmX5 : ∀ a, a < 9 → ∀ b, b < 9 → a ≠ b → (TX5 a).2.1 ≠ (TX5 b).2.1 := by decide +kernel
theorem tyX5_ok : ∀ k, k < 9 → parseFieldDescriptor (TX5 k).2.2.1 = some (tyX5 k) := by decide +kernel
abbrev cX5_init : ByteArray := prog_1_method_1_code
def yX5_init : MethodName := ⟨RX5, "<init>", "()V"⟩
abbrev cX5_write : ByteArray := prog_1_method_2_code
def yX5_write : MethodName := ⟨RX5, "write", "(IJ)I"⟩
abbrev cX5_wipe : ByteArray := prog_1_method_3_code
def yX5_wipe : MethodName := ⟨RX5, "wipe", "()I"⟩
abbrev cX5_fault : ByteArray := prog_1_method_4_code
def yX5_fault : MethodName := ⟨RX5, "fault", "()I"⟩
abbrev cX5_lay : ByteArray := prog_1_method_5_code
def yX5_lay : MethodName := ⟨RX5, "lay", "()I"⟩
abbrev cX5_parish : ByteArray := prog_1_method_6_code
def yX5_parish : MethodName := ⟨RX5, "parish", "(II)I"⟩
abbrev cX5_member : ByteArray := prog_1_method_7_code
def yX5_member : MethodName := ⟨RX5, "member", "(II)I"⟩
abbrev cX5_hours : ByteArray := prog_1_method_8_code
def yX5_hours : MethodName := ⟨RX5, "hours", "(I)I"⟩
abbrev cX5_voices : ByteArray := prog_1_method_9_code
def yX5_voices : MethodName := ⟨RX5, "voices", "(III)I"⟩
abbrev cX5_read : ByteArray := prog_1_method_10_code
def yX5_read : MethodName := ⟨RX5, "read", "(I)I"⟩
abbrev cX5_bill : ByteArray := prog_1_method_11_code
def yX5_bill : MethodName := ⟨RX5, "bill", "(II)I"⟩
abbrev cX5_mile : ByteArray := prog_1_method_12_code
def yX5_mile : MethodName := ⟨RX5, "mile", "(II)I"⟩
abbrev cX5_who : ByteArray := prog_1_method_13_code
def yX5_who : MethodName := ⟨RX5, "who", "(II)I"⟩
abbrev cX5_arrives : ByteArray := prog_1_method_14_code
def yX5_arrives : MethodName := ⟨RX5, "arrives", "()I"⟩
abbrev cX5_would : ByteArray := prog_1_method_15_code
def yX5_would : MethodName := ⟨RX5, "would", "(I)I"⟩
abbrev cX5_order : ByteArray := prog_1_method_16_code
def yX5_order : MethodName := ⟨RX5, "order", "(I)I"⟩
abbrev cX5_back : ByteArray := prog_1_method_17_code
def yX5_back : MethodName := ⟨RX5, "back", "(I)I"⟩
abbrev cX5_parties : ByteArray := prog_1_method_18_code
def yX5_parties : MethodName := ⟨RX5, "parties", "(II)I"⟩
abbrev cX5_join : ByteArray := prog_1_method_19_code
def yX5_join : MethodName := ⟨RX5, "join", "(II)I"⟩
abbrev cX5_diary : ByteArray := prog_1_method_20_code
def yX5_diary : MethodName := ⟨RX5, "diary", "(III)I"⟩
abbrev cX5_noDiary : ByteArray := prog_1_method_21_code
def yX5_noDiary : MethodName := ⟨RX5, "noDiary", "()I"⟩
abbrev cX5_wrong : ByteArray := prog_1_method_22_code
def yX5_wrong : MethodName := ⟨RX5, "wrong", "()I"⟩
abbrev cX5_late : ByteArray := prog_1_method_23_code
def yX5_late : MethodName := ⟨RX5, "late", "()I"⟩
abbrev cX5_year : ByteArray := prog_1_method_24_code
def yX5_year : MethodName := ⟨RX5, "year", "(I)I"⟩
abbrev cX5_ten : ByteArray := prog_1_method_25_code
def yX5_ten : MethodName := ⟨RX5, "ten", "(II)I"⟩
abbrev cX5_keep : ByteArray := prog_1_method_26_code
def yX5_keep : MethodName := ⟨RX5, "keep", "()I"⟩
abbrev cX5_again : ByteArray := prog_1_method_27_code
def yX5_again : MethodName := ⟨RX5, "again", "()I"⟩
abbrev cX5_count : ByteArray := prog_1_method_28_code
def yX5_count : MethodName := ⟨RX5, "count", "(I)I"⟩
abbrev cX5_isParish : ByteArray := prog_1_method_29_code
def yX5_isParish : MethodName := ⟨RX5, "isParish", "(I)Z"⟩
abbrev cX5_isMember : ByteArray := prog_1_method_30_code
def yX5_isMember : MethodName := ⟨RX5, "isMember", "(I)Z"⟩
abbrev cX5_isBill : ByteArray := prog_1_method_31_code
def yX5_isBill : MethodName := ⟨RX5, "isBill", "(I)Z"⟩
abbrev cX5_isAhead : ByteArray := prog_1_method_32_code
def yX5_isAhead : MethodName := ⟨RX5, "isAhead", "(I)Z"⟩
abbrev cX5_isYear : ByteArray := prog_1_method_33_code
def yX5_isYear : MethodName := ⟨RX5, "isYear", "(I)Z"⟩
abbrev cX5_lookAhead : ByteArray := prog_1_method_34_code
def yX5_lookAhead : MethodName := ⟨RX5, "lookAhead", "(I)V"⟩
abbrev cX5_heldAhead : ByteArray := prog_1_method_35_code
def yX5_heldAhead : MethodName := ⟨RX5, "heldAhead", "(I)I"⟩
abbrev cX5_isParty : ByteArray := prog_1_method_36_code
def yX5_isParty : MethodName := ⟨RX5, "isParty", "(II)Z"⟩
abbrev cX5_heldInYear : ByteArray := prog_1_method_37_code
def yX5_heldInYear : MethodName := ⟨RX5, "heldInYear", "(I)I"⟩
abbrev cX5_drawnMind : ByteArray := prog_1_method_38_code
def yX5_drawnMind : MethodName := ⟨RX5, "drawnMind", "(II)I"⟩
abbrev cX5_lowestOf : ByteArray := prog_1_method_39_code
def yX5_lowestOf : MethodName := ⟨RX5, "lowestOf", "(I)I"⟩
def RX6 : String := "WalkingLawModel"
def TX6 : u_T := fun k => match k with
  | 0 => ("WalkingLawModel", "length", "I", false)
  | 1 => ("WalkingLawModel", "text", "[B", true)
  | 2 => ("WalkingLawModel", "at", "I", false)
  | 3 => ("WalkingLawModel", "told", "[I", true)
  | 4 => ("WalkingLawModel", "parishes", "[I", true)
  | 5 => ("WalkingLawModel", "parish", "[I", true)
  | 6 => ("WalkingLawModel", "members", "[I", true)
  | 7 => ("WalkingLawModel", "member", "[I", true)
  | 8 => ("WalkingLawModel", "slot", "[I", true)
  | 9 => ("WalkingLawModel", "kept", "I", false)
  | 10 => ("WalkingLawModel", "lines", "I", false)
  | 11 => ("WalkingLawModel", "line", "[I", true)
  | 12 => ("WalkingLawModel", "so", "[Z", true)
  | 13 => ("WalkingLawModel", "row", "[I", true)
  | 14 => ("WalkingLawModel", "best", "[I", true)
  | 15 => ("WalkingLawModel", "joined", "I", false)
  | 16 => ("WalkingLawModel", "got", "[I", true)
  | 17 => ("WalkingLawModel", "yeses", "I", false)
  | _ => ("WalkingLawModel", "noes", "I", false)
def tyX6 : Nat → FieldType := fun k => match k with
  | 0 => .int
  | 1 => .array .byte
  | 2 => .int
  | 3 => .array .int
  | 4 => .array .int
  | 5 => .array .int
  | 6 => .array .int
  | 7 => .array .int
  | 8 => .array .int
  | 9 => .int
  | 10 => .int
  | 11 => .array .int
  | 12 => .array .boolean
  | 13 => .array .int
  | 14 => .array .int
  | 15 => .int
  | 16 => .array .int
  | 17 => .int
  | _ => .int
abbrev wsX60 : List Cond := u_ws RX6 TX6 19
theorem nmX6 : ∀ a, a < 19 → ∀ b, b < 19 → a ≠ b → (TX6 a).2.1 ≠ (TX6 b).2.1 := by decide +kernel
theorem tyX6_ok : ∀ k, k < 19 → parseFieldDescriptor (TX6 k).2.2.1 = some (tyX6 k) := by decide +kernel
abbrev cX6_init : ByteArray := prog_8_method_1_code
def yX6_init : MethodName := ⟨RX6, "<init>", "()V"⟩
abbrev cX6_in : ByteArray := prog_8_method_2_code
def yX6_in : MethodName := ⟨RX6, "in", "(JJJ)Z"⟩
abbrev cX6_write : ByteArray := prog_8_method_3_code
def yX6_write : MethodName := ⟨RX6, "write", "(IJ)I"⟩
abbrev cX6_wipe : ByteArray := prog_8_method_4_code
def yX6_wipe : MethodName := ⟨RX6, "wipe", "()I"⟩
abbrev cX6_number : ByteArray := prog_8_method_5_code
def yX6_number : MethodName := ⟨RX6, "number", "()I"⟩
abbrev cX6_isIn : ByteArray := prog_8_method_6_code
def yX6_isIn : MethodName := ⟨RX6, "isIn", "(III)Z"⟩
abbrev cX6_isItem : ByteArray := prog_8_method_7_code
def yX6_isItem : MethodName := ⟨RX6, "isItem", "()Z"⟩
abbrev cX6_isGood : ByteArray := prog_8_method_8_code
def yX6_isGood : MethodName := ⟨RX6, "isGood", "(I)Z"⟩
abbrev cX6_begins : ByteArray := prog_8_method_9_code
def yX6_begins : MethodName := ⟨RX6, "begins", "()V"⟩
abbrev cX6_takes : ByteArray := prog_8_method_10_code
def yX6_takes : MethodName := ⟨RX6, "takes", "()V"⟩
abbrev cX6_laid : ByteArray := prog_8_method_11_code
def yX6_laid : MethodName := ⟨RX6, "laid", "(I)V"⟩
abbrev cX6_fault : ByteArray := prog_8_method_12_code
def yX6_fault : MethodName := ⟨RX6, "fault", "()I"⟩
abbrev cX6_lay : ByteArray := prog_8_method_13_code
def yX6_lay : MethodName := ⟨RX6, "lay", "()I"⟩
abbrev cX6_isParish : ByteArray := prog_8_method_14_code
def yX6_isParish : MethodName := ⟨RX6, "isParish", "(I)Z"⟩
abbrev cX6_isMember : ByteArray := prog_8_method_15_code
def yX6_isMember : MethodName := ⟨RX6, "isMember", "(I)Z"⟩
abbrev cX6_isBill : ByteArray := prog_8_method_16_code
def yX6_isBill : MethodName := ⟨RX6, "isBill", "(I)Z"⟩
abbrev cX6_begin : ByteArray := prog_8_method_17_code
def yX6_begin : MethodName := ⟨RX6, "begin", "(I)I"⟩
abbrev cX6_end : ByteArray := prog_8_method_18_code
def yX6_end : MethodName := ⟨RX6, "end", "()I"⟩
abbrev cX6_parishOf : ByteArray := prog_8_method_19_code
def yX6_parishOf : MethodName := ⟨RX6, "parishOf", "(I)I"⟩
abbrev cX6_there : ByteArray := prog_8_method_20_code
def yX6_there : MethodName := ⟨RX6, "there", "(II)I"⟩
abbrev cX6_many : ByteArray := prog_8_method_21_code
def yX6_many : MethodName := ⟨RX6, "many", "(I)I"⟩
abbrev cX6_parish : ByteArray := prog_8_method_22_code
def yX6_parish : MethodName := ⟨RX6, "parish", "(II)I"⟩
abbrev cX6_member : ByteArray := prog_8_method_23_code
def yX6_member : MethodName := ⟨RX6, "member", "(II)I"⟩
abbrev cX6_pace : ByteArray := prog_8_method_24_code
def yX6_pace : MethodName := ⟨RX6, "pace", "(II)I"⟩
abbrev cX6_hour : ByteArray := prog_8_method_25_code
def yX6_hour : MethodName := ⟨RX6, "hour", "(II)V"⟩
abbrev cX6_beds : ByteArray := prog_8_method_26_code
def yX6_beds : MethodName := ⟨RX6, "beds", "(I)V"⟩
abbrev cX6_minds : ByteArray := prog_8_method_27_code
def yX6_minds : MethodName := ⟨RX6, "minds", "(I)V"⟩
abbrev cX6_hours : ByteArray := prog_8_method_28_code
def yX6_hours : MethodName := ⟨RX6, "hours", "(I)I"⟩
abbrev cX6_atEnd : ByteArray := prog_8_method_29_code
def yX6_atEnd : MethodName := ⟨RX6, "atEnd", "(I)I"⟩
abbrev cX6_passes : ByteArray := prog_8_method_30_code
def yX6_passes : MethodName := ⟨RX6, "passes", "(IIII)Z"⟩
abbrev cX6_voices : ByteArray := prog_8_method_31_code
def yX6_voices : MethodName := ⟨RX6, "voices", "(III)I"⟩
abbrev cX6_isRead : ByteArray := prog_8_method_32_code
def yX6_isRead : MethodName := ⟨RX6, "isRead", "(II)Z"⟩
abbrev cX6_isHeld : ByteArray := prog_8_method_33_code
def yX6_isHeld : MethodName := ⟨RX6, "isHeld", "(II)Z"⟩
abbrev cX6_read : ByteArray := prog_8_method_34_code
def yX6_read : MethodName := ⟨RX6, "read", "(I)I"⟩
abbrev cX6_bill : ByteArray := prog_8_method_35_code
def yX6_bill : MethodName := ⟨RX6, "bill", "(II)I"⟩
abbrev cX6_copies : ByteArray := prog_8_method_36_code
def yX6_copies : MethodName := ⟨RX6, "copies", "(II)V"⟩
abbrev cX6_tries : ByteArray := prog_8_method_37_code
def yX6_tries : MethodName := ⟨RX6, "tries", "(I)V"⟩
abbrev cX6_isAhead : ByteArray := prog_8_method_38_code
def yX6_isAhead : MethodName := ⟨RX6, "isAhead", "(I)Z"⟩
abbrev cX6_mile : ByteArray := prog_8_method_39_code
def yX6_mile : MethodName := ⟨RX6, "mile", "(II)I"⟩
abbrev cX6_who : ByteArray := prog_8_method_40_code
def yX6_who : MethodName := ⟨RX6, "who", "(II)I"⟩
abbrev cX6_arrives : ByteArray := prog_8_method_41_code
def yX6_arrives : MethodName := ⟨RX6, "arrives", "()I"⟩
abbrev cX6_would : ByteArray := prog_8_method_42_code
def yX6_would : MethodName := ⟨RX6, "would", "(I)I"⟩
abbrev cX6_holds : ByteArray := prog_8_method_43_code
def yX6_holds : MethodName := ⟨RX6, "holds", "()I"⟩
abbrev cX6_order : ByteArray := prog_8_method_44_code
def yX6_order : MethodName := ⟨RX6, "order", "(I)I"⟩
abbrev cX6_held : ByteArray := prog_8_method_45_code
def yX6_held : MethodName := ⟨RX6, "held", "(I)I"⟩
abbrev cX6_readAll : ByteArray := prog_8_method_46_code
def yX6_readAll : MethodName := ⟨RX6, "readAll", "()I"⟩
abbrev cX6_back : ByteArray := prog_8_method_47_code
def yX6_back : MethodName := ⟨RX6, "back", "(I)I"⟩
abbrev cX6_paces : ByteArray := prog_8_method_48_code
def yX6_paces : MethodName := ⟨RX6, "paces", "(I)I"⟩
abbrev cX6_isParty : ByteArray := prog_8_method_49_code
def yX6_isParty : MethodName := ⟨RX6, "isParty", "(II)Z"⟩
abbrev cX6_parties : ByteArray := prog_8_method_50_code
def yX6_parties : MethodName := ⟨RX6, "parties", "(II)I"⟩
abbrev cX6_join : ByteArray := prog_8_method_51_code
def yX6_join : MethodName := ⟨RX6, "join", "(II)I"⟩
abbrev cX6_diary : ByteArray := prog_8_method_52_code
def yX6_diary : MethodName := ⟨RX6, "diary", "(III)I"⟩
abbrev cX6_noDiary : ByteArray := prog_8_method_53_code
def yX6_noDiary : MethodName := ⟨RX6, "noDiary", "()I"⟩
abbrev cX6_goes : ByteArray := prog_8_method_54_code
def yX6_goes : MethodName := ⟨RX6, "goes", "()V"⟩
abbrev cX6_wrong : ByteArray := prog_8_method_55_code
def yX6_wrong : MethodName := ⟨RX6, "wrong", "()I"⟩
abbrev cX6_right : ByteArray := prog_8_method_56_code
def yX6_right : MethodName := ⟨RX6, "right", "(I)I"⟩
abbrev cX6_late : ByteArray := prog_8_method_57_code
def yX6_late : MethodName := ⟨RX6, "late", "()I"⟩
abbrev cX6_yearOf : ByteArray := prog_8_method_58_code
def yX6_yearOf : MethodName := ⟨RX6, "yearOf", "(I)I"⟩
abbrev cX6_isSeed : ByteArray := prog_8_method_59_code
def yX6_isSeed : MethodName := ⟨RX6, "isSeed", "(I)Z"⟩
abbrev cX6_year : ByteArray := prog_8_method_60_code
def yX6_year : MethodName := ⟨RX6, "year", "(I)I"⟩
abbrev cX6_ten : ByteArray := prog_8_method_61_code
def yX6_ten : MethodName := ⟨RX6, "ten", "(II)I"⟩
abbrev cX6_keep : ByteArray := prog_8_method_62_code
def yX6_keep : MethodName := ⟨RX6, "keep", "()I"⟩
abbrev cX6_again : ByteArray := prog_8_method_63_code
def yX6_again : MethodName := ⟨RX6, "again", "()I"⟩
abbrev cX6_count : ByteArray := prog_8_method_64_code
def yX6_count : MethodName := ⟨RX6, "count", "(I)I"⟩
def RJ6 : String := "java/lang/Integer"
def TJ6 : u_T := fun k => match k with
  | _ => ("", "", "", false)
def tyJ6 : Nat → FieldType := fun k => match k with
  | _ => .int
abbrev wsJ60 : List Cond := u_ws RJ6 TJ6 0
theorem nmJ6 : ∀ a, a < 0 → ∀ b, b < 0 → a ≠ b → (TJ6 a).2.1 ≠ (TJ6 b).2.1 := by decide +kernel
theorem tyJ6_ok : ∀ k, k < 0 → parseFieldDescriptor (TJ6 k).2.2.1 = some (tyJ6 k) := by decide +kernel
abbrev cJ6_bitCount_0f7a4 : ByteArray := prog_9_method_49_code
def yJ6_bitCount_0f7a4 : MethodName := ⟨RJ6, "bitCount", "(I)I"⟩
def RJ9 : String := "java/lang/Math"
def TJ9 : u_T := fun k => match k with
  | _ => ("", "", "", false)
def tyJ9 : Nat → FieldType := fun k => match k with
  | _ => .int
abbrev wsJ90 : List Cond := u_ws RJ9 TJ9 0
theorem nmJ9 : ∀ a, a < 0 → ∀ b, b < 0 → a ≠ b → (TJ9 a).2.1 ≠ (TJ9 b).2.1 := by decide +kernel
theorem tyJ9_ok : ∀ k, k < 0 → parseFieldDescriptor (TJ9 k).2.2.1 = some (tyJ9 k) := by decide +kernel
abbrev cJ9_max_7cf53 : ByteArray := prog_10_method_65_code
def yJ9_max_7cf53 : MethodName := ⟨RJ9, "max", "(II)I"⟩
abbrev cJ9_min_7cf53 : ByteArray := prog_10_method_69_code
def yJ9_min_7cf53 : MethodName := ⟨RJ9, "min", "(II)I"⟩
def RL : String := "WalkingLawLaw"
abbrev cL_law : ByteArray := code
def yL_law : MethodName := ⟨RL, "law", "([I)Z"⟩

def xgd (w : Cond) : Bool := w.onTables && w.keeps
def xbig : List Cond := lw_tbl.filter xgd
def xnst : List Cond := [.fieldLinkNest "WalkingLaw" 71 "WalkingLaw$Text" "length" "I" "WalkingLaw",
  .fieldLinkNest "WalkingLaw$Rows" 39 "WalkingLaw$Road" "parishes" "I" "WalkingLaw",
  .fieldLinkNest "WalkingLaw" 78 "WalkingLaw$Road" "parishes" "I" "WalkingLaw",
  .fieldLinkNest "WalkingLaw$Walk" 55 "WalkingLaw$Road" "parishes" "I" "WalkingLaw",
  .fieldLinkNest "WalkingLaw" 94 "WalkingLaw$Road" "lengths" "[I" "WalkingLaw",
  .fieldLinkNest "WalkingLaw" 98 "WalkingLaw$Road" "muddy" "[I" "WalkingLaw",
  .fieldLinkNest "WalkingLaw" 101 "WalkingLaw$Road" "beds" "[I" "WalkingLaw",
  .fieldLinkNest "WalkingLaw$Walk" 88 "WalkingLaw$Road" "beds" "[I" "WalkingLaw",
  .fieldLinkNest "WalkingLaw$Walk" 52 "WalkingLaw$Road" "firstMiles" "[I" "WalkingLaw",
  .fieldLinkNest "WalkingLaw$Walk" 58 "WalkingLaw$Road" "end" "I" "WalkingLaw",
  .fieldLinkNest "WalkingLaw" 217 "WalkingLaw$Road" "end" "I" "WalkingLaw",
  .fieldLinkNest "WalkingLaw$Walk" 36 "WalkingLaw$Road" "members" "I" "WalkingLaw",
  .fieldLinkNest "WalkingLaw" 81 "WalkingLaw$Road" "members" "I" "WalkingLaw",
  .fieldLinkNest "WalkingLaw" 111 "WalkingLaw$Road" "kinds" "[I" "WalkingLaw",
  .fieldLinkNest "WalkingLaw" 114 "WalkingLaw$Road" "paces" "[I" "WalkingLaw",
  .fieldLinkNest "WalkingLaw$Walk" 41 "WalkingLaw$Road" "minds" "[I" "WalkingLaw",
  .fieldLinkNest "WalkingLaw$Walk" 115 "WalkingLaw$Road" "ofKind" "[I" "WalkingLaw",
  .fieldLinkNest "WalkingLaw$Walk" 108 "WalkingLaw$Road" "quorum" "I" "WalkingLaw",
  .fieldLinkNest "WalkingLaw" 220 "WalkingLaw$Road" "quorum" "I" "WalkingLaw",
  .fieldLinkNest "WalkingLaw$Rows" 33 "WalkingLaw$Road" "bills" "I" "WalkingLaw",
  .fieldLinkNest "WalkingLaw$Walk" 91 "WalkingLaw$Road" "bills" "I" "WalkingLaw",
  .fieldLinkNest "WalkingLaw" 214 "WalkingLaw$Road" "bills" "I" "WalkingLaw",
  .fieldLinkNest "WalkingLaw$Rows" 27 "WalkingLaw$Walk" "road" "LWalkingLaw$Road;" "WalkingLaw",
  .fieldLinkNest "WalkingLaw" 120 "WalkingLaw$Walk" "miles" "[I" "WalkingLaw",
  .fieldLinkNest "WalkingLaw$Rows" 53 "WalkingLaw$Walk" "passed" "[I" "WalkingLaw",
  .fieldLinkNest "WalkingLaw" 153 "WalkingLaw$Walk" "passed" "[I" "WalkingLaw",
  .fieldLinkNest "WalkingLaw" 159 "WalkingLaw$Walk" "made" "[I" "WalkingLaw",
  .fieldLinkNest "WalkingLaw" 126 "WalkingLaw$Walk" "hour" "I" "WalkingLaw",
  .fieldLinkNest "WalkingLaw" 87 "WalkingLaw$Diary" "lines" "I" "WalkingLaw",
  .fieldLinkNest "WalkingLaw" 178 "WalkingLaw$Rows" "best" "[I" "WalkingLaw",
  .fieldLinkNest "WalkingLaw" 175 "WalkingLaw$Rows" "most" "I" "WalkingLaw",
  .methodLinkNest "WalkingLaw" 9 ⟨"WalkingLaw$Text", "<init>", "()V"⟩ "WalkingLaw",
  .methodLinkNest "WalkingLaw" 55 ⟨"WalkingLaw$Diary", "<init>", "()V"⟩ "WalkingLaw",
  .methodLinkNest "WalkingLaw" 62 ⟨"WalkingLaw$Rows", "<init>", "()V"⟩ "WalkingLaw",
  .methodLinkNest "WalkingLaw$Walk" 97 ⟨"WalkingLaw", "lowestOf", "(I)I"⟩ "WalkingLaw"]
theorem xnst_ok : xnst.all (fun w => w.onTables) = true := by decide +kernel
theorem xnst_tbl : ∀ w ∈ xnst, w ∈ lw_tbl := by decide +kernel
theorem xb_m {w : Cond} (n : Nat) (h : lw_tbl[n]? = some w) (g : xgd w = true) : w ∈ xbig := List.mem_filter.mpr ⟨List.mem_of_getElem? h, g⟩
end
section
set_option maxRecDepth 100000 in
theorem xb_0 : Cond.code yX0_init cX0_init 1 none ∈ xbig := xb_m 215 rfl rfl
theorem xb_1 : Cond.methodLink RX0 3 objectInit ∈ xbig := xb_m 216 (by decide +kernel) rfl
theorem xb_2 : Cond.instanceMethod objectInit ∈ xbig := xb_m 71 (by decide +kernel) rfl
set_option maxRecDepth 100000 in
theorem xb_3 : Cond.code objectInit ⟨#[0xb1]⟩ 1 none ∈ xbig := xb_m 72 rfl rfl
theorem xb_4 : Cond.fieldLink RX0 9 "WalkingLaw$Diary" "members" "[I" ∈ xbig := xb_m 217 (by decide +kernel) rfl
theorem xb_5 : Cond.fieldLink RX0 15 "WalkingLaw$Diary" "parishes" "[I" ∈ xbig := xb_m 218 (by decide +kernel) rfl
theorem xb_6 : Cond.fieldLink RX0 18 "WalkingLaw$Diary" "hoursGone" "[I" ∈ xbig := xb_m 219 (by decide +kernel) rfl
theorem xb_7 : Cond.fieldLink RX0 21 "WalkingLaw$Diary" "fitting" "[I" ∈ xbig := xb_m 222 (by decide +kernel) rfl
set_option maxRecDepth 100000 in
theorem xb_8 : Cond.code yX0_append cX0_append 4 (some .boolean) ∈ xbig := xb_m 573 rfl rfl
theorem xb_9 : Cond.fieldLink RX0 24 "WalkingLaw$Diary" "lines" "I" ∈ xbig := xb_m 220 (by decide +kernel) rfl
set_option maxRecDepth 100000 in
theorem xb_10 : Cond.code yX1_parishAt cX1_parishAt 3 (some .int) ∈ xbig := xb_m 375 rfl rfl
theorem xb_11 : Cond.fieldLink RX1 39 "WalkingLaw$Road" "parishes" "I" ∈ xbig := xb_m 102 (by decide +kernel) rfl
theorem xb_12 : Cond.fieldLink RX1 21 "WalkingLaw$Road" "firstMiles" "[I" ∈ xbig := xb_m 113 (by decide +kernel) rfl
set_option maxRecDepth 100000 in
theorem xb_13 : Cond.code yX4_parishOf cX4_parishOf 2 (some .int) ∈ xbig := xb_m 371 rfl rfl
theorem xb_14 : Cond.fieldLink RX4 28 "WalkingLaw$Walk" "road" "LWalkingLaw$Road;" ∈ xbig := xb_m 185 (by decide +kernel) rfl
theorem xb_15 : Cond.fieldLink RX4 9 "WalkingLaw$Walk" "miles" "[I" ∈ xbig := xb_m 187 (by decide +kernel) rfl
theorem xb_16 : Cond.methodLink RX4 48 yX1_parishAt ∈ xbig := xb_m 372 (by decide +kernel) rfl
theorem xb_17 : Cond.instanceMethod yX1_parishAt ∈ xbig := xb_m 373 (by decide +kernel) rfl
theorem xb_18 : Cond.selects RX1 yX1_parishAt yX1_parishAt ∈ xbig := xb_m 374 (by decide +kernel) rfl
theorem xb_19 : Cond.initialized RX1 ∈ xbig := xb_m 58 (by decide +kernel) rfl
set_option maxRecDepth 100000 in
theorem xb_20 : Cond.code yX0_isSo cX0_isSo 3 (some .boolean) ∈ xbig := xb_m 589 rfl rfl
theorem xb_21 : Cond.methodLink RX0 46 yX4_parishOf ∈ xbig := xb_m 590 (by decide +kernel) rfl
theorem xb_22 : Cond.instanceMethod yX4_parishOf ∈ xbig := xb_m 369 (by decide +kernel) rfl
theorem xb_23 : Cond.selects RX4 yX4_parishOf yX4_parishOf ∈ xbig := xb_m 370 (by decide +kernel) rfl
theorem xb_24 : Cond.initialized RX4 ∈ xbig := xb_m 59 (by decide +kernel) rfl
set_option maxRecDepth 100000 in
theorem xb_25 : Cond.code yX1_strideFrom cX1_strideFrom 3 (some .int) ∈ xbig := xb_m 391 rfl rfl
theorem xb_26 : Cond.fieldLink RX1 24 "WalkingLaw$Road" "kinds" "[I" ∈ xbig := xb_m 121 (by decide +kernel) rfl
theorem xb_27 : Cond.fieldLink RX1 15 "WalkingLaw$Road" "muddy" "[I" ∈ xbig := xb_m 108 (by decide +kernel) rfl
theorem xb_28 : Cond.fieldLink RX1 27 "WalkingLaw$Road" "paces" "[I" ∈ xbig := xb_m 123 (by decide +kernel) rfl
theorem xb_29 : Cond.methodLink RX1 55 yX1_parishAt ∈ xbig := xb_m 392 (by decide +kernel) rfl
set_option maxRecDepth 100000 in
theorem xb_30 : Cond.code yX4_thoseIn cX4_thoseIn 6 (some .int) ∈ xbig := xb_m 355 rfl rfl
set_option maxRecDepth 100000 in
theorem xb_31 : Cond.code yJ6_bitCount_0f7a4 cJ6_bitCount_0f7a4 1 (some .int) ∈ xbig := xb_m 403 rfl rfl
theorem xb_32 : Cond.constant RJ6 265 (1431655765) ∈ xbig := xb_m 404 (by decide +kernel) rfl
theorem xb_33 : Cond.constant RJ6 266 (858993459) ∈ xbig := xb_m 405 (by decide +kernel) rfl
theorem xb_34 : Cond.constant RJ6 267 (252645135) ∈ xbig := xb_m 406 (by decide +kernel) rfl
set_option maxRecDepth 100000 in
theorem xb_35 : Cond.code yX4_clearInns cX4_clearInns 5 none ∈ xbig := xb_m 399 rfl rfl
theorem xb_36 : Cond.methodLink RX4 80 yX4_thoseIn ∈ xbig := xb_m 400 (by decide +kernel) rfl
theorem xb_37 : Cond.instanceMethod yX4_thoseIn ∈ xbig := xb_m 353 (by decide +kernel) rfl
theorem xb_38 : Cond.selects RX4 yX4_thoseIn yX4_thoseIn ∈ xbig := xb_m 354 (by decide +kernel) rfl
theorem xb_39 : Cond.methodLink RX4 83 yJ6_bitCount_0f7a4 ∈ xbig := xb_m 401 (by decide +kernel) rfl
theorem xb_40 : Cond.static yJ6_bitCount_0f7a4 ∈ xbig := xb_m 402 (by decide +kernel) rfl
theorem xb_41 : Cond.initialized RJ6 ∈ xbig := xb_m 64 (by decide +kernel) rfl
set_option maxRecDepth 100000 in
theorem xb_42 : Cond.code yX5_lowestOf cX5_lowestOf 1 (some .int) ∈ xbig := xb_m 416 rfl rfl
set_option maxRecDepth 100000 in
theorem xb_43 : Cond.code yX4_swayed cX4_swayed 5 (some .int) ∈ xbig := xb_m 413 rfl rfl
theorem xb_44 : Cond.static yX5_lowestOf ∈ xbig := xb_m 415 (by decide +kernel) rfl
theorem xb_45 : Cond.initialized RX5 ∈ xbig := xb_m 56 (by decide +kernel) rfl
set_option maxRecDepth 100000 in
theorem xb_46 : Cond.code yX4_changeMinds cX4_changeMinds 4 none ∈ xbig := xb_m 410 rfl rfl
theorem xb_47 : Cond.fieldLink RX4 15 "WalkingLaw$Walk" "backers" "[I" ∈ xbig := xb_m 189 (by decide +kernel) rfl
theorem xb_48 : Cond.methodLink RX4 94 yX4_swayed ∈ xbig := xb_m 411 (by decide +kernel) rfl
theorem xb_49 : Cond.static yX4_swayed ∈ xbig := xb_m 412 (by decide +kernel) rfl
theorem xb_50 : Cond.methodLink RX4 69 Lib.Math.min.name ∈ xbig := xb_m 393 (by decide +kernel) rfl
theorem xb_51 : Cond.static Lib.Math.min.name ∈ xbig := xb_m 394 (by decide +kernel) rfl
theorem xb_52 : Cond.initialized "java/lang/Math" ∈ xbig := xb_m 63 (by decide +kernel) rfl
set_option maxRecDepth 100000 in
theorem xb_53 : Cond.code Lib.Math.min.name Lib.Math.min.code 2 (some .int) ∈ xbig := xb_m 395 rfl rfl
theorem xb_54 : Cond.fieldLink RX4 32 "WalkingLaw$Walk" "hour" "I" ∈ xbig := xb_m 195 (by decide +kernel) rfl
theorem xb_55 : Cond.methodLink RX4 65 yX1_strideFrom ∈ xbig := xb_m 388 (by decide +kernel) rfl
theorem xb_56 : Cond.instanceMethod yX1_strideFrom ∈ xbig := xb_m 389 (by decide +kernel) rfl
theorem xb_57 : Cond.selects RX1 yX1_strideFrom yX1_strideFrom ∈ xbig := xb_m 390 (by decide +kernel) rfl
theorem xb_58 : Cond.methodLink RX4 74 yX4_clearInns ∈ xbig := xb_m 396 (by decide +kernel) rfl
theorem xb_59 : Cond.instanceMethod yX4_clearInns ∈ xbig := xb_m 398 (by decide +kernel) rfl
theorem xb_60 : Cond.selects RX4 yX4_clearInns yX4_clearInns ∈ xbig := xb_m 7 (by decide +kernel) rfl
theorem xb_61 : Cond.methodLink RX4 77 yX4_changeMinds ∈ xbig := xb_m 407 (by decide +kernel) rfl
theorem xb_62 : Cond.instanceMethod yX4_changeMinds ∈ xbig := xb_m 409 (by decide +kernel) rfl
theorem xb_63 : Cond.selects RX4 yX4_changeMinds yX4_changeMinds ∈ xbig := xb_m 8 (by decide +kernel) rfl
set_option maxRecDepth 100000 in
theorem xb_64 : Cond.code yX4_goHour cX4_goHour 3 none ∈ xbig := xb_m 387 rfl rfl
theorem xb_65 : Cond.methodLink RX0 28 yX0_isSo ∈ xbig := xb_m 586 (by decide +kernel) rfl
theorem xb_66 : Cond.instanceMethod yX0_isSo ∈ xbig := xb_m 588 (by decide +kernel) rfl
theorem xb_67 : Cond.selects RX0 yX0_isSo yX0_isSo ∈ xbig := xb_m 19 (by decide +kernel) rfl
theorem xb_68 : Cond.initialized RX0 ∈ xbig := xb_m 60 (by decide +kernel) rfl
theorem xb_69 : Cond.methodLink RX0 32 yX4_goHour ∈ xbig := xb_m 591 (by decide +kernel) rfl
theorem xb_70 : Cond.instanceMethod yX4_goHour ∈ xbig := xb_m 385 (by decide +kernel) rfl
theorem xb_71 : Cond.selects RX4 yX4_goHour yX4_goHour ∈ xbig := xb_m 386 (by decide +kernel) rfl
set_option maxRecDepth 100000 in
theorem xb_72 : Cond.code yX0_falseLines cX0_falseLines 5 (some .int) ∈ xbig := xb_m 585 rfl rfl
set_option maxRecDepth 100000 in
theorem xb_73 : Cond.code yX0_noteFitting cX0_noteFitting 6 none ∈ xbig := xb_m 603 rfl rfl
theorem xb_74 : Cond.methodLink RX0 50 Lib.Math.max.name ∈ xbig := xb_m 604 (by decide +kernel) rfl
theorem xb_75 : Cond.static Lib.Math.max.name ∈ xbig := xb_m 605 (by decide +kernel) rfl
set_option maxRecDepth 100000 in
theorem xb_76 : Cond.code Lib.Math.max.name Lib.Math.max.code 2 (some .int) ∈ xbig := xb_m 606 rfl rfl
theorem xb_77 : Cond.methodLink RX0 56 Lib.Math.min.name ∈ xbig := xb_m 607 (by decide +kernel) rfl
set_option maxRecDepth 100000 in
theorem xb_78 : Cond.code yX0_mostFitting cX0_mostFitting 3 (some .int) ∈ xbig := xb_m 611 rfl rfl
theorem xb_79 : Cond.methodLink RX0 38 yX0_noteFitting ∈ xbig := xb_m 600 (by decide +kernel) rfl
theorem xb_80 : Cond.instanceMethod yX0_noteFitting ∈ xbig := xb_m 602 (by decide +kernel) rfl
theorem xb_81 : Cond.selects RX0 yX0_noteFitting yX0_noteFitting ∈ xbig := xb_m 20 (by decide +kernel) rfl
theorem xb_82 : Cond.methodLink RX0 42 yX0_mostFitting ∈ xbig := xb_m 608 (by decide +kernel) rfl
theorem xb_83 : Cond.instanceMethod yX0_mostFitting ∈ xbig := xb_m 610 (by decide +kernel) rfl
theorem xb_84 : Cond.selects RX0 yX0_mostFitting yX0_mostFitting ∈ xbig := xb_m 21 (by decide +kernel) rfl
set_option maxRecDepth 100000 in
theorem xb_85 : Cond.code yX0_bestDelay cX0_bestDelay 4 (some .int) ∈ xbig := xb_m 599 rfl rfl
set_option maxRecDepth 100000 in
theorem xb_86 : Cond.code yX1_clear cX1_clear 2 none ∈ xbig := xb_m 101 rfl rfl
theorem xb_87 : Cond.fieldLink RX1 43 "WalkingLaw$Road" "end" "I" ∈ xbig := xb_m 115 (by decide +kernel) rfl
theorem xb_88 : Cond.fieldLink RX1 46 "WalkingLaw$Road" "members" "I" ∈ xbig := xb_m 118 (by decide +kernel) rfl
theorem xb_89 : Cond.fieldLink RX1 33 "WalkingLaw$Road" "ofKind" "[I" ∈ xbig := xb_m 127 (by decide +kernel) rfl
theorem xb_90 : Cond.fieldLink RX1 49 "WalkingLaw$Road" "quorum" "I" ∈ xbig := xb_m 129 (by decide +kernel) rfl
theorem xb_91 : Cond.fieldLink RX1 52 "WalkingLaw$Road" "bills" "I" ∈ xbig := xb_m 133 (by decide +kernel) rfl
set_option maxRecDepth 100000 in
theorem xb_92 : Cond.code yX1_init cX1_init 1 none ∈ xbig := xb_m 96 rfl rfl
theorem xb_93 : Cond.methodLink RX1 3 objectInit ∈ xbig := xb_m 97 (by decide +kernel) rfl
theorem xb_94 : Cond.fieldLink RX1 9 "WalkingLaw$Road" "lengths" "[I" ∈ xbig := xb_m 106 (by decide +kernel) rfl
theorem xb_95 : Cond.fieldLink RX1 18 "WalkingLaw$Road" "beds" "[I" ∈ xbig := xb_m 110 (by decide +kernel) rfl
theorem xb_96 : Cond.fieldLink RX1 30 "WalkingLaw$Road" "minds" "[I" ∈ xbig := xb_m 125 (by decide +kernel) rfl
theorem xb_97 : Cond.methodLink RX1 36 yX1_clear ∈ xbig := xb_m 98 (by decide +kernel) rfl
theorem xb_98 : Cond.instanceMethod yX1_clear ∈ xbig := xb_m 99 (by decide +kernel) rfl
theorem xb_99 : Cond.selects RX1 yX1_clear yX1_clear ∈ xbig := xb_m 100 (by decide +kernel) rfl
set_option maxRecDepth 100000 in
theorem xb_100 : Cond.code yX1_addParish cX1_addParish 4 (some .boolean) ∈ xbig := xb_m 166 rfl rfl
set_option maxRecDepth 100000 in
theorem xb_101 : Cond.code yX1_addMember cX1_addMember 4 (some .boolean) ∈ xbig := xb_m 170 rfl rfl
set_option maxRecDepth 100000 in
theorem xb_102 : Cond.code yX1_setQuorum cX1_setQuorum 2 (some .boolean) ∈ xbig := xb_m 334 rfl rfl
set_option maxRecDepth 100000 in
theorem xb_103 : Cond.code yX1_setBills cX1_setBills 2 (some .boolean) ∈ xbig := xb_m 338 rfl rfl
set_option maxRecDepth 100000 in
theorem xb_104 : Cond.code yX1_outspoken cX1_outspoken 1 (some .int) ∈ xbig := xb_m 440 rfl rfl
set_option maxRecDepth 100000 in
theorem xb_105 : Cond.code yX1_paceOf cX1_paceOf 4 (some .int) ∈ xbig := xb_m 552 rfl rfl
set_option maxRecDepth 100000 in
theorem xb_106 : Cond.code yX1_slowestOf cX1_slowestOf 4 (some .int) ∈ xbig := xb_m 560 rfl rfl
theorem xb_107 : Cond.methodLink RX1 59 Lib.Math.min.name ∈ xbig := xb_m 561 (by decide +kernel) rfl
set_option maxRecDepth 100000 in
theorem xb_108 : Cond.code yX2_init cX2_init 1 none ∈ xbig := xb_m 238 rfl rfl
theorem xb_109 : Cond.methodLink RX2 3 objectInit ∈ xbig := xb_m 239 (by decide +kernel) rfl
theorem xb_110 : Cond.classLink RX2 9 "[[I" ∈ xbig := xb_m 240 (by decide +kernel) rfl
theorem xb_111 : Cond.fieldLink RX2 11 "WalkingLaw$Rows" "passing" "[[I" ∈ xbig := xb_m 242 (by decide +kernel) rfl
theorem xb_112 : Cond.fieldLink RX2 16 "WalkingLaw$Rows" "row" "[I" ∈ xbig := xb_m 243 (by decide +kernel) rfl
theorem xb_113 : Cond.fieldLink RX2 20 "WalkingLaw$Rows" "best" "[I" ∈ xbig := xb_m 244 (by decide +kernel) rfl
set_option maxRecDepth 100000 in
theorem xb_114 : Cond.code yX4_yesOf cX4_yesOf 7 (some .int) ∈ xbig := xb_m 436 rfl rfl
theorem xb_115 : Cond.methodLink RX4 111 yX1_outspoken ∈ xbig := xb_m 437 (by decide +kernel) rfl
theorem xb_116 : Cond.instanceMethod yX1_outspoken ∈ xbig := xb_m 438 (by decide +kernel) rfl
theorem xb_117 : Cond.selects RX1 yX1_outspoken yX1_outspoken ∈ xbig := xb_m 439 (by decide +kernel) rfl
set_option maxRecDepth 100000 in
theorem xb_118 : Cond.code yX4_noOf cX4_noOf 6 (some .int) ∈ xbig := xb_m 448 rfl rfl
theorem xb_119 : Cond.methodLink RX4 100 yX4_yesOf ∈ xbig := xb_m 433 (by decide +kernel) rfl
theorem xb_120 : Cond.instanceMethod yX4_yesOf ∈ xbig := xb_m 435 (by decide +kernel) rfl
theorem xb_121 : Cond.selects RX4 yX4_yesOf yX4_yesOf ∈ xbig := xb_m 10 (by decide +kernel) rfl
theorem xb_122 : Cond.methodLink RX4 104 yX4_noOf ∈ xbig := xb_m 445 (by decide +kernel) rfl
theorem xb_123 : Cond.instanceMethod yX4_noOf ∈ xbig := xb_m 447 (by decide +kernel) rfl
theorem xb_124 : Cond.selects RX4 yX4_noOf yX4_noOf ∈ xbig := xb_m 11 (by decide +kernel) rfl
set_option maxRecDepth 100000 in
theorem xb_125 : Cond.code yX4_passesIn cX4_passesIn 5 (some .boolean) ∈ xbig := xb_m 452 rfl rfl
theorem xb_126 : Cond.methodLink RX2 64 yX4_parishOf ∈ xbig := xb_m 515 (by decide +kernel) rfl
theorem xb_127 : Cond.methodLink RX2 68 yX4_passesIn ∈ xbig := xb_m 516 (by decide +kernel) rfl
theorem xb_128 : Cond.instanceMethod yX4_passesIn ∈ xbig := xb_m 450 (by decide +kernel) rfl
theorem xb_129 : Cond.selects RX4 yX4_passesIn yX4_passesIn ∈ xbig := xb_m 451 (by decide +kernel) rfl
set_option maxRecDepth 100000 in
theorem xb_130 : Cond.code yX2_notePassing cX2_notePassing 5 none ∈ xbig := xb_m 514 rfl rfl
theorem xb_131 : Cond.methodLink RX2 56 yX2_notePassing ∈ xbig := xb_m 511 (by decide +kernel) rfl
theorem xb_132 : Cond.instanceMethod yX2_notePassing ∈ xbig := xb_m 513 (by decide +kernel) rfl
theorem xb_133 : Cond.selects RX2 yX2_notePassing yX2_notePassing ∈ xbig := xb_m 14 (by decide +kernel) rfl
theorem xb_134 : Cond.initialized RX2 ∈ xbig := xb_m 61 (by decide +kernel) rfl
theorem xb_135 : Cond.methodLink RX2 60 yX4_goHour ∈ xbig := xb_m 517 (by decide +kernel) rfl
set_option maxRecDepth 100000 in
theorem xb_136 : Cond.code yX2_findPassing cX2_findPassing 5 none ∈ xbig := xb_m 510 rfl rfl
set_option maxRecDepth 100000 in
theorem xb_137 : Cond.code yX2_setRow cX2_setRow 5 (some .boolean) ∈ xbig := xb_m 521 rfl rfl
set_option maxRecDepth 100000 in
theorem xb_138 : Cond.code yX2_compare cX2_compare 5 none ∈ xbig := xb_m 525 rfl rfl
theorem xb_139 : Cond.fieldLink RX2 42 "WalkingLaw$Rows" "most" "I" ∈ xbig := xb_m 246 (by decide +kernel) rfl
theorem xb_140 : Cond.methodLink RX2 23 yX2_findPassing ∈ xbig := xb_m 507 (by decide +kernel) rfl
theorem xb_141 : Cond.instanceMethod yX2_findPassing ∈ xbig := xb_m 509 (by decide +kernel) rfl
theorem xb_142 : Cond.selects RX2 yX2_findPassing yX2_findPassing ∈ xbig := xb_m 13 (by decide +kernel) rfl
theorem xb_143 : Cond.methodLink RX2 45 yX2_setRow ∈ xbig := xb_m 518 (by decide +kernel) rfl
theorem xb_144 : Cond.instanceMethod yX2_setRow ∈ xbig := xb_m 520 (by decide +kernel) rfl
theorem xb_145 : Cond.selects RX2 yX2_setRow yX2_setRow ∈ xbig := xb_m 15 (by decide +kernel) rfl
theorem xb_146 : Cond.methodLink RX2 49 yX2_compare ∈ xbig := xb_m 522 (by decide +kernel) rfl
theorem xb_147 : Cond.instanceMethod yX2_compare ∈ xbig := xb_m 524 (by decide +kernel) rfl
theorem xb_148 : Cond.selects RX2 yX2_compare yX2_compare ∈ xbig := xb_m 16 (by decide +kernel) rfl
set_option maxRecDepth 100000 in
theorem xb_149 : Cond.code yX2_weigh cX2_weigh 5 none ∈ xbig := xb_m 506 rfl rfl
set_option maxRecDepth 100000 in
theorem xb_150 : Cond.code yX3_init cX3_init 1 none ∈ xbig := xb_m 77 rfl rfl
theorem xb_151 : Cond.methodLink RX3 3 objectInit ∈ xbig := xb_m 78 (by decide +kernel) rfl
theorem xb_152 : Cond.fieldLink RX3 9 "WalkingLaw$Text" "bytes" "[B" ∈ xbig := xb_m 79 (by decide +kernel) rfl
theorem xb_153 : Cond.fieldLink RX3 15 "WalkingLaw$Text" "numbers" "[I" ∈ xbig := xb_m 80 (by decide +kernel) rfl
set_option maxRecDepth 100000 in
theorem xb_154 : Cond.code yX3_append cX3_append 5 (some .boolean) ∈ xbig := xb_m 292 rfl rfl
theorem xb_155 : Cond.fieldLink RX3 19 "WalkingLaw$Text" "length" "I" ∈ xbig := xb_m 81 (by decide +kernel) rfl
set_option maxRecDepth 100000 in
theorem xb_156 : Cond.code yX3_byteAt cX3_byteAt 2 (some .int) ∈ xbig := xb_m 313 rfl rfl
set_option maxRecDepth 100000 in
theorem xb_157 : Cond.code yX3_numbersBehind cX3_numbersBehind 1 (some .int) ∈ xbig := xb_m 316 rfl rfl
set_option maxRecDepth 100000 in
theorem xb_158 : Cond.code yX3_isFigure cX3_isFigure 3 (some .boolean) ∈ xbig := xb_m 324 rfl rfl
theorem xb_159 : Cond.methodLink RX3 32 yX3_byteAt ∈ xbig := xb_m 310 (by decide +kernel) rfl
theorem xb_160 : Cond.instanceMethod yX3_byteAt ∈ xbig := xb_m 312 (by decide +kernel) rfl
theorem xb_161 : Cond.selects RX3 yX3_byteAt yX3_byteAt ∈ xbig := xb_m 1 (by decide +kernel) rfl
theorem xb_162 : Cond.initialized RX3 ∈ xbig := xb_m 57 (by decide +kernel) rfl
set_option maxRecDepth 100000 in
theorem xb_163 : Cond.code yX3_takeNumber cX3_takeNumber 6 (some .int) ∈ xbig := xb_m 320 rfl rfl
theorem xb_164 : Cond.methodLink RX3 47 yX3_isFigure ∈ xbig := xb_m 321 (by decide +kernel) rfl
theorem xb_165 : Cond.instanceMethod yX3_isFigure ∈ xbig := xb_m 323 (by decide +kernel) rfl
theorem xb_166 : Cond.selects RX3 yX3_isFigure yX3_isFigure ∈ xbig := xb_m 3 (by decide +kernel) rfl
theorem xb_167 : Cond.methodLink RX3 51 yX1_addParish ∈ xbig := xb_m 329 (by decide +kernel) rfl
theorem xb_168 : Cond.instanceMethod yX1_addParish ∈ xbig := xb_m 164 (by decide +kernel) rfl
theorem xb_169 : Cond.selects RX1 yX1_addParish yX1_addParish ∈ xbig := xb_m 165 (by decide +kernel) rfl
theorem xb_170 : Cond.methodLink RX3 55 yX1_addMember ∈ xbig := xb_m 330 (by decide +kernel) rfl
theorem xb_171 : Cond.instanceMethod yX1_addMember ∈ xbig := xb_m 168 (by decide +kernel) rfl
theorem xb_172 : Cond.selects RX1 yX1_addMember yX1_addMember ∈ xbig := xb_m 169 (by decide +kernel) rfl
theorem xb_173 : Cond.methodLink RX3 58 yX1_setQuorum ∈ xbig := xb_m 331 (by decide +kernel) rfl
theorem xb_174 : Cond.instanceMethod yX1_setQuorum ∈ xbig := xb_m 332 (by decide +kernel) rfl
theorem xb_175 : Cond.selects RX1 yX1_setQuorum yX1_setQuorum ∈ xbig := xb_m 333 (by decide +kernel) rfl
theorem xb_176 : Cond.methodLink RX3 61 yX1_setBills ∈ xbig := xb_m 335 (by decide +kernel) rfl
theorem xb_177 : Cond.instanceMethod yX1_setBills ∈ xbig := xb_m 336 (by decide +kernel) rfl
theorem xb_178 : Cond.selects RX1 yX1_setBills yX1_setBills ∈ xbig := xb_m 337 (by decide +kernel) rfl
set_option maxRecDepth 100000 in
theorem xb_179 : Cond.code yX3_addItem cX3_addItem 3 (some .boolean) ∈ xbig := xb_m 328 rfl rfl
theorem xb_180 : Cond.methodLink RX3 36 yX3_numbersBehind ∈ xbig := xb_m 314 (by decide +kernel) rfl
theorem xb_181 : Cond.static yX3_numbersBehind ∈ xbig := xb_m 315 (by decide +kernel) rfl
theorem xb_182 : Cond.methodLink RX3 39 yX3_takeNumber ∈ xbig := xb_m 317 (by decide +kernel) rfl
theorem xb_183 : Cond.instanceMethod yX3_takeNumber ∈ xbig := xb_m 319 (by decide +kernel) rfl
theorem xb_184 : Cond.selects RX3 yX3_takeNumber yX3_takeNumber ∈ xbig := xb_m 2 (by decide +kernel) rfl
theorem xb_185 : Cond.methodLink RX3 43 yX3_addItem ∈ xbig := xb_m 325 (by decide +kernel) rfl
theorem xb_186 : Cond.instanceMethod yX3_addItem ∈ xbig := xb_m 327 (by decide +kernel) rfl
theorem xb_187 : Cond.selects RX3 yX3_addItem yX3_addItem ∈ xbig := xb_m 4 (by decide +kernel) rfl
set_option maxRecDepth 100000 in
theorem xb_188 : Cond.code yX3_takeItem cX3_takeItem 7 (some .int) ∈ xbig := xb_m 309 rfl rfl
theorem xb_189 : Cond.methodLink RX3 23 yX1_clear ∈ xbig := xb_m 305 (by decide +kernel) rfl
theorem xb_190 : Cond.methodLink RX3 28 yX3_takeItem ∈ xbig := xb_m 306 (by decide +kernel) rfl
theorem xb_191 : Cond.instanceMethod yX3_takeItem ∈ xbig := xb_m 308 (by decide +kernel) rfl
theorem xb_192 : Cond.selects RX3 yX3_takeItem yX3_takeItem ∈ xbig := xb_m 0 (by decide +kernel) rfl
set_option maxRecDepth 100000 in
theorem xb_193 : Cond.code yX3_tell cX3_tell 5 (some .int) ∈ xbig := xb_m 304 rfl rfl
set_option maxRecDepth 100000 in
theorem xb_194 : Cond.code yX4_setMind cX4_setMind 4 none ∈ xbig := xb_m 184 rfl rfl
set_option maxRecDepth 100000 in
theorem xb_195 : Cond.code yX4_begin cX4_begin 3 none ∈ xbig := xb_m 180 rfl rfl
theorem xb_196 : Cond.fieldLink RX4 18 "WalkingLaw$Walk" "passed" "[I" ∈ xbig := xb_m 190 (by decide +kernel) rfl
theorem xb_197 : Cond.fieldLink RX4 21 "WalkingLaw$Walk" "made" "[I" ∈ xbig := xb_m 193 (by decide +kernel) rfl
theorem xb_198 : Cond.methodLink RX4 44 yX4_setMind ∈ xbig := xb_m 181 (by decide +kernel) rfl
theorem xb_199 : Cond.instanceMethod yX4_setMind ∈ xbig := xb_m 182 (by decide +kernel) rfl
theorem xb_200 : Cond.selects RX4 yX4_setMind yX4_setMind ∈ xbig := xb_m 183 (by decide +kernel) rfl
set_option maxRecDepth 100000 in
theorem xb_201 : Cond.code yX4_init cX4_init 2 none ∈ xbig := xb_m 175 rfl rfl
theorem xb_202 : Cond.methodLink RX4 3 objectInit ∈ xbig := xb_m 176 (by decide +kernel) rfl
theorem xb_203 : Cond.methodLink RX4 24 yX4_begin ∈ xbig := xb_m 177 (by decide +kernel) rfl
theorem xb_204 : Cond.instanceMethod yX4_begin ∈ xbig := xb_m 178 (by decide +kernel) rfl
theorem xb_205 : Cond.selects RX4 yX4_begin yX4_begin ∈ xbig := xb_m 179 (by decide +kernel) rfl
set_option maxRecDepth 100000 in
theorem xb_206 : Cond.code yX4_become cX4_become 3 none ∈ xbig := xb_m 485 rfl rfl
set_option maxRecDepth 100000 in
theorem xb_207 : Cond.code yX4_mindOf cX4_mindOf 4 (some .int) ∈ xbig := xb_m 367 rfl rfl
set_option maxRecDepth 100000 in
theorem xb_208 : Cond.code yX4_arrived cX4_arrived 3 (some .int) ∈ xbig := xb_m 420 rfl rfl
theorem xb_209 : Cond.methodLink RX4 61 yX4_goHour ∈ xbig := xb_m 384 (by decide +kernel) rfl
set_option maxRecDepth 100000 in
theorem xb_210 : Cond.code yX4_goHours cX4_goHours 3 none ∈ xbig := xb_m 383 rfl rfl
set_option maxRecDepth 100000 in
theorem xb_211 : Cond.code yX4_yesIn cX4_yesIn 3 (some .int) ∈ xbig := xb_m 432 rfl rfl
set_option maxRecDepth 100000 in
theorem xb_212 : Cond.code yX4_noIn cX4_noIn 3 (some .int) ∈ xbig := xb_m 444 rfl rfl
theorem xb_213 : Cond.methodLink RX4 118 yX4_parishOf ∈ xbig := xb_m 461 (by decide +kernel) rfl
theorem xb_214 : Cond.methodLink RX4 121 yX4_passesIn ∈ xbig := xb_m 462 (by decide +kernel) rfl
set_option maxRecDepth 100000 in
theorem xb_215 : Cond.code yX4_readOut cX4_readOut 3 (some .boolean) ∈ xbig := xb_m 460 rfl rfl
theorem xb_216 : Cond.methodLink RX4 125 yX4_readOut ∈ xbig := xb_m 538 (by decide +kernel) rfl
theorem xb_217 : Cond.instanceMethod yX4_readOut ∈ xbig := xb_m 458 (by decide +kernel) rfl
theorem xb_218 : Cond.selects RX4 yX4_readOut yX4_readOut ∈ xbig := xb_m 459 (by decide +kernel) rfl
set_option maxRecDepth 100000 in
theorem xb_219 : Cond.code yX4_readAllFor cX4_readAllFor 4 none ∈ xbig := xb_m 537 rfl rfl
set_option maxRecDepth 100000 in
theorem xb_220 : Cond.code yX4_isHeld cX4_isHeld 2 (some .boolean) ∈ xbig := xb_m 470 rfl rfl
set_option maxRecDepth 100000 in
theorem xb_221 : Cond.code yX4_allHeld cX4_allHeld 3 (some .int) ∈ xbig := xb_m 542 rfl rfl
theorem xb_222 : Cond.methodLink RX4 129 yX4_isHeld ∈ xbig := xb_m 543 (by decide +kernel) rfl
theorem xb_223 : Cond.instanceMethod yX4_isHeld ∈ xbig := xb_m 468 (by decide +kernel) rfl
theorem xb_224 : Cond.selects RX4 yX4_isHeld yX4_isHeld ∈ xbig := xb_m 469 (by decide +kernel) rfl
theorem xb_225 : Cond.methodLink RX5 1 objectInit ∈ xbig := xb_m 70 (by decide +kernel) rfl
theorem xb_226 : Cond.classLink RX5 7 RX3 ∈ xbig := xb_m 73 (by decide +kernel) rfl
theorem xb_227 : Cond.instantiable RX3 3 ∈ xbig := xb_m 74 (by decide +kernel) rfl
theorem xb_228 : Cond.fieldLink RX5 10 "WalkingLaw" "text" "LWalkingLaw$Text;" ∈ xbig := xb_m 257 (by decide +kernel) rfl
theorem xb_229 : Cond.classLink RX5 16 RX1 ∈ xbig := xb_m 92 (by decide +kernel) rfl
theorem xb_230 : Cond.instantiable RX1 13 ∈ xbig := xb_m 93 (by decide +kernel) rfl
theorem xb_231 : Cond.fieldLink RX5 19 "WalkingLaw" "road" "LWalkingLaw$Road;" ∈ xbig := xb_m 258 (by decide +kernel) rfl
theorem xb_232 : Cond.fieldLink RX5 23 "WalkingLaw" "draft" "LWalkingLaw$Road;" ∈ xbig := xb_m 259 (by decide +kernel) rfl
theorem xb_233 : Cond.classLink RX5 33 RX4 ∈ xbig := xb_m 171 (by decide +kernel) rfl
theorem xb_234 : Cond.instantiable RX4 6 ∈ xbig := xb_m 172 (by decide +kernel) rfl
theorem xb_235 : Cond.fieldLink RX5 38 "WalkingLaw" "now" "LWalkingLaw$Walk;" ∈ xbig := xb_m 260 (by decide +kernel) rfl
theorem xb_236 : Cond.fieldLink RX5 42 "WalkingLaw" "trial" "LWalkingLaw$Walk;" ∈ xbig := xb_m 261 (by decide +kernel) rfl
theorem xb_237 : Cond.fieldLink RX5 45 "WalkingLaw" "kept" "[LWalkingLaw$Walk;" ∈ xbig := xb_m 262 (by decide +kernel) rfl
theorem xb_238 : Cond.fieldLink RX5 49 "WalkingLaw" "keptWalks" "I" ∈ xbig := xb_m 263 (by decide +kernel) rfl
theorem xb_239 : Cond.classLink RX5 53 RX0 ∈ xbig := xb_m 211 (by decide +kernel) rfl
theorem xb_240 : Cond.instantiable RX0 5 ∈ xbig := xb_m 212 (by decide +kernel) rfl
theorem xb_241 : Cond.fieldLink RX5 56 "WalkingLaw" "notes" "LWalkingLaw$Diary;" ∈ xbig := xb_m 264 (by decide +kernel) rfl
theorem xb_242 : Cond.classLink RX5 60 RX2 ∈ xbig := xb_m 234 (by decide +kernel) rfl
theorem xb_243 : Cond.instantiable RX2 4 ∈ xbig := xb_m 235 (by decide +kernel) rfl
theorem xb_244 : Cond.fieldLink RX5 63 "WalkingLaw" "rows" "LWalkingLaw$Rows;" ∈ xbig := xb_m 265 (by decide +kernel) rfl
theorem xb_245 : Cond.instanceMethod yX3_init ∈ xbig := xb_m 76 (by decide +kernel) rfl
theorem xb_246 : Cond.methodLink RX5 18 yX1_init ∈ xbig := xb_m 94 (by decide +kernel) rfl
theorem xb_247 : Cond.instanceMethod yX1_init ∈ xbig := xb_m 95 (by decide +kernel) rfl
theorem xb_248 : Cond.methodLink RX5 26 yX1_addParish ∈ xbig := xb_m 163 (by decide +kernel) rfl
theorem xb_249 : Cond.methodLink RX5 30 yX1_addMember ∈ xbig := xb_m 167 (by decide +kernel) rfl
theorem xb_250 : Cond.methodLink RX5 35 yX4_init ∈ xbig := xb_m 173 (by decide +kernel) rfl
theorem xb_251 : Cond.instanceMethod yX4_init ∈ xbig := xb_m 174 (by decide +kernel) rfl
theorem xb_252 : Cond.instanceMethod yX0_init ∈ xbig := xb_m 214 (by decide +kernel) rfl
theorem xb_253 : Cond.instanceMethod yX2_init ∈ xbig := xb_m 237 (by decide +kernel) rfl
set_option maxRecDepth 100000 in
theorem xb_254 : Cond.code yX5_init cX5_init 2 none ∈ xbig := xb_m 69 rfl rfl
set_option maxRecDepth 100000 in
theorem xb_255 : Cond.code yX5_write cX5_write 4 (some .int) ∈ xbig := xb_m 288 rfl rfl
theorem xb_256 : Cond.methodLink RX5 67 yX3_append ∈ xbig := xb_m 289 (by decide +kernel) rfl
theorem xb_257 : Cond.instanceMethod yX3_append ∈ xbig := xb_m 290 (by decide +kernel) rfl
theorem xb_258 : Cond.selects RX3 yX3_append yX3_append ∈ xbig := xb_m 291 (by decide +kernel) rfl
set_option maxRecDepth 100000 in
theorem xb_259 : Cond.code yX5_wipe cX5_wipe 2 (some .int) ∈ xbig := xb_m 296 rfl rfl
theorem xb_260 : Cond.methodLink RX5 74 yX3_tell ∈ xbig := xb_m 301 (by decide +kernel) rfl
theorem xb_261 : Cond.instanceMethod yX3_tell ∈ xbig := xb_m 302 (by decide +kernel) rfl
theorem xb_262 : Cond.selects RX3 yX3_tell yX3_tell ∈ xbig := xb_m 303 (by decide +kernel) rfl
set_option maxRecDepth 100000 in
theorem xb_263 : Cond.code yX5_fault cX5_fault 1 (some .int) ∈ xbig := xb_m 300 rfl rfl
theorem xb_264 : Cond.methodLink RX5 84 yX4_begin ∈ xbig := xb_m 343 (by decide +kernel) rfl
set_option maxRecDepth 100000 in
theorem xb_265 : Cond.code yX5_lay cX5_lay 2 (some .int) ∈ xbig := xb_m 342 rfl rfl
set_option maxRecDepth 100000 in
theorem xb_266 : Cond.code yX5_isParish cX5_isParish 2 (some .boolean) ∈ xbig := xb_m 351 rfl rfl
set_option maxRecDepth 100000 in
theorem xb_267 : Cond.code yX5_parish cX5_parish 3 (some .int) ∈ xbig := xb_m 347 rfl rfl
theorem xb_268 : Cond.methodLink RX5 90 yX5_isParish ∈ xbig := xb_m 348 (by decide +kernel) rfl
theorem xb_269 : Cond.instanceMethod yX5_isParish ∈ xbig := xb_m 350 (by decide +kernel) rfl
theorem xb_270 : Cond.selects RX5 yX5_isParish yX5_isParish ∈ xbig := xb_m 5 (by decide +kernel) rfl
theorem xb_271 : Cond.methodLink RX5 104 yX4_thoseIn ∈ xbig := xb_m 352 (by decide +kernel) rfl
set_option maxRecDepth 100000 in
theorem xb_272 : Cond.code yX5_isMember cX5_isMember 2 (some .boolean) ∈ xbig := xb_m 363 rfl rfl
theorem xb_273 : Cond.methodLink RX5 108 yX5_isMember ∈ xbig := xb_m 360 (by decide +kernel) rfl
theorem xb_274 : Cond.instanceMethod yX5_isMember ∈ xbig := xb_m 362 (by decide +kernel) rfl
theorem xb_275 : Cond.selects RX5 yX5_isMember yX5_isMember ∈ xbig := xb_m 6 (by decide +kernel) rfl
theorem xb_276 : Cond.methodLink RX5 117 yX4_mindOf ∈ xbig := xb_m 364 (by decide +kernel) rfl
theorem xb_277 : Cond.instanceMethod yX4_mindOf ∈ xbig := xb_m 365 (by decide +kernel) rfl
theorem xb_278 : Cond.selects RX4 yX4_mindOf yX4_mindOf ∈ xbig := xb_m 366 (by decide +kernel) rfl
theorem xb_279 : Cond.methodLink RX5 123 yX4_parishOf ∈ xbig := xb_m 368 (by decide +kernel) rfl
set_option maxRecDepth 100000 in
theorem xb_280 : Cond.code yX5_member cX5_member 3 (some .int) ∈ xbig := xb_m 359 rfl rfl
theorem xb_281 : Cond.methodLink RX5 129 yX4_goHours ∈ xbig := xb_m 380 (by decide +kernel) rfl
theorem xb_282 : Cond.instanceMethod yX4_goHours ∈ xbig := xb_m 381 (by decide +kernel) rfl
theorem xb_283 : Cond.selects RX4 yX4_goHours yX4_goHours ∈ xbig := xb_m 382 (by decide +kernel) rfl
theorem xb_284 : Cond.methodLink RX5 133 yX4_arrived ∈ xbig := xb_m 417 (by decide +kernel) rfl
theorem xb_285 : Cond.instanceMethod yX4_arrived ∈ xbig := xb_m 418 (by decide +kernel) rfl
theorem xb_286 : Cond.selects RX4 yX4_arrived yX4_arrived ∈ xbig := xb_m 419 (by decide +kernel) rfl
set_option maxRecDepth 100000 in
theorem xb_287 : Cond.code yX5_hours cX5_hours 2 (some .int) ∈ xbig := xb_m 379 rfl rfl
set_option maxRecDepth 100000 in
theorem xb_288 : Cond.code yX5_isBill cX5_isBill 2 (some .boolean) ∈ xbig := xb_m 428 rfl rfl
theorem xb_289 : Cond.methodLink RX5 137 yX5_isBill ∈ xbig := xb_m 425 (by decide +kernel) rfl
theorem xb_290 : Cond.instanceMethod yX5_isBill ∈ xbig := xb_m 427 (by decide +kernel) rfl
theorem xb_291 : Cond.selects RX5 yX5_isBill yX5_isBill ∈ xbig := xb_m 9 (by decide +kernel) rfl
theorem xb_292 : Cond.methodLink RX5 140 yX4_yesIn ∈ xbig := xb_m 429 (by decide +kernel) rfl
theorem xb_293 : Cond.instanceMethod yX4_yesIn ∈ xbig := xb_m 430 (by decide +kernel) rfl
theorem xb_294 : Cond.selects RX4 yX4_yesIn yX4_yesIn ∈ xbig := xb_m 431 (by decide +kernel) rfl
theorem xb_295 : Cond.methodLink RX5 144 yX4_noIn ∈ xbig := xb_m 441 (by decide +kernel) rfl
theorem xb_296 : Cond.instanceMethod yX4_noIn ∈ xbig := xb_m 442 (by decide +kernel) rfl
theorem xb_297 : Cond.selects RX4 yX4_noIn yX4_noIn ∈ xbig := xb_m 443 (by decide +kernel) rfl
theorem xb_298 : Cond.methodLink RX5 147 yX4_passesIn ∈ xbig := xb_m 449 (by decide +kernel) rfl
set_option maxRecDepth 100000 in
theorem xb_299 : Cond.code yX5_voices cX5_voices 4 (some .int) ∈ xbig := xb_m 424 rfl rfl
theorem xb_300 : Cond.methodLink RX5 150 yX4_readOut ∈ xbig := xb_m 457 (by decide +kernel) rfl
set_option maxRecDepth 100000 in
theorem xb_301 : Cond.code yX5_read cX5_read 2 (some .int) ∈ xbig := xb_m 456 rfl rfl
set_option maxRecDepth 100000 in
theorem xb_302 : Cond.code yX5_bill cX5_bill 3 (some .int) ∈ xbig := xb_m 466 rfl rfl
theorem xb_303 : Cond.methodLink RX5 156 yX4_isHeld ∈ xbig := xb_m 467 (by decide +kernel) rfl
set_option maxRecDepth 100000 in
theorem xb_304 : Cond.code yX5_isAhead cX5_isAhead 1 (some .boolean) ∈ xbig := xb_m 477 rfl rfl
theorem xb_305 : Cond.methodLink RX5 211 yX4_become ∈ xbig := xb_m 482 (by decide +kernel) rfl
theorem xb_306 : Cond.instanceMethod yX4_become ∈ xbig := xb_m 483 (by decide +kernel) rfl
theorem xb_307 : Cond.selects RX4 yX4_become yX4_become ∈ xbig := xb_m 484 (by decide +kernel) rfl
set_option maxRecDepth 100000 in
theorem xb_308 : Cond.code yX5_lookAhead cX5_lookAhead 2 none ∈ xbig := xb_m 481 rfl rfl
theorem xb_309 : Cond.methodLink RX5 162 yX5_isAhead ∈ xbig := xb_m 475 (by decide +kernel) rfl
theorem xb_310 : Cond.static yX5_isAhead ∈ xbig := xb_m 476 (by decide +kernel) rfl
theorem xb_311 : Cond.methodLink RX5 165 yX5_lookAhead ∈ xbig := xb_m 478 (by decide +kernel) rfl
theorem xb_312 : Cond.instanceMethod yX5_lookAhead ∈ xbig := xb_m 480 (by decide +kernel) rfl
theorem xb_313 : Cond.selects RX5 yX5_lookAhead yX5_lookAhead ∈ xbig := xb_m 12 (by decide +kernel) rfl
set_option maxRecDepth 100000 in
theorem xb_314 : Cond.code yX5_mile cX5_mile 3 (some .int) ∈ xbig := xb_m 474 rfl rfl
set_option maxRecDepth 100000 in
theorem xb_315 : Cond.code yX5_who cX5_who 3 (some .int) ∈ xbig := xb_m 489 rfl rfl
theorem xb_316 : Cond.methodLink RX5 168 yX4_goHour ∈ xbig := xb_m 494 (by decide +kernel) rfl
set_option maxRecDepth 100000 in
theorem xb_317 : Cond.code yX5_arrives cX5_arrives 2 (some .int) ∈ xbig := xb_m 493 rfl rfl
set_option maxRecDepth 100000 in
theorem xb_318 : Cond.code yX5_would cX5_would 3 (some .int) ∈ xbig := xb_m 498 rfl rfl
theorem xb_319 : Cond.methodLink RX5 171 yX2_weigh ∈ xbig := xb_m 503 (by decide +kernel) rfl
theorem xb_320 : Cond.instanceMethod yX2_weigh ∈ xbig := xb_m 504 (by decide +kernel) rfl
theorem xb_321 : Cond.selects RX2 yX2_weigh yX2_weigh ∈ xbig := xb_m 505 (by decide +kernel) rfl
set_option maxRecDepth 100000 in
theorem xb_322 : Cond.code yX5_order cX5_order 2 (some .int) ∈ xbig := xb_m 502 rfl rfl
theorem xb_323 : Cond.methodLink RX5 223 yX4_readAllFor ∈ xbig := xb_m 534 (by decide +kernel) rfl
theorem xb_324 : Cond.instanceMethod yX4_readAllFor ∈ xbig := xb_m 535 (by decide +kernel) rfl
theorem xb_325 : Cond.selects RX4 yX4_readAllFor yX4_readAllFor ∈ xbig := xb_m 536 (by decide +kernel) rfl
theorem xb_326 : Cond.methodLink RX5 226 yX4_allHeld ∈ xbig := xb_m 539 (by decide +kernel) rfl
theorem xb_327 : Cond.instanceMethod yX4_allHeld ∈ xbig := xb_m 540 (by decide +kernel) rfl
theorem xb_328 : Cond.selects RX4 yX4_allHeld yX4_allHeld ∈ xbig := xb_m 541 (by decide +kernel) rfl
set_option maxRecDepth 100000 in
theorem xb_329 : Cond.code yX5_heldAhead cX5_heldAhead 2 (some .int) ∈ xbig := xb_m 533 rfl rfl
theorem xb_330 : Cond.methodLink RX5 181 yX5_heldAhead ∈ xbig := xb_m 530 (by decide +kernel) rfl
theorem xb_331 : Cond.instanceMethod yX5_heldAhead ∈ xbig := xb_m 532 (by decide +kernel) rfl
theorem xb_332 : Cond.selects RX5 yX5_heldAhead yX5_heldAhead ∈ xbig := xb_m 17 (by decide +kernel) rfl
theorem xb_333 : Cond.methodLink RX5 184 yJ6_bitCount_0f7a4 ∈ xbig := xb_m 544 (by decide +kernel) rfl
set_option maxRecDepth 100000 in
theorem xb_334 : Cond.code yX5_back cX5_back 5 (some .int) ∈ xbig := xb_m 529 rfl rfl
set_option maxRecDepth 100000 in
theorem xb_335 : Cond.code yX5_isParty cX5_isParty 4 (some .boolean) ∈ xbig := xb_m 556 rfl rfl
theorem xb_336 : Cond.methodLink RX5 189 yX1_paceOf ∈ xbig := xb_m 549 (by decide +kernel) rfl
theorem xb_337 : Cond.instanceMethod yX1_paceOf ∈ xbig := xb_m 550 (by decide +kernel) rfl
theorem xb_338 : Cond.selects RX1 yX1_paceOf yX1_paceOf ∈ xbig := xb_m 551 (by decide +kernel) rfl
theorem xb_339 : Cond.methodLink RX5 229 yX1_slowestOf ∈ xbig := xb_m 557 (by decide +kernel) rfl
theorem xb_340 : Cond.instanceMethod yX1_slowestOf ∈ xbig := xb_m 558 (by decide +kernel) rfl
theorem xb_341 : Cond.selects RX1 yX1_slowestOf yX1_slowestOf ∈ xbig := xb_m 559 (by decide +kernel) rfl
theorem xb_342 : Cond.methodLink RX5 192 yX5_isParty ∈ xbig := xb_m 553 (by decide +kernel) rfl
theorem xb_343 : Cond.instanceMethod yX5_isParty ∈ xbig := xb_m 555 (by decide +kernel) rfl
theorem xb_344 : Cond.selects RX5 yX5_isParty yX5_isParty ∈ xbig := xb_m 18 (by decide +kernel) rfl
set_option maxRecDepth 100000 in
theorem xb_345 : Cond.code yX5_parties cX5_parties 8 (some .int) ∈ xbig := xb_m 548 rfl rfl
set_option maxRecDepth 100000 in
theorem xb_346 : Cond.code yX5_join cX5_join 4 (some .int) ∈ xbig := xb_m 565 rfl rfl
set_option maxRecDepth 100000 in
theorem xb_347 : Cond.code yX5_diary cX5_diary 4 (some .int) ∈ xbig := xb_m 569 rfl rfl
theorem xb_348 : Cond.methodLink RX5 196 yX0_append ∈ xbig := xb_m 570 (by decide +kernel) rfl
theorem xb_349 : Cond.instanceMethod yX0_append ∈ xbig := xb_m 571 (by decide +kernel) rfl
theorem xb_350 : Cond.selects RX0 yX0_append yX0_append ∈ xbig := xb_m 572 (by decide +kernel) rfl
set_option maxRecDepth 100000 in
theorem xb_351 : Cond.code yX5_noDiary cX5_noDiary 2 (some .int) ∈ xbig := xb_m 577 rfl rfl
theorem xb_352 : Cond.methodLink RX5 198 yX0_falseLines ∈ xbig := xb_m 582 (by decide +kernel) rfl
theorem xb_353 : Cond.instanceMethod yX0_falseLines ∈ xbig := xb_m 583 (by decide +kernel) rfl
theorem xb_354 : Cond.selects RX0 yX0_falseLines yX0_falseLines ∈ xbig := xb_m 584 (by decide +kernel) rfl
set_option maxRecDepth 100000 in
theorem xb_355 : Cond.code yX5_wrong cX5_wrong 1 (some .int) ∈ xbig := xb_m 581 rfl rfl
theorem xb_356 : Cond.methodLink RX5 202 yX0_bestDelay ∈ xbig := xb_m 596 (by decide +kernel) rfl
theorem xb_357 : Cond.instanceMethod yX0_bestDelay ∈ xbig := xb_m 597 (by decide +kernel) rfl
theorem xb_358 : Cond.selects RX0 yX0_bestDelay yX0_bestDelay ∈ xbig := xb_m 598 (by decide +kernel) rfl
set_option maxRecDepth 100000 in
theorem xb_359 : Cond.code yX5_late cX5_late 1 (some .int) ∈ xbig := xb_m 595 rfl rfl
set_option maxRecDepth 100000 in
theorem xb_360 : Cond.code yX5_isYear cX5_isYear 1 (some .boolean) ∈ xbig := xb_m 618 rfl rfl
set_option maxRecDepth 100000 in
theorem xb_361 : Cond.code yX5_drawnMind cX5_drawnMind 4 (some .int) ∈ xbig := xb_m 625 rfl rfl
theorem xb_362 : Cond.constantLong RX5 239 (7919) ∈ xbig := xb_m 626 (by decide +kernel) rfl
theorem xb_363 : Cond.constantLong RX5 241 (6151) ∈ xbig := xb_m 627 (by decide +kernel) rfl
theorem xb_364 : Cond.constantLong RX5 243 (65521) ∈ xbig := xb_m 628 (by decide +kernel) rfl
theorem xb_365 : Cond.constantLong RX5 245 (16) ∈ xbig := xb_m 629 (by decide +kernel) rfl
theorem xb_366 : Cond.methodLink RX5 232 yX5_drawnMind ∈ xbig := xb_m 623 (by decide +kernel) rfl
theorem xb_367 : Cond.static yX5_drawnMind ∈ xbig := xb_m 624 (by decide +kernel) rfl
theorem xb_368 : Cond.methodLink RX5 235 yX4_setMind ∈ xbig := xb_m 630 (by decide +kernel) rfl
set_option maxRecDepth 100000 in
theorem xb_369 : Cond.code yX5_heldInYear cX5_heldInYear 3 (some .int) ∈ xbig := xb_m 622 rfl rfl
theorem xb_370 : Cond.methodLink RX5 205 yX5_isYear ∈ xbig := xb_m 616 (by decide +kernel) rfl
theorem xb_371 : Cond.static yX5_isYear ∈ xbig := xb_m 617 (by decide +kernel) rfl
theorem xb_372 : Cond.methodLink RX5 208 yX5_heldInYear ∈ xbig := xb_m 619 (by decide +kernel) rfl
theorem xb_373 : Cond.instanceMethod yX5_heldInYear ∈ xbig := xb_m 621 (by decide +kernel) rfl
theorem xb_374 : Cond.selects RX5 yX5_heldInYear yX5_heldInYear ∈ xbig := xb_m 22 (by decide +kernel) rfl
set_option maxRecDepth 100000 in
theorem xb_375 : Cond.code yX5_year cX5_year 2 (some .int) ∈ xbig := xb_m 615 rfl rfl
set_option maxRecDepth 100000 in
theorem xb_376 : Cond.code yX5_ten cX5_ten 5 (some .int) ∈ xbig := xb_m 634 rfl rfl
set_option maxRecDepth 100000 in
theorem xb_377 : Cond.code yX5_keep cX5_keep 1 (some .int) ∈ xbig := xb_m 638 rfl rfl
set_option maxRecDepth 100000 in
theorem xb_378 : Cond.code yX5_again cX5_again 1 (some .int) ∈ xbig := xb_m 642 rfl rfl
set_option maxRecDepth 100000 in
theorem xb_379 : Cond.code yX5_count cX5_count 2 (some .int) ∈ xbig := xb_m 646 rfl rfl
set_option maxRecDepth 100000 in
theorem xb_380 : Cond.code yX6_begins cX6_begins 1 none ∈ xbig := xb_m 656 rfl rfl
theorem xb_381 : Cond.fieldLink RX6 17 "WalkingLawModel" "parishes" "[I" ∈ xbig := xb_m 669 (by decide +kernel) rfl
theorem xb_382 : Cond.fieldLink RX6 23 "WalkingLawModel" "members" "[I" ∈ xbig := xb_m 671 (by decide +kernel) rfl
theorem xb_383 : Cond.fieldLink RX6 13 "WalkingLawModel" "told" "[I" ∈ xbig := xb_m 668 (by decide +kernel) rfl
set_option maxRecDepth 100000 in
theorem xb_384 : Cond.code yX6_laid cX6_laid 3 none ∈ xbig := xb_m 664 rfl rfl
theorem xb_385 : Cond.fieldLink RX6 29 "WalkingLawModel" "slot" "[I" ∈ xbig := xb_m 673 (by decide +kernel) rfl
theorem xb_386 : Cond.fieldLink RX6 26 "WalkingLawModel" "member" "[I" ∈ xbig := xb_m 672 (by decide +kernel) rfl
set_option maxRecDepth 100000 in
theorem xb_387 : Cond.code yX6_takes cX6_takes 2 none ∈ xbig := xb_m 660 rfl rfl
theorem xb_388 : Cond.fieldLink RX6 20 "WalkingLawModel" "parish" "[I" ∈ xbig := xb_m 670 (by decide +kernel) rfl
theorem xb_389 : Cond.fieldLink RX6 89 "WalkingLawModel" "lines" "I" ∈ xbig := xb_m 675 (by decide +kernel) rfl
theorem xb_390 : Cond.fieldLink RX6 92 "WalkingLawModel" "kept" "I" ∈ xbig := xb_m 674 (by decide +kernel) rfl
theorem xb_391 : Cond.methodLink RX6 85 yX6_laid ∈ xbig := xb_m 661 (by decide +kernel) rfl
theorem xb_392 : Cond.instanceMethod yX6_laid ∈ xbig := xb_m 663 (by decide +kernel) rfl
theorem xb_393 : Cond.selects RX6 yX6_laid yX6_laid ∈ xbig := xb_m 25 (by decide +kernel) rfl
theorem xb_394 : Cond.initialized RX6 ∈ xbig := xb_m 62 (by decide +kernel) rfl
theorem xb_395 : Cond.methodLink RX6 1 objectInit ∈ xbig := xb_m 652 (by decide +kernel) rfl
theorem xb_396 : Cond.fieldLink RX6 7 "WalkingLawModel" "text" "[B" ∈ xbig := xb_m 666 (by decide +kernel) rfl
theorem xb_397 : Cond.fieldLink RX6 32 "WalkingLawModel" "line" "[I" ∈ xbig := xb_m 676 (by decide +kernel) rfl
theorem xb_398 : Cond.fieldLink RX6 35 "WalkingLawModel" "so" "[Z" ∈ xbig := xb_m 677 (by decide +kernel) rfl
theorem xb_399 : Cond.fieldLink RX6 39 "WalkingLawModel" "row" "[I" ∈ xbig := xb_m 678 (by decide +kernel) rfl
theorem xb_400 : Cond.fieldLink RX6 42 "WalkingLawModel" "best" "[I" ∈ xbig := xb_m 679 (by decide +kernel) rfl
theorem xb_401 : Cond.fieldLink RX6 45 "WalkingLawModel" "got" "[I" ∈ xbig := xb_m 681 (by decide +kernel) rfl
theorem xb_402 : Cond.methodLink RX6 48 yX6_begins ∈ xbig := xb_m 653 (by decide +kernel) rfl
theorem xb_403 : Cond.instanceMethod yX6_begins ∈ xbig := xb_m 655 (by decide +kernel) rfl
theorem xb_404 : Cond.selects RX6 yX6_begins yX6_begins ∈ xbig := xb_m 23 (by decide +kernel) rfl
theorem xb_405 : Cond.methodLink RX6 51 yX6_takes ∈ xbig := xb_m 657 (by decide +kernel) rfl
theorem xb_406 : Cond.instanceMethod yX6_takes ∈ xbig := xb_m 659 (by decide +kernel) rfl
theorem xb_407 : Cond.selects RX6 yX6_takes yX6_takes ∈ xbig := xb_m 24 (by decide +kernel) rfl
set_option maxRecDepth 100000 in
theorem xb_408 : Cond.code yX6_init cX6_init 1 none ∈ xbig := xb_m 651 rfl rfl
set_option maxRecDepth 100000 in
theorem xb_409 : Cond.code yX6_in cX6_in 6 (some .boolean) ∈ xbig := xb_m 731 rfl rfl
set_option maxRecDepth 100000 in
theorem xb_410 : Cond.code yX6_write cX6_write 5 (some .int) ∈ xbig := xb_m 727 rfl rfl
theorem xb_411 : Cond.constantLong RX6 54 (8) ∈ xbig := xb_m 728 (by decide +kernel) rfl
theorem xb_412 : Cond.fieldLink RX6 60 "WalkingLawModel" "length" "I" ∈ xbig := xb_m 665 (by decide +kernel) rfl
theorem xb_413 : Cond.methodLink RX6 56 yX6_in ∈ xbig := xb_m 729 (by decide +kernel) rfl
theorem xb_414 : Cond.static yX6_in ∈ xbig := xb_m 730 (by decide +kernel) rfl
set_option maxRecDepth 100000 in
theorem xb_415 : Cond.code yX6_wipe cX6_wipe 2 (some .int) ∈ xbig := xb_m 735 rfl rfl
set_option maxRecDepth 100000 in
theorem xb_416 : Cond.code yX6_number cX6_number 3 (some .int) ∈ xbig := xb_m 747 rfl rfl
theorem xb_417 : Cond.fieldLink RX6 64 "WalkingLawModel" "at" "I" ∈ xbig := xb_m 667 (by decide +kernel) rfl
theorem xb_418 : Cond.constantLong RX6 67 (48) ∈ xbig := xb_m 748 (by decide +kernel) rfl
theorem xb_419 : Cond.constantLong RX6 69 (57) ∈ xbig := xb_m 749 (by decide +kernel) rfl
theorem xb_420 : Cond.constantLong RX6 71 (2) ∈ xbig := xb_m 750 (by decide +kernel) rfl
set_option maxRecDepth 100000 in
theorem xb_421 : Cond.code yX6_isIn cX6_isIn 4 (some .boolean) ∈ xbig := xb_m 758 rfl rfl
set_option maxRecDepth 100000 in
theorem xb_422 : Cond.code yX6_isGood cX6_isGood 4 (some .boolean) ∈ xbig := xb_m 754 rfl rfl
theorem xb_423 : Cond.methodLink RX6 81 yX6_isIn ∈ xbig := xb_m 755 (by decide +kernel) rfl
theorem xb_424 : Cond.instanceMethod yX6_isIn ∈ xbig := xb_m 757 (by decide +kernel) rfl
theorem xb_425 : Cond.selects RX6 yX6_isIn yX6_isIn ∈ xbig := xb_m 29 (by decide +kernel) rfl
theorem xb_426 : Cond.methodLink RX6 73 yX6_number ∈ xbig := xb_m 744 (by decide +kernel) rfl
theorem xb_427 : Cond.instanceMethod yX6_number ∈ xbig := xb_m 746 (by decide +kernel) rfl
theorem xb_428 : Cond.selects RX6 yX6_number yX6_number ∈ xbig := xb_m 27 (by decide +kernel) rfl
theorem xb_429 : Cond.methodLink RX6 77 yX6_isGood ∈ xbig := xb_m 751 (by decide +kernel) rfl
theorem xb_430 : Cond.instanceMethod yX6_isGood ∈ xbig := xb_m 753 (by decide +kernel) rfl
theorem xb_431 : Cond.selects RX6 yX6_isGood yX6_isGood ∈ xbig := xb_m 28 (by decide +kernel) rfl
set_option maxRecDepth 100000 in
theorem xb_432 : Cond.code yX6_isItem cX6_isItem 5 (some .boolean) ∈ xbig := xb_m 743 rfl rfl
theorem xb_433 : Cond.methodLink RX6 95 yX6_isItem ∈ xbig := xb_m 740 (by decide +kernel) rfl
theorem xb_434 : Cond.instanceMethod yX6_isItem ∈ xbig := xb_m 742 (by decide +kernel) rfl
theorem xb_435 : Cond.selects RX6 yX6_isItem yX6_isItem ∈ xbig := xb_m 26 (by decide +kernel) rfl
set_option maxRecDepth 100000 in
theorem xb_436 : Cond.code yX6_fault cX6_fault 2 (some .int) ∈ xbig := xb_m 739 rfl rfl
theorem xb_437 : Cond.methodLink RX6 99 yX6_fault ∈ xbig := xb_m 763 (by decide +kernel) rfl
theorem xb_438 : Cond.instanceMethod yX6_fault ∈ xbig := xb_m 737 (by decide +kernel) rfl
theorem xb_439 : Cond.selects RX6 yX6_fault yX6_fault ∈ xbig := xb_m 738 (by decide +kernel) rfl
set_option maxRecDepth 100000 in
theorem xb_440 : Cond.code yX6_lay cX6_lay 1 (some .int) ∈ xbig := xb_m 762 rfl rfl
set_option maxRecDepth 100000 in
theorem xb_441 : Cond.code yX6_isParish cX6_isParish 2 (some .boolean) ∈ xbig := xb_m 771 rfl rfl
set_option maxRecDepth 100000 in
theorem xb_442 : Cond.code yX6_isMember cX6_isMember 2 (some .boolean) ∈ xbig := xb_m 792 rfl rfl
set_option maxRecDepth 100000 in
theorem xb_443 : Cond.code yX6_isBill cX6_isBill 2 (some .boolean) ∈ xbig := xb_m 833 rfl rfl
set_option maxRecDepth 100000 in
theorem xb_444 : Cond.code yX6_begin cX6_begin 4 (some .int) ∈ xbig := xb_m 784 rfl rfl
set_option maxRecDepth 100000 in
theorem xb_445 : Cond.code yX6_end cX6_end 1 (some .int) ∈ xbig := xb_m 806 rfl rfl
theorem xb_446 : Cond.methodLink RX6 102 yX6_begin ∈ xbig := xb_m 781 (by decide +kernel) rfl
theorem xb_447 : Cond.instanceMethod yX6_begin ∈ xbig := xb_m 783 (by decide +kernel) rfl
theorem xb_448 : Cond.selects RX6 yX6_begin yX6_begin ∈ xbig := xb_m 33 (by decide +kernel) rfl
set_option maxRecDepth 100000 in
theorem xb_449 : Cond.code yX6_parishOf cX6_parishOf 3 (some .int) ∈ xbig := xb_m 780 rfl rfl
set_option maxRecDepth 100000 in
theorem xb_450 : Cond.code yX6_there cX6_there 5 (some .int) ∈ xbig := xb_m 776 rfl rfl
theorem xb_451 : Cond.methodLink RX6 106 yX6_parishOf ∈ xbig := xb_m 777 (by decide +kernel) rfl
theorem xb_452 : Cond.instanceMethod yX6_parishOf ∈ xbig := xb_m 779 (by decide +kernel) rfl
theorem xb_453 : Cond.selects RX6 yX6_parishOf yX6_parishOf ∈ xbig := xb_m 32 (by decide +kernel) rfl
set_option maxRecDepth 100000 in
theorem xb_454 : Cond.code yX6_many cX6_many 3 (some .int) ∈ xbig := xb_m 817 rfl rfl
theorem xb_455 : Cond.constantLong RX6 112 (3) ∈ xbig := xb_m 772 (by decide +kernel) rfl
theorem xb_456 : Cond.methodLink RX6 109 yX6_isParish ∈ xbig := xb_m 768 (by decide +kernel) rfl
theorem xb_457 : Cond.instanceMethod yX6_isParish ∈ xbig := xb_m 770 (by decide +kernel) rfl
theorem xb_458 : Cond.selects RX6 yX6_isParish yX6_isParish ∈ xbig := xb_m 30 (by decide +kernel) rfl
theorem xb_459 : Cond.methodLink RX6 114 yX6_there ∈ xbig := xb_m 773 (by decide +kernel) rfl
theorem xb_460 : Cond.instanceMethod yX6_there ∈ xbig := xb_m 775 (by decide +kernel) rfl
theorem xb_461 : Cond.selects RX6 yX6_there yX6_there ∈ xbig := xb_m 31 (by decide +kernel) rfl
set_option maxRecDepth 100000 in
theorem xb_462 : Cond.code yX6_parish cX6_parish 3 (some .int) ∈ xbig := xb_m 767 rfl rfl
set_option maxRecDepth 100000 in
theorem xb_463 : Cond.code yX6_member cX6_member 3 (some .int) ∈ xbig := xb_m 788 rfl rfl
theorem xb_464 : Cond.constantLong RX6 121 (4) ∈ xbig := xb_m 793 (by decide +kernel) rfl
theorem xb_465 : Cond.methodLink RX6 118 yX6_isMember ∈ xbig := xb_m 789 (by decide +kernel) rfl
theorem xb_466 : Cond.instanceMethod yX6_isMember ∈ xbig := xb_m 791 (by decide +kernel) rfl
theorem xb_467 : Cond.selects RX6 yX6_isMember yX6_isMember ∈ xbig := xb_m 34 (by decide +kernel) rfl
set_option maxRecDepth 100000 in
theorem xb_468 : Cond.code yX6_pace cX6_pace 6 (some .int) ∈ xbig := xb_m 810 rfl rfl
set_option maxRecDepth 100000 in
theorem xb_469 : Cond.code yX6_beds cX6_beds 6 none ∈ xbig := xb_m 814 rfl rfl
theorem xb_470 : Cond.methodLink RX6 135 yX6_many ∈ xbig := xb_m 815 (by decide +kernel) rfl
theorem xb_471 : Cond.static yX6_many ∈ xbig := xb_m 816 (by decide +kernel) rfl
set_option maxRecDepth 100000 in
theorem xb_472 : Cond.code yX6_minds cX6_minds 9 none ∈ xbig := xb_m 821 rfl rfl
theorem xb_473 : Cond.methodLink RX6 123 yX6_end ∈ xbig := xb_m 803 (by decide +kernel) rfl
theorem xb_474 : Cond.instanceMethod yX6_end ∈ xbig := xb_m 805 (by decide +kernel) rfl
theorem xb_475 : Cond.selects RX6 yX6_end yX6_end ∈ xbig := xb_m 36 (by decide +kernel) rfl
theorem xb_476 : Cond.methodLink RX6 126 yX6_pace ∈ xbig := xb_m 807 (by decide +kernel) rfl
theorem xb_477 : Cond.instanceMethod yX6_pace ∈ xbig := xb_m 809 (by decide +kernel) rfl
theorem xb_478 : Cond.selects RX6 yX6_pace yX6_pace ∈ xbig := xb_m 37 (by decide +kernel) rfl
theorem xb_479 : Cond.methodLink RX6 129 yX6_beds ∈ xbig := xb_m 811 (by decide +kernel) rfl
theorem xb_480 : Cond.instanceMethod yX6_beds ∈ xbig := xb_m 813 (by decide +kernel) rfl
theorem xb_481 : Cond.selects RX6 yX6_beds yX6_beds ∈ xbig := xb_m 38 (by decide +kernel) rfl
theorem xb_482 : Cond.methodLink RX6 132 yX6_minds ∈ xbig := xb_m 818 (by decide +kernel) rfl
theorem xb_483 : Cond.instanceMethod yX6_minds ∈ xbig := xb_m 820 (by decide +kernel) rfl
theorem xb_484 : Cond.selects RX6 yX6_minds yX6_minds ∈ xbig := xb_m 39 (by decide +kernel) rfl
set_option maxRecDepth 100000 in
theorem xb_485 : Cond.code yX6_hour cX6_hour 6 none ∈ xbig := xb_m 802 rfl rfl
set_option maxRecDepth 100000 in
theorem xb_486 : Cond.code yX6_atEnd cX6_atEnd 4 (some .int) ∈ xbig := xb_m 825 rfl rfl
theorem xb_487 : Cond.constantLong RX6 138 (99) ∈ xbig := xb_m 798 (by decide +kernel) rfl
theorem xb_488 : Cond.methodLink RX6 140 yX6_hour ∈ xbig := xb_m 799 (by decide +kernel) rfl
theorem xb_489 : Cond.instanceMethod yX6_hour ∈ xbig := xb_m 801 (by decide +kernel) rfl
theorem xb_490 : Cond.selects RX6 yX6_hour yX6_hour ∈ xbig := xb_m 35 (by decide +kernel) rfl
theorem xb_491 : Cond.methodLink RX6 144 yX6_atEnd ∈ xbig := xb_m 822 (by decide +kernel) rfl
theorem xb_492 : Cond.instanceMethod yX6_atEnd ∈ xbig := xb_m 824 (by decide +kernel) rfl
theorem xb_493 : Cond.selects RX6 yX6_atEnd yX6_atEnd ∈ xbig := xb_m 40 (by decide +kernel) rfl
set_option maxRecDepth 100000 in
theorem xb_494 : Cond.code yX6_hours cX6_hours 3 (some .int) ∈ xbig := xb_m 797 rfl rfl
set_option maxRecDepth 100000 in
theorem xb_495 : Cond.code yX6_passes cX6_passes 10 (some .boolean) ∈ xbig := xb_m 837 rfl rfl
theorem xb_496 : Cond.fieldLink RX6 147 "WalkingLawModel" "yeses" "I" ∈ xbig := xb_m 682 (by decide +kernel) rfl
theorem xb_497 : Cond.fieldLink RX6 150 "WalkingLawModel" "noes" "I" ∈ xbig := xb_m 683 (by decide +kernel) rfl
theorem xb_498 : Cond.methodLink RX6 153 yX6_isBill ∈ xbig := xb_m 830 (by decide +kernel) rfl
theorem xb_499 : Cond.instanceMethod yX6_isBill ∈ xbig := xb_m 832 (by decide +kernel) rfl
theorem xb_500 : Cond.selects RX6 yX6_isBill yX6_isBill ∈ xbig := xb_m 41 (by decide +kernel) rfl
theorem xb_501 : Cond.methodLink RX6 156 yX6_passes ∈ xbig := xb_m 834 (by decide +kernel) rfl
theorem xb_502 : Cond.instanceMethod yX6_passes ∈ xbig := xb_m 836 (by decide +kernel) rfl
theorem xb_503 : Cond.selects RX6 yX6_passes yX6_passes ∈ xbig := xb_m 42 (by decide +kernel) rfl
set_option maxRecDepth 100000 in
theorem xb_504 : Cond.code yX6_voices cX6_voices 5 (some .int) ∈ xbig := xb_m 829 rfl rfl
set_option maxRecDepth 100000 in
theorem xb_505 : Cond.code yX6_isRead cX6_isRead 4 (some .boolean) ∈ xbig := xb_m 845 rfl rfl
set_option maxRecDepth 100000 in
theorem xb_506 : Cond.code yX6_isHeld cX6_isHeld 3 (some .boolean) ∈ xbig := xb_m 853 rfl rfl
theorem xb_507 : Cond.methodLink RX6 160 yX6_isRead ∈ xbig := xb_m 842 (by decide +kernel) rfl
theorem xb_508 : Cond.instanceMethod yX6_isRead ∈ xbig := xb_m 844 (by decide +kernel) rfl
theorem xb_509 : Cond.selects RX6 yX6_isRead yX6_isRead ∈ xbig := xb_m 43 (by decide +kernel) rfl
set_option maxRecDepth 100000 in
theorem xb_510 : Cond.code yX6_read cX6_read 2 (some .int) ∈ xbig := xb_m 841 rfl rfl
set_option maxRecDepth 100000 in
theorem xb_511 : Cond.code yX6_bill cX6_bill 3 (some .int) ∈ xbig := xb_m 849 rfl rfl
theorem xb_512 : Cond.methodLink RX6 164 yX6_isHeld ∈ xbig := xb_m 850 (by decide +kernel) rfl
theorem xb_513 : Cond.instanceMethod yX6_isHeld ∈ xbig := xb_m 852 (by decide +kernel) rfl
theorem xb_514 : Cond.selects RX6 yX6_isHeld yX6_isHeld ∈ xbig := xb_m 44 (by decide +kernel) rfl
set_option maxRecDepth 100000 in
theorem xb_515 : Cond.code yX6_copies cX6_copies 4 none ∈ xbig := xb_m 869 rfl rfl
theorem xb_516 : Cond.methodLink RX6 167 yX6_copies ∈ xbig := xb_m 866 (by decide +kernel) rfl
theorem xb_517 : Cond.instanceMethod yX6_copies ∈ xbig := xb_m 868 (by decide +kernel) rfl
theorem xb_518 : Cond.selects RX6 yX6_copies yX6_copies ∈ xbig := xb_m 46 (by decide +kernel) rfl
set_option maxRecDepth 100000 in
theorem xb_519 : Cond.code yX6_tries cX6_tries 3 none ∈ xbig := xb_m 865 rfl rfl
set_option maxRecDepth 100000 in
theorem xb_520 : Cond.code yX6_isAhead cX6_isAhead 1 (some .boolean) ∈ xbig := xb_m 860 rfl rfl
theorem xb_521 : Cond.constantLong RX6 170 (400) ∈ xbig := xb_m 861 (by decide +kernel) rfl
theorem xb_522 : Cond.methodLink RX6 172 yX6_isAhead ∈ xbig := xb_m 858 (by decide +kernel) rfl
theorem xb_523 : Cond.static yX6_isAhead ∈ xbig := xb_m 859 (by decide +kernel) rfl
theorem xb_524 : Cond.methodLink RX6 175 yX6_tries ∈ xbig := xb_m 862 (by decide +kernel) rfl
theorem xb_525 : Cond.instanceMethod yX6_tries ∈ xbig := xb_m 864 (by decide +kernel) rfl
theorem xb_526 : Cond.selects RX6 yX6_tries yX6_tries ∈ xbig := xb_m 45 (by decide +kernel) rfl
set_option maxRecDepth 100000 in
theorem xb_527 : Cond.code yX6_mile cX6_mile 3 (some .int) ∈ xbig := xb_m 857 rfl rfl
set_option maxRecDepth 100000 in
theorem xb_528 : Cond.code yX6_who cX6_who 3 (some .int) ∈ xbig := xb_m 873 rfl rfl
set_option maxRecDepth 100000 in
theorem xb_529 : Cond.code yX6_arrives cX6_arrives 2 (some .int) ∈ xbig := xb_m 877 rfl rfl
set_option maxRecDepth 100000 in
theorem xb_530 : Cond.code yX6_would cX6_would 3 (some .int) ∈ xbig := xb_m 881 rfl rfl
set_option maxRecDepth 100000 in
theorem xb_531 : Cond.code yX6_holds cX6_holds 4 (some .int) ∈ xbig := xb_m 890 rfl rfl
theorem xb_532 : Cond.constantLong RX6 178 (-1) ∈ xbig := xb_m 886 (by decide +kernel) rfl
theorem xb_533 : Cond.methodLink RX6 180 yX6_holds ∈ xbig := xb_m 887 (by decide +kernel) rfl
theorem xb_534 : Cond.instanceMethod yX6_holds ∈ xbig := xb_m 889 (by decide +kernel) rfl
theorem xb_535 : Cond.selects RX6 yX6_holds yX6_holds ∈ xbig := xb_m 47 (by decide +kernel) rfl
set_option maxRecDepth 100000 in
theorem xb_536 : Cond.code yX6_order cX6_order 8 (some .int) ∈ xbig := xb_m 885 rfl rfl
set_option maxRecDepth 100000 in
theorem xb_537 : Cond.code yX6_readAll cX6_readAll 3 (some .int) ∈ xbig := xb_m 902 rfl rfl
theorem xb_538 : Cond.methodLink RX6 183 yX6_readAll ∈ xbig := xb_m 899 (by decide +kernel) rfl
theorem xb_539 : Cond.instanceMethod yX6_readAll ∈ xbig := xb_m 901 (by decide +kernel) rfl
theorem xb_540 : Cond.selects RX6 yX6_readAll yX6_readAll ∈ xbig := xb_m 49 (by decide +kernel) rfl
set_option maxRecDepth 100000 in
theorem xb_541 : Cond.code yX6_held cX6_held 4 (some .int) ∈ xbig := xb_m 898 rfl rfl
theorem xb_542 : Cond.methodLink RX6 186 yX6_held ∈ xbig := xb_m 895 (by decide +kernel) rfl
theorem xb_543 : Cond.instanceMethod yX6_held ∈ xbig := xb_m 897 (by decide +kernel) rfl
theorem xb_544 : Cond.selects RX6 yX6_held yX6_held ∈ xbig := xb_m 48 (by decide +kernel) rfl
set_option maxRecDepth 100000 in
theorem xb_545 : Cond.code yX6_back cX6_back 3 (some .int) ∈ xbig := xb_m 894 rfl rfl
set_option maxRecDepth 100000 in
theorem xb_546 : Cond.code yX6_paces cX6_paces 4 (some .int) ∈ xbig := xb_m 910 rfl rfl
set_option maxRecDepth 100000 in
theorem xb_547 : Cond.code yX6_isParty cX6_isParty 5 (some .boolean) ∈ xbig := xb_m 914 rfl rfl
theorem xb_548 : Cond.methodLink RX6 189 yX6_paces ∈ xbig := xb_m 907 (by decide +kernel) rfl
theorem xb_549 : Cond.instanceMethod yX6_paces ∈ xbig := xb_m 909 (by decide +kernel) rfl
theorem xb_550 : Cond.selects RX6 yX6_paces yX6_paces ∈ xbig := xb_m 50 (by decide +kernel) rfl
theorem xb_551 : Cond.methodLink RX6 192 yX6_isParty ∈ xbig := xb_m 911 (by decide +kernel) rfl
theorem xb_552 : Cond.instanceMethod yX6_isParty ∈ xbig := xb_m 913 (by decide +kernel) rfl
theorem xb_553 : Cond.selects RX6 yX6_isParty yX6_isParty ∈ xbig := xb_m 51 (by decide +kernel) rfl
set_option maxRecDepth 100000 in
theorem xb_554 : Cond.code yX6_parties cX6_parties 7 (some .int) ∈ xbig := xb_m 906 rfl rfl
theorem xb_555 : Cond.fieldLink RX6 195 "WalkingLawModel" "joined" "I" ∈ xbig := xb_m 680 (by decide +kernel) rfl
set_option maxRecDepth 100000 in
theorem xb_556 : Cond.code yX6_join cX6_join 3 (some .int) ∈ xbig := xb_m 918 rfl rfl
set_option maxRecDepth 100000 in
theorem xb_557 : Cond.code yX6_diary cX6_diary 4 (some .int) ∈ xbig := xb_m 922 rfl rfl
set_option maxRecDepth 100000 in
theorem xb_558 : Cond.code yX6_noDiary cX6_noDiary 2 (some .int) ∈ xbig := xb_m 926 rfl rfl
set_option maxRecDepth 100000 in
theorem xb_559 : Cond.code yX6_goes cX6_goes 3 none ∈ xbig := xb_m 934 rfl rfl
theorem xb_560 : Cond.methodLink RX6 198 yX6_goes ∈ xbig := xb_m 931 (by decide +kernel) rfl
theorem xb_561 : Cond.instanceMethod yX6_goes ∈ xbig := xb_m 933 (by decide +kernel) rfl
theorem xb_562 : Cond.selects RX6 yX6_goes yX6_goes ∈ xbig := xb_m 52 (by decide +kernel) rfl
set_option maxRecDepth 100000 in
theorem xb_563 : Cond.code yX6_wrong cX6_wrong 3 (some .int) ∈ xbig := xb_m 930 rfl rfl
set_option maxRecDepth 100000 in
theorem xb_564 : Cond.code yX6_right cX6_right 5 (some .int) ∈ xbig := xb_m 942 rfl rfl
theorem xb_565 : Cond.methodLink RX6 201 yX6_right ∈ xbig := xb_m 939 (by decide +kernel) rfl
theorem xb_566 : Cond.instanceMethod yX6_right ∈ xbig := xb_m 941 (by decide +kernel) rfl
theorem xb_567 : Cond.selects RX6 yX6_right yX6_right ∈ xbig := xb_m 53 (by decide +kernel) rfl
set_option maxRecDepth 100000 in
theorem xb_568 : Cond.code yX6_late cX6_late 6 (some .int) ∈ xbig := xb_m 938 rfl rfl
theorem xb_569 : Cond.constantLong RX6 204 (7919) ∈ xbig := xb_m 955 (by decide +kernel) rfl
theorem xb_570 : Cond.constantLong RX6 206 (6151) ∈ xbig := xb_m 956 (by decide +kernel) rfl
theorem xb_571 : Cond.constantLong RX6 208 (65521) ∈ xbig := xb_m 957 (by decide +kernel) rfl
theorem xb_572 : Cond.constantLong RX6 210 (16) ∈ xbig := xb_m 958 (by decide +kernel) rfl
set_option maxRecDepth 100000 in
theorem xb_573 : Cond.code yX6_yearOf cX6_yearOf 5 (some .int) ∈ xbig := xb_m 954 rfl rfl
set_option maxRecDepth 100000 in
theorem xb_574 : Cond.code yX6_isSeed cX6_isSeed 1 (some .boolean) ∈ xbig := xb_m 949 rfl rfl
theorem xb_575 : Cond.constantLong RX6 212 (9999) ∈ xbig := xb_m 950 (by decide +kernel) rfl
theorem xb_576 : Cond.methodLink RX6 214 yX6_isSeed ∈ xbig := xb_m 947 (by decide +kernel) rfl
theorem xb_577 : Cond.static yX6_isSeed ∈ xbig := xb_m 948 (by decide +kernel) rfl
theorem xb_578 : Cond.methodLink RX6 217 yX6_yearOf ∈ xbig := xb_m 951 (by decide +kernel) rfl
theorem xb_579 : Cond.instanceMethod yX6_yearOf ∈ xbig := xb_m 953 (by decide +kernel) rfl
theorem xb_580 : Cond.selects RX6 yX6_yearOf yX6_yearOf ∈ xbig := xb_m 54 (by decide +kernel) rfl
set_option maxRecDepth 100000 in
theorem xb_581 : Cond.code yX6_year cX6_year 2 (some .int) ∈ xbig := xb_m 946 rfl rfl
set_option maxRecDepth 100000 in
theorem xb_582 : Cond.code yX6_ten cX6_ten 5 (some .int) ∈ xbig := xb_m 962 rfl rfl
set_option maxRecDepth 100000 in
theorem xb_583 : Cond.code yX6_keep cX6_keep 1 (some .int) ∈ xbig := xb_m 966 rfl rfl
set_option maxRecDepth 100000 in
theorem xb_584 : Cond.code yX6_again cX6_again 1 (some .int) ∈ xbig := xb_m 970 rfl rfl
set_option maxRecDepth 100000 in
theorem xb_585 : Cond.code yX6_count cX6_count 2 (some .int) ∈ xbig := xb_m 974 rfl rfl
theorem xb_586 : Cond.classLink RL 7 RX5 ∈ xbig := xb_m 65 (by decide +kernel) rfl
theorem xb_587 : Cond.instantiable RX5 9 ∈ xbig := xb_m 66 (by decide +kernel) rfl
theorem xb_588 : Cond.classLink RL 10 RX6 ∈ xbig := xb_m 647 (by decide +kernel) rfl
theorem xb_589 : Cond.instantiable RX6 19 ∈ xbig := xb_m 648 (by decide +kernel) rfl
theorem xb_590 : Cond.constantLong RL 13 (4294967295) ∈ xbig := xb_m 975 (by decide +kernel) rfl
theorem xb_591 : Cond.methodLink RL 9 yX5_init ∈ xbig := xb_m 67 (by decide +kernel) rfl
theorem xb_592 : Cond.instanceMethod yX5_init ∈ xbig := xb_m 68 (by decide +kernel) rfl
theorem xb_593 : Cond.methodLink RL 12 yX6_init ∈ xbig := xb_m 649 (by decide +kernel) rfl
theorem xb_594 : Cond.instanceMethod yX6_init ∈ xbig := xb_m 650 (by decide +kernel) rfl
theorem xb_595 : Cond.methodLink RL 15 yX5_write ∈ xbig := xb_m 285 (by decide +kernel) rfl
theorem xb_596 : Cond.instanceMethod yX5_write ∈ xbig := xb_m 286 (by decide +kernel) rfl
theorem xb_597 : Cond.selects RX5 yX5_write yX5_write ∈ xbig := xb_m 287 (by decide +kernel) rfl
theorem xb_598 : Cond.methodLink RL 19 yX6_write ∈ xbig := xb_m 724 (by decide +kernel) rfl
theorem xb_599 : Cond.instanceMethod yX6_write ∈ xbig := xb_m 725 (by decide +kernel) rfl
theorem xb_600 : Cond.selects RX6 yX6_write yX6_write ∈ xbig := xb_m 726 (by decide +kernel) rfl
theorem xb_601 : Cond.methodLink RL 20 yX5_wipe ∈ xbig := xb_m 293 (by decide +kernel) rfl
theorem xb_602 : Cond.instanceMethod yX5_wipe ∈ xbig := xb_m 294 (by decide +kernel) rfl
theorem xb_603 : Cond.selects RX5 yX5_wipe yX5_wipe ∈ xbig := xb_m 295 (by decide +kernel) rfl
theorem xb_604 : Cond.methodLink RL 24 yX6_wipe ∈ xbig := xb_m 732 (by decide +kernel) rfl
theorem xb_605 : Cond.instanceMethod yX6_wipe ∈ xbig := xb_m 733 (by decide +kernel) rfl
theorem xb_606 : Cond.selects RX6 yX6_wipe yX6_wipe ∈ xbig := xb_m 734 (by decide +kernel) rfl
theorem xb_607 : Cond.methodLink RL 25 yX5_fault ∈ xbig := xb_m 297 (by decide +kernel) rfl
theorem xb_608 : Cond.instanceMethod yX5_fault ∈ xbig := xb_m 298 (by decide +kernel) rfl
theorem xb_609 : Cond.selects RX5 yX5_fault yX5_fault ∈ xbig := xb_m 299 (by decide +kernel) rfl
theorem xb_610 : Cond.methodLink RL 28 yX6_fault ∈ xbig := xb_m 736 (by decide +kernel) rfl
theorem xb_611 : Cond.methodLink RL 29 yX5_lay ∈ xbig := xb_m 339 (by decide +kernel) rfl
theorem xb_612 : Cond.instanceMethod yX5_lay ∈ xbig := xb_m 340 (by decide +kernel) rfl
theorem xb_613 : Cond.selects RX5 yX5_lay yX5_lay ∈ xbig := xb_m 341 (by decide +kernel) rfl
theorem xb_614 : Cond.methodLink RL 32 yX6_lay ∈ xbig := xb_m 759 (by decide +kernel) rfl
theorem xb_615 : Cond.instanceMethod yX6_lay ∈ xbig := xb_m 760 (by decide +kernel) rfl
theorem xb_616 : Cond.selects RX6 yX6_lay yX6_lay ∈ xbig := xb_m 761 (by decide +kernel) rfl
theorem xb_617 : Cond.methodLink RL 33 yX5_parish ∈ xbig := xb_m 344 (by decide +kernel) rfl
theorem xb_618 : Cond.instanceMethod yX5_parish ∈ xbig := xb_m 345 (by decide +kernel) rfl
theorem xb_619 : Cond.selects RX5 yX5_parish yX5_parish ∈ xbig := xb_m 346 (by decide +kernel) rfl
theorem xb_620 : Cond.methodLink RL 37 yX6_parish ∈ xbig := xb_m 764 (by decide +kernel) rfl
theorem xb_621 : Cond.instanceMethod yX6_parish ∈ xbig := xb_m 765 (by decide +kernel) rfl
theorem xb_622 : Cond.selects RX6 yX6_parish yX6_parish ∈ xbig := xb_m 766 (by decide +kernel) rfl
theorem xb_623 : Cond.methodLink RL 38 yX5_member ∈ xbig := xb_m 356 (by decide +kernel) rfl
theorem xb_624 : Cond.instanceMethod yX5_member ∈ xbig := xb_m 357 (by decide +kernel) rfl
theorem xb_625 : Cond.selects RX5 yX5_member yX5_member ∈ xbig := xb_m 358 (by decide +kernel) rfl
theorem xb_626 : Cond.methodLink RL 41 yX6_member ∈ xbig := xb_m 785 (by decide +kernel) rfl
theorem xb_627 : Cond.instanceMethod yX6_member ∈ xbig := xb_m 786 (by decide +kernel) rfl
theorem xb_628 : Cond.selects RX6 yX6_member yX6_member ∈ xbig := xb_m 787 (by decide +kernel) rfl
theorem xb_629 : Cond.methodLink RL 42 yX5_hours ∈ xbig := xb_m 376 (by decide +kernel) rfl
theorem xb_630 : Cond.instanceMethod yX5_hours ∈ xbig := xb_m 377 (by decide +kernel) rfl
theorem xb_631 : Cond.selects RX5 yX5_hours yX5_hours ∈ xbig := xb_m 378 (by decide +kernel) rfl
theorem xb_632 : Cond.methodLink RL 46 yX6_hours ∈ xbig := xb_m 794 (by decide +kernel) rfl
theorem xb_633 : Cond.instanceMethod yX6_hours ∈ xbig := xb_m 795 (by decide +kernel) rfl
theorem xb_634 : Cond.selects RX6 yX6_hours yX6_hours ∈ xbig := xb_m 796 (by decide +kernel) rfl
theorem xb_635 : Cond.methodLink RL 47 yX5_voices ∈ xbig := xb_m 421 (by decide +kernel) rfl
theorem xb_636 : Cond.instanceMethod yX5_voices ∈ xbig := xb_m 422 (by decide +kernel) rfl
theorem xb_637 : Cond.selects RX5 yX5_voices yX5_voices ∈ xbig := xb_m 423 (by decide +kernel) rfl
theorem xb_638 : Cond.methodLink RL 51 yX6_voices ∈ xbig := xb_m 826 (by decide +kernel) rfl
theorem xb_639 : Cond.instanceMethod yX6_voices ∈ xbig := xb_m 827 (by decide +kernel) rfl
theorem xb_640 : Cond.selects RX6 yX6_voices yX6_voices ∈ xbig := xb_m 828 (by decide +kernel) rfl
theorem xb_641 : Cond.methodLink RL 52 yX5_read ∈ xbig := xb_m 453 (by decide +kernel) rfl
theorem xb_642 : Cond.instanceMethod yX5_read ∈ xbig := xb_m 454 (by decide +kernel) rfl
theorem xb_643 : Cond.selects RX5 yX5_read yX5_read ∈ xbig := xb_m 455 (by decide +kernel) rfl
theorem xb_644 : Cond.methodLink RL 55 yX6_read ∈ xbig := xb_m 838 (by decide +kernel) rfl
theorem xb_645 : Cond.instanceMethod yX6_read ∈ xbig := xb_m 839 (by decide +kernel) rfl
theorem xb_646 : Cond.selects RX6 yX6_read yX6_read ∈ xbig := xb_m 840 (by decide +kernel) rfl
theorem xb_647 : Cond.methodLink RL 56 yX5_bill ∈ xbig := xb_m 463 (by decide +kernel) rfl
theorem xb_648 : Cond.instanceMethod yX5_bill ∈ xbig := xb_m 464 (by decide +kernel) rfl
theorem xb_649 : Cond.selects RX5 yX5_bill yX5_bill ∈ xbig := xb_m 465 (by decide +kernel) rfl
theorem xb_650 : Cond.methodLink RL 59 yX6_bill ∈ xbig := xb_m 846 (by decide +kernel) rfl
theorem xb_651 : Cond.instanceMethod yX6_bill ∈ xbig := xb_m 847 (by decide +kernel) rfl
theorem xb_652 : Cond.selects RX6 yX6_bill yX6_bill ∈ xbig := xb_m 848 (by decide +kernel) rfl
theorem xb_653 : Cond.methodLink RL 60 yX5_mile ∈ xbig := xb_m 471 (by decide +kernel) rfl
theorem xb_654 : Cond.instanceMethod yX5_mile ∈ xbig := xb_m 472 (by decide +kernel) rfl
theorem xb_655 : Cond.selects RX5 yX5_mile yX5_mile ∈ xbig := xb_m 473 (by decide +kernel) rfl
theorem xb_656 : Cond.methodLink RL 63 yX6_mile ∈ xbig := xb_m 854 (by decide +kernel) rfl
theorem xb_657 : Cond.instanceMethod yX6_mile ∈ xbig := xb_m 855 (by decide +kernel) rfl
theorem xb_658 : Cond.selects RX6 yX6_mile yX6_mile ∈ xbig := xb_m 856 (by decide +kernel) rfl
theorem xb_659 : Cond.methodLink RL 64 yX5_who ∈ xbig := xb_m 486 (by decide +kernel) rfl
theorem xb_660 : Cond.instanceMethod yX5_who ∈ xbig := xb_m 487 (by decide +kernel) rfl
theorem xb_661 : Cond.selects RX5 yX5_who yX5_who ∈ xbig := xb_m 488 (by decide +kernel) rfl
theorem xb_662 : Cond.methodLink RL 67 yX6_who ∈ xbig := xb_m 870 (by decide +kernel) rfl
theorem xb_663 : Cond.instanceMethod yX6_who ∈ xbig := xb_m 871 (by decide +kernel) rfl
theorem xb_664 : Cond.selects RX6 yX6_who yX6_who ∈ xbig := xb_m 872 (by decide +kernel) rfl
theorem xb_665 : Cond.methodLink RL 68 yX5_arrives ∈ xbig := xb_m 490 (by decide +kernel) rfl
theorem xb_666 : Cond.instanceMethod yX5_arrives ∈ xbig := xb_m 491 (by decide +kernel) rfl
theorem xb_667 : Cond.selects RX5 yX5_arrives yX5_arrives ∈ xbig := xb_m 492 (by decide +kernel) rfl
theorem xb_668 : Cond.methodLink RL 71 yX6_arrives ∈ xbig := xb_m 874 (by decide +kernel) rfl
theorem xb_669 : Cond.instanceMethod yX6_arrives ∈ xbig := xb_m 875 (by decide +kernel) rfl
theorem xb_670 : Cond.selects RX6 yX6_arrives yX6_arrives ∈ xbig := xb_m 876 (by decide +kernel) rfl
theorem xb_671 : Cond.methodLink RL 72 yX5_would ∈ xbig := xb_m 495 (by decide +kernel) rfl
theorem xb_672 : Cond.instanceMethod yX5_would ∈ xbig := xb_m 496 (by decide +kernel) rfl
theorem xb_673 : Cond.selects RX5 yX5_would yX5_would ∈ xbig := xb_m 497 (by decide +kernel) rfl
theorem xb_674 : Cond.methodLink RL 75 yX6_would ∈ xbig := xb_m 878 (by decide +kernel) rfl
theorem xb_675 : Cond.instanceMethod yX6_would ∈ xbig := xb_m 879 (by decide +kernel) rfl
theorem xb_676 : Cond.selects RX6 yX6_would yX6_would ∈ xbig := xb_m 880 (by decide +kernel) rfl
theorem xb_677 : Cond.methodLink RL 76 yX5_order ∈ xbig := xb_m 499 (by decide +kernel) rfl
theorem xb_678 : Cond.instanceMethod yX5_order ∈ xbig := xb_m 500 (by decide +kernel) rfl
theorem xb_679 : Cond.selects RX5 yX5_order yX5_order ∈ xbig := xb_m 501 (by decide +kernel) rfl
theorem xb_680 : Cond.methodLink RL 79 yX6_order ∈ xbig := xb_m 882 (by decide +kernel) rfl
theorem xb_681 : Cond.instanceMethod yX6_order ∈ xbig := xb_m 883 (by decide +kernel) rfl
theorem xb_682 : Cond.selects RX6 yX6_order yX6_order ∈ xbig := xb_m 884 (by decide +kernel) rfl
theorem xb_683 : Cond.methodLink RL 80 yX5_back ∈ xbig := xb_m 526 (by decide +kernel) rfl
theorem xb_684 : Cond.instanceMethod yX5_back ∈ xbig := xb_m 527 (by decide +kernel) rfl
theorem xb_685 : Cond.selects RX5 yX5_back yX5_back ∈ xbig := xb_m 528 (by decide +kernel) rfl
theorem xb_686 : Cond.methodLink RL 83 yX6_back ∈ xbig := xb_m 891 (by decide +kernel) rfl
theorem xb_687 : Cond.instanceMethod yX6_back ∈ xbig := xb_m 892 (by decide +kernel) rfl
theorem xb_688 : Cond.selects RX6 yX6_back yX6_back ∈ xbig := xb_m 893 (by decide +kernel) rfl
theorem xb_689 : Cond.methodLink RL 84 yX5_parties ∈ xbig := xb_m 545 (by decide +kernel) rfl
theorem xb_690 : Cond.instanceMethod yX5_parties ∈ xbig := xb_m 546 (by decide +kernel) rfl
theorem xb_691 : Cond.selects RX5 yX5_parties yX5_parties ∈ xbig := xb_m 547 (by decide +kernel) rfl
theorem xb_692 : Cond.methodLink RL 87 yX6_parties ∈ xbig := xb_m 903 (by decide +kernel) rfl
theorem xb_693 : Cond.instanceMethod yX6_parties ∈ xbig := xb_m 904 (by decide +kernel) rfl
theorem xb_694 : Cond.selects RX6 yX6_parties yX6_parties ∈ xbig := xb_m 905 (by decide +kernel) rfl
theorem xb_695 : Cond.methodLink RL 88 yX5_join ∈ xbig := xb_m 562 (by decide +kernel) rfl
theorem xb_696 : Cond.instanceMethod yX5_join ∈ xbig := xb_m 563 (by decide +kernel) rfl
theorem xb_697 : Cond.selects RX5 yX5_join yX5_join ∈ xbig := xb_m 564 (by decide +kernel) rfl
theorem xb_698 : Cond.methodLink RL 91 yX6_join ∈ xbig := xb_m 915 (by decide +kernel) rfl
theorem xb_699 : Cond.instanceMethod yX6_join ∈ xbig := xb_m 916 (by decide +kernel) rfl
theorem xb_700 : Cond.selects RX6 yX6_join yX6_join ∈ xbig := xb_m 917 (by decide +kernel) rfl
theorem xb_701 : Cond.methodLink RL 92 yX5_diary ∈ xbig := xb_m 566 (by decide +kernel) rfl
theorem xb_702 : Cond.instanceMethod yX5_diary ∈ xbig := xb_m 567 (by decide +kernel) rfl
theorem xb_703 : Cond.selects RX5 yX5_diary yX5_diary ∈ xbig := xb_m 568 (by decide +kernel) rfl
theorem xb_704 : Cond.methodLink RL 95 yX6_diary ∈ xbig := xb_m 919 (by decide +kernel) rfl
theorem xb_705 : Cond.instanceMethod yX6_diary ∈ xbig := xb_m 920 (by decide +kernel) rfl
theorem xb_706 : Cond.selects RX6 yX6_diary yX6_diary ∈ xbig := xb_m 921 (by decide +kernel) rfl
theorem xb_707 : Cond.methodLink RL 96 yX5_noDiary ∈ xbig := xb_m 574 (by decide +kernel) rfl
theorem xb_708 : Cond.instanceMethod yX5_noDiary ∈ xbig := xb_m 575 (by decide +kernel) rfl
theorem xb_709 : Cond.selects RX5 yX5_noDiary yX5_noDiary ∈ xbig := xb_m 576 (by decide +kernel) rfl
theorem xb_710 : Cond.methodLink RL 99 yX6_noDiary ∈ xbig := xb_m 923 (by decide +kernel) rfl
theorem xb_711 : Cond.instanceMethod yX6_noDiary ∈ xbig := xb_m 924 (by decide +kernel) rfl
theorem xb_712 : Cond.selects RX6 yX6_noDiary yX6_noDiary ∈ xbig := xb_m 925 (by decide +kernel) rfl
theorem xb_713 : Cond.methodLink RL 100 yX5_wrong ∈ xbig := xb_m 578 (by decide +kernel) rfl
theorem xb_714 : Cond.instanceMethod yX5_wrong ∈ xbig := xb_m 579 (by decide +kernel) rfl
theorem xb_715 : Cond.selects RX5 yX5_wrong yX5_wrong ∈ xbig := xb_m 580 (by decide +kernel) rfl
theorem xb_716 : Cond.methodLink RL 103 yX6_wrong ∈ xbig := xb_m 927 (by decide +kernel) rfl
theorem xb_717 : Cond.instanceMethod yX6_wrong ∈ xbig := xb_m 928 (by decide +kernel) rfl
theorem xb_718 : Cond.selects RX6 yX6_wrong yX6_wrong ∈ xbig := xb_m 929 (by decide +kernel) rfl
theorem xb_719 : Cond.methodLink RL 104 yX5_late ∈ xbig := xb_m 592 (by decide +kernel) rfl
theorem xb_720 : Cond.instanceMethod yX5_late ∈ xbig := xb_m 593 (by decide +kernel) rfl
theorem xb_721 : Cond.selects RX5 yX5_late yX5_late ∈ xbig := xb_m 594 (by decide +kernel) rfl
theorem xb_722 : Cond.methodLink RL 107 yX6_late ∈ xbig := xb_m 935 (by decide +kernel) rfl
theorem xb_723 : Cond.instanceMethod yX6_late ∈ xbig := xb_m 936 (by decide +kernel) rfl
theorem xb_724 : Cond.selects RX6 yX6_late yX6_late ∈ xbig := xb_m 937 (by decide +kernel) rfl
theorem xb_725 : Cond.methodLink RL 108 yX5_year ∈ xbig := xb_m 612 (by decide +kernel) rfl
theorem xb_726 : Cond.instanceMethod yX5_year ∈ xbig := xb_m 613 (by decide +kernel) rfl
theorem xb_727 : Cond.selects RX5 yX5_year yX5_year ∈ xbig := xb_m 614 (by decide +kernel) rfl
theorem xb_728 : Cond.methodLink RL 111 yX6_year ∈ xbig := xb_m 943 (by decide +kernel) rfl
theorem xb_729 : Cond.instanceMethod yX6_year ∈ xbig := xb_m 944 (by decide +kernel) rfl
theorem xb_730 : Cond.selects RX6 yX6_year yX6_year ∈ xbig := xb_m 945 (by decide +kernel) rfl
theorem xb_731 : Cond.methodLink RL 112 yX5_ten ∈ xbig := xb_m 631 (by decide +kernel) rfl
theorem xb_732 : Cond.instanceMethod yX5_ten ∈ xbig := xb_m 632 (by decide +kernel) rfl
theorem xb_733 : Cond.selects RX5 yX5_ten yX5_ten ∈ xbig := xb_m 633 (by decide +kernel) rfl
theorem xb_734 : Cond.methodLink RL 115 yX6_ten ∈ xbig := xb_m 959 (by decide +kernel) rfl
theorem xb_735 : Cond.instanceMethod yX6_ten ∈ xbig := xb_m 960 (by decide +kernel) rfl
theorem xb_736 : Cond.selects RX6 yX6_ten yX6_ten ∈ xbig := xb_m 961 (by decide +kernel) rfl
theorem xb_737 : Cond.methodLink RL 116 yX5_keep ∈ xbig := xb_m 635 (by decide +kernel) rfl
theorem xb_738 : Cond.instanceMethod yX5_keep ∈ xbig := xb_m 636 (by decide +kernel) rfl
theorem xb_739 : Cond.selects RX5 yX5_keep yX5_keep ∈ xbig := xb_m 637 (by decide +kernel) rfl
theorem xb_740 : Cond.methodLink RL 119 yX6_keep ∈ xbig := xb_m 963 (by decide +kernel) rfl
theorem xb_741 : Cond.instanceMethod yX6_keep ∈ xbig := xb_m 964 (by decide +kernel) rfl
theorem xb_742 : Cond.selects RX6 yX6_keep yX6_keep ∈ xbig := xb_m 965 (by decide +kernel) rfl
theorem xb_743 : Cond.methodLink RL 120 yX5_again ∈ xbig := xb_m 639 (by decide +kernel) rfl
theorem xb_744 : Cond.instanceMethod yX5_again ∈ xbig := xb_m 640 (by decide +kernel) rfl
theorem xb_745 : Cond.selects RX5 yX5_again yX5_again ∈ xbig := xb_m 641 (by decide +kernel) rfl
theorem xb_746 : Cond.methodLink RL 123 yX6_again ∈ xbig := xb_m 967 (by decide +kernel) rfl
theorem xb_747 : Cond.instanceMethod yX6_again ∈ xbig := xb_m 968 (by decide +kernel) rfl
theorem xb_748 : Cond.selects RX6 yX6_again yX6_again ∈ xbig := xb_m 969 (by decide +kernel) rfl
theorem xb_749 : Cond.methodLink RL 124 yX5_count ∈ xbig := xb_m 643 (by decide +kernel) rfl
theorem xb_750 : Cond.instanceMethod yX5_count ∈ xbig := xb_m 644 (by decide +kernel) rfl
theorem xb_751 : Cond.selects RX5 yX5_count yX5_count ∈ xbig := xb_m 645 (by decide +kernel) rfl
theorem xb_752 : Cond.methodLink RL 127 yX6_count ∈ xbig := xb_m 971 (by decide +kernel) rfl
theorem xb_753 : Cond.instanceMethod yX6_count ∈ xbig := xb_m 972 (by decide +kernel) rfl
theorem xb_754 : Cond.selects RX6 yX6_count yX6_count ∈ xbig := xb_m 973 (by decide +kernel) rfl
end
section
/-! THE WORLD AS ONE MEMORY. M.1 k j: the int at place j of cell k (a field's slot or an array's element); M.2: which road a reference names. -/
abbrev xm : Type := (Nat → Nat → Int32) × (Nat → Bool)
def up (M : xm) (k j : Nat) (v : Int32) : xm := (fun a => if a = k then upd (M.1 k) j v else M.1 a, M.2)
def upr (M : xm) (k : Nat) (b : Bool) : xm := (M.1, fun a => if a = k then b else M.2 a)
def rd (b : Bool) : Nat := if b then 13 else 4
def xl {α β : Type} (v : α) (k : α → β) : β := k v
def xchk {ρ : Type} (i : Int32) (n : Nat) (o : Option ρ) : Option ρ := if i < 0 ∨ n ≤ i.toNatClampNeg then none else o
def xnz {ρ : Type} (y : Int32) (o : Option ρ) : Option ρ := if y = 0 then none else o
def xbo {ρ : Type} (v : Int32) (o : Option ρ) : Option ρ := if v = 0 ∨ v = 1 then o else none
def xlays : List (Nat × Nat) := [(0,5), (0,3),(2,300),(1,3),
  (0,1),(1,6),(1,6),(1,6),(1,6),(1,8),(1,8),(1,8),(1,6), (0,1),(1,6),(1,6),(1,6),(1,6),(1,8),(1,8),(1,8),(1,6),
  (0,4),(1,8),(1,4),(1,4),(1,4), (0,4),(1,8),(1,4),(1,4),(1,4), (3,2), (0,4),(1,8),(1,4),(1,4),(1,4), (0,4),(1,8),(1,4),(1,4),(1,4),
  (0,0),(1,10),(1,10),(1,10),(1,41), (0,2),(4,4),(1,4),(1,4),(1,4),(1,4),(1,4),(1,4),
  (9,0),(9,0),(9,0),(9,0),
  (0,6),(2,300),(1,4),(1,2),(1,36),(1,2),(1,48),(1,100),(1,30),(5,4210),(1,4),(1,4),(1,3)]
def xlay (k : Nat) : Nat × Nat := xlays.getD k (9, 0)
def xfs (ad : Nat → Nat) (f : Nat → Int32) (g : Nat → Bool) (k : Nat) : Nat → List Value
  | 0 => [.ref (ad (k + 1)), .ref (ad (k + 2)), .ref (ad (k + 3)), .int (f 3), .ref (ad (k + 4))]
  | 1 => [.int (f 0), .ref (ad (k + 1)), .ref (ad (k + 2)), .ref (ad (k + 3)), .ref (ad (k + 4)), .int (f 5), .int (f 6), .ref (ad (k + 5)), .ref (ad (k + 6)), .ref (ad (k + 7)), .ref (ad (k + 8)), .int (f 11), .int (f 12)]
  | 2 => [.ref (ad (k + 1)), .ref (ad (k + 6)), .ref (ad (k + 7)), .int (f 3)]
  | 3 => [.ref (ad (k + 1)), .ref (ad (k + 2)), .int (f 2)]
  | 4 => [.ref (ad (rd (g k))), .ref (ad (k + 1)), .ref (ad (k + 2)), .ref (ad (k + 3)), .ref (ad (k + 4)), .int (f 5)]
  | 5 => [.ref (ad 1), .ref (ad (rd (g 0))), .ref (ad (rd (g 100))), .ref (ad 22), .ref (ad 27), .ref (ad 32), .int (f 6), .ref (ad 43), .ref (ad 48)]
  | _ => [.int (f 0), .ref (ad (k + 1)), .int (f 2), .ref (ad (k + 2)), .ref (ad (k + 3)), .ref (ad (k + 4)), .ref (ad (k + 5)), .ref (ad (k + 6)), .ref (ad (k + 7)), .int (f 9), .int (f 10), .ref (ad (k + 8)), .ref (ad (k + 9)), .ref (ad (k + 10)), .ref (ad (k + 11)), .int (f 15), .ref (ad (k + 12)), .int (f 17), .int (f 18)]
def xcl (ad : Nat → Nat) (cs : Nat → ClassId) (f : Nat → Int32) (g : Nat → Bool) (k : Nat) : Nat × Nat → va_E
  | (0, n) => .inr (n, xfs ad f g k n)
  | (1, n) => .inl (cs 0, n, .inl f)
  | (2, n) => .inl (cs 1, n, .inl f)
  | (3, n) => .inl (cs 3, n, .inr (.inr (.inr (.inr (fun j => some (ad (33 + 5 * j)))))))
  | (4, n) => .inl (cs 2, n, .inr (.inr (.inr (.inr (fun j => some (ad (50 + j)))))))
  | (_, n) => .inl (cs 4, n, .inl f)
def xcell (ad : Nat → Nat) (cs : Nat → ClassId) (M : xm) (k : Nat) : va_E := xcl ad cs (M.1 k) M.2 k (xlay k)
def xw (S : List Nat) (ad : Nat → Nat) (cs : Nat → ClassId) (M : xm) : va_W := S.map (fun k => (ad k, xcell ad cs M k))
abbrev classes : List vw_C := [(RX0, TX0, 5), (RX1, TX1, 13), (RX2, TX2, 4), (RX3, TX3, 3), (RX4, TX4, 6), (RX5, TX5, 9), (RX6, TX6, 19)]
abbrev xtys (cs : Nat → ClassId) : List (ClassId × FieldType) := [(cs 0, .int), (cs 1, .byte), (cs 2, .array .int), (cs 3, .object "WalkingLaw$Walk"), (cs 4, .boolean)]
def xst (D : va_G) (cs : Nat → ClassId) (U : State) : Prop := va_K D classes (xtys cs) U ∧ (∀ w ∈ xbig, va_Nw w U) ∧ (∀ w ∈ xnst, va_Nw w U)
def xD (A : Nat → Prop) (S : List Nat) (ad : Nat → Nat) : Prop := S.Nodup ∧ (∀ j k, j ∈ S → k ∈ S → ad j = ad k → j = k) ∧ ∀ k, k ∈ S → A (ad k)
def xA (S : List Nat) (ad : Nat → Nat) : Nat → Prop := fun q => ∃ k, k ∈ S ∧ q = ad k
def xdist (S : List Nat) (ad : Nat → Nat) : Prop := S.Nodup ∧ (∀ j k, j ∈ S → k ∈ S → ad j = ad k → j = k)
theorem xdist.D {S : List Nat} {ad : Nat → Nat} (h : xdist S ad) : xD (xA S ad) S ad := ⟨h.1, h.2, fun k hk => ⟨k, hk, rfl⟩⟩
theorem xD.dist {A : Nat → Prop} {S : List Nat} {ad : Nat → Nat} (h : xD A S ad) : xdist S ad := ⟨h.1, h.2.1⟩
def CX (p : Program) (s : State) (m : MethodId) (args : Array Value) (meth : Method) (c : Code) (cc : ByteArray) (nL : Nat) (own : String) (ret : Option FieldType) (D : va_G) (cs : Nat → ClassId) (A : Nat → Prop) (S : List Nat) (ad : Nat → Nat) : Prop :=
  p.tables.exec = Jvm.exec ∧ c.code = cc ∧ c.maxLocals = nL ∧ s.vm.findClass own = some m.cls ∧ xst D cs s ∧ xD A S ad ∧ meth.locks = false ∧ meth.sig.returnType = ret
def XJ {ρ : Type} (p : Program) (l : Launch) (e : Env) (R : Room) (s : State) (m : MethodId) (args : Array Value) (below : List Frame) (meth : Method) (c : Code) (D : va_G) (cs : Nat → ClassId) (A : Nat → Prop) (S : List Nat) (ad : Nat → Nat) (nL : Nat) (Q : ρ → State → Prop) (pc : Nat) (lv : List (Nat × Value)) (st : List Value) (M : xm) (o : Option ρ) : Prop :=
  ∀ (H : Heap) (locs : List Loc) (ls : Array Slot), lv_has ls nL lv → va_P D classes (xw S ad cs M) H → va_S A s.heap H locs → ∀ r, o = some r → W p l e R s m args below meth c H locs 0 0 (Q r) (F0 m pc ls st)
-- what xst keeps
theorem xst.hts {D : va_G} {cs : Nat → ClassId} {U : State} (h : xst D cs U) (a : Array Value) : ∀ w ∈ xbig, w.before a U = true := fun w hw => va_Nw.use (by
  have := (List.mem_filter.mp hw).2
  unfold xgd at this
  simp only [Bool.and_eq_true] at this
  exact this.1) (h.2.1 w hw)
theorem xst.same {D : va_G} {cs : Nat → ClassId} {u U : State} (h : u.vm = U.vm) (hx : xst D cs u) : xst D cs U := by
  refine ⟨va_K.moved (by rw [h]; exact Vm.Alike.refl U.vm) hx.1, fun w hw => ?_, fun w hw => ?_⟩
  · refine va_Nw.same ?_ h (hx.2.1 w hw)
    have := (List.mem_filter.mp hw).2
    unfold xgd at this
    simp only [Bool.and_eq_true] at this
    exact this.1
  · exact va_Nw.same (List.all_eq_true.mp xnst_ok w hw) h (hx.2.2 w hw)
theorem xnst_w {w : Cond} (hw : w ∈ xnst) {s U : State} (hW : s.WarmedH U.vm) (h : va_Nw w s) : va_Nw w U := by
  unfold xnst at hw
  simp only [List.mem_cons, List.not_mem_nil, or_false] at hw
  rcases hw with rfl | rfl | rfl | rfl | rfl | rfl | rfl | rfl | rfl | rfl | rfl | rfl | rfl | rfl | rfl | rfl | rfl | rfl | rfl | rfl | rfl | rfl | rfl | rfl | rfl | rfl | rfl | rfl | rfl | rfl | rfl | rfl | rfl | rfl | rfl <;> first | exact va_Nw.warmF hW h | exact va_Nw.warmM hW h
theorem xst.warm {D : va_G} {cs : Nat → ClassId} {s U : State} (hW : s.WarmedH U.vm) (hx : xst D cs s) : xst D cs U := by
  refine ⟨va_K.moved hW.alike hx.1, fun w hw => ?_, fun w hw => xnst_w hw hW (hx.2.2 w hw)⟩
  have h2 := (List.mem_filter.mp hw).2
  unfold xgd at h2
  exact word_at hW (Or.inl h2) (hx.2.1 w hw)
theorem xgood {ws : List Cond} (h : ∀ w ∈ ws, w ∈ xbig) : GoodIn xbig ws := fun w hw => ⟨h w hw, Or.inl (List.mem_filter.mp (h w hw)).2⟩
-- places
theorem xw_at {S : List Nat} {ad : Nat → Nat} {cs : Nat → ClassId} {M : xm} {k : Nat} (h : k ∈ S) : ∃ q : Nat, (xw S ad cs M)[q]? = some (ad k, xcell ad cs M k) ∧ S[q]? = some k := by
  obtain ⟨q, hq⟩ := List.getElem?_of_mem h
  exact ⟨q, by unfold xw; rw [List.getElem?_map, hq]; rfl, hq⟩
theorem xw_D {A : Nat → Prop} {S : List Nat} {ad : Nat → Nat} {cs : Nat → ClassId} {M : xm} (h : xD A S ad) : va_D A (xw S ad cs M) := by
  unfold xw
  refine ⟨fun i j p q h1 h2 h3 => ?_, fun k q hk => ?_⟩
  · rw [List.getElem?_map] at h1 h2
    obtain ⟨a, ha, rfl⟩ := Option.map_eq_some_iff.mp h1
    obtain ⟨b, hb, rfl⟩ := Option.map_eq_some_iff.mp h2
    have e : a = b := h.2.1 a b (List.mem_of_getElem? ha) (List.mem_of_getElem? hb) h3
    subst e
    exact (List.getElem?_inj (by
      obtain ⟨h9, -⟩ := List.getElem?_eq_some_iff.mp ha
      exact h9) h.1).mp (ha.trans hb.symm)
  · rw [List.getElem?_map] at hk
    obtain ⟨a, ha, rfl⟩ := Option.map_eq_some_iff.mp hk
    exact h.2.2 a (List.mem_of_getElem? ha)
theorem xw_set {S : List Nat} {ad : Nat → Nat} {cs : Nat → ClassId} {M M' : xm} {k q : Nat} {e : va_E} (hn : S.Nodup) (hq : S[q]? = some k) (he : xcell ad cs M' k = e) (ho : ∀ j, j ≠ k → xcell ad cs M' j = xcell ad cs M j) : (xw S ad cs M).set q (ad k, e) = xw S ad cs M' := by
  unfold xw
  apply List.ext_getElem?
  intro i
  rw [List.getElem?_set, List.getElem?_map, List.getElem?_map, List.length_map]
  obtain ⟨h9, -⟩ := List.getElem?_eq_some_iff.mp hq
  by_cases h : q = i
  · subst h
    rw [if_pos rfl, if_pos h9, hq]
    simp [he]
  · rw [if_neg h]
    cases hi : S[i]? with
    | none => rfl
    | some j =>
      have hjk : j ≠ k := by
        intro e2
        subst e2
        exact h ((List.getElem?_inj h9 hn).mp (hq.trans hi.symm))
      simp [ho j hjk]
theorem up_ne {M : xm} {k j a : Nat} {v : Int32} (h : a ≠ k) : (up M k j v).1 a = M.1 a := by
  show (if a = k then _ else _) = _
  rw [if_neg h]
theorem up_eq {M : xm} {k j : Nat} {v : Int32} : (up M k j v).1 k = upd (M.1 k) j v := by
  show (if k = k then _ else _) = _
  rw [if_pos rfl]
theorem up_cell {ad : Nat → Nat} {cs : Nat → ClassId} {M : xm} {k j : Nat} {v : Int32} : ∀ a, a ≠ k → xcell ad cs (up M k j v) a = xcell ad cs M a := by
  intro a h
  unfold xcell
  rw [up_ne h]
  rfl
section XR
variable {ρ : Type} {p : Program} {l : Launch} {e : Env} {R : Room} {s : State} {m : MethodId} {args : Array Value} {below : List Frame} {meth : Method} {c : Code} {D : va_G} {cs : Nat → ClassId} {A : Nat → Prop} {S : List Nat} {ad : Nat → Nat} {nL : Nat} {Q : ρ → State → Prop} {cc : ByteArray} {own : String} {ret : Option FieldType}
variable {pc : Nat} {lv : List (Nat × Value)} {st : List Value} {M : xm} {o : Option ρ}

theorem xj_none : XJ p l e R s m args below meth c D cs A S ad nL Q (pc) lv (st) M none := fun H locs ls hl hP hS r hr => by cases hr
theorem xj_sub (ks : List Nat) {lv' : List (Nat × Value)} (hl : lv_pick lv ks = lv') (k : XJ p l e R s m args below meth c D cs A S ad nL Q (pc) lv' (st) M o) : XJ p l e R s m args below meth c D cs A S ad nL Q (pc) lv (st) M o := fun H locs ls hl2 hP hS r hr => k H locs ls (lv_sub hl2 ks hl) hP hS r hr
theorem xj_eq {o2 : Option ρ} (h : o = o2) (k : XJ p l e R s m args below meth c D cs A S ad nL Q (pc) lv (st) M o2) : XJ p l e R s m args below meth c D cs A S ad nL Q (pc) lv (st) M o := by rw [h]; exact k
theorem xj_xl {α : Type} {v : α} {f : α → Option ρ} (k : ∀ x, x = v → XJ p l e R s m args below meth c D cs A S ad nL Q (pc) lv (st) M (f x)) : XJ p l e R s m args below meth c D cs A S ad nL Q (pc) lv (st) M (xl v f) := k v rfl
theorem xj_ite {q : Prop} [Decidable q] {o1 o2 : Option ρ} (k1 : q → XJ p l e R s m args below meth c D cs A S ad nL Q (pc) lv (st) M o1) (k2 : ¬ q → XJ p l e R s m args below meth c D cs A S ad nL Q (pc) lv (st) M o2) : XJ p l e R s m args below meth c D cs A S ad nL Q (pc) lv (st) M (if q then o1 else o2) := by
  by_cases h : q
  · rw [if_pos h]; exact k1 h
  · rw [if_neg h]; exact k2 h
theorem xj_iadd (Z : CX p s m args meth c cc nL own ret D cs A S ad) {x y : Int32} (hdg : decode cc pc = .ok (.iadd, 1))  (k : XJ p l e R s m args below meth c D cs A S ad nL Q (pc + 1) lv (.int (x + y) :: st) M o) : XJ p l e R s m args below meth c D cs A S ad nL Q (pc) lv (.int y :: .int x :: st) M o := fun H locs ls hl hP hS r hr => lv_iadd Z.1 Z.2.1 hdg (k H locs ls hl hP hS r hr)
theorem xj_isub (Z : CX p s m args meth c cc nL own ret D cs A S ad) {x y : Int32} (hdg : decode cc pc = .ok (.isub, 1))  (k : XJ p l e R s m args below meth c D cs A S ad nL Q (pc + 1) lv (.int (x - y) :: st) M o) : XJ p l e R s m args below meth c D cs A S ad nL Q (pc) lv (.int y :: .int x :: st) M o := fun H locs ls hl hP hS r hr => lv_isub Z.1 Z.2.1 hdg (k H locs ls hl hP hS r hr)
theorem xj_imul (Z : CX p s m args meth c cc nL own ret D cs A S ad) {x y : Int32} (hdg : decode cc pc = .ok (.imul, 1))  (k : XJ p l e R s m args below meth c D cs A S ad nL Q (pc + 1) lv (.int (x * y) :: st) M o) : XJ p l e R s m args below meth c D cs A S ad nL Q (pc) lv (.int y :: .int x :: st) M o := fun H locs ls hl hP hS r hr => lv_imul Z.1 Z.2.1 hdg (k H locs ls hl hP hS r hr)
theorem xj_iand (Z : CX p s m args meth c cc nL own ret D cs A S ad) {x y : Int32} (hdg : decode cc pc = .ok (.iand, 1))  (k : XJ p l e R s m args below meth c D cs A S ad nL Q (pc + 1) lv (.int (x &&& y) :: st) M o) : XJ p l e R s m args below meth c D cs A S ad nL Q (pc) lv (.int y :: .int x :: st) M o := fun H locs ls hl hP hS r hr => lv_iand Z.1 Z.2.1 hdg (k H locs ls hl hP hS r hr)
theorem xj_ior (Z : CX p s m args meth c cc nL own ret D cs A S ad) {x y : Int32} (hdg : decode cc pc = .ok (.ior, 1))  (k : XJ p l e R s m args below meth c D cs A S ad nL Q (pc + 1) lv (.int (x ||| y) :: st) M o) : XJ p l e R s m args below meth c D cs A S ad nL Q (pc) lv (.int y :: .int x :: st) M o := fun H locs ls hl hP hS r hr => lv_ior Z.1 Z.2.1 hdg (k H locs ls hl hP hS r hr)
theorem xj_ixor (Z : CX p s m args meth c cc nL own ret D cs A S ad) {x y : Int32} (hdg : decode cc pc = .ok (.ixor, 1))  (k : XJ p l e R s m args below meth c D cs A S ad nL Q (pc + 1) lv (.int (x ^^^ y) :: st) M o) : XJ p l e R s m args below meth c D cs A S ad nL Q (pc) lv (.int y :: .int x :: st) M o := fun H locs ls hl hP hS r hr => lv_ixor Z.1 Z.2.1 hdg (k H locs ls hl hP hS r hr)
theorem xj_ishl (Z : CX p s m args meth c cc nL own ret D cs A S ad) {x y : Int32} (hdg : decode cc pc = .ok (.ishl, 1))  (k : XJ p l e R s m args below meth c D cs A S ad nL Q (pc + 1) lv (.int (x <<< (y &&& 31)) :: st) M o) : XJ p l e R s m args below meth c D cs A S ad nL Q (pc) lv (.int y :: .int x :: st) M o := fun H locs ls hl hP hS r hr => lv_ishl Z.1 Z.2.1 hdg (k H locs ls hl hP hS r hr)
theorem xj_ishr (Z : CX p s m args meth c cc nL own ret D cs A S ad) {x y : Int32} (hdg : decode cc pc = .ok (.ishr, 1))  (k : XJ p l e R s m args below meth c D cs A S ad nL Q (pc + 1) lv (.int (x >>> (y &&& 31)) :: st) M o) : XJ p l e R s m args below meth c D cs A S ad nL Q (pc) lv (.int y :: .int x :: st) M o := fun H locs ls hl hP hS r hr => lv_ishr Z.1 Z.2.1 hdg (k H locs ls hl hP hS r hr)
theorem xj_iushr (Z : CX p s m args meth c cc nL own ret D cs A S ad) {x y : Int32} (hdg : decode cc pc = .ok (.iushr, 1))  (k : XJ p l e R s m args below meth c D cs A S ad nL Q (pc + 1) lv (.int ((x.toUInt32 >>> (y.toUInt32 &&& Int32.toUInt32 31)).toInt32) :: st) M o) : XJ p l e R s m args below meth c D cs A S ad nL Q (pc) lv (.int y :: .int x :: st) M o := fun H locs ls hl hP hS r hr => lv_iushr (v := (x.toUInt32 >>> (y.toUInt32 &&& Int32.toUInt32 31)).toInt32) Z.1 Z.2.1 hdg rfl (k H locs ls hl hP hS r hr)
theorem xj_ineg (Z : CX p s m args meth c cc nL own ret D cs A S ad) {x : Int32} (hdg : decode cc pc = .ok (.ineg, 1))  (k : XJ p l e R s m args below meth c D cs A S ad nL Q (pc + 1) lv (.int (-x) :: st) M o) : XJ p l e R s m args below meth c D cs A S ad nL Q (pc) lv (.int x :: st) M o := fun H locs ls hl hP hS r hr => lv_ineg Z.1 Z.2.1 hdg (k H locs ls hl hP hS r hr)
theorem xj_idiv (Z : CX p s m args meth c cc nL own ret D cs A S ad) {x y : Int32} (hdg : decode cc pc = .ok (.idiv, 1)) (hne : ¬ y = 0) (k : XJ p l e R s m args below meth c D cs A S ad nL Q (pc + 1) lv (.int (x / y) :: st) M o) : XJ p l e R s m args below meth c D cs A S ad nL Q (pc) lv (.int y :: .int x :: st) M o := fun H locs ls hl hP hS r hr => lv_idiv Z.1 Z.2.1 hdg hne (k H locs ls hl hP hS r hr)
theorem xj_irem (Z : CX p s m args meth c cc nL own ret D cs A S ad) {x y : Int32} (hdg : decode cc pc = .ok (.irem, 1)) (hne : ¬ y = 0) (k : XJ p l e R s m args below meth c D cs A S ad nL Q (pc + 1) lv (.int (x - x / y * y) :: st) M o) : XJ p l e R s m args below meth c D cs A S ad nL Q (pc) lv (.int y :: .int x :: st) M o := fun H locs ls hl hP hS r hr => lv_irem Z.1 Z.2.1 hdg hne (k H locs ls hl hP hS r hr)
theorem xj_ladd (Z : CX p s m args meth c cc nL own ret D cs A S ad) {x y : Int64} (hdg : decode cc pc = .ok (.ladd, 1))  (k : XJ p l e R s m args below meth c D cs A S ad nL Q (pc + 1) lv (.long (x + y) :: st) M o) : XJ p l e R s m args below meth c D cs A S ad nL Q (pc) lv (.long y :: .long x :: st) M o := fun H locs ls hl hP hS r hr => lv_ladd Z.1 Z.2.1 hdg (k H locs ls hl hP hS r hr)
theorem xj_lmul (Z : CX p s m args meth c cc nL own ret D cs A S ad) {x y : Int64} (hdg : decode cc pc = .ok (.lmul, 1))  (k : XJ p l e R s m args below meth c D cs A S ad nL Q (pc + 1) lv (.long (x * y) :: st) M o) : XJ p l e R s m args below meth c D cs A S ad nL Q (pc) lv (.long y :: .long x :: st) M o := fun H locs ls hl hP hS r hr => lv_lmul Z.1 Z.2.1 hdg (k H locs ls hl hP hS r hr)
theorem xj_lor (Z : CX p s m args meth c cc nL own ret D cs A S ad) {x y : Int64} (hdg : decode cc pc = .ok (.lor, 1))  (k : XJ p l e R s m args below meth c D cs A S ad nL Q (pc + 1) lv (.long (x ||| y) :: st) M o) : XJ p l e R s m args below meth c D cs A S ad nL Q (pc) lv (.long y :: .long x :: st) M o := fun H locs ls hl hP hS r hr => lv_lor Z.1 Z.2.1 hdg (k H locs ls hl hP hS r hr)
theorem xj_land (Z : CX p s m args meth c cc nL own ret D cs A S ad) {x y : Int64} (hdg : decode cc pc = .ok (.land, 1))  (k : XJ p l e R s m args below meth c D cs A S ad nL Q (pc + 1) lv (.long (x &&& y) :: st) M o) : XJ p l e R s m args below meth c D cs A S ad nL Q (pc) lv (.long y :: .long x :: st) M o := fun H locs ls hl hP hS r hr => lv_land Z.1 Z.2.1 hdg (k H locs ls hl hP hS r hr)
theorem xj_lrem (Z : CX p s m args meth c cc nL own ret D cs A S ad) {x y : Int64} (hdg : decode cc pc = .ok (.lrem, 1)) (hne : ¬ y = 0) (k : XJ p l e R s m args below meth c D cs A S ad nL Q (pc + 1) lv (.long (x - x / y * y) :: st) M o) : XJ p l e R s m args below meth c D cs A S ad nL Q (pc) lv (.long y :: .long x :: st) M o := fun H locs ls hl hP hS r hr => lv_lrem Z.1 Z.2.1 hdg hne (k H locs ls hl hP hS r hr)
theorem xj_lshr (Z : CX p s m args meth c cc nL own ret D cs A S ad) {x : Int64} {y : Int32} (hdg : decode cc pc = .ok (.lshr, 1))  (k : XJ p l e R s m args below meth c D cs A S ad nL Q (pc + 1) lv (.long (x >>> (y.toInt64 &&& 63)) :: st) M o) : XJ p l e R s m args below meth c D cs A S ad nL Q (pc) lv (.int y :: .long x :: st) M o := fun H locs ls hl hP hS r hr => lv_lshr (v := x >>> (y.toInt64 &&& 63)) Z.1 Z.2.1 hdg rfl (k H locs ls hl hP hS r hr)
theorem xj_lshl (Z : CX p s m args meth c cc nL own ret D cs A S ad) {x : Int64} {y : Int32} (hdg : decode cc pc = .ok (.lshl, 1))  (k : XJ p l e R s m args below meth c D cs A S ad nL Q (pc + 1) lv (.long (x <<< (y.toInt64 &&& 63)) :: st) M o) : XJ p l e R s m args below meth c D cs A S ad nL Q (pc) lv (.int y :: .long x :: st) M o := fun H locs ls hl hP hS r hr => lv_lshl (v := x <<< (y.toInt64 &&& 63)) Z.1 Z.2.1 hdg rfl (k H locs ls hl hP hS r hr)
theorem xj_lcmp (Z : CX p s m args meth c cc nL own ret D cs A S ad) {x y : Int64} (hdg : decode cc pc = .ok (.lcmp, 1))  (k : XJ p l e R s m args below meth c D cs A S ad nL Q (pc + 1) lv (.int (lg_cmp x y) :: st) M o) : XJ p l e R s m args below meth c D cs A S ad nL Q (pc) lv (.long y :: .long x :: st) M o := fun H locs ls hl hP hS r hr => W.lcmp Z.1 Z.2.1 hdg (k H locs ls hl hP hS r hr)
theorem xj_i2l (Z : CX p s m args meth c cc nL own ret D cs A S ad) {x : Int32} (hdg : decode cc pc = .ok (.i2l, 1))  (k : XJ p l e R s m args below meth c D cs A S ad nL Q (pc + 1) lv (.long x.toInt64 :: st) M o) : XJ p l e R s m args below meth c D cs A S ad nL Q (pc) lv (.int x :: st) M o := fun H locs ls hl hP hS r hr => lv_i2l (v := x.toInt64) Z.1 Z.2.1 hdg rfl (k H locs ls hl hP hS r hr)
theorem xj_l2i (Z : CX p s m args meth c cc nL own ret D cs A S ad) {x : Int64} (hdg : decode cc pc = .ok (.l2i, 1))  (k : XJ p l e R s m args below meth c D cs A S ad nL Q (pc + 1) lv (.int x.toInt32 :: st) M o) : XJ p l e R s m args below meth c D cs A S ad nL Q (pc) lv (.long x :: st) M o := fun H locs ls hl hP hS r hr => lv_l2i (v := x.toInt32) Z.1 Z.2.1 hdg rfl (k H locs ls hl hP hS r hr)
theorem xj_i2b (Z : CX p s m args meth c cc nL own ret D cs A S ad) {x : Int32} (hdg : decode cc pc = .ok (.i2b, 1))  (k : XJ p l e R s m args below meth c D cs A S ad nL Q (pc + 1) lv (.int x.toInt8.toInt32 :: st) M o) : XJ p l e R s m args below meth c D cs A S ad nL Q (pc) lv (.int x :: st) M o := fun H locs ls hl hP hS r hr => lv_i2b (v := x.toInt8.toInt32) Z.1 Z.2.1 hdg rfl (k H locs ls hl hP hS r hr)
theorem xj_iconst (Z : CX p s m args meth c cc nL own ret D cs A S ad) {n : Int} (v : Int32) (hdg : decode cc pc = .ok (.iconst n, 1)) (hv : Int32.ofInt n = v) (k : XJ p l e R s m args below meth c D cs A S ad nL Q (pc + 1) lv (.int v :: st) M o) : XJ p l e R s m args below meth c D cs A S ad nL Q (pc) lv (st) M o := fun H locs ls hl hP hS r hr => lv_iconst Z.1 Z.2.1 hdg hv (k H locs ls hl hP hS r hr)
theorem xj_bipush (Z : CX p s m args meth c cc nL own ret D cs A S ad) {n : Int} (v : Int32) (hdg : decode cc pc = .ok (.bipush n, 2)) (hv : (Int8.ofInt n).toInt32 = v) (k : XJ p l e R s m args below meth c D cs A S ad nL Q (pc + 2) lv (.int v :: st) M o) : XJ p l e R s m args below meth c D cs A S ad nL Q (pc) lv (st) M o := fun H locs ls hl hP hS r hr => lv_bipush Z.1 Z.2.1 hdg hv (k H locs ls hl hP hS r hr)
theorem xj_sipush (Z : CX p s m args meth c cc nL own ret D cs A S ad) {n : Int} (v : Int32) (hdg : decode cc pc = .ok (.sipush n, 3)) (hv : (Int16.ofInt n).toInt32 = v) (k : XJ p l e R s m args below meth c D cs A S ad nL Q (pc + 3) lv (.int v :: st) M o) : XJ p l e R s m args below meth c D cs A S ad nL Q (pc) lv (st) M o := fun H locs ls hl hP hS r hr => lv_sipush Z.1 Z.2.1 hdg hv (k H locs ls hl hP hS r hr)
theorem xj_lconst (Z : CX p s m args meth c cc nL own ret D cs A S ad) {n : Fin 2} (v : Int64) (hdg : decode cc pc = .ok (.lconst n, 1)) (hv : Int64.ofNat (n : Nat) = v) (k : XJ p l e R s m args below meth c D cs A S ad nL Q (pc + 1) lv (.long v :: st) M o) : XJ p l e R s m args below meth c D cs A S ad nL Q (pc) lv (st) M o := fun H locs ls hl hP hS r hr => lv_lconst Z.1 Z.2.1 hdg hv (k H locs ls hl hP hS r hr)
theorem xj_ldc2 (Z : CX p s m args meth c cc nL own ret D cs A S ad) {index : Nat} {v : Int64} (hdg : decode cc pc = .ok (.ldc2_w index, 3)) (hc : Cond.constantLong own index v ∈ xbig) (k : XJ p l e R s m args below meth c D cs A S ad nL Q (pc + 3) lv (.long v :: st) M o) : XJ p l e R s m args below meth c D cs A S ad nL Q (pc) lv (st) M o := fun H locs ls hl hP hS r hr => lv_ldc2 Z.1 Z.2.1 Z.2.2.2.1 (Z.2.2.2.2.1.hts _ _ hc) hdg (k H locs ls hl hP hS r hr)
theorem xj_ldcw (Z : CX p s m args meth c cc nL own ret D cs A S ad) {index : Nat} {v : Int32} (hdg : decode cc pc = .ok (.ldc_w index, 3)) (hc : Cond.constant own index v ∈ xbig) (k : XJ p l e R s m args below meth c D cs A S ad nL Q (pc + 3) lv (.int v :: st) M o) : XJ p l e R s m args below meth c D cs A S ad nL Q (pc) lv (st) M o := fun H locs ls hl hP hS r hr => lv_ldcw Z.1 Z.2.1 Z.2.2.2.1 (Z.2.2.2.2.1.hts _ _ hc) hdg (k H locs ls hl hP hS r hr)
theorem xj_iload_n (Z : CX p s m args meth c cc nL own ret D cs A S ad) (j : Nat) {k : Fin 4} {i : Nat} {x : Int32} (hdg : decode cc pc = .ok (.iload_n k, 1)) (hi : (k : Nat) = i) (hg : lv[j]? = some (i, .int x)) (k : XJ p l e R s m args below meth c D cs A S ad nL Q (pc + 1) lv (.int x :: st) M o) : XJ p l e R s m args below meth c D cs A S ad nL Q (pc) lv (st) M o := fun H locs ls hl hP hS r hr => lv_iload_n Z.1 Z.2.1 hdg hi (lv_at hl j hg) (k H locs ls hl hP hS r hr)
theorem xj_iload (Z : CX p s m args meth c cc nL own ret D cs A S ad) (j : Nat) {i : Nat} {x : Int32} (hdg : decode cc pc = .ok (.iload i, 2)) (hg : lv[j]? = some (i, .int x)) (k : XJ p l e R s m args below meth c D cs A S ad nL Q (pc + 2) lv (.int x :: st) M o) : XJ p l e R s m args below meth c D cs A S ad nL Q (pc) lv (st) M o := fun H locs ls hl hP hS r hr => lv_iload Z.1 Z.2.1 hdg (lv_at hl j hg) (k H locs ls hl hP hS r hr)
theorem xj_lload_n (Z : CX p s m args meth c cc nL own ret D cs A S ad) (j : Nat) {k : Fin 4} {i : Nat} {x : Int64} (hdg : decode cc pc = .ok (.lload_n k, 1)) (hi : (k : Nat) = i) (hg : lv[j]? = some (i, .long x)) (k : XJ p l e R s m args below meth c D cs A S ad nL Q (pc + 1) lv (.long x :: st) M o) : XJ p l e R s m args below meth c D cs A S ad nL Q (pc) lv (st) M o := fun H locs ls hl hP hS r hr => lv_lload_n Z.1 Z.2.1 hdg hi (lv_at hl j hg) (k H locs ls hl hP hS r hr)
theorem xj_lload (Z : CX p s m args meth c cc nL own ret D cs A S ad) (j : Nat) {i : Nat} {x : Int64} (hdg : decode cc pc = .ok (.lload i, 2)) (hg : lv[j]? = some (i, .long x)) (k : XJ p l e R s m args below meth c D cs A S ad nL Q (pc + 2) lv (.long x :: st) M o) : XJ p l e R s m args below meth c D cs A S ad nL Q (pc) lv (st) M o := fun H locs ls hl hP hS r hr => lv_lload Z.1 Z.2.1 hdg (lv_at hl j hg) (k H locs ls hl hP hS r hr)
theorem xj_aload_n (Z : CX p s m args meth c cc nL own ret D cs A S ad) (j : Nat) {k : Fin 4} {i : Nat} {x : Nat} (hdg : decode cc pc = .ok (.aload_n k, 1)) (hi : (k : Nat) = i) (hg : lv[j]? = some (i, .ref x)) (k : XJ p l e R s m args below meth c D cs A S ad nL Q (pc + 1) lv (.ref x :: st) M o) : XJ p l e R s m args below meth c D cs A S ad nL Q (pc) lv (st) M o := fun H locs ls hl hP hS r hr => lv_aload_n Z.1 Z.2.1 hdg hi (lv_at hl j hg) (k H locs ls hl hP hS r hr)
theorem xj_aload (Z : CX p s m args meth c cc nL own ret D cs A S ad) (j : Nat) {i : Nat} {x : Nat} (hdg : decode cc pc = .ok (.aload i, 2)) (hg : lv[j]? = some (i, .ref x)) (k : XJ p l e R s m args below meth c D cs A S ad nL Q (pc + 2) lv (.ref x :: st) M o) : XJ p l e R s m args below meth c D cs A S ad nL Q (pc) lv (st) M o := fun H locs ls hl hP hS r hr => lv_aload Z.1 Z.2.1 hdg (lv_at hl j hg) (k H locs ls hl hP hS r hr)
theorem xj_dup (Z : CX p s m args meth c cc nL own ret D cs A S ad) {va : Value} (hdg : decode cc pc = .ok (.dup, 1)) (h1 : va.category = 1) (k : XJ p l e R s m args below meth c D cs A S ad nL Q (pc + 1) lv (va :: va :: st) M o) : XJ p l e R s m args below meth c D cs A S ad nL Q (pc) lv (va :: st) M o := fun H locs ls hl hP hS r hr => lv_dup Z.1 Z.2.1 hdg h1 (k H locs ls hl hP hS r hr)
theorem xj_pop (Z : CX p s m args meth c cc nL own ret D cs A S ad) {va : Value} (hdg : decode cc pc = .ok (.pop, 1)) (h1 : va.category = 1) (k : XJ p l e R s m args below meth c D cs A S ad nL Q (pc + 1) lv (st) M o) : XJ p l e R s m args below meth c D cs A S ad nL Q (pc) lv (va :: st) M o := fun H locs ls hl hP hS r hr => lv_pop Z.1 Z.2.1 hdg h1 (k H locs ls hl hP hS r hr)
theorem xj_dup2 (Z : CX p s m args meth c cc nL own ret D cs A S ad) {va vb : Value} (hdg : decode cc pc = .ok (.dup2, 1)) (h1 : va.category = 1) (h2 : vb.category = 1) (k : XJ p l e R s m args below meth c D cs A S ad nL Q (pc + 1) lv (va :: vb :: va :: vb :: st) M o) : XJ p l e R s m args below meth c D cs A S ad nL Q (pc) lv (va :: vb :: st) M o := fun H locs ls hl hP hS r hr => lv_dup2_11 Z.1 Z.2.1 hdg h1 h2 (k H locs ls hl hP hS r hr)
theorem xj_istore_n (Z : CX p s m args meth c cc nL own ret D cs A S ad) {i : Nat} {x : Int32} {lv' : List (Nat × Value)} {k : Fin 4} (hdg : decode cc pc = .ok (.istore_n k, 1)) (hi : (k : Nat) = i) (hn : i < nL) (hl2 : (i, Value.int x) :: lv.filter (fun q => !(q.1 == i) && !(q.1 + 1 == i && q.2.category == 2)) = lv') (k : XJ p l e R s m args below meth c D cs A S ad nL Q (pc + 1) lv' (st) M o) : XJ p l e R s m args below meth c D cs A S ad nL Q (pc) lv (.int x :: st) M o := fun H locs ls hl hP hS r hr => lv_istore_n Z.1 Z.2.1 hdg hi hl hn hl2 (fun ls2 hl3 => k H locs ls2 hl3 hP hS r hr)
theorem xj_istore (Z : CX p s m args meth c cc nL own ret D cs A S ad) {i : Nat} {x : Int32} {lv' : List (Nat × Value)}  (hdg : decode cc pc = .ok (.istore i, 2)) (hn : i < nL) (hl2 : (i, Value.int x) :: lv.filter (fun q => !(q.1 == i) && !(q.1 + 1 == i && q.2.category == 2)) = lv') (k : XJ p l e R s m args below meth c D cs A S ad nL Q (pc + 2) lv' (st) M o) : XJ p l e R s m args below meth c D cs A S ad nL Q (pc) lv (.int x :: st) M o := fun H locs ls hl hP hS r hr => lv_istore Z.1 Z.2.1 hdg hl hn hl2 (fun ls2 hl3 => k H locs ls2 hl3 hP hS r hr)
theorem xj_astore_n (Z : CX p s m args meth c cc nL own ret D cs A S ad) {i : Nat} {x : Nat} {lv' : List (Nat × Value)} {k : Fin 4} (hdg : decode cc pc = .ok (.astore_n k, 1)) (hi : (k : Nat) = i) (hn : i < nL) (hl2 : (i, Value.ref x) :: lv.filter (fun q => !(q.1 == i) && !(q.1 + 1 == i && q.2.category == 2)) = lv') (k : XJ p l e R s m args below meth c D cs A S ad nL Q (pc + 1) lv' (st) M o) : XJ p l e R s m args below meth c D cs A S ad nL Q (pc) lv (.ref x :: st) M o := fun H locs ls hl hP hS r hr => lv_astore_n Z.1 Z.2.1 hdg hi hl hn hl2 (fun ls2 hl3 => k H locs ls2 hl3 hP hS r hr)
theorem xj_astore (Z : CX p s m args meth c cc nL own ret D cs A S ad) {i : Nat} {x : Nat} {lv' : List (Nat × Value)}  (hdg : decode cc pc = .ok (.astore i, 2)) (hn : i < nL) (hl2 : (i, Value.ref x) :: lv.filter (fun q => !(q.1 == i) && !(q.1 + 1 == i && q.2.category == 2)) = lv') (k : XJ p l e R s m args below meth c D cs A S ad nL Q (pc + 2) lv' (st) M o) : XJ p l e R s m args below meth c D cs A S ad nL Q (pc) lv (.ref x :: st) M o := fun H locs ls hl hP hS r hr => lv_astore Z.1 Z.2.1 hdg hl hn hl2 (fun ls2 hl3 => k H locs ls2 hl3 hP hS r hr)
theorem xj_iinc (Z : CX p s m args meth c cc nL own ret D cs A S ad) (j : Nat) {i : Nat} {n : Int} {x : Int32} (v : Int32) {lv' : List (Nat × Value)} (hdg : decode cc pc = .ok (.iinc i n, 3)) (hg : lv[j]? = some (i, .int x)) (hv : x + Int32.ofInt n = v) (hn : i < nL) (hl2 : (i, Value.int v) :: lv.filter (fun q => !(q.1 == i) && !(q.1 + 1 == i && q.2.category == 2)) = lv') (k : XJ p l e R s m args below meth c D cs A S ad nL Q (pc + 3) lv' (st) M o) : XJ p l e R s m args below meth c D cs A S ad nL Q (pc) lv (st) M o := fun H locs ls hl hP hS r hr => lv_iinc Z.1 Z.2.1 hdg hl hg hv hn hl2 (fun ls2 hl3 => k H locs ls2 hl3 hP hS r hr)
theorem xj_goto (Z : CX p s m args meth c cc nL own ret D cs A S ad) {off : Int} (tgt : Nat) (hdg : decode cc pc = .ok (.goto off, 3)) (ht : (pc : Int) + off = (tgt : Int)) (k : XJ p l e R s m args below meth c D cs A S ad nL Q (tgt) lv (st) M o) : XJ p l e R s m args below meth c D cs A S ad nL Q (pc) lv (st) M o := fun H locs ls hl hP hS r hr => lv_goto Z.1 Z.2.1 hdg ht (k H locs ls hl hP hS r hr)
theorem xj_icmp_eq (Z : CX p s m args meth c cc nL own ret D cs A S ad) {x y : Int32} {off : Int} (tgt : Nat) {o1 o2 : Option ρ} (hdg : decode cc pc = .ok (.if_icmp .eq off, 3)) (ht : (pc : Int) + off = (tgt : Int)) (kt : x = y → XJ p l e R s m args below meth c D cs A S ad nL Q (tgt) lv (st) M o1) (kf : ¬ x = y → XJ p l e R s m args below meth c D cs A S ad nL Q (pc + 3) lv (st) M o2) : XJ p l e R s m args below meth c D cs A S ad nL Q (pc) lv (.int y :: .int x :: st) M (if x = y then o1 else o2) := fun H locs ls hl hP hS r hr => lv_icmp_eq Z.1 Z.2.1 hdg ht (fun h => kt h H locs ls hl hP hS r (by rw [if_pos h] at hr; exact hr)) (fun h => kf h H locs ls hl hP hS r (by rw [if_neg h] at hr; exact hr))
theorem xj_if_eq (Z : CX p s m args meth c cc nL own ret D cs A S ad) {x : Int32} {off : Int} (tgt : Nat) {o1 o2 : Option ρ} (hdg : decode cc pc = .ok (.ifCond .eq off, 3)) (ht : (pc : Int) + off = (tgt : Int)) (kt : x = 0 → XJ p l e R s m args below meth c D cs A S ad nL Q (tgt) lv (st) M o1) (kf : ¬ x = 0 → XJ p l e R s m args below meth c D cs A S ad nL Q (pc + 3) lv (st) M o2) : XJ p l e R s m args below meth c D cs A S ad nL Q (pc) lv (.int x :: st) M (if x = 0 then o1 else o2) := fun H locs ls hl hP hS r hr => lv_if_eq Z.1 Z.2.1 hdg ht (fun h => kt h H locs ls hl hP hS r (by rw [if_pos h] at hr; exact hr)) (fun h => kf h H locs ls hl hP hS r (by rw [if_neg h] at hr; exact hr))
theorem xj_icmp_ne (Z : CX p s m args meth c cc nL own ret D cs A S ad) {x y : Int32} {off : Int} (tgt : Nat) {o1 o2 : Option ρ} (hdg : decode cc pc = .ok (.if_icmp .ne off, 3)) (ht : (pc : Int) + off = (tgt : Int)) (kt : ¬ x = y → XJ p l e R s m args below meth c D cs A S ad nL Q (tgt) lv (st) M o2) (kf : x = y → XJ p l e R s m args below meth c D cs A S ad nL Q (pc + 3) lv (st) M o1) : XJ p l e R s m args below meth c D cs A S ad nL Q (pc) lv (.int y :: .int x :: st) M (if x = y then o1 else o2) := fun H locs ls hl hP hS r hr => lv_icmp_ne Z.1 Z.2.1 hdg ht (fun h => kt h H locs ls hl hP hS r (by rw [if_neg h] at hr; exact hr)) (fun h => kf h H locs ls hl hP hS r (by rw [if_pos h] at hr; exact hr))
theorem xj_if_ne (Z : CX p s m args meth c cc nL own ret D cs A S ad) {x : Int32} {off : Int} (tgt : Nat) {o1 o2 : Option ρ} (hdg : decode cc pc = .ok (.ifCond .ne off, 3)) (ht : (pc : Int) + off = (tgt : Int)) (kt : ¬ x = 0 → XJ p l e R s m args below meth c D cs A S ad nL Q (tgt) lv (st) M o2) (kf : x = 0 → XJ p l e R s m args below meth c D cs A S ad nL Q (pc + 3) lv (st) M o1) : XJ p l e R s m args below meth c D cs A S ad nL Q (pc) lv (.int x :: st) M (if x = 0 then o1 else o2) := fun H locs ls hl hP hS r hr => lv_if_ne Z.1 Z.2.1 hdg ht (fun h => kt h H locs ls hl hP hS r (by rw [if_neg h] at hr; exact hr)) (fun h => kf h H locs ls hl hP hS r (by rw [if_pos h] at hr; exact hr))
theorem xj_icmp_lt (Z : CX p s m args meth c cc nL own ret D cs A S ad) {x y : Int32} {off : Int} (tgt : Nat) {o1 o2 : Option ρ} (hdg : decode cc pc = .ok (.if_icmp .lt off, 3)) (ht : (pc : Int) + off = (tgt : Int)) (kt : x < y → XJ p l e R s m args below meth c D cs A S ad nL Q (tgt) lv (st) M o1) (kf : ¬ x < y → XJ p l e R s m args below meth c D cs A S ad nL Q (pc + 3) lv (st) M o2) : XJ p l e R s m args below meth c D cs A S ad nL Q (pc) lv (.int y :: .int x :: st) M (if x < y then o1 else o2) := fun H locs ls hl hP hS r hr => lv_icmp_lt Z.1 Z.2.1 hdg ht (fun h => kt h H locs ls hl hP hS r (by rw [if_pos h] at hr; exact hr)) (fun h => kf h H locs ls hl hP hS r (by rw [if_neg h] at hr; exact hr))
theorem xj_if_lt (Z : CX p s m args meth c cc nL own ret D cs A S ad) {x : Int32} {off : Int} (tgt : Nat) {o1 o2 : Option ρ} (hdg : decode cc pc = .ok (.ifCond .lt off, 3)) (ht : (pc : Int) + off = (tgt : Int)) (kt : x < 0 → XJ p l e R s m args below meth c D cs A S ad nL Q (tgt) lv (st) M o1) (kf : ¬ x < 0 → XJ p l e R s m args below meth c D cs A S ad nL Q (pc + 3) lv (st) M o2) : XJ p l e R s m args below meth c D cs A S ad nL Q (pc) lv (.int x :: st) M (if x < 0 then o1 else o2) := fun H locs ls hl hP hS r hr => lv_if_lt Z.1 Z.2.1 hdg ht (fun h => kt h H locs ls hl hP hS r (by rw [if_pos h] at hr; exact hr)) (fun h => kf h H locs ls hl hP hS r (by rw [if_neg h] at hr; exact hr))
theorem xj_icmp_ge (Z : CX p s m args meth c cc nL own ret D cs A S ad) {x y : Int32} {off : Int} (tgt : Nat) {o1 o2 : Option ρ} (hdg : decode cc pc = .ok (.if_icmp .ge off, 3)) (ht : (pc : Int) + off = (tgt : Int)) (kt : y ≤ x → XJ p l e R s m args below meth c D cs A S ad nL Q (tgt) lv (st) M o1) (kf : ¬ y ≤ x → XJ p l e R s m args below meth c D cs A S ad nL Q (pc + 3) lv (st) M o2) : XJ p l e R s m args below meth c D cs A S ad nL Q (pc) lv (.int y :: .int x :: st) M (if y ≤ x then o1 else o2) := fun H locs ls hl hP hS r hr => lv_icmp_ge Z.1 Z.2.1 hdg ht (fun h => kt h H locs ls hl hP hS r (by rw [if_pos h] at hr; exact hr)) (fun h => kf h H locs ls hl hP hS r (by rw [if_neg h] at hr; exact hr))
theorem xj_if_ge (Z : CX p s m args meth c cc nL own ret D cs A S ad) {x : Int32} {off : Int} (tgt : Nat) {o1 o2 : Option ρ} (hdg : decode cc pc = .ok (.ifCond .ge off, 3)) (ht : (pc : Int) + off = (tgt : Int)) (kt : 0 ≤ x → XJ p l e R s m args below meth c D cs A S ad nL Q (tgt) lv (st) M o1) (kf : ¬ 0 ≤ x → XJ p l e R s m args below meth c D cs A S ad nL Q (pc + 3) lv (st) M o2) : XJ p l e R s m args below meth c D cs A S ad nL Q (pc) lv (.int x :: st) M (if 0 ≤ x then o1 else o2) := fun H locs ls hl hP hS r hr => lv_if_ge Z.1 Z.2.1 hdg ht (fun h => kt h H locs ls hl hP hS r (by rw [if_pos h] at hr; exact hr)) (fun h => kf h H locs ls hl hP hS r (by rw [if_neg h] at hr; exact hr))
theorem xj_icmp_gt (Z : CX p s m args meth c cc nL own ret D cs A S ad) {x y : Int32} {off : Int} (tgt : Nat) {o1 o2 : Option ρ} (hdg : decode cc pc = .ok (.if_icmp .gt off, 3)) (ht : (pc : Int) + off = (tgt : Int)) (kt : y < x → XJ p l e R s m args below meth c D cs A S ad nL Q (tgt) lv (st) M o1) (kf : ¬ y < x → XJ p l e R s m args below meth c D cs A S ad nL Q (pc + 3) lv (st) M o2) : XJ p l e R s m args below meth c D cs A S ad nL Q (pc) lv (.int y :: .int x :: st) M (if y < x then o1 else o2) := fun H locs ls hl hP hS r hr => lv_icmp_gt Z.1 Z.2.1 hdg ht (fun h => kt h H locs ls hl hP hS r (by rw [if_pos h] at hr; exact hr)) (fun h => kf h H locs ls hl hP hS r (by rw [if_neg h] at hr; exact hr))
theorem xj_if_gt (Z : CX p s m args meth c cc nL own ret D cs A S ad) {x : Int32} {off : Int} (tgt : Nat) {o1 o2 : Option ρ} (hdg : decode cc pc = .ok (.ifCond .gt off, 3)) (ht : (pc : Int) + off = (tgt : Int)) (kt : 0 < x → XJ p l e R s m args below meth c D cs A S ad nL Q (tgt) lv (st) M o1) (kf : ¬ 0 < x → XJ p l e R s m args below meth c D cs A S ad nL Q (pc + 3) lv (st) M o2) : XJ p l e R s m args below meth c D cs A S ad nL Q (pc) lv (.int x :: st) M (if 0 < x then o1 else o2) := fun H locs ls hl hP hS r hr => lv_if_gt Z.1 Z.2.1 hdg ht (fun h => kt h H locs ls hl hP hS r (by rw [if_pos h] at hr; exact hr)) (fun h => kf h H locs ls hl hP hS r (by rw [if_neg h] at hr; exact hr))
theorem xj_icmp_le (Z : CX p s m args meth c cc nL own ret D cs A S ad) {x y : Int32} {off : Int} (tgt : Nat) {o1 o2 : Option ρ} (hdg : decode cc pc = .ok (.if_icmp .le off, 3)) (ht : (pc : Int) + off = (tgt : Int)) (kt : x ≤ y → XJ p l e R s m args below meth c D cs A S ad nL Q (tgt) lv (st) M o1) (kf : ¬ x ≤ y → XJ p l e R s m args below meth c D cs A S ad nL Q (pc + 3) lv (st) M o2) : XJ p l e R s m args below meth c D cs A S ad nL Q (pc) lv (.int y :: .int x :: st) M (if x ≤ y then o1 else o2) := fun H locs ls hl hP hS r hr => lv_icmp_le Z.1 Z.2.1 hdg ht (fun h => kt h H locs ls hl hP hS r (by rw [if_pos h] at hr; exact hr)) (fun h => kf h H locs ls hl hP hS r (by rw [if_neg h] at hr; exact hr))
theorem xj_if_le (Z : CX p s m args meth c cc nL own ret D cs A S ad) {x : Int32} {off : Int} (tgt : Nat) {o1 o2 : Option ρ} (hdg : decode cc pc = .ok (.ifCond .le off, 3)) (ht : (pc : Int) + off = (tgt : Int)) (kt : x ≤ 0 → XJ p l e R s m args below meth c D cs A S ad nL Q (tgt) lv (st) M o1) (kf : ¬ x ≤ 0 → XJ p l e R s m args below meth c D cs A S ad nL Q (pc + 3) lv (st) M o2) : XJ p l e R s m args below meth c D cs A S ad nL Q (pc) lv (.int x :: st) M (if x ≤ 0 then o1 else o2) := fun H locs ls hl hP hS r hr => lv_if_le Z.1 Z.2.1 hdg ht (fun h => kt h H locs ls hl hP hS r (by rw [if_pos h] at hr; exact hr)) (fun h => kf h H locs ls hl hP hS r (by rw [if_neg h] at hr; exact hr))
theorem xj_iald (Z : CX p s m args meth c cc nL own ret D cs A S ad) {k n : Nat} {i : Int32} (hk : k ∈ S) (hy : xlay k = (1, n)) (hdg : decode cc pc = .ok (.iaload, 1)) (kk : vp_in i n → XJ p l e R s m args below meth c D cs A S ad nL Q (pc + 1) lv (.int (M.1 k i.toNatClampNeg) :: st) M o) : XJ p l e R s m args below meth c D cs A S ad nL Q (pc) lv (.int i :: .ref (ad k) :: st) M (xchk i n o) := by
  intro H locs ls hl hP hS r hr
  unfold xchk at hr
  by_cases h : i < 0 ∨ n ≤ i.toNatClampNeg
  · rw [if_pos h] at hr; cases hr
  · rw [if_neg h] at hr
    obtain ⟨q, hq, -⟩ := xw_at (cs := cs) (ad := ad) (M := M) hk
    have hc : xcell ad cs M k = .inl (cs 0, n, .inl (M.1 k)) := by unfold xcell; rw [hy]; rfl
    rw [hc] at hq
    exact va_iald Z.1 Z.2.1 Z.2.2.2.2.1.1 hP q 0 hq rfl h hdg (kk h H locs ls hl hP hS r hr)
theorem xj_bald (Z : CX p s m args meth c cc nL own ret D cs A S ad) {k n : Nat} {i : Int32} (hk : k ∈ S) (hy : xlay k = (2, n)) (hdg : decode cc pc = .ok (.baload, 1)) (kk : vp_in i n → XJ p l e R s m args below meth c D cs A S ad nL Q (pc + 1) lv (.int (M.1 k i.toNatClampNeg) :: st) M o) : XJ p l e R s m args below meth c D cs A S ad nL Q (pc) lv (.int i :: .ref (ad k) :: st) M (xchk i n o) := by
  intro H locs ls hl hP hS r hr
  unfold xchk at hr
  by_cases h : i < 0 ∨ n ≤ i.toNatClampNeg
  · rw [if_pos h] at hr; cases hr
  · rw [if_neg h] at hr
    obtain ⟨q, hq, -⟩ := xw_at (cs := cs) (ad := ad) (M := M) hk
    have hc : xcell ad cs M k = .inl (cs 1, n, .inl (M.1 k)) := by unfold xcell; rw [hy]; rfl
    rw [hc] at hq
    exact va_bald Z.1 Z.2.1 Z.2.2.2.2.1.1 hP q 1 hq rfl h hdg (kk h H locs ls hl hP hS r hr)
theorem xj_zald (Z : CX p s m args meth c cc nL own ret D cs A S ad) {k n : Nat} {i : Int32} (hk : k ∈ S) (hy : xlay k = (5, n)) (hdg : decode cc pc = .ok (.baload, 1)) (kk : vp_in i n → XJ p l e R s m args below meth c D cs A S ad nL Q (pc + 1) lv (.int (M.1 k i.toNatClampNeg) :: st) M o) : XJ p l e R s m args below meth c D cs A S ad nL Q (pc) lv (.int i :: .ref (ad k) :: st) M (xchk i n o) := by
  intro H locs ls hl hP hS r hr
  unfold xchk at hr
  by_cases h : i < 0 ∨ n ≤ i.toNatClampNeg
  · rw [if_pos h] at hr; cases hr
  · rw [if_neg h] at hr
    obtain ⟨q, hq, -⟩ := xw_at (cs := cs) (ad := ad) (M := M) hk
    have hc : xcell ad cs M k = .inl (cs 4, n, .inl (M.1 k)) := by unfold xcell; rw [hy]; rfl
    rw [hc] at hq
    exact va_zald Z.1 Z.2.1 Z.2.2.2.2.1.1 hP q 4 hq rfl h hdg (kk h H locs ls hl hP hS r hr)
theorem xj_iast (Z : CX p s m args meth c cc nL own ret D cs A S ad) {k n : Nat} {i x : Int32} {g : xm → Option ρ} (hk : k ∈ S) (hy : xlay k = (1, n)) (hdg : decode cc pc = .ok (.iastore, 1)) (kk : ∀ M2, M2 = up M k i.toNatClampNeg x → XJ p l e R s m args below meth c D cs A S ad nL Q (pc + 1) lv (st) M2 (g M2)) : XJ p l e R s m args below meth c D cs A S ad nL Q (pc) lv (.int x :: .int i :: .ref (ad k) :: st) M (xchk i n (xl (up M k i.toNatClampNeg x) g)) := by
  intro H locs ls hl hP hS r hr
  unfold xchk at hr
  by_cases h : i < 0 ∨ n ≤ i.toNatClampNeg
  · rw [if_pos h] at hr; cases hr
  · rw [if_neg h] at hr
    obtain ⟨q, hq, hq2⟩ := xw_at (cs := cs) (ad := ad) (M := M) hk
    have hc : xcell ad cs M k = .inl (cs 0, n, .inl (M.1 k)) := by unfold xcell; rw [hy]; rfl
    rw [hc] at hq
    refine va_iast Z.1 Z.2.1 Z.2.2.2.2.1.1 hP (xw_D Z.2.2.2.2.2.1) hS q 0 hq rfl h hdg (fun H1 locs1 hP1 _ hS1 => ?_)
    have hc2 : xcell ad cs (up M k i.toNatClampNeg x) k = .inl (cs 0, n, .inl (upd (M.1 k) i.toNatClampNeg x)) := by unfold xcell; rw [hy, up_eq]; rfl
    rw [xw_set (M' := up M k i.toNatClampNeg x) Z.2.2.2.2.2.1.1 hq2 hc2 up_cell] at hP1
    exact kk _ rfl H1 locs1 ls hl hP1 hS1 r hr
theorem xj_bast (Z : CX p s m args meth c cc nL own ret D cs A S ad) {k n : Nat} {i x : Int32} {g : xm → Option ρ} (hk : k ∈ S) (hy : xlay k = (2, n)) (hdg : decode cc pc = .ok (.bastore, 1)) (kk : ∀ M2, M2 = up M k i.toNatClampNeg (vp_nar .byte x) → XJ p l e R s m args below meth c D cs A S ad nL Q (pc + 1) lv (st) M2 (g M2)) : XJ p l e R s m args below meth c D cs A S ad nL Q (pc) lv (.int x :: .int i :: .ref (ad k) :: st) M (xchk i n (xl (up M k i.toNatClampNeg (vp_nar .byte x)) g)) := by
  intro H locs ls hl hP hS r hr
  unfold xchk at hr
  by_cases h : i < 0 ∨ n ≤ i.toNatClampNeg
  · rw [if_pos h] at hr; cases hr
  · rw [if_neg h] at hr
    obtain ⟨q, hq, hq2⟩ := xw_at (cs := cs) (ad := ad) (M := M) hk
    have hc : xcell ad cs M k = .inl (cs 1, n, .inl (M.1 k)) := by unfold xcell; rw [hy]; rfl
    rw [hc] at hq
    refine va_bast Z.1 Z.2.1 Z.2.2.2.2.1.1 hP (xw_D Z.2.2.2.2.2.1) hS q 1 hq rfl h hdg (fun H1 locs1 hP1 _ hS1 => ?_)
    have hc2 : xcell ad cs (up M k i.toNatClampNeg (vp_nar .byte x)) k = .inl (cs 1, n, .inl (upd (M.1 k) i.toNatClampNeg (vp_nar .byte x))) := by unfold xcell; rw [hy, up_eq]; rfl
    rw [xw_set (M' := up M k i.toNatClampNeg (vp_nar .byte x)) Z.2.2.2.2.2.1.1 hq2 hc2 up_cell] at hP1
    exact kk _ rfl H1 locs1 ls hl hP1 hS1 r hr
theorem xj_zast (Z : CX p s m args meth c cc nL own ret D cs A S ad) {k n : Nat} {i x : Int32} {g : xm → Option ρ} (hk : k ∈ S) (hy : xlay k = (5, n)) (hdg : decode cc pc = .ok (.bastore, 1)) (kk : ∀ M2, M2 = up M k i.toNatClampNeg (vp_nar .boolean x) → XJ p l e R s m args below meth c D cs A S ad nL Q (pc + 1) lv (st) M2 (g M2)) : XJ p l e R s m args below meth c D cs A S ad nL Q (pc) lv (.int x :: .int i :: .ref (ad k) :: st) M (xchk i n (xl (up M k i.toNatClampNeg (vp_nar .boolean x)) g)) := by
  intro H locs ls hl hP hS r hr
  unfold xchk at hr
  by_cases h : i < 0 ∨ n ≤ i.toNatClampNeg
  · rw [if_pos h] at hr; cases hr
  · rw [if_neg h] at hr
    obtain ⟨q, hq, hq2⟩ := xw_at (cs := cs) (ad := ad) (M := M) hk
    have hc : xcell ad cs M k = .inl (cs 4, n, .inl (M.1 k)) := by unfold xcell; rw [hy]; rfl
    rw [hc] at hq
    refine va_zast Z.1 Z.2.1 Z.2.2.2.2.1.1 hP (xw_D Z.2.2.2.2.2.1) hS q 4 hq rfl h hdg (fun H1 locs1 hP1 _ hS1 => ?_)
    have hc2 : xcell ad cs (up M k i.toNatClampNeg (vp_nar .boolean x)) k = .inl (cs 4, n, .inl (upd (M.1 k) i.toNatClampNeg (vp_nar .boolean x))) := by unfold xcell; rw [hy, up_eq]; rfl
    rw [xw_set (M' := up M k i.toNatClampNeg (vp_nar .boolean x)) Z.2.2.2.2.2.1.1 hq2 hc2 up_cell] at hP1
    exact kk _ rfl H1 locs1 ls hl hP1 hS1 r hr
theorem xj_aald (Z : CX p s m args meth c cc nL own ret D cs A S ad) {k n : Nat} {i : Int32} {f : Nat → Nat} {t0 : Nat} {C : String} {cA : ClassId} (hk : k ∈ S) (hc : xcell ad cs M k = .inl (cA, n, .inr (.inr (.inr (.inr (fun j => some (ad (f j)))))))) (ht : (xtys cs)[t0]? = some (cA, .object C)) (hdg : decode cc pc = .ok (.aaload, 1)) (kk : vp_in i n → XJ p l e R s m args below meth c D cs A S ad nL Q (pc + 1) lv (.ref (ad (f i.toNatClampNeg)) :: st) M o) : XJ p l e R s m args below meth c D cs A S ad nL Q (pc) lv (.int i :: .ref (ad k) :: st) M (xchk i n o) := by
  intro H locs ls hl hP hS r hr
  unfold xchk at hr
  by_cases h : i < 0 ∨ n ≤ i.toNatClampNeg
  · rw [if_pos h] at hr; cases hr
  · rw [if_neg h] at hr
    obtain ⟨q, hq, -⟩ := xw_at (cs := cs) (ad := ad) (M := M) hk
    rw [hc] at hq
    exact va_aldq Z.1 Z.2.1 Z.2.2.2.2.1.1 hP q t0 hq ht h hdg (kk h H locs ls hl hP hS r hr)
theorem xj_alen (Z : CX p s m args meth c cc nL own ret D cs A S ad) {k n : Nat} {v : Int32} (hk : k ∈ S) (hy : xlay k = (1, n)) (hv : Int32.ofNat n = v) (hdg : decode cc pc = .ok (.arraylength, 1)) (kk : XJ p l e R s m args below meth c D cs A S ad nL Q (pc + 1) lv (.int v :: st) M o) : XJ p l e R s m args below meth c D cs A S ad nL Q (pc) lv (.ref (ad k) :: st) M o := by
  intro H locs ls hl hP hS r hr
  obtain ⟨q, hq, -⟩ := xw_at (cs := cs) (ad := ad) (M := M) hk
  have hc : xcell ad cs M k = .inl (cs 0, n, .inl (M.1 k)) := by unfold xcell; rw [hy]; rfl
  rw [hc] at hq
  exact va_alen Z.1 Z.2.1 Z.2.2.2.2.1.1 hP q 0 hq rfl hv hdg (kk H locs ls hl hP hS r hr)
theorem xj_get (Z : CX p s m args meth c cc nL own ret D cs A S ad) {C : String} {T : u_T} {N ci index k : Nat} (j : Nat) {v : Value} (hk : k ∈ S) (hy : xlay k = (0, ci)) (hcl : classes[ci]? = some (C, T, N)) (hin : ∀ w ∈ u_ws C T N, w ∈ xbig) (hj : j < N) (hC : (T j).1 = C) (hlink : Cond.fieldLink own index C (T j).2.1 (T j).2.2.1 ∈ xbig) (hv : (xfs ad (M.1 k) M.2 k ci)[j]? = some v) (hdg : decode cc pc = .ok (.getfield index, 3)) (kk : XJ p l e R s m args below meth c D cs A S ad nL Q (pc + 3) lv (v :: st) M o) : XJ p l e R s m args below meth c D cs A S ad nL Q (pc) lv (.ref (ad k) :: st) M o := by
  intro H locs ls hl hP hS r hr
  obtain ⟨q, hq, -⟩ := xw_at (cs := cs) (ad := ad) (M := M) hk
  have hc : xcell ad cs M k = .inr (ci, xfs ad (M.1 k) M.2 k ci) := by unfold xcell; rw [hy]; rfl
  rw [hc] at hq
  exact va_get Z.1 Z.2.1 (Z.2.2.2.2.1.hts args) hin Z.2.2.2.1 Z.2.2.2.2.1.1 hP q hq hcl j hj (Z.2.2.2.2.1.hts _ _ hlink) (fun _ h9 => by rw [hC] at h9; exact h9) hv hdg (kk H locs ls hl hP hS r hr)
theorem xj_put (Z : CX p s m args meth c cc nL own ret D cs A S ad) {C : String} {T : u_T} {N ci index k : Nat} (j : Nat) {ty0 : Nat → FieldType} {v : Value} {M1 : xm} {g : xm → Option ρ} (hk : k ∈ S) (hy : xlay k = (0, ci)) (hcl : classes[ci]? = some (C, T, N)) (hin : ∀ w ∈ u_ws C T N, w ∈ xbig) (hty : ∀ k, k < N → parseFieldDescriptor (T k).2.2.1 = some (ty0 k)) (hnm : ∀ a, a < N → ∀ b, b < N → a ≠ b → (T a).2.1 ≠ (T b).2.1) (hj : j < N) (hC : (T j).1 = C) (hfin : (T j).2.2.2 = false) (hlink : Cond.fieldLink own index C (T j).2.1 (T j).2.2.1 ∈ xbig) (hn : narrow (ty0 j) v = v) (hfit : fits (ty0 j) v = true) (hlen : j < (xfs ad (M.1 k) M.2 k ci).length) (hset : xfs ad (M1.1 k) M1.2 k ci = (xfs ad (M.1 k) M.2 k ci).set j v) (hoth : ∀ a, a ≠ k → xcell ad cs M1 a = xcell ad cs M a) (hdg : decode cc pc = .ok (.putfield index, 3)) (kk : ∀ M2, M2 = M1 → XJ p l e R s m args below meth c D cs A S ad nL Q (pc + 3) lv (st) M2 (g M2)) : XJ p l e R s m args below meth c D cs A S ad nL Q (pc) lv (v :: .ref (ad k) :: st) M (xl M1 g) := by
  intro H locs ls hl hP hS r hr
  obtain ⟨q, hq, hq2⟩ := xw_at (cs := cs) (ad := ad) (M := M) hk
  have hc : ∀ M : xm, xcell ad cs M k = .inr (ci, xfs ad (M.1 k) M.2 k ci) := by intro M; unfold xcell; rw [hy]; rfl
  rw [hc] at hq
  refine va_put Z.1 Z.2.1 (Z.2.2.2.2.1.hts args) hin ty0 hty hnm Z.2.2.2.1 Z.2.2.2.2.1.1 hP (xw_D Z.2.2.2.2.2.1) hS q hq hcl j hj (Z.2.2.2.2.1.hts _ _ hlink) (fun _ h9 => by rw [hC] at h9; exact h9) hfin (hty j hj) hn hfit hlen hdg (fun H1 locs1 hP1 _ hS1 => ?_)
  rw [xw_set (M' := M1) Z.2.2.2.2.2.1.1 hq2 (by rw [hc, hset]) hoth] at hP1
  exact kk _ rfl H1 locs1 ls hl hP1 hS1 r hr
theorem xj_getN (Z : CX p s m args meth c cc nL own ret D cs A S ad) {C host : String} {T : u_T} {N ci index k : Nat} (j : Nat) {v : Value} (hk : k ∈ S) (hy : xlay k = (0, ci)) (hcl : classes[ci]? = some (C, T, N)) (hin : ∀ w ∈ u_ws C T N, w ∈ xbig) (hj : j < N) (hC : (T j).1 = C) (hlink : Cond.fieldLinkNest own index C (T j).2.1 (T j).2.2.1 host ∈ xnst) (hv : (xfs ad (M.1 k) M.2 k ci)[j]? = some v) (hdg : decode cc pc = .ok (.getfield index, 3)) (kk : XJ p l e R s m args below meth c D cs A S ad nL Q (pc + 3) lv (v :: st) M o) : XJ p l e R s m args below meth c D cs A S ad nL Q (pc) lv (.ref (ad k) :: st) M o := by
  intro H locs ls hl hP hS r hr
  obtain ⟨q, hq, -⟩ := xw_at (cs := cs) (ad := ad) (M := M) hk
  have hc : xcell ad cs M k = .inr (ci, xfs ad (M.1 k) M.2 k ci) := by unfold xcell; rw [hy]; rfl
  rw [hc] at hq
  exact va_getN Z.1 Z.2.1 (Z.2.2.2.2.1.hts args) hin Z.2.2.2.1 Z.2.2.2.2.1.1 hP q hq hcl j hj (va_Nw.use (List.all_eq_true.mp xnst_ok _ hlink) (Z.2.2.2.2.1.2.2 _ hlink)) (fun _ h9 => by rw [hC] at h9; exact h9) hv hdg (kk H locs ls hl hP hS r hr)
theorem xj_putN (Z : CX p s m args meth c cc nL own ret D cs A S ad) {C host : String} {T : u_T} {N ci index k : Nat} (j : Nat) {ty0 : Nat → FieldType} {v : Value} {M1 : xm} {g : xm → Option ρ} (hk : k ∈ S) (hy : xlay k = (0, ci)) (hcl : classes[ci]? = some (C, T, N)) (hin : ∀ w ∈ u_ws C T N, w ∈ xbig) (hty : ∀ k, k < N → parseFieldDescriptor (T k).2.2.1 = some (ty0 k)) (hnm : ∀ a, a < N → ∀ b, b < N → a ≠ b → (T a).2.1 ≠ (T b).2.1) (hj : j < N) (hC : (T j).1 = C) (hfin : (T j).2.2.2 = false) (hlink : Cond.fieldLinkNest own index C (T j).2.1 (T j).2.2.1 host ∈ xnst) (hn : narrow (ty0 j) v = v) (hfit : fits (ty0 j) v = true) (hlen : j < (xfs ad (M.1 k) M.2 k ci).length) (hset : xfs ad (M1.1 k) M1.2 k ci = (xfs ad (M.1 k) M.2 k ci).set j v) (hoth : ∀ a, a ≠ k → xcell ad cs M1 a = xcell ad cs M a) (hdg : decode cc pc = .ok (.putfield index, 3)) (kk : ∀ M2, M2 = M1 → XJ p l e R s m args below meth c D cs A S ad nL Q (pc + 3) lv (st) M2 (g M2)) : XJ p l e R s m args below meth c D cs A S ad nL Q (pc) lv (v :: .ref (ad k) :: st) M (xl M1 g) := by
  intro H locs ls hl hP hS r hr
  obtain ⟨q, hq, hq2⟩ := xw_at (cs := cs) (ad := ad) (M := M) hk
  have hc : ∀ M : xm, xcell ad cs M k = .inr (ci, xfs ad (M.1 k) M.2 k ci) := by intro M; unfold xcell; rw [hy]; rfl
  rw [hc] at hq
  refine va_putN Z.1 Z.2.1 (Z.2.2.2.2.1.hts args) hin ty0 hty hnm Z.2.2.2.1 Z.2.2.2.2.1.1 hP (xw_D Z.2.2.2.2.2.1) hS q hq hcl j hj (va_Nw.use (List.all_eq_true.mp xnst_ok _ hlink) (Z.2.2.2.2.1.2.2 _ hlink)) (fun _ h9 => by rw [hC] at h9; exact h9) hfin (hty j hj) hn hfit hlen hdg (fun H1 locs1 hP1 _ hS1 => ?_)
  rw [xw_set (M' := M1) Z.2.2.2.2.2.1.1 hq2 (by rw [hc, hset]) hoth] at hP1
  exact kk _ rfl H1 locs1 ls hl hP1 hS1 r hr
end XR
end
section
/-! CONTRACTS over the memory -/
def XPc (D : va_G) (cs : Nat → ClassId) (S : List Nat) (ad : Nat → Nat) (vs : List Value) (M : xm) : Array Value → State → Prop := va_Pc vs (fun U => xst D cs U ∧ va_P D classes (xw S ad cs M) U.heap)
def XQi (D : va_G) (cs : Nat → ClassId) (S : List Nat) (ad : Nat → Nat) (r : Int32) (M : xm) : Array Value → State → Outcome → State → Prop := va_Qi (S := Unit) (fun x _ => x = r) (fun _ t => va_P D classes (xw S ad cs M) t.heap) (xA S ad)
def XQv (D : va_G) (cs : Nat → ClassId) (S : List Nat) (ad : Nat → Nat) (M : xm) : Array Value → State → Outcome → State → Prop := va_Qv (S := Unit) (fun _ => True) (fun _ t => va_P D classes (xw S ad cs M) t.heap) (xA S ad)
def XRr (below : List Frame) (args : Array Value) (s : State) (D : va_G) (cs : Nat → ClassId) (S : List Nat) (ad : Nat → Nat) (M : xm) : Int32 → State → Prop := fun r => MQ below (XQi D cs S ad r M) args s 0 0 (xA S ad)
def XRm (below : List Frame) (args : Array Value) (s : State) (D : va_G) (cs : Nat → ClassId) (S : List Nat) (ad : Nat → Nat) : xm → State → Prop := fun M => MQ below (XQv D cs S ad M) args s 0 0 (xA S ad)
def XRb (below : List Frame) (args : Array Value) (s : State) (D : va_G) (cs : Nat → ClassId) (S : List Nat) (ad : Nat → Nat) : Int32 × xm → State → Prop := fun q => MQ below (XQi D cs S ad q.1 q.2) args s 0 0 (xA S ad)
theorem XPc.blind {D : va_G} {cs : Nat → ClassId} {S : List Nat} {ad : Nat → Nat} {vs : List Value} {M : xm} : FrameBlind (XPc D cs S ad vs M) := fun a U g mk q => by
  obtain ⟨q0, q1, q2⟩ := q
  exact ⟨q0, xst.same (u := U) (U := U.calling g mk a) rfl q1, q2⟩
theorem xA.sub {A : Nat → Prop} {S : List Nat} {ad : Nat → Nat} (h : xD A S ad) : ∀ q, xA S ad q → A q := fun q hq => by
  obtain ⟨k, hk, rfl⟩ := hq
  exact h.2.2 k hk
section XR
variable {ρ : Type} {p : Program} {l : Launch} {e : Env} {R : Room} {s : State} {m : MethodId} {args : Array Value} {below : List Frame} {meth : Method} {c : Code} {D : va_G} {cs : Nat → ClassId} {A : Nat → Prop} {S : List Nat} {ad : Nat → Nat} {nL : Nat} {Q : ρ → State → Prop} {cc : ByteArray} {own : String} {ret : Option FieldType}
variable {pc : Nat} {lv : List (Nat × Value)} {st : List Value} {M : xm} {o : Option ρ}

theorem xj_callVr (Z : CX p s m args meth c cc nL own ret D cs A S ad) {y : MethodName} {b : ByteArray} {nL2 index n : Nat} {ret2 : Option FieldType} {rmc : Room} {C : String} {T : u_T} {N ci k : Nat} {As st0 : List Value} {f : Option (Int32)} {g : Int32 → Option ρ} (hM : ∀ x, f = some x → Met l y [Cond.code y b nL2 ret2] rmc (XPc D cs S ad (.ref (ad k) :: As) M) (XQi D cs S ad x M) 0 0 (xA S ad)) (hw : ∀ w ∈ wsV own index C y [Cond.code y b nL2 ret2], w ∈ xbig) (hk : k ∈ S) (hy : xlay k = (0, ci)) (hcl : classes[ci]? = some (C, T, N)) (hd : y.cls = C ∧ y.cls ≠ "java/lang/invoke/MethodHandle" ∧ y.cls ≠ "java/lang/invoke/VarHandle" ∧ (parseMethodDescriptor y.desc).map (fun d => d.parameters.length) = some n) (hn : As.length = n) (hrm : rmc.cells = 0 ∧ rmc.slots = 0) (hR : rmc.frames + 1 ≤ R.frames ∧ 8 + (nL2 + 11) + rmc.locals ≤ R.locals) (hst : st0 = As.reverse ++ .ref (ad k) :: st) (hcat : (st.map fun v => v.category).sum ≤ 8) (hdg : decode cc pc = .ok (.invokevirtual index, 3)) (kk : ∀ x, XJ p l e R s m args below meth c D cs A S ad nL Q (pc + 3) lv (.int x :: st) M (g x)) : XJ p l e R s m args below meth c D cs A S ad nL Q pc lv st0 M (f.bind g) := by
  intro H locs ls hl hP hS r hr
  cases hf : f with
  | none => rw [hf] at hr; cases hr
  | some x =>
    rw [hf] at hr
    have hr : g x = some r := hr
    have hts := Z.2.2.2.2.1.hts args
    obtain ⟨q, hq, -⟩ := xw_at (cs := cs) (ad := ad) (M := M) hk
    have hc : xcell ad cs M k = .inr (ci, xfs ad (M.1 k) M.2 k ci) := by unfold xcell; rw [hy]; rfl
    rw [hc] at hq
    have hrecv := va_recv Z.2.2.2.2.1.1 hP hcl hq
    refine va_calli (va_runV (As := As) (rest := st) (g := F0 m pc ls st0) ⟨Z.1, Z.2.1, Z.2.2.1, Z.2.2.2.1, hts⟩ (hM x hf) (cwV n hts (xgood hw) rfl hrm.1 hrm.2 hd hR) ⟨XPc.blind, hrecv, fun U hU hW => ⟨rfl, xst.warm hW Z.2.2.2.2.1, by rw [hU]; exact hP⟩⟩ rfl hn hl.1 hst (lv_room (m := m) (pc := pc) (ls := ls) (rest := st) hcat) hdg ⟨Nat.zero_le _, Nat.zero_le _⟩) hS (fun q _ h => xA.sub Z.2.2.2.2.2.1 q h) (fun q h => xA.sub Z.2.2.2.2.2.1 q h) (fun x2 u t H1 locs1 ht hvm hw2 hB hz hk1 hS1 => ?_)
    rw [ht] at hB
    subst hw2
    exact kk _ H1 locs1 ls hl hB hS1 r hr
theorem xj_callVm (Z : CX p s m args meth c cc nL own ret D cs A S ad) {y : MethodName} {b : ByteArray} {nL2 index n : Nat} {ret2 : Option FieldType} {rmc : Room} {C : String} {T : u_T} {N ci k : Nat} {As st0 : List Value} {f : Option (xm)} {g : xm → Option ρ} (hM : ∀ x, f = some x → Met l y [Cond.code y b nL2 ret2] rmc (XPc D cs S ad (.ref (ad k) :: As) M) (XQv D cs S ad x) 0 0 (xA S ad)) (hw : ∀ w ∈ wsV own index C y [Cond.code y b nL2 ret2], w ∈ xbig) (hk : k ∈ S) (hy : xlay k = (0, ci)) (hcl : classes[ci]? = some (C, T, N)) (hd : y.cls = C ∧ y.cls ≠ "java/lang/invoke/MethodHandle" ∧ y.cls ≠ "java/lang/invoke/VarHandle" ∧ (parseMethodDescriptor y.desc).map (fun d => d.parameters.length) = some n) (hn : As.length = n) (hrm : rmc.cells = 0 ∧ rmc.slots = 0) (hR : rmc.frames + 1 ≤ R.frames ∧ 8 + (nL2 + 11) + rmc.locals ≤ R.locals) (hst : st0 = As.reverse ++ .ref (ad k) :: st) (hcat : (st.map fun v => v.category).sum ≤ 8) (hdg : decode cc pc = .ok (.invokevirtual index, 3)) (kk : ∀ x, XJ p l e R s m args below meth c D cs A S ad nL Q (pc + 3) lv (st) x (g x)) : XJ p l e R s m args below meth c D cs A S ad nL Q pc lv st0 M (f.bind g) := by
  intro H locs ls hl hP hS r hr
  cases hf : f with
  | none => rw [hf] at hr; cases hr
  | some x =>
    rw [hf] at hr
    have hr : g x = some r := hr
    have hts := Z.2.2.2.2.1.hts args
    obtain ⟨q, hq, -⟩ := xw_at (cs := cs) (ad := ad) (M := M) hk
    have hc : xcell ad cs M k = .inr (ci, xfs ad (M.1 k) M.2 k ci) := by unfold xcell; rw [hy]; rfl
    rw [hc] at hq
    have hrecv := va_recv Z.2.2.2.2.1.1 hP hcl hq
    refine va_callv (va_runV (As := As) (rest := st) (g := F0 m pc ls st0) ⟨Z.1, Z.2.1, Z.2.2.1, Z.2.2.2.1, hts⟩ (hM x hf) (cwV n hts (xgood hw) rfl hrm.1 hrm.2 hd hR) ⟨XPc.blind, hrecv, fun U hU hW => ⟨rfl, xst.warm hW Z.2.2.2.2.1, by rw [hU]; exact hP⟩⟩ rfl hn hl.1 hst (lv_room (m := m) (pc := pc) (ls := ls) (rest := st) hcat) hdg ⟨Nat.zero_le _, Nat.zero_le _⟩) hS (fun q _ h => xA.sub Z.2.2.2.2.2.1 q h) (fun q h => xA.sub Z.2.2.2.2.2.1 q h) (fun u t H1 locs1 ht hvm hw2 hB hz hk1 hS1 => ?_)
    rw [ht] at hB
    exact kk _ H1 locs1 ls hl hB hS1 r hr
theorem xj_callVb (Z : CX p s m args meth c cc nL own ret D cs A S ad) {y : MethodName} {b : ByteArray} {nL2 index n : Nat} {ret2 : Option FieldType} {rmc : Room} {C : String} {T : u_T} {N ci k : Nat} {As st0 : List Value} {f : Option (Int32 × xm)} {g : Int32 × xm → Option ρ} (hM : ∀ x, f = some x → Met l y [Cond.code y b nL2 ret2] rmc (XPc D cs S ad (.ref (ad k) :: As) M) (XQi D cs S ad x.1 x.2) 0 0 (xA S ad)) (hw : ∀ w ∈ wsV own index C y [Cond.code y b nL2 ret2], w ∈ xbig) (hk : k ∈ S) (hy : xlay k = (0, ci)) (hcl : classes[ci]? = some (C, T, N)) (hd : y.cls = C ∧ y.cls ≠ "java/lang/invoke/MethodHandle" ∧ y.cls ≠ "java/lang/invoke/VarHandle" ∧ (parseMethodDescriptor y.desc).map (fun d => d.parameters.length) = some n) (hn : As.length = n) (hrm : rmc.cells = 0 ∧ rmc.slots = 0) (hR : rmc.frames + 1 ≤ R.frames ∧ 8 + (nL2 + 11) + rmc.locals ≤ R.locals) (hst : st0 = As.reverse ++ .ref (ad k) :: st) (hcat : (st.map fun v => v.category).sum ≤ 8) (hdg : decode cc pc = .ok (.invokevirtual index, 3)) (kk : ∀ x : Int32 × xm, XJ p l e R s m args below meth c D cs A S ad nL Q (pc + 3) lv (.int x.1 :: st) x.2 (g x)) : XJ p l e R s m args below meth c D cs A S ad nL Q pc lv st0 M (f.bind g) := by
  intro H locs ls hl hP hS r hr
  cases hf : f with
  | none => rw [hf] at hr; cases hr
  | some x =>
    rw [hf] at hr
    have hr : g x = some r := hr
    have hts := Z.2.2.2.2.1.hts args
    obtain ⟨q, hq, -⟩ := xw_at (cs := cs) (ad := ad) (M := M) hk
    have hc : xcell ad cs M k = .inr (ci, xfs ad (M.1 k) M.2 k ci) := by unfold xcell; rw [hy]; rfl
    rw [hc] at hq
    have hrecv := va_recv Z.2.2.2.2.1.1 hP hcl hq
    refine va_calli (va_runV (As := As) (rest := st) (g := F0 m pc ls st0) ⟨Z.1, Z.2.1, Z.2.2.1, Z.2.2.2.1, hts⟩ (hM x hf) (cwV n hts (xgood hw) rfl hrm.1 hrm.2 hd hR) ⟨XPc.blind, hrecv, fun U hU hW => ⟨rfl, xst.warm hW Z.2.2.2.2.1, by rw [hU]; exact hP⟩⟩ rfl hn hl.1 hst (lv_room (m := m) (pc := pc) (ls := ls) (rest := st) hcat) hdg ⟨Nat.zero_le _, Nat.zero_le _⟩) hS (fun q _ h => xA.sub Z.2.2.2.2.2.1 q h) (fun q h => xA.sub Z.2.2.2.2.2.1 q h) (fun x2 u t H1 locs1 ht hvm hw2 hB hz hk1 hS1 => ?_)
    rw [ht] at hB
    subst hw2
    exact kk x H1 locs1 ls hl hB hS1 r hr
theorem xj_callSr (Z : CX p s m args meth c cc nL own ret D cs A S ad) {y : MethodName} {b : ByteArray} {nL2 index n : Nat} {ret2 : Option FieldType} {rmc : Room} {As st0 : List Value} {f : Option (Int32)} {g : Int32 → Option ρ} (hM : ∀ x, f = some x → Met l y [Cond.code y b nL2 ret2] rmc (XPc D cs S ad As M) (XQi D cs S ad x M) 0 0 (xA S ad)) (hw : ∀ w ∈ va_wsS own index y [Cond.code y b nL2 ret2], w ∈ xbig) (hd : y.cls ≠ "java/lang/invoke/MethodHandle" ∧ y.cls ≠ "java/lang/invoke/VarHandle" ∧ (parseMethodDescriptor y.desc).map (fun d => d.parameters.length) = some n) (hn : As.length = n) (hrm : rmc.cells = 0 ∧ rmc.slots = 0) (hR : rmc.frames + 1 ≤ R.frames ∧ 8 + (nL2 + 11) + rmc.locals ≤ R.locals) (hst : st0 = As.reverse ++ st) (hcat : (st.map fun v => v.category).sum ≤ 8) (hdg : decode cc pc = .ok (.invokestatic index, 3)) (kk : ∀ x, XJ p l e R s m args below meth c D cs A S ad nL Q (pc + 3) lv (.int x :: st) M (g x)) : XJ p l e R s m args below meth c D cs A S ad nL Q pc lv st0 M (f.bind g) := by
  intro H locs ls hl hP hS r hr
  cases hf : f with
  | none => rw [hf] at hr; cases hr
  | some x =>
    rw [hf] at hr
    have hr : g x = some r := hr
    have hts := Z.2.2.2.2.1.hts args
    refine va_calli (va_runS (As := As) (rest := st) (g := F0 m pc ls st0) ⟨Z.1, Z.2.1, Z.2.2.1, Z.2.2.2.1, hts⟩ (hM x hf) (va_cwS n hts (xgood hw) rfl hrm.1 hrm.2 hd hR) ⟨XPc.blind, fun U hU hW => ⟨rfl, xst.warm hW Z.2.2.2.2.1, by rw [hU]; exact hP⟩⟩ rfl hn hl.1 hst (lv_room (m := m) (pc := pc) (ls := ls) (rest := st) hcat) hdg ⟨Nat.zero_le _, Nat.zero_le _⟩) hS (fun q _ h => xA.sub Z.2.2.2.2.2.1 q h) (fun q h => xA.sub Z.2.2.2.2.2.1 q h) (fun x2 u t H1 locs1 ht hvm hw2 hB hz hk1 hS1 => ?_)
    rw [ht] at hB
    subst hw2
    exact kk _ H1 locs1 ls hl hB hS1 r hr
theorem xj_callNr (Z : CX p s m args meth c cc nL own ret D cs A S ad) {y : MethodName} {b : ByteArray} {nL2 index n : Nat} {ret2 : Option FieldType} {rmc : Room} {host : String} {As st0 : List Value} {f : Option (Int32)} {g : Int32 → Option ρ} (hM : ∀ x, f = some x → Met l y [Cond.code y b nL2 ret2] rmc (XPc D cs S ad As M) (XQi D cs S ad x M) 0 0 (xA S ad)) (hw : ∀ w ∈ [Cond.code y b nL2 ret2], w ∈ xbig) (hnl : Cond.methodLinkNest own index y host ∈ xnst) (hst2 : Cond.static y ∈ xbig) (hini : Cond.initialized y.cls ∈ xbig) (hd : y.cls ≠ "java/lang/invoke/MethodHandle" ∧ y.cls ≠ "java/lang/invoke/VarHandle" ∧ (parseMethodDescriptor y.desc).map (fun d => d.parameters.length) = some n) (hn : As.length = n) (hrm : rmc.cells = 0 ∧ rmc.slots = 0) (hR : rmc.frames + 1 ≤ R.frames ∧ 8 + (nL2 + 11) + rmc.locals ≤ R.locals) (hst : st0 = As.reverse ++ st) (hcat : (st.map fun v => v.category).sum ≤ 8) (hdg : decode cc pc = .ok (.invokestatic index, 3)) (kk : ∀ x, XJ p l e R s m args below meth c D cs A S ad nL Q (pc + 3) lv (.int x :: st) M (g x)) : XJ p l e R s m args below meth c D cs A S ad nL Q pc lv st0 M (f.bind g) := by
  intro H locs ls hl hP hS r hr
  cases hf : f with
  | none => rw [hf] at hr; cases hr
  | some x =>
    rw [hf] at hr
    have hr : g x = some r := hr
    have hts := Z.2.2.2.2.1.hts args
    refine va_calli (va_runSN (As := As) (rest := st) (g := F0 m pc ls st0) ⟨Z.1, Z.2.1, Z.2.2.1, Z.2.2.2.1, hts⟩ (hM x hf) ⟨va_cnB n hts (xgood hw) rfl hrm.1 hrm.2 (Z.2.2.2.2.1.2.2 _ hnl) (hts _ hini) hd hR, hts _ hst2, trivial⟩ ⟨XPc.blind, fun U hU hW => ⟨rfl, xst.warm hW Z.2.2.2.2.1, by rw [hU]; exact hP⟩⟩ rfl hn hl.1 hst (lv_room (m := m) (pc := pc) (ls := ls) (rest := st) hcat) hdg ⟨Nat.zero_le _, Nat.zero_le _⟩) hS (fun q _ h => xA.sub Z.2.2.2.2.2.1 q h) (fun q h => xA.sub Z.2.2.2.2.2.1 q h) (fun x2 u t H1 locs1 ht hvm hw2 hB hz hk1 hS1 => ?_)
    rw [ht] at hB
    subst hw2
    exact kk _ H1 locs1 ls hl hB hS1 r hr
theorem xj_mmin (Z : CX p s m args meth c cc nL own ret D cs A S ad) {index : Nat} {x y : Int32} (hl1 : Cond.methodLink own index Lib.Math.min.name ∈ xbig) (hl2 : Cond.static Lib.Math.min.name ∈ xbig) (hl3 : Cond.initialized "java/lang/Math" ∈ xbig) (hl4 : Cond.code Lib.Math.min.name Lib.Math.min.code 2 (some .int) ∈ xbig) (hR : 1 ≤ R.frames ∧ (st.map fun v => v.category).sum + 13 ≤ R.locals) (hdg : decode cc pc = .ok (.invokestatic index, 3)) (kk : XJ p l e R s m args below meth c D cs A S ad nL Q (pc + 3) lv (.int (if y < x then y else x) :: st) M o) : XJ p l e R s m args below meth c D cs A S ad nL Q (pc) lv (.int y :: .int x :: st) M o := by
  intro H locs ls hl hP hS r hr
  have hts := Z.2.2.2.2.1.hts args
  exact va_mmin Z.1 Z.2.1 (by rw [Z.2.2.1]; exact hl.1.symm) Z.2.2.2.1 (hts _ hl1) (hts _ hl2) (hts _ hl3) (hts _ hl4) hR.1 hR.2 (Nat.zero_le _) (Nat.zero_le _) hdg (kk H locs ls hl hP hS r hr)
theorem xj_mmax (Z : CX p s m args meth c cc nL own ret D cs A S ad) {index : Nat} {x y : Int32} (hl1 : Cond.methodLink own index Lib.Math.max.name ∈ xbig) (hl2 : Cond.static Lib.Math.max.name ∈ xbig) (hl3 : Cond.initialized "java/lang/Math" ∈ xbig) (hl4 : Cond.code Lib.Math.max.name Lib.Math.max.code 2 (some .int) ∈ xbig) (hR : 1 ≤ R.frames ∧ (st.map fun v => v.category).sum + 13 ≤ R.locals) (hdg : decode cc pc = .ok (.invokestatic index, 3)) (kk : XJ p l e R s m args below meth c D cs A S ad nL Q (pc + 3) lv (.int (if x < y then y else x) :: st) M o) : XJ p l e R s m args below meth c D cs A S ad nL Q (pc) lv (.int y :: .int x :: st) M o := by
  intro H locs ls hl hP hS r hr
  have hts := Z.2.2.2.2.1.hts args
  exact va_mmax Z.1 Z.2.1 (by rw [Z.2.2.1]; exact hl.1.symm) Z.2.2.2.1 (hts _ hl1) (hts _ hl2) (hts _ hl3) (hts _ hl4) hR.1 hR.2 (Nat.zero_le _) (Nat.zero_le _) hdg (kk H locs ls hl hP hS r hr)
theorem xj_tblIn (Z : CX p s m args meth c cc nL own ret D cs A S ad) {dflt lo hi : Int} {offs : Array Int} {len : Nat} {x : Int32} {off : Int} (tgt : Nat) (hdg : decode cc pc = .ok (.tableswitch dflt lo hi offs, len)) (h1 : ¬ x.toInt < lo) (h2 : ¬ hi < x.toInt) (ho : offs[(x.toInt - lo).toNat]? = some off) (ht : (pc : Int) + off = (tgt : Int)) (k : XJ p l e R s m args below meth c D cs A S ad nL Q (tgt) lv (st) M o) : XJ p l e R s m args below meth c D cs A S ad nL Q (pc) lv (.int x :: st) M o := fun H locs ls hl hP hS r hr => lv_tableIn Z.1 Z.2.1 hdg h1 h2 ho ht (k H locs ls hl hP hS r hr)
theorem xj_tblOut (Z : CX p s m args meth c cc nL own ret D cs A S ad) {dflt lo hi : Int} {offs : Array Int} {len : Nat} {x : Int32} (tgt : Nat) (hdg : decode cc pc = .ok (.tableswitch dflt lo hi offs, len)) (h : x.toInt < lo ∨ hi < x.toInt) (ht : (pc : Int) + dflt = (tgt : Int)) (k : XJ p l e R s m args below meth c D cs A S ad nL Q (tgt) lv (st) M o) : XJ p l e R s m args below meth c D cs A S ad nL Q (pc) lv (.int x :: st) M o := fun H locs ls hl hP hS r hr => lv_tableOut Z.1 Z.2.1 hdg h ht (k H locs ls hl hP hS r hr)
theorem xj_look (Z : CX p s m args meth c cc nL own ret D cs A S ad) {dflt : Int} {ps : Array (Int × Int)} {len : Nat} {x : Int32} {off : Int} (tgt : Nat) (hdg : decode cc pc = .ok (.lookupswitch dflt ps, len)) (hp : (ps.toList.zip (ps.toList.drop 1)).all (fun (a, next) => a.1 < next.1) = true) (ho : Op.lookupswitch.offset ps.toList dflt x.toInt = off) (ht : (pc : Int) + off = (tgt : Int)) (k : XJ p l e R s m args below meth c D cs A S ad nL Q (tgt) lv (st) M o) : XJ p l e R s m args below meth c D cs A S ad nL Q (pc) lv (.int x :: st) M o := fun H locs ls hl hP hS r hr => lv_lookup Z.1 Z.2.1 hdg hp ho ht (k H locs ls hl hP hS r hr)
end XR
section XT
variable {p : Program} {l : Launch} {e : Env} {R : Room} {s : State} {m : MethodId} {args : Array Value} {below : List Frame} {meth : Method} {c : Code} {D : va_G} {cs : Nat → ClassId} {S : List Nat} {ad : Nat → Nat} {nL : Nat} {cc : ByteArray} {own : String} 
variable {pc : Nat} {lv : List (Nat × Value)} {st : List Value} {M : xm} {M0 : xm}

theorem xj_ret_r (Z : CX p s m args meth c cc nL own (some .int) D cs (xA S ad) S ad) {v : Int32} (hdg : decode cc pc = .ok (.ireturn, 1)) : XJ p l e R s m args below meth c D cs (xA S ad) S ad nL (XRr below args s D cs S ad M) pc lv [.int v] M (some v) := by
  intro H locs ls hl hP hS r hr
  cases hr
  exact W.iret (v := v) Z.1 Z.2.1 Z.2.2.2.2.2.2.2 (fun t ht hW => ⟨⟨v, (), rfl, rfl, by show va_P D classes _ t.heap; rw [ht]; exact hP⟩, hS.F ht⟩) hS.2.2 hdg Z.2.2.2.2.2.2.1
theorem xj_ret_b (Z : CX p s m args meth c cc nL own (some .int) D cs (xA S ad) S ad) {v : Int32} (hdg : decode cc pc = .ok (.ireturn, 1)) : XJ p l e R s m args below meth c D cs (xA S ad) S ad nL (XRb below args s D cs S ad) pc lv [.int v] M (some (v, M)) := by
  intro H locs ls hl hP hS r hr
  cases hr
  exact W.iret (v := v) Z.1 Z.2.1 Z.2.2.2.2.2.2.2 (fun t ht hW => ⟨⟨v, (), rfl, rfl, by show va_P D classes _ t.heap; rw [ht]; exact hP⟩, hS.F ht⟩) hS.2.2 hdg Z.2.2.2.2.2.2.1
theorem xnb {v : Int32} (h : v = 0 ∨ v = 1) : narrow .boolean (.int v) = .int v := by
  rcases h with rfl | rfl <;> rfl
theorem xj_zret_r (Z : CX p s m args meth c cc nL own (some .boolean) D cs (xA S ad) S ad) {v : Int32} (hdg : decode cc pc = .ok (.ireturn, 1)) : XJ p l e R s m args below meth c D cs (xA S ad) S ad nL (XRr below args s D cs S ad M) pc lv [.int v] M (xbo v (some v)) := by
  intro H locs ls hl hP hS r hr
  unfold xbo at hr
  by_cases h : v = 0 ∨ v = 1
  · rw [if_pos h] at hr
    cases hr
    exact W.zret (v := v) Z.1 Z.2.1 Z.2.2.2.2.2.2.2 (xnb h) (fun t ht hW => ⟨⟨v, (), rfl, rfl, by show va_P D classes _ t.heap; rw [ht]; exact hP⟩, hS.F ht⟩) hS.2.2 hdg Z.2.2.2.2.2.2.1
  · rw [if_neg h] at hr; cases hr
theorem xj_zret_b (Z : CX p s m args meth c cc nL own (some .boolean) D cs (xA S ad) S ad) {v : Int32} (hdg : decode cc pc = .ok (.ireturn, 1)) : XJ p l e R s m args below meth c D cs (xA S ad) S ad nL (XRb below args s D cs S ad) pc lv [.int v] M (xbo v (some (v, M))) := by
  intro H locs ls hl hP hS r hr
  unfold xbo at hr
  by_cases h : v = 0 ∨ v = 1
  · rw [if_pos h] at hr
    cases hr
    exact W.zret (v := v) Z.1 Z.2.1 Z.2.2.2.2.2.2.2 (xnb h) (fun t ht hW => ⟨⟨v, (), rfl, rfl, by show va_P D classes _ t.heap; rw [ht]; exact hP⟩, hS.F ht⟩) hS.2.2 hdg Z.2.2.2.2.2.2.1
  · rw [if_neg h] at hr; cases hr
theorem xj_vret (Z : CX p s m args meth c cc nL own (none) D cs (xA S ad) S ad) (hdg : decode cc pc = .ok (.return_, 1)) : XJ p l e R s m args below meth c D cs (xA S ad) S ad nL (XRm below args s D cs S ad) pc lv [] M (some M) := by
  intro H locs ls hl hP hS r hr
  cases hr
  exact W.vret Z.1 Z.2.1 Z.2.2.2.2.2.2.2 (fun t ht hW => ⟨⟨(), rfl, trivial, by show va_P D classes _ t.heap; rw [ht]; exact hP⟩, hS.F ht⟩) hS.2.2 hdg Z.2.2.2.2.2.2.1
end XT
theorem xm_r {l : Launch} {y : MethodName} {cc : ByteArray} {nL : Nat} {ret : Option FieldType} {own : String} {rm : Room} {D : va_G} {cs : Nat → ClassId} {S : List Nat} {ad : Nat → Nat} {vs : List Value} {M : xm} {lv : List (Nat × Value)} {o : Option (Int32)} (hy : plainName y.cls = true) (hyo : y.cls = own) (hlv : lv_args 0 vs = lv) (hlen : (lg_sl vs).length ≤ nL) (hd : xdist S ad)
    (body : ∀ (p : Program) (e : Env) (s : State) (m : MethodId) (args : Array Value) (below : List Frame) (meth : Method) (c : Code), CX p s m args meth c cc nL own ret D cs (xA S ad) S ad → XJ p l e rm s m args below meth c D cs (xA S ad) S ad nL (XRr below args s D cs S ad M) 0 lv [] M o) : ∀ r, o = some r → Met l y [Cond.code y cc nL ret] rm (XPc D cs S ad vs M) (XQi D cs S ad r M) 0 0 (xA S ad) := by
  intro r hr
  refine Met.ofW (cc := cc) (maxL := nL) (ret := ret) hy rfl ?_
  intro p e s m args below meth c s₁ B hml hv
  obtain ⟨rfl, hx, hP⟩ := hv
  have hown : s.vm.findClass own = some m.cls := by rw [← hyo]; exact findClass_of_methodNamed B.named
  have Z : CX p s m vs.toArray meth c cc nL own ret D cs (xA S ad) S ad := ⟨B.exec, B.bytes, hml, hown, hx, hd.D, B.notSynchronized, B.returns⟩
  have hl := lv_entry vs (n := nL) hlen
  rw [lg_entry_eq]
  generalize (lg_sl vs ++ List.replicate (nL - (lg_sl vs).length) Slot.unset).toArray = ls at hl ⊢
  rw [hlv] at hl
  exact body p e s m vs.toArray below meth c Z s.heap [] ls hl hP va_S.rf r hr
theorem xm_m {l : Launch} {y : MethodName} {cc : ByteArray} {nL : Nat} {ret : Option FieldType} {own : String} {rm : Room} {D : va_G} {cs : Nat → ClassId} {S : List Nat} {ad : Nat → Nat} {vs : List Value} {M : xm} {lv : List (Nat × Value)} {o : Option (xm)} (hy : plainName y.cls = true) (hyo : y.cls = own) (hlv : lv_args 0 vs = lv) (hlen : (lg_sl vs).length ≤ nL) (hd : xdist S ad)
    (body : ∀ (p : Program) (e : Env) (s : State) (m : MethodId) (args : Array Value) (below : List Frame) (meth : Method) (c : Code), CX p s m args meth c cc nL own ret D cs (xA S ad) S ad → XJ p l e rm s m args below meth c D cs (xA S ad) S ad nL (XRm below args s D cs S ad) 0 lv [] M o) : ∀ r, o = some r → Met l y [Cond.code y cc nL ret] rm (XPc D cs S ad vs M) (XQv D cs S ad r) 0 0 (xA S ad) := by
  intro r hr
  refine Met.ofW (cc := cc) (maxL := nL) (ret := ret) hy rfl ?_
  intro p e s m args below meth c s₁ B hml hv
  obtain ⟨rfl, hx, hP⟩ := hv
  have hown : s.vm.findClass own = some m.cls := by rw [← hyo]; exact findClass_of_methodNamed B.named
  have Z : CX p s m vs.toArray meth c cc nL own ret D cs (xA S ad) S ad := ⟨B.exec, B.bytes, hml, hown, hx, hd.D, B.notSynchronized, B.returns⟩
  have hl := lv_entry vs (n := nL) hlen
  rw [lg_entry_eq]
  generalize (lg_sl vs ++ List.replicate (nL - (lg_sl vs).length) Slot.unset).toArray = ls at hl ⊢
  rw [hlv] at hl
  exact body p e s m vs.toArray below meth c Z s.heap [] ls hl hP va_S.rf r hr
theorem xm_b {l : Launch} {y : MethodName} {cc : ByteArray} {nL : Nat} {ret : Option FieldType} {own : String} {rm : Room} {D : va_G} {cs : Nat → ClassId} {S : List Nat} {ad : Nat → Nat} {vs : List Value} {M : xm} {lv : List (Nat × Value)} {o : Option (Int32 × xm)} (hy : plainName y.cls = true) (hyo : y.cls = own) (hlv : lv_args 0 vs = lv) (hlen : (lg_sl vs).length ≤ nL) (hd : xdist S ad)
    (body : ∀ (p : Program) (e : Env) (s : State) (m : MethodId) (args : Array Value) (below : List Frame) (meth : Method) (c : Code), CX p s m args meth c cc nL own ret D cs (xA S ad) S ad → XJ p l e rm s m args below meth c D cs (xA S ad) S ad nL (XRb below args s D cs S ad) 0 lv [] M o) : ∀ r, o = some r → Met l y [Cond.code y cc nL ret] rm (XPc D cs S ad vs M) (XQi D cs S ad r.1 r.2) 0 0 (xA S ad) := by
  intro r hr
  refine Met.ofW (cc := cc) (maxL := nL) (ret := ret) hy rfl ?_
  intro p e s m args below meth c s₁ B hml hv
  obtain ⟨rfl, hx, hP⟩ := hv
  have hown : s.vm.findClass own = some m.cls := by rw [← hyo]; exact findClass_of_methodNamed B.named
  have Z : CX p s m vs.toArray meth c cc nL own ret D cs (xA S ad) S ad := ⟨B.exec, B.bytes, hml, hown, hx, hd.D, B.notSynchronized, B.returns⟩
  have hl := lv_entry vs (n := nL) hlen
  rw [lg_entry_eq]
  generalize (lg_sl vs ++ List.replicate (nL - (lg_sl vs).length) Slot.unset).toArray = ls at hl ⊢
  rw [hlv] at hl
  exact body p e s m vs.toArray below meth c Z s.heap [] ls hl hP va_S.rf r hr
end
section
def xfuel : Nat := 1000
def xrb (r : Nat) : Bool := decide (r = 13)
def xRoad (S : List Nat) (r : Nat) : Prop := (r = 4 ∨ r = 13) ∧ ∀ j, j < 9 → r + j ∈ S
def xWalk (S : List Nat) (w : Nat) : Prop := (w = 22 ∨ w = 27 ∨ w = 33 ∨ w = 38) ∧ (∀ j, j < 5 → w + j ∈ S) ∧ ∀ b, xRoad S (rd b)
def xall (S : List Nat) : Prop := ∀ k, k < 56 → k ∈ S
def xalm (S : List Nat) : Prop := ∀ k, 60 ≤ k → k < 73 → k ∈ S
theorem xRoad.mem {S : List Nat} {r : Nat} (h : xRoad S r) (j : Nat) (hj : j < 9) : r + j ∈ S := h.2 j hj
theorem xWalk.mem {S : List Nat} {r : Nat} (h : xWalk S r) (j : Nat) (hj : j < 5) : r + j ∈ S := h.2.1 j hj
theorem xWalk.road {S : List Nat} {r : Nat} (h : xWalk S r) (b : Bool) : xRoad S (rd b) := h.2.2 b
theorem xrb_rd (b : Bool) : xrb (rd b) = b := by cases b <;> rfl
theorem xRoad.rd {S : List Nat} {r : Nat} (h : xRoad S r) : rd (xrb r) = r := by rcases h.1 with rfl | rfl <;> rfl
theorem xRoad.lay {S : List Nat} {r : Nat} (h : xRoad S r) : xlay r = (0, 1) := by rcases h.1 with rfl | rfl <;> rfl
theorem xWalk.lay {S : List Nat} {r : Nat} (h : xWalk S r) : xlay r = (0, 4) := by rcases h.1 with rfl | rfl | rfl | rfl <;> rfl
theorem xRoad.lay1 {S : List Nat} {r : Nat} (h : xRoad S r) : xlay (r + 1) = (1, 6) := by rcases h.1 with rfl | rfl <;> rfl
theorem xRoad.lay2 {S : List Nat} {r : Nat} (h : xRoad S r) : xlay (r + 2) = (1, 6) := by rcases h.1 with rfl | rfl <;> rfl
theorem xRoad.lay3 {S : List Nat} {r : Nat} (h : xRoad S r) : xlay (r + 3) = (1, 6) := by rcases h.1 with rfl | rfl <;> rfl
theorem xRoad.lay4 {S : List Nat} {r : Nat} (h : xRoad S r) : xlay (r + 4) = (1, 6) := by rcases h.1 with rfl | rfl <;> rfl
theorem xRoad.lay5 {S : List Nat} {r : Nat} (h : xRoad S r) : xlay (r + 5) = (1, 8) := by rcases h.1 with rfl | rfl <;> rfl
theorem xRoad.lay6 {S : List Nat} {r : Nat} (h : xRoad S r) : xlay (r + 6) = (1, 8) := by rcases h.1 with rfl | rfl <;> rfl
theorem xRoad.lay7 {S : List Nat} {r : Nat} (h : xRoad S r) : xlay (r + 7) = (1, 8) := by rcases h.1 with rfl | rfl <;> rfl
theorem xRoad.lay8 {S : List Nat} {r : Nat} (h : xRoad S r) : xlay (r + 8) = (1, 6) := by rcases h.1 with rfl | rfl <;> rfl
theorem xWalk.lay1 {S : List Nat} {r : Nat} (h : xWalk S r) : xlay (r + 1) = (1, 8) := by rcases h.1 with rfl | rfl | rfl | rfl <;> rfl
theorem xWalk.lay2 {S : List Nat} {r : Nat} (h : xWalk S r) : xlay (r + 2) = (1, 4) := by rcases h.1 with rfl | rfl | rfl | rfl <;> rfl
theorem xWalk.lay3 {S : List Nat} {r : Nat} (h : xWalk S r) : xlay (r + 3) = (1, 4) := by rcases h.1 with rfl | rfl | rfl | rfl <;> rfl
theorem xWalk.lay4 {S : List Nat} {r : Nat} (h : xWalk S r) : xlay (r + 4) = (1, 4) := by rcases h.1 with rfl | rfl | rfl | rfl <;> rfl
theorem xall_r {S : List Nat} (h : xall S) (b : Bool) : xRoad S (rd b) := by
  cases b
  · exact ⟨Or.inl rfl, fun j hj => h _ (show 4 + j < 56 by omega)⟩
  · exact ⟨Or.inr rfl, fun j hj => h _ (show 13 + j < 56 by omega)⟩
theorem xall_w22 {S : List Nat} (h : xall S) : xWalk S 22 := ⟨Or.inl rfl, fun j hj => h _ (by omega), xall_r h⟩
theorem xall_w27 {S : List Nat} (h : xall S) : xWalk S 27 := ⟨Or.inr (Or.inl rfl), fun j hj => h _ (by omega), xall_r h⟩
theorem xkept {S : List Nat} (h : xall S) {i : Int32} (hi : vp_in i 2) : xWalk S (33 + 5 * i.toNatClampNeg) := by
  have h2 : i.toNatClampNeg < 2 := by
    unfold vp_in at hi
    omega
  refine ⟨?_, fun j hj => h _ (by omega), xall_r h⟩
  rcases (show i.toNatClampNeg = 0 ∨ i.toNatClampNeg = 1 by omega) with e | e <;> rw [e]
  · exact Or.inr (Or.inr (Or.inl rfl))
  · exact Or.inr (Or.inr (Or.inr rfl))
theorem xpass_m {S : List Nat} (h : xall S) {i : Int32} (hi : vp_in i 4) : 50 + i.toNatClampNeg ∈ S := h _ (by unfold vp_in at hi; omega)
theorem xpass_l {i : Int32} (hi : vp_in i 4) : xlay (50 + i.toNatClampNeg) = (1, 4) := by
  have h2 : i.toNatClampNeg < 4 := by
    unfold vp_in at hi
    omega
  rcases (show i.toNatClampNeg = 0 ∨ i.toNatClampNeg = 1 ∨ i.toNatClampNeg = 2 ∨ i.toNatClampNeg = 3 by omega) with e | e | e | e <;> rw [e] <;> rfl
theorem xti {x : Int32} {n : Int} (v : Int32) (hv : v.toInt = n) (h : ¬ x = v) : x.toInt ≠ n := fun e => h (Int32.toInt_inj.mp (e.trans hv.symm))
theorem xq_5 {a b c d e : Cond} (h1 : a ∈ xbig) (h2 : b ∈ xbig) (h3 : c ∈ xbig) (h4 : d ∈ xbig) (h5 : e ∈ xbig) : ∀ w ∈ ([a, b, c, d] : List Cond) ++ [e], w ∈ xbig := by
  intro w hw
  simp only [List.cons_append, List.nil_append, List.mem_cons, List.not_mem_nil, or_false] at hw
  rcases hw with rfl | rfl | rfl | rfl | rfl <;> assumption
theorem xq_4 {a b c e : Cond} (h1 : a ∈ xbig) (h2 : b ∈ xbig) (h3 : c ∈ xbig) (h5 : e ∈ xbig) : ∀ w ∈ ([a, b, c] : List Cond) ++ [e], w ∈ xbig := by
  intro w hw
  simp only [List.cons_append, List.nil_append, List.mem_cons, List.not_mem_nil, or_false] at hw
  rcases hw with rfl | rfl | rfl | rfl <;> assumption
theorem xq_1 {e : Cond} (h5 : e ∈ xbig) : ∀ w ∈ ([e] : List Cond), w ∈ xbig := by
  intro w hw
  simp only [List.mem_cons, List.not_mem_nil, or_false] at hw
  rcases hw with rfl
  assumption
theorem xb_all {ws : List Cond} (h : ∀ w ∈ ws, w ∈ lw_tbl) (g : ws.all xgd = true) : ∀ w ∈ ws, w ∈ xbig := fun w hw => List.mem_filter.mpr ⟨h w hw, List.all_eq_true.mp g w hw⟩
theorem upr_same {M : xm} {k : Nat} {b : Bool} : (upr M k b).2 k = b := by
  show (if k = k then b else M.2 k) = b
  rw [if_pos rfl]
theorem upr_w {S : List Nat} {ad : Nat → Nat} {cs : Nat → ClassId} {M : xm} {w : Nat} {b : Bool} (h : xWalk S w) : ∀ a, a ≠ w → xcell ad cs (upr M w b) a = xcell ad cs M a := by
  intro a ha
  have h9 : (upr M w b).2 a = M.2 a := if_neg ha
  have h0 : (upr M w b).2 0 = M.2 0 := if_neg (by rcases h.1 with rfl | rfl | rfl | rfl <;> decide)
  have h1 : (upr M w b).2 100 = M.2 100 := if_neg (by rcases h.1 with rfl | rfl | rfl | rfl <;> decide)
  show xcl ad cs (M.1 a) (upr M w b).2 a (xlay a) = xcl ad cs (M.1 a) M.2 a (xlay a)
  rcases xlay a with ⟨c, n⟩
  match c, n with
  | 0, 0 => rfl
  | 0, 1 => rfl
  | 0, 2 => rfl
  | 0, 3 => rfl
  | 0, 4 => show Sum.inr (4, [Value.ref (ad (rd ((upr M w b).2 a))), _, _, _, _, _]) = _; rw [h9]; rfl
  | 0, 5 => show Sum.inr (5, [_, Value.ref (ad (rd ((upr M w b).2 0))), Value.ref (ad (rd ((upr M w b).2 100))), _, _, _, _, _, _]) = _; rw [h0, h1]; rfl
  | 0, n + 6 => rfl
  | 1, n => rfl
  | 2, n => rfl
  | 3, n => rfl
  | 4, n => rfl
  | c + 5, n => rfl
theorem xlay_obj {a : Nat} (h : (xlay a).1 = 0) (h2 : (xlay a).2 = 5 ∨ (xlay a).2 = 4) : a = 0 ∨ a = 22 ∨ a = 27 ∨ a = 33 ∨ a = 38 := by
  rcases Nat.lt_or_ge a 73 with q | q
  · have : ∀ a, a < 73 → (xlay a).1 = 0 → ((xlay a).2 = 5 ∨ (xlay a).2 = 4) → a = 0 ∨ a = 22 ∨ a = 27 ∨ a = 33 ∨ a = 38 := by decide +kernel
    exact this a q h h2
  · have e : xlay a = (9, 0) := by
      unfold xlay
      rw [List.getD_eq_getElem?_getD, List.getElem?_eq_none (by show 73 ≤ a; omega)]; rfl
    rw [e] at h
    cases h
theorem upr_o {ad : Nat → Nat} {cs : Nat → ClassId} {M : xm} {k : Nat} {b : Bool} (hk : k = 0 ∨ k = 100) : ∀ a, a ≠ 0 → xcell ad cs (upr M k b) a = xcell ad cs M a := by
  intro a ha
  show xcl ad cs (M.1 a) (upr M k b).2 a (xlay a) = xcl ad cs (M.1 a) M.2 a (xlay a)
  have hl := @xlay_obj a
  rcases hx : xlay a with ⟨c, n⟩
  rw [hx] at hl
  match c, n with
  | 0, 0 => rfl
  | 0, 1 => rfl
  | 0, 2 => rfl
  | 0, 3 => rfl
  | 0, 4 =>
    have h9 : (upr M k b).2 a = M.2 a := if_neg (by
      have h8 := hl rfl (Or.inr rfl)
      omega)
    show Sum.inr (4, [Value.ref (ad (rd ((upr M k b).2 a))), _, _, _, _, _]) = _
    rw [h9]; rfl
  | 0, 5 =>
    exfalso
    have h8 := hl rfl (Or.inl rfl)
    rcases h8 with h8 | h8 | h8 | h8 | h8
    · exact ha h8
    all_goals (subst h8; revert hx; decide +kernel)
  | 0, n + 6 => rfl
  | 1, n => rfl
  | 2, n => rfl
  | 3, n => rfl
  | 4, n => rfl
  | c + 5, n => rfl
section XR
variable {ρ : Type} {p : Program} {l : Launch} {e : Env} {R : Room} {s : State} {m : MethodId} {args : Array Value} {below : List Frame} {meth : Method} {c : Code} {D : va_G} {cs : Nat → ClassId} {A : Nat → Prop} {S : List Nat} {ad : Nat → Nat} {nL : Nat} {Q : ρ → State → Prop} {cc : ByteArray} {own : String} {ret : Option FieldType}
variable {pc : Nat} {lv : List (Nat × Value)} {st : List Value} {M : xm} {o : Option ρ}

theorem xj_top {v : Int32} {f : Int32 → Option ρ} (k : ∀ x, XJ p l e R s m args below meth c D cs A S ad nL Q (pc) lv (.int x :: st) M (f x)) : XJ p l e R s m args below meth c D cs A S ad nL Q (pc) lv (.int v :: st) M (xl v f) := k v
theorem xj_topl {v : Int64} {f : Int64 → Option ρ} (k : ∀ x, XJ p l e R s m args below meth c D cs A S ad nL Q (pc) lv (.long x :: st) M (f x)) : XJ p l e R s m args below meth c D cs A S ad nL Q (pc) lv (.long v :: st) M (xl v f) := k v
theorem xj_idivz (Z : CX p s m args meth c cc nL own ret D cs A S ad) {x y : Int32} (hdg : decode cc pc = .ok (.idiv, 1)) (k : XJ p l e R s m args below meth c D cs A S ad nL Q (pc + 1) lv (.int (x / y) :: st) M o) : XJ p l e R s m args below meth c D cs A S ad nL Q (pc) lv (.int y :: .int x :: st) M (xnz y o) := by
  unfold xnz
  by_cases h : y = 0
  · rw [if_pos h]; exact xj_none
  · rw [if_neg h]; exact xj_idiv Z hdg h k
theorem xj_iremz (Z : CX p s m args meth c cc nL own ret D cs A S ad) {x y : Int32} (hdg : decode cc pc = .ok (.irem, 1)) (k : XJ p l e R s m args below meth c D cs A S ad nL Q (pc + 1) lv (.int (x - x / y * y) :: st) M o) : XJ p l e R s m args below meth c D cs A S ad nL Q (pc) lv (.int y :: .int x :: st) M (xnz y o) := by
  unfold xnz
  by_cases h : y = 0
  · rw [if_pos h]; exact xj_none
  · rw [if_neg h]; exact xj_irem Z hdg h k
theorem xj_aaldP (Z : CX p s m args meth c cc nL own ret D cs A S ad) (hS : xall S) {i : Int32} (hdg : decode cc pc = .ok (.aaload, 1)) (kk : vp_in i 4 → XJ p l e R s m args below meth c D cs A S ad nL Q (pc + 1) lv (.ref (ad (50 + i.toNatClampNeg)) :: st) M o) : XJ p l e R s m args below meth c D cs A S ad nL Q (pc) lv (.int i :: .ref (ad 49) :: st) M (xchk i 4 o) := by
  intro H locs ls hl hP hS2 r hr
  unfold xchk at hr
  by_cases h : i < 0 ∨ 4 ≤ i.toNatClampNeg
  · rw [if_pos h] at hr; cases hr
  · rw [if_neg h] at hr
    obtain ⟨q, hq, -⟩ := xw_at (cs := cs) (ad := ad) (M := M) (hS 49 (by decide))
    have hc : xcell ad cs M 49 = .inl (cs 2, 4, .inr (.inr (.inr (.inr (fun j => some (ad (50 + j))))))) := rfl
    rw [hc] at hq
    have hlt : i.toNatClampNeg < 4 := Nat.not_le.mp fun q => h (Or.inr q)
    exact W.aald (v := va_rf (some (ad (50 + i.toNatClampNeg)))) (ty := .array .int) Z.1 Z.2.1 (hP q _ hq) ((Z.2.2.2.2.1.1.2 2 _ rfl).1 4 (fun j => va_rf (some (ad (50 + j))))) rfl (fun q => by cases q) (by show ¬ (i < 0 ∨ (arrV _ _ _).slots.size ≤ _); rw [arrV_size]; exact h) (by show (arrV _ _ _).slots[_]? = _; rw [arrV_read _ _ hlt]) rfl rfl hdg (kk h H locs ls hl hP hS2 r hr)
theorem xj_aaldK (Z : CX p s m args meth c cc nL own ret D cs A S ad) (hS : xall S) {i : Int32} (hdg : decode cc pc = .ok (.aaload, 1)) (kk : vp_in i 2 → XJ p l e R s m args below meth c D cs A S ad nL Q (pc + 1) lv (.ref (ad (33 + 5 * i.toNatClampNeg)) :: st) M o) : XJ p l e R s m args below meth c D cs A S ad nL Q (pc) lv (.int i :: .ref (ad 32) :: st) M (xchk i 2 o) := xj_aald (f := fun j => 33 + 5 * j) (t0 := 3) (C := "WalkingLaw$Walk") (cA := cs 3) Z (hS 32 (by decide)) rfl rfl hdg kk
variable {w : Nat}
theorem iX0 : ∀ w ∈ u_ws RX0 TX0 5, w ∈ xbig := xb_all (by decide +kernel) (by decide +kernel)
theorem iX1 : ∀ w ∈ u_ws RX1 TX1 13, w ∈ xbig := xb_all (by decide +kernel) (by decide +kernel)
theorem iX2 : ∀ w ∈ u_ws RX2 TX2 4, w ∈ xbig := xb_all (by decide +kernel) (by decide +kernel)
theorem iX3 : ∀ w ∈ u_ws RX3 TX3 3, w ∈ xbig := xb_all (by decide +kernel) (by decide +kernel)
theorem iX4 : ∀ w ∈ u_ws RX4 TX4 6, w ∈ xbig := xb_all (by decide +kernel) (by decide +kernel)
theorem iX5 : ∀ w ∈ u_ws RX5 TX5 9, w ∈ xbig := xb_all (by decide +kernel) (by decide +kernel)
theorem iX6 : ∀ w ∈ u_ws RX6 TX6 19, w ∈ xbig := xb_all (by decide +kernel) (by decide +kernel)
theorem xg_X0_9 (Z : CX p s m args meth c cc nL RX0 ret D cs A S ad) (hm : 43 ∈ S) (hdg : decode cc pc = .ok (.getfield 9, 3)) (kk : XJ p l e R s m args below meth c D cs A S ad nL Q (pc + 3) lv (.ref (ad 44) :: st) M o) : XJ p l e R s m args below meth c D cs A S ad nL Q (pc) lv (.ref (ad 43) :: st) M o := xj_get Z (C := "WalkingLaw$Diary") (T := TX0) (N := 5) (ci := 0) 0 hm rfl rfl iX0 (by decide) rfl xb_4 rfl hdg kk
theorem xg_X0_15 (Z : CX p s m args meth c cc nL RX0 ret D cs A S ad) (hm : 43 ∈ S) (hdg : decode cc pc = .ok (.getfield 15, 3)) (kk : XJ p l e R s m args below meth c D cs A S ad nL Q (pc + 3) lv (.ref (ad 45) :: st) M o) : XJ p l e R s m args below meth c D cs A S ad nL Q (pc) lv (.ref (ad 43) :: st) M o := xj_get Z (C := "WalkingLaw$Diary") (T := TX0) (N := 5) (ci := 0) 1 hm rfl rfl iX0 (by decide) rfl xb_5 rfl hdg kk
theorem xg_X0_18 (Z : CX p s m args meth c cc nL RX0 ret D cs A S ad) (hm : 43 ∈ S) (hdg : decode cc pc = .ok (.getfield 18, 3)) (kk : XJ p l e R s m args below meth c D cs A S ad nL Q (pc + 3) lv (.ref (ad 46) :: st) M o) : XJ p l e R s m args below meth c D cs A S ad nL Q (pc) lv (.ref (ad 43) :: st) M o := xj_get Z (C := "WalkingLaw$Diary") (T := TX0) (N := 5) (ci := 0) 2 hm rfl rfl iX0 (by decide) rfl xb_6 rfl hdg kk
theorem xg_X0_21 (Z : CX p s m args meth c cc nL RX0 ret D cs A S ad) (hm : 43 ∈ S) (hdg : decode cc pc = .ok (.getfield 21, 3)) (kk : XJ p l e R s m args below meth c D cs A S ad nL Q (pc + 3) lv (.ref (ad 47) :: st) M o) : XJ p l e R s m args below meth c D cs A S ad nL Q (pc) lv (.ref (ad 43) :: st) M o := xj_get Z (C := "WalkingLaw$Diary") (T := TX0) (N := 5) (ci := 0) 4 hm rfl rfl iX0 (by decide) rfl xb_7 rfl hdg kk
theorem xg_X0_24 (Z : CX p s m args meth c cc nL RX0 ret D cs A S ad) (hm : 43 ∈ S) (hdg : decode cc pc = .ok (.getfield 24, 3)) (kk : XJ p l e R s m args below meth c D cs A S ad nL Q (pc + 3) lv (.int (M.1 43 3) :: st) M o) : XJ p l e R s m args below meth c D cs A S ad nL Q (pc) lv (.ref (ad 43) :: st) M o := xj_get Z (C := "WalkingLaw$Diary") (T := TX0) (N := 5) (ci := 0) 3 hm rfl rfl iX0 (by decide) rfl xb_9 rfl hdg kk
theorem xg_X1_9 (Z : CX p s m args meth c cc nL RX1 ret D cs A S ad) (hm : w ∈ S) (hy : xlay w = (0, 1)) (hdg : decode cc pc = .ok (.getfield 9, 3)) (kk : XJ p l e R s m args below meth c D cs A S ad nL Q (pc + 3) lv (.ref (ad (w + 1)) :: st) M o) : XJ p l e R s m args below meth c D cs A S ad nL Q (pc) lv (.ref (ad w) :: st) M o := xj_get Z (C := "WalkingLaw$Road") (T := TX1) (N := 13) (ci := 1) 1 hm hy rfl iX1 (by decide) rfl xb_94 rfl hdg kk
theorem xg_X1_15 (Z : CX p s m args meth c cc nL RX1 ret D cs A S ad) (hm : w ∈ S) (hy : xlay w = (0, 1)) (hdg : decode cc pc = .ok (.getfield 15, 3)) (kk : XJ p l e R s m args below meth c D cs A S ad nL Q (pc + 3) lv (.ref (ad (w + 2)) :: st) M o) : XJ p l e R s m args below meth c D cs A S ad nL Q (pc) lv (.ref (ad w) :: st) M o := xj_get Z (C := "WalkingLaw$Road") (T := TX1) (N := 13) (ci := 1) 2 hm hy rfl iX1 (by decide) rfl xb_27 rfl hdg kk
theorem xg_X1_18 (Z : CX p s m args meth c cc nL RX1 ret D cs A S ad) (hm : w ∈ S) (hy : xlay w = (0, 1)) (hdg : decode cc pc = .ok (.getfield 18, 3)) (kk : XJ p l e R s m args below meth c D cs A S ad nL Q (pc + 3) lv (.ref (ad (w + 3)) :: st) M o) : XJ p l e R s m args below meth c D cs A S ad nL Q (pc) lv (.ref (ad w) :: st) M o := xj_get Z (C := "WalkingLaw$Road") (T := TX1) (N := 13) (ci := 1) 3 hm hy rfl iX1 (by decide) rfl xb_95 rfl hdg kk
theorem xg_X1_21 (Z : CX p s m args meth c cc nL RX1 ret D cs A S ad) (hm : w ∈ S) (hy : xlay w = (0, 1)) (hdg : decode cc pc = .ok (.getfield 21, 3)) (kk : XJ p l e R s m args below meth c D cs A S ad nL Q (pc + 3) lv (.ref (ad (w + 4)) :: st) M o) : XJ p l e R s m args below meth c D cs A S ad nL Q (pc) lv (.ref (ad w) :: st) M o := xj_get Z (C := "WalkingLaw$Road") (T := TX1) (N := 13) (ci := 1) 4 hm hy rfl iX1 (by decide) rfl xb_12 rfl hdg kk
theorem xg_X1_24 (Z : CX p s m args meth c cc nL RX1 ret D cs A S ad) (hm : w ∈ S) (hy : xlay w = (0, 1)) (hdg : decode cc pc = .ok (.getfield 24, 3)) (kk : XJ p l e R s m args below meth c D cs A S ad nL Q (pc + 3) lv (.ref (ad (w + 5)) :: st) M o) : XJ p l e R s m args below meth c D cs A S ad nL Q (pc) lv (.ref (ad w) :: st) M o := xj_get Z (C := "WalkingLaw$Road") (T := TX1) (N := 13) (ci := 1) 7 hm hy rfl iX1 (by decide) rfl xb_26 rfl hdg kk
theorem xg_X1_27 (Z : CX p s m args meth c cc nL RX1 ret D cs A S ad) (hm : w ∈ S) (hy : xlay w = (0, 1)) (hdg : decode cc pc = .ok (.getfield 27, 3)) (kk : XJ p l e R s m args below meth c D cs A S ad nL Q (pc + 3) lv (.ref (ad (w + 6)) :: st) M o) : XJ p l e R s m args below meth c D cs A S ad nL Q (pc) lv (.ref (ad w) :: st) M o := xj_get Z (C := "WalkingLaw$Road") (T := TX1) (N := 13) (ci := 1) 8 hm hy rfl iX1 (by decide) rfl xb_28 rfl hdg kk
theorem xg_X1_30 (Z : CX p s m args meth c cc nL RX1 ret D cs A S ad) (hm : w ∈ S) (hy : xlay w = (0, 1)) (hdg : decode cc pc = .ok (.getfield 30, 3)) (kk : XJ p l e R s m args below meth c D cs A S ad nL Q (pc + 3) lv (.ref (ad (w + 7)) :: st) M o) : XJ p l e R s m args below meth c D cs A S ad nL Q (pc) lv (.ref (ad w) :: st) M o := xj_get Z (C := "WalkingLaw$Road") (T := TX1) (N := 13) (ci := 1) 9 hm hy rfl iX1 (by decide) rfl xb_96 rfl hdg kk
theorem xg_X1_33 (Z : CX p s m args meth c cc nL RX1 ret D cs A S ad) (hm : w ∈ S) (hy : xlay w = (0, 1)) (hdg : decode cc pc = .ok (.getfield 33, 3)) (kk : XJ p l e R s m args below meth c D cs A S ad nL Q (pc + 3) lv (.ref (ad (w + 8)) :: st) M o) : XJ p l e R s m args below meth c D cs A S ad nL Q (pc) lv (.ref (ad w) :: st) M o := xj_get Z (C := "WalkingLaw$Road") (T := TX1) (N := 13) (ci := 1) 10 hm hy rfl iX1 (by decide) rfl xb_89 rfl hdg kk
theorem xg_X1_39 (Z : CX p s m args meth c cc nL RX1 ret D cs A S ad) (hm : w ∈ S) (hy : xlay w = (0, 1)) (hdg : decode cc pc = .ok (.getfield 39, 3)) (kk : XJ p l e R s m args below meth c D cs A S ad nL Q (pc + 3) lv (.int (M.1 w 0) :: st) M o) : XJ p l e R s m args below meth c D cs A S ad nL Q (pc) lv (.ref (ad w) :: st) M o := xj_get Z (C := "WalkingLaw$Road") (T := TX1) (N := 13) (ci := 1) 0 hm hy rfl iX1 (by decide) rfl xb_11 rfl hdg kk
theorem xg_X1_43 (Z : CX p s m args meth c cc nL RX1 ret D cs A S ad) (hm : w ∈ S) (hy : xlay w = (0, 1)) (hdg : decode cc pc = .ok (.getfield 43, 3)) (kk : XJ p l e R s m args below meth c D cs A S ad nL Q (pc + 3) lv (.int (M.1 w 5) :: st) M o) : XJ p l e R s m args below meth c D cs A S ad nL Q (pc) lv (.ref (ad w) :: st) M o := xj_get Z (C := "WalkingLaw$Road") (T := TX1) (N := 13) (ci := 1) 5 hm hy rfl iX1 (by decide) rfl xb_87 rfl hdg kk
theorem xg_X1_46 (Z : CX p s m args meth c cc nL RX1 ret D cs A S ad) (hm : w ∈ S) (hy : xlay w = (0, 1)) (hdg : decode cc pc = .ok (.getfield 46, 3)) (kk : XJ p l e R s m args below meth c D cs A S ad nL Q (pc + 3) lv (.int (M.1 w 6) :: st) M o) : XJ p l e R s m args below meth c D cs A S ad nL Q (pc) lv (.ref (ad w) :: st) M o := xj_get Z (C := "WalkingLaw$Road") (T := TX1) (N := 13) (ci := 1) 6 hm hy rfl iX1 (by decide) rfl xb_88 rfl hdg kk
theorem xg_X2_11 (Z : CX p s m args meth c cc nL RX2 ret D cs A S ad) (hm : 48 ∈ S) (hdg : decode cc pc = .ok (.getfield 11, 3)) (kk : XJ p l e R s m args below meth c D cs A S ad nL Q (pc + 3) lv (.ref (ad 49) :: st) M o) : XJ p l e R s m args below meth c D cs A S ad nL Q (pc) lv (.ref (ad 48) :: st) M o := xj_get Z (C := "WalkingLaw$Rows") (T := TX2) (N := 4) (ci := 2) 0 hm rfl rfl iX2 (by decide) rfl xb_111 rfl hdg kk
theorem xg_X2_16 (Z : CX p s m args meth c cc nL RX2 ret D cs A S ad) (hm : 48 ∈ S) (hdg : decode cc pc = .ok (.getfield 16, 3)) (kk : XJ p l e R s m args below meth c D cs A S ad nL Q (pc + 3) lv (.ref (ad 54) :: st) M o) : XJ p l e R s m args below meth c D cs A S ad nL Q (pc) lv (.ref (ad 48) :: st) M o := xj_get Z (C := "WalkingLaw$Rows") (T := TX2) (N := 4) (ci := 2) 1 hm rfl rfl iX2 (by decide) rfl xb_112 rfl hdg kk
theorem xg_X2_20 (Z : CX p s m args meth c cc nL RX2 ret D cs A S ad) (hm : 48 ∈ S) (hdg : decode cc pc = .ok (.getfield 20, 3)) (kk : XJ p l e R s m args below meth c D cs A S ad nL Q (pc + 3) lv (.ref (ad 55) :: st) M o) : XJ p l e R s m args below meth c D cs A S ad nL Q (pc) lv (.ref (ad 48) :: st) M o := xj_get Z (C := "WalkingLaw$Rows") (T := TX2) (N := 4) (ci := 2) 2 hm rfl rfl iX2 (by decide) rfl xb_113 rfl hdg kk
theorem xg_X2_27 (Z : CX p s m args meth c cc nL RX2 ret D cs A S ad) (hm : w ∈ S) (hy : xlay w = (0, 4)) (hdg : decode cc pc = .ok (.getfield 27, 3)) (kk : XJ p l e R s m args below meth c D cs A S ad nL Q (pc + 3) lv (.ref (ad (rd (M.2 w))) :: st) M o) : XJ p l e R s m args below meth c D cs A S ad nL Q (pc) lv (.ref (ad w) :: st) M o := xj_getN Z (host := "WalkingLaw") (C := "WalkingLaw$Walk") (T := TX4) (N := 6) (ci := 4) 0 hm hy rfl iX4 (by decide) rfl (by decide +kernel) rfl hdg kk
theorem xg_X2_33 (Z : CX p s m args meth c cc nL RX2 ret D cs A S ad) (hm : w ∈ S) (hy : xlay w = (0, 1)) (hdg : decode cc pc = .ok (.getfield 33, 3)) (kk : XJ p l e R s m args below meth c D cs A S ad nL Q (pc + 3) lv (.int (M.1 w 12) :: st) M o) : XJ p l e R s m args below meth c D cs A S ad nL Q (pc) lv (.ref (ad w) :: st) M o := xj_getN Z (host := "WalkingLaw") (C := "WalkingLaw$Road") (T := TX1) (N := 13) (ci := 1) 12 hm hy rfl iX1 (by decide) rfl (by decide +kernel) rfl hdg kk
theorem xg_X2_39 (Z : CX p s m args meth c cc nL RX2 ret D cs A S ad) (hm : w ∈ S) (hy : xlay w = (0, 1)) (hdg : decode cc pc = .ok (.getfield 39, 3)) (kk : XJ p l e R s m args below meth c D cs A S ad nL Q (pc + 3) lv (.int (M.1 w 0) :: st) M o) : XJ p l e R s m args below meth c D cs A S ad nL Q (pc) lv (.ref (ad w) :: st) M o := xj_getN Z (host := "WalkingLaw") (C := "WalkingLaw$Road") (T := TX1) (N := 13) (ci := 1) 0 hm hy rfl iX1 (by decide) rfl (by decide +kernel) rfl hdg kk
theorem xg_X2_42 (Z : CX p s m args meth c cc nL RX2 ret D cs A S ad) (hm : 48 ∈ S) (hdg : decode cc pc = .ok (.getfield 42, 3)) (kk : XJ p l e R s m args below meth c D cs A S ad nL Q (pc + 3) lv (.int (M.1 48 3) :: st) M o) : XJ p l e R s m args below meth c D cs A S ad nL Q (pc) lv (.ref (ad 48) :: st) M o := xj_get Z (C := "WalkingLaw$Rows") (T := TX2) (N := 4) (ci := 2) 3 hm rfl rfl iX2 (by decide) rfl xb_139 rfl hdg kk
theorem xg_X2_53 (Z : CX p s m args meth c cc nL RX2 ret D cs A S ad) (hm : w ∈ S) (hy : xlay w = (0, 4)) (hdg : decode cc pc = .ok (.getfield 53, 3)) (kk : XJ p l e R s m args below meth c D cs A S ad nL Q (pc + 3) lv (.ref (ad (w + 3)) :: st) M o) : XJ p l e R s m args below meth c D cs A S ad nL Q (pc) lv (.ref (ad w) :: st) M o := xj_getN Z (host := "WalkingLaw") (C := "WalkingLaw$Walk") (T := TX4) (N := 6) (ci := 4) 3 hm hy rfl iX4 (by decide) rfl (by decide +kernel) rfl hdg kk
theorem xg_X3_9 (Z : CX p s m args meth c cc nL RX3 ret D cs A S ad) (hm : 1 ∈ S) (hdg : decode cc pc = .ok (.getfield 9, 3)) (kk : XJ p l e R s m args below meth c D cs A S ad nL Q (pc + 3) lv (.ref (ad 2) :: st) M o) : XJ p l e R s m args below meth c D cs A S ad nL Q (pc) lv (.ref (ad 1) :: st) M o := xj_get Z (C := "WalkingLaw$Text") (T := TX3) (N := 3) (ci := 3) 0 hm rfl rfl iX3 (by decide) rfl xb_152 rfl hdg kk
theorem xg_X3_15 (Z : CX p s m args meth c cc nL RX3 ret D cs A S ad) (hm : 1 ∈ S) (hdg : decode cc pc = .ok (.getfield 15, 3)) (kk : XJ p l e R s m args below meth c D cs A S ad nL Q (pc + 3) lv (.ref (ad 3) :: st) M o) : XJ p l e R s m args below meth c D cs A S ad nL Q (pc) lv (.ref (ad 1) :: st) M o := xj_get Z (C := "WalkingLaw$Text") (T := TX3) (N := 3) (ci := 3) 1 hm rfl rfl iX3 (by decide) rfl xb_153 rfl hdg kk
theorem xg_X3_19 (Z : CX p s m args meth c cc nL RX3 ret D cs A S ad) (hm : 1 ∈ S) (hdg : decode cc pc = .ok (.getfield 19, 3)) (kk : XJ p l e R s m args below meth c D cs A S ad nL Q (pc + 3) lv (.int (M.1 1 2) :: st) M o) : XJ p l e R s m args below meth c D cs A S ad nL Q (pc) lv (.ref (ad 1) :: st) M o := xj_get Z (C := "WalkingLaw$Text") (T := TX3) (N := 3) (ci := 3) 2 hm rfl rfl iX3 (by decide) rfl xb_155 rfl hdg kk
theorem xg_X4_9 (Z : CX p s m args meth c cc nL RX4 ret D cs A S ad) (hm : w ∈ S) (hy : xlay w = (0, 4)) (hdg : decode cc pc = .ok (.getfield 9, 3)) (kk : XJ p l e R s m args below meth c D cs A S ad nL Q (pc + 3) lv (.ref (ad (w + 1)) :: st) M o) : XJ p l e R s m args below meth c D cs A S ad nL Q (pc) lv (.ref (ad w) :: st) M o := xj_get Z (C := "WalkingLaw$Walk") (T := TX4) (N := 6) (ci := 4) 1 hm hy rfl iX4 (by decide) rfl xb_15 rfl hdg kk
theorem xg_X4_15 (Z : CX p s m args meth c cc nL RX4 ret D cs A S ad) (hm : w ∈ S) (hy : xlay w = (0, 4)) (hdg : decode cc pc = .ok (.getfield 15, 3)) (kk : XJ p l e R s m args below meth c D cs A S ad nL Q (pc + 3) lv (.ref (ad (w + 2)) :: st) M o) : XJ p l e R s m args below meth c D cs A S ad nL Q (pc) lv (.ref (ad w) :: st) M o := xj_get Z (C := "WalkingLaw$Walk") (T := TX4) (N := 6) (ci := 4) 2 hm hy rfl iX4 (by decide) rfl xb_47 rfl hdg kk
theorem xg_X4_18 (Z : CX p s m args meth c cc nL RX4 ret D cs A S ad) (hm : w ∈ S) (hy : xlay w = (0, 4)) (hdg : decode cc pc = .ok (.getfield 18, 3)) (kk : XJ p l e R s m args below meth c D cs A S ad nL Q (pc + 3) lv (.ref (ad (w + 3)) :: st) M o) : XJ p l e R s m args below meth c D cs A S ad nL Q (pc) lv (.ref (ad w) :: st) M o := xj_get Z (C := "WalkingLaw$Walk") (T := TX4) (N := 6) (ci := 4) 3 hm hy rfl iX4 (by decide) rfl xb_196 rfl hdg kk
theorem xg_X4_21 (Z : CX p s m args meth c cc nL RX4 ret D cs A S ad) (hm : w ∈ S) (hy : xlay w = (0, 4)) (hdg : decode cc pc = .ok (.getfield 21, 3)) (kk : XJ p l e R s m args below meth c D cs A S ad nL Q (pc + 3) lv (.ref (ad (w + 4)) :: st) M o) : XJ p l e R s m args below meth c D cs A S ad nL Q (pc) lv (.ref (ad w) :: st) M o := xj_get Z (C := "WalkingLaw$Walk") (T := TX4) (N := 6) (ci := 4) 4 hm hy rfl iX4 (by decide) rfl xb_197 rfl hdg kk
theorem xg_X4_28 (Z : CX p s m args meth c cc nL RX4 ret D cs A S ad) (hm : w ∈ S) (hy : xlay w = (0, 4)) (hdg : decode cc pc = .ok (.getfield 28, 3)) (kk : XJ p l e R s m args below meth c D cs A S ad nL Q (pc + 3) lv (.ref (ad (rd (M.2 w))) :: st) M o) : XJ p l e R s m args below meth c D cs A S ad nL Q (pc) lv (.ref (ad w) :: st) M o := xj_get Z (C := "WalkingLaw$Walk") (T := TX4) (N := 6) (ci := 4) 0 hm hy rfl iX4 (by decide) rfl xb_14 rfl hdg kk
theorem xg_X4_32 (Z : CX p s m args meth c cc nL RX4 ret D cs A S ad) (hm : w ∈ S) (hy : xlay w = (0, 4)) (hdg : decode cc pc = .ok (.getfield 32, 3)) (kk : XJ p l e R s m args below meth c D cs A S ad nL Q (pc + 3) lv (.int (M.1 w 5) :: st) M o) : XJ p l e R s m args below meth c D cs A S ad nL Q (pc) lv (.ref (ad w) :: st) M o := xj_get Z (C := "WalkingLaw$Walk") (T := TX4) (N := 6) (ci := 4) 5 hm hy rfl iX4 (by decide) rfl xb_54 rfl hdg kk
theorem xg_X4_36 (Z : CX p s m args meth c cc nL RX4 ret D cs A S ad) (hm : w ∈ S) (hy : xlay w = (0, 1)) (hdg : decode cc pc = .ok (.getfield 36, 3)) (kk : XJ p l e R s m args below meth c D cs A S ad nL Q (pc + 3) lv (.int (M.1 w 6) :: st) M o) : XJ p l e R s m args below meth c D cs A S ad nL Q (pc) lv (.ref (ad w) :: st) M o := xj_getN Z (host := "WalkingLaw") (C := "WalkingLaw$Road") (T := TX1) (N := 13) (ci := 1) 6 hm hy rfl iX1 (by decide) rfl (by decide +kernel) rfl hdg kk
theorem xg_X4_41 (Z : CX p s m args meth c cc nL RX4 ret D cs A S ad) (hm : w ∈ S) (hy : xlay w = (0, 1)) (hdg : decode cc pc = .ok (.getfield 41, 3)) (kk : XJ p l e R s m args below meth c D cs A S ad nL Q (pc + 3) lv (.ref (ad (w + 7)) :: st) M o) : XJ p l e R s m args below meth c D cs A S ad nL Q (pc) lv (.ref (ad w) :: st) M o := xj_getN Z (host := "WalkingLaw") (C := "WalkingLaw$Road") (T := TX1) (N := 13) (ci := 1) 9 hm hy rfl iX1 (by decide) rfl (by decide +kernel) rfl hdg kk
theorem xg_X4_52 (Z : CX p s m args meth c cc nL RX4 ret D cs A S ad) (hm : w ∈ S) (hy : xlay w = (0, 1)) (hdg : decode cc pc = .ok (.getfield 52, 3)) (kk : XJ p l e R s m args below meth c D cs A S ad nL Q (pc + 3) lv (.ref (ad (w + 4)) :: st) M o) : XJ p l e R s m args below meth c D cs A S ad nL Q (pc) lv (.ref (ad w) :: st) M o := xj_getN Z (host := "WalkingLaw") (C := "WalkingLaw$Road") (T := TX1) (N := 13) (ci := 1) 4 hm hy rfl iX1 (by decide) rfl (by decide +kernel) rfl hdg kk
theorem xg_X4_55 (Z : CX p s m args meth c cc nL RX4 ret D cs A S ad) (hm : w ∈ S) (hy : xlay w = (0, 1)) (hdg : decode cc pc = .ok (.getfield 55, 3)) (kk : XJ p l e R s m args below meth c D cs A S ad nL Q (pc + 3) lv (.int (M.1 w 0) :: st) M o) : XJ p l e R s m args below meth c D cs A S ad nL Q (pc) lv (.ref (ad w) :: st) M o := xj_getN Z (host := "WalkingLaw") (C := "WalkingLaw$Road") (T := TX1) (N := 13) (ci := 1) 0 hm hy rfl iX1 (by decide) rfl (by decide +kernel) rfl hdg kk
theorem xg_X4_58 (Z : CX p s m args meth c cc nL RX4 ret D cs A S ad) (hm : w ∈ S) (hy : xlay w = (0, 1)) (hdg : decode cc pc = .ok (.getfield 58, 3)) (kk : XJ p l e R s m args below meth c D cs A S ad nL Q (pc + 3) lv (.int (M.1 w 5) :: st) M o) : XJ p l e R s m args below meth c D cs A S ad nL Q (pc) lv (.ref (ad w) :: st) M o := xj_getN Z (host := "WalkingLaw") (C := "WalkingLaw$Road") (T := TX1) (N := 13) (ci := 1) 5 hm hy rfl iX1 (by decide) rfl (by decide +kernel) rfl hdg kk
theorem xg_X4_88 (Z : CX p s m args meth c cc nL RX4 ret D cs A S ad) (hm : w ∈ S) (hy : xlay w = (0, 1)) (hdg : decode cc pc = .ok (.getfield 88, 3)) (kk : XJ p l e R s m args below meth c D cs A S ad nL Q (pc + 3) lv (.ref (ad (w + 3)) :: st) M o) : XJ p l e R s m args below meth c D cs A S ad nL Q (pc) lv (.ref (ad w) :: st) M o := xj_getN Z (host := "WalkingLaw") (C := "WalkingLaw$Road") (T := TX1) (N := 13) (ci := 1) 3 hm hy rfl iX1 (by decide) rfl (by decide +kernel) rfl hdg kk
theorem xg_X4_91 (Z : CX p s m args meth c cc nL RX4 ret D cs A S ad) (hm : w ∈ S) (hy : xlay w = (0, 1)) (hdg : decode cc pc = .ok (.getfield 91, 3)) (kk : XJ p l e R s m args below meth c D cs A S ad nL Q (pc + 3) lv (.int (M.1 w 12) :: st) M o) : XJ p l e R s m args below meth c D cs A S ad nL Q (pc) lv (.ref (ad w) :: st) M o := xj_getN Z (host := "WalkingLaw") (C := "WalkingLaw$Road") (T := TX1) (N := 13) (ci := 1) 12 hm hy rfl iX1 (by decide) rfl (by decide +kernel) rfl hdg kk
theorem xg_X4_108 (Z : CX p s m args meth c cc nL RX4 ret D cs A S ad) (hm : w ∈ S) (hy : xlay w = (0, 1)) (hdg : decode cc pc = .ok (.getfield 108, 3)) (kk : XJ p l e R s m args below meth c D cs A S ad nL Q (pc + 3) lv (.int (M.1 w 11) :: st) M o) : XJ p l e R s m args below meth c D cs A S ad nL Q (pc) lv (.ref (ad w) :: st) M o := xj_getN Z (host := "WalkingLaw") (C := "WalkingLaw$Road") (T := TX1) (N := 13) (ci := 1) 11 hm hy rfl iX1 (by decide) rfl (by decide +kernel) rfl hdg kk
theorem xg_X4_115 (Z : CX p s m args meth c cc nL RX4 ret D cs A S ad) (hm : w ∈ S) (hy : xlay w = (0, 1)) (hdg : decode cc pc = .ok (.getfield 115, 3)) (kk : XJ p l e R s m args below meth c D cs A S ad nL Q (pc + 3) lv (.ref (ad (w + 8)) :: st) M o) : XJ p l e R s m args below meth c D cs A S ad nL Q (pc) lv (.ref (ad w) :: st) M o := xj_getN Z (host := "WalkingLaw") (C := "WalkingLaw$Road") (T := TX1) (N := 13) (ci := 1) 10 hm hy rfl iX1 (by decide) rfl (by decide +kernel) rfl hdg kk
theorem xg_X5_10 (Z : CX p s m args meth c cc nL RX5 ret D cs A S ad) (hm : 0 ∈ S) (hdg : decode cc pc = .ok (.getfield 10, 3)) (kk : XJ p l e R s m args below meth c D cs A S ad nL Q (pc + 3) lv (.ref (ad 1) :: st) M o) : XJ p l e R s m args below meth c D cs A S ad nL Q (pc) lv (.ref (ad 0) :: st) M o := xj_get Z (C := "WalkingLaw") (T := TX5) (N := 9) (ci := 5) 0 hm rfl rfl iX5 (by decide) rfl xb_228 rfl hdg kk
theorem xg_X5_19 (Z : CX p s m args meth c cc nL RX5 ret D cs A S ad) (hm : 0 ∈ S) (hdg : decode cc pc = .ok (.getfield 19, 3)) (kk : XJ p l e R s m args below meth c D cs A S ad nL Q (pc + 3) lv (.ref (ad (rd (M.2 0))) :: st) M o) : XJ p l e R s m args below meth c D cs A S ad nL Q (pc) lv (.ref (ad 0) :: st) M o := xj_get Z (C := "WalkingLaw") (T := TX5) (N := 9) (ci := 5) 1 hm rfl rfl iX5 (by decide) rfl xb_231 rfl hdg kk
theorem xg_X5_23 (Z : CX p s m args meth c cc nL RX5 ret D cs A S ad) (hm : 0 ∈ S) (hdg : decode cc pc = .ok (.getfield 23, 3)) (kk : XJ p l e R s m args below meth c D cs A S ad nL Q (pc + 3) lv (.ref (ad (rd (M.2 100))) :: st) M o) : XJ p l e R s m args below meth c D cs A S ad nL Q (pc) lv (.ref (ad 0) :: st) M o := xj_get Z (C := "WalkingLaw") (T := TX5) (N := 9) (ci := 5) 2 hm rfl rfl iX5 (by decide) rfl xb_232 rfl hdg kk
theorem xg_X5_38 (Z : CX p s m args meth c cc nL RX5 ret D cs A S ad) (hm : 0 ∈ S) (hdg : decode cc pc = .ok (.getfield 38, 3)) (kk : XJ p l e R s m args below meth c D cs A S ad nL Q (pc + 3) lv (.ref (ad 22) :: st) M o) : XJ p l e R s m args below meth c D cs A S ad nL Q (pc) lv (.ref (ad 0) :: st) M o := xj_get Z (C := "WalkingLaw") (T := TX5) (N := 9) (ci := 5) 3 hm rfl rfl iX5 (by decide) rfl xb_235 rfl hdg kk
theorem xg_X5_42 (Z : CX p s m args meth c cc nL RX5 ret D cs A S ad) (hm : 0 ∈ S) (hdg : decode cc pc = .ok (.getfield 42, 3)) (kk : XJ p l e R s m args below meth c D cs A S ad nL Q (pc + 3) lv (.ref (ad 27) :: st) M o) : XJ p l e R s m args below meth c D cs A S ad nL Q (pc) lv (.ref (ad 0) :: st) M o := xj_get Z (C := "WalkingLaw") (T := TX5) (N := 9) (ci := 5) 4 hm rfl rfl iX5 (by decide) rfl xb_236 rfl hdg kk
theorem xg_X5_45 (Z : CX p s m args meth c cc nL RX5 ret D cs A S ad) (hm : 0 ∈ S) (hdg : decode cc pc = .ok (.getfield 45, 3)) (kk : XJ p l e R s m args below meth c D cs A S ad nL Q (pc + 3) lv (.ref (ad 32) :: st) M o) : XJ p l e R s m args below meth c D cs A S ad nL Q (pc) lv (.ref (ad 0) :: st) M o := xj_get Z (C := "WalkingLaw") (T := TX5) (N := 9) (ci := 5) 5 hm rfl rfl iX5 (by decide) rfl xb_237 rfl hdg kk
theorem xg_X5_49 (Z : CX p s m args meth c cc nL RX5 ret D cs A S ad) (hm : 0 ∈ S) (hdg : decode cc pc = .ok (.getfield 49, 3)) (kk : XJ p l e R s m args below meth c D cs A S ad nL Q (pc + 3) lv (.int (M.1 0 6) :: st) M o) : XJ p l e R s m args below meth c D cs A S ad nL Q (pc) lv (.ref (ad 0) :: st) M o := xj_get Z (C := "WalkingLaw") (T := TX5) (N := 9) (ci := 5) 6 hm rfl rfl iX5 (by decide) rfl xb_238 rfl hdg kk
theorem xg_X5_56 (Z : CX p s m args meth c cc nL RX5 ret D cs A S ad) (hm : 0 ∈ S) (hdg : decode cc pc = .ok (.getfield 56, 3)) (kk : XJ p l e R s m args below meth c D cs A S ad nL Q (pc + 3) lv (.ref (ad 43) :: st) M o) : XJ p l e R s m args below meth c D cs A S ad nL Q (pc) lv (.ref (ad 0) :: st) M o := xj_get Z (C := "WalkingLaw") (T := TX5) (N := 9) (ci := 5) 7 hm rfl rfl iX5 (by decide) rfl xb_241 rfl hdg kk
theorem xg_X5_63 (Z : CX p s m args meth c cc nL RX5 ret D cs A S ad) (hm : 0 ∈ S) (hdg : decode cc pc = .ok (.getfield 63, 3)) (kk : XJ p l e R s m args below meth c D cs A S ad nL Q (pc + 3) lv (.ref (ad 48) :: st) M o) : XJ p l e R s m args below meth c D cs A S ad nL Q (pc) lv (.ref (ad 0) :: st) M o := xj_get Z (C := "WalkingLaw") (T := TX5) (N := 9) (ci := 5) 8 hm rfl rfl iX5 (by decide) rfl xb_244 rfl hdg kk
theorem xg_X5_71 (Z : CX p s m args meth c cc nL RX5 ret D cs A S ad) (hm : 1 ∈ S) (hdg : decode cc pc = .ok (.getfield 71, 3)) (kk : XJ p l e R s m args below meth c D cs A S ad nL Q (pc + 3) lv (.int (M.1 1 2) :: st) M o) : XJ p l e R s m args below meth c D cs A S ad nL Q (pc) lv (.ref (ad 1) :: st) M o := xj_getN Z (host := "WalkingLaw") (C := "WalkingLaw$Text") (T := TX3) (N := 3) (ci := 3) 2 hm rfl rfl iX3 (by decide) rfl (by decide +kernel) rfl hdg kk
theorem xg_X5_78 (Z : CX p s m args meth c cc nL RX5 ret D cs A S ad) (hm : w ∈ S) (hy : xlay w = (0, 1)) (hdg : decode cc pc = .ok (.getfield 78, 3)) (kk : XJ p l e R s m args below meth c D cs A S ad nL Q (pc + 3) lv (.int (M.1 w 0) :: st) M o) : XJ p l e R s m args below meth c D cs A S ad nL Q (pc) lv (.ref (ad w) :: st) M o := xj_getN Z (host := "WalkingLaw") (C := "WalkingLaw$Road") (T := TX1) (N := 13) (ci := 1) 0 hm hy rfl iX1 (by decide) rfl (by decide +kernel) rfl hdg kk
theorem xg_X5_81 (Z : CX p s m args meth c cc nL RX5 ret D cs A S ad) (hm : w ∈ S) (hy : xlay w = (0, 1)) (hdg : decode cc pc = .ok (.getfield 81, 3)) (kk : XJ p l e R s m args below meth c D cs A S ad nL Q (pc + 3) lv (.int (M.1 w 6) :: st) M o) : XJ p l e R s m args below meth c D cs A S ad nL Q (pc) lv (.ref (ad w) :: st) M o := xj_getN Z (host := "WalkingLaw") (C := "WalkingLaw$Road") (T := TX1) (N := 13) (ci := 1) 6 hm hy rfl iX1 (by decide) rfl (by decide +kernel) rfl hdg kk
theorem xg_X5_87 (Z : CX p s m args meth c cc nL RX5 ret D cs A S ad) (hm : 43 ∈ S) (hdg : decode cc pc = .ok (.getfield 87, 3)) (kk : XJ p l e R s m args below meth c D cs A S ad nL Q (pc + 3) lv (.int (M.1 43 3) :: st) M o) : XJ p l e R s m args below meth c D cs A S ad nL Q (pc) lv (.ref (ad 43) :: st) M o := xj_getN Z (host := "WalkingLaw") (C := "WalkingLaw$Diary") (T := TX0) (N := 5) (ci := 0) 3 hm rfl rfl iX0 (by decide) rfl (by decide +kernel) rfl hdg kk
theorem xg_X5_94 (Z : CX p s m args meth c cc nL RX5 ret D cs A S ad) (hm : w ∈ S) (hy : xlay w = (0, 1)) (hdg : decode cc pc = .ok (.getfield 94, 3)) (kk : XJ p l e R s m args below meth c D cs A S ad nL Q (pc + 3) lv (.ref (ad (w + 1)) :: st) M o) : XJ p l e R s m args below meth c D cs A S ad nL Q (pc) lv (.ref (ad w) :: st) M o := xj_getN Z (host := "WalkingLaw") (C := "WalkingLaw$Road") (T := TX1) (N := 13) (ci := 1) 1 hm hy rfl iX1 (by decide) rfl (by decide +kernel) rfl hdg kk
theorem xg_X5_98 (Z : CX p s m args meth c cc nL RX5 ret D cs A S ad) (hm : w ∈ S) (hy : xlay w = (0, 1)) (hdg : decode cc pc = .ok (.getfield 98, 3)) (kk : XJ p l e R s m args below meth c D cs A S ad nL Q (pc + 3) lv (.ref (ad (w + 2)) :: st) M o) : XJ p l e R s m args below meth c D cs A S ad nL Q (pc) lv (.ref (ad w) :: st) M o := xj_getN Z (host := "WalkingLaw") (C := "WalkingLaw$Road") (T := TX1) (N := 13) (ci := 1) 2 hm hy rfl iX1 (by decide) rfl (by decide +kernel) rfl hdg kk
theorem xg_X5_101 (Z : CX p s m args meth c cc nL RX5 ret D cs A S ad) (hm : w ∈ S) (hy : xlay w = (0, 1)) (hdg : decode cc pc = .ok (.getfield 101, 3)) (kk : XJ p l e R s m args below meth c D cs A S ad nL Q (pc + 3) lv (.ref (ad (w + 3)) :: st) M o) : XJ p l e R s m args below meth c D cs A S ad nL Q (pc) lv (.ref (ad w) :: st) M o := xj_getN Z (host := "WalkingLaw") (C := "WalkingLaw$Road") (T := TX1) (N := 13) (ci := 1) 3 hm hy rfl iX1 (by decide) rfl (by decide +kernel) rfl hdg kk
theorem xg_X5_111 (Z : CX p s m args meth c cc nL RX5 ret D cs A S ad) (hm : w ∈ S) (hy : xlay w = (0, 1)) (hdg : decode cc pc = .ok (.getfield 111, 3)) (kk : XJ p l e R s m args below meth c D cs A S ad nL Q (pc + 3) lv (.ref (ad (w + 5)) :: st) M o) : XJ p l e R s m args below meth c D cs A S ad nL Q (pc) lv (.ref (ad w) :: st) M o := xj_getN Z (host := "WalkingLaw") (C := "WalkingLaw$Road") (T := TX1) (N := 13) (ci := 1) 7 hm hy rfl iX1 (by decide) rfl (by decide +kernel) rfl hdg kk
theorem xg_X5_114 (Z : CX p s m args meth c cc nL RX5 ret D cs A S ad) (hm : w ∈ S) (hy : xlay w = (0, 1)) (hdg : decode cc pc = .ok (.getfield 114, 3)) (kk : XJ p l e R s m args below meth c D cs A S ad nL Q (pc + 3) lv (.ref (ad (w + 6)) :: st) M o) : XJ p l e R s m args below meth c D cs A S ad nL Q (pc) lv (.ref (ad w) :: st) M o := xj_getN Z (host := "WalkingLaw") (C := "WalkingLaw$Road") (T := TX1) (N := 13) (ci := 1) 8 hm hy rfl iX1 (by decide) rfl (by decide +kernel) rfl hdg kk
theorem xg_X5_120 (Z : CX p s m args meth c cc nL RX5 ret D cs A S ad) (hm : w ∈ S) (hy : xlay w = (0, 4)) (hdg : decode cc pc = .ok (.getfield 120, 3)) (kk : XJ p l e R s m args below meth c D cs A S ad nL Q (pc + 3) lv (.ref (ad (w + 1)) :: st) M o) : XJ p l e R s m args below meth c D cs A S ad nL Q (pc) lv (.ref (ad w) :: st) M o := xj_getN Z (host := "WalkingLaw") (C := "WalkingLaw$Walk") (T := TX4) (N := 6) (ci := 4) 1 hm hy rfl iX4 (by decide) rfl (by decide +kernel) rfl hdg kk
theorem xg_X5_126 (Z : CX p s m args meth c cc nL RX5 ret D cs A S ad) (hm : w ∈ S) (hy : xlay w = (0, 4)) (hdg : decode cc pc = .ok (.getfield 126, 3)) (kk : XJ p l e R s m args below meth c D cs A S ad nL Q (pc + 3) lv (.int (M.1 w 5) :: st) M o) : XJ p l e R s m args below meth c D cs A S ad nL Q (pc) lv (.ref (ad w) :: st) M o := xj_getN Z (host := "WalkingLaw") (C := "WalkingLaw$Walk") (T := TX4) (N := 6) (ci := 4) 5 hm hy rfl iX4 (by decide) rfl (by decide +kernel) rfl hdg kk
theorem xg_X5_153 (Z : CX p s m args meth c cc nL RX5 ret D cs A S ad) (hm : w ∈ S) (hy : xlay w = (0, 4)) (hdg : decode cc pc = .ok (.getfield 153, 3)) (kk : XJ p l e R s m args below meth c D cs A S ad nL Q (pc + 3) lv (.ref (ad (w + 3)) :: st) M o) : XJ p l e R s m args below meth c D cs A S ad nL Q (pc) lv (.ref (ad w) :: st) M o := xj_getN Z (host := "WalkingLaw") (C := "WalkingLaw$Walk") (T := TX4) (N := 6) (ci := 4) 3 hm hy rfl iX4 (by decide) rfl (by decide +kernel) rfl hdg kk
theorem xg_X5_159 (Z : CX p s m args meth c cc nL RX5 ret D cs A S ad) (hm : w ∈ S) (hy : xlay w = (0, 4)) (hdg : decode cc pc = .ok (.getfield 159, 3)) (kk : XJ p l e R s m args below meth c D cs A S ad nL Q (pc + 3) lv (.ref (ad (w + 4)) :: st) M o) : XJ p l e R s m args below meth c D cs A S ad nL Q (pc) lv (.ref (ad w) :: st) M o := xj_getN Z (host := "WalkingLaw") (C := "WalkingLaw$Walk") (T := TX4) (N := 6) (ci := 4) 4 hm hy rfl iX4 (by decide) rfl (by decide +kernel) rfl hdg kk
theorem xg_X5_175 (Z : CX p s m args meth c cc nL RX5 ret D cs A S ad) (hm : 48 ∈ S) (hdg : decode cc pc = .ok (.getfield 175, 3)) (kk : XJ p l e R s m args below meth c D cs A S ad nL Q (pc + 3) lv (.int (M.1 48 3) :: st) M o) : XJ p l e R s m args below meth c D cs A S ad nL Q (pc) lv (.ref (ad 48) :: st) M o := xj_getN Z (host := "WalkingLaw") (C := "WalkingLaw$Rows") (T := TX2) (N := 4) (ci := 2) 3 hm rfl rfl iX2 (by decide) rfl (by decide +kernel) rfl hdg kk
theorem xg_X5_178 (Z : CX p s m args meth c cc nL RX5 ret D cs A S ad) (hm : 48 ∈ S) (hdg : decode cc pc = .ok (.getfield 178, 3)) (kk : XJ p l e R s m args below meth c D cs A S ad nL Q (pc + 3) lv (.ref (ad 55) :: st) M o) : XJ p l e R s m args below meth c D cs A S ad nL Q (pc) lv (.ref (ad 48) :: st) M o := xj_getN Z (host := "WalkingLaw") (C := "WalkingLaw$Rows") (T := TX2) (N := 4) (ci := 2) 2 hm rfl rfl iX2 (by decide) rfl (by decide +kernel) rfl hdg kk
theorem xg_X5_214 (Z : CX p s m args meth c cc nL RX5 ret D cs A S ad) (hm : w ∈ S) (hy : xlay w = (0, 1)) (hdg : decode cc pc = .ok (.getfield 214, 3)) (kk : XJ p l e R s m args below meth c D cs A S ad nL Q (pc + 3) lv (.int (M.1 w 12) :: st) M o) : XJ p l e R s m args below meth c D cs A S ad nL Q (pc) lv (.ref (ad w) :: st) M o := xj_getN Z (host := "WalkingLaw") (C := "WalkingLaw$Road") (T := TX1) (N := 13) (ci := 1) 12 hm hy rfl iX1 (by decide) rfl (by decide +kernel) rfl hdg kk
theorem xg_X5_217 (Z : CX p s m args meth c cc nL RX5 ret D cs A S ad) (hm : w ∈ S) (hy : xlay w = (0, 1)) (hdg : decode cc pc = .ok (.getfield 217, 3)) (kk : XJ p l e R s m args below meth c D cs A S ad nL Q (pc + 3) lv (.int (M.1 w 5) :: st) M o) : XJ p l e R s m args below meth c D cs A S ad nL Q (pc) lv (.ref (ad w) :: st) M o := xj_getN Z (host := "WalkingLaw") (C := "WalkingLaw$Road") (T := TX1) (N := 13) (ci := 1) 5 hm hy rfl iX1 (by decide) rfl (by decide +kernel) rfl hdg kk
theorem xg_X5_220 (Z : CX p s m args meth c cc nL RX5 ret D cs A S ad) (hm : w ∈ S) (hy : xlay w = (0, 1)) (hdg : decode cc pc = .ok (.getfield 220, 3)) (kk : XJ p l e R s m args below meth c D cs A S ad nL Q (pc + 3) lv (.int (M.1 w 11) :: st) M o) : XJ p l e R s m args below meth c D cs A S ad nL Q (pc) lv (.ref (ad w) :: st) M o := xj_getN Z (host := "WalkingLaw") (C := "WalkingLaw$Road") (T := TX1) (N := 13) (ci := 1) 11 hm hy rfl iX1 (by decide) rfl (by decide +kernel) rfl hdg kk
theorem xg_X6_7 (Z : CX p s m args meth c cc nL RX6 ret D cs A S ad) (hm : 60 ∈ S) (hdg : decode cc pc = .ok (.getfield 7, 3)) (kk : XJ p l e R s m args below meth c D cs A S ad nL Q (pc + 3) lv (.ref (ad 61) :: st) M o) : XJ p l e R s m args below meth c D cs A S ad nL Q (pc) lv (.ref (ad 60) :: st) M o := xj_get Z (C := "WalkingLawModel") (T := TX6) (N := 19) (ci := 6) 1 hm rfl rfl iX6 (by decide) rfl xb_396 rfl hdg kk
theorem xg_X6_13 (Z : CX p s m args meth c cc nL RX6 ret D cs A S ad) (hm : 60 ∈ S) (hdg : decode cc pc = .ok (.getfield 13, 3)) (kk : XJ p l e R s m args below meth c D cs A S ad nL Q (pc + 3) lv (.ref (ad 62) :: st) M o) : XJ p l e R s m args below meth c D cs A S ad nL Q (pc) lv (.ref (ad 60) :: st) M o := xj_get Z (C := "WalkingLawModel") (T := TX6) (N := 19) (ci := 6) 3 hm rfl rfl iX6 (by decide) rfl xb_383 rfl hdg kk
theorem xg_X6_17 (Z : CX p s m args meth c cc nL RX6 ret D cs A S ad) (hm : 60 ∈ S) (hdg : decode cc pc = .ok (.getfield 17, 3)) (kk : XJ p l e R s m args below meth c D cs A S ad nL Q (pc + 3) lv (.ref (ad 63) :: st) M o) : XJ p l e R s m args below meth c D cs A S ad nL Q (pc) lv (.ref (ad 60) :: st) M o := xj_get Z (C := "WalkingLawModel") (T := TX6) (N := 19) (ci := 6) 4 hm rfl rfl iX6 (by decide) rfl xb_381 rfl hdg kk
theorem xg_X6_20 (Z : CX p s m args meth c cc nL RX6 ret D cs A S ad) (hm : 60 ∈ S) (hdg : decode cc pc = .ok (.getfield 20, 3)) (kk : XJ p l e R s m args below meth c D cs A S ad nL Q (pc + 3) lv (.ref (ad 64) :: st) M o) : XJ p l e R s m args below meth c D cs A S ad nL Q (pc) lv (.ref (ad 60) :: st) M o := xj_get Z (C := "WalkingLawModel") (T := TX6) (N := 19) (ci := 6) 5 hm rfl rfl iX6 (by decide) rfl xb_388 rfl hdg kk
theorem xg_X6_23 (Z : CX p s m args meth c cc nL RX6 ret D cs A S ad) (hm : 60 ∈ S) (hdg : decode cc pc = .ok (.getfield 23, 3)) (kk : XJ p l e R s m args below meth c D cs A S ad nL Q (pc + 3) lv (.ref (ad 65) :: st) M o) : XJ p l e R s m args below meth c D cs A S ad nL Q (pc) lv (.ref (ad 60) :: st) M o := xj_get Z (C := "WalkingLawModel") (T := TX6) (N := 19) (ci := 6) 6 hm rfl rfl iX6 (by decide) rfl xb_382 rfl hdg kk
theorem xg_X6_26 (Z : CX p s m args meth c cc nL RX6 ret D cs A S ad) (hm : 60 ∈ S) (hdg : decode cc pc = .ok (.getfield 26, 3)) (kk : XJ p l e R s m args below meth c D cs A S ad nL Q (pc + 3) lv (.ref (ad 66) :: st) M o) : XJ p l e R s m args below meth c D cs A S ad nL Q (pc) lv (.ref (ad 60) :: st) M o := xj_get Z (C := "WalkingLawModel") (T := TX6) (N := 19) (ci := 6) 7 hm rfl rfl iX6 (by decide) rfl xb_386 rfl hdg kk
theorem xg_X6_29 (Z : CX p s m args meth c cc nL RX6 ret D cs A S ad) (hm : 60 ∈ S) (hdg : decode cc pc = .ok (.getfield 29, 3)) (kk : XJ p l e R s m args below meth c D cs A S ad nL Q (pc + 3) lv (.ref (ad 67) :: st) M o) : XJ p l e R s m args below meth c D cs A S ad nL Q (pc) lv (.ref (ad 60) :: st) M o := xj_get Z (C := "WalkingLawModel") (T := TX6) (N := 19) (ci := 6) 8 hm rfl rfl iX6 (by decide) rfl xb_385 rfl hdg kk
theorem xg_X6_32 (Z : CX p s m args meth c cc nL RX6 ret D cs A S ad) (hm : 60 ∈ S) (hdg : decode cc pc = .ok (.getfield 32, 3)) (kk : XJ p l e R s m args below meth c D cs A S ad nL Q (pc + 3) lv (.ref (ad 68) :: st) M o) : XJ p l e R s m args below meth c D cs A S ad nL Q (pc) lv (.ref (ad 60) :: st) M o := xj_get Z (C := "WalkingLawModel") (T := TX6) (N := 19) (ci := 6) 11 hm rfl rfl iX6 (by decide) rfl xb_397 rfl hdg kk
theorem xg_X6_35 (Z : CX p s m args meth c cc nL RX6 ret D cs A S ad) (hm : 60 ∈ S) (hdg : decode cc pc = .ok (.getfield 35, 3)) (kk : XJ p l e R s m args below meth c D cs A S ad nL Q (pc + 3) lv (.ref (ad 69) :: st) M o) : XJ p l e R s m args below meth c D cs A S ad nL Q (pc) lv (.ref (ad 60) :: st) M o := xj_get Z (C := "WalkingLawModel") (T := TX6) (N := 19) (ci := 6) 12 hm rfl rfl iX6 (by decide) rfl xb_398 rfl hdg kk
theorem xg_X6_39 (Z : CX p s m args meth c cc nL RX6 ret D cs A S ad) (hm : 60 ∈ S) (hdg : decode cc pc = .ok (.getfield 39, 3)) (kk : XJ p l e R s m args below meth c D cs A S ad nL Q (pc + 3) lv (.ref (ad 70) :: st) M o) : XJ p l e R s m args below meth c D cs A S ad nL Q (pc) lv (.ref (ad 60) :: st) M o := xj_get Z (C := "WalkingLawModel") (T := TX6) (N := 19) (ci := 6) 13 hm rfl rfl iX6 (by decide) rfl xb_399 rfl hdg kk
theorem xg_X6_42 (Z : CX p s m args meth c cc nL RX6 ret D cs A S ad) (hm : 60 ∈ S) (hdg : decode cc pc = .ok (.getfield 42, 3)) (kk : XJ p l e R s m args below meth c D cs A S ad nL Q (pc + 3) lv (.ref (ad 71) :: st) M o) : XJ p l e R s m args below meth c D cs A S ad nL Q (pc) lv (.ref (ad 60) :: st) M o := xj_get Z (C := "WalkingLawModel") (T := TX6) (N := 19) (ci := 6) 14 hm rfl rfl iX6 (by decide) rfl xb_400 rfl hdg kk
theorem xg_X6_45 (Z : CX p s m args meth c cc nL RX6 ret D cs A S ad) (hm : 60 ∈ S) (hdg : decode cc pc = .ok (.getfield 45, 3)) (kk : XJ p l e R s m args below meth c D cs A S ad nL Q (pc + 3) lv (.ref (ad 72) :: st) M o) : XJ p l e R s m args below meth c D cs A S ad nL Q (pc) lv (.ref (ad 60) :: st) M o := xj_get Z (C := "WalkingLawModel") (T := TX6) (N := 19) (ci := 6) 16 hm rfl rfl iX6 (by decide) rfl xb_401 rfl hdg kk
theorem xg_X6_60 (Z : CX p s m args meth c cc nL RX6 ret D cs A S ad) (hm : 60 ∈ S) (hdg : decode cc pc = .ok (.getfield 60, 3)) (kk : XJ p l e R s m args below meth c D cs A S ad nL Q (pc + 3) lv (.int (M.1 60 0) :: st) M o) : XJ p l e R s m args below meth c D cs A S ad nL Q (pc) lv (.ref (ad 60) :: st) M o := xj_get Z (C := "WalkingLawModel") (T := TX6) (N := 19) (ci := 6) 0 hm rfl rfl iX6 (by decide) rfl xb_412 rfl hdg kk
theorem xg_X6_64 (Z : CX p s m args meth c cc nL RX6 ret D cs A S ad) (hm : 60 ∈ S) (hdg : decode cc pc = .ok (.getfield 64, 3)) (kk : XJ p l e R s m args below meth c D cs A S ad nL Q (pc + 3) lv (.int (M.1 60 2) :: st) M o) : XJ p l e R s m args below meth c D cs A S ad nL Q (pc) lv (.ref (ad 60) :: st) M o := xj_get Z (C := "WalkingLawModel") (T := TX6) (N := 19) (ci := 6) 2 hm rfl rfl iX6 (by decide) rfl xb_417 rfl hdg kk
theorem xg_X6_89 (Z : CX p s m args meth c cc nL RX6 ret D cs A S ad) (hm : 60 ∈ S) (hdg : decode cc pc = .ok (.getfield 89, 3)) (kk : XJ p l e R s m args below meth c D cs A S ad nL Q (pc + 3) lv (.int (M.1 60 10) :: st) M o) : XJ p l e R s m args below meth c D cs A S ad nL Q (pc) lv (.ref (ad 60) :: st) M o := xj_get Z (C := "WalkingLawModel") (T := TX6) (N := 19) (ci := 6) 10 hm rfl rfl iX6 (by decide) rfl xb_389 rfl hdg kk
theorem xg_X6_92 (Z : CX p s m args meth c cc nL RX6 ret D cs A S ad) (hm : 60 ∈ S) (hdg : decode cc pc = .ok (.getfield 92, 3)) (kk : XJ p l e R s m args below meth c D cs A S ad nL Q (pc + 3) lv (.int (M.1 60 9) :: st) M o) : XJ p l e R s m args below meth c D cs A S ad nL Q (pc) lv (.ref (ad 60) :: st) M o := xj_get Z (C := "WalkingLawModel") (T := TX6) (N := 19) (ci := 6) 9 hm rfl rfl iX6 (by decide) rfl xb_390 rfl hdg kk
theorem xg_X6_147 (Z : CX p s m args meth c cc nL RX6 ret D cs A S ad) (hm : 60 ∈ S) (hdg : decode cc pc = .ok (.getfield 147, 3)) (kk : XJ p l e R s m args below meth c D cs A S ad nL Q (pc + 3) lv (.int (M.1 60 17) :: st) M o) : XJ p l e R s m args below meth c D cs A S ad nL Q (pc) lv (.ref (ad 60) :: st) M o := xj_get Z (C := "WalkingLawModel") (T := TX6) (N := 19) (ci := 6) 17 hm rfl rfl iX6 (by decide) rfl xb_496 rfl hdg kk
theorem xg_X6_150 (Z : CX p s m args meth c cc nL RX6 ret D cs A S ad) (hm : 60 ∈ S) (hdg : decode cc pc = .ok (.getfield 150, 3)) (kk : XJ p l e R s m args below meth c D cs A S ad nL Q (pc + 3) lv (.int (M.1 60 18) :: st) M o) : XJ p l e R s m args below meth c D cs A S ad nL Q (pc) lv (.ref (ad 60) :: st) M o := xj_get Z (C := "WalkingLawModel") (T := TX6) (N := 19) (ci := 6) 18 hm rfl rfl iX6 (by decide) rfl xb_497 rfl hdg kk
theorem xg_X6_195 (Z : CX p s m args meth c cc nL RX6 ret D cs A S ad) (hm : 60 ∈ S) (hdg : decode cc pc = .ok (.getfield 195, 3)) (kk : XJ p l e R s m args below meth c D cs A S ad nL Q (pc + 3) lv (.int (M.1 60 15) :: st) M o) : XJ p l e R s m args below meth c D cs A S ad nL Q (pc) lv (.ref (ad 60) :: st) M o := xj_get Z (C := "WalkingLawModel") (T := TX6) (N := 19) (ci := 6) 15 hm rfl rfl iX6 (by decide) rfl xb_555 rfl hdg kk
theorem xp_X0_24 (Z : CX p s m args meth c cc nL RX0 ret D cs A S ad) {x : Int32} {g : xm → Option ρ} (hm : 43 ∈ S) (hdg : decode cc pc = .ok (.putfield 24, 3)) (kk : ∀ M2, M2 = (up M 43 3 x) → XJ p l e R s m args below meth c D cs A S ad nL Q (pc + 3) lv (st) M2 (g M2)) : XJ p l e R s m args below meth c D cs A S ad nL Q (pc) lv (.int x :: .ref (ad 43) :: st) M (xl (up M 43 3 x) g) := xj_put Z (C := "WalkingLaw$Diary") (T := TX0) (N := 5) (ci := 0) (ty0 := tyX0) (M1 := (up M 43 3 x)) 3 hm rfl rfl iX0 tyX0_ok nmX0 (by decide) rfl rfl xb_9 rfl rfl (Nat.le_of_ble_eq_true rfl) (by rw [up_eq]; rfl) up_cell hdg kk
theorem xp_X1_39 (Z : CX p s m args meth c cc nL RX1 ret D cs A S ad) {x : Int32} {g : xm → Option ρ} (hm : w ∈ S) (hy : xlay w = (0, 1)) (hdg : decode cc pc = .ok (.putfield 39, 3)) (kk : ∀ M2, M2 = (up M w 0 x) → XJ p l e R s m args below meth c D cs A S ad nL Q (pc + 3) lv (st) M2 (g M2)) : XJ p l e R s m args below meth c D cs A S ad nL Q (pc) lv (.int x :: .ref (ad w) :: st) M (xl (up M w 0 x) g) := xj_put Z (C := "WalkingLaw$Road") (T := TX1) (N := 13) (ci := 1) (ty0 := tyX1) (M1 := (up M w 0 x)) 0 hm hy rfl iX1 tyX1_ok nmX1 (by decide) rfl rfl xb_11 rfl rfl (Nat.le_of_ble_eq_true rfl) (by rw [up_eq]; rfl) up_cell hdg kk
theorem xp_X1_43 (Z : CX p s m args meth c cc nL RX1 ret D cs A S ad) {x : Int32} {g : xm → Option ρ} (hm : w ∈ S) (hy : xlay w = (0, 1)) (hdg : decode cc pc = .ok (.putfield 43, 3)) (kk : ∀ M2, M2 = (up M w 5 x) → XJ p l e R s m args below meth c D cs A S ad nL Q (pc + 3) lv (st) M2 (g M2)) : XJ p l e R s m args below meth c D cs A S ad nL Q (pc) lv (.int x :: .ref (ad w) :: st) M (xl (up M w 5 x) g) := xj_put Z (C := "WalkingLaw$Road") (T := TX1) (N := 13) (ci := 1) (ty0 := tyX1) (M1 := (up M w 5 x)) 5 hm hy rfl iX1 tyX1_ok nmX1 (by decide) rfl rfl xb_87 rfl rfl (Nat.le_of_ble_eq_true rfl) (by rw [up_eq]; rfl) up_cell hdg kk
theorem xp_X1_46 (Z : CX p s m args meth c cc nL RX1 ret D cs A S ad) {x : Int32} {g : xm → Option ρ} (hm : w ∈ S) (hy : xlay w = (0, 1)) (hdg : decode cc pc = .ok (.putfield 46, 3)) (kk : ∀ M2, M2 = (up M w 6 x) → XJ p l e R s m args below meth c D cs A S ad nL Q (pc + 3) lv (st) M2 (g M2)) : XJ p l e R s m args below meth c D cs A S ad nL Q (pc) lv (.int x :: .ref (ad w) :: st) M (xl (up M w 6 x) g) := xj_put Z (C := "WalkingLaw$Road") (T := TX1) (N := 13) (ci := 1) (ty0 := tyX1) (M1 := (up M w 6 x)) 6 hm hy rfl iX1 tyX1_ok nmX1 (by decide) rfl rfl xb_88 rfl rfl (Nat.le_of_ble_eq_true rfl) (by rw [up_eq]; rfl) up_cell hdg kk
theorem xp_X1_49 (Z : CX p s m args meth c cc nL RX1 ret D cs A S ad) {x : Int32} {g : xm → Option ρ} (hm : w ∈ S) (hy : xlay w = (0, 1)) (hdg : decode cc pc = .ok (.putfield 49, 3)) (kk : ∀ M2, M2 = (up M w 11 x) → XJ p l e R s m args below meth c D cs A S ad nL Q (pc + 3) lv (st) M2 (g M2)) : XJ p l e R s m args below meth c D cs A S ad nL Q (pc) lv (.int x :: .ref (ad w) :: st) M (xl (up M w 11 x) g) := xj_put Z (C := "WalkingLaw$Road") (T := TX1) (N := 13) (ci := 1) (ty0 := tyX1) (M1 := (up M w 11 x)) 11 hm hy rfl iX1 tyX1_ok nmX1 (by decide) rfl rfl xb_90 rfl rfl (Nat.le_of_ble_eq_true rfl) (by rw [up_eq]; rfl) up_cell hdg kk
theorem xp_X1_52 (Z : CX p s m args meth c cc nL RX1 ret D cs A S ad) {x : Int32} {g : xm → Option ρ} (hm : w ∈ S) (hy : xlay w = (0, 1)) (hdg : decode cc pc = .ok (.putfield 52, 3)) (kk : ∀ M2, M2 = (up M w 12 x) → XJ p l e R s m args below meth c D cs A S ad nL Q (pc + 3) lv (st) M2 (g M2)) : XJ p l e R s m args below meth c D cs A S ad nL Q (pc) lv (.int x :: .ref (ad w) :: st) M (xl (up M w 12 x) g) := xj_put Z (C := "WalkingLaw$Road") (T := TX1) (N := 13) (ci := 1) (ty0 := tyX1) (M1 := (up M w 12 x)) 12 hm hy rfl iX1 tyX1_ok nmX1 (by decide) rfl rfl xb_91 rfl rfl (Nat.le_of_ble_eq_true rfl) (by rw [up_eq]; rfl) up_cell hdg kk
theorem xp_X2_42 (Z : CX p s m args meth c cc nL RX2 ret D cs A S ad) {x : Int32} {g : xm → Option ρ} (hm : 48 ∈ S) (hdg : decode cc pc = .ok (.putfield 42, 3)) (kk : ∀ M2, M2 = (up M 48 3 x) → XJ p l e R s m args below meth c D cs A S ad nL Q (pc + 3) lv (st) M2 (g M2)) : XJ p l e R s m args below meth c D cs A S ad nL Q (pc) lv (.int x :: .ref (ad 48) :: st) M (xl (up M 48 3 x) g) := xj_put Z (C := "WalkingLaw$Rows") (T := TX2) (N := 4) (ci := 2) (ty0 := tyX2) (M1 := (up M 48 3 x)) 3 hm rfl rfl iX2 tyX2_ok nmX2 (by decide) rfl rfl xb_139 rfl rfl (Nat.le_of_ble_eq_true rfl) (by rw [up_eq]; rfl) up_cell hdg kk
theorem xp_X3_19 (Z : CX p s m args meth c cc nL RX3 ret D cs A S ad) {x : Int32} {g : xm → Option ρ} (hm : 1 ∈ S) (hdg : decode cc pc = .ok (.putfield 19, 3)) (kk : ∀ M2, M2 = (up M 1 2 x) → XJ p l e R s m args below meth c D cs A S ad nL Q (pc + 3) lv (st) M2 (g M2)) : XJ p l e R s m args below meth c D cs A S ad nL Q (pc) lv (.int x :: .ref (ad 1) :: st) M (xl (up M 1 2 x) g) := xj_put Z (C := "WalkingLaw$Text") (T := TX3) (N := 3) (ci := 3) (ty0 := tyX3) (M1 := (up M 1 2 x)) 2 hm rfl rfl iX3 tyX3_ok nmX3 (by decide) rfl rfl xb_155 rfl rfl (Nat.le_of_ble_eq_true rfl) (by rw [up_eq]; rfl) up_cell hdg kk
theorem xp_X4_28 (Z : CX p s m args meth c cc nL RX4 ret D cs A S ad) {r : Nat} {g : xm → Option ρ} (hw : xWalk S w) (hr : xRoad S r) (hdg : decode cc pc = .ok (.putfield 28, 3)) (kk : ∀ M2, M2 = (upr M w (xrb r)) → XJ p l e R s m args below meth c D cs A S ad nL Q (pc + 3) lv (st) M2 (g M2)) : XJ p l e R s m args below meth c D cs A S ad nL Q (pc) lv (.ref (ad r) :: .ref (ad w) :: st) M (xl (upr M w (xrb r)) g) := xj_put Z (C := "WalkingLaw$Walk") (T := TX4) (N := 6) (ci := 4) (ty0 := tyX4) (M1 := (upr M w (xrb r))) 0 (hw.mem 0 (by decide)) hw.lay rfl iX4 tyX4_ok nmX4 (by decide) rfl rfl xb_14 rfl rfl (Nat.le_of_ble_eq_true rfl) (show [Value.ref (ad (rd ((upr M w (xrb r)).2 w))), _, _, _, _, _] = _ by rw [upr_same, hr.rd]; rfl) (upr_w hw) hdg kk
theorem xp_X4_32 (Z : CX p s m args meth c cc nL RX4 ret D cs A S ad) {x : Int32} {g : xm → Option ρ} (hm : w ∈ S) (hy : xlay w = (0, 4)) (hdg : decode cc pc = .ok (.putfield 32, 3)) (kk : ∀ M2, M2 = (up M w 5 x) → XJ p l e R s m args below meth c D cs A S ad nL Q (pc + 3) lv (st) M2 (g M2)) : XJ p l e R s m args below meth c D cs A S ad nL Q (pc) lv (.int x :: .ref (ad w) :: st) M (xl (up M w 5 x) g) := xj_put Z (C := "WalkingLaw$Walk") (T := TX4) (N := 6) (ci := 4) (ty0 := tyX4) (M1 := (up M w 5 x)) 5 hm hy rfl iX4 tyX4_ok nmX4 (by decide) rfl rfl xb_54 rfl rfl (Nat.le_of_ble_eq_true rfl) (by rw [up_eq]; rfl) up_cell hdg kk
theorem xp_X5_19 (Z : CX p s m args meth c cc nL RX5 ret D cs A S ad) {r : Nat} {g : xm → Option ρ} (hm : 0 ∈ S) (hr : xRoad S r) (hdg : decode cc pc = .ok (.putfield 19, 3)) (kk : ∀ M2, M2 = (upr M 0 (xrb r)) → XJ p l e R s m args below meth c D cs A S ad nL Q (pc + 3) lv (st) M2 (g M2)) : XJ p l e R s m args below meth c D cs A S ad nL Q (pc) lv (.ref (ad r) :: .ref (ad 0) :: st) M (xl (upr M 0 (xrb r)) g) := xj_put Z (C := "WalkingLaw") (T := TX5) (N := 9) (ci := 5) (ty0 := tyX5) (M1 := (upr M 0 (xrb r))) 1 hm rfl rfl iX5 tyX5_ok nmX5 (by decide) rfl rfl xb_231 rfl rfl (Nat.le_of_ble_eq_true rfl) (show [_, Value.ref (ad (rd ((upr M 0 (xrb r)).2 0))), Value.ref (ad (rd ((upr M 0 (xrb r)).2 100))), _, _, _, _, _, _] = _ by rw [upr_same, hr.rd]; rfl) (upr_o (by decide)) hdg kk
theorem xp_X5_23 (Z : CX p s m args meth c cc nL RX5 ret D cs A S ad) {r : Nat} {g : xm → Option ρ} (hm : 0 ∈ S) (hr : xRoad S r) (hdg : decode cc pc = .ok (.putfield 23, 3)) (kk : ∀ M2, M2 = (upr M 100 (xrb r)) → XJ p l e R s m args below meth c D cs A S ad nL Q (pc + 3) lv (st) M2 (g M2)) : XJ p l e R s m args below meth c D cs A S ad nL Q (pc) lv (.ref (ad r) :: .ref (ad 0) :: st) M (xl (upr M 100 (xrb r)) g) := xj_put Z (C := "WalkingLaw") (T := TX5) (N := 9) (ci := 5) (ty0 := tyX5) (M1 := (upr M 100 (xrb r))) 2 hm rfl rfl iX5 tyX5_ok nmX5 (by decide) rfl rfl xb_232 rfl rfl (Nat.le_of_ble_eq_true rfl) (show [_, Value.ref (ad (rd ((upr M 100 (xrb r)).2 0))), Value.ref (ad (rd ((upr M 100 (xrb r)).2 100))), _, _, _, _, _, _] = _ by rw [upr_same, hr.rd]; rfl) (upr_o (by decide)) hdg kk
theorem xp_X5_49 (Z : CX p s m args meth c cc nL RX5 ret D cs A S ad) {x : Int32} {g : xm → Option ρ} (hm : 0 ∈ S) (hdg : decode cc pc = .ok (.putfield 49, 3)) (kk : ∀ M2, M2 = (up M 0 6 x) → XJ p l e R s m args below meth c D cs A S ad nL Q (pc + 3) lv (st) M2 (g M2)) : XJ p l e R s m args below meth c D cs A S ad nL Q (pc) lv (.int x :: .ref (ad 0) :: st) M (xl (up M 0 6 x) g) := xj_put Z (C := "WalkingLaw") (T := TX5) (N := 9) (ci := 5) (ty0 := tyX5) (M1 := (up M 0 6 x)) 6 hm rfl rfl iX5 tyX5_ok nmX5 (by decide) rfl rfl xb_238 rfl rfl (Nat.le_of_ble_eq_true rfl) (by rw [up_eq]; rfl) up_cell hdg kk
theorem xp_X5_71 (Z : CX p s m args meth c cc nL RX5 ret D cs A S ad) {x : Int32} {g : xm → Option ρ} (hm : 1 ∈ S) (hdg : decode cc pc = .ok (.putfield 71, 3)) (kk : ∀ M2, M2 = (up M 1 2 x) → XJ p l e R s m args below meth c D cs A S ad nL Q (pc + 3) lv (st) M2 (g M2)) : XJ p l e R s m args below meth c D cs A S ad nL Q (pc) lv (.int x :: .ref (ad 1) :: st) M (xl (up M 1 2 x) g) := xj_putN Z (host := "WalkingLaw") (C := "WalkingLaw$Text") (T := TX3) (N := 3) (ci := 3) (ty0 := tyX3) (M1 := (up M 1 2 x)) 2 hm rfl rfl iX3 tyX3_ok nmX3 (by decide) rfl rfl (by decide +kernel) rfl rfl (Nat.le_of_ble_eq_true rfl) (by rw [up_eq]; rfl) up_cell hdg kk
theorem xp_X5_87 (Z : CX p s m args meth c cc nL RX5 ret D cs A S ad) {x : Int32} {g : xm → Option ρ} (hm : 43 ∈ S) (hdg : decode cc pc = .ok (.putfield 87, 3)) (kk : ∀ M2, M2 = (up M 43 3 x) → XJ p l e R s m args below meth c D cs A S ad nL Q (pc + 3) lv (st) M2 (g M2)) : XJ p l e R s m args below meth c D cs A S ad nL Q (pc) lv (.int x :: .ref (ad 43) :: st) M (xl (up M 43 3 x) g) := xj_putN Z (host := "WalkingLaw") (C := "WalkingLaw$Diary") (T := TX0) (N := 5) (ci := 0) (ty0 := tyX0) (M1 := (up M 43 3 x)) 3 hm rfl rfl iX0 tyX0_ok nmX0 (by decide) rfl rfl (by decide +kernel) rfl rfl (Nat.le_of_ble_eq_true rfl) (by rw [up_eq]; rfl) up_cell hdg kk
theorem xp_X6_60 (Z : CX p s m args meth c cc nL RX6 ret D cs A S ad) {x : Int32} {g : xm → Option ρ} (hm : 60 ∈ S) (hdg : decode cc pc = .ok (.putfield 60, 3)) (kk : ∀ M2, M2 = (up M 60 0 x) → XJ p l e R s m args below meth c D cs A S ad nL Q (pc + 3) lv (st) M2 (g M2)) : XJ p l e R s m args below meth c D cs A S ad nL Q (pc) lv (.int x :: .ref (ad 60) :: st) M (xl (up M 60 0 x) g) := xj_put Z (C := "WalkingLawModel") (T := TX6) (N := 19) (ci := 6) (ty0 := tyX6) (M1 := (up M 60 0 x)) 0 hm rfl rfl iX6 tyX6_ok nmX6 (by decide) rfl rfl xb_412 rfl rfl (Nat.le_of_ble_eq_true rfl) (by rw [up_eq]; rfl) up_cell hdg kk
theorem xp_X6_64 (Z : CX p s m args meth c cc nL RX6 ret D cs A S ad) {x : Int32} {g : xm → Option ρ} (hm : 60 ∈ S) (hdg : decode cc pc = .ok (.putfield 64, 3)) (kk : ∀ M2, M2 = (up M 60 2 x) → XJ p l e R s m args below meth c D cs A S ad nL Q (pc + 3) lv (st) M2 (g M2)) : XJ p l e R s m args below meth c D cs A S ad nL Q (pc) lv (.int x :: .ref (ad 60) :: st) M (xl (up M 60 2 x) g) := xj_put Z (C := "WalkingLawModel") (T := TX6) (N := 19) (ci := 6) (ty0 := tyX6) (M1 := (up M 60 2 x)) 2 hm rfl rfl iX6 tyX6_ok nmX6 (by decide) rfl rfl xb_417 rfl rfl (Nat.le_of_ble_eq_true rfl) (by rw [up_eq]; rfl) up_cell hdg kk
theorem xp_X6_89 (Z : CX p s m args meth c cc nL RX6 ret D cs A S ad) {x : Int32} {g : xm → Option ρ} (hm : 60 ∈ S) (hdg : decode cc pc = .ok (.putfield 89, 3)) (kk : ∀ M2, M2 = (up M 60 10 x) → XJ p l e R s m args below meth c D cs A S ad nL Q (pc + 3) lv (st) M2 (g M2)) : XJ p l e R s m args below meth c D cs A S ad nL Q (pc) lv (.int x :: .ref (ad 60) :: st) M (xl (up M 60 10 x) g) := xj_put Z (C := "WalkingLawModel") (T := TX6) (N := 19) (ci := 6) (ty0 := tyX6) (M1 := (up M 60 10 x)) 10 hm rfl rfl iX6 tyX6_ok nmX6 (by decide) rfl rfl xb_389 rfl rfl (Nat.le_of_ble_eq_true rfl) (by rw [up_eq]; rfl) up_cell hdg kk
theorem xp_X6_92 (Z : CX p s m args meth c cc nL RX6 ret D cs A S ad) {x : Int32} {g : xm → Option ρ} (hm : 60 ∈ S) (hdg : decode cc pc = .ok (.putfield 92, 3)) (kk : ∀ M2, M2 = (up M 60 9 x) → XJ p l e R s m args below meth c D cs A S ad nL Q (pc + 3) lv (st) M2 (g M2)) : XJ p l e R s m args below meth c D cs A S ad nL Q (pc) lv (.int x :: .ref (ad 60) :: st) M (xl (up M 60 9 x) g) := xj_put Z (C := "WalkingLawModel") (T := TX6) (N := 19) (ci := 6) (ty0 := tyX6) (M1 := (up M 60 9 x)) 9 hm rfl rfl iX6 tyX6_ok nmX6 (by decide) rfl rfl xb_390 rfl rfl (Nat.le_of_ble_eq_true rfl) (by rw [up_eq]; rfl) up_cell hdg kk
theorem xp_X6_147 (Z : CX p s m args meth c cc nL RX6 ret D cs A S ad) {x : Int32} {g : xm → Option ρ} (hm : 60 ∈ S) (hdg : decode cc pc = .ok (.putfield 147, 3)) (kk : ∀ M2, M2 = (up M 60 17 x) → XJ p l e R s m args below meth c D cs A S ad nL Q (pc + 3) lv (st) M2 (g M2)) : XJ p l e R s m args below meth c D cs A S ad nL Q (pc) lv (.int x :: .ref (ad 60) :: st) M (xl (up M 60 17 x) g) := xj_put Z (C := "WalkingLawModel") (T := TX6) (N := 19) (ci := 6) (ty0 := tyX6) (M1 := (up M 60 17 x)) 17 hm rfl rfl iX6 tyX6_ok nmX6 (by decide) rfl rfl xb_496 rfl rfl (Nat.le_of_ble_eq_true rfl) (by rw [up_eq]; rfl) up_cell hdg kk
theorem xp_X6_150 (Z : CX p s m args meth c cc nL RX6 ret D cs A S ad) {x : Int32} {g : xm → Option ρ} (hm : 60 ∈ S) (hdg : decode cc pc = .ok (.putfield 150, 3)) (kk : ∀ M2, M2 = (up M 60 18 x) → XJ p l e R s m args below meth c D cs A S ad nL Q (pc + 3) lv (st) M2 (g M2)) : XJ p l e R s m args below meth c D cs A S ad nL Q (pc) lv (.int x :: .ref (ad 60) :: st) M (xl (up M 60 18 x) g) := xj_put Z (C := "WalkingLawModel") (T := TX6) (N := 19) (ci := 6) (ty0 := tyX6) (M1 := (up M 60 18 x)) 18 hm rfl rfl iX6 tyX6_ok nmX6 (by decide) rfl rfl xb_497 rfl rfl (Nat.le_of_ble_eq_true rfl) (by rw [up_eq]; rfl) up_cell hdg kk
theorem xp_X6_195 (Z : CX p s m args meth c cc nL RX6 ret D cs A S ad) {x : Int32} {g : xm → Option ρ} (hm : 60 ∈ S) (hdg : decode cc pc = .ok (.putfield 195, 3)) (kk : ∀ M2, M2 = (up M 60 15 x) → XJ p l e R s m args below meth c D cs A S ad nL Q (pc + 3) lv (st) M2 (g M2)) : XJ p l e R s m args below meth c D cs A S ad nL Q (pc) lv (.int x :: .ref (ad 60) :: st) M (xl (up M 60 15 x) g) := xj_put Z (C := "WalkingLawModel") (T := TX6) (N := 19) (ci := 6) (ty0 := tyX6) (M1 := (up M 60 15 x)) 15 hm rfl rfl iX6 tyX6_ok nmX6 (by decide) rfl rfl xb_555 rfl rfl (Nat.le_of_ble_eq_true rfl) (by rw [up_eq]; rfl) up_cell hdg kk
end XR
theorem gw_X0_28 : ∀ w ∈ wsV RX0 28 RX0 yX0_isSo [Cond.code yX0_isSo cX0_isSo 3 (some .boolean)], w ∈ xbig := xq_5 xb_65 xb_66 xb_67 xb_68 xb_20
theorem gw_X0_32 : ∀ w ∈ wsV RX0 32 RX4 yX4_goHour [Cond.code yX4_goHour cX4_goHour 3 none], w ∈ xbig := xq_5 xb_69 xb_70 xb_71 xb_24 xb_64
theorem gw_X0_38 : ∀ w ∈ wsV RX0 38 RX0 yX0_noteFitting [Cond.code yX0_noteFitting cX0_noteFitting 6 none], w ∈ xbig := xq_5 xb_79 xb_80 xb_81 xb_68 xb_73
theorem gw_X0_42 : ∀ w ∈ wsV RX0 42 RX0 yX0_mostFitting [Cond.code yX0_mostFitting cX0_mostFitting 3 (some .int)], w ∈ xbig := xq_5 xb_82 xb_83 xb_84 xb_68 xb_78
theorem gw_X0_46 : ∀ w ∈ wsV RX0 46 RX4 yX4_parishOf [Cond.code yX4_parishOf cX4_parishOf 2 (some .int)], w ∈ xbig := xq_5 xb_21 xb_22 xb_23 xb_24 xb_13
theorem gw_X1_36 : ∀ w ∈ wsV RX1 36 RX1 yX1_clear [Cond.code yX1_clear cX1_clear 2 none], w ∈ xbig := xq_5 xb_97 xb_98 xb_99 xb_19 xb_86
theorem gw_X1_55 : ∀ w ∈ wsV RX1 55 RX1 yX1_parishAt [Cond.code yX1_parishAt cX1_parishAt 3 (some .int)], w ∈ xbig := xq_5 xb_29 xb_17 xb_18 xb_19 xb_10
theorem gw_X2_23 : ∀ w ∈ wsV RX2 23 RX2 yX2_findPassing [Cond.code yX2_findPassing cX2_findPassing 5 none], w ∈ xbig := xq_5 xb_140 xb_141 xb_142 xb_134 xb_136
theorem gw_X2_45 : ∀ w ∈ wsV RX2 45 RX2 yX2_setRow [Cond.code yX2_setRow cX2_setRow 5 (some .boolean)], w ∈ xbig := xq_5 xb_143 xb_144 xb_145 xb_134 xb_137
theorem gw_X2_49 : ∀ w ∈ wsV RX2 49 RX2 yX2_compare [Cond.code yX2_compare cX2_compare 5 none], w ∈ xbig := xq_5 xb_146 xb_147 xb_148 xb_134 xb_138
theorem gw_X2_56 : ∀ w ∈ wsV RX2 56 RX2 yX2_notePassing [Cond.code yX2_notePassing cX2_notePassing 5 none], w ∈ xbig := xq_5 xb_131 xb_132 xb_133 xb_134 xb_130
theorem gw_X2_60 : ∀ w ∈ wsV RX2 60 RX4 yX4_goHour [Cond.code yX4_goHour cX4_goHour 3 none], w ∈ xbig := xq_5 xb_135 xb_70 xb_71 xb_24 xb_64
theorem gw_X2_64 : ∀ w ∈ wsV RX2 64 RX4 yX4_parishOf [Cond.code yX4_parishOf cX4_parishOf 2 (some .int)], w ∈ xbig := xq_5 xb_126 xb_22 xb_23 xb_24 xb_13
theorem gw_X2_68 : ∀ w ∈ wsV RX2 68 RX4 yX4_passesIn [Cond.code yX4_passesIn cX4_passesIn 5 (some .boolean)], w ∈ xbig := xq_5 xb_127 xb_128 xb_129 xb_24 xb_125
theorem gw_X3_23 : ∀ w ∈ wsV RX3 23 RX1 yX1_clear [Cond.code yX1_clear cX1_clear 2 none], w ∈ xbig := xq_5 xb_189 xb_98 xb_99 xb_19 xb_86
theorem gw_X3_28 : ∀ w ∈ wsV RX3 28 RX3 yX3_takeItem [Cond.code yX3_takeItem cX3_takeItem 7 (some .int)], w ∈ xbig := xq_5 xb_190 xb_191 xb_192 xb_162 xb_188
theorem gw_X3_32 : ∀ w ∈ wsV RX3 32 RX3 yX3_byteAt [Cond.code yX3_byteAt cX3_byteAt 2 (some .int)], w ∈ xbig := xq_5 xb_159 xb_160 xb_161 xb_162 xb_156
theorem gw_X3_36 : ∀ w ∈ va_wsS RX3 36 yX3_numbersBehind [Cond.code yX3_numbersBehind cX3_numbersBehind 1 (some .int)], w ∈ xbig := xq_4 xb_180 xb_181 xb_162 xb_157
theorem gw_X3_39 : ∀ w ∈ wsV RX3 39 RX3 yX3_takeNumber [Cond.code yX3_takeNumber cX3_takeNumber 6 (some .int)], w ∈ xbig := xq_5 xb_182 xb_183 xb_184 xb_162 xb_163
theorem gw_X3_43 : ∀ w ∈ wsV RX3 43 RX3 yX3_addItem [Cond.code yX3_addItem cX3_addItem 3 (some .boolean)], w ∈ xbig := xq_5 xb_185 xb_186 xb_187 xb_162 xb_179
theorem gw_X3_47 : ∀ w ∈ wsV RX3 47 RX3 yX3_isFigure [Cond.code yX3_isFigure cX3_isFigure 3 (some .boolean)], w ∈ xbig := xq_5 xb_164 xb_165 xb_166 xb_162 xb_158
theorem gw_X3_51 : ∀ w ∈ wsV RX3 51 RX1 yX1_addParish [Cond.code yX1_addParish cX1_addParish 4 (some .boolean)], w ∈ xbig := xq_5 xb_167 xb_168 xb_169 xb_19 xb_100
theorem gw_X3_55 : ∀ w ∈ wsV RX3 55 RX1 yX1_addMember [Cond.code yX1_addMember cX1_addMember 4 (some .boolean)], w ∈ xbig := xq_5 xb_170 xb_171 xb_172 xb_19 xb_101
theorem gw_X3_58 : ∀ w ∈ wsV RX3 58 RX1 yX1_setQuorum [Cond.code yX1_setQuorum cX1_setQuorum 2 (some .boolean)], w ∈ xbig := xq_5 xb_173 xb_174 xb_175 xb_19 xb_102
theorem gw_X3_61 : ∀ w ∈ wsV RX3 61 RX1 yX1_setBills [Cond.code yX1_setBills cX1_setBills 2 (some .boolean)], w ∈ xbig := xq_5 xb_176 xb_177 xb_178 xb_19 xb_103
theorem gw_X4_24 : ∀ w ∈ wsV RX4 24 RX4 yX4_begin [Cond.code yX4_begin cX4_begin 3 none], w ∈ xbig := xq_5 xb_203 xb_204 xb_205 xb_24 xb_195
theorem gw_X4_44 : ∀ w ∈ wsV RX4 44 RX4 yX4_setMind [Cond.code yX4_setMind cX4_setMind 4 none], w ∈ xbig := xq_5 xb_198 xb_199 xb_200 xb_24 xb_194
theorem gw_X4_48 : ∀ w ∈ wsV RX4 48 RX1 yX1_parishAt [Cond.code yX1_parishAt cX1_parishAt 3 (some .int)], w ∈ xbig := xq_5 xb_16 xb_17 xb_18 xb_19 xb_10
theorem gw_X4_61 : ∀ w ∈ wsV RX4 61 RX4 yX4_goHour [Cond.code yX4_goHour cX4_goHour 3 none], w ∈ xbig := xq_5 xb_209 xb_70 xb_71 xb_24 xb_64
theorem gw_X4_65 : ∀ w ∈ wsV RX4 65 RX1 yX1_strideFrom [Cond.code yX1_strideFrom cX1_strideFrom 3 (some .int)], w ∈ xbig := xq_5 xb_55 xb_56 xb_57 xb_19 xb_25
theorem gw_X4_74 : ∀ w ∈ wsV RX4 74 RX4 yX4_clearInns [Cond.code yX4_clearInns cX4_clearInns 5 none], w ∈ xbig := xq_5 xb_58 xb_59 xb_60 xb_24 xb_35
theorem gw_X4_77 : ∀ w ∈ wsV RX4 77 RX4 yX4_changeMinds [Cond.code yX4_changeMinds cX4_changeMinds 4 none], w ∈ xbig := xq_5 xb_61 xb_62 xb_63 xb_24 xb_46
theorem gw_X4_80 : ∀ w ∈ wsV RX4 80 RX4 yX4_thoseIn [Cond.code yX4_thoseIn cX4_thoseIn 6 (some .int)], w ∈ xbig := xq_5 xb_36 xb_37 xb_38 xb_24 xb_30
theorem gw_X4_83 : ∀ w ∈ va_wsS RX4 83 yJ6_bitCount_0f7a4 [Cond.code yJ6_bitCount_0f7a4 cJ6_bitCount_0f7a4 1 (some .int)], w ∈ xbig := xq_4 xb_39 xb_40 xb_41 xb_31
theorem gw_X4_94 : ∀ w ∈ va_wsS RX4 94 yX4_swayed [Cond.code yX4_swayed cX4_swayed 5 (some .int)], w ∈ xbig := xq_4 xb_48 xb_49 xb_24 xb_43
theorem gw_X4_97 : ∀ w ∈ [Cond.code yX5_lowestOf cX5_lowestOf 1 (some .int)], w ∈ xbig := xq_1 xb_42
theorem gn_X4_97 : Cond.methodLinkNest RX4 97 yX5_lowestOf "WalkingLaw" ∈ xnst := by decide +kernel
theorem gw_X4_100 : ∀ w ∈ wsV RX4 100 RX4 yX4_yesOf [Cond.code yX4_yesOf cX4_yesOf 7 (some .int)], w ∈ xbig := xq_5 xb_119 xb_120 xb_121 xb_24 xb_114
theorem gw_X4_104 : ∀ w ∈ wsV RX4 104 RX4 yX4_noOf [Cond.code yX4_noOf cX4_noOf 6 (some .int)], w ∈ xbig := xq_5 xb_122 xb_123 xb_124 xb_24 xb_118
theorem gw_X4_111 : ∀ w ∈ wsV RX4 111 RX1 yX1_outspoken [Cond.code yX1_outspoken cX1_outspoken 1 (some .int)], w ∈ xbig := xq_5 xb_115 xb_116 xb_117 xb_19 xb_104
theorem gw_X4_118 : ∀ w ∈ wsV RX4 118 RX4 yX4_parishOf [Cond.code yX4_parishOf cX4_parishOf 2 (some .int)], w ∈ xbig := xq_5 xb_213 xb_22 xb_23 xb_24 xb_13
theorem gw_X4_121 : ∀ w ∈ wsV RX4 121 RX4 yX4_passesIn [Cond.code yX4_passesIn cX4_passesIn 5 (some .boolean)], w ∈ xbig := xq_5 xb_214 xb_128 xb_129 xb_24 xb_125
theorem gw_X4_125 : ∀ w ∈ wsV RX4 125 RX4 yX4_readOut [Cond.code yX4_readOut cX4_readOut 3 (some .boolean)], w ∈ xbig := xq_5 xb_216 xb_217 xb_218 xb_24 xb_215
theorem gw_X4_129 : ∀ w ∈ wsV RX4 129 RX4 yX4_isHeld [Cond.code yX4_isHeld cX4_isHeld 2 (some .boolean)], w ∈ xbig := xq_5 xb_222 xb_223 xb_224 xb_24 xb_220
theorem gw_X5_26 : ∀ w ∈ wsV RX5 26 RX1 yX1_addParish [Cond.code yX1_addParish cX1_addParish 4 (some .boolean)], w ∈ xbig := xq_5 xb_248 xb_168 xb_169 xb_19 xb_100
theorem gw_X5_30 : ∀ w ∈ wsV RX5 30 RX1 yX1_addMember [Cond.code yX1_addMember cX1_addMember 4 (some .boolean)], w ∈ xbig := xq_5 xb_249 xb_171 xb_172 xb_19 xb_101
theorem gw_X5_67 : ∀ w ∈ wsV RX5 67 RX3 yX3_append [Cond.code yX3_append cX3_append 5 (some .boolean)], w ∈ xbig := xq_5 xb_256 xb_257 xb_258 xb_162 xb_154
theorem gw_X5_74 : ∀ w ∈ wsV RX5 74 RX3 yX3_tell [Cond.code yX3_tell cX3_tell 5 (some .int)], w ∈ xbig := xq_5 xb_260 xb_261 xb_262 xb_162 xb_193
theorem gw_X5_84 : ∀ w ∈ wsV RX5 84 RX4 yX4_begin [Cond.code yX4_begin cX4_begin 3 none], w ∈ xbig := xq_5 xb_264 xb_204 xb_205 xb_24 xb_195
theorem gw_X5_90 : ∀ w ∈ wsV RX5 90 RX5 yX5_isParish [Cond.code yX5_isParish cX5_isParish 2 (some .boolean)], w ∈ xbig := xq_5 xb_268 xb_269 xb_270 xb_45 xb_266
theorem gw_X5_104 : ∀ w ∈ wsV RX5 104 RX4 yX4_thoseIn [Cond.code yX4_thoseIn cX4_thoseIn 6 (some .int)], w ∈ xbig := xq_5 xb_271 xb_37 xb_38 xb_24 xb_30
theorem gw_X5_108 : ∀ w ∈ wsV RX5 108 RX5 yX5_isMember [Cond.code yX5_isMember cX5_isMember 2 (some .boolean)], w ∈ xbig := xq_5 xb_273 xb_274 xb_275 xb_45 xb_272
theorem gw_X5_117 : ∀ w ∈ wsV RX5 117 RX4 yX4_mindOf [Cond.code yX4_mindOf cX4_mindOf 4 (some .int)], w ∈ xbig := xq_5 xb_276 xb_277 xb_278 xb_24 xb_207
theorem gw_X5_123 : ∀ w ∈ wsV RX5 123 RX4 yX4_parishOf [Cond.code yX4_parishOf cX4_parishOf 2 (some .int)], w ∈ xbig := xq_5 xb_279 xb_22 xb_23 xb_24 xb_13
theorem gw_X5_129 : ∀ w ∈ wsV RX5 129 RX4 yX4_goHours [Cond.code yX4_goHours cX4_goHours 3 none], w ∈ xbig := xq_5 xb_281 xb_282 xb_283 xb_24 xb_210
theorem gw_X5_133 : ∀ w ∈ wsV RX5 133 RX4 yX4_arrived [Cond.code yX4_arrived cX4_arrived 3 (some .int)], w ∈ xbig := xq_5 xb_284 xb_285 xb_286 xb_24 xb_208
theorem gw_X5_137 : ∀ w ∈ wsV RX5 137 RX5 yX5_isBill [Cond.code yX5_isBill cX5_isBill 2 (some .boolean)], w ∈ xbig := xq_5 xb_289 xb_290 xb_291 xb_45 xb_288
theorem gw_X5_140 : ∀ w ∈ wsV RX5 140 RX4 yX4_yesIn [Cond.code yX4_yesIn cX4_yesIn 3 (some .int)], w ∈ xbig := xq_5 xb_292 xb_293 xb_294 xb_24 xb_211
theorem gw_X5_144 : ∀ w ∈ wsV RX5 144 RX4 yX4_noIn [Cond.code yX4_noIn cX4_noIn 3 (some .int)], w ∈ xbig := xq_5 xb_295 xb_296 xb_297 xb_24 xb_212
theorem gw_X5_147 : ∀ w ∈ wsV RX5 147 RX4 yX4_passesIn [Cond.code yX4_passesIn cX4_passesIn 5 (some .boolean)], w ∈ xbig := xq_5 xb_298 xb_128 xb_129 xb_24 xb_125
theorem gw_X5_150 : ∀ w ∈ wsV RX5 150 RX4 yX4_readOut [Cond.code yX4_readOut cX4_readOut 3 (some .boolean)], w ∈ xbig := xq_5 xb_300 xb_217 xb_218 xb_24 xb_215
theorem gw_X5_156 : ∀ w ∈ wsV RX5 156 RX4 yX4_isHeld [Cond.code yX4_isHeld cX4_isHeld 2 (some .boolean)], w ∈ xbig := xq_5 xb_303 xb_223 xb_224 xb_24 xb_220
theorem gw_X5_162 : ∀ w ∈ va_wsS RX5 162 yX5_isAhead [Cond.code yX5_isAhead cX5_isAhead 1 (some .boolean)], w ∈ xbig := xq_4 xb_309 xb_310 xb_45 xb_304
theorem gw_X5_165 : ∀ w ∈ wsV RX5 165 RX5 yX5_lookAhead [Cond.code yX5_lookAhead cX5_lookAhead 2 none], w ∈ xbig := xq_5 xb_311 xb_312 xb_313 xb_45 xb_308
theorem gw_X5_168 : ∀ w ∈ wsV RX5 168 RX4 yX4_goHour [Cond.code yX4_goHour cX4_goHour 3 none], w ∈ xbig := xq_5 xb_316 xb_70 xb_71 xb_24 xb_64
theorem gw_X5_171 : ∀ w ∈ wsV RX5 171 RX2 yX2_weigh [Cond.code yX2_weigh cX2_weigh 5 none], w ∈ xbig := xq_5 xb_319 xb_320 xb_321 xb_134 xb_149
theorem gw_X5_181 : ∀ w ∈ wsV RX5 181 RX5 yX5_heldAhead [Cond.code yX5_heldAhead cX5_heldAhead 2 (some .int)], w ∈ xbig := xq_5 xb_330 xb_331 xb_332 xb_45 xb_329
theorem gw_X5_184 : ∀ w ∈ va_wsS RX5 184 yJ6_bitCount_0f7a4 [Cond.code yJ6_bitCount_0f7a4 cJ6_bitCount_0f7a4 1 (some .int)], w ∈ xbig := xq_4 xb_333 xb_40 xb_41 xb_31
theorem gw_X5_189 : ∀ w ∈ wsV RX5 189 RX1 yX1_paceOf [Cond.code yX1_paceOf cX1_paceOf 4 (some .int)], w ∈ xbig := xq_5 xb_336 xb_337 xb_338 xb_19 xb_105
theorem gw_X5_192 : ∀ w ∈ wsV RX5 192 RX5 yX5_isParty [Cond.code yX5_isParty cX5_isParty 4 (some .boolean)], w ∈ xbig := xq_5 xb_342 xb_343 xb_344 xb_45 xb_335
theorem gw_X5_196 : ∀ w ∈ wsV RX5 196 RX0 yX0_append [Cond.code yX0_append cX0_append 4 (some .boolean)], w ∈ xbig := xq_5 xb_348 xb_349 xb_350 xb_68 xb_8
theorem gw_X5_198 : ∀ w ∈ wsV RX5 198 RX0 yX0_falseLines [Cond.code yX0_falseLines cX0_falseLines 5 (some .int)], w ∈ xbig := xq_5 xb_352 xb_353 xb_354 xb_68 xb_72
theorem gw_X5_202 : ∀ w ∈ wsV RX5 202 RX0 yX0_bestDelay [Cond.code yX0_bestDelay cX0_bestDelay 4 (some .int)], w ∈ xbig := xq_5 xb_356 xb_357 xb_358 xb_68 xb_85
theorem gw_X5_205 : ∀ w ∈ va_wsS RX5 205 yX5_isYear [Cond.code yX5_isYear cX5_isYear 1 (some .boolean)], w ∈ xbig := xq_4 xb_370 xb_371 xb_45 xb_360
theorem gw_X5_208 : ∀ w ∈ wsV RX5 208 RX5 yX5_heldInYear [Cond.code yX5_heldInYear cX5_heldInYear 3 (some .int)], w ∈ xbig := xq_5 xb_372 xb_373 xb_374 xb_45 xb_369
theorem gw_X5_211 : ∀ w ∈ wsV RX5 211 RX4 yX4_become [Cond.code yX4_become cX4_become 3 none], w ∈ xbig := xq_5 xb_305 xb_306 xb_307 xb_24 xb_206
theorem gw_X5_223 : ∀ w ∈ wsV RX5 223 RX4 yX4_readAllFor [Cond.code yX4_readAllFor cX4_readAllFor 4 none], w ∈ xbig := xq_5 xb_323 xb_324 xb_325 xb_24 xb_219
theorem gw_X5_226 : ∀ w ∈ wsV RX5 226 RX4 yX4_allHeld [Cond.code yX4_allHeld cX4_allHeld 3 (some .int)], w ∈ xbig := xq_5 xb_326 xb_327 xb_328 xb_24 xb_221
theorem gw_X5_229 : ∀ w ∈ wsV RX5 229 RX1 yX1_slowestOf [Cond.code yX1_slowestOf cX1_slowestOf 4 (some .int)], w ∈ xbig := xq_5 xb_339 xb_340 xb_341 xb_19 xb_106
theorem gw_X5_232 : ∀ w ∈ va_wsS RX5 232 yX5_drawnMind [Cond.code yX5_drawnMind cX5_drawnMind 4 (some .int)], w ∈ xbig := xq_4 xb_366 xb_367 xb_45 xb_361
theorem gw_X5_235 : ∀ w ∈ wsV RX5 235 RX4 yX4_setMind [Cond.code yX4_setMind cX4_setMind 4 none], w ∈ xbig := xq_5 xb_368 xb_199 xb_200 xb_24 xb_194
theorem gw_X6_48 : ∀ w ∈ wsV RX6 48 RX6 yX6_begins [Cond.code yX6_begins cX6_begins 1 none], w ∈ xbig := xq_5 xb_402 xb_403 xb_404 xb_394 xb_380
theorem gw_X6_51 : ∀ w ∈ wsV RX6 51 RX6 yX6_takes [Cond.code yX6_takes cX6_takes 2 none], w ∈ xbig := xq_5 xb_405 xb_406 xb_407 xb_394 xb_387
theorem gw_X6_56 : ∀ w ∈ va_wsS RX6 56 yX6_in [Cond.code yX6_in cX6_in 6 (some .boolean)], w ∈ xbig := xq_4 xb_413 xb_414 xb_394 xb_409
theorem gw_X6_73 : ∀ w ∈ wsV RX6 73 RX6 yX6_number [Cond.code yX6_number cX6_number 3 (some .int)], w ∈ xbig := xq_5 xb_426 xb_427 xb_428 xb_394 xb_416
theorem gw_X6_77 : ∀ w ∈ wsV RX6 77 RX6 yX6_isGood [Cond.code yX6_isGood cX6_isGood 4 (some .boolean)], w ∈ xbig := xq_5 xb_429 xb_430 xb_431 xb_394 xb_422
theorem gw_X6_81 : ∀ w ∈ wsV RX6 81 RX6 yX6_isIn [Cond.code yX6_isIn cX6_isIn 4 (some .boolean)], w ∈ xbig := xq_5 xb_423 xb_424 xb_425 xb_394 xb_421
theorem gw_X6_85 : ∀ w ∈ wsV RX6 85 RX6 yX6_laid [Cond.code yX6_laid cX6_laid 3 none], w ∈ xbig := xq_5 xb_391 xb_392 xb_393 xb_394 xb_384
theorem gw_X6_95 : ∀ w ∈ wsV RX6 95 RX6 yX6_isItem [Cond.code yX6_isItem cX6_isItem 5 (some .boolean)], w ∈ xbig := xq_5 xb_433 xb_434 xb_435 xb_394 xb_432
theorem gw_X6_99 : ∀ w ∈ wsV RX6 99 RX6 yX6_fault [Cond.code yX6_fault cX6_fault 2 (some .int)], w ∈ xbig := xq_5 xb_437 xb_438 xb_439 xb_394 xb_436
theorem gw_X6_102 : ∀ w ∈ wsV RX6 102 RX6 yX6_begin [Cond.code yX6_begin cX6_begin 4 (some .int)], w ∈ xbig := xq_5 xb_446 xb_447 xb_448 xb_394 xb_444
theorem gw_X6_106 : ∀ w ∈ wsV RX6 106 RX6 yX6_parishOf [Cond.code yX6_parishOf cX6_parishOf 3 (some .int)], w ∈ xbig := xq_5 xb_451 xb_452 xb_453 xb_394 xb_449
theorem gw_X6_109 : ∀ w ∈ wsV RX6 109 RX6 yX6_isParish [Cond.code yX6_isParish cX6_isParish 2 (some .boolean)], w ∈ xbig := xq_5 xb_456 xb_457 xb_458 xb_394 xb_441
theorem gw_X6_114 : ∀ w ∈ wsV RX6 114 RX6 yX6_there [Cond.code yX6_there cX6_there 5 (some .int)], w ∈ xbig := xq_5 xb_459 xb_460 xb_461 xb_394 xb_450
theorem gw_X6_118 : ∀ w ∈ wsV RX6 118 RX6 yX6_isMember [Cond.code yX6_isMember cX6_isMember 2 (some .boolean)], w ∈ xbig := xq_5 xb_465 xb_466 xb_467 xb_394 xb_442
theorem gw_X6_123 : ∀ w ∈ wsV RX6 123 RX6 yX6_end [Cond.code yX6_end cX6_end 1 (some .int)], w ∈ xbig := xq_5 xb_473 xb_474 xb_475 xb_394 xb_445
theorem gw_X6_126 : ∀ w ∈ wsV RX6 126 RX6 yX6_pace [Cond.code yX6_pace cX6_pace 6 (some .int)], w ∈ xbig := xq_5 xb_476 xb_477 xb_478 xb_394 xb_468
theorem gw_X6_129 : ∀ w ∈ wsV RX6 129 RX6 yX6_beds [Cond.code yX6_beds cX6_beds 6 none], w ∈ xbig := xq_5 xb_479 xb_480 xb_481 xb_394 xb_469
theorem gw_X6_132 : ∀ w ∈ wsV RX6 132 RX6 yX6_minds [Cond.code yX6_minds cX6_minds 9 none], w ∈ xbig := xq_5 xb_482 xb_483 xb_484 xb_394 xb_472
theorem gw_X6_135 : ∀ w ∈ va_wsS RX6 135 yX6_many [Cond.code yX6_many cX6_many 3 (some .int)], w ∈ xbig := xq_4 xb_470 xb_471 xb_394 xb_454
theorem gw_X6_140 : ∀ w ∈ wsV RX6 140 RX6 yX6_hour [Cond.code yX6_hour cX6_hour 6 none], w ∈ xbig := xq_5 xb_488 xb_489 xb_490 xb_394 xb_485
theorem gw_X6_144 : ∀ w ∈ wsV RX6 144 RX6 yX6_atEnd [Cond.code yX6_atEnd cX6_atEnd 4 (some .int)], w ∈ xbig := xq_5 xb_491 xb_492 xb_493 xb_394 xb_486
theorem gw_X6_153 : ∀ w ∈ wsV RX6 153 RX6 yX6_isBill [Cond.code yX6_isBill cX6_isBill 2 (some .boolean)], w ∈ xbig := xq_5 xb_498 xb_499 xb_500 xb_394 xb_443
theorem gw_X6_156 : ∀ w ∈ wsV RX6 156 RX6 yX6_passes [Cond.code yX6_passes cX6_passes 10 (some .boolean)], w ∈ xbig := xq_5 xb_501 xb_502 xb_503 xb_394 xb_495
theorem gw_X6_160 : ∀ w ∈ wsV RX6 160 RX6 yX6_isRead [Cond.code yX6_isRead cX6_isRead 4 (some .boolean)], w ∈ xbig := xq_5 xb_507 xb_508 xb_509 xb_394 xb_505
theorem gw_X6_164 : ∀ w ∈ wsV RX6 164 RX6 yX6_isHeld [Cond.code yX6_isHeld cX6_isHeld 3 (some .boolean)], w ∈ xbig := xq_5 xb_512 xb_513 xb_514 xb_394 xb_506
theorem gw_X6_167 : ∀ w ∈ wsV RX6 167 RX6 yX6_copies [Cond.code yX6_copies cX6_copies 4 none], w ∈ xbig := xq_5 xb_516 xb_517 xb_518 xb_394 xb_515
theorem gw_X6_172 : ∀ w ∈ va_wsS RX6 172 yX6_isAhead [Cond.code yX6_isAhead cX6_isAhead 1 (some .boolean)], w ∈ xbig := xq_4 xb_522 xb_523 xb_394 xb_520
theorem gw_X6_175 : ∀ w ∈ wsV RX6 175 RX6 yX6_tries [Cond.code yX6_tries cX6_tries 3 none], w ∈ xbig := xq_5 xb_524 xb_525 xb_526 xb_394 xb_519
theorem gw_X6_180 : ∀ w ∈ wsV RX6 180 RX6 yX6_holds [Cond.code yX6_holds cX6_holds 4 (some .int)], w ∈ xbig := xq_5 xb_533 xb_534 xb_535 xb_394 xb_531
theorem gw_X6_183 : ∀ w ∈ wsV RX6 183 RX6 yX6_readAll [Cond.code yX6_readAll cX6_readAll 3 (some .int)], w ∈ xbig := xq_5 xb_538 xb_539 xb_540 xb_394 xb_537
theorem gw_X6_186 : ∀ w ∈ wsV RX6 186 RX6 yX6_held [Cond.code yX6_held cX6_held 4 (some .int)], w ∈ xbig := xq_5 xb_542 xb_543 xb_544 xb_394 xb_541
theorem gw_X6_189 : ∀ w ∈ wsV RX6 189 RX6 yX6_paces [Cond.code yX6_paces cX6_paces 4 (some .int)], w ∈ xbig := xq_5 xb_548 xb_549 xb_550 xb_394 xb_546
theorem gw_X6_192 : ∀ w ∈ wsV RX6 192 RX6 yX6_isParty [Cond.code yX6_isParty cX6_isParty 5 (some .boolean)], w ∈ xbig := xq_5 xb_551 xb_552 xb_553 xb_394 xb_547
theorem gw_X6_198 : ∀ w ∈ wsV RX6 198 RX6 yX6_goes [Cond.code yX6_goes cX6_goes 3 none], w ∈ xbig := xq_5 xb_560 xb_561 xb_562 xb_394 xb_559
theorem gw_X6_201 : ∀ w ∈ wsV RX6 201 RX6 yX6_right [Cond.code yX6_right cX6_right 5 (some .int)], w ∈ xbig := xq_5 xb_565 xb_566 xb_567 xb_394 xb_564
theorem gw_X6_214 : ∀ w ∈ va_wsS RX6 214 yX6_isSeed [Cond.code yX6_isSeed cX6_isSeed 1 (some .boolean)], w ∈ xbig := xq_4 xb_576 xb_577 xb_394 xb_574
theorem gw_X6_217 : ∀ w ∈ wsV RX6 217 RX6 yX6_yearOf [Cond.code yX6_yearOf cX6_yearOf 5 (some .int)], w ∈ xbig := xq_5 xb_578 xb_579 xb_580 xb_394 xb_573
end
section
/-! WalkingLaw$Road.parishAt(I)I -/
theorem dX1_parishAt_0 : decode cX1_parishAt 0 = .ok (.aload_n 0, 1) := by decide +kernel
theorem dX1_parishAt_1 : decode cX1_parishAt 1 = .ok (.getfield 39, 3) := by decide +kernel
theorem dX1_parishAt_4 : decode cX1_parishAt 4 = .ok (.iconst 1, 1) := by decide +kernel
theorem dX1_parishAt_5 : decode cX1_parishAt 5 = .ok (.isub, 1) := by decide +kernel
theorem dX1_parishAt_6 : decode cX1_parishAt 6 = .ok (.istore_n 2, 1) := by decide +kernel
theorem dX1_parishAt_7 : decode cX1_parishAt 7 = .ok (.iload_n 2, 1) := by decide +kernel
theorem dX1_parishAt_8 : decode cX1_parishAt 8 = .ok (.ifCond .le 21, 3) := by decide +kernel
theorem dX1_parishAt_11 : decode cX1_parishAt 11 = .ok (.iload_n 1, 1) := by decide +kernel
theorem dX1_parishAt_12 : decode cX1_parishAt 12 = .ok (.aload_n 0, 1) := by decide +kernel
theorem dX1_parishAt_13 : decode cX1_parishAt 13 = .ok (.getfield 21, 3) := by decide +kernel
theorem dX1_parishAt_16 : decode cX1_parishAt 16 = .ok (.iload_n 2, 1) := by decide +kernel
theorem dX1_parishAt_17 : decode cX1_parishAt 17 = .ok (.iaload, 1) := by decide +kernel
theorem dX1_parishAt_18 : decode cX1_parishAt 18 = .ok (.if_icmp .lt 5, 3) := by decide +kernel
theorem dX1_parishAt_21 : decode cX1_parishAt 21 = .ok (.iload_n 2, 1) := by decide +kernel
theorem dX1_parishAt_22 : decode cX1_parishAt 22 = .ok (.ireturn, 1) := by decide +kernel
theorem dX1_parishAt_23 : decode cX1_parishAt 23 = .ok (.iinc 2 (-1), 3) := by decide +kernel
theorem dX1_parishAt_26 : decode cX1_parishAt 26 = .ok (.goto (-19), 3) := by decide +kernel
theorem dX1_parishAt_29 : decode cX1_parishAt 29 = .ok (.iconst 0, 1) := by decide +kernel
theorem dX1_parishAt_30 : decode cX1_parishAt 30 = .ok (.ireturn, 1) := by decide +kernel
def rmX1_parishAt : Room := { frames := 0, cells := 0, slots := 0, locals := 0 }
def fX1_parishAt_7 (w : Nat) (x1 : Int32) (M : xm) : Nat → Int32 → Option (Int32)
  | 0, _ => none
  | n + 1, x2 => (if x2 ≤ 0 then (some 0) else xchk x2 6 ((if x1 < (M.1 (w + 4) x2.toNatClampNeg) then (fX1_parishAt_7 w x1 M n (x2 + (-1))) else (some x2))))
def fX1_parishAt (w : Nat) (x1 : Int32) (M : xm) : Option (Int32) := xl ((M.1 w 0) - 1) (fun v1 => (fX1_parishAt_7 w x1 M xfuel v1))
section
variable {p : Program} {l : Launch} {e : Env} {s : State} {m : MethodId} {args : Array Value} {below : List Frame} {meth : Method} {c : Code} {D : va_G} {cs : Nat → ClassId} {S : List Nat} {ad : Nat → Nat} {w : Nat}
theorem bX1_parishAt_7 (Z : CX p s m args meth c cX1_parishAt 3 RX1 (some .int) D cs (xA S ad) S ad) (hw : xRoad S w) (x1 : Int32) (M : xm) : ∀ (n : Nat) (x2 : Int32), XJ p l e rmX1_parishAt s m args below meth c D cs (xA S ad) S ad 3 (XRr below args s D cs S ad M) 7 [(0, .ref (ad w)), (1, .int x1), (2, .int x2)] [] M (fX1_parishAt_7 w x1 M n x2) := by
  intro n
  induction n with
  | zero => intros; exact xj_none
  | succ n ih =>
    intro x2
    rw [fX1_parishAt_7]
    refine xj_iload_n Z 2 dX1_parishAt_7 rfl rfl ?_
    refine xj_if_le Z 29 dX1_parishAt_8 (by decide) (fun _ => ?_) (fun _ => ?_)
    · refine xj_iconst Z 0 dX1_parishAt_29 (by decide) ?_
      exact xj_ret_r Z dX1_parishAt_30
    · refine xj_iload_n Z 1 dX1_parishAt_11 rfl rfl ?_
      refine xj_aload_n Z 0 dX1_parishAt_12 rfl rfl ?_
      refine xg_X1_21 Z (hw.mem 0 (by decide)) hw.lay dX1_parishAt_13 ?_
      refine xj_iload_n Z 2 dX1_parishAt_16 rfl rfl ?_
      refine xj_iald Z (hw.mem 4 (by decide)) hw.lay4 dX1_parishAt_17 (fun _ => ?_)
      refine xj_icmp_lt Z 23 dX1_parishAt_18 (by decide) (fun _ => ?_) (fun _ => ?_)
      · refine xj_iinc Z 2 (x2 + (-1)) (lv' := [(2, .int (x2 + (-1))), (0, .ref (ad w)), (1, .int x1)]) dX1_parishAt_23 rfl rfl (by decide) rfl ?_
        refine xj_goto Z 7 dX1_parishAt_26 (by decide) ?_
        refine xj_sub [1, 2, 0] (lv' := [(0, .ref (ad w)), (1, .int x1), (2, .int (x2 + (-1)))]) rfl ?_
        exact ih (x2 + (-1))
      · refine xj_iload_n Z 2 dX1_parishAt_21 rfl rfl ?_
        exact xj_ret_r Z dX1_parishAt_22
end
theorem kX1_parishAt (l : Launch) (D : va_G) (cs : Nat → ClassId) (S : List Nat) (ad : Nat → Nat) (hd : xdist S ad) {w : Nat} (hw : xRoad S w) (x1 : Int32) (M : xm) : ∀ r, fX1_parishAt w x1 M = some r → Met l yX1_parishAt [Cond.code yX1_parishAt cX1_parishAt 3 (some .int)] rmX1_parishAt (XPc D cs S ad [.ref (ad w), .int x1] M) (XQi D cs S ad r M) 0 0 (xA S ad) := by
  refine xm_r (own := RX1) (lv := [(0, .ref (ad w)), (1, .int x1)]) (by decide +kernel) rfl rfl (Nat.le_of_ble_eq_true rfl) hd (fun p e s m args below meth c Z => ?_)
  unfold fX1_parishAt
  refine xj_aload_n Z 0 dX1_parishAt_0 rfl rfl ?_
  refine xg_X1_39 Z (hw.mem 0 (by decide)) hw.lay dX1_parishAt_1 ?_
  refine xj_iconst Z 1 dX1_parishAt_4 (by decide) ?_
  refine xj_isub Z dX1_parishAt_5 ?_
  refine xj_top (fun v1 => ?_)
  refine xj_istore_n Z (lv' := [(2, .int v1), (0, .ref (ad w)), (1, .int x1)]) dX1_parishAt_6 rfl (by decide) rfl ?_
  refine xj_sub [1, 2, 0] (lv' := [(0, .ref (ad w)), (1, .int x1), (2, .int v1)]) rfl ?_
  exact bX1_parishAt_7 Z hw x1 M xfuel v1
/-! WalkingLaw$Road.strideFrom(II)I -/
theorem dX1_strideFrom_0 : decode cX1_strideFrom 0 = .ok (.aload_n 0, 1) := by decide +kernel
theorem dX1_strideFrom_1 : decode cX1_strideFrom 1 = .ok (.getfield 24, 3) := by decide +kernel
theorem dX1_strideFrom_4 : decode cX1_strideFrom 4 = .ok (.iload_n 2, 1) := by decide +kernel
theorem dX1_strideFrom_5 : decode cX1_strideFrom 5 = .ok (.iaload, 1) := by decide +kernel
theorem dX1_strideFrom_6 : decode cX1_strideFrom 6 = .ok (.lookupswitch 60 #[(1, 26), (2, 28)], 26) := by decide +kernel
theorem dX1_strideFrom_32 : decode cX1_strideFrom 32 = .ok (.iconst 4, 1) := by decide +kernel
theorem dX1_strideFrom_33 : decode cX1_strideFrom 33 = .ok (.ireturn, 1) := by decide +kernel
theorem dX1_strideFrom_34 : decode cX1_strideFrom 34 = .ok (.aload_n 0, 1) := by decide +kernel
theorem dX1_strideFrom_35 : decode cX1_strideFrom 35 = .ok (.getfield 15, 3) := by decide +kernel
theorem dX1_strideFrom_38 : decode cX1_strideFrom 38 = .ok (.aload_n 0, 1) := by decide +kernel
theorem dX1_strideFrom_39 : decode cX1_strideFrom 39 = .ok (.iload_n 1, 1) := by decide +kernel
theorem dX1_strideFrom_40 : decode cX1_strideFrom 40 = .ok (.invokevirtual 55, 3) := by decide +kernel
theorem dX1_strideFrom_43 : decode cX1_strideFrom 43 = .ok (.iaload, 1) := by decide +kernel
theorem dX1_strideFrom_44 : decode cX1_strideFrom 44 = .ok (.iconst 1, 1) := by decide +kernel
theorem dX1_strideFrom_45 : decode cX1_strideFrom 45 = .ok (.if_icmp .ne 14, 3) := by decide +kernel
theorem dX1_strideFrom_48 : decode cX1_strideFrom 48 = .ok (.aload_n 0, 1) := by decide +kernel
theorem dX1_strideFrom_49 : decode cX1_strideFrom 49 = .ok (.getfield 27, 3) := by decide +kernel
theorem dX1_strideFrom_52 : decode cX1_strideFrom 52 = .ok (.iload_n 2, 1) := by decide +kernel
theorem dX1_strideFrom_53 : decode cX1_strideFrom 53 = .ok (.iaload, 1) := by decide +kernel
theorem dX1_strideFrom_54 : decode cX1_strideFrom 54 = .ok (.iconst 2, 1) := by decide +kernel
theorem dX1_strideFrom_55 : decode cX1_strideFrom 55 = .ok (.idiv, 1) := by decide +kernel
theorem dX1_strideFrom_56 : decode cX1_strideFrom 56 = .ok (.goto 9, 3) := by decide +kernel
theorem dX1_strideFrom_59 : decode cX1_strideFrom 59 = .ok (.aload_n 0, 1) := by decide +kernel
theorem dX1_strideFrom_60 : decode cX1_strideFrom 60 = .ok (.getfield 27, 3) := by decide +kernel
theorem dX1_strideFrom_63 : decode cX1_strideFrom 63 = .ok (.iload_n 2, 1) := by decide +kernel
theorem dX1_strideFrom_64 : decode cX1_strideFrom 64 = .ok (.iaload, 1) := by decide +kernel
theorem dX1_strideFrom_65 : decode cX1_strideFrom 65 = .ok (.ireturn, 1) := by decide +kernel
theorem dX1_strideFrom_66 : decode cX1_strideFrom 66 = .ok (.aload_n 0, 1) := by decide +kernel
theorem dX1_strideFrom_67 : decode cX1_strideFrom 67 = .ok (.getfield 27, 3) := by decide +kernel
theorem dX1_strideFrom_70 : decode cX1_strideFrom 70 = .ok (.iload_n 2, 1) := by decide +kernel
theorem dX1_strideFrom_71 : decode cX1_strideFrom 71 = .ok (.iaload, 1) := by decide +kernel
theorem dX1_strideFrom_72 : decode cX1_strideFrom 72 = .ok (.ireturn, 1) := by decide +kernel
def rmX1_strideFrom : Room := { frames := 1, cells := 0, slots := 0, locals := 22 }
def fX1_strideFrom_65 (w : Nat) (t0 : Int32) (M : xm) : Option (Int32) := (some t0)
def fX1_strideFrom (w : Nat) (x1 : Int32) (x2 : Int32) (M : xm) : Option (Int32) := xchk x2 8 ((if (M.1 (w + 5) x2.toNatClampNeg) = 1 then (some 4) else if (M.1 (w + 5) x2.toNatClampNeg) = 2 then (fX1_parishAt w x1 M).bind (fun v1 => xchk v1 6 ((if (M.1 (w + 2) v1.toNatClampNeg) = 1 then xchk x2 8 ((fX1_strideFrom_65 w ((M.1 (w + 6) x2.toNatClampNeg) / 2) M)) else xchk x2 8 ((fX1_strideFrom_65 w (M.1 (w + 6) x2.toNatClampNeg) M))))) else xchk x2 8 ((some (M.1 (w + 6) x2.toNatClampNeg)))))
section
variable {p : Program} {l : Launch} {e : Env} {s : State} {m : MethodId} {args : Array Value} {below : List Frame} {meth : Method} {c : Code} {D : va_G} {cs : Nat → ClassId} {S : List Nat} {ad : Nat → Nat} {w : Nat}
theorem bX1_strideFrom_65 (Z : CX p s m args meth c cX1_strideFrom 3 RX1 (some .int) D cs (xA S ad) S ad) (hw : xRoad S w) (t0 : Int32) (M : xm) : XJ p l e rmX1_strideFrom s m args below meth c D cs (xA S ad) S ad 3 (XRr below args s D cs S ad M) 65 [] [.int t0] M (fX1_strideFrom_65 w t0 M) := by
  unfold fX1_strideFrom_65
  exact xj_ret_r Z dX1_strideFrom_65
end
theorem kX1_strideFrom (l : Launch) (D : va_G) (cs : Nat → ClassId) (S : List Nat) (ad : Nat → Nat) (hd : xdist S ad) {w : Nat} (hw : xRoad S w) (x1 : Int32) (x2 : Int32) (M : xm) : ∀ r, fX1_strideFrom w x1 x2 M = some r → Met l yX1_strideFrom [Cond.code yX1_strideFrom cX1_strideFrom 3 (some .int)] rmX1_strideFrom (XPc D cs S ad [.ref (ad w), .int x1, .int x2] M) (XQi D cs S ad r M) 0 0 (xA S ad) := by
  refine xm_r (own := RX1) (lv := [(0, .ref (ad w)), (1, .int x1), (2, .int x2)]) (by decide +kernel) rfl rfl (Nat.le_of_ble_eq_true rfl) hd (fun p e s m args below meth c Z => ?_)
  unfold fX1_strideFrom
  refine xj_aload_n Z 0 dX1_strideFrom_0 rfl rfl ?_
  refine xg_X1_24 Z (hw.mem 0 (by decide)) hw.lay dX1_strideFrom_1 ?_
  refine xj_iload_n Z 2 dX1_strideFrom_4 rfl rfl ?_
  refine xj_iald Z (hw.mem 5 (by decide)) hw.lay5 dX1_strideFrom_5 (fun _ => ?_)
  refine xj_ite (fun h => ?_) (fun h0 => ?_)
  · refine xj_look (off := 26) Z 32 dX1_strideFrom_6 (by decide) (by rw [h]; decide) (by decide) ?_
    refine xj_iconst Z 4 dX1_strideFrom_32 (by decide) ?_
    exact xj_ret_r Z dX1_strideFrom_33
  refine xj_ite (fun h => ?_) (fun h1 => ?_)
  · refine xj_look (off := 28) Z 34 dX1_strideFrom_6 (by decide) (by rw [h]; decide) (by decide) ?_
    refine xj_aload_n Z 0 dX1_strideFrom_34 rfl rfl ?_
    refine xg_X1_15 Z (hw.mem 0 (by decide)) hw.lay dX1_strideFrom_35 ?_
    refine xj_aload_n Z 0 dX1_strideFrom_38 rfl rfl ?_
    refine xj_iload_n Z 1 dX1_strideFrom_39 rfl rfl ?_
    refine xj_callVr Z (As := [.int x1]) (kX1_parishAt l D cs S ad Z.2.2.2.2.2.1.dist hw x1 M) gw_X1_55 (hw.mem 0 (by decide)) hw.lay rfl (n := 1) (by decide +kernel) rfl ⟨rfl, rfl⟩ (by decide) rfl (Nat.le_of_ble_eq_true rfl) dX1_strideFrom_40 (fun v1 => ?_)
    refine xj_iald Z (hw.mem 2 (by decide)) hw.lay2 dX1_strideFrom_43 (fun _ => ?_)
    refine xj_iconst Z 1 dX1_strideFrom_44 (by decide) ?_
    refine xj_icmp_ne Z 59 dX1_strideFrom_45 (by decide) (fun _ => ?_) (fun _ => ?_)
    · refine xj_aload_n Z 0 dX1_strideFrom_59 rfl rfl ?_
      refine xg_X1_27 Z (hw.mem 0 (by decide)) hw.lay dX1_strideFrom_60 ?_
      refine xj_iload_n Z 2 dX1_strideFrom_63 rfl rfl ?_
      refine xj_iald Z (hw.mem 6 (by decide)) hw.lay6 dX1_strideFrom_64 (fun _ => ?_)
      refine xj_sub [] (lv' := []) rfl ?_
      exact bX1_strideFrom_65 Z hw (M.1 (w + 6) x2.toNatClampNeg) M
    · refine xj_aload_n Z 0 dX1_strideFrom_48 rfl rfl ?_
      refine xg_X1_27 Z (hw.mem 0 (by decide)) hw.lay dX1_strideFrom_49 ?_
      refine xj_iload_n Z 2 dX1_strideFrom_52 rfl rfl ?_
      refine xj_iald Z (hw.mem 6 (by decide)) hw.lay6 dX1_strideFrom_53 (fun _ => ?_)
      refine xj_iconst Z 2 dX1_strideFrom_54 (by decide) ?_
      refine xj_idiv Z dX1_strideFrom_55 (by decide) ?_
      refine xj_goto Z 65 dX1_strideFrom_56 (by decide) ?_
      refine xj_sub [] (lv' := []) rfl ?_
      exact bX1_strideFrom_65 Z hw ((M.1 (w + 6) x2.toNatClampNeg) / 2) M
  refine xj_look (off := 60) Z 66 dX1_strideFrom_6 (by decide) (by simp [Op.lookupswitch.offset, Ne.symm (xti (n := 1) _ (by decide) h0), Ne.symm (xti (n := 2) _ (by decide) h1)]) (by decide) ?_
  refine xj_aload_n Z 0 dX1_strideFrom_66 rfl rfl ?_
  refine xg_X1_27 Z (hw.mem 0 (by decide)) hw.lay dX1_strideFrom_67 ?_
  refine xj_iload_n Z 2 dX1_strideFrom_70 rfl rfl ?_
  refine xj_iald Z (hw.mem 6 (by decide)) hw.lay6 dX1_strideFrom_71 (fun _ => ?_)
  exact xj_ret_r Z dX1_strideFrom_72
/-! java/lang/Integer.bitCount(I)I -/
theorem dJ6_bitCount_0f7a4_0 : decode cJ6_bitCount_0f7a4 0 = .ok (.iload_n 0, 1) := by decide +kernel
theorem dJ6_bitCount_0f7a4_1 : decode cJ6_bitCount_0f7a4 1 = .ok (.iload_n 0, 1) := by decide +kernel
theorem dJ6_bitCount_0f7a4_2 : decode cJ6_bitCount_0f7a4 2 = .ok (.iconst 1, 1) := by decide +kernel
theorem dJ6_bitCount_0f7a4_3 : decode cJ6_bitCount_0f7a4 3 = .ok (.iushr, 1) := by decide +kernel
theorem dJ6_bitCount_0f7a4_4 : decode cJ6_bitCount_0f7a4 4 = .ok (.ldc_w 265, 3) := by decide +kernel
theorem dJ6_bitCount_0f7a4_7 : decode cJ6_bitCount_0f7a4 7 = .ok (.iand, 1) := by decide +kernel
theorem dJ6_bitCount_0f7a4_8 : decode cJ6_bitCount_0f7a4 8 = .ok (.isub, 1) := by decide +kernel
theorem dJ6_bitCount_0f7a4_9 : decode cJ6_bitCount_0f7a4 9 = .ok (.istore_n 0, 1) := by decide +kernel
theorem dJ6_bitCount_0f7a4_10 : decode cJ6_bitCount_0f7a4 10 = .ok (.iload_n 0, 1) := by decide +kernel
theorem dJ6_bitCount_0f7a4_11 : decode cJ6_bitCount_0f7a4 11 = .ok (.ldc_w 266, 3) := by decide +kernel
theorem dJ6_bitCount_0f7a4_14 : decode cJ6_bitCount_0f7a4 14 = .ok (.iand, 1) := by decide +kernel
theorem dJ6_bitCount_0f7a4_15 : decode cJ6_bitCount_0f7a4 15 = .ok (.iload_n 0, 1) := by decide +kernel
theorem dJ6_bitCount_0f7a4_16 : decode cJ6_bitCount_0f7a4 16 = .ok (.iconst 2, 1) := by decide +kernel
theorem dJ6_bitCount_0f7a4_17 : decode cJ6_bitCount_0f7a4 17 = .ok (.iushr, 1) := by decide +kernel
theorem dJ6_bitCount_0f7a4_18 : decode cJ6_bitCount_0f7a4 18 = .ok (.ldc_w 266, 3) := by decide +kernel
theorem dJ6_bitCount_0f7a4_21 : decode cJ6_bitCount_0f7a4 21 = .ok (.iand, 1) := by decide +kernel
theorem dJ6_bitCount_0f7a4_22 : decode cJ6_bitCount_0f7a4 22 = .ok (.iadd, 1) := by decide +kernel
theorem dJ6_bitCount_0f7a4_23 : decode cJ6_bitCount_0f7a4 23 = .ok (.istore_n 0, 1) := by decide +kernel
theorem dJ6_bitCount_0f7a4_24 : decode cJ6_bitCount_0f7a4 24 = .ok (.iload_n 0, 1) := by decide +kernel
theorem dJ6_bitCount_0f7a4_25 : decode cJ6_bitCount_0f7a4 25 = .ok (.iload_n 0, 1) := by decide +kernel
theorem dJ6_bitCount_0f7a4_26 : decode cJ6_bitCount_0f7a4 26 = .ok (.iconst 4, 1) := by decide +kernel
theorem dJ6_bitCount_0f7a4_27 : decode cJ6_bitCount_0f7a4 27 = .ok (.iushr, 1) := by decide +kernel
theorem dJ6_bitCount_0f7a4_28 : decode cJ6_bitCount_0f7a4 28 = .ok (.iadd, 1) := by decide +kernel
theorem dJ6_bitCount_0f7a4_29 : decode cJ6_bitCount_0f7a4 29 = .ok (.ldc_w 267, 3) := by decide +kernel
theorem dJ6_bitCount_0f7a4_32 : decode cJ6_bitCount_0f7a4 32 = .ok (.iand, 1) := by decide +kernel
theorem dJ6_bitCount_0f7a4_33 : decode cJ6_bitCount_0f7a4 33 = .ok (.istore_n 0, 1) := by decide +kernel
theorem dJ6_bitCount_0f7a4_34 : decode cJ6_bitCount_0f7a4 34 = .ok (.iload_n 0, 1) := by decide +kernel
theorem dJ6_bitCount_0f7a4_35 : decode cJ6_bitCount_0f7a4 35 = .ok (.iload_n 0, 1) := by decide +kernel
theorem dJ6_bitCount_0f7a4_36 : decode cJ6_bitCount_0f7a4 36 = .ok (.bipush 8, 2) := by decide +kernel
theorem dJ6_bitCount_0f7a4_38 : decode cJ6_bitCount_0f7a4 38 = .ok (.iushr, 1) := by decide +kernel
theorem dJ6_bitCount_0f7a4_39 : decode cJ6_bitCount_0f7a4 39 = .ok (.iadd, 1) := by decide +kernel
theorem dJ6_bitCount_0f7a4_40 : decode cJ6_bitCount_0f7a4 40 = .ok (.istore_n 0, 1) := by decide +kernel
theorem dJ6_bitCount_0f7a4_41 : decode cJ6_bitCount_0f7a4 41 = .ok (.iload_n 0, 1) := by decide +kernel
theorem dJ6_bitCount_0f7a4_42 : decode cJ6_bitCount_0f7a4 42 = .ok (.iload_n 0, 1) := by decide +kernel
theorem dJ6_bitCount_0f7a4_43 : decode cJ6_bitCount_0f7a4 43 = .ok (.bipush 16, 2) := by decide +kernel
theorem dJ6_bitCount_0f7a4_45 : decode cJ6_bitCount_0f7a4 45 = .ok (.iushr, 1) := by decide +kernel
theorem dJ6_bitCount_0f7a4_46 : decode cJ6_bitCount_0f7a4 46 = .ok (.iadd, 1) := by decide +kernel
theorem dJ6_bitCount_0f7a4_47 : decode cJ6_bitCount_0f7a4 47 = .ok (.istore_n 0, 1) := by decide +kernel
theorem dJ6_bitCount_0f7a4_48 : decode cJ6_bitCount_0f7a4 48 = .ok (.iload_n 0, 1) := by decide +kernel
theorem dJ6_bitCount_0f7a4_49 : decode cJ6_bitCount_0f7a4 49 = .ok (.bipush 63, 2) := by decide +kernel
theorem dJ6_bitCount_0f7a4_51 : decode cJ6_bitCount_0f7a4 51 = .ok (.iand, 1) := by decide +kernel
theorem dJ6_bitCount_0f7a4_52 : decode cJ6_bitCount_0f7a4 52 = .ok (.ireturn, 1) := by decide +kernel
def rmJ6_bitCount_0f7a4 : Room := { frames := 0, cells := 0, slots := 0, locals := 0 }
def fJ6_bitCount_0f7a4 (x0 : Int32) (M : xm) : Option (Int32) := xl (x0 - (((x0.toUInt32 >>> ((1 : Int32).toUInt32 &&& Int32.toUInt32 31)).toInt32) &&& 1431655765)) (fun v1 => xl ((v1 &&& 858993459) + (((v1.toUInt32 >>> ((2 : Int32).toUInt32 &&& Int32.toUInt32 31)).toInt32) &&& 858993459)) (fun v2 => xl ((v2 + ((v2.toUInt32 >>> ((4 : Int32).toUInt32 &&& Int32.toUInt32 31)).toInt32)) &&& 252645135) (fun v3 => xl (v3 + ((v3.toUInt32 >>> ((8 : Int32).toUInt32 &&& Int32.toUInt32 31)).toInt32)) (fun v4 => xl (v4 + ((v4.toUInt32 >>> ((16 : Int32).toUInt32 &&& Int32.toUInt32 31)).toInt32)) (fun v5 => (some (v5 &&& 63)))))))
section
variable {p : Program} {l : Launch} {e : Env} {s : State} {m : MethodId} {args : Array Value} {below : List Frame} {meth : Method} {c : Code} {D : va_G} {cs : Nat → ClassId} {S : List Nat} {ad : Nat → Nat}
end
theorem kJ6_bitCount_0f7a4 (l : Launch) (D : va_G) (cs : Nat → ClassId) (S : List Nat) (ad : Nat → Nat) (hd : xdist S ad) (x0 : Int32) (M : xm) : ∀ r, fJ6_bitCount_0f7a4 x0 M = some r → Met l yJ6_bitCount_0f7a4 [Cond.code yJ6_bitCount_0f7a4 cJ6_bitCount_0f7a4 1 (some .int)] rmJ6_bitCount_0f7a4 (XPc D cs S ad [.int x0] M) (XQi D cs S ad r M) 0 0 (xA S ad) := by
  refine xm_r (own := RJ6) (lv := [(0, .int x0)]) (by decide +kernel) rfl rfl (Nat.le_of_ble_eq_true rfl) hd (fun p e s m args below meth c Z => ?_)
  unfold fJ6_bitCount_0f7a4
  refine xj_iload_n Z 0 dJ6_bitCount_0f7a4_0 rfl rfl ?_
  refine xj_iload_n Z 0 dJ6_bitCount_0f7a4_1 rfl rfl ?_
  refine xj_iconst Z 1 dJ6_bitCount_0f7a4_2 (by decide) ?_
  refine xj_iushr Z dJ6_bitCount_0f7a4_3 ?_
  refine xj_ldcw Z dJ6_bitCount_0f7a4_4 xb_32 ?_
  refine xj_iand Z dJ6_bitCount_0f7a4_7 ?_
  refine xj_isub Z dJ6_bitCount_0f7a4_8 ?_
  refine xj_top (fun v1 => ?_)
  refine xj_istore_n Z (lv' := [(0, .int v1)]) dJ6_bitCount_0f7a4_9 rfl (by decide) rfl ?_
  refine xj_iload_n Z 0 dJ6_bitCount_0f7a4_10 rfl rfl ?_
  refine xj_ldcw Z dJ6_bitCount_0f7a4_11 xb_33 ?_
  refine xj_iand Z dJ6_bitCount_0f7a4_14 ?_
  refine xj_iload_n Z 0 dJ6_bitCount_0f7a4_15 rfl rfl ?_
  refine xj_iconst Z 2 dJ6_bitCount_0f7a4_16 (by decide) ?_
  refine xj_iushr Z dJ6_bitCount_0f7a4_17 ?_
  refine xj_ldcw Z dJ6_bitCount_0f7a4_18 xb_33 ?_
  refine xj_iand Z dJ6_bitCount_0f7a4_21 ?_
  refine xj_iadd Z dJ6_bitCount_0f7a4_22 ?_
  refine xj_top (fun v2 => ?_)
  refine xj_istore_n Z (lv' := [(0, .int v2)]) dJ6_bitCount_0f7a4_23 rfl (by decide) rfl ?_
  refine xj_iload_n Z 0 dJ6_bitCount_0f7a4_24 rfl rfl ?_
  refine xj_iload_n Z 0 dJ6_bitCount_0f7a4_25 rfl rfl ?_
  refine xj_iconst Z 4 dJ6_bitCount_0f7a4_26 (by decide) ?_
  refine xj_iushr Z dJ6_bitCount_0f7a4_27 ?_
  refine xj_iadd Z dJ6_bitCount_0f7a4_28 ?_
  refine xj_ldcw Z dJ6_bitCount_0f7a4_29 xb_34 ?_
  refine xj_iand Z dJ6_bitCount_0f7a4_32 ?_
  refine xj_top (fun v3 => ?_)
  refine xj_istore_n Z (lv' := [(0, .int v3)]) dJ6_bitCount_0f7a4_33 rfl (by decide) rfl ?_
  refine xj_iload_n Z 0 dJ6_bitCount_0f7a4_34 rfl rfl ?_
  refine xj_iload_n Z 0 dJ6_bitCount_0f7a4_35 rfl rfl ?_
  refine xj_bipush Z 8 dJ6_bitCount_0f7a4_36 (by decide) ?_
  refine xj_iushr Z dJ6_bitCount_0f7a4_38 ?_
  refine xj_iadd Z dJ6_bitCount_0f7a4_39 ?_
  refine xj_top (fun v4 => ?_)
  refine xj_istore_n Z (lv' := [(0, .int v4)]) dJ6_bitCount_0f7a4_40 rfl (by decide) rfl ?_
  refine xj_iload_n Z 0 dJ6_bitCount_0f7a4_41 rfl rfl ?_
  refine xj_iload_n Z 0 dJ6_bitCount_0f7a4_42 rfl rfl ?_
  refine xj_bipush Z 16 dJ6_bitCount_0f7a4_43 (by decide) ?_
  refine xj_iushr Z dJ6_bitCount_0f7a4_45 ?_
  refine xj_iadd Z dJ6_bitCount_0f7a4_46 ?_
  refine xj_top (fun v5 => ?_)
  refine xj_istore_n Z (lv' := [(0, .int v5)]) dJ6_bitCount_0f7a4_47 rfl (by decide) rfl ?_
  refine xj_iload_n Z 0 dJ6_bitCount_0f7a4_48 rfl rfl ?_
  refine xj_bipush Z 63 dJ6_bitCount_0f7a4_49 (by decide) ?_
  refine xj_iand Z dJ6_bitCount_0f7a4_51 ?_
  exact xj_ret_r Z dJ6_bitCount_0f7a4_52
/-! WalkingLaw.lowestOf(I)I -/
theorem dX5_lowestOf_0 : decode cX5_lowestOf 0 = .ok (.iload_n 0, 1) := by decide +kernel
theorem dX5_lowestOf_1 : decode cX5_lowestOf 1 = .ok (.iload_n 0, 1) := by decide +kernel
theorem dX5_lowestOf_2 : decode cX5_lowestOf 2 = .ok (.ineg, 1) := by decide +kernel
theorem dX5_lowestOf_3 : decode cX5_lowestOf 3 = .ok (.iand, 1) := by decide +kernel
theorem dX5_lowestOf_4 : decode cX5_lowestOf 4 = .ok (.ireturn, 1) := by decide +kernel
def rmX5_lowestOf : Room := { frames := 0, cells := 0, slots := 0, locals := 0 }
def fX5_lowestOf (x0 : Int32) (M : xm) : Option (Int32) := (some (x0 &&& (-x0)))
section
variable {p : Program} {l : Launch} {e : Env} {s : State} {m : MethodId} {args : Array Value} {below : List Frame} {meth : Method} {c : Code} {D : va_G} {cs : Nat → ClassId} {S : List Nat} {ad : Nat → Nat}
end
theorem kX5_lowestOf (l : Launch) (D : va_G) (cs : Nat → ClassId) (S : List Nat) (ad : Nat → Nat) (hd : xdist S ad) (x0 : Int32) (M : xm) : ∀ r, fX5_lowestOf x0 M = some r → Met l yX5_lowestOf [Cond.code yX5_lowestOf cX5_lowestOf 1 (some .int)] rmX5_lowestOf (XPc D cs S ad [.int x0] M) (XQi D cs S ad r M) 0 0 (xA S ad) := by
  refine xm_r (own := RX5) (lv := [(0, .int x0)]) (by decide +kernel) rfl rfl (Nat.le_of_ble_eq_true rfl) hd (fun p e s m args below meth c Z => ?_)
  unfold fX5_lowestOf
  refine xj_iload_n Z 0 dX5_lowestOf_0 rfl rfl ?_
  refine xj_iload_n Z 0 dX5_lowestOf_1 rfl rfl ?_
  refine xj_ineg Z dX5_lowestOf_2 ?_
  refine xj_iand Z dX5_lowestOf_3 ?_
  exact xj_ret_r Z dX5_lowestOf_4
/-! WalkingLaw$Road.clear()V -/
theorem dX1_clear_0 : decode cX1_clear 0 = .ok (.aload_n 0, 1) := by decide +kernel
theorem dX1_clear_1 : decode cX1_clear 1 = .ok (.iconst 0, 1) := by decide +kernel
theorem dX1_clear_2 : decode cX1_clear 2 = .ok (.putfield 39, 3) := by decide +kernel
theorem dX1_clear_5 : decode cX1_clear 5 = .ok (.aload_n 0, 1) := by decide +kernel
theorem dX1_clear_6 : decode cX1_clear 6 = .ok (.iconst 0, 1) := by decide +kernel
theorem dX1_clear_7 : decode cX1_clear 7 = .ok (.putfield 43, 3) := by decide +kernel
theorem dX1_clear_10 : decode cX1_clear 10 = .ok (.aload_n 0, 1) := by decide +kernel
theorem dX1_clear_11 : decode cX1_clear 11 = .ok (.iconst 0, 1) := by decide +kernel
theorem dX1_clear_12 : decode cX1_clear 12 = .ok (.putfield 46, 3) := by decide +kernel
theorem dX1_clear_15 : decode cX1_clear 15 = .ok (.iconst 0, 1) := by decide +kernel
theorem dX1_clear_16 : decode cX1_clear 16 = .ok (.istore_n 1, 1) := by decide +kernel
theorem dX1_clear_17 : decode cX1_clear 17 = .ok (.iload_n 1, 1) := by decide +kernel
theorem dX1_clear_18 : decode cX1_clear 18 = .ok (.bipush 6, 2) := by decide +kernel
theorem dX1_clear_20 : decode cX1_clear 20 = .ok (.if_icmp .ge 16, 3) := by decide +kernel
theorem dX1_clear_23 : decode cX1_clear 23 = .ok (.aload_n 0, 1) := by decide +kernel
theorem dX1_clear_24 : decode cX1_clear 24 = .ok (.getfield 33, 3) := by decide +kernel
theorem dX1_clear_27 : decode cX1_clear 27 = .ok (.iload_n 1, 1) := by decide +kernel
theorem dX1_clear_28 : decode cX1_clear 28 = .ok (.iconst 0, 1) := by decide +kernel
theorem dX1_clear_29 : decode cX1_clear 29 = .ok (.iastore, 1) := by decide +kernel
theorem dX1_clear_30 : decode cX1_clear 30 = .ok (.iinc 1 1, 3) := by decide +kernel
theorem dX1_clear_33 : decode cX1_clear 33 = .ok (.goto (-16), 3) := by decide +kernel
theorem dX1_clear_36 : decode cX1_clear 36 = .ok (.aload_n 0, 1) := by decide +kernel
theorem dX1_clear_37 : decode cX1_clear 37 = .ok (.iconst 1, 1) := by decide +kernel
theorem dX1_clear_38 : decode cX1_clear 38 = .ok (.putfield 49, 3) := by decide +kernel
theorem dX1_clear_41 : decode cX1_clear 41 = .ok (.aload_n 0, 1) := by decide +kernel
theorem dX1_clear_42 : decode cX1_clear 42 = .ok (.iconst 4, 1) := by decide +kernel
theorem dX1_clear_43 : decode cX1_clear 43 = .ok (.putfield 52, 3) := by decide +kernel
theorem dX1_clear_46 : decode cX1_clear 46 = .ok (.return_, 1) := by decide +kernel
def rmX1_clear : Room := { frames := 0, cells := 0, slots := 0, locals := 0 }
def fX1_clear_17 (w : Nat) : Nat → Int32 → xm → Option (xm)
  | 0, _, _ => none
  | n + 1, x1, M => (if (6 : Int32) ≤ x1 then xl (up M w 11 1) (fun M1 => xl (up M1 w 12 4) (fun M2 => (some M2))) else xchk x1 6 (xl (up M (w + 8) (x1 : Int32).toNatClampNeg 0) (fun M3 => (fX1_clear_17 w n (x1 + 1) M3))))
def fX1_clear (w : Nat) (M : xm) : Option (xm) := xl (up M w 0 0) (fun M4 => xl (up M4 w 5 0) (fun M5 => xl (up M5 w 6 0) (fun M6 => (fX1_clear_17 w xfuel 0 M6))))
section
variable {p : Program} {l : Launch} {e : Env} {s : State} {m : MethodId} {args : Array Value} {below : List Frame} {meth : Method} {c : Code} {D : va_G} {cs : Nat → ClassId} {S : List Nat} {ad : Nat → Nat} {w : Nat}
theorem bX1_clear_17 (Z : CX p s m args meth c cX1_clear 2 RX1 none D cs (xA S ad) S ad) (hw : xRoad S w) : ∀ (n : Nat) (x1 : Int32) (M : xm), XJ p l e rmX1_clear s m args below meth c D cs (xA S ad) S ad 2 (XRm below args s D cs S ad) 17 [(0, .ref (ad w)), (1, .int x1)] [] M (fX1_clear_17 w n x1 M) := by
  intro n
  induction n with
  | zero => intros; exact xj_none
  | succ n ih =>
    intro x1 M
    rw [fX1_clear_17]
    refine xj_iload_n Z 1 dX1_clear_17 rfl rfl ?_
    refine xj_bipush Z 6 dX1_clear_18 (by decide) ?_
    refine xj_icmp_ge Z 36 dX1_clear_20 (by decide) (fun _ => ?_) (fun _ => ?_)
    · refine xj_aload_n Z 0 dX1_clear_36 rfl rfl ?_
      refine xj_iconst Z 1 dX1_clear_37 (by decide) ?_
      refine xp_X1_49 Z (hw.mem 0 (by decide)) hw.lay dX1_clear_38 (fun M1 _ => ?_)
      refine xj_aload_n Z 0 dX1_clear_41 rfl rfl ?_
      refine xj_iconst Z 4 dX1_clear_42 (by decide) ?_
      refine xp_X1_52 Z (hw.mem 0 (by decide)) hw.lay dX1_clear_43 (fun M2 _ => ?_)
      exact xj_vret Z dX1_clear_46
    · refine xj_aload_n Z 0 dX1_clear_23 rfl rfl ?_
      refine xg_X1_33 Z (hw.mem 0 (by decide)) hw.lay dX1_clear_24 ?_
      refine xj_iload_n Z 1 dX1_clear_27 rfl rfl ?_
      refine xj_iconst Z 0 dX1_clear_28 (by decide) ?_
      refine xj_iast Z (hw.mem 8 (by decide)) hw.lay8 dX1_clear_29 (fun M3 _ => ?_)
      refine xj_iinc Z 1 (x1 + 1) (lv' := [(1, .int (x1 + 1)), (0, .ref (ad w))]) dX1_clear_30 rfl rfl (by decide) rfl ?_
      refine xj_goto Z 17 dX1_clear_33 (by decide) ?_
      refine xj_sub [1, 0] (lv' := [(0, .ref (ad w)), (1, .int (x1 + 1))]) rfl ?_
      exact ih (x1 + 1) M3
end
theorem kX1_clear (l : Launch) (D : va_G) (cs : Nat → ClassId) (S : List Nat) (ad : Nat → Nat) (hd : xdist S ad) {w : Nat} (hw : xRoad S w) (M : xm) : ∀ r, fX1_clear w M = some r → Met l yX1_clear [Cond.code yX1_clear cX1_clear 2 none] rmX1_clear (XPc D cs S ad [.ref (ad w)] M) (XQv D cs S ad r) 0 0 (xA S ad) := by
  refine xm_m (own := RX1) (lv := [(0, .ref (ad w))]) (by decide +kernel) rfl rfl (Nat.le_of_ble_eq_true rfl) hd (fun p e s m args below meth c Z => ?_)
  unfold fX1_clear
  refine xj_aload_n Z 0 dX1_clear_0 rfl rfl ?_
  refine xj_iconst Z 0 dX1_clear_1 (by decide) ?_
  refine xp_X1_39 Z (hw.mem 0 (by decide)) hw.lay dX1_clear_2 (fun M4 _ => ?_)
  refine xj_aload_n Z 0 dX1_clear_5 rfl rfl ?_
  refine xj_iconst Z 0 dX1_clear_6 (by decide) ?_
  refine xp_X1_43 Z (hw.mem 0 (by decide)) hw.lay dX1_clear_7 (fun M5 _ => ?_)
  refine xj_aload_n Z 0 dX1_clear_10 rfl rfl ?_
  refine xj_iconst Z 0 dX1_clear_11 (by decide) ?_
  refine xp_X1_46 Z (hw.mem 0 (by decide)) hw.lay dX1_clear_12 (fun M6 _ => ?_)
  refine xj_iconst Z 0 dX1_clear_15 (by decide) ?_
  refine xj_istore_n Z (lv' := [(1, .int 0), (0, .ref (ad w))]) dX1_clear_16 rfl (by decide) rfl ?_
  refine xj_sub [1, 0] (lv' := [(0, .ref (ad w)), (1, .int 0)]) rfl ?_
  exact bX1_clear_17 Z hw xfuel 0 M6
/-! WalkingLaw$Road.addParish(III)Z -/
theorem dX1_addParish_0 : decode cX1_addParish 0 = .ok (.aload_n 0, 1) := by decide +kernel
theorem dX1_addParish_1 : decode cX1_addParish 1 = .ok (.getfield 39, 3) := by decide +kernel
theorem dX1_addParish_4 : decode cX1_addParish 4 = .ok (.bipush 6, 2) := by decide +kernel
theorem dX1_addParish_6 : decode cX1_addParish 6 = .ok (.if_icmp .ge 25, 3) := by decide +kernel
theorem dX1_addParish_9 : decode cX1_addParish 9 = .ok (.iload_n 1, 1) := by decide +kernel
theorem dX1_addParish_10 : decode cX1_addParish 10 = .ok (.iconst 1, 1) := by decide +kernel
theorem dX1_addParish_11 : decode cX1_addParish 11 = .ok (.if_icmp .lt 20, 3) := by decide +kernel
theorem dX1_addParish_14 : decode cX1_addParish 14 = .ok (.iload_n 1, 1) := by decide +kernel
theorem dX1_addParish_15 : decode cX1_addParish 15 = .ok (.bipush 30, 2) := by decide +kernel
theorem dX1_addParish_17 : decode cX1_addParish 17 = .ok (.if_icmp .gt 14, 3) := by decide +kernel
theorem dX1_addParish_20 : decode cX1_addParish 20 = .ok (.iload_n 2, 1) := by decide +kernel
theorem dX1_addParish_21 : decode cX1_addParish 21 = .ok (.iconst 1, 1) := by decide +kernel
theorem dX1_addParish_22 : decode cX1_addParish 22 = .ok (.if_icmp .gt 9, 3) := by decide +kernel
theorem dX1_addParish_25 : decode cX1_addParish 25 = .ok (.iload_n 3, 1) := by decide +kernel
theorem dX1_addParish_26 : decode cX1_addParish 26 = .ok (.bipush 40, 2) := by decide +kernel
theorem dX1_addParish_28 : decode cX1_addParish 28 = .ok (.if_icmp .le 5, 3) := by decide +kernel
theorem dX1_addParish_31 : decode cX1_addParish 31 = .ok (.iconst 0, 1) := by decide +kernel
theorem dX1_addParish_32 : decode cX1_addParish 32 = .ok (.ireturn, 1) := by decide +kernel
theorem dX1_addParish_33 : decode cX1_addParish 33 = .ok (.aload_n 0, 1) := by decide +kernel
theorem dX1_addParish_34 : decode cX1_addParish 34 = .ok (.getfield 9, 3) := by decide +kernel
theorem dX1_addParish_37 : decode cX1_addParish 37 = .ok (.aload_n 0, 1) := by decide +kernel
theorem dX1_addParish_38 : decode cX1_addParish 38 = .ok (.getfield 39, 3) := by decide +kernel
theorem dX1_addParish_41 : decode cX1_addParish 41 = .ok (.iload_n 1, 1) := by decide +kernel
theorem dX1_addParish_42 : decode cX1_addParish 42 = .ok (.iastore, 1) := by decide +kernel
theorem dX1_addParish_43 : decode cX1_addParish 43 = .ok (.aload_n 0, 1) := by decide +kernel
theorem dX1_addParish_44 : decode cX1_addParish 44 = .ok (.getfield 15, 3) := by decide +kernel
theorem dX1_addParish_47 : decode cX1_addParish 47 = .ok (.aload_n 0, 1) := by decide +kernel
theorem dX1_addParish_48 : decode cX1_addParish 48 = .ok (.getfield 39, 3) := by decide +kernel
theorem dX1_addParish_51 : decode cX1_addParish 51 = .ok (.iload_n 2, 1) := by decide +kernel
theorem dX1_addParish_52 : decode cX1_addParish 52 = .ok (.iastore, 1) := by decide +kernel
theorem dX1_addParish_53 : decode cX1_addParish 53 = .ok (.aload_n 0, 1) := by decide +kernel
theorem dX1_addParish_54 : decode cX1_addParish 54 = .ok (.getfield 18, 3) := by decide +kernel
theorem dX1_addParish_57 : decode cX1_addParish 57 = .ok (.aload_n 0, 1) := by decide +kernel
theorem dX1_addParish_58 : decode cX1_addParish 58 = .ok (.getfield 39, 3) := by decide +kernel
theorem dX1_addParish_61 : decode cX1_addParish 61 = .ok (.iload_n 3, 1) := by decide +kernel
theorem dX1_addParish_62 : decode cX1_addParish 62 = .ok (.iastore, 1) := by decide +kernel
theorem dX1_addParish_63 : decode cX1_addParish 63 = .ok (.aload_n 0, 1) := by decide +kernel
theorem dX1_addParish_64 : decode cX1_addParish 64 = .ok (.getfield 21, 3) := by decide +kernel
theorem dX1_addParish_67 : decode cX1_addParish 67 = .ok (.aload_n 0, 1) := by decide +kernel
theorem dX1_addParish_68 : decode cX1_addParish 68 = .ok (.getfield 39, 3) := by decide +kernel
theorem dX1_addParish_71 : decode cX1_addParish 71 = .ok (.aload_n 0, 1) := by decide +kernel
theorem dX1_addParish_72 : decode cX1_addParish 72 = .ok (.getfield 43, 3) := by decide +kernel
theorem dX1_addParish_75 : decode cX1_addParish 75 = .ok (.iastore, 1) := by decide +kernel
theorem dX1_addParish_76 : decode cX1_addParish 76 = .ok (.aload_n 0, 1) := by decide +kernel
theorem dX1_addParish_77 : decode cX1_addParish 77 = .ok (.dup, 1) := by decide +kernel
theorem dX1_addParish_78 : decode cX1_addParish 78 = .ok (.getfield 39, 3) := by decide +kernel
theorem dX1_addParish_81 : decode cX1_addParish 81 = .ok (.iconst 1, 1) := by decide +kernel
theorem dX1_addParish_82 : decode cX1_addParish 82 = .ok (.iadd, 1) := by decide +kernel
theorem dX1_addParish_83 : decode cX1_addParish 83 = .ok (.putfield 39, 3) := by decide +kernel
theorem dX1_addParish_86 : decode cX1_addParish 86 = .ok (.aload_n 0, 1) := by decide +kernel
theorem dX1_addParish_87 : decode cX1_addParish 87 = .ok (.dup, 1) := by decide +kernel
theorem dX1_addParish_88 : decode cX1_addParish 88 = .ok (.getfield 43, 3) := by decide +kernel
theorem dX1_addParish_91 : decode cX1_addParish 91 = .ok (.iload_n 1, 1) := by decide +kernel
theorem dX1_addParish_92 : decode cX1_addParish 92 = .ok (.iadd, 1) := by decide +kernel
theorem dX1_addParish_93 : decode cX1_addParish 93 = .ok (.putfield 43, 3) := by decide +kernel
theorem dX1_addParish_96 : decode cX1_addParish 96 = .ok (.iconst 1, 1) := by decide +kernel
theorem dX1_addParish_97 : decode cX1_addParish 97 = .ok (.ireturn, 1) := by decide +kernel
def rmX1_addParish : Room := { frames := 0, cells := 0, slots := 0, locals := 0 }
def fX1_addParish_31 (w : Nat) (M : xm) : Option (Int32 × xm) := (xbo 0 (some (0, M)))
def fX1_addParish (w : Nat) (x1 : Int32) (x2 : Int32) (x3 : Int32) (M : xm) : Option (Int32 × xm) := (if (6 : Int32) ≤ (M.1 w 0) then (fX1_addParish_31 w M) else (if x1 < 1 then (fX1_addParish_31 w M) else (if (30 : Int32) < x1 then (fX1_addParish_31 w M) else (if (1 : Int32) < x2 then (fX1_addParish_31 w M) else (if x3 ≤ 40 then xchk (M.1 w 0) 6 (xl (up M (w + 1) ((M.1 w 0) : Int32).toNatClampNeg x1) (fun M1 => xchk (M1.1 w 0) 6 (xl (up M1 (w + 2) ((M1.1 w 0) : Int32).toNatClampNeg x2) (fun M2 => xchk (M2.1 w 0) 6 (xl (up M2 (w + 3) ((M2.1 w 0) : Int32).toNatClampNeg x3) (fun M3 => xchk (M3.1 w 0) 6 (xl (up M3 (w + 4) ((M3.1 w 0) : Int32).toNatClampNeg (M3.1 w 5)) (fun M4 => xl (up M4 w 0 ((M4.1 w 0) + 1)) (fun M5 => xl (up M5 w 5 ((M5.1 w 5) + x1)) (fun M6 => (xbo 1 (some (1, M6))))))))))))) else (fX1_addParish_31 w M))))))
section
variable {p : Program} {l : Launch} {e : Env} {s : State} {m : MethodId} {args : Array Value} {below : List Frame} {meth : Method} {c : Code} {D : va_G} {cs : Nat → ClassId} {S : List Nat} {ad : Nat → Nat} {w : Nat}
theorem bX1_addParish_31 (Z : CX p s m args meth c cX1_addParish 4 RX1 (some .boolean) D cs (xA S ad) S ad) (hw : xRoad S w) (M : xm) : XJ p l e rmX1_addParish s m args below meth c D cs (xA S ad) S ad 4 (XRb below args s D cs S ad) 31 [] [] M (fX1_addParish_31 w M) := by
  unfold fX1_addParish_31
  refine xj_iconst Z 0 dX1_addParish_31 (by decide) ?_
  exact xj_zret_b Z dX1_addParish_32
end
theorem kX1_addParish (l : Launch) (D : va_G) (cs : Nat → ClassId) (S : List Nat) (ad : Nat → Nat) (hd : xdist S ad) {w : Nat} (hw : xRoad S w) (x1 : Int32) (x2 : Int32) (x3 : Int32) (M : xm) : ∀ r, fX1_addParish w x1 x2 x3 M = some r → Met l yX1_addParish [Cond.code yX1_addParish cX1_addParish 4 (some .boolean)] rmX1_addParish (XPc D cs S ad [.ref (ad w), .int x1, .int x2, .int x3] M) (XQi D cs S ad r.1 r.2) 0 0 (xA S ad) := by
  refine xm_b (own := RX1) (lv := [(0, .ref (ad w)), (1, .int x1), (2, .int x2), (3, .int x3)]) (by decide +kernel) rfl rfl (Nat.le_of_ble_eq_true rfl) hd (fun p e s m args below meth c Z => ?_)
  unfold fX1_addParish
  refine xj_aload_n Z 0 dX1_addParish_0 rfl rfl ?_
  refine xg_X1_39 Z (hw.mem 0 (by decide)) hw.lay dX1_addParish_1 ?_
  refine xj_bipush Z 6 dX1_addParish_4 (by decide) ?_
  refine xj_icmp_ge Z 31 dX1_addParish_6 (by decide) (fun _ => ?_) (fun _ => ?_)
  · refine xj_sub [] (lv' := []) rfl ?_
    exact bX1_addParish_31 Z hw M
  · refine xj_iload_n Z 1 dX1_addParish_9 rfl rfl ?_
    refine xj_iconst Z 1 dX1_addParish_10 (by decide) ?_
    refine xj_icmp_lt Z 31 dX1_addParish_11 (by decide) (fun _ => ?_) (fun _ => ?_)
    · refine xj_sub [] (lv' := []) rfl ?_
      exact bX1_addParish_31 Z hw M
    · refine xj_iload_n Z 1 dX1_addParish_14 rfl rfl ?_
      refine xj_bipush Z 30 dX1_addParish_15 (by decide) ?_
      refine xj_icmp_gt Z 31 dX1_addParish_17 (by decide) (fun _ => ?_) (fun _ => ?_)
      · refine xj_sub [] (lv' := []) rfl ?_
        exact bX1_addParish_31 Z hw M
      · refine xj_iload_n Z 2 dX1_addParish_20 rfl rfl ?_
        refine xj_iconst Z 1 dX1_addParish_21 (by decide) ?_
        refine xj_icmp_gt Z 31 dX1_addParish_22 (by decide) (fun _ => ?_) (fun _ => ?_)
        · refine xj_sub [] (lv' := []) rfl ?_
          exact bX1_addParish_31 Z hw M
        · refine xj_iload_n Z 3 dX1_addParish_25 rfl rfl ?_
          refine xj_bipush Z 40 dX1_addParish_26 (by decide) ?_
          refine xj_icmp_le Z 33 dX1_addParish_28 (by decide) (fun _ => ?_) (fun _ => ?_)
          · refine xj_aload_n Z 0 dX1_addParish_33 rfl rfl ?_
            refine xg_X1_9 Z (hw.mem 0 (by decide)) hw.lay dX1_addParish_34 ?_
            refine xj_aload_n Z 0 dX1_addParish_37 rfl rfl ?_
            refine xg_X1_39 Z (hw.mem 0 (by decide)) hw.lay dX1_addParish_38 ?_
            refine xj_iload_n Z 1 dX1_addParish_41 rfl rfl ?_
            refine xj_iast Z (hw.mem 1 (by decide)) hw.lay1 dX1_addParish_42 (fun M1 _ => ?_)
            refine xj_aload_n Z 0 dX1_addParish_43 rfl rfl ?_
            refine xg_X1_15 Z (hw.mem 0 (by decide)) hw.lay dX1_addParish_44 ?_
            refine xj_aload_n Z 0 dX1_addParish_47 rfl rfl ?_
            refine xg_X1_39 Z (hw.mem 0 (by decide)) hw.lay dX1_addParish_48 ?_
            refine xj_iload_n Z 2 dX1_addParish_51 rfl rfl ?_
            refine xj_iast Z (hw.mem 2 (by decide)) hw.lay2 dX1_addParish_52 (fun M2 _ => ?_)
            refine xj_aload_n Z 0 dX1_addParish_53 rfl rfl ?_
            refine xg_X1_18 Z (hw.mem 0 (by decide)) hw.lay dX1_addParish_54 ?_
            refine xj_aload_n Z 0 dX1_addParish_57 rfl rfl ?_
            refine xg_X1_39 Z (hw.mem 0 (by decide)) hw.lay dX1_addParish_58 ?_
            refine xj_iload_n Z 3 dX1_addParish_61 rfl rfl ?_
            refine xj_iast Z (hw.mem 3 (by decide)) hw.lay3 dX1_addParish_62 (fun M3 _ => ?_)
            refine xj_aload_n Z 0 dX1_addParish_63 rfl rfl ?_
            refine xg_X1_21 Z (hw.mem 0 (by decide)) hw.lay dX1_addParish_64 ?_
            refine xj_aload_n Z 0 dX1_addParish_67 rfl rfl ?_
            refine xg_X1_39 Z (hw.mem 0 (by decide)) hw.lay dX1_addParish_68 ?_
            refine xj_aload_n Z 0 dX1_addParish_71 rfl rfl ?_
            refine xg_X1_43 Z (hw.mem 0 (by decide)) hw.lay dX1_addParish_72 ?_
            refine xj_iast Z (hw.mem 4 (by decide)) hw.lay4 dX1_addParish_75 (fun M4 _ => ?_)
            refine xj_aload_n Z 0 dX1_addParish_76 rfl rfl ?_
            refine xj_dup Z dX1_addParish_77 rfl ?_
            refine xg_X1_39 Z (hw.mem 0 (by decide)) hw.lay dX1_addParish_78 ?_
            refine xj_iconst Z 1 dX1_addParish_81 (by decide) ?_
            refine xj_iadd Z dX1_addParish_82 ?_
            refine xp_X1_39 Z (hw.mem 0 (by decide)) hw.lay dX1_addParish_83 (fun M5 _ => ?_)
            refine xj_aload_n Z 0 dX1_addParish_86 rfl rfl ?_
            refine xj_dup Z dX1_addParish_87 rfl ?_
            refine xg_X1_43 Z (hw.mem 0 (by decide)) hw.lay dX1_addParish_88 ?_
            refine xj_iload_n Z 1 dX1_addParish_91 rfl rfl ?_
            refine xj_iadd Z dX1_addParish_92 ?_
            refine xp_X1_43 Z (hw.mem 0 (by decide)) hw.lay dX1_addParish_93 (fun M6 _ => ?_)
            refine xj_iconst Z 1 dX1_addParish_96 (by decide) ?_
            exact xj_zret_b Z dX1_addParish_97
          · refine xj_sub [] (lv' := []) rfl ?_
            exact bX1_addParish_31 Z hw M
/-! WalkingLaw$Road.addMember(III)Z -/
theorem dX1_addMember_0 : decode cX1_addMember 0 = .ok (.aload_n 0, 1) := by decide +kernel
theorem dX1_addMember_1 : decode cX1_addMember 1 = .ok (.getfield 46, 3) := by decide +kernel
theorem dX1_addMember_4 : decode cX1_addMember 4 = .ok (.bipush 8, 2) := by decide +kernel
theorem dX1_addMember_6 : decode cX1_addMember 6 = .ok (.if_icmp .ge 30, 3) := by decide +kernel
theorem dX1_addMember_9 : decode cX1_addMember 9 = .ok (.iload_n 1, 1) := by decide +kernel
theorem dX1_addMember_10 : decode cX1_addMember 10 = .ok (.ifCond .lt 26, 3) := by decide +kernel
theorem dX1_addMember_13 : decode cX1_addMember 13 = .ok (.iload_n 1, 1) := by decide +kernel
theorem dX1_addMember_14 : decode cX1_addMember 14 = .ok (.bipush 6, 2) := by decide +kernel
theorem dX1_addMember_16 : decode cX1_addMember 16 = .ok (.if_icmp .ge 20, 3) := by decide +kernel
theorem dX1_addMember_19 : decode cX1_addMember 19 = .ok (.iload_n 2, 1) := by decide +kernel
theorem dX1_addMember_20 : decode cX1_addMember 20 = .ok (.iconst 1, 1) := by decide +kernel
theorem dX1_addMember_21 : decode cX1_addMember 21 = .ok (.if_icmp .lt 15, 3) := by decide +kernel
theorem dX1_addMember_24 : decode cX1_addMember 24 = .ok (.iload_n 2, 1) := by decide +kernel
theorem dX1_addMember_25 : decode cX1_addMember 25 = .ok (.bipush 9, 2) := by decide +kernel
theorem dX1_addMember_27 : decode cX1_addMember 27 = .ok (.if_icmp .gt 9, 3) := by decide +kernel
theorem dX1_addMember_30 : decode cX1_addMember 30 = .ok (.iload_n 3, 1) := by decide +kernel
theorem dX1_addMember_31 : decode cX1_addMember 31 = .ok (.bipush 15, 2) := by decide +kernel
theorem dX1_addMember_33 : decode cX1_addMember 33 = .ok (.if_icmp .le 5, 3) := by decide +kernel
theorem dX1_addMember_36 : decode cX1_addMember 36 = .ok (.iconst 0, 1) := by decide +kernel
theorem dX1_addMember_37 : decode cX1_addMember 37 = .ok (.ireturn, 1) := by decide +kernel
theorem dX1_addMember_38 : decode cX1_addMember 38 = .ok (.aload_n 0, 1) := by decide +kernel
theorem dX1_addMember_39 : decode cX1_addMember 39 = .ok (.getfield 24, 3) := by decide +kernel
theorem dX1_addMember_42 : decode cX1_addMember 42 = .ok (.aload_n 0, 1) := by decide +kernel
theorem dX1_addMember_43 : decode cX1_addMember 43 = .ok (.getfield 46, 3) := by decide +kernel
theorem dX1_addMember_46 : decode cX1_addMember 46 = .ok (.iload_n 1, 1) := by decide +kernel
theorem dX1_addMember_47 : decode cX1_addMember 47 = .ok (.iastore, 1) := by decide +kernel
theorem dX1_addMember_48 : decode cX1_addMember 48 = .ok (.aload_n 0, 1) := by decide +kernel
theorem dX1_addMember_49 : decode cX1_addMember 49 = .ok (.getfield 27, 3) := by decide +kernel
theorem dX1_addMember_52 : decode cX1_addMember 52 = .ok (.aload_n 0, 1) := by decide +kernel
theorem dX1_addMember_53 : decode cX1_addMember 53 = .ok (.getfield 46, 3) := by decide +kernel
theorem dX1_addMember_56 : decode cX1_addMember 56 = .ok (.iload_n 2, 1) := by decide +kernel
theorem dX1_addMember_57 : decode cX1_addMember 57 = .ok (.iastore, 1) := by decide +kernel
theorem dX1_addMember_58 : decode cX1_addMember 58 = .ok (.aload_n 0, 1) := by decide +kernel
theorem dX1_addMember_59 : decode cX1_addMember 59 = .ok (.getfield 30, 3) := by decide +kernel
theorem dX1_addMember_62 : decode cX1_addMember 62 = .ok (.aload_n 0, 1) := by decide +kernel
theorem dX1_addMember_63 : decode cX1_addMember 63 = .ok (.getfield 46, 3) := by decide +kernel
theorem dX1_addMember_66 : decode cX1_addMember 66 = .ok (.iload_n 3, 1) := by decide +kernel
theorem dX1_addMember_67 : decode cX1_addMember 67 = .ok (.iastore, 1) := by decide +kernel
theorem dX1_addMember_68 : decode cX1_addMember 68 = .ok (.aload_n 0, 1) := by decide +kernel
theorem dX1_addMember_69 : decode cX1_addMember 69 = .ok (.getfield 33, 3) := by decide +kernel
theorem dX1_addMember_72 : decode cX1_addMember 72 = .ok (.iload_n 1, 1) := by decide +kernel
theorem dX1_addMember_73 : decode cX1_addMember 73 = .ok (.dup2, 1) := by decide +kernel
theorem dX1_addMember_74 : decode cX1_addMember 74 = .ok (.iaload, 1) := by decide +kernel
theorem dX1_addMember_75 : decode cX1_addMember 75 = .ok (.iconst 1, 1) := by decide +kernel
theorem dX1_addMember_76 : decode cX1_addMember 76 = .ok (.aload_n 0, 1) := by decide +kernel
theorem dX1_addMember_77 : decode cX1_addMember 77 = .ok (.getfield 46, 3) := by decide +kernel
theorem dX1_addMember_80 : decode cX1_addMember 80 = .ok (.ishl, 1) := by decide +kernel
theorem dX1_addMember_81 : decode cX1_addMember 81 = .ok (.ior, 1) := by decide +kernel
theorem dX1_addMember_82 : decode cX1_addMember 82 = .ok (.iastore, 1) := by decide +kernel
theorem dX1_addMember_83 : decode cX1_addMember 83 = .ok (.aload_n 0, 1) := by decide +kernel
theorem dX1_addMember_84 : decode cX1_addMember 84 = .ok (.dup, 1) := by decide +kernel
theorem dX1_addMember_85 : decode cX1_addMember 85 = .ok (.getfield 46, 3) := by decide +kernel
theorem dX1_addMember_88 : decode cX1_addMember 88 = .ok (.iconst 1, 1) := by decide +kernel
theorem dX1_addMember_89 : decode cX1_addMember 89 = .ok (.iadd, 1) := by decide +kernel
theorem dX1_addMember_90 : decode cX1_addMember 90 = .ok (.putfield 46, 3) := by decide +kernel
theorem dX1_addMember_93 : decode cX1_addMember 93 = .ok (.iconst 1, 1) := by decide +kernel
theorem dX1_addMember_94 : decode cX1_addMember 94 = .ok (.ireturn, 1) := by decide +kernel
def rmX1_addMember : Room := { frames := 0, cells := 0, slots := 0, locals := 0 }
def fX1_addMember_36 (w : Nat) (M : xm) : Option (Int32 × xm) := (xbo 0 (some (0, M)))
def fX1_addMember (w : Nat) (x1 : Int32) (x2 : Int32) (x3 : Int32) (M : xm) : Option (Int32 × xm) := (if (8 : Int32) ≤ (M.1 w 6) then (fX1_addMember_36 w M) else (if x1 < 0 then (fX1_addMember_36 w M) else (if (6 : Int32) ≤ x1 then (fX1_addMember_36 w M) else (if x2 < 1 then (fX1_addMember_36 w M) else (if (9 : Int32) < x2 then (fX1_addMember_36 w M) else (if x3 ≤ 15 then xchk (M.1 w 6) 8 (xl (up M (w + 5) ((M.1 w 6) : Int32).toNatClampNeg x1) (fun M1 => xchk (M1.1 w 6) 8 (xl (up M1 (w + 6) ((M1.1 w 6) : Int32).toNatClampNeg x2) (fun M2 => xchk (M2.1 w 6) 8 (xl (up M2 (w + 7) ((M2.1 w 6) : Int32).toNatClampNeg x3) (fun M3 => xchk x1 6 (xchk x1 6 (xl (up M3 (w + 8) (x1 : Int32).toNatClampNeg ((M3.1 (w + 8) x1.toNatClampNeg) ||| (1 <<< ((M3.1 w 6) &&& 31)))) (fun M4 => xl (up M4 w 6 ((M4.1 w 6) + 1)) (fun M5 => (xbo 1 (some (1, M5))))))))))))) else (fX1_addMember_36 w M)))))))
section
variable {p : Program} {l : Launch} {e : Env} {s : State} {m : MethodId} {args : Array Value} {below : List Frame} {meth : Method} {c : Code} {D : va_G} {cs : Nat → ClassId} {S : List Nat} {ad : Nat → Nat} {w : Nat}
theorem bX1_addMember_36 (Z : CX p s m args meth c cX1_addMember 4 RX1 (some .boolean) D cs (xA S ad) S ad) (hw : xRoad S w) (M : xm) : XJ p l e rmX1_addMember s m args below meth c D cs (xA S ad) S ad 4 (XRb below args s D cs S ad) 36 [] [] M (fX1_addMember_36 w M) := by
  unfold fX1_addMember_36
  refine xj_iconst Z 0 dX1_addMember_36 (by decide) ?_
  exact xj_zret_b Z dX1_addMember_37
end
theorem kX1_addMember (l : Launch) (D : va_G) (cs : Nat → ClassId) (S : List Nat) (ad : Nat → Nat) (hd : xdist S ad) {w : Nat} (hw : xRoad S w) (x1 : Int32) (x2 : Int32) (x3 : Int32) (M : xm) : ∀ r, fX1_addMember w x1 x2 x3 M = some r → Met l yX1_addMember [Cond.code yX1_addMember cX1_addMember 4 (some .boolean)] rmX1_addMember (XPc D cs S ad [.ref (ad w), .int x1, .int x2, .int x3] M) (XQi D cs S ad r.1 r.2) 0 0 (xA S ad) := by
  refine xm_b (own := RX1) (lv := [(0, .ref (ad w)), (1, .int x1), (2, .int x2), (3, .int x3)]) (by decide +kernel) rfl rfl (Nat.le_of_ble_eq_true rfl) hd (fun p e s m args below meth c Z => ?_)
  unfold fX1_addMember
  refine xj_aload_n Z 0 dX1_addMember_0 rfl rfl ?_
  refine xg_X1_46 Z (hw.mem 0 (by decide)) hw.lay dX1_addMember_1 ?_
  refine xj_bipush Z 8 dX1_addMember_4 (by decide) ?_
  refine xj_icmp_ge Z 36 dX1_addMember_6 (by decide) (fun _ => ?_) (fun _ => ?_)
  · refine xj_sub [] (lv' := []) rfl ?_
    exact bX1_addMember_36 Z hw M
  · refine xj_iload_n Z 1 dX1_addMember_9 rfl rfl ?_
    refine xj_if_lt Z 36 dX1_addMember_10 (by decide) (fun _ => ?_) (fun _ => ?_)
    · refine xj_sub [] (lv' := []) rfl ?_
      exact bX1_addMember_36 Z hw M
    · refine xj_iload_n Z 1 dX1_addMember_13 rfl rfl ?_
      refine xj_bipush Z 6 dX1_addMember_14 (by decide) ?_
      refine xj_icmp_ge Z 36 dX1_addMember_16 (by decide) (fun _ => ?_) (fun _ => ?_)
      · refine xj_sub [] (lv' := []) rfl ?_
        exact bX1_addMember_36 Z hw M
      · refine xj_iload_n Z 2 dX1_addMember_19 rfl rfl ?_
        refine xj_iconst Z 1 dX1_addMember_20 (by decide) ?_
        refine xj_icmp_lt Z 36 dX1_addMember_21 (by decide) (fun _ => ?_) (fun _ => ?_)
        · refine xj_sub [] (lv' := []) rfl ?_
          exact bX1_addMember_36 Z hw M
        · refine xj_iload_n Z 2 dX1_addMember_24 rfl rfl ?_
          refine xj_bipush Z 9 dX1_addMember_25 (by decide) ?_
          refine xj_icmp_gt Z 36 dX1_addMember_27 (by decide) (fun _ => ?_) (fun _ => ?_)
          · refine xj_sub [] (lv' := []) rfl ?_
            exact bX1_addMember_36 Z hw M
          · refine xj_iload_n Z 3 dX1_addMember_30 rfl rfl ?_
            refine xj_bipush Z 15 dX1_addMember_31 (by decide) ?_
            refine xj_icmp_le Z 38 dX1_addMember_33 (by decide) (fun _ => ?_) (fun _ => ?_)
            · refine xj_aload_n Z 0 dX1_addMember_38 rfl rfl ?_
              refine xg_X1_24 Z (hw.mem 0 (by decide)) hw.lay dX1_addMember_39 ?_
              refine xj_aload_n Z 0 dX1_addMember_42 rfl rfl ?_
              refine xg_X1_46 Z (hw.mem 0 (by decide)) hw.lay dX1_addMember_43 ?_
              refine xj_iload_n Z 1 dX1_addMember_46 rfl rfl ?_
              refine xj_iast Z (hw.mem 5 (by decide)) hw.lay5 dX1_addMember_47 (fun M1 _ => ?_)
              refine xj_aload_n Z 0 dX1_addMember_48 rfl rfl ?_
              refine xg_X1_27 Z (hw.mem 0 (by decide)) hw.lay dX1_addMember_49 ?_
              refine xj_aload_n Z 0 dX1_addMember_52 rfl rfl ?_
              refine xg_X1_46 Z (hw.mem 0 (by decide)) hw.lay dX1_addMember_53 ?_
              refine xj_iload_n Z 2 dX1_addMember_56 rfl rfl ?_
              refine xj_iast Z (hw.mem 6 (by decide)) hw.lay6 dX1_addMember_57 (fun M2 _ => ?_)
              refine xj_aload_n Z 0 dX1_addMember_58 rfl rfl ?_
              refine xg_X1_30 Z (hw.mem 0 (by decide)) hw.lay dX1_addMember_59 ?_
              refine xj_aload_n Z 0 dX1_addMember_62 rfl rfl ?_
              refine xg_X1_46 Z (hw.mem 0 (by decide)) hw.lay dX1_addMember_63 ?_
              refine xj_iload_n Z 3 dX1_addMember_66 rfl rfl ?_
              refine xj_iast Z (hw.mem 7 (by decide)) hw.lay7 dX1_addMember_67 (fun M3 _ => ?_)
              refine xj_aload_n Z 0 dX1_addMember_68 rfl rfl ?_
              refine xg_X1_33 Z (hw.mem 0 (by decide)) hw.lay dX1_addMember_69 ?_
              refine xj_iload_n Z 1 dX1_addMember_72 rfl rfl ?_
              refine xj_dup2 Z dX1_addMember_73 rfl rfl ?_
              refine xj_iald Z (hw.mem 8 (by decide)) hw.lay8 dX1_addMember_74 (fun _ => ?_)
              refine xj_iconst Z 1 dX1_addMember_75 (by decide) ?_
              refine xj_aload_n Z 0 dX1_addMember_76 rfl rfl ?_
              refine xg_X1_46 Z (hw.mem 0 (by decide)) hw.lay dX1_addMember_77 ?_
              refine xj_ishl Z dX1_addMember_80 ?_
              refine xj_ior Z dX1_addMember_81 ?_
              refine xj_iast Z (hw.mem 8 (by decide)) hw.lay8 dX1_addMember_82 (fun M4 _ => ?_)
              refine xj_aload_n Z 0 dX1_addMember_83 rfl rfl ?_
              refine xj_dup Z dX1_addMember_84 rfl ?_
              refine xg_X1_46 Z (hw.mem 0 (by decide)) hw.lay dX1_addMember_85 ?_
              refine xj_iconst Z 1 dX1_addMember_88 (by decide) ?_
              refine xj_iadd Z dX1_addMember_89 ?_
              refine xp_X1_46 Z (hw.mem 0 (by decide)) hw.lay dX1_addMember_90 (fun M5 _ => ?_)
              refine xj_iconst Z 1 dX1_addMember_93 (by decide) ?_
              exact xj_zret_b Z dX1_addMember_94
            · refine xj_sub [] (lv' := []) rfl ?_
              exact bX1_addMember_36 Z hw M
/-! WalkingLaw$Road.setQuorum(I)Z -/
theorem dX1_setQuorum_0 : decode cX1_setQuorum 0 = .ok (.iload_n 1, 1) := by decide +kernel
theorem dX1_setQuorum_1 : decode cX1_setQuorum 1 = .ok (.iconst 1, 1) := by decide +kernel
theorem dX1_setQuorum_2 : decode cX1_setQuorum 2 = .ok (.if_icmp .lt 9, 3) := by decide +kernel
theorem dX1_setQuorum_5 : decode cX1_setQuorum 5 = .ok (.iload_n 1, 1) := by decide +kernel
theorem dX1_setQuorum_6 : decode cX1_setQuorum 6 = .ok (.bipush 8, 2) := by decide +kernel
theorem dX1_setQuorum_8 : decode cX1_setQuorum 8 = .ok (.if_icmp .le 5, 3) := by decide +kernel
theorem dX1_setQuorum_11 : decode cX1_setQuorum 11 = .ok (.iconst 0, 1) := by decide +kernel
theorem dX1_setQuorum_12 : decode cX1_setQuorum 12 = .ok (.ireturn, 1) := by decide +kernel
theorem dX1_setQuorum_13 : decode cX1_setQuorum 13 = .ok (.aload_n 0, 1) := by decide +kernel
theorem dX1_setQuorum_14 : decode cX1_setQuorum 14 = .ok (.iload_n 1, 1) := by decide +kernel
theorem dX1_setQuorum_15 : decode cX1_setQuorum 15 = .ok (.putfield 49, 3) := by decide +kernel
theorem dX1_setQuorum_18 : decode cX1_setQuorum 18 = .ok (.iconst 1, 1) := by decide +kernel
theorem dX1_setQuorum_19 : decode cX1_setQuorum 19 = .ok (.ireturn, 1) := by decide +kernel
def rmX1_setQuorum : Room := { frames := 0, cells := 0, slots := 0, locals := 0 }
def fX1_setQuorum_11 (w : Nat) (M : xm) : Option (Int32 × xm) := (xbo 0 (some (0, M)))
def fX1_setQuorum (w : Nat) (x1 : Int32) (M : xm) : Option (Int32 × xm) := (if x1 < 1 then (fX1_setQuorum_11 w M) else (if x1 ≤ 8 then xl (up M w 11 x1) (fun M1 => (xbo 1 (some (1, M1)))) else (fX1_setQuorum_11 w M)))
section
variable {p : Program} {l : Launch} {e : Env} {s : State} {m : MethodId} {args : Array Value} {below : List Frame} {meth : Method} {c : Code} {D : va_G} {cs : Nat → ClassId} {S : List Nat} {ad : Nat → Nat} {w : Nat}
theorem bX1_setQuorum_11 (Z : CX p s m args meth c cX1_setQuorum 2 RX1 (some .boolean) D cs (xA S ad) S ad) (hw : xRoad S w) (M : xm) : XJ p l e rmX1_setQuorum s m args below meth c D cs (xA S ad) S ad 2 (XRb below args s D cs S ad) 11 [] [] M (fX1_setQuorum_11 w M) := by
  unfold fX1_setQuorum_11
  refine xj_iconst Z 0 dX1_setQuorum_11 (by decide) ?_
  exact xj_zret_b Z dX1_setQuorum_12
end
theorem kX1_setQuorum (l : Launch) (D : va_G) (cs : Nat → ClassId) (S : List Nat) (ad : Nat → Nat) (hd : xdist S ad) {w : Nat} (hw : xRoad S w) (x1 : Int32) (M : xm) : ∀ r, fX1_setQuorum w x1 M = some r → Met l yX1_setQuorum [Cond.code yX1_setQuorum cX1_setQuorum 2 (some .boolean)] rmX1_setQuorum (XPc D cs S ad [.ref (ad w), .int x1] M) (XQi D cs S ad r.1 r.2) 0 0 (xA S ad) := by
  refine xm_b (own := RX1) (lv := [(0, .ref (ad w)), (1, .int x1)]) (by decide +kernel) rfl rfl (Nat.le_of_ble_eq_true rfl) hd (fun p e s m args below meth c Z => ?_)
  unfold fX1_setQuorum
  refine xj_iload_n Z 1 dX1_setQuorum_0 rfl rfl ?_
  refine xj_iconst Z 1 dX1_setQuorum_1 (by decide) ?_
  refine xj_icmp_lt Z 11 dX1_setQuorum_2 (by decide) (fun _ => ?_) (fun _ => ?_)
  · refine xj_sub [] (lv' := []) rfl ?_
    exact bX1_setQuorum_11 Z hw M
  · refine xj_iload_n Z 1 dX1_setQuorum_5 rfl rfl ?_
    refine xj_bipush Z 8 dX1_setQuorum_6 (by decide) ?_
    refine xj_icmp_le Z 13 dX1_setQuorum_8 (by decide) (fun _ => ?_) (fun _ => ?_)
    · refine xj_aload_n Z 0 dX1_setQuorum_13 rfl rfl ?_
      refine xj_iload_n Z 1 dX1_setQuorum_14 rfl rfl ?_
      refine xp_X1_49 Z (hw.mem 0 (by decide)) hw.lay dX1_setQuorum_15 (fun M1 _ => ?_)
      refine xj_iconst Z 1 dX1_setQuorum_18 (by decide) ?_
      exact xj_zret_b Z dX1_setQuorum_19
    · refine xj_sub [] (lv' := []) rfl ?_
      exact bX1_setQuorum_11 Z hw M
/-! WalkingLaw$Road.setBills(I)Z -/
theorem dX1_setBills_0 : decode cX1_setBills 0 = .ok (.iload_n 1, 1) := by decide +kernel
theorem dX1_setBills_1 : decode cX1_setBills 1 = .ok (.iconst 1, 1) := by decide +kernel
theorem dX1_setBills_2 : decode cX1_setBills 2 = .ok (.if_icmp .lt 8, 3) := by decide +kernel
theorem dX1_setBills_5 : decode cX1_setBills 5 = .ok (.iload_n 1, 1) := by decide +kernel
theorem dX1_setBills_6 : decode cX1_setBills 6 = .ok (.iconst 4, 1) := by decide +kernel
theorem dX1_setBills_7 : decode cX1_setBills 7 = .ok (.if_icmp .le 5, 3) := by decide +kernel
theorem dX1_setBills_10 : decode cX1_setBills 10 = .ok (.iconst 0, 1) := by decide +kernel
theorem dX1_setBills_11 : decode cX1_setBills 11 = .ok (.ireturn, 1) := by decide +kernel
theorem dX1_setBills_12 : decode cX1_setBills 12 = .ok (.aload_n 0, 1) := by decide +kernel
theorem dX1_setBills_13 : decode cX1_setBills 13 = .ok (.iload_n 1, 1) := by decide +kernel
theorem dX1_setBills_14 : decode cX1_setBills 14 = .ok (.putfield 52, 3) := by decide +kernel
theorem dX1_setBills_17 : decode cX1_setBills 17 = .ok (.iconst 1, 1) := by decide +kernel
theorem dX1_setBills_18 : decode cX1_setBills 18 = .ok (.ireturn, 1) := by decide +kernel
def rmX1_setBills : Room := { frames := 0, cells := 0, slots := 0, locals := 0 }
def fX1_setBills_10 (w : Nat) (M : xm) : Option (Int32 × xm) := (xbo 0 (some (0, M)))
def fX1_setBills (w : Nat) (x1 : Int32) (M : xm) : Option (Int32 × xm) := (if x1 < 1 then (fX1_setBills_10 w M) else (if x1 ≤ 4 then xl (up M w 12 x1) (fun M1 => (xbo 1 (some (1, M1)))) else (fX1_setBills_10 w M)))
section
variable {p : Program} {l : Launch} {e : Env} {s : State} {m : MethodId} {args : Array Value} {below : List Frame} {meth : Method} {c : Code} {D : va_G} {cs : Nat → ClassId} {S : List Nat} {ad : Nat → Nat} {w : Nat}
theorem bX1_setBills_10 (Z : CX p s m args meth c cX1_setBills 2 RX1 (some .boolean) D cs (xA S ad) S ad) (hw : xRoad S w) (M : xm) : XJ p l e rmX1_setBills s m args below meth c D cs (xA S ad) S ad 2 (XRb below args s D cs S ad) 10 [] [] M (fX1_setBills_10 w M) := by
  unfold fX1_setBills_10
  refine xj_iconst Z 0 dX1_setBills_10 (by decide) ?_
  exact xj_zret_b Z dX1_setBills_11
end
theorem kX1_setBills (l : Launch) (D : va_G) (cs : Nat → ClassId) (S : List Nat) (ad : Nat → Nat) (hd : xdist S ad) {w : Nat} (hw : xRoad S w) (x1 : Int32) (M : xm) : ∀ r, fX1_setBills w x1 M = some r → Met l yX1_setBills [Cond.code yX1_setBills cX1_setBills 2 (some .boolean)] rmX1_setBills (XPc D cs S ad [.ref (ad w), .int x1] M) (XQi D cs S ad r.1 r.2) 0 0 (xA S ad) := by
  refine xm_b (own := RX1) (lv := [(0, .ref (ad w)), (1, .int x1)]) (by decide +kernel) rfl rfl (Nat.le_of_ble_eq_true rfl) hd (fun p e s m args below meth c Z => ?_)
  unfold fX1_setBills
  refine xj_iload_n Z 1 dX1_setBills_0 rfl rfl ?_
  refine xj_iconst Z 1 dX1_setBills_1 (by decide) ?_
  refine xj_icmp_lt Z 10 dX1_setBills_2 (by decide) (fun _ => ?_) (fun _ => ?_)
  · refine xj_sub [] (lv' := []) rfl ?_
    exact bX1_setBills_10 Z hw M
  · refine xj_iload_n Z 1 dX1_setBills_5 rfl rfl ?_
    refine xj_iconst Z 4 dX1_setBills_6 (by decide) ?_
    refine xj_icmp_le Z 12 dX1_setBills_7 (by decide) (fun _ => ?_) (fun _ => ?_)
    · refine xj_aload_n Z 0 dX1_setBills_12 rfl rfl ?_
      refine xj_iload_n Z 1 dX1_setBills_13 rfl rfl ?_
      refine xp_X1_52 Z (hw.mem 0 (by decide)) hw.lay dX1_setBills_14 (fun M1 _ => ?_)
      refine xj_iconst Z 1 dX1_setBills_17 (by decide) ?_
      exact xj_zret_b Z dX1_setBills_18
    · refine xj_sub [] (lv' := []) rfl ?_
      exact bX1_setBills_10 Z hw M
/-! WalkingLaw$Road.outspoken()I -/
theorem dX1_outspoken_0 : decode cX1_outspoken 0 = .ok (.aload_n 0, 1) := by decide +kernel
theorem dX1_outspoken_1 : decode cX1_outspoken 1 = .ok (.getfield 33, 3) := by decide +kernel
theorem dX1_outspoken_4 : decode cX1_outspoken 4 = .ok (.iconst 3, 1) := by decide +kernel
theorem dX1_outspoken_5 : decode cX1_outspoken 5 = .ok (.iaload, 1) := by decide +kernel
theorem dX1_outspoken_6 : decode cX1_outspoken 6 = .ok (.aload_n 0, 1) := by decide +kernel
theorem dX1_outspoken_7 : decode cX1_outspoken 7 = .ok (.getfield 33, 3) := by decide +kernel
theorem dX1_outspoken_10 : decode cX1_outspoken 10 = .ok (.iconst 4, 1) := by decide +kernel
theorem dX1_outspoken_11 : decode cX1_outspoken 11 = .ok (.iaload, 1) := by decide +kernel
theorem dX1_outspoken_12 : decode cX1_outspoken 12 = .ok (.ior, 1) := by decide +kernel
theorem dX1_outspoken_13 : decode cX1_outspoken 13 = .ok (.aload_n 0, 1) := by decide +kernel
theorem dX1_outspoken_14 : decode cX1_outspoken 14 = .ok (.getfield 33, 3) := by decide +kernel
theorem dX1_outspoken_17 : decode cX1_outspoken 17 = .ok (.iconst 5, 1) := by decide +kernel
theorem dX1_outspoken_18 : decode cX1_outspoken 18 = .ok (.iaload, 1) := by decide +kernel
theorem dX1_outspoken_19 : decode cX1_outspoken 19 = .ok (.ior, 1) := by decide +kernel
theorem dX1_outspoken_20 : decode cX1_outspoken 20 = .ok (.iconst (-1), 1) := by decide +kernel
theorem dX1_outspoken_21 : decode cX1_outspoken 21 = .ok (.ixor, 1) := by decide +kernel
theorem dX1_outspoken_22 : decode cX1_outspoken 22 = .ok (.ireturn, 1) := by decide +kernel
def rmX1_outspoken : Room := { frames := 0, cells := 0, slots := 0, locals := 0 }
def fX1_outspoken (w : Nat) (M : xm) : Option (Int32) := xchk 3 6 (xchk 4 6 (xchk 5 6 ((some ((((M.1 (w + 8) (3 : Int32).toNatClampNeg) ||| (M.1 (w + 8) (4 : Int32).toNatClampNeg)) ||| (M.1 (w + 8) (5 : Int32).toNatClampNeg)) ^^^ (-1))))))
section
variable {p : Program} {l : Launch} {e : Env} {s : State} {m : MethodId} {args : Array Value} {below : List Frame} {meth : Method} {c : Code} {D : va_G} {cs : Nat → ClassId} {S : List Nat} {ad : Nat → Nat} {w : Nat}
end
theorem kX1_outspoken (l : Launch) (D : va_G) (cs : Nat → ClassId) (S : List Nat) (ad : Nat → Nat) (hd : xdist S ad) {w : Nat} (hw : xRoad S w) (M : xm) : ∀ r, fX1_outspoken w M = some r → Met l yX1_outspoken [Cond.code yX1_outspoken cX1_outspoken 1 (some .int)] rmX1_outspoken (XPc D cs S ad [.ref (ad w)] M) (XQi D cs S ad r M) 0 0 (xA S ad) := by
  refine xm_r (own := RX1) (lv := [(0, .ref (ad w))]) (by decide +kernel) rfl rfl (Nat.le_of_ble_eq_true rfl) hd (fun p e s m args below meth c Z => ?_)
  unfold fX1_outspoken
  refine xj_aload_n Z 0 dX1_outspoken_0 rfl rfl ?_
  refine xg_X1_33 Z (hw.mem 0 (by decide)) hw.lay dX1_outspoken_1 ?_
  refine xj_iconst Z 3 dX1_outspoken_4 (by decide) ?_
  refine xj_iald Z (hw.mem 8 (by decide)) hw.lay8 dX1_outspoken_5 (fun _ => ?_)
  refine xj_aload_n Z 0 dX1_outspoken_6 rfl rfl ?_
  refine xg_X1_33 Z (hw.mem 0 (by decide)) hw.lay dX1_outspoken_7 ?_
  refine xj_iconst Z 4 dX1_outspoken_10 (by decide) ?_
  refine xj_iald Z (hw.mem 8 (by decide)) hw.lay8 dX1_outspoken_11 (fun _ => ?_)
  refine xj_ior Z dX1_outspoken_12 ?_
  refine xj_aload_n Z 0 dX1_outspoken_13 rfl rfl ?_
  refine xg_X1_33 Z (hw.mem 0 (by decide)) hw.lay dX1_outspoken_14 ?_
  refine xj_iconst Z 5 dX1_outspoken_17 (by decide) ?_
  refine xj_iald Z (hw.mem 8 (by decide)) hw.lay8 dX1_outspoken_18 (fun _ => ?_)
  refine xj_ior Z dX1_outspoken_19 ?_
  refine xj_iconst Z (-1) dX1_outspoken_20 (by decide) ?_
  refine xj_ixor Z dX1_outspoken_21 ?_
  exact xj_ret_r Z dX1_outspoken_22
/-! WalkingLaw$Road.paceOf(I)I -/
theorem dX1_paceOf_0 : decode cX1_paceOf 0 = .ok (.iconst 0, 1) := by decide +kernel
theorem dX1_paceOf_1 : decode cX1_paceOf 1 = .ok (.istore_n 2, 1) := by decide +kernel
theorem dX1_paceOf_2 : decode cX1_paceOf 2 = .ok (.iconst 0, 1) := by decide +kernel
theorem dX1_paceOf_3 : decode cX1_paceOf 3 = .ok (.istore_n 3, 1) := by decide +kernel
theorem dX1_paceOf_4 : decode cX1_paceOf 4 = .ok (.iload_n 3, 1) := by decide +kernel
theorem dX1_paceOf_5 : decode cX1_paceOf 5 = .ok (.aload_n 0, 1) := by decide +kernel
theorem dX1_paceOf_6 : decode cX1_paceOf 6 = .ok (.getfield 46, 3) := by decide +kernel
theorem dX1_paceOf_9 : decode cX1_paceOf 9 = .ok (.if_icmp .ge 27, 3) := by decide +kernel
theorem dX1_paceOf_12 : decode cX1_paceOf 12 = .ok (.iload_n 1, 1) := by decide +kernel
theorem dX1_paceOf_13 : decode cX1_paceOf 13 = .ok (.iload_n 3, 1) := by decide +kernel
theorem dX1_paceOf_14 : decode cX1_paceOf 14 = .ok (.ishr, 1) := by decide +kernel
theorem dX1_paceOf_15 : decode cX1_paceOf 15 = .ok (.iconst 1, 1) := by decide +kernel
theorem dX1_paceOf_16 : decode cX1_paceOf 16 = .ok (.iand, 1) := by decide +kernel
theorem dX1_paceOf_17 : decode cX1_paceOf 17 = .ok (.iconst 1, 1) := by decide +kernel
theorem dX1_paceOf_18 : decode cX1_paceOf 18 = .ok (.if_icmp .ne 12, 3) := by decide +kernel
theorem dX1_paceOf_21 : decode cX1_paceOf 21 = .ok (.iload_n 2, 1) := by decide +kernel
theorem dX1_paceOf_22 : decode cX1_paceOf 22 = .ok (.aload_n 0, 1) := by decide +kernel
theorem dX1_paceOf_23 : decode cX1_paceOf 23 = .ok (.getfield 27, 3) := by decide +kernel
theorem dX1_paceOf_26 : decode cX1_paceOf 26 = .ok (.iload_n 3, 1) := by decide +kernel
theorem dX1_paceOf_27 : decode cX1_paceOf 27 = .ok (.iaload, 1) := by decide +kernel
theorem dX1_paceOf_28 : decode cX1_paceOf 28 = .ok (.iadd, 1) := by decide +kernel
theorem dX1_paceOf_29 : decode cX1_paceOf 29 = .ok (.istore_n 2, 1) := by decide +kernel
theorem dX1_paceOf_30 : decode cX1_paceOf 30 = .ok (.iinc 3 1, 3) := by decide +kernel
theorem dX1_paceOf_33 : decode cX1_paceOf 33 = .ok (.goto (-29), 3) := by decide +kernel
theorem dX1_paceOf_36 : decode cX1_paceOf 36 = .ok (.iload_n 2, 1) := by decide +kernel
theorem dX1_paceOf_37 : decode cX1_paceOf 37 = .ok (.ireturn, 1) := by decide +kernel
def rmX1_paceOf : Room := { frames := 0, cells := 0, slots := 0, locals := 0 }
def fX1_paceOf_30 (w : Nat) (k4 : Int32 → Int32 → Option (Int32)) (x1 : Int32) (x2 : Int32) (x3 : Int32) (M : xm) : Option (Int32) := (k4 x2 (x3 + 1))
def fX1_paceOf_4 (w : Nat) (x1 : Int32) (M : xm) : Nat → Int32 → Int32 → Option (Int32)
  | 0, _, _ => none
  | n + 1, x2, x3 => (if (M.1 w 6) ≤ x3 then (some x2) else (if ((x1 >>> (x3 &&& 31)) &&& 1) = 1 then xchk x3 8 (xl (x2 + (M.1 (w + 6) x3.toNatClampNeg)) (fun v1 => (fX1_paceOf_30 w (fun z0 z1 => fX1_paceOf_4 w x1 M n z0 z1) x1 v1 x3 M))) else (fX1_paceOf_30 w (fun z0 z1 => fX1_paceOf_4 w x1 M n z0 z1) x1 x2 x3 M)))
def fX1_paceOf (w : Nat) (x1 : Int32) (M : xm) : Option (Int32) := (fX1_paceOf_4 w x1 M xfuel 0 0)
section
variable {p : Program} {l : Launch} {e : Env} {s : State} {m : MethodId} {args : Array Value} {below : List Frame} {meth : Method} {c : Code} {D : va_G} {cs : Nat → ClassId} {S : List Nat} {ad : Nat → Nat} {w : Nat}
theorem bX1_paceOf_30 (Z : CX p s m args meth c cX1_paceOf 4 RX1 (some .int) D cs (xA S ad) S ad) (hw : xRoad S w) {k4 : Int32 → Int32 → Option (Int32)} (x1 : Int32) (x2 : Int32) (x3 : Int32) (M : xm) (hk4 : ∀ (x2 : Int32) (x3 : Int32), XJ p l e rmX1_paceOf s m args below meth c D cs (xA S ad) S ad 4 (XRr below args s D cs S ad M) 4 [(0, .ref (ad w)), (1, .int x1), (2, .int x2), (3, .int x3)] [] M (k4 x2 x3)) : XJ p l e rmX1_paceOf s m args below meth c D cs (xA S ad) S ad 4 (XRr below args s D cs S ad M) 30 [(0, .ref (ad w)), (1, .int x1), (2, .int x2), (3, .int x3)] [] M (fX1_paceOf_30 w k4 x1 x2 x3 M) := by
  unfold fX1_paceOf_30
  refine xj_iinc Z 3 (x3 + 1) (lv' := [(3, .int (x3 + 1)), (0, .ref (ad w)), (1, .int x1), (2, .int x2)]) dX1_paceOf_30 rfl rfl (by decide) rfl ?_
  refine xj_goto Z 4 dX1_paceOf_33 (by decide) ?_
  refine xj_sub [1, 2, 3, 0] (lv' := [(0, .ref (ad w)), (1, .int x1), (2, .int x2), (3, .int (x3 + 1))]) rfl ?_
  exact hk4 x2 (x3 + 1)
theorem bX1_paceOf_4 (Z : CX p s m args meth c cX1_paceOf 4 RX1 (some .int) D cs (xA S ad) S ad) (hw : xRoad S w) (x1 : Int32) (M : xm) : ∀ (n : Nat) (x2 : Int32) (x3 : Int32), XJ p l e rmX1_paceOf s m args below meth c D cs (xA S ad) S ad 4 (XRr below args s D cs S ad M) 4 [(0, .ref (ad w)), (1, .int x1), (2, .int x2), (3, .int x3)] [] M (fX1_paceOf_4 w x1 M n x2 x3) := by
  intro n
  induction n with
  | zero => intros; exact xj_none
  | succ n ih =>
    intro x2 x3
    rw [fX1_paceOf_4]
    refine xj_iload_n Z 3 dX1_paceOf_4 rfl rfl ?_
    refine xj_aload_n Z 0 dX1_paceOf_5 rfl rfl ?_
    refine xg_X1_46 Z (hw.mem 0 (by decide)) hw.lay dX1_paceOf_6 ?_
    refine xj_icmp_ge Z 36 dX1_paceOf_9 (by decide) (fun _ => ?_) (fun _ => ?_)
    · refine xj_iload_n Z 2 dX1_paceOf_36 rfl rfl ?_
      exact xj_ret_r Z dX1_paceOf_37
    · refine xj_iload_n Z 1 dX1_paceOf_12 rfl rfl ?_
      refine xj_iload_n Z 3 dX1_paceOf_13 rfl rfl ?_
      refine xj_ishr Z dX1_paceOf_14 ?_
      refine xj_iconst Z 1 dX1_paceOf_15 (by decide) ?_
      refine xj_iand Z dX1_paceOf_16 ?_
      refine xj_iconst Z 1 dX1_paceOf_17 (by decide) ?_
      refine xj_icmp_ne Z 30 dX1_paceOf_18 (by decide) (fun _ => ?_) (fun _ => ?_)
      · exact bX1_paceOf_30 Z hw x1 x2 x3 M ih
      · refine xj_iload_n Z 2 dX1_paceOf_21 rfl rfl ?_
        refine xj_aload_n Z 0 dX1_paceOf_22 rfl rfl ?_
        refine xg_X1_27 Z (hw.mem 0 (by decide)) hw.lay dX1_paceOf_23 ?_
        refine xj_iload_n Z 3 dX1_paceOf_26 rfl rfl ?_
        refine xj_iald Z (hw.mem 6 (by decide)) hw.lay6 dX1_paceOf_27 (fun _ => ?_)
        refine xj_iadd Z dX1_paceOf_28 ?_
        refine xj_top (fun v1 => ?_)
        refine xj_istore_n Z (lv' := [(2, .int v1), (0, .ref (ad w)), (1, .int x1), (3, .int x3)]) dX1_paceOf_29 rfl (by decide) rfl ?_
        refine xj_sub [1, 2, 0, 3] (lv' := [(0, .ref (ad w)), (1, .int x1), (2, .int v1), (3, .int x3)]) rfl ?_
        exact bX1_paceOf_30 Z hw x1 v1 x3 M ih
end
theorem kX1_paceOf (l : Launch) (D : va_G) (cs : Nat → ClassId) (S : List Nat) (ad : Nat → Nat) (hd : xdist S ad) {w : Nat} (hw : xRoad S w) (x1 : Int32) (M : xm) : ∀ r, fX1_paceOf w x1 M = some r → Met l yX1_paceOf [Cond.code yX1_paceOf cX1_paceOf 4 (some .int)] rmX1_paceOf (XPc D cs S ad [.ref (ad w), .int x1] M) (XQi D cs S ad r M) 0 0 (xA S ad) := by
  refine xm_r (own := RX1) (lv := [(0, .ref (ad w)), (1, .int x1)]) (by decide +kernel) rfl rfl (Nat.le_of_ble_eq_true rfl) hd (fun p e s m args below meth c Z => ?_)
  unfold fX1_paceOf
  refine xj_iconst Z 0 dX1_paceOf_0 (by decide) ?_
  refine xj_istore_n Z (lv' := [(2, .int 0), (0, .ref (ad w)), (1, .int x1)]) dX1_paceOf_1 rfl (by decide) rfl ?_
  refine xj_iconst Z 0 dX1_paceOf_2 (by decide) ?_
  refine xj_istore_n Z (lv' := [(3, .int 0), (2, .int 0), (0, .ref (ad w)), (1, .int x1)]) dX1_paceOf_3 rfl (by decide) rfl ?_
  refine xj_sub [2, 3, 1, 0] (lv' := [(0, .ref (ad w)), (1, .int x1), (2, .int 0), (3, .int 0)]) rfl ?_
  exact bX1_paceOf_4 Z hw x1 M xfuel 0 0
/-! WalkingLaw$Road.slowestOf(I)I -/
theorem dX1_slowestOf_0 : decode cX1_slowestOf 0 = .ok (.bipush 9, 2) := by decide +kernel
theorem dX1_slowestOf_2 : decode cX1_slowestOf 2 = .ok (.istore_n 2, 1) := by decide +kernel
theorem dX1_slowestOf_3 : decode cX1_slowestOf 3 = .ok (.iconst 0, 1) := by decide +kernel
theorem dX1_slowestOf_4 : decode cX1_slowestOf 4 = .ok (.istore_n 3, 1) := by decide +kernel
theorem dX1_slowestOf_5 : decode cX1_slowestOf 5 = .ok (.iload_n 3, 1) := by decide +kernel
theorem dX1_slowestOf_6 : decode cX1_slowestOf 6 = .ok (.aload_n 0, 1) := by decide +kernel
theorem dX1_slowestOf_7 : decode cX1_slowestOf 7 = .ok (.getfield 46, 3) := by decide +kernel
theorem dX1_slowestOf_10 : decode cX1_slowestOf 10 = .ok (.if_icmp .ge 29, 3) := by decide +kernel
theorem dX1_slowestOf_13 : decode cX1_slowestOf 13 = .ok (.iload_n 1, 1) := by decide +kernel
theorem dX1_slowestOf_14 : decode cX1_slowestOf 14 = .ok (.iload_n 3, 1) := by decide +kernel
theorem dX1_slowestOf_15 : decode cX1_slowestOf 15 = .ok (.ishr, 1) := by decide +kernel
theorem dX1_slowestOf_16 : decode cX1_slowestOf 16 = .ok (.iconst 1, 1) := by decide +kernel
theorem dX1_slowestOf_17 : decode cX1_slowestOf 17 = .ok (.iand, 1) := by decide +kernel
theorem dX1_slowestOf_18 : decode cX1_slowestOf 18 = .ok (.iconst 1, 1) := by decide +kernel
theorem dX1_slowestOf_19 : decode cX1_slowestOf 19 = .ok (.if_icmp .ne 14, 3) := by decide +kernel
theorem dX1_slowestOf_22 : decode cX1_slowestOf 22 = .ok (.iload_n 2, 1) := by decide +kernel
theorem dX1_slowestOf_23 : decode cX1_slowestOf 23 = .ok (.aload_n 0, 1) := by decide +kernel
theorem dX1_slowestOf_24 : decode cX1_slowestOf 24 = .ok (.getfield 27, 3) := by decide +kernel
theorem dX1_slowestOf_27 : decode cX1_slowestOf 27 = .ok (.iload_n 3, 1) := by decide +kernel
theorem dX1_slowestOf_28 : decode cX1_slowestOf 28 = .ok (.iaload, 1) := by decide +kernel
theorem dX1_slowestOf_29 : decode cX1_slowestOf 29 = .ok (.invokestatic 59, 3) := by decide +kernel
theorem dX1_slowestOf_32 : decode cX1_slowestOf 32 = .ok (.istore_n 2, 1) := by decide +kernel
theorem dX1_slowestOf_33 : decode cX1_slowestOf 33 = .ok (.iinc 3 1, 3) := by decide +kernel
theorem dX1_slowestOf_36 : decode cX1_slowestOf 36 = .ok (.goto (-31), 3) := by decide +kernel
theorem dX1_slowestOf_39 : decode cX1_slowestOf 39 = .ok (.iload_n 2, 1) := by decide +kernel
theorem dX1_slowestOf_40 : decode cX1_slowestOf 40 = .ok (.ireturn, 1) := by decide +kernel
def rmX1_slowestOf : Room := { frames := 1, cells := 0, slots := 0, locals := 24 }
def fX1_slowestOf_33 (w : Nat) (k5 : Int32 → Int32 → Option (Int32)) (x1 : Int32) (x2 : Int32) (x3 : Int32) (M : xm) : Option (Int32) := (k5 x2 (x3 + 1))
def fX1_slowestOf_5 (w : Nat) (x1 : Int32) (M : xm) : Nat → Int32 → Int32 → Option (Int32)
  | 0, _, _ => none
  | n + 1, x2, x3 => (if (M.1 w 6) ≤ x3 then (some x2) else (if ((x1 >>> (x3 &&& 31)) &&& 1) = 1 then xchk x3 8 (xl (if (M.1 (w + 6) x3.toNatClampNeg) < x2 then (M.1 (w + 6) x3.toNatClampNeg) else x2) (fun v1 => (fX1_slowestOf_33 w (fun z0 z1 => fX1_slowestOf_5 w x1 M n z0 z1) x1 v1 x3 M))) else (fX1_slowestOf_33 w (fun z0 z1 => fX1_slowestOf_5 w x1 M n z0 z1) x1 x2 x3 M)))
def fX1_slowestOf (w : Nat) (x1 : Int32) (M : xm) : Option (Int32) := (fX1_slowestOf_5 w x1 M xfuel 9 0)
section
variable {p : Program} {l : Launch} {e : Env} {s : State} {m : MethodId} {args : Array Value} {below : List Frame} {meth : Method} {c : Code} {D : va_G} {cs : Nat → ClassId} {S : List Nat} {ad : Nat → Nat} {w : Nat}
theorem bX1_slowestOf_33 (Z : CX p s m args meth c cX1_slowestOf 4 RX1 (some .int) D cs (xA S ad) S ad) (hw : xRoad S w) {k5 : Int32 → Int32 → Option (Int32)} (x1 : Int32) (x2 : Int32) (x3 : Int32) (M : xm) (hk5 : ∀ (x2 : Int32) (x3 : Int32), XJ p l e rmX1_slowestOf s m args below meth c D cs (xA S ad) S ad 4 (XRr below args s D cs S ad M) 5 [(0, .ref (ad w)), (1, .int x1), (2, .int x2), (3, .int x3)] [] M (k5 x2 x3)) : XJ p l e rmX1_slowestOf s m args below meth c D cs (xA S ad) S ad 4 (XRr below args s D cs S ad M) 33 [(0, .ref (ad w)), (1, .int x1), (2, .int x2), (3, .int x3)] [] M (fX1_slowestOf_33 w k5 x1 x2 x3 M) := by
  unfold fX1_slowestOf_33
  refine xj_iinc Z 3 (x3 + 1) (lv' := [(3, .int (x3 + 1)), (0, .ref (ad w)), (1, .int x1), (2, .int x2)]) dX1_slowestOf_33 rfl rfl (by decide) rfl ?_
  refine xj_goto Z 5 dX1_slowestOf_36 (by decide) ?_
  refine xj_sub [1, 2, 3, 0] (lv' := [(0, .ref (ad w)), (1, .int x1), (2, .int x2), (3, .int (x3 + 1))]) rfl ?_
  exact hk5 x2 (x3 + 1)
theorem bX1_slowestOf_5 (Z : CX p s m args meth c cX1_slowestOf 4 RX1 (some .int) D cs (xA S ad) S ad) (hw : xRoad S w) (x1 : Int32) (M : xm) : ∀ (n : Nat) (x2 : Int32) (x3 : Int32), XJ p l e rmX1_slowestOf s m args below meth c D cs (xA S ad) S ad 4 (XRr below args s D cs S ad M) 5 [(0, .ref (ad w)), (1, .int x1), (2, .int x2), (3, .int x3)] [] M (fX1_slowestOf_5 w x1 M n x2 x3) := by
  intro n
  induction n with
  | zero => intros; exact xj_none
  | succ n ih =>
    intro x2 x3
    rw [fX1_slowestOf_5]
    refine xj_iload_n Z 3 dX1_slowestOf_5 rfl rfl ?_
    refine xj_aload_n Z 0 dX1_slowestOf_6 rfl rfl ?_
    refine xg_X1_46 Z (hw.mem 0 (by decide)) hw.lay dX1_slowestOf_7 ?_
    refine xj_icmp_ge Z 39 dX1_slowestOf_10 (by decide) (fun _ => ?_) (fun _ => ?_)
    · refine xj_iload_n Z 2 dX1_slowestOf_39 rfl rfl ?_
      exact xj_ret_r Z dX1_slowestOf_40
    · refine xj_iload_n Z 1 dX1_slowestOf_13 rfl rfl ?_
      refine xj_iload_n Z 3 dX1_slowestOf_14 rfl rfl ?_
      refine xj_ishr Z dX1_slowestOf_15 ?_
      refine xj_iconst Z 1 dX1_slowestOf_16 (by decide) ?_
      refine xj_iand Z dX1_slowestOf_17 ?_
      refine xj_iconst Z 1 dX1_slowestOf_18 (by decide) ?_
      refine xj_icmp_ne Z 33 dX1_slowestOf_19 (by decide) (fun _ => ?_) (fun _ => ?_)
      · exact bX1_slowestOf_33 Z hw x1 x2 x3 M ih
      · refine xj_iload_n Z 2 dX1_slowestOf_22 rfl rfl ?_
        refine xj_aload_n Z 0 dX1_slowestOf_23 rfl rfl ?_
        refine xg_X1_27 Z (hw.mem 0 (by decide)) hw.lay dX1_slowestOf_24 ?_
        refine xj_iload_n Z 3 dX1_slowestOf_27 rfl rfl ?_
        refine xj_iald Z (hw.mem 6 (by decide)) hw.lay6 dX1_slowestOf_28 (fun _ => ?_)
        refine xj_mmin Z xb_107 xb_51 xb_52 xb_53 (by decide) dX1_slowestOf_29 ?_
        refine xj_top (fun v1 => ?_)
        refine xj_istore_n Z (lv' := [(2, .int v1), (0, .ref (ad w)), (1, .int x1), (3, .int x3)]) dX1_slowestOf_32 rfl (by decide) rfl ?_
        refine xj_sub [1, 2, 0, 3] (lv' := [(0, .ref (ad w)), (1, .int x1), (2, .int v1), (3, .int x3)]) rfl ?_
        exact bX1_slowestOf_33 Z hw x1 v1 x3 M ih
end
theorem kX1_slowestOf (l : Launch) (D : va_G) (cs : Nat → ClassId) (S : List Nat) (ad : Nat → Nat) (hd : xdist S ad) {w : Nat} (hw : xRoad S w) (x1 : Int32) (M : xm) : ∀ r, fX1_slowestOf w x1 M = some r → Met l yX1_slowestOf [Cond.code yX1_slowestOf cX1_slowestOf 4 (some .int)] rmX1_slowestOf (XPc D cs S ad [.ref (ad w), .int x1] M) (XQi D cs S ad r M) 0 0 (xA S ad) := by
  refine xm_r (own := RX1) (lv := [(0, .ref (ad w)), (1, .int x1)]) (by decide +kernel) rfl rfl (Nat.le_of_ble_eq_true rfl) hd (fun p e s m args below meth c Z => ?_)
  unfold fX1_slowestOf
  refine xj_bipush Z 9 dX1_slowestOf_0 (by decide) ?_
  refine xj_istore_n Z (lv' := [(2, .int 9), (0, .ref (ad w)), (1, .int x1)]) dX1_slowestOf_2 rfl (by decide) rfl ?_
  refine xj_iconst Z 0 dX1_slowestOf_3 (by decide) ?_
  refine xj_istore_n Z (lv' := [(3, .int 0), (2, .int 9), (0, .ref (ad w)), (1, .int x1)]) dX1_slowestOf_4 rfl (by decide) rfl ?_
  refine xj_sub [2, 3, 1, 0] (lv' := [(0, .ref (ad w)), (1, .int x1), (2, .int 9), (3, .int 0)]) rfl ?_
  exact bX1_slowestOf_5 Z hw x1 M xfuel 9 0
end
