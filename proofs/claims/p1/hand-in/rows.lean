section
-- ===== PART A: goes FIRST, ahead of the names: the tables' words, and 'selects' of the private methods out of them =====
/-- a private method of a class that the tables say can be made, by its rows of tables_1 -/
def lw_okq (q : MethodName × Nat) : Prop := (q.1.cls ≠ "java/lang/invoke/MethodHandle" ∧ q.1.cls ≠ "java/lang/invoke/VarHandle") ∧ Cond.instantiable q.1.cls q.2 ∈ tables_1 ∧ Cond.privateMethod q.1 ∈ tables_1 ∧ Cond.instanceMethod q.1 ∈ tables_1
theorem lw_p0 : lw_okq (⟨"RootJudge$Reader", "look", "()V"⟩, 14) := ⟨⟨by decide +kernel, by decide +kernel⟩, List.mem_of_getElem? (i := 35) (by decide +kernel), List.mem_of_getElem? (i := 473) (by decide +kernel), List.mem_of_getElem? (i := 474) (by decide +kernel)⟩
theorem lw_p1 : lw_okq (⟨"RootJudge$Reader", "fail", "(II)V"⟩, 14) := ⟨⟨by decide +kernel, by decide +kernel⟩, List.mem_of_getElem? (i := 35) (by decide +kernel), List.mem_of_getElem? (i := 563) (by decide +kernel), List.mem_of_getElem? (i := 564) (by decide +kernel)⟩
theorem lw_p2 : lw_okq (⟨"RootJudge$Reader", "readText", "(I)V"⟩, 14) := ⟨⟨by decide +kernel, by decide +kernel⟩, List.mem_of_getElem? (i := 35) (by decide +kernel), List.mem_of_getElem? (i := 567) (by decide +kernel), List.mem_of_getElem? (i := 568) (by decide +kernel)⟩
theorem lw_p3 : lw_okq (⟨"RootJudge$Reader", "readAll", "(I)V"⟩, 14) := ⟨⟨by decide +kernel, by decide +kernel⟩, List.mem_of_getElem? (i := 35) (by decide +kernel), List.mem_of_getElem? (i := 571) (by decide +kernel), List.mem_of_getElem? (i := 572) (by decide +kernel)⟩
theorem lw_p4 : lw_okq (⟨"RootJudge$Reader", "readOne", "(I)V"⟩, 14) := ⟨⟨by decide +kernel, by decide +kernel⟩, List.mem_of_getElem? (i := 35) (by decide +kernel), List.mem_of_getElem? (i := 575) (by decide +kernel), List.mem_of_getElem? (i := 576) (by decide +kernel)⟩
theorem lw_p5 : lw_okq (⟨"RootJudge$Reader", "step", "()V"⟩, 14) := ⟨⟨by decide +kernel, by decide +kernel⟩, List.mem_of_getElem? (i := 35) (by decide +kernel), List.mem_of_getElem? (i := 579) (by decide +kernel), List.mem_of_getElem? (i := 580) (by decide +kernel)⟩
theorem lw_p6 : lw_okq (⟨"RootJudge$Reader", "readAtom", "()V"⟩, 14) := ⟨⟨by decide +kernel, by decide +kernel⟩, List.mem_of_getElem? (i := 35) (by decide +kernel), List.mem_of_getElem? (i := 583) (by decide +kernel), List.mem_of_getElem? (i := 584) (by decide +kernel)⟩
theorem lw_p7 : lw_okq (⟨"RootJudge$Reader", "readSum", "(II)V"⟩, 14) := ⟨⟨by decide +kernel, by decide +kernel⟩, List.mem_of_getElem? (i := 35) (by decide +kernel), List.mem_of_getElem? (i := 587) (by decide +kernel), List.mem_of_getElem? (i := 588) (by decide +kernel)⟩
theorem lw_p8 : lw_okq (⟨"RootJudge$Reader", "readTerm", "(II)V"⟩, 14) := ⟨⟨by decide +kernel, by decide +kernel⟩, List.mem_of_getElem? (i := 35) (by decide +kernel), List.mem_of_getElem? (i := 591) (by decide +kernel), List.mem_of_getElem? (i := 592) (by decide +kernel)⟩
theorem lw_p9 : lw_okq (⟨"RootJudge$Reader", "readPower", "(II)V"⟩, 14) := ⟨⟨by decide +kernel, by decide +kernel⟩, List.mem_of_getElem? (i := 35) (by decide +kernel), List.mem_of_getElem? (i := 595) (by decide +kernel), List.mem_of_getElem? (i := 596) (by decide +kernel)⟩
theorem lw_p10 : lw_okq (⟨"RootJudge$Reader", "readBase", "(II)V"⟩, 14) := ⟨⟨by decide +kernel, by decide +kernel⟩, List.mem_of_getElem? (i := 35) (by decide +kernel), List.mem_of_getElem? (i := 599) (by decide +kernel), List.mem_of_getElem? (i := 600) (by decide +kernel)⟩
theorem lw_p11 : lw_okq (⟨"RootJudge$Reader", "slot", "(I)LRootJudge$Poly;"⟩, 14) := ⟨⟨by decide +kernel, by decide +kernel⟩, List.mem_of_getElem? (i := 35) (by decide +kernel), List.mem_of_getElem? (i := 603) (by decide +kernel), List.mem_of_getElem? (i := 604) (by decide +kernel)⟩
theorem lw_p12 : lw_okq (⟨"RootJudge$Reader", "readNumber", "()I"⟩, 14) := ⟨⟨by decide +kernel, by decide +kernel⟩, List.mem_of_getElem? (i := 35) (by decide +kernel), List.mem_of_getElem? (i := 616) (by decide +kernel), List.mem_of_getElem? (i := 617) (by decide +kernel)⟩
theorem lw_p13 : lw_okq (⟨"RootJudge$Reader", "expect", "(I)V"⟩, 14) := ⟨⟨by decide +kernel, by decide +kernel⟩, List.mem_of_getElem? (i := 35) (by decide +kernel), List.mem_of_getElem? (i := 621) (by decide +kernel), List.mem_of_getElem? (i := 622) (by decide +kernel)⟩
theorem lw_p14 : lw_okq (⟨"RootJudge$Reader", "raise", "(LRootJudge$Poly;II)V"⟩, 14) := ⟨⟨by decide +kernel, by decide +kernel⟩, List.mem_of_getElem? (i := 35) (by decide +kernel), List.mem_of_getElem? (i := 625) (by decide +kernel), List.mem_of_getElem? (i := 626) (by decide +kernel)⟩
theorem lw_p15 : lw_okq (⟨"RootJudge$Reader", "multiply", "(LRootJudge$Poly;LRootJudge$Poly;I)V"⟩, 14) := ⟨⟨by decide +kernel, by decide +kernel⟩, List.mem_of_getElem? (i := 35) (by decide +kernel), List.mem_of_getElem? (i := 634) (by decide +kernel), List.mem_of_getElem? (i := 635) (by decide +kernel)⟩
def lw_privs_1 : List (MethodName × Nat) := [(⟨"RootJudge$Reader", "look", "()V"⟩, 14), (⟨"RootJudge$Reader", "fail", "(II)V"⟩, 14), (⟨"RootJudge$Reader", "readText", "(I)V"⟩, 14), (⟨"RootJudge$Reader", "readAll", "(I)V"⟩, 14), (⟨"RootJudge$Reader", "readOne", "(I)V"⟩, 14), (⟨"RootJudge$Reader", "step", "()V"⟩, 14), (⟨"RootJudge$Reader", "readAtom", "()V"⟩, 14), (⟨"RootJudge$Reader", "readSum", "(II)V"⟩, 14), (⟨"RootJudge$Reader", "readTerm", "(II)V"⟩, 14), (⟨"RootJudge$Reader", "readPower", "(II)V"⟩, 14), (⟨"RootJudge$Reader", "readBase", "(II)V"⟩, 14), (⟨"RootJudge$Reader", "slot", "(I)LRootJudge$Poly;"⟩, 14), (⟨"RootJudge$Reader", "readNumber", "()I"⟩, 14), (⟨"RootJudge$Reader", "expect", "(I)V"⟩, 14), (⟨"RootJudge$Reader", "raise", "(LRootJudge$Poly;II)V"⟩, 14), (⟨"RootJudge$Reader", "multiply", "(LRootJudge$Poly;LRootJudge$Poly;I)V"⟩, 14)]
theorem lw_r1 : ∀ q ∈ lw_privs_1, lw_okq q := List.forall_mem_cons.mpr ⟨lw_p0, List.forall_mem_cons.mpr ⟨lw_p1, List.forall_mem_cons.mpr ⟨lw_p2, List.forall_mem_cons.mpr ⟨lw_p3, List.forall_mem_cons.mpr ⟨lw_p4, List.forall_mem_cons.mpr ⟨lw_p5, List.forall_mem_cons.mpr ⟨lw_p6, List.forall_mem_cons.mpr ⟨lw_p7, List.forall_mem_cons.mpr ⟨lw_p8, List.forall_mem_cons.mpr ⟨lw_p9, List.forall_mem_cons.mpr ⟨lw_p10, List.forall_mem_cons.mpr ⟨lw_p11, List.forall_mem_cons.mpr ⟨lw_p12, List.forall_mem_cons.mpr ⟨lw_p13, List.forall_mem_cons.mpr ⟨lw_p14, List.forall_mem_cons.mpr ⟨lw_p15, fun _ h => absurd h List.not_mem_nil⟩⟩⟩⟩⟩⟩⟩⟩⟩⟩⟩⟩⟩⟩⟩⟩
theorem lw_p16 : lw_okq (⟨"RootJudge$Reader", "accept", "(LRootJudge$Poly;I)V"⟩, 14) := ⟨⟨by decide +kernel, by decide +kernel⟩, List.mem_of_getElem? (i := 35) (by decide +kernel), List.mem_of_getElem? (i := 638) (by decide +kernel), List.mem_of_getElem? (i := 639) (by decide +kernel)⟩
theorem lw_p17 : lw_okq (⟨"RootJudge$Reader", "addTo", "(LRootJudge$Poly;LRootJudge$Poly;II)V"⟩, 14) := ⟨⟨by decide +kernel, by decide +kernel⟩, List.mem_of_getElem? (i := 35) (by decide +kernel), List.mem_of_getElem? (i := 650) (by decide +kernel), List.mem_of_getElem? (i := 651) (by decide +kernel)⟩
theorem lw_p18 : lw_okq (⟨"RootJudge$Reader", "emit", "(I)V"⟩, 14) := ⟨⟨by decide +kernel, by decide +kernel⟩, List.mem_of_getElem? (i := 35) (by decide +kernel), List.mem_of_getElem? (i := 655) (by decide +kernel), List.mem_of_getElem? (i := 656) (by decide +kernel)⟩
theorem lw_p19 : lw_okq (⟨"RootJudge$Divider", "imageModulo", "(LRootJudge$Poly;LRootJudge$Poly;J)I"⟩, 8) := ⟨⟨by decide +kernel, by decide +kernel⟩, List.mem_of_getElem? (i := 134) (by decide +kernel), List.mem_of_getElem? (i := 688) (by decide +kernel), List.mem_of_getElem? (i := 689) (by decide +kernel)⟩
theorem lw_p20 : lw_okq (⟨"RootJudge$Divider", "rebuild", "(JIJJ)V"⟩, 8) := ⟨⟨by decide +kernel, by decide +kernel⟩, List.mem_of_getElem? (i := 134) (by decide +kernel), List.mem_of_getElem? (i := 707) (by decide +kernel), List.mem_of_getElem? (i := 708) (by decide +kernel)⟩
theorem lw_p21 : lw_okq (⟨"RootJudge$Basis", "foldRest", "(I)V"⟩, 8) := ⟨⟨by decide +kernel, by decide +kernel⟩, List.mem_of_getElem? (i := 126) (by decide +kernel), List.mem_of_getElem? (i := 724) (by decide +kernel), List.mem_of_getElem? (i := 725) (by decide +kernel)⟩
theorem lw_p22 : lw_okq (⟨"RootJudge$Parter", "begin", "(LRootJudge$Poly;I)V"⟩, 6) := ⟨⟨by decide +kernel, by decide +kernel⟩, List.mem_of_getElem? (i := 197) (by decide +kernel), List.mem_of_getElem? (i := 762) (by decide +kernel), List.mem_of_getElem? (i := 763) (by decide +kernel)⟩
theorem lw_p23 : lw_okq (⟨"RootJudge$Big", "trim", "()V"⟩, 3) := ⟨⟨by decide +kernel, by decide +kernel⟩, List.mem_of_getElem? (i := 204) (by decide +kernel), List.mem_of_getElem? (i := 772) (by decide +kernel), List.mem_of_getElem? (i := 773) (by decide +kernel)⟩
theorem lw_p24 : lw_okq (⟨"RootJudge$Parter", "moveBy", "([LRootJudge$Big;I)V"⟩, 6) := ⟨⟨by decide +kernel, by decide +kernel⟩, List.mem_of_getElem? (i := 197) (by decide +kernel), List.mem_of_getElem? (i := 776) (by decide +kernel), List.mem_of_getElem? (i := 777) (by decide +kernel)⟩
theorem lw_p25 : lw_okq (⟨"RootJudge$Big", "grow", "(LRootJudge$Big;)V"⟩, 3) := ⟨⟨by decide +kernel, by decide +kernel⟩, List.mem_of_getElem? (i := 204) (by decide +kernel), List.mem_of_getElem? (i := 791) (by decide +kernel), List.mem_of_getElem? (i := 792) (by decide +kernel)⟩
theorem lw_p26 : lw_okq (⟨"RootJudge$Big", "shrink", "(LRootJudge$Big;)V"⟩, 3) := ⟨⟨by decide +kernel, by decide +kernel⟩, List.mem_of_getElem? (i := 204) (by decide +kernel), List.mem_of_getElem? (i := 795) (by decide +kernel), List.mem_of_getElem? (i := 796) (by decide +kernel)⟩
theorem lw_p27 : lw_okq (⟨"RootJudge$Parter", "dropZero", "()V"⟩, 6) := ⟨⟨by decide +kernel, by decide +kernel⟩, List.mem_of_getElem? (i := 197) (by decide +kernel), List.mem_of_getElem? (i := 806) (by decide +kernel), List.mem_of_getElem? (i := 807) (by decide +kernel)⟩
theorem lw_p28 : lw_okq (⟨"RootJudge$Parter", "changes", "()I"⟩, 6) := ⟨⟨by decide +kernel, by decide +kernel⟩, List.mem_of_getElem? (i := 197) (by decide +kernel), List.mem_of_getElem? (i := 811) (by decide +kernel), List.mem_of_getElem? (i := 812) (by decide +kernel)⟩
theorem lw_p29 : lw_okq (⟨"RootJudge$Parter", "mixed", "([LRootJudge$Big;)Z"⟩, 6) := ⟨⟨by decide +kernel, by decide +kernel⟩, List.mem_of_getElem? (i := 197) (by decide +kernel), List.mem_of_getElem? (i := 815) (by decide +kernel), List.mem_of_getElem? (i := 816) (by decide +kernel)⟩
theorem lw_p30 : lw_okq (⟨"RootJudge$Parter", "halve", "()V"⟩, 6) := ⟨⟨by decide +kernel, by decide +kernel⟩, List.mem_of_getElem? (i := 197) (by decide +kernel), List.mem_of_getElem? (i := 819) (by decide +kernel), List.mem_of_getElem? (i := 820) (by decide +kernel)⟩
theorem lw_p31 : lw_okq (⟨"RootJudge$Parter", "stepOn", "(I)Z"⟩, 6) := ⟨⟨by decide +kernel, by decide +kernel⟩, List.mem_of_getElem? (i := 197) (by decide +kernel), List.mem_of_getElem? (i := 823) (by decide +kernel), List.mem_of_getElem? (i := 824) (by decide +kernel)⟩
def lw_privs_2 : List (MethodName × Nat) := [(⟨"RootJudge$Reader", "accept", "(LRootJudge$Poly;I)V"⟩, 14), (⟨"RootJudge$Reader", "addTo", "(LRootJudge$Poly;LRootJudge$Poly;II)V"⟩, 14), (⟨"RootJudge$Reader", "emit", "(I)V"⟩, 14), (⟨"RootJudge$Divider", "imageModulo", "(LRootJudge$Poly;LRootJudge$Poly;J)I"⟩, 8), (⟨"RootJudge$Divider", "rebuild", "(JIJJ)V"⟩, 8), (⟨"RootJudge$Basis", "foldRest", "(I)V"⟩, 8), (⟨"RootJudge$Parter", "begin", "(LRootJudge$Poly;I)V"⟩, 6), (⟨"RootJudge$Big", "trim", "()V"⟩, 3), (⟨"RootJudge$Parter", "moveBy", "([LRootJudge$Big;I)V"⟩, 6), (⟨"RootJudge$Big", "grow", "(LRootJudge$Big;)V"⟩, 3), (⟨"RootJudge$Big", "shrink", "(LRootJudge$Big;)V"⟩, 3), (⟨"RootJudge$Parter", "dropZero", "()V"⟩, 6), (⟨"RootJudge$Parter", "changes", "()I"⟩, 6), (⟨"RootJudge$Parter", "mixed", "([LRootJudge$Big;)Z"⟩, 6), (⟨"RootJudge$Parter", "halve", "()V"⟩, 6), (⟨"RootJudge$Parter", "stepOn", "(I)Z"⟩, 6)]
theorem lw_r2 : ∀ q ∈ lw_privs_2, lw_okq q := List.forall_mem_cons.mpr ⟨lw_p16, List.forall_mem_cons.mpr ⟨lw_p17, List.forall_mem_cons.mpr ⟨lw_p18, List.forall_mem_cons.mpr ⟨lw_p19, List.forall_mem_cons.mpr ⟨lw_p20, List.forall_mem_cons.mpr ⟨lw_p21, List.forall_mem_cons.mpr ⟨lw_p22, List.forall_mem_cons.mpr ⟨lw_p23, List.forall_mem_cons.mpr ⟨lw_p24, List.forall_mem_cons.mpr ⟨lw_p25, List.forall_mem_cons.mpr ⟨lw_p26, List.forall_mem_cons.mpr ⟨lw_p27, List.forall_mem_cons.mpr ⟨lw_p28, List.forall_mem_cons.mpr ⟨lw_p29, List.forall_mem_cons.mpr ⟨lw_p30, List.forall_mem_cons.mpr ⟨lw_p31, fun _ h => absurd h List.not_mem_nil⟩⟩⟩⟩⟩⟩⟩⟩⟩⟩⟩⟩⟩⟩⟩⟩
theorem lw_p32 : lw_okq (⟨"RootJudge$Finder", "readBinary", "(LRootJudge$Root;)V"⟩, 17) := ⟨⟨by decide +kernel, by decide +kernel⟩, List.mem_of_getElem? (i := 120) (by decide +kernel), List.mem_of_getElem? (i := 835) (by decide +kernel), List.mem_of_getElem? (i := 836) (by decide +kernel)⟩
theorem lw_p33 : lw_okq (⟨"RootJudge$Finder", "giveOwnPiece", "(LRootJudge$Root;I)V"⟩, 17) := ⟨⟨by decide +kernel, by decide +kernel⟩, List.mem_of_getElem? (i := 120) (by decide +kernel), List.mem_of_getElem? (i := 848) (by decide +kernel), List.mem_of_getElem? (i := 849) (by decide +kernel)⟩
theorem lw_p34 : lw_okq (⟨"RootJudge$Finder", "settle", "(LRootJudge$Root;I)V"⟩, 17) := ⟨⟨by decide +kernel, by decide +kernel⟩, List.mem_of_getElem? (i := 120) (by decide +kernel), List.mem_of_getElem? (i := 854) (by decide +kernel), List.mem_of_getElem? (i := 855) (by decide +kernel)⟩
theorem lw_p35 : lw_okq (⟨"RootJudge$Finder", "tighten", "(LRootJudge$Root;LRootJudge$Poly;I)V"⟩, 17) := ⟨⟨by decide +kernel, by decide +kernel⟩, List.mem_of_getElem? (i := 120) (by decide +kernel), List.mem_of_getElem? (i := 858) (by decide +kernel), List.mem_of_getElem? (i := 859) (by decide +kernel)⟩
theorem lw_p36 : lw_okq (⟨"RootJudge$Finder", "setValue", "(LRootJudge$Big;LRootJudge$Poly;LRootJudge$Big;I)V"⟩, 17) := ⟨⟨by decide +kernel, by decide +kernel⟩, List.mem_of_getElem? (i := 120) (by decide +kernel), List.mem_of_getElem? (i := 863) (by decide +kernel), List.mem_of_getElem? (i := 864) (by decide +kernel)⟩
theorem lw_p37 : lw_okq (⟨"RootJudge$Finder", "guessJump", "(I)V"⟩, 17) := ⟨⟨by decide +kernel, by decide +kernel⟩, List.mem_of_getElem? (i := 120) (by decide +kernel), List.mem_of_getElem? (i := 873) (by decide +kernel), List.mem_of_getElem? (i := 874) (by decide +kernel)⟩
theorem lw_p38 : lw_okq (⟨"RootJudge$Finder", "take", "(LRootJudge$Root;IZ)V"⟩, 17) := ⟨⟨by decide +kernel, by decide +kernel⟩, List.mem_of_getElem? (i := 120) (by decide +kernel), List.mem_of_getElem? (i := 889) (by decide +kernel), List.mem_of_getElem? (i := 890) (by decide +kernel)⟩
theorem lw_p39 : lw_okq (⟨"RootJudge$Finder", "readParts", "(LRootJudge$Root;)V"⟩, 17) := ⟨⟨by decide +kernel, by decide +kernel⟩, List.mem_of_getElem? (i := 120) (by decide +kernel), List.mem_of_getElem? (i := 893) (by decide +kernel), List.mem_of_getElem? (i := 894) (by decide +kernel)⟩
theorem lw_p40 : lw_okq (⟨"RootJudge$Finder", "tryFraction", "(LRootJudge$Root;LRootJudge$Poly;)V"⟩, 17) := ⟨⟨by decide +kernel, by decide +kernel⟩, List.mem_of_getElem? (i := 120) (by decide +kernel), List.mem_of_getElem? (i := 898) (by decide +kernel), List.mem_of_getElem? (i := 899) (by decide +kernel)⟩
theorem lw_p41 : lw_okq (⟨"RootJudge$Finder", "sideOf", "(LRootJudge$Root;JJ)I"⟩, 17) := ⟨⟨by decide +kernel, by decide +kernel⟩, List.mem_of_getElem? (i := 120) (by decide +kernel), List.mem_of_getElem? (i := 906) (by decide +kernel), List.mem_of_getElem? (i := 907) (by decide +kernel)⟩
theorem lw_p42 : lw_okq (⟨"RootJudge$Finder", "setSigns", "(I)V"⟩, 17) := ⟨⟨by decide +kernel, by decide +kernel⟩, List.mem_of_getElem? (i := 120) (by decide +kernel), List.mem_of_getElem? (i := 910) (by decide +kernel), List.mem_of_getElem? (i := 911) (by decide +kernel)⟩
theorem lw_p43 : lw_okq (⟨"RootJudge$Line", "fillSigns", "(I)V"⟩, 13) := ⟨⟨by decide +kernel, by decide +kernel⟩, List.mem_of_getElem? (i := 29) (by decide +kernel), List.mem_of_getElem? (i := 945) (by decide +kernel), List.mem_of_getElem? (i := 946) (by decide +kernel)⟩
theorem lw_p44 : lw_okq (⟨"RootJudge$Line", "trueAtoms", "(I)I"⟩, 13) := ⟨⟨by decide +kernel, by decide +kernel⟩, List.mem_of_getElem? (i := 29) (by decide +kernel), List.mem_of_getElem? (i := 955) (by decide +kernel), List.mem_of_getElem? (i := 956) (by decide +kernel)⟩
theorem lw_p45 : lw_okq (⟨"RootJudge", "isAtom", "(I)Z"⟩, 8) := ⟨⟨by decide +kernel, by decide +kernel⟩, List.mem_of_getElem? (i := 21) (by decide +kernel), List.mem_of_getElem? (i := 972) (by decide +kernel), List.mem_of_getElem? (i := 973) (by decide +kernel)⟩
theorem lw_p46 : lw_okq (⟨"RootJudge", "isCell", "(I)Z"⟩, 8) := ⟨⟨by decide +kernel, by decide +kernel⟩, List.mem_of_getElem? (i := 21) (by decide +kernel), List.mem_of_getElem? (i := 994) (by decide +kernel), List.mem_of_getElem? (i := 995) (by decide +kernel)⟩
theorem lw_p47 : lw_okq (⟨"RootJudge", "isRoot", "(I)Z"⟩, 8) := ⟨⟨by decide +kernel, by decide +kernel⟩, List.mem_of_getElem? (i := 21) (by decide +kernel), List.mem_of_getElem? (i := 1006) (by decide +kernel), List.mem_of_getElem? (i := 1007) (by decide +kernel)⟩
def lw_privs_3 : List (MethodName × Nat) := [(⟨"RootJudge$Finder", "readBinary", "(LRootJudge$Root;)V"⟩, 17), (⟨"RootJudge$Finder", "giveOwnPiece", "(LRootJudge$Root;I)V"⟩, 17), (⟨"RootJudge$Finder", "settle", "(LRootJudge$Root;I)V"⟩, 17), (⟨"RootJudge$Finder", "tighten", "(LRootJudge$Root;LRootJudge$Poly;I)V"⟩, 17), (⟨"RootJudge$Finder", "setValue", "(LRootJudge$Big;LRootJudge$Poly;LRootJudge$Big;I)V"⟩, 17), (⟨"RootJudge$Finder", "guessJump", "(I)V"⟩, 17), (⟨"RootJudge$Finder", "take", "(LRootJudge$Root;IZ)V"⟩, 17), (⟨"RootJudge$Finder", "readParts", "(LRootJudge$Root;)V"⟩, 17), (⟨"RootJudge$Finder", "tryFraction", "(LRootJudge$Root;LRootJudge$Poly;)V"⟩, 17), (⟨"RootJudge$Finder", "sideOf", "(LRootJudge$Root;JJ)I"⟩, 17), (⟨"RootJudge$Finder", "setSigns", "(I)V"⟩, 17), (⟨"RootJudge$Line", "fillSigns", "(I)V"⟩, 13), (⟨"RootJudge$Line", "trueAtoms", "(I)I"⟩, 13), (⟨"RootJudge", "isAtom", "(I)Z"⟩, 8), (⟨"RootJudge", "isCell", "(I)Z"⟩, 8), (⟨"RootJudge", "isRoot", "(I)Z"⟩, 8)]
theorem lw_r3 : ∀ q ∈ lw_privs_3, lw_okq q := List.forall_mem_cons.mpr ⟨lw_p32, List.forall_mem_cons.mpr ⟨lw_p33, List.forall_mem_cons.mpr ⟨lw_p34, List.forall_mem_cons.mpr ⟨lw_p35, List.forall_mem_cons.mpr ⟨lw_p36, List.forall_mem_cons.mpr ⟨lw_p37, List.forall_mem_cons.mpr ⟨lw_p38, List.forall_mem_cons.mpr ⟨lw_p39, List.forall_mem_cons.mpr ⟨lw_p40, List.forall_mem_cons.mpr ⟨lw_p41, List.forall_mem_cons.mpr ⟨lw_p42, List.forall_mem_cons.mpr ⟨lw_p43, List.forall_mem_cons.mpr ⟨lw_p44, List.forall_mem_cons.mpr ⟨lw_p45, List.forall_mem_cons.mpr ⟨lw_p46, List.forall_mem_cons.mpr ⟨lw_p47, fun _ h => absurd h List.not_mem_nil⟩⟩⟩⟩⟩⟩⟩⟩⟩⟩⟩⟩⟩⟩⟩⟩
theorem lw_p48 : lw_okq (⟨"RootJudge$Line", "descend", "(IJ)V"⟩, 13) := ⟨⟨by decide +kernel, by decide +kernel⟩, List.mem_of_getElem? (i := 29) (by decide +kernel), List.mem_of_getElem? (i := 1049) (by decide +kernel), List.mem_of_getElem? (i := 1050) (by decide +kernel)⟩
theorem lw_p49 : lw_okq (⟨"RootJudgeModel", "readText", "()V"⟩, 55) := ⟨⟨by decide +kernel, by decide +kernel⟩, List.mem_of_getElem? (i := 1077) (by decide +kernel), List.mem_of_getElem? (i := 1265) (by decide +kernel), List.mem_of_getElem? (i := 1266) (by decide +kernel)⟩
theorem lw_p50 : lw_okq (⟨"RootJudgeModel", "good", "()Z"⟩, 55) := ⟨⟨by decide +kernel, by decide +kernel⟩, List.mem_of_getElem? (i := 1077) (by decide +kernel), List.mem_of_getElem? (i := 1269) (by decide +kernel), List.mem_of_getElem? (i := 1270) (by decide +kernel)⟩
theorem lw_p51 : lw_okq (⟨"RootJudgeModel", "peek", "()I"⟩, 55) := ⟨⟨by decide +kernel, by decide +kernel⟩, List.mem_of_getElem? (i := 1077) (by decide +kernel), List.mem_of_getElem? (i := 1273) (by decide +kernel), List.mem_of_getElem? (i := 1274) (by decide +kernel)⟩
theorem lw_p52 : lw_okq (⟨"RootJudgeModel", "fail", "(II)V"⟩, 55) := ⟨⟨by decide +kernel, by decide +kernel⟩, List.mem_of_getElem? (i := 1077) (by decide +kernel), List.mem_of_getElem? (i := 1277) (by decide +kernel), List.mem_of_getElem? (i := 1278) (by decide +kernel)⟩
theorem lw_p53 : lw_okq (⟨"RootJudgeModel", "wait1", "(I)V"⟩, 55) := ⟨⟨by decide +kernel, by decide +kernel⟩, List.mem_of_getElem? (i := 1077) (by decide +kernel), List.mem_of_getElem? (i := 1281) (by decide +kernel), List.mem_of_getElem? (i := 1282) (by decide +kernel)⟩
theorem lw_p54 : lw_okq (⟨"RootJudgeModel", "readAtom", "()V"⟩, 55) := ⟨⟨by decide +kernel, by decide +kernel⟩, List.mem_of_getElem? (i := 1077) (by decide +kernel), List.mem_of_getElem? (i := 1285) (by decide +kernel), List.mem_of_getElem? (i := 1286) (by decide +kernel)⟩
theorem lw_p55 : lw_okq (⟨"RootJudgeModel", "readSum", "()V"⟩, 55) := ⟨⟨by decide +kernel, by decide +kernel⟩, List.mem_of_getElem? (i := 1077) (by decide +kernel), List.mem_of_getElem? (i := 1289) (by decide +kernel), List.mem_of_getElem? (i := 1290) (by decide +kernel)⟩
theorem lw_p56 : lw_okq (⟨"RootJudgeModel", "beginSum", "()V"⟩, 55) := ⟨⟨by decide +kernel, by decide +kernel⟩, List.mem_of_getElem? (i := 1077) (by decide +kernel), List.mem_of_getElem? (i := 1293) (by decide +kernel), List.mem_of_getElem? (i := 1294) (by decide +kernel)⟩
theorem lw_p57 : lw_okq (⟨"RootJudgeModel", "takeBase", "(I)Z"⟩, 55) := ⟨⟨by decide +kernel, by decide +kernel⟩, List.mem_of_getElem? (i := 1077) (by decide +kernel), List.mem_of_getElem? (i := 1297) (by decide +kernel), List.mem_of_getElem? (i := 1298) (by decide +kernel)⟩
theorem lw_p58 : lw_okq (⟨"RootJudgeModel", "number", "()I"⟩, 55) := ⟨⟨by decide +kernel, by decide +kernel⟩, List.mem_of_getElem? (i := 1077) (by decide +kernel), List.mem_of_getElem? (i := 1304) (by decide +kernel), List.mem_of_getElem? (i := 1305) (by decide +kernel)⟩
theorem lw_p59 : lw_okq (⟨"RootJudgeModel", "cannot", "()V"⟩, 55) := ⟨⟨by decide +kernel, by decide +kernel⟩, List.mem_of_getElem? (i := 1077) (by decide +kernel), List.mem_of_getElem? (i := 1308) (by decide +kernel), List.mem_of_getElem? (i := 1309) (by decide +kernel)⟩
theorem lw_p60 : lw_okq (⟨"RootJudgeModel", "endBase", "()V"⟩, 55) := ⟨⟨by decide +kernel, by decide +kernel⟩, List.mem_of_getElem? (i := 1077) (by decide +kernel), List.mem_of_getElem? (i := 1315) (by decide +kernel), List.mem_of_getElem? (i := 1316) (by decide +kernel)⟩
theorem lw_p61 : lw_okq (⟨"RootJudgeModel", "look", "()V"⟩, 55) := ⟨⟨by decide +kernel, by decide +kernel⟩, List.mem_of_getElem? (i := 1077) (by decide +kernel), List.mem_of_getElem? (i := 1319) (by decide +kernel), List.mem_of_getElem? (i := 1320) (by decide +kernel)⟩
theorem lw_p62 : lw_okq (⟨"RootJudgeModel", "raise", "(II)V"⟩, 55) := ⟨⟨by decide +kernel, by decide +kernel⟩, List.mem_of_getElem? (i := 1077) (by decide +kernel), List.mem_of_getElem? (i := 1323) (by decide +kernel), List.mem_of_getElem? (i := 1324) (by decide +kernel)⟩
theorem lw_p63 : lw_okq (⟨"RootJudgeModel", "multiply", "(I)V"⟩, 55) := ⟨⟨by decide +kernel, by decide +kernel⟩, List.mem_of_getElem? (i := 1077) (by decide +kernel), List.mem_of_getElem? (i := 1328) (by decide +kernel), List.mem_of_getElem? (i := 1329) (by decide +kernel)⟩
def lw_privs_4 : List (MethodName × Nat) := [(⟨"RootJudge$Line", "descend", "(IJ)V"⟩, 13), (⟨"RootJudgeModel", "readText", "()V"⟩, 55), (⟨"RootJudgeModel", "good", "()Z"⟩, 55), (⟨"RootJudgeModel", "peek", "()I"⟩, 55), (⟨"RootJudgeModel", "fail", "(II)V"⟩, 55), (⟨"RootJudgeModel", "wait1", "(I)V"⟩, 55), (⟨"RootJudgeModel", "readAtom", "()V"⟩, 55), (⟨"RootJudgeModel", "readSum", "()V"⟩, 55), (⟨"RootJudgeModel", "beginSum", "()V"⟩, 55), (⟨"RootJudgeModel", "takeBase", "(I)Z"⟩, 55), (⟨"RootJudgeModel", "number", "()I"⟩, 55), (⟨"RootJudgeModel", "cannot", "()V"⟩, 55), (⟨"RootJudgeModel", "endBase", "()V"⟩, 55), (⟨"RootJudgeModel", "look", "()V"⟩, 55), (⟨"RootJudgeModel", "raise", "(II)V"⟩, 55), (⟨"RootJudgeModel", "multiply", "(I)V"⟩, 55)]
theorem lw_r4 : ∀ q ∈ lw_privs_4, lw_okq q := List.forall_mem_cons.mpr ⟨lw_p48, List.forall_mem_cons.mpr ⟨lw_p49, List.forall_mem_cons.mpr ⟨lw_p50, List.forall_mem_cons.mpr ⟨lw_p51, List.forall_mem_cons.mpr ⟨lw_p52, List.forall_mem_cons.mpr ⟨lw_p53, List.forall_mem_cons.mpr ⟨lw_p54, List.forall_mem_cons.mpr ⟨lw_p55, List.forall_mem_cons.mpr ⟨lw_p56, List.forall_mem_cons.mpr ⟨lw_p57, List.forall_mem_cons.mpr ⟨lw_p58, List.forall_mem_cons.mpr ⟨lw_p59, List.forall_mem_cons.mpr ⟨lw_p60, List.forall_mem_cons.mpr ⟨lw_p61, List.forall_mem_cons.mpr ⟨lw_p62, List.forall_mem_cons.mpr ⟨lw_p63, fun _ h => absurd h List.not_mem_nil⟩⟩⟩⟩⟩⟩⟩⟩⟩⟩⟩⟩⟩⟩⟩⟩
theorem lw_p64 : lw_okq (⟨"RootJudgeModel", "isFine", "(J)Z"⟩, 55) := ⟨⟨by decide +kernel, by decide +kernel⟩, List.mem_of_getElem? (i := 1077) (by decide +kernel), List.mem_of_getElem? (i := 1332) (by decide +kernel), List.mem_of_getElem? (i := 1333) (by decide +kernel)⟩
theorem lw_p65 : lw_okq (⟨"RootJudgeModel", "endTerm", "()V"⟩, 55) := ⟨⟨by decide +kernel, by decide +kernel⟩, List.mem_of_getElem? (i := 1077) (by decide +kernel), List.mem_of_getElem? (i := 1338) (by decide +kernel), List.mem_of_getElem? (i := 1339) (by decide +kernel)⟩
theorem lw_p66 : lw_okq (⟨"RootJudgeModel", "endBracket", "(I)V"⟩, 55) := ⟨⟨by decide +kernel, by decide +kernel⟩, List.mem_of_getElem? (i := 1077) (by decide +kernel), List.mem_of_getElem? (i := 1342) (by decide +kernel), List.mem_of_getElem? (i := 1343) (by decide +kernel)⟩
theorem lw_p67 : lw_okq (⟨"RootJudgeModel", "make", "(I)V"⟩, 55) := ⟨⟨by decide +kernel, by decide +kernel⟩, List.mem_of_getElem? (i := 1077) (by decide +kernel), List.mem_of_getElem? (i := 1346) (by decide +kernel), List.mem_of_getElem? (i := 1347) (by decide +kernel)⟩
theorem lw_p68 : lw_okq (⟨"RootJudgeModel", "settle", "(I)V"⟩, 55) := ⟨⟨by decide +kernel, by decide +kernel⟩, List.mem_of_getElem? (i := 1077) (by decide +kernel), List.mem_of_getElem? (i := 1350) (by decide +kernel), List.mem_of_getElem? (i := 1351) (by decide +kernel)⟩
theorem lw_p69 : lw_okq (⟨"RootJudgeModel", "findAll", "()V"⟩, 55) := ⟨⟨by decide +kernel, by decide +kernel⟩, List.mem_of_getElem? (i := 1077) (by decide +kernel), List.mem_of_getElem? (i := 1354) (by decide +kernel), List.mem_of_getElem? (i := 1355) (by decide +kernel)⟩
theorem lw_p70 : lw_okq (⟨"RootJudgeModel", "part1", "(I)V"⟩, 55) := ⟨⟨by decide +kernel, by decide +kernel⟩, List.mem_of_getElem? (i := 1077) (by decide +kernel), List.mem_of_getElem? (i := 1358) (by decide +kernel), List.mem_of_getElem? (i := 1359) (by decide +kernel)⟩
theorem lw_p71 : lw_okq (⟨"RootJudgeModel", "polynomialOf", "(I)I"⟩, 55) := ⟨⟨by decide +kernel, by decide +kernel⟩, List.mem_of_getElem? (i := 1077) (by decide +kernel), List.mem_of_getElem? (i := 1362) (by decide +kernel), List.mem_of_getElem? (i := 1363) (by decide +kernel)⟩
theorem lw_p72 : lw_okq (⟨"RootJudgeModel", "newPolynomial", "(I)I"⟩, 55) := ⟨⟨by decide +kernel, by decide +kernel⟩, List.mem_of_getElem? (i := 1077) (by decide +kernel), List.mem_of_getElem? (i := 1366) (by decide +kernel), List.mem_of_getElem? (i := 1367) (by decide +kernel)⟩
theorem lw_p73 : lw_okq (⟨"RootJudgeModel", "whole", "(J)I"⟩, 55) := ⟨⟨by decide +kernel, by decide +kernel⟩, List.mem_of_getElem? (i := 1077) (by decide +kernel), List.mem_of_getElem? (i := 1370) (by decide +kernel), List.mem_of_getElem? (i := 1371) (by decide +kernel)⟩
theorem lw_p74 : lw_okq (⟨"RootJudgeModel", "set", "(III)V"⟩, 55) := ⟨⟨by decide +kernel, by decide +kernel⟩, List.mem_of_getElem? (i := 1077) (by decide +kernel), List.mem_of_getElem? (i := 1374) (by decide +kernel), List.mem_of_getElem? (i := 1375) (by decide +kernel)⟩
theorem lw_p75 : lw_okq (⟨"RootJudgeModel", "clean", "(IZ)V"⟩, 55) := ⟨⟨by decide +kernel, by decide +kernel⟩, List.mem_of_getElem? (i := 1077) (by decide +kernel), List.mem_of_getElem? (i := 1378) (by decide +kernel), List.mem_of_getElem? (i := 1379) (by decide +kernel)⟩
theorem lw_p76 : lw_okq (⟨"RootJudgeModel", "at", "(II)I"⟩, 55) := ⟨⟨by decide +kernel, by decide +kernel⟩, List.mem_of_getElem? (i := 1077) (by decide +kernel), List.mem_of_getElem? (i := 1382) (by decide +kernel), List.mem_of_getElem? (i := 1383) (by decide +kernel)⟩
theorem lw_p77 : lw_okq (⟨"RootJudgeModel", "sgn", "(I)I"⟩, 55) := ⟨⟨by decide +kernel, by decide +kernel⟩, List.mem_of_getElem? (i := 1077) (by decide +kernel), List.mem_of_getElem? (i := 1386) (by decide +kernel), List.mem_of_getElem? (i := 1387) (by decide +kernel)⟩
theorem lw_p78 : lw_okq (⟨"RootJudgeModel", "gcd", "(II)I"⟩, 55) := ⟨⟨by decide +kernel, by decide +kernel⟩, List.mem_of_getElem? (i := 1077) (by decide +kernel), List.mem_of_getElem? (i := 1390) (by decide +kernel), List.mem_of_getElem? (i := 1391) (by decide +kernel)⟩
theorem lw_p79 : lw_okq (⟨"RootJudgeModel", "again", "(I)I"⟩, 55) := ⟨⟨by decide +kernel, by decide +kernel⟩, List.mem_of_getElem? (i := 1077) (by decide +kernel), List.mem_of_getElem? (i := 1394) (by decide +kernel), List.mem_of_getElem? (i := 1395) (by decide +kernel)⟩
def lw_privs_5 : List (MethodName × Nat) := [(⟨"RootJudgeModel", "isFine", "(J)Z"⟩, 55), (⟨"RootJudgeModel", "endTerm", "()V"⟩, 55), (⟨"RootJudgeModel", "endBracket", "(I)V"⟩, 55), (⟨"RootJudgeModel", "make", "(I)V"⟩, 55), (⟨"RootJudgeModel", "settle", "(I)V"⟩, 55), (⟨"RootJudgeModel", "findAll", "()V"⟩, 55), (⟨"RootJudgeModel", "part1", "(I)V"⟩, 55), (⟨"RootJudgeModel", "polynomialOf", "(I)I"⟩, 55), (⟨"RootJudgeModel", "newPolynomial", "(I)I"⟩, 55), (⟨"RootJudgeModel", "whole", "(J)I"⟩, 55), (⟨"RootJudgeModel", "set", "(III)V"⟩, 55), (⟨"RootJudgeModel", "clean", "(IZ)V"⟩, 55), (⟨"RootJudgeModel", "at", "(II)I"⟩, 55), (⟨"RootJudgeModel", "sgn", "(I)I"⟩, 55), (⟨"RootJudgeModel", "gcd", "(II)I"⟩, 55), (⟨"RootJudgeModel", "again", "(I)I"⟩, 55)]
theorem lw_r5 : ∀ q ∈ lw_privs_5, lw_okq q := List.forall_mem_cons.mpr ⟨lw_p64, List.forall_mem_cons.mpr ⟨lw_p65, List.forall_mem_cons.mpr ⟨lw_p66, List.forall_mem_cons.mpr ⟨lw_p67, List.forall_mem_cons.mpr ⟨lw_p68, List.forall_mem_cons.mpr ⟨lw_p69, List.forall_mem_cons.mpr ⟨lw_p70, List.forall_mem_cons.mpr ⟨lw_p71, List.forall_mem_cons.mpr ⟨lw_p72, List.forall_mem_cons.mpr ⟨lw_p73, List.forall_mem_cons.mpr ⟨lw_p74, List.forall_mem_cons.mpr ⟨lw_p75, List.forall_mem_cons.mpr ⟨lw_p76, List.forall_mem_cons.mpr ⟨lw_p77, List.forall_mem_cons.mpr ⟨lw_p78, List.forall_mem_cons.mpr ⟨lw_p79, fun _ h => absurd h List.not_mem_nil⟩⟩⟩⟩⟩⟩⟩⟩⟩⟩⟩⟩⟩⟩⟩⟩
theorem lw_p80 : lw_okq (⟨"RootJudgeModel", "copyTo", "(II)V"⟩, 55) := ⟨⟨by decide +kernel, by decide +kernel⟩, List.mem_of_getElem? (i := 1077) (by decide +kernel), List.mem_of_getElem? (i := 1398) (by decide +kernel), List.mem_of_getElem? (i := 1399) (by decide +kernel)⟩
theorem lw_p81 : lw_okq (⟨"RootJudgeModel", "limbs", "(I)I"⟩, 55) := ⟨⟨by decide +kernel, by decide +kernel⟩, List.mem_of_getElem? (i := 1077) (by decide +kernel), List.mem_of_getElem? (i := 1402) (by decide +kernel), List.mem_of_getElem? (i := 1403) (by decide +kernel)⟩
theorem lw_p82 : lw_okq (⟨"RootJudgeModel", "divide", "(II)I"⟩, 55) := ⟨⟨by decide +kernel, by decide +kernel⟩, List.mem_of_getElem? (i := 1077) (by decide +kernel), List.mem_of_getElem? (i := 1406) (by decide +kernel), List.mem_of_getElem? (i := 1407) (by decide +kernel)⟩
theorem lw_p83 : lw_okq (⟨"RootJudgeModel", "digit", "(IIII)I"⟩, 55) := ⟨⟨by decide +kernel, by decide +kernel⟩, List.mem_of_getElem? (i := 1077) (by decide +kernel), List.mem_of_getElem? (i := 1410) (by decide +kernel), List.mem_of_getElem? (i := 1411) (by decide +kernel)⟩
theorem lw_p84 : lw_okq (⟨"RootJudgeModel", "fitsSo", "(IIIIJ)Z"⟩, 55) := ⟨⟨by decide +kernel, by decide +kernel⟩, List.mem_of_getElem? (i := 1077) (by decide +kernel), List.mem_of_getElem? (i := 1416) (by decide +kernel), List.mem_of_getElem? (i := 1417) (by decide +kernel)⟩
theorem lw_p85 : lw_okq (⟨"RootJudgeModel", "keep", "(II)I"⟩, 55) := ⟨⟨by decide +kernel, by decide +kernel⟩, List.mem_of_getElem? (i := 1077) (by decide +kernel), List.mem_of_getElem? (i := 1420) (by decide +kernel), List.mem_of_getElem? (i := 1421) (by decide +kernel)⟩
theorem lw_p86 : lw_okq (⟨"RootJudgeModel", "over", "(II)I"⟩, 55) := ⟨⟨by decide +kernel, by decide +kernel⟩, List.mem_of_getElem? (i := 1077) (by decide +kernel), List.mem_of_getElem? (i := 1424) (by decide +kernel), List.mem_of_getElem? (i := 1425) (by decide +kernel)⟩
theorem lw_p87 : lw_okq (⟨"RootJudgeModel", "minus", "(II)I"⟩, 55) := ⟨⟨by decide +kernel, by decide +kernel⟩, List.mem_of_getElem? (i := 1077) (by decide +kernel), List.mem_of_getElem? (i := 1428) (by decide +kernel), List.mem_of_getElem? (i := 1429) (by decide +kernel)⟩
theorem lw_p88 : lw_okq (⟨"RootJudgeModel", "less", "(I)I"⟩, 55) := ⟨⟨by decide +kernel, by decide +kernel⟩, List.mem_of_getElem? (i := 1077) (by decide +kernel), List.mem_of_getElem? (i := 1432) (by decide +kernel), List.mem_of_getElem? (i := 1433) (by decide +kernel)⟩
theorem lw_p89 : lw_okq (⟨"RootJudgeModel", "plus", "(II)I"⟩, 55) := ⟨⟨by decide +kernel, by decide +kernel⟩, List.mem_of_getElem? (i := 1077) (by decide +kernel), List.mem_of_getElem? (i := 1436) (by decide +kernel), List.mem_of_getElem? (i := 1437) (by decide +kernel)⟩
theorem lw_p90 : lw_okq (⟨"RootJudgeModel", "joined", "(IIZZ)I"⟩, 55) := ⟨⟨by decide +kernel, by decide +kernel⟩, List.mem_of_getElem? (i := 1077) (by decide +kernel), List.mem_of_getElem? (i := 1440) (by decide +kernel), List.mem_of_getElem? (i := 1441) (by decide +kernel)⟩
theorem lw_p91 : lw_okq (⟨"RootJudgeModel", "weigh", "(II)I"⟩, 55) := ⟨⟨by decide +kernel, by decide +kernel⟩, List.mem_of_getElem? (i := 1077) (by decide +kernel), List.mem_of_getElem? (i := 1444) (by decide +kernel), List.mem_of_getElem? (i := 1445) (by decide +kernel)⟩
theorem lw_p92 : lw_okq (⟨"RootJudgeModel", "giveBack", "(II)V"⟩, 55) := ⟨⟨by decide +kernel, by decide +kernel⟩, List.mem_of_getElem? (i := 1077) (by decide +kernel), List.mem_of_getElem? (i := 1448) (by decide +kernel), List.mem_of_getElem? (i := 1449) (by decide +kernel)⟩
theorem lw_p93 : lw_okq (⟨"RootJudgeModel", "derivative", "(I)I"⟩, 55) := ⟨⟨by decide +kernel, by decide +kernel⟩, List.mem_of_getElem? (i := 1077) (by decide +kernel), List.mem_of_getElem? (i := 1452) (by decide +kernel), List.mem_of_getElem? (i := 1453) (by decide +kernel)⟩
theorem lw_p94 : lw_okq (⟨"RootJudgeModel", "by", "(II)I"⟩, 55) := ⟨⟨by decide +kernel, by decide +kernel⟩, List.mem_of_getElem? (i := 1077) (by decide +kernel), List.mem_of_getElem? (i := 1456) (by decide +kernel), List.mem_of_getElem? (i := 1457) (by decide +kernel)⟩
theorem lw_p95 : lw_okq (⟨"RootJudgeModel", "common2", "(II)I"⟩, 55) := ⟨⟨by decide +kernel, by decide +kernel⟩, List.mem_of_getElem? (i := 1077) (by decide +kernel), List.mem_of_getElem? (i := 1460) (by decide +kernel), List.mem_of_getElem? (i := 1461) (by decide +kernel)⟩
def lw_privs_6 : List (MethodName × Nat) := [(⟨"RootJudgeModel", "copyTo", "(II)V"⟩, 55), (⟨"RootJudgeModel", "limbs", "(I)I"⟩, 55), (⟨"RootJudgeModel", "divide", "(II)I"⟩, 55), (⟨"RootJudgeModel", "digit", "(IIII)I"⟩, 55), (⟨"RootJudgeModel", "fitsSo", "(IIIIJ)Z"⟩, 55), (⟨"RootJudgeModel", "keep", "(II)I"⟩, 55), (⟨"RootJudgeModel", "over", "(II)I"⟩, 55), (⟨"RootJudgeModel", "minus", "(II)I"⟩, 55), (⟨"RootJudgeModel", "less", "(I)I"⟩, 55), (⟨"RootJudgeModel", "plus", "(II)I"⟩, 55), (⟨"RootJudgeModel", "joined", "(IIZZ)I"⟩, 55), (⟨"RootJudgeModel", "weigh", "(II)I"⟩, 55), (⟨"RootJudgeModel", "giveBack", "(II)V"⟩, 55), (⟨"RootJudgeModel", "derivative", "(I)I"⟩, 55), (⟨"RootJudgeModel", "by", "(II)I"⟩, 55), (⟨"RootJudgeModel", "common2", "(II)I"⟩, 55)]
theorem lw_r6 : ∀ q ∈ lw_privs_6, lw_okq q := List.forall_mem_cons.mpr ⟨lw_p80, List.forall_mem_cons.mpr ⟨lw_p81, List.forall_mem_cons.mpr ⟨lw_p82, List.forall_mem_cons.mpr ⟨lw_p83, List.forall_mem_cons.mpr ⟨lw_p84, List.forall_mem_cons.mpr ⟨lw_p85, List.forall_mem_cons.mpr ⟨lw_p86, List.forall_mem_cons.mpr ⟨lw_p87, List.forall_mem_cons.mpr ⟨lw_p88, List.forall_mem_cons.mpr ⟨lw_p89, List.forall_mem_cons.mpr ⟨lw_p90, List.forall_mem_cons.mpr ⟨lw_p91, List.forall_mem_cons.mpr ⟨lw_p92, List.forall_mem_cons.mpr ⟨lw_p93, List.forall_mem_cons.mpr ⟨lw_p94, List.forall_mem_cons.mpr ⟨lw_p95, fun _ h => absurd h List.not_mem_nil⟩⟩⟩⟩⟩⟩⟩⟩⟩⟩⟩⟩⟩⟩⟩⟩
theorem lw_p96 : lw_okq (⟨"RootJudgeModel", "restOf", "(II)I"⟩, 55) := ⟨⟨by decide +kernel, by decide +kernel⟩, List.mem_of_getElem? (i := 1077) (by decide +kernel), List.mem_of_getElem? (i := 1464) (by decide +kernel), List.mem_of_getElem? (i := 1465) (by decide +kernel)⟩
theorem lw_p97 : lw_okq (⟨"RootJudgeModel", "share", "(II)I"⟩, 55) := ⟨⟨by decide +kernel, by decide +kernel⟩, List.mem_of_getElem? (i := 1077) (by decide +kernel), List.mem_of_getElem? (i := 1468) (by decide +kernel), List.mem_of_getElem? (i := 1469) (by decide +kernel)⟩
theorem lw_p98 : lw_okq (⟨"RootJudgeModel", "stay", "(I)V"⟩, 55) := ⟨⟨by decide +kernel, by decide +kernel⟩, List.mem_of_getElem? (i := 1077) (by decide +kernel), List.mem_of_getElem? (i := 1472) (by decide +kernel), List.mem_of_getElem? (i := 1473) (by decide +kernel)⟩
theorem lw_p99 : lw_okq (⟨"RootJudgeModel", "comeBack", "()I"⟩, 55) := ⟨⟨by decide +kernel, by decide +kernel⟩, List.mem_of_getElem? (i := 1077) (by decide +kernel), List.mem_of_getElem? (i := 1476) (by decide +kernel), List.mem_of_getElem? (i := 1477) (by decide +kernel)⟩
theorem lw_p100 : lw_okq (⟨"RootJudgeModel", "join", "(I)V"⟩, 55) := ⟨⟨by decide +kernel, by decide +kernel⟩, List.mem_of_getElem? (i := 1077) (by decide +kernel), List.mem_of_getElem? (i := 1480) (by decide +kernel), List.mem_of_getElem? (i := 1481) (by decide +kernel)⟩
theorem lw_p101 : lw_okq (⟨"RootJudgeModel", "findTimes", "()V"⟩, 55) := ⟨⟨by decide +kernel, by decide +kernel⟩, List.mem_of_getElem? (i := 1077) (by decide +kernel), List.mem_of_getElem? (i := 1485) (by decide +kernel), List.mem_of_getElem? (i := 1486) (by decide +kernel)⟩
theorem lw_p102 : lw_okq (⟨"RootJudgeModel", "findRoots", "(I)V"⟩, 55) := ⟨⟨by decide +kernel, by decide +kernel⟩, List.mem_of_getElem? (i := 1077) (by decide +kernel), List.mem_of_getElem? (i := 1489) (by decide +kernel), List.mem_of_getElem? (i := 1490) (by decide +kernel)⟩
theorem lw_p103 : lw_okq (⟨"RootJudgeModel", "makeChain", "(I)V"⟩, 55) := ⟨⟨by decide +kernel, by decide +kernel⟩, List.mem_of_getElem? (i := 1077) (by decide +kernel), List.mem_of_getElem? (i := 1493) (by decide +kernel), List.mem_of_getElem? (i := 1494) (by decide +kernel)⟩
theorem lw_p104 : lw_okq (⟨"RootJudgeModel", "powerOfTwo", "(I)I"⟩, 55) := ⟨⟨by decide +kernel, by decide +kernel⟩, List.mem_of_getElem? (i := 1077) (by decide +kernel), List.mem_of_getElem? (i := 1497) (by decide +kernel), List.mem_of_getElem? (i := 1498) (by decide +kernel)⟩
theorem lw_p105 : lw_okq (⟨"RootJudgeModel", "plus1", "(II)I"⟩, 55) := ⟨⟨by decide +kernel, by decide +kernel⟩, List.mem_of_getElem? (i := 1077) (by decide +kernel), List.mem_of_getElem? (i := 1501) (by decide +kernel), List.mem_of_getElem? (i := 1502) (by decide +kernel)⟩
theorem lw_p106 : lw_okq (⟨"RootJudgeModel", "changesAtHalf", "(II)I"⟩, 55) := ⟨⟨by decide +kernel, by decide +kernel⟩, List.mem_of_getElem? (i := 1077) (by decide +kernel), List.mem_of_getElem? (i := 1505) (by decide +kernel), List.mem_of_getElem? (i := 1506) (by decide +kernel)⟩
theorem lw_p107 : lw_okq (⟨"RootJudgeModel", "changesAt", "(II)I"⟩, 55) := ⟨⟨by decide +kernel, by decide +kernel⟩, List.mem_of_getElem? (i := 1077) (by decide +kernel), List.mem_of_getElem? (i := 1509) (by decide +kernel), List.mem_of_getElem? (i := 1510) (by decide +kernel)⟩
theorem lw_p108 : lw_okq (⟨"RootJudgeModel", "signAt2", "(III)I"⟩, 55) := ⟨⟨by decide +kernel, by decide +kernel⟩, List.mem_of_getElem? (i := 1077) (by decide +kernel), List.mem_of_getElem? (i := 1513) (by decide +kernel), List.mem_of_getElem? (i := 1514) (by decide +kernel)⟩
theorem lw_p109 : lw_okq (⟨"RootJudgeModel", "addRoot", "(III)V"⟩, 55) := ⟨⟨by decide +kernel, by decide +kernel⟩, List.mem_of_getElem? (i := 1077) (by decide +kernel), List.mem_of_getElem? (i := 1517) (by decide +kernel), List.mem_of_getElem? (i := 1518) (by decide +kernel)⟩
theorem lw_p110 : lw_okq (⟨"RootJudgeModel", "reserve", "(I)I"⟩, 55) := ⟨⟨by decide +kernel, by decide +kernel⟩, List.mem_of_getElem? (i := 1077) (by decide +kernel), List.mem_of_getElem? (i := 1521) (by decide +kernel), List.mem_of_getElem? (i := 1522) (by decide +kernel)⟩
theorem lw_p111 : lw_okq (⟨"RootJudgeModel", "compare", "(II)I"⟩, 55) := ⟨⟨by decide +kernel, by decide +kernel⟩, List.mem_of_getElem? (i := 1077) (by decide +kernel), List.mem_of_getElem? (i := 1525) (by decide +kernel), List.mem_of_getElem? (i := 1526) (by decide +kernel)⟩
def lw_privs_7 : List (MethodName × Nat) := [(⟨"RootJudgeModel", "restOf", "(II)I"⟩, 55), (⟨"RootJudgeModel", "share", "(II)I"⟩, 55), (⟨"RootJudgeModel", "stay", "(I)V"⟩, 55), (⟨"RootJudgeModel", "comeBack", "()I"⟩, 55), (⟨"RootJudgeModel", "join", "(I)V"⟩, 55), (⟨"RootJudgeModel", "findTimes", "()V"⟩, 55), (⟨"RootJudgeModel", "findRoots", "(I)V"⟩, 55), (⟨"RootJudgeModel", "makeChain", "(I)V"⟩, 55), (⟨"RootJudgeModel", "powerOfTwo", "(I)I"⟩, 55), (⟨"RootJudgeModel", "plus1", "(II)I"⟩, 55), (⟨"RootJudgeModel", "changesAtHalf", "(II)I"⟩, 55), (⟨"RootJudgeModel", "changesAt", "(II)I"⟩, 55), (⟨"RootJudgeModel", "signAt2", "(III)I"⟩, 55), (⟨"RootJudgeModel", "addRoot", "(III)V"⟩, 55), (⟨"RootJudgeModel", "reserve", "(I)I"⟩, 55), (⟨"RootJudgeModel", "compare", "(II)I"⟩, 55)]
theorem lw_r7 : ∀ q ∈ lw_privs_7, lw_okq q := List.forall_mem_cons.mpr ⟨lw_p96, List.forall_mem_cons.mpr ⟨lw_p97, List.forall_mem_cons.mpr ⟨lw_p98, List.forall_mem_cons.mpr ⟨lw_p99, List.forall_mem_cons.mpr ⟨lw_p100, List.forall_mem_cons.mpr ⟨lw_p101, List.forall_mem_cons.mpr ⟨lw_p102, List.forall_mem_cons.mpr ⟨lw_p103, List.forall_mem_cons.mpr ⟨lw_p104, List.forall_mem_cons.mpr ⟨lw_p105, List.forall_mem_cons.mpr ⟨lw_p106, List.forall_mem_cons.mpr ⟨lw_p107, List.forall_mem_cons.mpr ⟨lw_p108, List.forall_mem_cons.mpr ⟨lw_p109, List.forall_mem_cons.mpr ⟨lw_p110, List.forall_mem_cons.mpr ⟨lw_p111, fun _ h => absurd h List.not_mem_nil⟩⟩⟩⟩⟩⟩⟩⟩⟩⟩⟩⟩⟩⟩⟩⟩
theorem lw_p112 : lw_okq (⟨"RootJudgeModel", "valueOf", "(I)J"⟩, 55) := ⟨⟨by decide +kernel, by decide +kernel⟩, List.mem_of_getElem? (i := 1077) (by decide +kernel), List.mem_of_getElem? (i := 1529) (by decide +kernel), List.mem_of_getElem? (i := 1530) (by decide +kernel)⟩
theorem lw_p113 : lw_okq (⟨"RootJudgeModel", "restRoots", "(II)V"⟩, 55) := ⟨⟨by decide +kernel, by decide +kernel⟩, List.mem_of_getElem? (i := 1077) (by decide +kernel), List.mem_of_getElem? (i := 1536) (by decide +kernel), List.mem_of_getElem? (i := 1537) (by decide +kernel)⟩
theorem lw_p114 : lw_okq (⟨"RootJudgeModel", "isBefore", "(II)Z"⟩, 55) := ⟨⟨by decide +kernel, by decide +kernel⟩, List.mem_of_getElem? (i := 1077) (by decide +kernel), List.mem_of_getElem? (i := 1540) (by decide +kernel), List.mem_of_getElem? (i := 1541) (by decide +kernel)⟩
theorem lw_p115 : lw_okq (⟨"RootJudgeModel", "against", "(IJJ)I"⟩, 55) := ⟨⟨by decide +kernel, by decide +kernel⟩, List.mem_of_getElem? (i := 1077) (by decide +kernel), List.mem_of_getElem? (i := 1544) (by decide +kernel), List.mem_of_getElem? (i := 1545) (by decide +kernel)⟩
theorem lw_p116 : lw_okq (⟨"RootJudgeModel", "refine", "(I)V"⟩, 55) := ⟨⟨by decide +kernel, by decide +kernel⟩, List.mem_of_getElem? (i := 1077) (by decide +kernel), List.mem_of_getElem? (i := 1548) (by decide +kernel), List.mem_of_getElem? (i := 1549) (by decide +kernel)⟩
theorem lw_p117 : lw_okq (⟨"RootJudgeModel", "signAll", "()V"⟩, 55) := ⟨⟨by decide +kernel, by decide +kernel⟩, List.mem_of_getElem? (i := 1077) (by decide +kernel), List.mem_of_getElem? (i := 1552) (by decide +kernel), List.mem_of_getElem? (i := 1553) (by decide +kernel)⟩
theorem lw_p118 : lw_okq (⟨"RootJudgeModel", "degreeOf", "(I)I"⟩, 55) := ⟨⟨by decide +kernel, by decide +kernel⟩, List.mem_of_getElem? (i := 1077) (by decide +kernel), List.mem_of_getElem? (i := 1556) (by decide +kernel), List.mem_of_getElem? (i := 1557) (by decide +kernel)⟩
theorem lw_p119 : lw_okq (⟨"RootJudgeModel", "timesAt", "(II)I"⟩, 55) := ⟨⟨by decide +kernel, by decide +kernel⟩, List.mem_of_getElem? (i := 1077) (by decide +kernel), List.mem_of_getElem? (i := 1560) (by decide +kernel), List.mem_of_getElem? (i := 1561) (by decide +kernel)⟩
theorem lw_p120 : lw_okq (⟨"RootJudgeModel", "cells", "()I"⟩, 55) := ⟨⟨by decide +kernel, by decide +kernel⟩, List.mem_of_getElem? (i := 1077) (by decide +kernel), List.mem_of_getElem? (i := 1564) (by decide +kernel), List.mem_of_getElem? (i := 1565) (by decide +kernel)⟩
theorem lw_p121 : lw_okq (⟨"RootJudgeModel", "isSo", "(I)Z"⟩, 55) := ⟨⟨by decide +kernel, by decide +kernel⟩, List.mem_of_getElem? (i := 1077) (by decide +kernel), List.mem_of_getElem? (i := 1568) (by decide +kernel), List.mem_of_getElem? (i := 1569) (by decide +kernel)⟩
theorem lw_p122 : lw_okq (⟨"RootJudgeModel", "holdingMany", "()I"⟩, 55) := ⟨⟨by decide +kernel, by decide +kernel⟩, List.mem_of_getElem? (i := 1077) (by decide +kernel), List.mem_of_getElem? (i := 1576) (by decide +kernel), List.mem_of_getElem? (i := 1577) (by decide +kernel)⟩
theorem lw_p123 : lw_okq (⟨"RootJudgeModel", "isAtom", "(I)Z"⟩, 55) := ⟨⟨by decide +kernel, by decide +kernel⟩, List.mem_of_getElem? (i := 1077) (by decide +kernel), List.mem_of_getElem? (i := 1584) (by decide +kernel), List.mem_of_getElem? (i := 1585) (by decide +kernel)⟩
theorem lw_p124 : lw_okq (⟨"RootJudgeModel", "isCell", "(I)Z"⟩, 55) := ⟨⟨by decide +kernel, by decide +kernel⟩, List.mem_of_getElem? (i := 1077) (by decide +kernel), List.mem_of_getElem? (i := 1597) (by decide +kernel), List.mem_of_getElem? (i := 1598) (by decide +kernel)⟩
theorem lw_p125 : lw_okq (⟨"RootJudgeModel", "isRoot", "(I)Z"⟩, 55) := ⟨⟨by decide +kernel, by decide +kernel⟩, List.mem_of_getElem? (i := 1077) (by decide +kernel), List.mem_of_getElem? (i := 1609) (by decide +kernel), List.mem_of_getElem? (i := 1610) (by decide +kernel)⟩
theorem lw_p126 : lw_okq (⟨"RootJudgeModel", "floorOf", "(IJ)J"⟩, 55) := ⟨⟨by decide +kernel, by decide +kernel⟩, List.mem_of_getElem? (i := 1077) (by decide +kernel), List.mem_of_getElem? (i := 1615) (by decide +kernel), List.mem_of_getElem? (i := 1616) (by decide +kernel)⟩
theorem lw_p127 : lw_okq (⟨"RootJudgeModel", "mostBelow", "(IJ)J"⟩, 55) := ⟨⟨by decide +kernel, by decide +kernel⟩, List.mem_of_getElem? (i := 1077) (by decide +kernel), List.mem_of_getElem? (i := 1642) (by decide +kernel), List.mem_of_getElem? (i := 1643) (by decide +kernel)⟩
def lw_privs_8 : List (MethodName × Nat) := [(⟨"RootJudgeModel", "valueOf", "(I)J"⟩, 55), (⟨"RootJudgeModel", "restRoots", "(II)V"⟩, 55), (⟨"RootJudgeModel", "isBefore", "(II)Z"⟩, 55), (⟨"RootJudgeModel", "against", "(IJJ)I"⟩, 55), (⟨"RootJudgeModel", "refine", "(I)V"⟩, 55), (⟨"RootJudgeModel", "signAll", "()V"⟩, 55), (⟨"RootJudgeModel", "degreeOf", "(I)I"⟩, 55), (⟨"RootJudgeModel", "timesAt", "(II)I"⟩, 55), (⟨"RootJudgeModel", "cells", "()I"⟩, 55), (⟨"RootJudgeModel", "isSo", "(I)Z"⟩, 55), (⟨"RootJudgeModel", "holdingMany", "()I"⟩, 55), (⟨"RootJudgeModel", "isAtom", "(I)Z"⟩, 55), (⟨"RootJudgeModel", "isCell", "(I)Z"⟩, 55), (⟨"RootJudgeModel", "isRoot", "(I)Z"⟩, 55), (⟨"RootJudgeModel", "floorOf", "(IJ)J"⟩, 55), (⟨"RootJudgeModel", "mostBelow", "(IJ)J"⟩, 55)]
theorem lw_r8 : ∀ q ∈ lw_privs_8, lw_okq q := List.forall_mem_cons.mpr ⟨lw_p112, List.forall_mem_cons.mpr ⟨lw_p113, List.forall_mem_cons.mpr ⟨lw_p114, List.forall_mem_cons.mpr ⟨lw_p115, List.forall_mem_cons.mpr ⟨lw_p116, List.forall_mem_cons.mpr ⟨lw_p117, List.forall_mem_cons.mpr ⟨lw_p118, List.forall_mem_cons.mpr ⟨lw_p119, List.forall_mem_cons.mpr ⟨lw_p120, List.forall_mem_cons.mpr ⟨lw_p121, List.forall_mem_cons.mpr ⟨lw_p122, List.forall_mem_cons.mpr ⟨lw_p123, List.forall_mem_cons.mpr ⟨lw_p124, List.forall_mem_cons.mpr ⟨lw_p125, List.forall_mem_cons.mpr ⟨lw_p126, List.forall_mem_cons.mpr ⟨lw_p127, fun _ h => absurd h List.not_mem_nil⟩⟩⟩⟩⟩⟩⟩⟩⟩⟩⟩⟩⟩⟩⟩⟩
def lw_privs : List (MethodName × Nat) := lw_privs_1 ++ (lw_privs_2 ++ (lw_privs_3 ++ (lw_privs_4 ++ (lw_privs_5 ++ (lw_privs_6 ++ (lw_privs_7 ++ (lw_privs_8)))))))
def lw_tbl : List Cond := k2_sels lw_privs ++ tables_1
theorem lw_privs_ok : ∀ q ∈ lw_privs, lw_okq q := by
  show ∀ q ∈ lw_privs_1 ++ (lw_privs_2 ++ (lw_privs_3 ++ (lw_privs_4 ++ (lw_privs_5 ++ (lw_privs_6 ++ (lw_privs_7 ++ (lw_privs_8))))))), lw_okq q
  exact List.forall_mem_append.mpr ⟨lw_r1, List.forall_mem_append.mpr ⟨lw_r2, List.forall_mem_append.mpr ⟨lw_r3, List.forall_mem_append.mpr ⟨lw_r4, List.forall_mem_append.mpr ⟨lw_r5, List.forall_mem_append.mpr ⟨lw_r6, List.forall_mem_append.mpr ⟨lw_r7, lw_r8⟩⟩⟩⟩⟩⟩⟩
end
section
def RX0 : String := "RootJudge$Basis"
def TX0 : u_T := fun k => match k with
  | 0 => ("RootJudge$Basis", "pieces", "[LRootJudge$Poly;", true)
  | 1 => ("RootJudge$Basis", "often", "[I", true)
  | 2 => ("RootJudge$Basis", "size", "I", false)
  | 3 => ("RootJudge$Basis", "divider", "LRootJudge$Divider;", true)
  | 4 => ("RootJudge$Basis", "core", "LRootJudge$Poly;", true)
  | 5 => ("RootJudge$Basis", "slope", "LRootJudge$Poly;", true)
  | 6 => ("RootJudge$Basis", "shared", "LRootJudge$Poly;", true)
  | _ => ("RootJudge$Basis", "rest", "LRootJudge$Poly;", true)
def tyX0 : Nat → FieldType := fun k => match k with
  | 0 => .array (.object "RootJudge$Poly")
  | 1 => .array .int
  | 2 => .int
  | 3 => .object "RootJudge$Divider"
  | 4 => .object "RootJudge$Poly"
  | 5 => .object "RootJudge$Poly"
  | 6 => .object "RootJudge$Poly"
  | _ => .object "RootJudge$Poly"
abbrev wsX00 : List Cond := u_ws RX0 TX0 8
theorem nmX0 : ∀ a, a < 8 → ∀ b, b < 8 → a ≠ b → (TX0 a).2.1 ≠ (TX0 b).2.1 := by decide +kernel
theorem tyX0_ok : ∀ k, k < 8 → parseFieldDescriptor (TX0 k).2.2.1 = some (tyX0 k) := by decide +kernel
abbrev cX0_init : ByteArray := prog_2_method_1_code
def yX0_init : MethodName := ⟨RX0, "<init>", "()V"⟩
abbrev cX0_addAtom : ByteArray := prog_2_method_2_code
def yX0_addAtom : MethodName := ⟨RX0, "addAtom", "(LRootJudge$Poly;I)V"⟩
abbrev cX0_foldRest : ByteArray := prog_2_method_3_code
def yX0_foldRest : MethodName := ⟨RX0, "foldRest", "(I)V"⟩
abbrev cX0_splitOff : ByteArray := prog_2_method_4_code
def yX0_splitOff : MethodName := ⟨RX0, "splitOff", "(ILRootJudge$Poly;)I"⟩
abbrev cX0_multiplicity : ByteArray := prog_2_method_5_code
def yX0_multiplicity : MethodName := ⟨RX0, "multiplicity", "(II)I"⟩
abbrev cX0_distinctRoots : ByteArray := prog_2_method_6_code
def yX0_distinctRoots : MethodName := ⟨RX0, "distinctRoots", "(I)I"⟩
abbrev cX0_sharedDegree : ByteArray := prog_2_method_7_code
def yX0_sharedDegree : MethodName := ⟨RX0, "sharedDegree", "(I)I"⟩
def RX1 : String := "RootJudge$Big"
def TX1 : u_T := fun k => match k with
  | 0 => ("RootJudge$Big", "limbs", "[I", true)
  | 1 => ("RootJudge$Big", "size", "I", false)
  | _ => ("RootJudge$Big", "mark", "I", false)
def tyX1 : Nat → FieldType := fun k => match k with
  | 0 => .array .int
  | 1 => .int
  | _ => .int
abbrev wsX10 : List Cond := u_ws RX1 TX1 3
theorem nmX1 : ∀ a, a < 3 → ∀ b, b < 3 → a ≠ b → (TX1 a).2.1 ≠ (TX1 b).2.1 := by decide +kernel
theorem tyX1_ok : ∀ k, k < 3 → parseFieldDescriptor (TX1 k).2.2.1 = some (tyX1 k) := by decide +kernel
abbrev cX1_init : ByteArray := prog_3_method_1_code
def yX1_init : MethodName := ⟨RX1, "<init>", "(I)V"⟩
abbrev cX1_set : ByteArray := prog_3_method_2_code
def yX1_set : MethodName := ⟨RX1, "set", "(J)V"⟩
abbrev cX1_copy : ByteArray := prog_3_method_3_code
def yX1_copy : MethodName := ⟨RX1, "copy", "(LRootJudge$Big;)V"⟩
abbrev cX1_trim : ByteArray := prog_3_method_4_code
def yX1_trim : MethodName := ⟨RX1, "trim", "()V"⟩
abbrev cX1_width : ByteArray := prog_3_method_5_code
def yX1_width : MethodName := ⟨RX1, "width", "(J)I"⟩
abbrev cX1_bits : ByteArray := prog_3_method_6_code
def yX1_bits : MethodName := ⟨RX1, "bits", "()I"⟩
abbrev cX1_isEven : ByteArray := prog_3_method_7_code
def yX1_isEven : MethodName := ⟨RX1, "isEven", "()Z"⟩
abbrev cX1_toLong : ByteArray := prog_3_method_8_code
def yX1_toLong : MethodName := ⟨RX1, "toLong", "()J"⟩
abbrev cX1_shiftUp : ByteArray := prog_3_method_9_code
def yX1_shiftUp : MethodName := ⟨RX1, "shiftUp", "(I)V"⟩
abbrev cX1_shiftDown : ByteArray := prog_3_method_10_code
def yX1_shiftDown : MethodName := ⟨RX1, "shiftDown", "(I)V"⟩
abbrev cX1_compareSize : ByteArray := prog_3_method_11_code
def yX1_compareSize : MethodName := ⟨RX1, "compareSize", "(LRootJudge$Big;)I"⟩
abbrev cX1_add : ByteArray := prog_3_method_12_code
def yX1_add : MethodName := ⟨RX1, "add", "(LRootJudge$Big;I)V"⟩
abbrev cX1_grow : ByteArray := prog_3_method_13_code
def yX1_grow : MethodName := ⟨RX1, "grow", "(LRootJudge$Big;)V"⟩
abbrev cX1_shrink : ByteArray := prog_3_method_14_code
def yX1_shrink : MethodName := ⟨RX1, "shrink", "(LRootJudge$Big;)V"⟩
abbrev cX1_setProduct : ByteArray := prog_3_method_15_code
def yX1_setProduct : MethodName := ⟨RX1, "setProduct", "(LRootJudge$Big;LRootJudge$Big;)V"⟩
def RX2 : String := "RootJudge$Divider"
def TX2 : u_T := fun k => match k with
  | 0 => ("RootJudge$Divider", "upper", "[J", true)
  | 1 => ("RootJudge$Divider", "lower", "[J", true)
  | 2 => ("RootJudge$Divider", "rest", "[J", true)
  | 3 => ("RootJudge$Divider", "image", "[J", false)
  | 4 => ("RootJudge$Divider", "earlier", "[J", false)
  | 5 => ("RootJudge$Divider", "guess", "LRootJudge$Poly;", true)
  | 6 => ("RootJudge$Divider", "divisor", "LRootJudge$Poly;", true)
  | _ => ("RootJudge$Divider", "quotient", "LRootJudge$Poly;", true)
def tyX2 : Nat → FieldType := fun k => match k with
  | 0 => .array .long
  | 1 => .array .long
  | 2 => .array .long
  | 3 => .array .long
  | 4 => .array .long
  | 5 => .object "RootJudge$Poly"
  | 6 => .object "RootJudge$Poly"
  | _ => .object "RootJudge$Poly"
abbrev wsX20 : List Cond := u_ws RX2 TX2 8
theorem nmX2 : ∀ a, a < 8 → ∀ b, b < 8 → a ≠ b → (TX2 a).2.1 ≠ (TX2 b).2.1 := by decide +kernel
theorem tyX2_ok : ∀ k, k < 8 → parseFieldDescriptor (TX2 k).2.2.1 = some (tyX2 k) := by decide +kernel
abbrev cX2_init : ByteArray := prog_4_method_1_code
def yX2_init : MethodName := ⟨RX2, "<init>", "()V"⟩
abbrev cX2_find : ByteArray := prog_4_method_2_code
def yX2_find : MethodName := ⟨RX2, "find", "(LRootJudge$Poly;LRootJudge$Poly;)V"⟩
abbrev cX2_imageModulo : ByteArray := prog_4_method_3_code
def yX2_imageModulo : MethodName := ⟨RX2, "imageModulo", "(LRootJudge$Poly;LRootJudge$Poly;J)I"⟩
abbrev cX2_degreeOf : ByteArray := prog_4_method_4_code
def yX2_degreeOf : MethodName := ⟨RX2, "degreeOf", "([J)I"⟩
abbrev cX2_eliminate : ByteArray := prog_4_method_5_code
def yX2_eliminate : MethodName := ⟨RX2, "eliminate", "([JI[JIJ)V"⟩
abbrev cX2_inverse : ByteArray := prog_4_method_6_code
def yX2_inverse : MethodName := ⟨RX2, "inverse", "(JJ)J"⟩
abbrev cX2_rebuild : ByteArray := prog_4_method_7_code
def yX2_rebuild : MethodName := ⟨RX2, "rebuild", "(JIJJ)V"⟩
abbrev cX2_divide : ByteArray := prog_4_method_8_code
def yX2_divide : MethodName := ⟨RX2, "divide", "(LRootJudge$Poly;LRootJudge$Poly;)Z"⟩
def RX3 : String := "RootJudge$Finder"
def TX3 : u_T := fun k => match k with
  | 0 => ("RootJudge$Finder", "basis", "LRootJudge$Basis;", true)
  | 1 => ("RootJudge$Finder", "parter", "LRootJudge$Parter;", true)
  | 2 => ("RootJudge$Finder", "roots", "[LRootJudge$Root;", true)
  | 3 => ("RootJudge$Finder", "found", "I", false)
  | 4 => ("RootJudge$Finder", "linear", "LRootJudge$Poly;", true)
  | 5 => ("RootJudge$Finder", "one", "LRootJudge$Big;", true)
  | 6 => ("RootJudge$Finder", "probe", "LRootJudge$Big;", true)
  | 7 => ("RootJudge$Finder", "edge", "LRootJudge$Big;", true)
  | 8 => ("RootJudge$Finder", "jump", "LRootJudge$Big;", true)
  | 9 => ("RootJudge$Finder", "point", "LRootJudge$Big;", true)
  | 10 => ("RootJudge$Finder", "term", "LRootJudge$Big;", true)
  | 11 => ("RootJudge$Finder", "work", "LRootJudge$Big;", true)
  | 12 => ("RootJudge$Finder", "power", "LRootJudge$Big;", true)
  | 13 => ("RootJudge$Finder", "low", "LRootJudge$Big;", false)
  | 14 => ("RootJudge$Finder", "high", "LRootJudge$Big;", false)
  | 15 => ("RootJudge$Finder", "middle", "LRootJudge$Big;", false)
  | _ => ("RootJudge$Finder", "other", "LRootJudge$Big;", false)
def tyX3 : Nat → FieldType := fun k => match k with
  | 0 => .object "RootJudge$Basis"
  | 1 => .object "RootJudge$Parter"
  | 2 => .array (.object "RootJudge$Root")
  | 3 => .int
  | 4 => .object "RootJudge$Poly"
  | 5 => .object "RootJudge$Big"
  | 6 => .object "RootJudge$Big"
  | 7 => .object "RootJudge$Big"
  | 8 => .object "RootJudge$Big"
  | 9 => .object "RootJudge$Big"
  | 10 => .object "RootJudge$Big"
  | 11 => .object "RootJudge$Big"
  | 12 => .object "RootJudge$Big"
  | 13 => .object "RootJudge$Big"
  | 14 => .object "RootJudge$Big"
  | 15 => .object "RootJudge$Big"
  | _ => .object "RootJudge$Big"
abbrev wsX30 : List Cond := u_ws RX3 TX3 17
theorem nmX3 : ∀ a, a < 17 → ∀ b, b < 17 → a ≠ b → (TX3 a).2.1 ≠ (TX3 b).2.1 := by decide +kernel
theorem tyX3_ok : ∀ k, k < 17 → parseFieldDescriptor (TX3 k).2.2.1 = some (tyX3 k) := by decide +kernel
abbrev cX3_init : ByteArray := prog_5_method_1_code
def yX3_init : MethodName := ⟨RX3, "<init>", "()V"⟩
abbrev cX3_solve : ByteArray := prog_5_method_2_code
def yX3_solve : MethodName := ⟨RX3, "solve", "(I)V"⟩
abbrev cX3_settle : ByteArray := prog_5_method_3_code
def yX3_settle : MethodName := ⟨RX3, "settle", "(LRootJudge$Root;I)V"⟩
abbrev cX3_giveOwnPiece : ByteArray := prog_5_method_4_code
def yX3_giveOwnPiece : MethodName := ⟨RX3, "giveOwnPiece", "(LRootJudge$Root;I)V"⟩
abbrev cX3_setSigns : ByteArray := prog_5_method_5_code
def yX3_setSigns : MethodName := ⟨RX3, "setSigns", "(I)V"⟩
abbrev cX3_readBinary : ByteArray := prog_5_method_6_code
def yX3_readBinary : MethodName := ⟨RX3, "readBinary", "(LRootJudge$Root;)V"⟩
abbrev cX3_readParts : ByteArray := prog_5_method_7_code
def yX3_readParts : MethodName := ⟨RX3, "readParts", "(LRootJudge$Root;)V"⟩
abbrev cX3_tryFraction : ByteArray := prog_5_method_8_code
def yX3_tryFraction : MethodName := ⟨RX3, "tryFraction", "(LRootJudge$Root;LRootJudge$Poly;)V"⟩
abbrev cX3_sideOf : ByteArray := prog_5_method_9_code
def yX3_sideOf : MethodName := ⟨RX3, "sideOf", "(LRootJudge$Root;JJ)I"⟩
abbrev cX3_tighten : ByteArray := prog_5_method_10_code
def yX3_tighten : MethodName := ⟨RX3, "tighten", "(LRootJudge$Root;LRootJudge$Poly;I)V"⟩
abbrev cX3_take : ByteArray := prog_5_method_11_code
def yX3_take : MethodName := ⟨RX3, "take", "(LRootJudge$Root;IZ)V"⟩
abbrev cX3_guessJump : ByteArray := prog_5_method_12_code
def yX3_guessJump : MethodName := ⟨RX3, "guessJump", "(I)V"⟩
abbrev cX3_setValue : ByteArray := prog_5_method_13_code
def yX3_setValue : MethodName := ⟨RX3, "setValue", "(LRootJudge$Big;LRootJudge$Poly;LRootJudge$Big;I)V"⟩
abbrev cX3_signAtFraction : ByteArray := prog_5_method_14_code
def yX3_signAtFraction : MethodName := ⟨RX3, "signAtFraction", "(LRootJudge$Poly;JJ)I"⟩
abbrev cX3_compareWith : ByteArray := prog_5_method_15_code
def yX3_compareWith : MethodName := ⟨RX3, "compareWith", "(LRootJudge$Root;JJJ)I"⟩
abbrev cX3_scaledFloor : ByteArray := prog_5_method_16_code
def yX3_scaledFloor : MethodName := ⟨RX3, "scaledFloor", "(LRootJudge$Root;J)J"⟩
abbrev cX3_compareQuickly : ByteArray := prog_5_method_17_code
def yX3_compareQuickly : MethodName := ⟨RX3, "compareQuickly", "(LRootJudge$Root;LRootJudge$Root;)I"⟩
abbrev cX3_compareDeeply : ByteArray := prog_5_method_18_code
def yX3_compareDeeply : MethodName := ⟨RX3, "compareDeeply", "(LRootJudge$Root;LRootJudge$Root;)I"⟩
def RX4 : String := "RootJudge$Line"
def TX4 : u_T := fun k => match k with
  | 0 => ("RootJudge$Line", "reader", "LRootJudge$Reader;", true)
  | 1 => ("RootJudge$Line", "finder", "LRootJudge$Finder;", true)
  | 2 => ("RootJudge$Line", "basis", "LRootJudge$Basis;", true)
  | 3 => ("RootJudge$Line", "order", "[I", true)
  | 4 => ("RootJudge$Line", "size", "I", false)
  | 5 => ("RootJudge$Line", "signs", "[B", true)
  | 6 => ("RootJudge$Line", "held", "[Z", true)
  | 7 => ("RootJudge$Line", "holding", "I", false)
  | 8 => ("RootJudge$Line", "first", "I", false)
  | 9 => ("RootJudge$Line", "last", "I", false)
  | 10 => ("RootJudge$Line", "pieces", "I", false)
  | 11 => ("RootJudge$Line", "simpleAbove", "[J", true)
  | _ => ("RootJudge$Line", "simpleBelow", "[I", true)
def tyX4 : Nat → FieldType := fun k => match k with
  | 0 => .object "RootJudge$Reader"
  | 1 => .object "RootJudge$Finder"
  | 2 => .object "RootJudge$Basis"
  | 3 => .array .int
  | 4 => .int
  | 5 => .array .byte
  | 6 => .array .boolean
  | 7 => .int
  | 8 => .int
  | 9 => .int
  | 10 => .int
  | 11 => .array .long
  | _ => .array .int
abbrev wsX40 : List Cond := u_ws RX4 TX4 13
theorem nmX4 : ∀ a, a < 13 → ∀ b, b < 13 → a ≠ b → (TX4 a).2.1 ≠ (TX4 b).2.1 := by decide +kernel
theorem tyX4_ok : ∀ k, k < 13 → parseFieldDescriptor (TX4 k).2.2.1 = some (tyX4 k) := by decide +kernel
abbrev cX4_init : ByteArray := prog_6_method_1_code
def yX4_init : MethodName := ⟨RX4, "<init>", "()V"⟩
abbrev cX4_rootAt : ByteArray := prog_6_method_2_code
def yX4_rootAt : MethodName := ⟨RX4, "rootAt", "(I)LRootJudge$Root;"⟩
abbrev cX4_insert : ByteArray := prog_6_method_3_code
def yX4_insert : MethodName := ⟨RX4, "insert", "(I)V"⟩
abbrev cX4_fillCells : ByteArray := prog_6_method_4_code
def yX4_fillCells : MethodName := ⟨RX4, "fillCells", "()V"⟩
abbrev cX4_fillSigns : ByteArray := prog_6_method_5_code
def yX4_fillSigns : MethodName := ⟨RX4, "fillSigns", "(I)V"⟩
abbrev cX4_trueAtoms : ByteArray := prog_6_method_6_code
def yX4_trueAtoms : MethodName := ⟨RX4, "trueAtoms", "(I)I"⟩
abbrev cX4_rootsOf : ByteArray := prog_6_method_7_code
def yX4_rootsOf : MethodName := ⟨RX4, "rootsOf", "(I)I"⟩
abbrev cX4_locate : ByteArray := prog_6_method_8_code
def yX4_locate : MethodName := ⟨RX4, "locate", "(JJJ)I"⟩
abbrev cX4_fillAt : ByteArray := prog_6_method_9_code
def yX4_fillAt : MethodName := ⟨RX4, "fillAt", "(I)V"⟩
abbrev cX4_fillBetween : ByteArray := prog_6_method_10_code
def yX4_fillBetween : MethodName := ⟨RX4, "fillBetween", "(I)V"⟩
abbrev cX4_descend : ByteArray := prog_6_method_11_code
def yX4_descend : MethodName := ⟨RX4, "descend", "(IJ)V"⟩
def RX5 : String := "RootJudge$Parter"
def TX5 : u_T := fun k => match k with
  | 0 => ("RootJudge$Parter", "moved", "[LRootJudge$Big;", true)
  | 1 => ("RootJudge$Parter", "tested", "[LRootJudge$Big;", true)
  | 2 => ("RootJudge$Parter", "corner", "LRootJudge$Big;", true)
  | 3 => ("RootJudge$Parter", "one", "LRootJudge$Big;", true)
  | 4 => ("RootJudge$Parter", "degree", "I", false)
  | _ => ("RootJudge$Parter", "bits", "I", false)
def tyX5 : Nat → FieldType := fun k => match k with
  | 0 => .array (.object "RootJudge$Big")
  | 1 => .array (.object "RootJudge$Big")
  | 2 => .object "RootJudge$Big"
  | 3 => .object "RootJudge$Big"
  | 4 => .int
  | _ => .int
abbrev wsX50 : List Cond := u_ws RX5 TX5 6
theorem nmX5 : ∀ a, a < 6 → ∀ b, b < 6 → a ≠ b → (TX5 a).2.1 ≠ (TX5 b).2.1 := by decide +kernel
theorem tyX5_ok : ∀ k, k < 6 → parseFieldDescriptor (TX5 k).2.2.1 = some (tyX5 k) := by decide +kernel
abbrev cX5_init : ByteArray := prog_7_method_1_code
def yX5_init : MethodName := ⟨RX5, "<init>", "()V"⟩
abbrev cX5_part : ByteArray := prog_7_method_2_code
def yX5_part : MethodName := ⟨RX5, "part", "(LRootJudge$Poly;[LRootJudge$Root;I)I"⟩
abbrev cX5_reach : ByteArray := prog_7_method_3_code
def yX5_reach : MethodName := ⟨RX5, "reach", "(LRootJudge$Poly;)I"⟩
abbrev cX5_begin : ByteArray := prog_7_method_4_code
def yX5_begin : MethodName := ⟨RX5, "begin", "(LRootJudge$Poly;I)V"⟩
abbrev cX5_moveBy : ByteArray := prog_7_method_5_code
def yX5_moveBy : MethodName := ⟨RX5, "moveBy", "([LRootJudge$Big;I)V"⟩
abbrev cX5_dropZero : ByteArray := prog_7_method_6_code
def yX5_dropZero : MethodName := ⟨RX5, "dropZero", "()V"⟩
abbrev cX5_changes : ByteArray := prog_7_method_7_code
def yX5_changes : MethodName := ⟨RX5, "changes", "()I"⟩
abbrev cX5_mixed : ByteArray := prog_7_method_8_code
def yX5_mixed : MethodName := ⟨RX5, "mixed", "([LRootJudge$Big;)Z"⟩
abbrev cX5_halve : ByteArray := prog_7_method_9_code
def yX5_halve : MethodName := ⟨RX5, "halve", "()V"⟩
abbrev cX5_stepOn : ByteArray := prog_7_method_10_code
def yX5_stepOn : MethodName := ⟨RX5, "stepOn", "(I)Z"⟩
def RX6 : String := "RootJudge$Poly"
def TX6 : u_T := fun k => match k with
  | 0 => ("RootJudge$Poly", "degree", "I", false)
  | _ => ("RootJudge$Poly", "factors", "[J", true)
def tyX6 : Nat → FieldType := fun k => match k with
  | 0 => .int
  | _ => .array .long
abbrev wsX60 : List Cond := u_ws RX6 TX6 2
theorem nmX6 : ∀ a, a < 2 → ∀ b, b < 2 → a ≠ b → (TX6 a).2.1 ≠ (TX6 b).2.1 := by decide +kernel
theorem tyX6_ok : ∀ k, k < 2 → parseFieldDescriptor (TX6 k).2.2.1 = some (tyX6 k) := by decide +kernel
abbrev cX6_init : ByteArray := prog_8_method_1_code
def yX6_init : MethodName := ⟨RX6, "<init>", "()V"⟩
abbrev cX6_setConstant : ByteArray := prog_8_method_2_code
def yX6_setConstant : MethodName := ⟨RX6, "setConstant", "(J)V"⟩
abbrev cX6_setLinear : ByteArray := prog_8_method_3_code
def yX6_setLinear : MethodName := ⟨RX6, "setLinear", "(JJ)V"⟩
abbrev cX6_copy : ByteArray := prog_8_method_4_code
def yX6_copy : MethodName := ⟨RX6, "copy", "(LRootJudge$Poly;)V"⟩
abbrev cX6_measure : ByteArray := prog_8_method_5_code
def yX6_measure : MethodName := ⟨RX6, "measure", "()V"⟩
abbrev cX6_lead : ByteArray := prog_8_method_6_code
def yX6_lead : MethodName := ⟨RX6, "lead", "()J"⟩
abbrev cX6_setSlopeOf : ByteArray := prog_8_method_7_code
def yX6_setSlopeOf : MethodName := ⟨RX6, "setSlopeOf", "(LRootJudge$Poly;)V"⟩
abbrev cX6_makePrimitive : ByteArray := prog_8_method_8_code
def yX6_makePrimitive : MethodName := ⟨RX6, "makePrimitive", "()V"⟩
abbrev cX6_gcd : ByteArray := prog_8_method_9_code
def yX6_gcd : MethodName := ⟨RX6, "gcd", "(JJ)J"⟩
def RX7 : String := "RootJudge$Reader"
def TX7 : u_T := fun k => match k with
  | 0 => ("RootJudge$Reader", "text", "[C", true)
  | 1 => ("RootJudge$Reader", "length", "I", false)
  | 2 => ("RootJudge$Reader", "at", "I", false)
  | 3 => ("RootJudge$Reader", "next", "I", false)
  | 4 => ("RootJudge$Reader", "fault", "I", false)
  | 5 => ("RootJudge$Reader", "place", "I", false)
  | 6 => ("RootJudge$Reader", "slots", "[LRootJudge$Poly;", true)
  | 7 => ("RootJudge$Reader", "base", "LRootJudge$Poly;", true)
  | 8 => ("RootJudge$Reader", "product", "[J", true)
  | 9 => ("RootJudge$Reader", "polys", "[LRootJudge$Poly;", true)
  | 10 => ("RootJudge$Reader", "rels", "[I", true)
  | 11 => ("RootJudge$Reader", "atoms", "I", false)
  | 12 => ("RootJudge$Reader", "program", "[I", true)
  | _ => ("RootJudge$Reader", "steps", "I", false)
def tyX7 : Nat → FieldType := fun k => match k with
  | 0 => .array .char
  | 1 => .int
  | 2 => .int
  | 3 => .int
  | 4 => .int
  | 5 => .int
  | 6 => .array (.object "RootJudge$Poly")
  | 7 => .object "RootJudge$Poly"
  | 8 => .array .long
  | 9 => .array (.object "RootJudge$Poly")
  | 10 => .array .int
  | 11 => .int
  | 12 => .array .int
  | _ => .int
abbrev wsX70 : List Cond := u_ws RX7 TX7 14
theorem nmX7 : ∀ a, a < 14 → ∀ b, b < 14 → a ≠ b → (TX7 a).2.1 ≠ (TX7 b).2.1 := by decide +kernel
theorem tyX7_ok : ∀ k, k < 14 → parseFieldDescriptor (TX7 k).2.2.1 = some (tyX7 k) := by decide +kernel
abbrev cX7_init : ByteArray := prog_9_method_1_code
def yX7_init : MethodName := ⟨RX7, "<init>", "()V"⟩
abbrev cX7_read : ByteArray := prog_9_method_2_code
def yX7_read : MethodName := ⟨RX7, "read", "(I)I"⟩
abbrev cX7_fail : ByteArray := prog_9_method_3_code
def yX7_fail : MethodName := ⟨RX7, "fail", "(II)V"⟩
abbrev cX7_look : ByteArray := prog_9_method_4_code
def yX7_look : MethodName := ⟨RX7, "look", "()V"⟩
abbrev cX7_step : ByteArray := prog_9_method_5_code
def yX7_step : MethodName := ⟨RX7, "step", "()V"⟩
abbrev cX7_isDigit : ByteArray := prog_9_method_6_code
def yX7_isDigit : MethodName := ⟨RX7, "isDigit", "(I)Z"⟩
abbrev cX7_expect : ByteArray := prog_9_method_7_code
def yX7_expect : MethodName := ⟨RX7, "expect", "(I)V"⟩
abbrev cX7_emit : ByteArray := prog_9_method_8_code
def yX7_emit : MethodName := ⟨RX7, "emit", "(I)V"⟩
abbrev cX7_readText : ByteArray := prog_9_method_9_code
def yX7_readText : MethodName := ⟨RX7, "readText", "(I)V"⟩
abbrev cX7_readAll : ByteArray := prog_9_method_10_code
def yX7_readAll : MethodName := ⟨RX7, "readAll", "(I)V"⟩
abbrev cX7_readOne : ByteArray := prog_9_method_11_code
def yX7_readOne : MethodName := ⟨RX7, "readOne", "(I)V"⟩
abbrev cX7_readAtom : ByteArray := prog_9_method_12_code
def yX7_readAtom : MethodName := ⟨RX7, "readAtom", "()V"⟩
abbrev cX7_slot : ByteArray := prog_9_method_13_code
def yX7_slot : MethodName := ⟨RX7, "slot", "(I)LRootJudge$Poly;"⟩
abbrev cX7_readSum : ByteArray := prog_9_method_14_code
def yX7_readSum : MethodName := ⟨RX7, "readSum", "(II)V"⟩
abbrev cX7_readTerm : ByteArray := prog_9_method_15_code
def yX7_readTerm : MethodName := ⟨RX7, "readTerm", "(II)V"⟩
abbrev cX7_readPower : ByteArray := prog_9_method_16_code
def yX7_readPower : MethodName := ⟨RX7, "readPower", "(II)V"⟩
abbrev cX7_readBase : ByteArray := prog_9_method_17_code
def yX7_readBase : MethodName := ⟨RX7, "readBase", "(II)V"⟩
abbrev cX7_readNumber : ByteArray := prog_9_method_18_code
def yX7_readNumber : MethodName := ⟨RX7, "readNumber", "()I"⟩
abbrev cX7_negate : ByteArray := prog_9_method_19_code
def yX7_negate : MethodName := ⟨RX7, "negate", "(LRootJudge$Poly;)V"⟩
abbrev cX7_addTo : ByteArray := prog_9_method_20_code
def yX7_addTo : MethodName := ⟨RX7, "addTo", "(LRootJudge$Poly;LRootJudge$Poly;II)V"⟩
abbrev cX7_multiply : ByteArray := prog_9_method_21_code
def yX7_multiply : MethodName := ⟨RX7, "multiply", "(LRootJudge$Poly;LRootJudge$Poly;I)V"⟩
abbrev cX7_accept : ByteArray := prog_9_method_22_code
def yX7_accept : MethodName := ⟨RX7, "accept", "(LRootJudge$Poly;I)V"⟩
abbrev cX7_raise : ByteArray := prog_9_method_23_code
def yX7_raise : MethodName := ⟨RX7, "raise", "(LRootJudge$Poly;II)V"⟩
abbrev cX7_fulfilledBy : ByteArray := prog_9_method_24_code
def yX7_fulfilledBy : MethodName := ⟨RX7, "fulfilledBy", "(I)Z"⟩
def RX8 : String := "RootJudge$Root"
def TX8 : u_T := fun k => match k with
  | 0 => ("RootJudge$Root", "owner", "I", false)
  | 1 => ("RootJudge$Root", "fraction", "Z", false)
  | 2 => ("RootJudge$Root", "above", "J", false)
  | 3 => ("RootJudge$Root", "below", "J", false)
  | 4 => ("RootJudge$Root", "whole", "J", false)
  | 5 => ("RootJudge$Root", "part", "J", false)
  | 6 => ("RootJudge$Root", "left", "LRootJudge$Big;", true)
  | 7 => ("RootJudge$Root", "bits", "I", false)
  | 8 => ("RootJudge$Root", "leap", "I", false)
  | _ => ("RootJudge$Root", "before", "I", false)
def tyX8 : Nat → FieldType := fun k => match k with
  | 0 => .int
  | 1 => .boolean
  | 2 => .long
  | 3 => .long
  | 4 => .long
  | 5 => .long
  | 6 => .object "RootJudge$Big"
  | 7 => .int
  | 8 => .int
  | _ => .int
abbrev wsX80 : List Cond := u_ws RX8 TX8 10
theorem nmX8 : ∀ a, a < 10 → ∀ b, b < 10 → a ≠ b → (TX8 a).2.1 ≠ (TX8 b).2.1 := by decide +kernel
theorem tyX8_ok : ∀ k, k < 10 → parseFieldDescriptor (TX8 k).2.2.1 = some (tyX8 k) := by decide +kernel
abbrev cX8_init : ByteArray := prog_10_method_1_code
def yX8_init : MethodName := ⟨RX8, "<init>", "()V"⟩
abbrev cX8_start : ByteArray := prog_10_method_2_code
def yX8_start : MethodName := ⟨RX8, "start", "(LRootJudge$Big;IZ)V"⟩
abbrev cX8_setFraction : ByteArray := prog_10_method_3_code
def yX8_setFraction : MethodName := ⟨RX8, "setFraction", "(JJ)V"⟩
def RX9 : String := "RootJudge"
def TX9 : u_T := fun k => match k with
  | 0 => ("RootJudge", "signs", "I", false)
  | 1 => ("RootJudge", "fault", "I", false)
  | 2 => ("RootJudge", "place", "I", false)
  | 3 => ("RootJudge", "known", "Z", false)
  | 4 => ("RootJudge", "line", "LRootJudge$Line;", true)
  | 5 => ("RootJudge", "reader", "LRootJudge$Reader;", true)
  | 6 => ("RootJudge", "finder", "LRootJudge$Finder;", true)
  | _ => ("RootJudge", "basis", "LRootJudge$Basis;", true)
def tyX9 : Nat → FieldType := fun k => match k with
  | 0 => .int
  | 1 => .int
  | 2 => .int
  | 3 => .boolean
  | 4 => .object "RootJudge$Line"
  | 5 => .object "RootJudge$Reader"
  | 6 => .object "RootJudge$Finder"
  | _ => .object "RootJudge$Basis"
abbrev wsX90 : List Cond := u_ws RX9 TX9 8
theorem nmX9 : ∀ a, a < 8 → ∀ b, b < 8 → a ≠ b → (TX9 a).2.1 ≠ (TX9 b).2.1 := by decide +kernel
theorem tyX9_ok : ∀ k, k < 8 → parseFieldDescriptor (TX9 k).2.2.1 = some (tyX9 k) := by decide +kernel
abbrev cX9_init : ByteArray := prog_1_method_1_code
def yX9_init : MethodName := ⟨RX9, "<init>", "()V"⟩
abbrev cX9_type : ByteArray := prog_1_method_2_code
def yX9_type : MethodName := ⟨RX9, "type", "(I)I"⟩
abbrev cX9_four : ByteArray := prog_1_method_3_code
def yX9_four : MethodName := ⟨RX9, "four", "(I)I"⟩
abbrev cX9_load : ByteArray := prog_1_method_4_code
def yX9_load : MethodName := ⟨RX9, "load", "()I"⟩
abbrev cX9_count : ByteArray := prog_1_method_5_code
def yX9_count : MethodName := ⟨RX9, "count", "(I)I"⟩
abbrev cX9_atom : ByteArray := prog_1_method_6_code
def yX9_atom : MethodName := ⟨RX9, "atom", "(II)I"⟩
abbrev cX9_judge : ByteArray := prog_1_method_7_code
def yX9_judge : MethodName := ⟨RX9, "judge", "(I)I"⟩
abbrev cX9_holds : ByteArray := prog_1_method_8_code
def yX9_holds : MethodName := ⟨RX9, "holds", "(I)I"⟩
abbrev cX9_sign : ByteArray := prog_1_method_9_code
def yX9_sign : MethodName := ⟨RX9, "sign", "(II)I"⟩
abbrev cX9_root : ByteArray := prog_1_method_10_code
def yX9_root : MethodName := ⟨RX9, "root", "(II)J"⟩
abbrev cX9_times : ByteArray := prog_1_method_11_code
def yX9_times : MethodName := ⟨RX9, "times", "(II)I"⟩
abbrev cX9_exact : ByteArray := prog_1_method_12_code
def yX9_exact : MethodName := ⟨RX9, "exact", "(II)J"⟩
abbrev cX9_common : ByteArray := prog_1_method_13_code
def yX9_common : MethodName := ⟨RX9, "common", "(I)I"⟩
abbrev cX9_simple : ByteArray := prog_1_method_14_code
def yX9_simple : MethodName := ⟨RX9, "simple", "(II)J"⟩
abbrev cX9_cellOf : ByteArray := prog_1_method_15_code
def yX9_cellOf : MethodName := ⟨RX9, "cellOf", "(II)I"⟩
abbrev cX9_signAt : ByteArray := prog_1_method_16_code
def yX9_signAt : MethodName := ⟨RX9, "signAt", "(III)I"⟩
abbrev cX9_isSign : ByteArray := prog_1_method_17_code
def yX9_isSign : MethodName := ⟨RX9, "isSign", "(I)Z"⟩
abbrev cX9_isFraction : ByteArray := prog_1_method_18_code
def yX9_isFraction : MethodName := ⟨RX9, "isFraction", "(II)Z"⟩
abbrev cX9_isAtom : ByteArray := prog_1_method_19_code
def yX9_isAtom : MethodName := ⟨RX9, "isAtom", "(I)Z"⟩
abbrev cX9_isRoot : ByteArray := prog_1_method_20_code
def yX9_isRoot : MethodName := ⟨RX9, "isRoot", "(I)Z"⟩
abbrev cX9_isCell : ByteArray := prog_1_method_21_code
def yX9_isCell : MethodName := ⟨RX9, "isCell", "(I)Z"⟩
def RX10 : String := "RootJudgeModel"
def TX10 : u_T := fun k => match k with
  | 0 => ("RootJudgeModel", "text", "[I", true)
  | 1 => ("RootJudgeModel", "size", "I", false)
  | 2 => ("RootJudgeModel", "fault", "I", false)
  | 3 => ("RootJudgeModel", "faultPlace", "I", false)
  | 4 => ("RootJudgeModel", "at", "I", false)
  | 5 => ("RootJudgeModel", "read", "Z", false)
  | 6 => ("RootJudgeModel", "atoms", "I", false)
  | 7 => ("RootJudgeModel", "factor", "[J", true)
  | 8 => ("RootJudgeModel", "rel", "[I", true)
  | 9 => ("RootJudgeModel", "made", "[I", true)
  | 10 => ("RootJudgeModel", "makes", "I", false)
  | 11 => ("RootJudgeModel", "waits", "[I", true)
  | 12 => ("RootJudgeModel", "waiting", "I", false)
  | 13 => ("RootJudgeModel", "truth", "[Z", true)
  | 14 => ("RootJudgeModel", "sum", "[J", true)
  | 15 => ("RootJudgeModel", "term", "[J", true)
  | 16 => ("RootJudgeModel", "base", "[J", true)
  | 17 => ("RootJudgeModel", "product", "[J", true)
  | 18 => ("RootJudgeModel", "sumSign", "[I", true)
  | 19 => ("RootJudgeModel", "sumPlace", "[I", true)
  | 20 => ("RootJudgeModel", "timesPlace", "[I", true)
  | 21 => ("RootJudgeModel", "deep", "I", false)
  | 22 => ("RootJudgeModel", "spare", "[J", true)
  | 23 => ("RootJudgeModel", "a", "[I", true)
  | 24 => ("RootJudgeModel", "top", "I", false)
  | 25 => ("RootJudgeModel", "quotient", "I", false)
  | 26 => ("RootJudgeModel", "degree", "[I", true)
  | 27 => ("RootJudgeModel", "part", "[I", true)
  | 28 => ("RootJudgeModel", "polynomials", "I", false)
  | 29 => ("RootJudgeModel", "chainMany", "I", false)
  | 30 => ("RootJudgeModel", "chain", "[I", true)
  | 31 => ("RootJudgeModel", "moved", "[I", true)
  | 32 => ("RootJudgeModel", "movedEnd", "I", false)
  | 33 => ("RootJudgeModel", "movedAt", "I", false)
  | 34 => ("RootJudgeModel", "bases", "I", false)
  | 35 => ("RootJudgeModel", "baseOf", "[I", true)
  | 36 => ("RootJudgeModel", "factors", "I", false)
  | 37 => ("RootJudgeModel", "factorOf", "[I", true)
  | 38 => ("RootJudgeModel", "factorAtom", "[I", true)
  | 39 => ("RootJudgeModel", "factorTimes", "[I", true)
  | 40 => ("RootJudgeModel", "times2", "[I", true)
  | 41 => ("RootJudgeModel", "roots", "I", false)
  | 42 => ("RootJudgeModel", "rootBase", "[I", true)
  | 43 => ("RootJudgeModel", "above", "[J", true)
  | 44 => ("RootJudgeModel", "below", "[J", true)
  | 45 => ("RootJudgeModel", "rootOf", "[I", true)
  | 46 => ("RootJudgeModel", "half", "[I", true)
  | 47 => ("RootJudgeModel", "halfSize", "[I", true)
  | 48 => ("RootJudgeModel", "signLeft", "[I", true)
  | 49 => ("RootJudgeModel", "order", "[I", true)
  | 50 => ("RootJudgeModel", "pile", "[I", true)
  | 51 => ("RootJudgeModel", "pileSize", "[I", true)
  | 52 => ("RootJudgeModel", "rooms", "I", false)
  | 53 => ("RootJudgeModel", "signs", "[I", true)
  | _ => ("RootJudgeModel", "holding", "[Z", true)
def tyX10 : Nat → FieldType := fun k => match k with
  | 0 => .array .int
  | 1 => .int
  | 2 => .int
  | 3 => .int
  | 4 => .int
  | 5 => .boolean
  | 6 => .int
  | 7 => .array .long
  | 8 => .array .int
  | 9 => .array .int
  | 10 => .int
  | 11 => .array .int
  | 12 => .int
  | 13 => .array .boolean
  | 14 => .array .long
  | 15 => .array .long
  | 16 => .array .long
  | 17 => .array .long
  | 18 => .array .int
  | 19 => .array .int
  | 20 => .array .int
  | 21 => .int
  | 22 => .array .long
  | 23 => .array .int
  | 24 => .int
  | 25 => .int
  | 26 => .array .int
  | 27 => .array .int
  | 28 => .int
  | 29 => .int
  | 30 => .array .int
  | 31 => .array .int
  | 32 => .int
  | 33 => .int
  | 34 => .int
  | 35 => .array .int
  | 36 => .int
  | 37 => .array .int
  | 38 => .array .int
  | 39 => .array .int
  | 40 => .array .int
  | 41 => .int
  | 42 => .array .int
  | 43 => .array .long
  | 44 => .array .long
  | 45 => .array .int
  | 46 => .array .int
  | 47 => .array .int
  | 48 => .array .int
  | 49 => .array .int
  | 50 => .array .int
  | 51 => .array .int
  | 52 => .int
  | 53 => .array .int
  | _ => .array .boolean
abbrev wsX100 : List Cond := u_ws RX10 TX10 55
theorem nmX10 : ∀ a, a < 55 → ∀ b, b < 55 → a ≠ b → (TX10 a).2.1 ≠ (TX10 b).2.1 := by decide +kernel
theorem tyX10_ok : ∀ k, k < 55 → parseFieldDescriptor (TX10 k).2.2.1 = some (tyX10 k) := by decide +kernel
abbrev cX10_init : ByteArray := prog_12_method_1_code
def yX10_init : MethodName := ⟨RX10, "<init>", "()V"⟩
abbrev cX10_isSign : ByteArray := prog_12_method_2_code
def yX10_isSign : MethodName := ⟨RX10, "isSign", "(I)Z"⟩
abbrev cX10_type : ByteArray := prog_12_method_3_code
def yX10_type : MethodName := ⟨RX10, "type", "(I)I"⟩
abbrev cX10_four : ByteArray := prog_12_method_4_code
def yX10_four : MethodName := ⟨RX10, "four", "(I)I"⟩
abbrev cX10_good : ByteArray := prog_12_method_5_code
def yX10_good : MethodName := ⟨RX10, "good", "()Z"⟩
abbrev cX10_fail : ByteArray := prog_12_method_6_code
def yX10_fail : MethodName := ⟨RX10, "fail", "(II)V"⟩
abbrev cX10_peek : ByteArray := prog_12_method_7_code
def yX10_peek : MethodName := ⟨RX10, "peek", "()I"⟩
abbrev cX10_isDigit : ByteArray := prog_12_method_8_code
def yX10_isDigit : MethodName := ⟨RX10, "isDigit", "(I)Z"⟩
abbrev cX10_isToken : ByteArray := prog_12_method_9_code
def yX10_isToken : MethodName := ⟨RX10, "isToken", "(I)Z"⟩
abbrev cX10_cannot : ByteArray := prog_12_method_10_code
def yX10_cannot : MethodName := ⟨RX10, "cannot", "()V"⟩
abbrev cX10_number : ByteArray := prog_12_method_11_code
def yX10_number : MethodName := ⟨RX10, "number", "()I"⟩
abbrev cX10_look : ByteArray := prog_12_method_12_code
def yX10_look : MethodName := ⟨RX10, "look", "()V"⟩
abbrev cX10_isFine : ByteArray := prog_12_method_13_code
def yX10_isFine : MethodName := ⟨RX10, "isFine", "(J)Z"⟩
abbrev cX10_multiply : ByteArray := prog_12_method_14_code
def yX10_multiply : MethodName := ⟨RX10, "multiply", "(I)V"⟩
abbrev cX10_raise : ByteArray := prog_12_method_15_code
def yX10_raise : MethodName := ⟨RX10, "raise", "(II)V"⟩
abbrev cX10_beginSum : ByteArray := prog_12_method_16_code
def yX10_beginSum : MethodName := ⟨RX10, "beginSum", "()V"⟩
abbrev cX10_endBase : ByteArray := prog_12_method_17_code
def yX10_endBase : MethodName := ⟨RX10, "endBase", "()V"⟩
abbrev cX10_endTerm : ByteArray := prog_12_method_18_code
def yX10_endTerm : MethodName := ⟨RX10, "endTerm", "()V"⟩
abbrev cX10_readSum : ByteArray := prog_12_method_19_code
def yX10_readSum : MethodName := ⟨RX10, "readSum", "()V"⟩
abbrev cX10_takeBase : ByteArray := prog_12_method_20_code
def yX10_takeBase : MethodName := ⟨RX10, "takeBase", "(I)Z"⟩
abbrev cX10_endBracket : ByteArray := prog_12_method_21_code
def yX10_endBracket : MethodName := ⟨RX10, "endBracket", "(I)V"⟩
abbrev cX10_readAtom : ByteArray := prog_12_method_22_code
def yX10_readAtom : MethodName := ⟨RX10, "readAtom", "()V"⟩
abbrev cX10_make : ByteArray := prog_12_method_23_code
def yX10_make : MethodName := ⟨RX10, "make", "(I)V"⟩
abbrev cX10_wait1 : ByteArray := prog_12_method_24_code
def yX10_wait1 : MethodName := ⟨RX10, "wait1", "(I)V"⟩
abbrev cX10_settle : ByteArray := prog_12_method_25_code
def yX10_settle : MethodName := ⟨RX10, "settle", "(I)V"⟩
abbrev cX10_readText : ByteArray := prog_12_method_26_code
def yX10_readText : MethodName := ⟨RX10, "readText", "()V"⟩
abbrev cX10_whole : ByteArray := prog_12_method_27_code
def yX10_whole : MethodName := ⟨RX10, "whole", "(J)I"⟩
abbrev cX10_limbs : ByteArray := prog_12_method_28_code
def yX10_limbs : MethodName := ⟨RX10, "limbs", "(I)I"⟩
abbrev cX10_sgn : ByteArray := prog_12_method_29_code
def yX10_sgn : MethodName := ⟨RX10, "sgn", "(I)I"⟩
abbrev cX10_copyTo : ByteArray := prog_12_method_30_code
def yX10_copyTo : MethodName := ⟨RX10, "copyTo", "(II)V"⟩
abbrev cX10_keep : ByteArray := prog_12_method_31_code
def yX10_keep : MethodName := ⟨RX10, "keep", "(II)I"⟩
abbrev cX10_again : ByteArray := prog_12_method_32_code
def yX10_again : MethodName := ⟨RX10, "again", "(I)I"⟩
abbrev cX10_less : ByteArray := prog_12_method_33_code
def yX10_less : MethodName := ⟨RX10, "less", "(I)I"⟩
abbrev cX10_weigh : ByteArray := prog_12_method_34_code
def yX10_weigh : MethodName := ⟨RX10, "weigh", "(II)I"⟩
abbrev cX10_compare : ByteArray := prog_12_method_35_code
def yX10_compare : MethodName := ⟨RX10, "compare", "(II)I"⟩
abbrev cX10_joined : ByteArray := prog_12_method_36_code
def yX10_joined : MethodName := ⟨RX10, "joined", "(IIZZ)I"⟩
abbrev cX10_plus : ByteArray := prog_12_method_37_code
def yX10_plus : MethodName := ⟨RX10, "plus", "(II)I"⟩
abbrev cX10_minus : ByteArray := prog_12_method_38_code
def yX10_minus : MethodName := ⟨RX10, "minus", "(II)I"⟩
abbrev cX10_by : ByteArray := prog_12_method_39_code
def yX10_by : MethodName := ⟨RX10, "by", "(II)I"⟩
abbrev cX10_divide : ByteArray := prog_12_method_40_code
def yX10_divide : MethodName := ⟨RX10, "divide", "(II)I"⟩
abbrev cX10_digit : ByteArray := prog_12_method_41_code
def yX10_digit : MethodName := ⟨RX10, "digit", "(IIII)I"⟩
abbrev cX10_fitsSo : ByteArray := prog_12_method_42_code
def yX10_fitsSo : MethodName := ⟨RX10, "fitsSo", "(IIIIJ)Z"⟩
abbrev cX10_over : ByteArray := prog_12_method_43_code
def yX10_over : MethodName := ⟨RX10, "over", "(II)I"⟩
abbrev cX10_gcd : ByteArray := prog_12_method_44_code
def yX10_gcd : MethodName := ⟨RX10, "gcd", "(II)I"⟩
abbrev cX10_powerOfTwo : ByteArray := prog_12_method_45_code
def yX10_powerOfTwo : MethodName := ⟨RX10, "powerOfTwo", "(I)I"⟩
abbrev cX10_newPolynomial : ByteArray := prog_12_method_46_code
def yX10_newPolynomial : MethodName := ⟨RX10, "newPolynomial", "(I)I"⟩
abbrev cX10_at : ByteArray := prog_12_method_47_code
def yX10_at : MethodName := ⟨RX10, "at", "(II)I"⟩
abbrev cX10_set : ByteArray := prog_12_method_48_code
def yX10_set : MethodName := ⟨RX10, "set", "(III)V"⟩
abbrev cX10_clean : ByteArray := prog_12_method_49_code
def yX10_clean : MethodName := ⟨RX10, "clean", "(IZ)V"⟩
abbrev cX10_derivative : ByteArray := prog_12_method_50_code
def yX10_derivative : MethodName := ⟨RX10, "derivative", "(I)I"⟩
abbrev cX10_restOf : ByteArray := prog_12_method_51_code
def yX10_restOf : MethodName := ⟨RX10, "restOf", "(II)I"⟩
abbrev cX10_common2 : ByteArray := prog_12_method_52_code
def yX10_common2 : MethodName := ⟨RX10, "common2", "(II)I"⟩
abbrev cX10_share : ByteArray := prog_12_method_53_code
def yX10_share : MethodName := ⟨RX10, "share", "(II)I"⟩
abbrev cX10_signAt2 : ByteArray := prog_12_method_54_code
def yX10_signAt2 : MethodName := ⟨RX10, "signAt2", "(III)I"⟩
abbrev cX10_makeChain : ByteArray := prog_12_method_55_code
def yX10_makeChain : MethodName := ⟨RX10, "makeChain", "(I)V"⟩
abbrev cX10_changesAt : ByteArray := prog_12_method_56_code
def yX10_changesAt : MethodName := ⟨RX10, "changesAt", "(II)I"⟩
abbrev cX10_changesAtHalf : ByteArray := prog_12_method_57_code
def yX10_changesAtHalf : MethodName := ⟨RX10, "changesAtHalf", "(II)I"⟩
abbrev cX10_stay : ByteArray := prog_12_method_58_code
def yX10_stay : MethodName := ⟨RX10, "stay", "(I)V"⟩
abbrev cX10_giveBack : ByteArray := prog_12_method_59_code
def yX10_giveBack : MethodName := ⟨RX10, "giveBack", "(II)V"⟩
abbrev cX10_comeBack : ByteArray := prog_12_method_60_code
def yX10_comeBack : MethodName := ⟨RX10, "comeBack", "()I"⟩
abbrev cX10_polynomialOf : ByteArray := prog_12_method_61_code
def yX10_polynomialOf : MethodName := ⟨RX10, "polynomialOf", "(I)I"⟩
abbrev cX10_part1 : ByteArray := prog_12_method_62_code
def yX10_part1 : MethodName := ⟨RX10, "part1", "(I)V"⟩
abbrev cX10_join : ByteArray := prog_12_method_63_code
def yX10_join : MethodName := ⟨RX10, "join", "(I)V"⟩
abbrev cX10_findTimes : ByteArray := prog_12_method_64_code
def yX10_findTimes : MethodName := ⟨RX10, "findTimes", "()V"⟩
abbrev cX10_divisor : ByteArray := prog_12_method_65_code
def yX10_divisor : MethodName := ⟨RX10, "divisor", "(JJ)J"⟩
abbrev cX10_findRoots : ByteArray := prog_12_method_66_code
def yX10_findRoots : MethodName := ⟨RX10, "findRoots", "(I)V"⟩
abbrev cX10_plus1 : ByteArray := prog_12_method_67_code
def yX10_plus1 : MethodName := ⟨RX10, "plus1", "(II)I"⟩
abbrev cX10_addRoot : ByteArray := prog_12_method_68_code
def yX10_addRoot : MethodName := ⟨RX10, "addRoot", "(III)V"⟩
abbrev cX10_valueOf : ByteArray := prog_12_method_69_code
def yX10_valueOf : MethodName := ⟨RX10, "valueOf", "(I)J"⟩
abbrev cX10_reserve : ByteArray := prog_12_method_70_code
def yX10_reserve : MethodName := ⟨RX10, "reserve", "(I)I"⟩
abbrev cX10_restRoots : ByteArray := prog_12_method_71_code
def yX10_restRoots : MethodName := ⟨RX10, "restRoots", "(II)V"⟩
abbrev cX10_refine : ByteArray := prog_12_method_72_code
def yX10_refine : MethodName := ⟨RX10, "refine", "(I)V"⟩
abbrev cX10_against : ByteArray := prog_12_method_73_code
def yX10_against : MethodName := ⟨RX10, "against", "(IJJ)I"⟩
abbrev cX10_isBefore : ByteArray := prog_12_method_74_code
def yX10_isBefore : MethodName := ⟨RX10, "isBefore", "(II)Z"⟩
abbrev cX10_findAll : ByteArray := prog_12_method_75_code
def yX10_findAll : MethodName := ⟨RX10, "findAll", "()V"⟩
abbrev cX10_timesAt : ByteArray := prog_12_method_76_code
def yX10_timesAt : MethodName := ⟨RX10, "timesAt", "(II)I"⟩
abbrev cX10_degreeOf : ByteArray := prog_12_method_77_code
def yX10_degreeOf : MethodName := ⟨RX10, "degreeOf", "(I)I"⟩
abbrev cX10_cells : ByteArray := prog_12_method_78_code
def yX10_cells : MethodName := ⟨RX10, "cells", "()I"⟩
abbrev cX10_signAll : ByteArray := prog_12_method_79_code
def yX10_signAll : MethodName := ⟨RX10, "signAll", "()V"⟩
abbrev cX10_isSo : ByteArray := prog_12_method_80_code
def yX10_isSo : MethodName := ⟨RX10, "isSo", "(I)Z"⟩
abbrev cX10_load : ByteArray := prog_12_method_81_code
def yX10_load : MethodName := ⟨RX10, "load", "()I"⟩
abbrev cX10_holdingMany : ByteArray := prog_12_method_82_code
def yX10_holdingMany : MethodName := ⟨RX10, "holdingMany", "()I"⟩
abbrev cX10_count : ByteArray := prog_12_method_83_code
def yX10_count : MethodName := ⟨RX10, "count", "(I)I"⟩
abbrev cX10_isAtom : ByteArray := prog_12_method_84_code
def yX10_isAtom : MethodName := ⟨RX10, "isAtom", "(I)Z"⟩
abbrev cX10_isRoot : ByteArray := prog_12_method_85_code
def yX10_isRoot : MethodName := ⟨RX10, "isRoot", "(I)Z"⟩
abbrev cX10_isCell : ByteArray := prog_12_method_86_code
def yX10_isCell : MethodName := ⟨RX10, "isCell", "(I)Z"⟩
abbrev cX10_atom : ByteArray := prog_12_method_87_code
def yX10_atom : MethodName := ⟨RX10, "atom", "(II)I"⟩
abbrev cX10_judge : ByteArray := prog_12_method_88_code
def yX10_judge : MethodName := ⟨RX10, "judge", "(I)I"⟩
abbrev cX10_holds : ByteArray := prog_12_method_89_code
def yX10_holds : MethodName := ⟨RX10, "holds", "(I)I"⟩
abbrev cX10_sign : ByteArray := prog_12_method_90_code
def yX10_sign : MethodName := ⟨RX10, "sign", "(II)I"⟩
abbrev cX10_floor : ByteArray := prog_12_method_91_code
def yX10_floor : MethodName := ⟨RX10, "floor", "(JJ)J"⟩
abbrev cX10_floorOf : ByteArray := prog_12_method_92_code
def yX10_floorOf : MethodName := ⟨RX10, "floorOf", "(IJ)J"⟩
abbrev cX10_root : ByteArray := prog_12_method_93_code
def yX10_root : MethodName := ⟨RX10, "root", "(II)J"⟩
abbrev cX10_times : ByteArray := prog_12_method_94_code
def yX10_times : MethodName := ⟨RX10, "times", "(II)I"⟩
abbrev cX10_exact : ByteArray := prog_12_method_95_code
def yX10_exact : MethodName := ⟨RX10, "exact", "(II)J"⟩
abbrev cX10_common : ByteArray := prog_12_method_96_code
def yX10_common : MethodName := ⟨RX10, "common", "(I)I"⟩
abbrev cX10_simple : ByteArray := prog_12_method_97_code
def yX10_simple : MethodName := ⟨RX10, "simple", "(II)J"⟩
abbrev cX10_mostBelow : ByteArray := prog_12_method_98_code
def yX10_mostBelow : MethodName := ⟨RX10, "mostBelow", "(IJ)J"⟩
abbrev cX10_isNumber : ByteArray := prog_12_method_99_code
def yX10_isNumber : MethodName := ⟨RX10, "isNumber", "(II)Z"⟩
abbrev cX10_cellOf : ByteArray := prog_12_method_100_code
def yX10_cellOf : MethodName := ⟨RX10, "cellOf", "(II)I"⟩
abbrev cX10_signAt : ByteArray := prog_12_method_101_code
def yX10_signAt : MethodName := ⟨RX10, "signAt", "(III)I"⟩
def RJ11 : String := "java/lang/Character"
abbrev cJ11_isValidCodePoint_9a6ad : ByteArray := prog_13_method_11_code
def yJ11_isValidCodePoint_9a6ad : MethodName := ⟨RJ11, "isValidCodePoint", "(I)Z"⟩
abbrev cJ11_highSurrogate_5068e : ByteArray := prog_13_method_28_code
def yJ11_highSurrogate_5068e : MethodName := ⟨RJ11, "highSurrogate", "(I)C"⟩
abbrev cJ11_lowSurrogate_5068e : ByteArray := prog_13_method_29_code
def yJ11_lowSurrogate_5068e : MethodName := ⟨RJ11, "lowSurrogate", "(I)C"⟩
def RJ13 : String := "java/lang/Long"
abbrev cJ13_compare_74951 : ByteArray := prog_14_method_42_code
def yJ13_compare_74951 : MethodName := ⟨RJ13, "compare", "(JJ)I"⟩
def RJ9 : String := "java/lang/Math"
abbrev cJ9_floorDiv_7cf53 : ByteArray := prog_15_method_47_code
def yJ9_floorDiv_7cf53 : MethodName := ⟨RJ9, "floorDiv", "(II)I"⟩
abbrev cJ9_floorDiv_f86c9 : ByteArray := prog_15_method_49_code
def yJ9_floorDiv_f86c9 : MethodName := ⟨RJ9, "floorDiv", "(JJ)J"⟩
abbrev cJ9_floorMod_7cf53 : ByteArray := prog_15_method_50_code
def yJ9_floorMod_7cf53 : MethodName := ⟨RJ9, "floorMod", "(II)I"⟩
abbrev cJ9_floorMod_f86c9 : ByteArray := prog_15_method_52_code
def yJ9_floorMod_f86c9 : MethodName := ⟨RJ9, "floorMod", "(JJ)J"⟩
abbrev cJ9_abs_0f7a4 : ByteArray := prog_15_method_59_code
def yJ9_abs_0f7a4 : MethodName := ⟨RJ9, "abs", "(I)I"⟩
abbrev cJ9_abs_067f4 : ByteArray := prog_15_method_61_code
def yJ9_abs_067f4 : MethodName := ⟨RJ9, "abs", "(J)J"⟩
abbrev cJ9_max_7cf53 : ByteArray := prog_15_method_65_code
def yJ9_max_7cf53 : MethodName := ⟨RJ9, "max", "(II)I"⟩
abbrev cJ9_max_f86c9 : ByteArray := prog_15_method_66_code
def yJ9_max_f86c9 : MethodName := ⟨RJ9, "max", "(JJ)J"⟩
abbrev cJ9_min_7cf53 : ByteArray := prog_15_method_69_code
def yJ9_min_7cf53 : MethodName := ⟨RJ9, "min", "(II)I"⟩
def RJ0 : String := "java/lang/String"
abbrev cJ0_length_8abf5 : ByteArray := prog_16_method_54_code
def yJ0_length_8abf5 : MethodName := ⟨RJ0, "length", "()I"⟩
abbrev cJ0_indexOf_0f7a4 : ByteArray := prog_16_method_79_code
def yJ0_indexOf_0f7a4 : MethodName := ⟨RJ0, "indexOf", "(I)I"⟩
abbrev cJ0_indexOf_7cf53 : ByteArray := prog_16_method_80_code
def yJ0_indexOf_7cf53 : MethodName := ⟨RJ0, "indexOf", "(II)I"⟩
abbrev cJ0_coder_7d493 : ByteArray := prog_16_method_152_code
def yJ0_coder_7d493 : MethodName := ⟨RJ0, "coder", "()B"⟩
abbrev cJ0_isLatin1_aae02 : ByteArray := prog_16_method_154_code
def yJ0_isLatin1_aae02 : MethodName := ⟨RJ0, "isLatin1", "()Z"⟩
abbrev cJ0_checkBoundsBeginEnd_23922 : ByteArray := prog_16_method_158_code
def yJ0_checkBoundsBeginEnd_23922 : MethodName := ⟨RJ0, "checkBoundsBeginEnd", "(III)V"⟩
def RJ1 : String := "java/lang/StringLatin1"
abbrev cJ1_canEncode_9a6ad : ByteArray := prog_17_method_4_code
def yJ1_canEncode_9a6ad : MethodName := ⟨RJ1, "canEncode", "(I)Z"⟩
abbrev cJ1_indexOf_4cfef : ByteArray := prog_17_method_22_code
def yJ1_indexOf_4cfef : MethodName := ⟨RJ1, "indexOf", "([BIII)I"⟩
abbrev cJ1_indexOfChar_4cfef : ByteArray := prog_17_method_23_code
def yJ1_indexOfChar_4cfef : MethodName := ⟨RJ1, "indexOfChar", "([BIII)I"⟩
def RJ2 : String := "java/lang/StringUTF16"
abbrev cJ2_getChar_3b067 : ByteArray := prog_18_method_5_code
def yJ2_getChar_3b067 : MethodName := ⟨RJ2, "getChar", "([BI)C"⟩
abbrev cJ2_length_9d52b : ByteArray := prog_18_method_6_code
def yJ2_length_9d52b : MethodName := ⟨RJ2, "length", "([B)I"⟩
abbrev cJ2_indexOf_4cfef : ByteArray := prog_18_method_40_code
def yJ2_indexOf_4cfef : MethodName := ⟨RJ2, "indexOf", "([BIII)I"⟩
abbrev cJ2_indexOfChar_4cfef : ByteArray := prog_18_method_47_code
def yJ2_indexOfChar_4cfef : MethodName := ⟨RJ2, "indexOfChar", "([BIII)I"⟩
abbrev cJ2_indexOfCharUnsafe_4cfef : ByteArray := prog_18_method_48_code
def yJ2_indexOfCharUnsafe_4cfef : MethodName := ⟨RJ2, "indexOfCharUnsafe", "([BIII)I"⟩
abbrev cJ2_indexOfSupplementary_4cfef : ByteArray := prog_18_method_49_code
def yJ2_indexOfSupplementary_4cfef : MethodName := ⟨RJ2, "indexOfSupplementary", "([BIII)I"⟩
abbrev cJ2_checkBoundsBeginEnd_d044e : ByteArray := prog_18_method_93_code
def yJ2_checkBoundsBeginEnd_d044e : MethodName := ⟨RJ2, "checkBoundsBeginEnd", "(II[B)V"⟩
def RJ10 : String := "java/lang/System"
def RJ3 : String := "jdk/internal/util/Preconditions"
abbrev cJ3_checkFromToIndex_8c36e : ByteArray := prog_20_method_12_code
def yJ3_checkFromToIndex_8c36e : MethodName := ⟨RJ3, "checkFromToIndex", "(IIILjava/util/function/BiFunction;)I"⟩
def RL : String := "RootJudgeLaw"
abbrev cL_law : ByteArray := code
def yL_law : MethodName := ⟨RL, "law", "([I)Z"⟩
abbrev vwCl : List vw_C := [(RX0, TX0, 8), (RX1, TX1, 3), (RX2, TX2, 8), (RX3, TX3, 17), (RX4, TX4, 13), (RX5, TX5, 6), (RX6, TX6, 2), (RX7, TX7, 14), (RX8, TX8, 10), (RX9, TX9, 8), (RX10, TX10, 55)]
end
section
/-! A MACHINE OF ITS OWN: the bytecode's instructions as functions over lists. A reference .ref k is the place k of the machine's heap (a list of cells), .retAddr n a cell that was there before (the script, a String constant, its bytes). -/
abbrev rm_H : Type := List va_E
abbrev rm_L : Type := List (Nat × Value)
/-- cells made, slots made, what symbolic branches shall do, whether they do -/
abbrev rm_T : Type := Nat × Nat × List Nat × Bool
abbrev rm_N : Type := Nat × rm_L × List Value × rm_H × rm_T
def rm_get : rm_L → Nat → Option Value
  | [], _ => none
  | q :: r, i => if q.1 == i then some q.2 else rm_get r i
def rm_put1 (lv : rm_L) (i : Nat) (v : Value) : rm_L := (i, v) :: lv.filter (fun q => !(q.1 == i) && !(q.1 + 1 == i && q.2.category == 2))
def rm_put2 (lv : rm_L) (i : Nat) (v : Value) : rm_L := (i, v) :: lv.filter (fun q => !(q.1 == i) && (!(q.1 == i + 1) && !(q.1 + 1 == i && q.2.category == 2)))
/-- what is known of the numbers that are only named: (name, number, condition, whether it holds) -/
abbrev rm_F : Type := List (Nat × Int32 × Nat × Bool)
def rm_cn : ClassFile.Cond → Nat
  | .eq => 0
  | .ne => 1
  | .lt => 2
  | .ge => 3
  | .gt => 4
  | .le => 5
def rm_lf : rm_F → Nat → Int32 → Nat → Option Bool
  | [], _, _, _ => none
  | q :: r, k, y, c => if q.1 = k ∧ q.2.1 = y ∧ q.2.2.1 = c then some q.2.2.2 else rm_lf r k y c
def rm_lw : rm_F → Nat → Option Int32
  | [], _ => none
  | q :: r, k => if q.1 = k ∧ q.2.2.1 = 0 ∧ q.2.2.2 = true then some q.2.1 else rm_lw r k
/-- a number out of a named one by a mask (0), a shift (1, 2), a narrowing (3): its name -/
def rm_sym (op k : Nat) (y : Int32) : Option Nat := match op with
  | 0 => if k = 0 ∧ y = 15 then some 4 else if 10 ≤ k ∧ k < 14 ∧ y = 255 then some (k + 20) else if 20 ≤ k ∧ k < 24 ∧ y = 255 then some (k + 10) else none
  | 1 => if k = 1 then (if y = 0 then some 20 else if y = 8 then some 21 else if y = 16 then some 22 else if y = 24 then some 23 else none) else none
  | 2 => if k = 1 then (if y = 0 then some 10 else if y = 8 then some 11 else if y = 16 then some 12 else if y = 24 then some 13 else none) else none
  | 3 => if k = 1 then some 50 else if 30 ≤ k ∧ k < 34 then some (k + 30) else none
  | _ => none
def rm_fop (op : Nat) (x y : Int32) : Int32 := match op with
  | 0 => x &&& y
  | 1 => x >>> (y &&& 31)
  | 2 => (x.toUInt32 >>> (y.toUInt32 &&& Int32.toUInt32 31)).toInt32
  | _ => (x.toUInt32 % 65536).toInt32
def rm_cnd (c : ClassFile.Cond) (x y : Int32) : Bool := match c with
  | .eq => decide (x = y)
  | .ne => decide (¬ x = y)
  | .lt => decide (x < y)
  | .ge => decide (y ≤ x)
  | .gt => decide (y < x)
  | .le => decide (x ≤ y)
def rm_tgt (pc : Nat) (off : Int) : Option Nat := if 0 ≤ (pc : Int) + off then some ((pc : Int) + off).toNat else none
-- families of instructions
def rm_push (n : Nat) (v : Value) (q : rm_N) : Option rm_N := some (q.1 + n, q.2.1, v :: q.2.2.1, q.2.2.2)
def rm_load (n i : Nat) (q : rm_N) : Option rm_N := match rm_get q.2.1 i with
  | some v => some (q.1 + n, q.2.1, v :: q.2.2.1, q.2.2.2)
  | none => none
def rm_isI : Value → Bool | .int _ => true | .float _ => true | _ => false
def rm_isJ : Value → Bool | .long _ => true | _ => false
def rm_isA : Value → Bool | .ref _ => true | .retAddr _ => true | _ => false
def rm_loadT (f : Value → Bool) (n i : Nat) (q : rm_N) : Option rm_N := match rm_get q.2.1 i with
  | some v => if f v then some (q.1 + n, q.2.1, v :: q.2.2.1, q.2.2.2) else none
  | none => none
def rm_store1 (f : Value → Bool) (nL n i : Nat) (q : rm_N) : Option rm_N := match q.2.2.1 with
  | v :: r => if f v && decide (i < nL) then some (q.1 + n, rm_put1 q.2.1 i v, r, q.2.2.2) else none
  | _ => none
def rm_store2 (nL n i : Nat) (q : rm_N) : Option rm_N := match q.2.2.1 with
  | .long v :: r => if i + 1 < nL then some (q.1 + n, rm_put2 q.2.1 i (.long v), r, q.2.2.2) else none
  | _ => none
def rm_iinc (nL i : Nat) (k : Int) (q : rm_N) : Option rm_N := match rm_get q.2.1 i with
  | some (.int x) => if i < nL then some (q.1 + 3, rm_put1 q.2.1 i (.int (x + Int32.ofInt k)), q.2.2.1, q.2.2.2) else none
  | _ => none
def rm_ii (f : Int32 → Int32 → Int32) (q : rm_N) : Option rm_N := match q.2.2.1 with
  | .int y :: .int x :: r => some (q.1 + 1, q.2.1, .int (f x y) :: r, q.2.2.2)
  | _ => none
def rm_iiz (f : Int32 → Int32 → Int32) (q : rm_N) : Option rm_N := match q.2.2.1 with
  | .int y :: .int x :: r => if y = 0 then none else some (q.1 + 1, q.2.1, .int (f x y) :: r, q.2.2.2)
  | _ => none
def rm_jji (f : Int64 → Int64 → Int32) (q : rm_N) : Option rm_N := match q.2.2.1 with
  | .long y :: .long x :: r => some (q.1 + 1, q.2.1, .int (f x y) :: r, q.2.2.2)
  | _ => none
def rm_jij (f : Int64 → Int32 → Int64) (q : rm_N) : Option rm_N := match q.2.2.1 with
  | .int y :: .long x :: r => some (q.1 + 1, q.2.1, .long (f x y) :: r, q.2.2.2)
  | _ => none
def rm_i1 (f : Int32 → Value) (q : rm_N) : Option rm_N := match q.2.2.1 with
  | .int x :: r => some (q.1 + 1, q.2.1, f x :: r, q.2.2.2)
  | _ => none
def rm_j1 (f : Int64 → Value) (q : rm_N) : Option rm_N := match q.2.2.1 with
  | .long x :: r => some (q.1 + 1, q.2.1, f x :: r, q.2.2.2)
  | _ => none
def rm_dup (q : rm_N) : Option rm_N := match q.2.2.1 with
  | v :: r => if v.category = 1 then some (q.1 + 1, q.2.1, v :: v :: r, q.2.2.2) else none
  | _ => none
def rm_pop (q : rm_N) : Option rm_N := match q.2.2.1 with
  | v :: r => if v.category = 1 then some (q.1 + 1, q.2.1, r, q.2.2.2) else none
  | _ => none
def rm_goto (off : Int) (q : rm_N) : Option rm_N := match rm_tgt q.1 off with
  | some g => some (g, q.2)
  | none => none
def rm_iis (op : Nat) (q : rm_N) : Option rm_N := match q.2.2.1 with
  | .int y :: .int x :: r => some (q.1 + 1, q.2.1, .int (rm_fop op x y) :: r, q.2.2.2)
  | .int y :: .float k :: r => match rm_sym op k.toNat y with
    | some j => some (q.1 + 1, q.2.1, .float (UInt32.ofNat j) :: r, q.2.2.2)
    | none => none
  | _ => none
def rm_i1s (q : rm_N) : Option rm_N := match q.2.2.1 with
  | .int x :: r => some (q.1 + 1, q.2.1, .int (rm_fop 3 x 0) :: r, q.2.2.2)
  | .float k :: r => match rm_sym 3 k.toNat 0 with
    | some j => some (q.1 + 1, q.2.1, .float (UInt32.ofNat j) :: r, q.2.2.2)
    | none => none
  | _ => none
/-- whether a condition holds of a number or a named one -/
def rm_dec (F : rm_F) (c : ClassFile.Cond) (x : Value) (y : Int32) : Option Bool := match x with
  | .int x => some (rm_cnd c x y)
  | .float k => rm_lf F k.toNat y (rm_cn c)
  | _ => none
def rm_if1 (F : rm_F) (c : ClassFile.Cond) (off : Int) (q : rm_N) : Option rm_N := match q.2.2.1, rm_tgt q.1 off with
  | x :: r, some g => match rm_dec F c x 0 with
    | some b => some (if b then g else q.1 + 3, q.2.1, r, q.2.2.2)
    | none => none
  | _, _ => none
def rm_if2 (F : rm_F) (c : ClassFile.Cond) (off : Int) (q : rm_N) : Option rm_N := match q.2.2.1, rm_tgt q.1 off with
  | .int y :: x :: r, some g => match rm_dec F c x y with
    | some b => some (if b then g else q.1 + 3, q.2.1, r, q.2.2.2)
    | none => none
  | _, _ => none
def rm_num (F : rm_F) : Value → Option Int32
  | .int x => some x
  | .float k => rm_lw F k.toNat
  | _ => none
def rm_table (F : rm_F) (dflt lo hi : Int) (offs : List Int) (q : rm_N) : Option rm_N := match q.2.2.1 with
  | v :: r => match rm_num F v with
    | some x => if x.toInt < lo ∨ hi < x.toInt then (match rm_tgt q.1 dflt with
        | some g => some (g, q.2.1, r, q.2.2.2)
        | none => none) else (match offs[(x.toInt - lo).toNat]? with
        | some off => (match rm_tgt q.1 off with
          | some g => some (g, q.2.1, r, q.2.2.2)
          | none => none)
        | none => none)
    | none => none
  | _ => none
/-- what a link means: (index, kind, a, b, c); kind 0 a field of class a at place b (c = 0 its own, 1 a nest mate's); 1 a class a with b fields; 2 references to class a, of array type b; 3 a method b; 4 an int; 5 a long; 6 a text -/
abbrev rm_K5 : Type := Nat × Nat × Nat × Nat × Nat
def rm_lk (ks : List rm_K5) (i : Nat) : Option (Nat × Nat × Nat × Nat) := match ks with
  | [] => none
  | k :: r => if k.1 == i then some k.2 else rm_lk r i
def rm_obj (h : rm_H) (a : Nat) : Option (Nat × List Value) := match h[a]? with
  | some (.inr o) => some o
  | _ => none
def rm_getf (k : Option (Nat × Nat × Nat × Nat)) (q : rm_N) : Option rm_N := match k, q.2.2.1 with
  | some (0, ci, f, _), .ref a :: r => match rm_obj q.2.2.2.1 a with
    | some o => if o.1 = ci then (match o.2[f]? with
      | some v => some (q.1 + 3, q.2.1, v :: r, q.2.2.2)
      | none => none) else none
    | none => none
  | _, _ => none
/-- of which type a field's value must be, by the type's tag: 0 int, 1 long, 2 a reference, 3 boolean -/
def rm_fit : FieldType → Value → Bool
  | .int, .int _ => true
  | .long, .long _ => true
  | .boolean, .int x => decide (x = 0 ∨ x = 1)
  | .object _, .ref _ => true
  | .array _, .ref _ => true
  | _, _ => false
def rm_fty (T : u_T) (k : Nat) : Option FieldType := parseFieldDescriptor (T k).2.2.1
end
section
/-! THE MACHINE AGAINST THE KIT'S W: values, locals, heaps; the instructions that make no cell and read none -/
theorem rm_u32 {j : Nat} (h : j < 100) : (UInt32.ofNat j).toNat = j := by
  have h2 : j < 4294967296 := by omega
  first
    | exact UInt32.toNat_ofNat_of_lt h2
    | exact UInt32.toNat_ofNat_of_lt' h2
    | (simp; omega)
/-- the number that a name stands for -/
def rm_e (ext : Nat → Nat) (k : Nat) : Int32 := Int32.ofNat (ext (100 + k))
def rm_v (sz : Nat) (ext : Nat → Nat) : Value → Value
  | .ref k => .ref (sz + k)
  | .float k => .int (rm_e ext k.toNat)
  | .retAddr n => .ref (ext n)
  | v => v
theorem rm_v_cat (sz : Nat) (ext : Nat → Nat) (v : Value) : (rm_v sz ext v).category = v.category := by cases v <;> rfl
def rm_l (sz : Nat) (ext : Nat → Nat) (lv : rm_L) : rm_L := lv.map (fun q => (q.1, rm_v sz ext q.2))
def rm_a (sz : Nat) (a : vp_A) : vp_A := match a with
  | (n, .inr (.inr (.inr (.inr f)))) => (n, .inr (.inr (.inr (.inr (fun j => (f j).map (fun k => sz + k))))))
  | a => a
def rm_c (sz : Nat) (ext : Nat → Nat) (cA : Nat → ClassId) : va_E → va_E
  | .inl a => .inl (cA a.1, rm_a sz a.2)
  | .inr o => .inr (o.1, o.2.map (rm_v sz ext))
/-- a cell of the machine's heap; the marker .inr (.inr (.inl _)): an array of numbers of which only the length is known -/
def rm_kd (t : Nat) (d : (Nat → Int32) ⊕ (Nat → Int64) ⊕ (Nat → UInt32) ⊕ (Nat → UInt64) ⊕ (Nat → Option Nat)) : Prop := if t = 1 then ∃ f, d = .inr (.inl f) else ∃ f, d = .inl f
def rm_hv (D : va_G) (cA : Nat → ClassId) (a t n : Nat) (H : Heap) : Prop := t < 5 ∧ ∃ d, rm_kd t d ∧ va_at D vwCl (a, .inl (cA t, n, d)) H
def rm_at1 (D : va_G) (sz : Nat) (ext : Nat → Nat) (cA : Nat → ClassId) (k : Nat) (c : va_E) (H : Heap) : Prop := match c with
  | .inl (t, n, .inr (.inr (.inl _))) => rm_hv D cA (sz + k) t n H
  | c => va_at D vwCl (sz + k, rm_c sz ext cA c) H
theorem rm_at1.kept {D : va_G} {sz : Nat} {ext : Nat → Nat} {cA : Nat → ClassId} {k : Nat} {c : va_E} {H H1 : Heap} (h : rm_at1 D sz ext cA k c H) (e : H1[sz + k]? = H[sz + k]?) : rm_at1 D sz ext cA k c H1 := by
  unfold rm_at1 at h ⊢
  split at h
  · obtain ⟨h0, d, h1, h2⟩ := h
    exact ⟨h0, d, h1, h2.kept e⟩
  · exact h.kept e
/-- the machine's heap is what lies in the true heap from sz on -/
def rm_R (D : va_G) (sz : Nat) (ext : Nat → Nat) (cA : Nat → ClassId) (h : rm_H) (H : Heap) : Prop := H.size = sz + h.length ∧ ∀ (k : Nat) (c : va_E), h[k]? = some c → rm_at1 D sz ext cA k c H
/-- nothing below sz was written -/
def rm_S (sz : Nat) (H0 H : Heap) (locs : List Loc) : Prop := (∀ q : Nat, q < sz → H[q]? = H0[q]?) ∧ ∀ q ∈ locs, sz ≤ q.base
theorem rm_get_mem {lv : rm_L} {i : Nat} {v : Value} (h : rm_get lv i = some v) : (i, v) ∈ lv := by
  induction lv with
  | nil => cases h
  | cons q r ih =>
    unfold rm_get at h
    by_cases hq : q.1 == i
    · rw [if_pos hq] at h
      have e : q.1 = i := by simpa using hq
      cases h
      cases q
      cases e
      exact List.mem_cons_self
    · rw [if_neg hq] at h
      exact List.mem_cons_of_mem _ (ih h)
theorem rm_at {sz : Nat} {ext : Nat → Nat} {ls : Array Slot} {nL : Nat} {lv : rm_L} {i : Nat} {v : Value} (hl : lv_has ls nL (rm_l sz ext lv)) (h : rm_get lv i = some v) : ls[i]? = some (.val (rm_v sz ext v)) :=
  hl.2.2 (i, rm_v sz ext v) (List.mem_map.mpr ⟨(i, v), rm_get_mem h, rfl⟩)
theorem rm_l_put1 {sz : Nat} {ext : Nat → Nat} {lv : rm_L} {i : Nat} {v : Value} : (i, rm_v sz ext v) :: (rm_l sz ext lv).filter (fun q => !(q.1 == i) && !(q.1 + 1 == i && q.2.category == 2)) = rm_l sz ext (rm_put1 lv i v) := by
  unfold rm_l rm_put1
  rw [List.map_cons, List.filter_map]
  refine congrArg (fun z => _ :: List.map _ (List.filter z lv)) ?_
  funext q
  simp [Function.comp, rm_v_cat]
theorem rm_l_put2 {sz : Nat} {ext : Nat → Nat} {lv : rm_L} {i : Nat} {v : Value} : (i, rm_v sz ext v) :: (rm_l sz ext lv).filter (fun q => !(q.1 == i) && (!(q.1 == i + 1) && !(q.1 + 1 == i && q.2.category == 2))) = rm_l sz ext (rm_put2 lv i v) := by
  unfold rm_l rm_put2
  rw [List.map_cons, List.filter_map]
  refine congrArg (fun z => _ :: List.map _ (List.filter z lv)) ?_
  funext q
  simp [Function.comp, rm_v_cat]
/-- what is said of the named numbers is so; what is reckoned of them has the name that the table says -/
def rm_E (ext : Nat → Nat) (F : rm_F) : Prop := (∀ (op k : Nat) (y : Int32) (j : Nat), rm_sym op k y = some j → j < 100 ∧ rm_e ext j = rm_fop op (rm_e ext k) y) ∧ ∀ q ∈ F, (∀ cd : ClassFile.Cond, rm_cn cd = q.2.2.1 → rm_cnd cd (rm_e ext q.1) q.2.1 = q.2.2.2)
theorem rm_lf_ok {ext : Nat → Nat} {F : rm_F} (hE : rm_E ext F) {k : Nat} {y : Int32} {cd : ClassFile.Cond} {b : Bool} (h : rm_lf F k y (rm_cn cd) = some b) : rm_cnd cd (rm_e ext k) y = b := by
  have key : ∀ G : rm_F, (∀ q ∈ G, (∀ cd : ClassFile.Cond, rm_cn cd = q.2.2.1 → rm_cnd cd (rm_e ext q.1) q.2.1 = q.2.2.2)) → rm_lf G k y (rm_cn cd) = some b → rm_cnd cd (rm_e ext k) y = b := by
    intro G
    induction G with
    | nil => intro _ h; cases h
    | cons q r ih =>
      intro hG h
      unfold rm_lf at h
      split at h
      · rename_i hq
        obtain ⟨h1, h2, h3⟩ := hq
        have z := hG q List.mem_cons_self cd h3.symm
        rw [h1, h2] at z
        rw [z]
        exact Option.some.inj h
      · exact ih (fun x hx => hG x (List.mem_cons_of_mem _ hx)) h
  exact key F hE.2 h
theorem rm_lw_ok {ext : Nat → Nat} {F : rm_F} (hE : rm_E ext F) {k : Nat} {y : Int32} (h : rm_lw F k = some y) : rm_e ext k = y := by
  have key : ∀ G : rm_F, (∀ q ∈ G, (∀ cd : ClassFile.Cond, rm_cn cd = q.2.2.1 → rm_cnd cd (rm_e ext q.1) q.2.1 = q.2.2.2)) → rm_lw G k = some y → rm_e ext k = y := by
    intro G
    induction G with
    | nil => intro _ h; cases h
    | cons q r ih =>
      intro hG h
      unfold rm_lw at h
      split at h
      · rename_i hq
        obtain ⟨h1, h2, h3⟩ := hq
        have z := hG q List.mem_cons_self .eq (by rw [h2]; rfl)
        rw [h1, h3] at z
        have e := Option.some.inj h
        rw [e] at z
        simpa [rm_cnd] using z
      · exact ih (fun x hx => hG x (List.mem_cons_of_mem _ hx)) h
  exact key F hE.2 h
theorem rm_dec_ok {ext : Nat → Nat} {F : rm_F} (hE : rm_E ext F) {x : Value} {y : Int32} {cd : ClassFile.Cond} {b : Bool} (h : rm_dec F cd x y = some b) (sz : Nat) : ∃ z, rm_v sz ext x = .int z ∧ rm_cnd cd z y = b := by
  unfold rm_dec at h
  split at h
  · rename_i z; exact ⟨z, rfl, Option.some.inj h⟩
  · rename_i k; exact ⟨_, rfl, rm_lf_ok hE h⟩
  · cases h
theorem rm_num_ok {ext : Nat → Nat} {F : rm_F} (hE : rm_E ext F) {v : Value} {x : Int32} (h : rm_num F v = some x) (sz : Nat) : rm_v sz ext v = .int x := by
  unfold rm_num at h
  split at h
  · rename_i z; cases h; rfl
  · rename_i k; exact congrArg Value.int (rm_lw_ok hE h)
  · cases h
section RM
variable {p : Program} {l : Launch} {e : Env} {R : Room} {s : State} {m : MethodId} {args : Array Value} {below : List Frame} {meth : Method} {c : Code} {Q : State → Prop}
variable {cc : ByteArray} {nL sz : Nat} {ext : Nat → Nat} {cA : Nat → ClassId} {D : va_G}
/-- from this state of the machine on, the true machine comes to Q -/
def rm_K (p : Program) (l : Launch) (e : Env) (R : Room) (s : State) (m : MethodId) (args : Array Value) (below : List Frame) (meth : Method) (c : Code) (Q : State → Prop) (nL sz : Nat) (ext : Nat → Nat) (cA : Nat → ClassId) (D : va_G) (q : rm_N) : Prop :=
  ∀ (ls : Array Slot) (H : Heap) (locs : List Loc), lv_has ls nL (rm_l sz ext q.2.1) → rm_R D sz ext cA q.2.2.2.1 H → rm_S sz s.heap H locs → W p l e R s m args below meth c H locs q.2.2.2.2.1 q.2.2.2.2.2.1 Q (F0 m q.1 ls (q.2.2.1.map (rm_v sz ext)))
abbrev rm_KK (p : Program) (l : Launch) (e : Env) (R : Room) (s : State) (m : MethodId) (args : Array Value) (below : List Frame) (meth : Method) (c : Code) (Q : State → Prop) (nL sz : Nat) (ext : Nat → Nat) (cA : Nat → ClassId) (D : va_G) (i : Instr) (n : Nat) (f : rm_N → Option rm_N) : Prop :=
  ∀ (q r : rm_N), decode c.code q.1 = .ok (i, n) → f q = some r → r.2.2.2.2.2.2.2 = true → rm_K p l e R s m args below meth c Q nL sz ext cA D r → rm_K p l e R s m args below meth c Q nL sz ext cA D q
theorem rm_s_iconst (hx : p.tables.exec = Jvm.exec) {k : Int} : rm_KK p l e R s m args below meth c Q nL sz ext cA D (.iconst k) 1 (rm_push 1 (.int (Int32.ofInt k))) := by
  intro q r hd hf ho K ls H locs hl hR hS
  cases hf
  exact lv_iconst (v := Int32.ofInt k) hx rfl hd rfl (K ls H locs hl hR hS)
theorem rm_s_bipush (hx : p.tables.exec = Jvm.exec) {k : Int} : rm_KK p l e R s m args below meth c Q nL sz ext cA D (.bipush k) 2 (rm_push 2 (.int (Int8.ofInt k).toInt32)) := by
  intro q r hd hf ho K ls H locs hl hR hS
  cases hf
  exact lv_bipush (v := (Int8.ofInt k).toInt32) hx rfl hd rfl (K ls H locs hl hR hS)
theorem rm_s_sipush (hx : p.tables.exec = Jvm.exec) {k : Int} : rm_KK p l e R s m args below meth c Q nL sz ext cA D (.sipush k) 3 (rm_push 3 (.int (Int16.ofInt k).toInt32)) := by
  intro q r hd hf ho K ls H locs hl hR hS
  cases hf
  exact lv_sipush (v := (Int16.ofInt k).toInt32) hx rfl hd rfl (K ls H locs hl hR hS)
theorem rm_s_lconst (hx : p.tables.exec = Jvm.exec) {k : Fin 2} : rm_KK p l e R s m args below meth c Q nL sz ext cA D (.lconst k) 1 (rm_push 1 (.long (Int64.ofNat (k : Nat)))) := by
  intro q r hd hf ho K ls H locs hl hR hS
  cases hf
  exact lv_lconst (v := Int64.ofNat (k : Nat)) hx rfl hd rfl (K ls H locs hl hR hS)
theorem rm_loadT_ok {f : Value → Bool} {n i : Nat} {q r : rm_N} (h : rm_loadT f n i q = some r) : ∃ v, rm_get q.2.1 i = some v ∧ f v = true ∧ r = (q.1 + n, q.2.1, v :: q.2.2.1, q.2.2.2) := by
  unfold rm_loadT at h
  cases hg : rm_get q.2.1 i with
  | none => rw [hg] at h; cases h
  | some v =>
    rw [hg] at h
    by_cases hv : f v = true
    · simp only [hv, if_true] at h
      exact ⟨v, rfl, hv, (Option.some.inj h).symm⟩
    · simp only [hv] at h
      cases h
theorem rm_isI_ok {v : Value} (h : rm_isI v = true) (sz : Nat) (ext : Nat → Nat) : ∃ x, rm_v sz ext v = .int x := by cases v <;> first | exact ⟨_, rfl⟩ | cases h
theorem rm_isJ_ok {v : Value} (h : rm_isJ v = true) : ∃ x, v = .long x := by cases v <;> first | exact ⟨_, rfl⟩ | cases h
theorem rm_isA_ok {v : Value} (h : rm_isA v = true) (sz : Nat) (ext : Nat → Nat) : ∃ x, rm_v sz ext v = .ref x := by cases v <;> first | exact ⟨_, rfl⟩ | cases h
theorem rm_s_iload_n (hx : p.tables.exec = Jvm.exec) {k : Fin 4} : rm_KK p l e R s m args below meth c Q nL sz ext cA D (.iload_n k) 1 (rm_loadT rm_isI 1 (k : Nat)) := by
  intro q r hd hf ho K ls H locs hl hR hS
  obtain ⟨v, h1, h2, rfl⟩ := rm_loadT_ok hf
  obtain ⟨x, hv⟩ := rm_isI_ok h2 sz ext
  have hk := K ls H locs hl hR hS
  have ha := rm_at hl h1
  rw [hv] at ha
  simp only [List.map_cons, hv] at hk
  exact lv_iload_n hx rfl hd rfl ha hk
theorem rm_s_iload (hx : p.tables.exec = Jvm.exec) {k : Nat} : rm_KK p l e R s m args below meth c Q nL sz ext cA D (.iload k) 2 (rm_loadT rm_isI 2 k) := by
  intro q r hd hf ho K ls H locs hl hR hS
  obtain ⟨v, h1, h2, rfl⟩ := rm_loadT_ok hf
  obtain ⟨x, hv⟩ := rm_isI_ok h2 sz ext
  have hk := K ls H locs hl hR hS
  have ha := rm_at hl h1
  rw [hv] at ha
  simp only [List.map_cons, hv] at hk
  exact lv_iload hx rfl hd ha hk
theorem rm_s_lload_n (hx : p.tables.exec = Jvm.exec) {k : Fin 4} : rm_KK p l e R s m args below meth c Q nL sz ext cA D (.lload_n k) 1 (rm_loadT rm_isJ 1 (k : Nat)) := by
  intro q r hd hf ho K ls H locs hl hR hS
  obtain ⟨v, h1, h2, rfl⟩ := rm_loadT_ok hf
  obtain ⟨x, rfl⟩ := rm_isJ_ok h2
  exact lv_lload_n hx rfl hd rfl (rm_at hl h1) (K ls H locs hl hR hS)
theorem rm_s_lload (hx : p.tables.exec = Jvm.exec) {k : Nat} : rm_KK p l e R s m args below meth c Q nL sz ext cA D (.lload k) 2 (rm_loadT rm_isJ 2 k) := by
  intro q r hd hf ho K ls H locs hl hR hS
  obtain ⟨v, h1, h2, rfl⟩ := rm_loadT_ok hf
  obtain ⟨x, rfl⟩ := rm_isJ_ok h2
  exact lv_lload hx rfl hd (rm_at hl h1) (K ls H locs hl hR hS)
theorem rm_s_aload_n (hx : p.tables.exec = Jvm.exec) {k : Fin 4} : rm_KK p l e R s m args below meth c Q nL sz ext cA D (.aload_n k) 1 (rm_loadT rm_isA 1 (k : Nat)) := by
  intro q r hd hf ho K ls H locs hl hR hS
  obtain ⟨v, h1, h2, rfl⟩ := rm_loadT_ok hf
  obtain ⟨x, hv⟩ := rm_isA_ok h2 sz ext
  have hk := K ls H locs hl hR hS
  have ha := rm_at hl h1
  rw [hv] at ha
  simp only [List.map_cons, hv] at hk
  exact lv_aload_n hx rfl hd rfl ha hk
theorem rm_s_aload (hx : p.tables.exec = Jvm.exec) {k : Nat} : rm_KK p l e R s m args below meth c Q nL sz ext cA D (.aload k) 2 (rm_loadT rm_isA 2 k) := by
  intro q r hd hf ho K ls H locs hl hR hS
  obtain ⟨v, h1, h2, rfl⟩ := rm_loadT_ok hf
  obtain ⟨x, hv⟩ := rm_isA_ok h2 sz ext
  have hk := K ls H locs hl hR hS
  have ha := rm_at hl h1
  rw [hv] at ha
  simp only [List.map_cons, hv] at hk
  exact lv_aload hx rfl hd ha hk
theorem rm_store1_ok {f : Value → Bool} {nL n i : Nat} {q r : rm_N} (h : rm_store1 f nL n i q = some r) : ∃ v st, q.2.2.1 = v :: st ∧ f v = true ∧ i < nL ∧ r = (q.1 + n, rm_put1 q.2.1 i v, st, q.2.2.2) := by
  unfold rm_store1 at h
  cases hg : q.2.2.1 with
  | nil => rw [hg] at h; cases h
  | cons v st =>
    simp only [hg] at h
    split at h
    · rename_i hv
      simp only [Bool.and_eq_true, decide_eq_true_eq] at hv
      exact ⟨v, st, rfl, hv.1, hv.2, (Option.some.inj h).symm⟩
    · cases h
theorem rm_store2_ok {nL n i : Nat} {q r : rm_N} (h : rm_store2 nL n i q = some r) : ∃ v st, q.2.2.1 = .long v :: st ∧ i + 1 < nL ∧ r = (q.1 + n, rm_put2 q.2.1 i (.long v), st, q.2.2.2) := by
  unfold rm_store2 at h
  split at h
  · rename_i v st hg
    split at h
    · rename_i hv
      exact ⟨v, st, hg, hv, (Option.some.inj h).symm⟩
    · cases h
  · cases h
theorem rm_s_istore_n (hx : p.tables.exec = Jvm.exec) {k : Fin 4} : rm_KK p l e R s m args below meth c Q nL sz ext cA D (.istore_n k) 1 (rm_store1 rm_isI nL 1 (k : Nat)) := by
  intro q r hd hf ho K ls H locs hl hR hS
  obtain ⟨v, st, h1, h2, h3, rfl⟩ := rm_store1_ok hf
  obtain ⟨x, hv⟩ := rm_isI_ok h2 sz ext
  rw [h1]
  have e := rm_l_put1 (sz := sz) (ext := ext) (lv := q.2.1) (i := (k : Nat)) (v := v)
  rw [hv] at e
  simp only [List.map_cons, hv]
  exact lv_istore_n hx rfl hd rfl hl h3 e (fun ls hl => K ls H locs hl hR hS)
theorem rm_s_istore (hx : p.tables.exec = Jvm.exec) {k : Nat} : rm_KK p l e R s m args below meth c Q nL sz ext cA D (.istore k) 2 (rm_store1 rm_isI nL 2 k) := by
  intro q r hd hf ho K ls H locs hl hR hS
  obtain ⟨v, st, h1, h2, h3, rfl⟩ := rm_store1_ok hf
  obtain ⟨x, hv⟩ := rm_isI_ok h2 sz ext
  rw [h1]
  have e := rm_l_put1 (sz := sz) (ext := ext) (lv := q.2.1) (i := k) (v := v)
  rw [hv] at e
  simp only [List.map_cons, hv]
  exact lv_istore hx rfl hd hl h3 e (fun ls hl => K ls H locs hl hR hS)
theorem rm_s_astore_n (hx : p.tables.exec = Jvm.exec) {k : Fin 4} : rm_KK p l e R s m args below meth c Q nL sz ext cA D (.astore_n k) 1 (rm_store1 rm_isA nL 1 (k : Nat)) := by
  intro q r hd hf ho K ls H locs hl hR hS
  obtain ⟨v, st, h1, h2, h3, rfl⟩ := rm_store1_ok hf
  obtain ⟨x, hv⟩ := rm_isA_ok h2 sz ext
  rw [h1]
  have e := rm_l_put1 (sz := sz) (ext := ext) (lv := q.2.1) (i := (k : Nat)) (v := v)
  rw [hv] at e
  simp only [List.map_cons, hv]
  exact lv_astore_n hx rfl hd rfl hl h3 e (fun ls hl => K ls H locs hl hR hS)
theorem rm_s_astore (hx : p.tables.exec = Jvm.exec) {k : Nat} : rm_KK p l e R s m args below meth c Q nL sz ext cA D (.astore k) 2 (rm_store1 rm_isA nL 2 k) := by
  intro q r hd hf ho K ls H locs hl hR hS
  obtain ⟨v, st, h1, h2, h3, rfl⟩ := rm_store1_ok hf
  obtain ⟨x, hv⟩ := rm_isA_ok h2 sz ext
  rw [h1]
  have e := rm_l_put1 (sz := sz) (ext := ext) (lv := q.2.1) (i := k) (v := v)
  rw [hv] at e
  simp only [List.map_cons, hv]
  exact lv_astore hx rfl hd hl h3 e (fun ls hl => K ls H locs hl hR hS)
theorem rm_s_lstore_n (hx : p.tables.exec = Jvm.exec) {k : Fin 4} : rm_KK p l e R s m args below meth c Q nL sz ext cA D (.lstore_n k) 1 (rm_store2 nL 1 (k : Nat)) := by
  intro q r hd hf ho K ls H locs hl hR hS
  obtain ⟨x, st, h1, h3, rfl⟩ := rm_store2_ok hf
  rw [h1]
  exact lv_lstore_n hx rfl hd rfl hl h3 (rm_l_put2 (v := .long x)) (fun ls hl => K ls H locs hl hR hS)
theorem rm_s_lstore (hx : p.tables.exec = Jvm.exec) {k : Nat} : rm_KK p l e R s m args below meth c Q nL sz ext cA D (.lstore k) 2 (rm_store2 nL 2 k) := by
  intro q r hd hf ho K ls H locs hl hR hS
  obtain ⟨x, st, h1, h3, rfl⟩ := rm_store2_ok hf
  rw [h1]
  exact lv_lstore hx rfl hd hl h3 (rm_l_put2 (v := .long x)) (fun ls hl => K ls H locs hl hR hS)
theorem rm_l_at {sz : Nat} {ext : Nat → Nat} {lv : rm_L} {i : Nat} {v : Value} (h : rm_get lv i = some v) : ∃ k : Nat, (rm_l sz ext lv)[k]? = some (i, rm_v sz ext v) :=
  List.getElem?_of_mem (List.mem_map.mpr ⟨(i, v), rm_get_mem h, rfl⟩)
theorem rm_s_iinc (hx : p.tables.exec = Jvm.exec) {i : Nat} {k : Int} : rm_KK p l e R s m args below meth c Q nL sz ext cA D (.iinc i k) 3 (rm_iinc nL i k) := by
  intro q r hd hf ho K ls H locs hl hR hS
  unfold rm_iinc at hf
  split at hf
  · rename_i x hg
    split at hf
    · rename_i hn
      cases hf
      obtain ⟨j, hj⟩ := rm_l_at (sz := sz) (ext := ext) hg
      exact lv_iinc hx rfl hd hl hj rfl hn (rm_l_put1 (v := .int (x + Int32.ofInt k))) (fun ls hl => K ls H locs hl hR hS)
    · cases hf
  · cases hf
theorem rm_ii_ok {f : Int32 → Int32 → Int32} {q r : rm_N} (h : rm_ii f q = some r) : ∃ x y st, q.2.2.1 = .int y :: .int x :: st ∧ r = (q.1 + 1, q.2.1, .int (f x y) :: st, q.2.2.2) := by
  unfold rm_ii at h
  split at h
  · rename_i y x st hg
    exact ⟨x, y, st, hg, (Option.some.inj h).symm⟩
  · cases h
theorem rm_s_iadd (hx : p.tables.exec = Jvm.exec) : rm_KK p l e R s m args below meth c Q nL sz ext cA D .iadd 1 (rm_ii (fun x y => x + y)) := by
  intro q r hd hf ho K ls H locs hl hR hS
  obtain ⟨x, y, st, h1, rfl⟩ := rm_ii_ok hf
  rw [h1]
  exact lv_iadd hx rfl hd (K ls H locs hl hR hS)
theorem rm_s_isub (hx : p.tables.exec = Jvm.exec) : rm_KK p l e R s m args below meth c Q nL sz ext cA D .isub 1 (rm_ii (fun x y => x - y)) := by
  intro q r hd hf ho K ls H locs hl hR hS
  obtain ⟨x, y, st, h1, rfl⟩ := rm_ii_ok hf
  rw [h1]
  exact lv_isub hx rfl hd (K ls H locs hl hR hS)
theorem rm_s_imul (hx : p.tables.exec = Jvm.exec) : rm_KK p l e R s m args below meth c Q nL sz ext cA D .imul 1 (rm_ii (fun x y => x * y)) := by
  intro q r hd hf ho K ls H locs hl hR hS
  obtain ⟨x, y, st, h1, rfl⟩ := rm_ii_ok hf
  rw [h1]
  exact lv_imul hx rfl hd (K ls H locs hl hR hS)
theorem rm_iis_ok {F : rm_F} (hE : rm_E ext F) {op : Nat} {q r : rm_N} (h : rm_iis op q = some r) : ∃ x y st, q.2.2.1.map (rm_v sz ext) = .int y :: .int x :: st.map (rm_v sz ext) ∧ ∃ v, rm_v sz ext v = .int (rm_fop op x y) ∧ r = (q.1 + 1, q.2.1, v :: st, q.2.2.2) := by
  unfold rm_iis at h
  split at h
  · rename_i y x st hg
    rw [hg]
    exact ⟨x, y, st, rfl, .int (rm_fop op x y), rfl, (Option.some.inj h).symm⟩
  · rename_i y k st hg
    split at h
    · rename_i j hj
      rw [hg]
      obtain ⟨z1, z2⟩ := hE.1 _ _ _ _ hj
      refine ⟨_, y, st, rfl, .float (UInt32.ofNat j), ?_, (Option.some.inj h).symm⟩
      show Value.int (rm_e ext (UInt32.ofNat j).toNat) = _
      rw [← z2]
      congr 2
      exact rm_u32 z1
    · cases h
  · cases h
theorem rm_s_iand (hx : p.tables.exec = Jvm.exec) {F : rm_F} (hE : rm_E ext F) : rm_KK p l e R s m args below meth c Q nL sz ext cA D .iand 1 (rm_iis 0) := by
  intro q r hd hf ho K ls H locs hl hR hS
  obtain ⟨x, y, st, h1, v, hv, rfl⟩ := rm_iis_ok (sz := sz) hE hf
  have hk := K ls H locs hl hR hS
  simp only [List.map_cons, hv] at hk
  rw [h1]
  exact lv_iand hx rfl hd hk
theorem rm_s_ishr (hx : p.tables.exec = Jvm.exec) {F : rm_F} (hE : rm_E ext F) : rm_KK p l e R s m args below meth c Q nL sz ext cA D .ishr 1 (rm_iis 1) := by
  intro q r hd hf ho K ls H locs hl hR hS
  obtain ⟨x, y, st, h1, v, hv, rfl⟩ := rm_iis_ok (sz := sz) hE hf
  have hk := K ls H locs hl hR hS
  simp only [List.map_cons, hv] at hk
  rw [h1]
  exact lv_ishr hx rfl hd hk
theorem rm_s_iushr (hx : p.tables.exec = Jvm.exec) {F : rm_F} (hE : rm_E ext F) : rm_KK p l e R s m args below meth c Q nL sz ext cA D .iushr 1 (rm_iis 2) := by
  intro q r hd hf ho K ls H locs hl hR hS
  obtain ⟨x, y, st, h1, v, hv, rfl⟩ := rm_iis_ok (sz := sz) hE hf
  have hk := K ls H locs hl hR hS
  simp only [List.map_cons, hv] at hk
  rw [h1]
  exact lv_iushr hx rfl hd rfl hk
theorem rm_s_i2c (hx : p.tables.exec = Jvm.exec) {F : rm_F} (hE : rm_E ext F) : rm_KK p l e R s m args below meth c Q nL sz ext cA D .i2c 1 rm_i1s := by
  intro q r hd hf ho K ls H locs hl hR hS
  unfold rm_i1s at hf
  split at hf
  · rename_i x st hg
    cases hf
    rw [hg]
    exact lv_i2c hx rfl hd rfl (K ls H locs hl hR hS)
  · rename_i k st hg
    split at hf
    · rename_i j hj
      cases hf
      obtain ⟨z1, z2⟩ := hE.1 _ _ _ _ hj
      have hk := K ls H locs hl hR hS
      have ev : rm_v sz ext (.float (UInt32.ofNat j)) = .int (rm_fop 3 (rm_e ext k.toNat) 0) := by
        show Value.int (rm_e ext (UInt32.ofNat j).toNat) = _
        rw [← z2]
        congr 2
        exact rm_u32 z1
      simp only [List.map_cons, ev] at hk
      rw [hg]
      exact lv_i2c hx rfl hd rfl hk
    · cases hf
  · cases hf
theorem rm_s_irem (hx : p.tables.exec = Jvm.exec) : rm_KK p l e R s m args below meth c Q nL sz ext cA D .irem 1 (rm_iiz (fun x y => x - x / y * y)) := by
  intro q r hd hf ho K ls H locs hl hR hS
  unfold rm_iiz at hf
  split at hf
  · rename_i y x st h1
    split at hf
    · cases hf
    · rename_i hy
      cases hf
      rw [h1]
      exact lv_irem hx rfl hd hy (K ls H locs hl hR hS)
  · cases hf
theorem rm_s_lcmp (hx : p.tables.exec = Jvm.exec) : rm_KK p l e R s m args below meth c Q nL sz ext cA D .lcmp 1 (rm_jji lg_cmp) := by
  intro q r hd hf ho K ls H locs hl hR hS
  unfold rm_jji at hf
  split at hf
  · rename_i y x st h1
    cases hf
    rw [h1]
    exact W.lcmp hx rfl hd (K ls H locs hl hR hS)
  · cases hf
theorem rm_s_lushr (hx : p.tables.exec = Jvm.exec) : rm_KK p l e R s m args below meth c Q nL sz ext cA D .lushr 1 (rm_jij (fun x y => (x.toUInt64 >>> (y.toInt64.toUInt64 &&& Int64.toUInt64 63)).toInt64)) := by
  intro q r hd hf ho K ls H locs hl hR hS
  unfold rm_jij at hf
  split at hf
  · rename_i y x st h1
    cases hf
    rw [h1]
    exact lv_lushr hx rfl hd rfl (K ls H locs hl hR hS)
  · cases hf
theorem rm_i1_ok {f : Int32 → Value} {q r : rm_N} (h : rm_i1 f q = some r) : ∃ x st, q.2.2.1 = .int x :: st ∧ r = (q.1 + 1, q.2.1, f x :: st, q.2.2.2) := by
  unfold rm_i1 at h
  split at h
  · rename_i x st hg
    exact ⟨x, st, hg, (Option.some.inj h).symm⟩
  · cases h
theorem rm_s_i2l (hx : p.tables.exec = Jvm.exec) : rm_KK p l e R s m args below meth c Q nL sz ext cA D .i2l 1 (rm_i1 (fun x => .long x.toInt64)) := by
  intro q r hd hf ho K ls H locs hl hR hS
  obtain ⟨x, st, h1, rfl⟩ := rm_i1_ok hf
  rw [h1]
  exact lv_i2l hx rfl hd rfl (K ls H locs hl hR hS)
theorem rm_s_i2b (hx : p.tables.exec = Jvm.exec) : rm_KK p l e R s m args below meth c Q nL sz ext cA D .i2b 1 (rm_i1 (fun x => .int x.toInt8.toInt32)) := by
  intro q r hd hf ho K ls H locs hl hR hS
  obtain ⟨x, st, h1, rfl⟩ := rm_i1_ok hf
  rw [h1]
  exact lv_i2b hx rfl hd rfl (K ls H locs hl hR hS)
theorem rm_s_l2i (hx : p.tables.exec = Jvm.exec) : rm_KK p l e R s m args below meth c Q nL sz ext cA D .l2i 1 (rm_j1 (fun x => .int x.toInt32)) := by
  intro q r hd hf ho K ls H locs hl hR hS
  unfold rm_j1 at hf
  split at hf
  · rename_i x st h1
    cases hf
    rw [h1]
    exact lv_l2i hx rfl hd rfl (K ls H locs hl hR hS)
  · cases hf
theorem rm_s_dup (hx : p.tables.exec = Jvm.exec) : rm_KK p l e R s m args below meth c Q nL sz ext cA D .dup 1 rm_dup := by
  intro q r hd hf ho K ls H locs hl hR hS
  unfold rm_dup at hf
  split at hf
  · rename_i v st h1
    split at hf
    · rename_i hv
      cases hf
      rw [h1]
      exact lv_dup hx rfl hd (by rw [rm_v_cat]; exact hv) (K ls H locs hl hR hS)
    · cases hf
  · cases hf
theorem rm_s_pop (hx : p.tables.exec = Jvm.exec) : rm_KK p l e R s m args below meth c Q nL sz ext cA D .pop 1 rm_pop := by
  intro q r hd hf ho K ls H locs hl hR hS
  unfold rm_pop at hf
  split at hf
  · rename_i v st h1
    split at hf
    · rename_i hv
      cases hf
      rw [h1]
      exact lv_pop hx rfl hd (by rw [rm_v_cat]; exact hv) (K ls H locs hl hR hS)
    · cases hf
  · cases hf
theorem rm_tgt_ok {pc g : Nat} {off : Int} (h : rm_tgt pc off = some g) : (pc : Int) + off = (g : Int) := by
  unfold rm_tgt at h
  split at h
  · rename_i h0
    have := Option.some.inj h
    omega
  · cases h
theorem rm_s_goto (hx : p.tables.exec = Jvm.exec) {off : Int} : rm_KK p l e R s m args below meth c Q nL sz ext cA D (.goto off) 3 (rm_goto off) := by
  intro q r hd hf ho K ls H locs hl hR hS
  unfold rm_goto at hf
  split at hf
  · rename_i g hg
    cases hf
    exact lv_goto hx rfl hd (rm_tgt_ok hg) (K ls H locs hl hR hS)
  · cases hf
theorem rm_s_if1 (hx : p.tables.exec = Jvm.exec) {F : rm_F} (hE : rm_E ext F) {cd : ClassFile.Cond} {off : Int} : rm_KK p l e R s m args below meth c Q nL sz ext cA D (.ifCond cd off) 3 (rm_if1 F cd off) := by
  intro q r hd hf ho K ls H locs hl hR hS
  unfold rm_if1 at hf
  split at hf
  · rename_i v st g h1 hg
    split at hf
    · rename_i b hb
      cases hf
      obtain ⟨x, hv, rfl⟩ := rm_dec_ok hE hb sz
      have hk := K ls H locs hl hR hS
      dsimp only at hk
      rw [h1]
      simp only [List.map_cons, hv]
      have ht := rm_tgt_ok hg
      cases cd
      · refine lv_if_eq hx rfl hd ht (fun z => ?_) (fun z => ?_)
        · simp only [rm_cnd, z, decide_true, if_true] at hk; exact hk
        · simp only [rm_cnd, z, decide_false] at hk; exact hk
      · refine lv_if_ne hx rfl hd ht (fun z => ?_) (fun z => ?_)
        · simp only [rm_cnd, z, not_false_eq_true, decide_true, if_true] at hk; exact hk
        · simp only [rm_cnd, z, decide_false] at hk; exact hk
      · refine lv_if_lt hx rfl hd ht (fun z => ?_) (fun z => ?_)
        · simp only [rm_cnd, z, decide_true, if_true] at hk; exact hk
        · simp only [rm_cnd, z, decide_false] at hk; exact hk
      · refine lv_if_ge hx rfl hd ht (fun z => ?_) (fun z => ?_)
        · simp only [rm_cnd, z, decide_true, if_true] at hk; exact hk
        · simp only [rm_cnd, z, decide_false] at hk; exact hk
      · refine lv_if_gt hx rfl hd ht (fun z => ?_) (fun z => ?_)
        · simp only [rm_cnd, z, decide_true, if_true] at hk; exact hk
        · simp only [rm_cnd, z, decide_false] at hk; exact hk
      · refine lv_if_le hx rfl hd ht (fun z => ?_) (fun z => ?_)
        · simp only [rm_cnd, z, decide_true, if_true] at hk; exact hk
        · simp only [rm_cnd, z, decide_false] at hk; exact hk
    · cases hf
  · cases hf
theorem rm_s_if2 (hx : p.tables.exec = Jvm.exec) {F : rm_F} (hE : rm_E ext F) {cd : ClassFile.Cond} {off : Int} : rm_KK p l e R s m args below meth c Q nL sz ext cA D (.if_icmp cd off) 3 (rm_if2 F cd off) := by
  intro q r hd hf ho K ls H locs hl hR hS
  unfold rm_if2 at hf
  split at hf
  · rename_i y v st g h1 hg
    split at hf
    · rename_i b hb
      cases hf
      obtain ⟨x, hv, rfl⟩ := rm_dec_ok hE hb sz
      have hk := K ls H locs hl hR hS
      dsimp only at hk
      rw [h1]
      simp only [List.map_cons, hv]
      have ht := rm_tgt_ok hg
      cases cd
      · refine lv_icmp_eq hx rfl hd ht (fun z => ?_) (fun z => ?_)
        · simp only [rm_cnd, z, decide_true, if_true] at hk; exact hk
        · simp only [rm_cnd, z, decide_false] at hk; exact hk
      · refine lv_icmp_ne hx rfl hd ht (fun z => ?_) (fun z => ?_)
        · simp only [rm_cnd, z, not_false_eq_true, decide_true, if_true] at hk; exact hk
        · simp only [rm_cnd, z, decide_false] at hk; exact hk
      · refine lv_icmp_lt hx rfl hd ht (fun z => ?_) (fun z => ?_)
        · simp only [rm_cnd, z, decide_true, if_true] at hk; exact hk
        · simp only [rm_cnd, z, decide_false] at hk; exact hk
      · refine lv_icmp_ge hx rfl hd ht (fun z => ?_) (fun z => ?_)
        · simp only [rm_cnd, z, decide_true, if_true] at hk; exact hk
        · simp only [rm_cnd, z, decide_false] at hk; exact hk
      · refine lv_icmp_gt hx rfl hd ht (fun z => ?_) (fun z => ?_)
        · simp only [rm_cnd, z, decide_true, if_true] at hk; exact hk
        · simp only [rm_cnd, z, decide_false] at hk; exact hk
      · refine lv_icmp_le hx rfl hd ht (fun z => ?_) (fun z => ?_)
        · simp only [rm_cnd, z, decide_true, if_true] at hk; exact hk
        · simp only [rm_cnd, z, decide_false] at hk; exact hk
    · cases hf
  · cases hf
end RM
end
section
/-! THE WORDS AND THE CLASSES: what the machine's instructions need of the tables -/
def rm_tb : List Cond := lw_tbl.filter goodWord
theorem rm_tb_of {w : Cond} (i : Nat) (h : lw_tbl[i]? = some w) (g : goodWord w = true) : w ∈ rm_tb := List.mem_filter.mpr ⟨List.mem_of_getElem? h, g⟩
theorem rm_tb_good : ∀ w ∈ rm_tb, goodWord w = true := fun _ h => (List.mem_filter.mp h).2
theorem rm_tb_in : ∀ w ∈ rm_tb, w ∈ lw_tbl := fun _ h => (List.mem_filter.mp h).1
def rm_isNest : Cond → Bool
  | .fieldLinkNest .. => true
  | _ => false
def rm_nest : List Cond := lw_tbl.filter rm_isNest
theorem rm_nest_of {w : Cond} (i : Nat) (h : lw_tbl[i]? = some w) (g : rm_isNest w = true) : w ∈ rm_nest := List.mem_filter.mpr ⟨List.mem_of_getElem? h, g⟩
theorem rm_nest_warm {w : Cond} (hw : w ∈ rm_nest) {s U : State} (hW : s.WarmedH U.vm) (h : va_Nw w s) : va_Nw w U := by
  have g := (List.mem_filter.mp hw).2
  cases w <;> first | exact va_Nw.warmF hW h | cases g
theorem rm_nest_same {w : Cond} (hw : w ∈ rm_nest) {u U : State} (e : u.vm = U.vm) (h : va_Nw w u) : va_Nw w U := by
  have g := (List.mem_filter.mp hw).2
  cases w <;> first | exact va_Nw.same rfl e h | cases g
def rm_ft (ci : Nat) : Nat → FieldType := match ci with
  | 0 => tyX0
  | 1 => tyX1
  | 2 => tyX2
  | 3 => tyX3
  | 4 => tyX4
  | 5 => tyX5
  | 6 => tyX6
  | 7 => tyX7
  | 8 => tyX8
  | 9 => tyX9
  | _ => tyX10
/-- a class of the list: its words are there, its fields' types are these, their names differ, they are its own, it can be made -/
def rm_okC (ci : Nat) (q : vw_C) : Prop := (∀ w ∈ u_ws q.1 q.2.1 q.2.2, w ∈ rm_tb) ∧ (∀ k, k < q.2.2 → parseFieldDescriptor (q.2.1 k).2.2.1 = some (rm_ft ci k)) ∧ (∀ a, a < q.2.2 → ∀ b, b < q.2.2 → a ≠ b → (q.2.1 a).2.1 ≠ (q.2.1 b).2.1) ∧ (∀ k, k < q.2.2 → (q.2.1 k).1 = q.1) ∧ Cond.instantiable q.1 q.2.2 ∈ rm_tb ∧ Cond.initialized q.1 ∈ rm_tb
set_option maxRecDepth 100000 in
theorem rm_okC_0 : rm_okC 0 (RX0, TX0, 8) := ⟨by decide +kernel, tyX0_ok, nmX0, by decide +kernel, by decide +kernel, by decide +kernel⟩
set_option maxRecDepth 100000 in
theorem rm_okC_1 : rm_okC 1 (RX1, TX1, 3) := ⟨by decide +kernel, tyX1_ok, nmX1, by decide +kernel, by decide +kernel, by decide +kernel⟩
set_option maxRecDepth 100000 in
theorem rm_okC_2 : rm_okC 2 (RX2, TX2, 8) := ⟨by decide +kernel, tyX2_ok, nmX2, by decide +kernel, by decide +kernel, by decide +kernel⟩
set_option maxRecDepth 100000 in
theorem rm_okC_3 : rm_okC 3 (RX3, TX3, 17) := ⟨by decide +kernel, tyX3_ok, nmX3, by decide +kernel, by decide +kernel, by decide +kernel⟩
set_option maxRecDepth 100000 in
theorem rm_okC_4 : rm_okC 4 (RX4, TX4, 13) := ⟨by decide +kernel, tyX4_ok, nmX4, by decide +kernel, by decide +kernel, by decide +kernel⟩
set_option maxRecDepth 100000 in
theorem rm_okC_5 : rm_okC 5 (RX5, TX5, 6) := ⟨by decide +kernel, tyX5_ok, nmX5, by decide +kernel, by decide +kernel, by decide +kernel⟩
set_option maxRecDepth 100000 in
theorem rm_okC_6 : rm_okC 6 (RX6, TX6, 2) := ⟨by decide +kernel, tyX6_ok, nmX6, by decide +kernel, by decide +kernel, by decide +kernel⟩
set_option maxRecDepth 100000 in
theorem rm_okC_7 : rm_okC 7 (RX7, TX7, 14) := ⟨by decide +kernel, tyX7_ok, nmX7, by decide +kernel, by decide +kernel, by decide +kernel⟩
set_option maxRecDepth 100000 in
theorem rm_okC_8 : rm_okC 8 (RX8, TX8, 10) := ⟨by decide +kernel, tyX8_ok, nmX8, by decide +kernel, by decide +kernel, by decide +kernel⟩
set_option maxRecDepth 100000 in
theorem rm_okC_9 : rm_okC 9 (RX9, TX9, 8) := ⟨by decide +kernel, tyX9_ok, nmX9, by decide +kernel, by decide +kernel, by decide +kernel⟩
set_option maxRecDepth 100000 in
theorem rm_okC_10 : rm_okC 10 (RX10, TX10, 55) := ⟨by decide +kernel, tyX10_ok, nmX10, by decide +kernel, by decide +kernel, by decide +kernel⟩
theorem rm_okC_all : ∀ (ci : Nat) (q : vw_C), vwCl[ci]? = some q → rm_okC ci q := by
  intro ci q h
  match ci, h with
  | 0, h => cases h; exact rm_okC_0
  | 1, h => cases h; exact rm_okC_1
  | 2, h => cases h; exact rm_okC_2
  | 3, h => cases h; exact rm_okC_3
  | 4, h => cases h; exact rm_okC_4
  | 5, h => cases h; exact rm_okC_5
  | 6, h => cases h; exact rm_okC_6
  | 7, h => cases h; exact rm_okC_7
  | 8, h => cases h; exact rm_okC_8
  | 9, h => cases h; exact rm_okC_9
  | 10, h => cases h; exact rm_okC_10
  | n + 11, h => simp [vwCl] at h
/-- the types of arrays, by their tags; for references the class that they are of -/
abbrev rm_ts : List FieldType := [.int, .long, .char, .byte, .boolean, .object "RootJudge$Poly", .object "RootJudge$Big", .object "RootJudge$Root"]
abbrev rm_tys (cA : Nat → ClassId) : List (ClassId × FieldType) := [(cA 0, .int), (cA 1, .long), (cA 2, .char), (cA 3, .byte), (cA 4, .boolean), (cA 5, .object "RootJudge$Poly"), (cA 6, .object "RootJudge$Big"), (cA 7, .object "RootJudge$Root")]
def rm_tc (t : Nat) : Option Nat := match t with
  | 5 => some 6
  | 6 => some 1
  | 7 => some 8
  | _ => none
/-- the one text whose characters a first call looks for: whose constant, its place, its characters -/
def rm_sO : String := "RootJudge$Reader"
def rm_sI : Nat := 112
def rm_sT : String := "=<>"
def rm_sB : List Int32 := [61, 60, 62]
end
section
/-! INSTRUCTIONS THAT READ, WRITE AND MAKE CELLS -/
/-- what a method's start has beside its words: the tables' classes, the array types, nest mates' links, the script -/
def rm_G (sz : Nat) (ext : Nat → Nat) (U : State) (H : Heap) : Prop := vk_R rm_sO rm_sI rm_sT (ext 2) U ∧ vk_S 1 [rm_sB.length] [rm_sB] (fun _ => ext 2) (fun _ => ext 3) (fun q => sz ≤ q) U H ∧ va_Z "java/lang/String" "COMPACT_STRINGS" "Z" (.int 1) (fun q => sz ≤ q) U H
def rm_X (D : va_G) (cA : Nat → ClassId) (sz : Nat) (ext : Nat → Nat) (L : Nat) (xs : rm_F) (U : State) : Prop :=
  va_K D vwCl (rm_tys cA) U ∧ (∀ (t : Nat) (C : String), rm_ts[t]? = some (FieldType.object C) → va_AO C U) ∧ (∀ w ∈ rm_nest, va_Nw w U) ∧ (L ≠ 1000000 → ∃ ys : Nat → Int32, va_X (ext 0) L ys U U.heap ∧ ∀ j, j < 4 → ys j = rm_e ext j) ∧ (ext 0 < sz ∧ rm_G sz ext U U.heap) ∧ rm_E ext xs
/-- a link means what the tables say -/
def rm_okK (own : String) (k : rm_K5) : Prop := match k with
  | (i, 0, ci, f, 0) => ∃ (C : String) (T : u_T) (N : Nat), vwCl[ci]? = some (C, T, N) ∧ f < N ∧ Cond.fieldLink own i C (T f).2.1 (T f).2.2.1 ∈ rm_tb
  | (i, 0, ci, f, _) => ∃ (C : String) (T : u_T) (N : Nat), vwCl[ci]? = some (C, T, N) ∧ f < N ∧ Cond.fieldLinkNest own i C (T f).2.1 (T f).2.2.1 "RootJudge" ∈ rm_nest
  | (i, 1, ci, N, t) => ∃ (C : String) (T : u_T), vwCl[ci]? = some (C, T, N) ∧ Cond.classLink own i C ∈ rm_tb ∧ (5 ≤ t → rm_ts[t]? = some (FieldType.object C))
  | (i, 4, a, _, _) => Cond.constant own i (Int32.ofNat a) ∈ rm_tb
  | (i, 5, a, _, _) => Cond.constantLong own i (Int64.ofNat a) ∈ rm_tb
  | (i, 6, _, _, _) => own = rm_sO ∧ i = rm_sI
  | (i, 7, 0, _, _) => Cond.fieldLink own i "java/lang/String" "value" "[B" ∈ rm_tb
  | (i, 7, _, _, _) => Cond.fieldLink own i "java/lang/String" "coder" "B" ∈ rm_tb
  | (i, 8, _, _, _) => Cond.fieldLink own i "java/lang/String" "COMPACT_STRINGS" "Z" ∈ rm_tb
  | _ => True
theorem rm_lk_mem {ks : List rm_K5} {i : Nat} {k : Nat × Nat × Nat × Nat} (h : rm_lk ks i = some k) : (i, k) ∈ ks := by
  induction ks with
  | nil => cases h
  | cons q r ih =>
    unfold rm_lk at h
    by_cases hq : q.1 == i
    · rw [if_pos hq] at h
      have e : q.1 = i := by simpa using hq
      cases h
      cases q
      cases e
      exact List.mem_cons_self
    · rw [if_neg hq] at h
      exact List.mem_cons_of_mem _ (ih h)
def rm_in (i : Int32) (n : Nat) : Bool := !(decide (i < 0)) && decide (i.toNatClampNeg < n)
theorem rm_in_ok {i : Int32} {n : Nat} (h : rm_in i n = true) : vp_in i n := by
  unfold rm_in at h
  simp only [Bool.and_eq_true, Bool.not_eq_true', decide_eq_false_iff_not, decide_eq_true_eq] at h
  intro z
  rcases z with z | z
  · exact h.1 z
  · omega
def rm_up (t : rm_T) (a b : Nat) : rm_T := (t.1 + a, t.2.1 + b, t.2.2)
def rm_nf0 : Value → Bool
  | .float _ => false
  | _ => true
def rm_new (k : Option (Nat × Nat × Nat × Nat)) (q : rm_N) : Option rm_N := match k with
  | some (1, ci, N, _) => if ((List.range N).map (fun j => defaultValue (rm_ft ci j))).all rm_nf0 = false then none else some (q.1 + 3, q.2.1, .ref q.2.2.2.1.length :: q.2.2.1, q.2.2.2.1 ++ [.inr (ci, (List.range N).map (fun j => defaultValue (rm_ft ci j)))], rm_up q.2.2.2.2 1 N)
  | _ => none

def rm_newq (k : Option (Nat × Nat × Nat × Nat)) (q : rm_N) : Option rm_N := match k, q.2.2.1 with
  | some (1, _, _, t), .int n :: r => if decide (n < 0) || decide (1000000 < n.toNatClampNeg) || decide (t < 5) then none else some (q.1 + 3, q.2.1, .ref q.2.2.2.1.length :: r, q.2.2.2.1 ++ [.inl (t, n.toNatClampNeg, .inr (.inr (.inr (.inr (fun _ => none)))))], rm_up q.2.2.2.2 1 n.toNatClampNeg)
  | _, _ => none
def rm_z : Nat → UInt32 := fun _ => 0
def rm_newa (t : Nat) (q : rm_N) : Option rm_N := match q.2.2.1 with
  | .int n :: r => if decide (n < 0) || decide (1000000 < n.toNatClampNeg) then none else some (q.1 + 2, q.2.1, .ref q.2.2.2.1.length :: r, q.2.2.2.1 ++ [.inl (t, n.toNatClampNeg, .inr (.inr (.inl rm_z)))], rm_up q.2.2.2.2 1 n.toNatClampNeg)
  | _ => none
def rm_fin (ci f : Nat) : Bool := match vwCl[ci]? with
  | some q => (q.2.1 f).2.2.2
  | none => true
def rm_putf (ini : Bool) (oc : Nat) (k : Option (Nat × Nat × Nat × Nat)) (q : rm_N) : Option rm_N := match k, q.2.2.1 with
  | some (0, ci, f, 0), v :: .ref a :: r => match rm_obj q.2.2.2.1 a with
    | some o => if decide (o.1 = ci) && rm_fit (rm_ft ci f) v && decide (f < o.2.length) && (!(rm_fin ci f) || (ini && decide (oc = ci))) then some (q.1 + 3, q.2.1, r, q.2.2.2.1.set a (.inr (ci, o.2.set f v)), q.2.2.2.2) else none
    | none => none
  | _, _ => none
def rm_arr (h : rm_H) (a : Nat) : Option (Nat × vp_A) := match h[a]? with
  | some (.inl o) => some o
  | _ => none
def rm_alen (L : Nat) (q : rm_N) : Option rm_N := match q.2.2.1 with
  | .ref a :: r => match rm_arr q.2.2.2.1 a with
    | some o => if o.1 < 8 then some (q.1 + 1, q.2.1, .int (Int32.ofNat o.2.1) :: r, q.2.2.2) else none
    | none => none
  | .retAddr 0 :: r => if L = 1000000 then none else some (q.1 + 1, q.2.1, .int (Int32.ofNat L) :: r, q.2.2.2)
  | .retAddr 3 :: r => some (q.1 + 1, q.2.1, .int (Int32.ofNat rm_sB.length) :: r, q.2.2.2)
  | _ => none
def rm_iald (L : Nat) (q : rm_N) : Option rm_N := match q.2.2.1 with
  | .int i :: .retAddr 0 :: r => if rm_in i L && decide (i.toNatClampNeg < 4) && decide (L ≠ 1000000) then some (q.1 + 1, q.2.1, .float (UInt32.ofNat i.toNatClampNeg) :: r, q.2.2.2) else none
  | _ => none
def rm_aald (q : rm_N) : Option rm_N := match q.2.2.1 with
  | .int i :: .ref a :: r => match rm_arr q.2.2.2.1 a with
    | some (t, n, .inr (.inr (.inr (.inr f)))) => if rm_in i n && decide (5 ≤ t) && decide (t < 8) then some (q.1 + 1, q.2.1, va_rf (f i.toNatClampNeg) :: r, q.2.2.2) else none
    | _ => none
  | _ => none
/-- a number into an array of numbers: which one is forgotten -/
def rm_ist (t : Nat) (f : Value → Bool) (q : rm_N) : Option rm_N := match q.2.2.1 with
  | x :: .int i :: .ref a :: r => match rm_arr q.2.2.2.1 a with
    | some (t', n, .inr (.inr (.inl _))) => if decide (t' = t) && rm_in i n && f x then some (q.1 + 1, q.2.1, r, q.2.2.2) else none
    | _ => none
  | _ => none
def rm_aast (q : rm_N) : Option rm_N := match q.2.2.1 with
  | .ref v :: .int i :: .ref a :: r => match rm_arr q.2.2.2.1 a, rm_obj q.2.2.2.1 v with
    | some (t, n, .inr (.inr (.inr (.inr f)))), some o => if rm_in i n && decide (rm_tc t = some o.1) then some (q.1 + 1, q.2.1, r, q.2.2.2.1.set a (.inl (t, n, .inr (.inr (.inr (.inr (va_up f i.toNatClampNeg (some v))))))), q.2.2.2.2) else none
    | _, _ => none
  | _ => none
def rm_ldc (n : Nat) (k : Option (Nat × Nat × Nat × Nat)) (q : rm_N) : Option rm_N := match k with
  | some (4, a, _, _) => rm_push n (.int (Int32.ofNat a)) q
  | _ => none
def rm_ldc2 (k : Option (Nat × Nat × Nat × Nat)) (q : rm_N) : Option rm_N := match k with
  | some (5, a, _, _) => rm_push 3 (.long (Int64.ofNat a)) q
  | _ => none
def rm_ldcA (k : Option (Nat × Nat × Nat × Nat)) (q : rm_N) : Option rm_N := match k with
  | some (6, _, _, _) => rm_push 2 (.retAddr 2) q
  | _ => rm_ldc 2 k q
def rm_gets (k : Option (Nat × Nat × Nat × Nat)) (q : rm_N) : Option rm_N := match k with
  | some (8, _, _, _) => rm_push 3 (.int 1) q
  | _ => none
def rm_bald (q : rm_N) : Option rm_N := match q.2.2.1 with
  | .int i :: .retAddr 3 :: r => if rm_in i rm_sB.length then some (q.1 + 1, q.2.1, .int (rm_sB.getD i.toNatClampNeg 0) :: r, q.2.2.2) else none
  | _ => none
/-- getfield, of a cell of the heap or of the text -/
def rm_getfA (k : Option (Nat × Nat × Nat × Nat)) (q : rm_N) : Option rm_N := match k, q.2.2.1 with
  | some (7, 0, _, _), .retAddr 2 :: r => some (q.1 + 3, q.2.1, .retAddr 3 :: r, q.2.2.2)
  | some (7, _ + 1, _, _), .retAddr 2 :: r => some (q.1 + 3, q.2.1, .int 0 :: r, q.2.2.2)
  | _, _ => rm_getf k q
-- the relation
theorem rm_obj_ok {h : rm_H} {a : Nat} {o : Nat × List Value} (e : rm_obj h a = some o) : h[a]? = some (.inr o) := by
  unfold rm_obj at e
  split at e
  · rename_i o' h1; cases e; exact h1
  · cases e
theorem rm_arr_ok {h : rm_H} {a : Nat} {o : Nat × vp_A} (e : rm_arr h a = some o) : h[a]? = some (.inl o) := by
  unfold rm_arr at e
  split at e
  · rename_i o' h1; cases e; exact h1
  · cases e
theorem rm_R.set {D : va_G} {sz : Nat} {ext : Nat → Nat} {cA : Nat → ClassId} {h : rm_H} {H H1 : Heap} {a : Nat} {c0 c1 : va_E} (hR : rm_R D sz ext cA h H) (h0 : h[a]? = some c0) (h1 : rm_at1 D sz ext cA a c1 H1) (z : H1.size = H.size) (oq : ∀ q : Nat, q ≠ sz + a → H1[q]? = H[q]?) : rm_R D sz ext cA (h.set a c1) H1 := by
  refine ⟨by rw [z, hR.1, List.length_set], fun k c hk => ?_⟩
  by_cases e : k = a
  · subst e
    rw [List.getElem?_set_self (List.getElem?_eq_some_iff.mp h0).1] at hk
    cases hk
    exact h1
  · rw [List.getElem?_set_ne (Ne.symm e)] at hk
    exact (hR.2 k c hk).kept (oq _ (by show sz + k ≠ sz + a; omega))
theorem rm_R.same {D : va_G} {sz : Nat} {ext : Nat → Nat} {cA : Nat → ClassId} {h : rm_H} {H H1 : Heap} {a : Nat} {c0 : va_E} (hR : rm_R D sz ext cA h H) (h0 : h[a]? = some c0) (h1 : rm_at1 D sz ext cA a c0 H1) (z : H1.size = H.size) (oq : ∀ q : Nat, q ≠ sz + a → H1[q]? = H[q]?) : rm_R D sz ext cA h H1 := by
  refine ⟨by rw [z, hR.1], fun k c hk => ?_⟩
  by_cases e : k = a
  · subst e
    cases hk.symm.trans h0
    exact h1
  · exact (hR.2 k c hk).kept (oq _ (by show sz + k ≠ sz + a; omega))
theorem rm_R.push {D : va_G} {sz : Nat} {ext : Nat → Nat} {cA : Nat → ClassId} {h : rm_H} {H H1 : Heap} {c1 : va_E} (hR : rm_R D sz ext cA h H) (h1 : rm_at1 D sz ext cA h.length c1 H1) (z : H1.size = H.size + 1) (oq : ∀ q : Nat, q < H.size → H1[q]? = H[q]?) : rm_R D sz ext cA (h ++ [c1]) H1 := by
  refine ⟨by rw [z, hR.1, List.length_append]; rfl, fun k c hk => ?_⟩
  by_cases e : k < h.length
  · rw [List.getElem?_append_left e] at hk
    exact (hR.2 k c hk).kept (oq _ (by show sz + k < H.size; rw [hR.1]; omega))
  · rw [List.getElem?_append_right (by omega)] at hk
    have hz : k - h.length < 1 := (List.getElem?_eq_some_iff.mp hk).1
    have hz0 : k = h.length := by omega
    subst hz0
    rw [Nat.sub_self] at hk
    cases hk
    exact h1
theorem rm_S.put {sz : Nat} {H0 H H1 : Heap} {locs : List Loc} {a k : Nat} (hS : rm_S sz H0 H locs) (ha : sz ≤ a) (oq : ∀ q : Nat, q ≠ a → H1[q]? = H[q]?) : rm_S sz H0 H1 (locs ++ [⟨a, k⟩]) := by
  refine ⟨fun q hq => (oq q (by omega)).trans (hS.1 q hq), fun q hq => ?_⟩
  rcases List.mem_append.mp hq with h | h
  · exact hS.2 q h
  · rw [List.mem_singleton.mp h]; exact ha
theorem rm_S.new {sz : Nat} {H0 H H1 : Heap} {locs : List Loc} (hS : rm_S sz H0 H locs) (hz : sz ≤ H.size) (oq : ∀ q : Nat, q < H.size → H1[q]? = H[q]?) : rm_S sz H0 H1 locs :=
  ⟨fun q hq => (oq q (by omega)).trans (hS.1 q hq), hS.2⟩
section RMH
variable {p : Program} {l : Launch} {e : Env} {R : Room} {s : State} {m : MethodId} {args : Array Value} {below : List Frame} {meth : Method} {c : Code} {Q : State → Prop}
variable {nL sz : Nat} {ext : Nat → Nat} {cA : Nat → ClassId} {D : va_G} {own : String} {L : Nat} {xs : rm_F} {ks : List rm_K5}
abbrev rm_KR (p : Program) (l : Launch) (e : Env) (R : Room) (s : State) (m : MethodId) (args : Array Value) (below : List Frame) (meth : Method) (c : Code) (Q : State → Prop) (nL sz : Nat) (ext : Nat → Nat) (cA : Nat → ClassId) (D : va_G) (i : Instr) (n : Nat) (f : rm_N → Option rm_N) : Prop :=
  ∀ (q r : rm_N), decode c.code q.1 = .ok (i, n) → f q = some r → r.2.2.2.2.1 ≤ R.cells → r.2.2.2.2.2.1 ≤ R.slots → rm_K p l e R s m args below meth c Q nL sz ext cA D r → rm_K p l e R s m args below meth c Q nL sz ext cA D q
theorem rm_s_getf (hx : p.tables.exec = Jvm.exec) (hts : ∀ w ∈ rm_tb, w.before args s = true) (hX : rm_X D cA sz ext L xs s) (hown : s.vm.findClass own = some m.cls) (hks : ∀ k ∈ ks, rm_okK own k) {i : Nat} : rm_KR p l e R s m args below meth c Q nL sz ext cA D (.getfield i) 3 (rm_getf (rm_lk ks i)) := by
  intro q r hd hf _ _ K ls H locs hl hR hS
  unfold rm_getf at hf
  split at hf
  · rename_i ci f cf a st hk hst
    have hok := hks _ (rm_lk_mem hk)
    split at hf
    · rename_i o ho
      split at hf
      · rename_i hci
        split at hf
        · rename_i v hv
          cases hf
          obtain ⟨ci', fs⟩ := o
          have hci : ci' = ci := hci
          subst hci
          have hk0 := rm_obj_ok ho
          have hat := hR.2 _ _ hk0
          have hP : va_P D vwCl [(sz + a, rm_c sz ext cA (.inr (ci', fs)))] H := fun j x hj => by
            cases j with
            | zero => cases hj; exact hat
            | succ j => simp at hj
          have hv' : (fs.map (rm_v sz ext))[f]? = some (rm_v sz ext v) := by rw [List.getElem?_map]; show Option.map _ _ = _; rw [show fs[f]? = some v from hv]; rfl
          have hkk := K ls H locs hl hR hS
          rw [hst]
          cases cf with
          | zero =>
            obtain ⟨C, T, N, h1, h2, h3⟩ := hok
            obtain ⟨g1, g2, g3, g4, g5, g6⟩ := rm_okC_all _ _ h1
            exact va_get (D := D) (cl := vwCl) (ci := ci') (C := C) (T := T) (N := N) hx rfl hts g1 hown hX.1 hP 0 rfl h1 f h2 (hts _ h3) (fun x hxx => by have z : (T f).1 = C := g4 f h2; rw [z] at hxx; exact hxx) hv' hd hkk
          | succ cf =>
            obtain ⟨C, T, N, h1, h2, h3⟩ := hok
            obtain ⟨g1, g2, g3, g4, g5, g6⟩ := rm_okC_all _ _ h1
            exact va_getN (D := D) (cl := vwCl) (ci := ci') (C := C) (T := T) (N := N) hx rfl hts g1 hown hX.1 hP 0 rfl h1 f h2 (va_Nw.use rfl (hX.2.2.1 _ h3)) (fun x hxx => by have z : (T f).1 = C := g4 f h2; rw [z] at hxx; exact hxx) hv' hd hkk
        · cases hf
      · cases hf
    · cases hf
  · cases hf
theorem rm_hq {sz : Nat} {H0 H : Heap} {locs : List Loc} (hS : rm_S sz H0 H locs) : ∀ a : Nat, a < H0.size → ¬ (fun q => sz ≤ q) a → H[a]? = H0[a]? := fun a _ h => hS.1 a (Nat.lt_of_not_le h)
theorem rm_s_getfA (hx : p.tables.exec = Jvm.exec) (hts : ∀ w ∈ rm_tb, w.before args s = true) (hX : rm_X D cA sz ext L xs s) (hown : s.vm.findClass own = some m.cls) (hks : ∀ k ∈ ks, rm_okK own k) {i : Nat} : rm_KR p l e R s m args below meth c Q nL sz ext cA D (.getfield i) 3 (rm_getfA (rm_lk ks i)) := by
  intro q r hd hf h1 h2 K
  unfold rm_getfA at hf
  split at hf
  · rename_i u1 u2 st hk hst
    have hok := hks _ (rm_lk_mem hk)
    cases hf
    intro ls H locs hl hR hS
    obtain ⟨-, -, hv, -⟩ := hX.2.2.2.2.1.2.2.1.1 0 (by decide)
    obtain ⟨cf, k9, fi, f, cell, g1, g2, g3, g4, g5, g6⟩ := hv.kept (rm_hq hS)
    have hk9 := K ls H locs hl hR hS
    rw [hst]
    exact W.getf hx rfl hown (hts _ hok) g1 g2 g3 g4 (v := .ref (ext 3)) g5 rfl rfl hd hk9
  · rename_i u0 u1 u2 st hk hst
    have hok := hks _ (rm_lk_mem hk)
    cases hf
    intro ls H locs hl hR hS
    obtain ⟨-, hv, -, -⟩ := hX.2.2.2.2.1.2.2.1.1 0 (by decide)
    obtain ⟨cf, k9, fi, f, cell, g1, g2, g3, g4, g5, g6⟩ := hv.kept (rm_hq hS)
    have hk9 := K ls H locs hl hR hS
    rw [hst]
    exact W.getf hx rfl hown (hts _ hok) g1 g2 g3 g4 (v := .int 0) g5 rfl rfl hd hk9
  · exact rm_s_getf hx hts hX hown hks q r hd hf h1 h2 K
theorem rm_s_gets (hx : p.tables.exec = Jvm.exec) (hts : ∀ w ∈ rm_tb, w.before args s = true) (hX : rm_X D cA sz ext L xs s) (hown : s.vm.findClass own = some m.cls) (hks : ∀ k ∈ ks, rm_okK own k) {i : Nat} : rm_KR p l e R s m args below meth c Q nL sz ext cA D (.getstatic i) 3 (rm_gets (rm_lk ks i)) := by
  intro q r hd hf _ _ K ls H locs hl hR hS
  unfold rm_gets at hf
  split at hf
  · rename_i u1 u2 u3 hk
    have hok := hks _ (rm_lk_mem hk)
    cases hf
    obtain ⟨cf, kf, fi, f, a, cell, g1, g2, g3, g4, g5, g6, g7, g8⟩ := hX.2.2.2.2.1.2.2.2.kept (rm_hq hS)
    exact W.gets hx rfl hown (hts _ hok) g1 g2 g3 g4 g5 (fun e => by rw [e] at g6; cases g6) g7 rfl hd (K ls H locs hl hR hS)
  · cases hf
theorem rm_s_bald (hx : p.tables.exec = Jvm.exec) (hX : rm_X D cA sz ext L xs s) : rm_KR p l e R s m args below meth c Q nL sz ext cA D .baload 1 rm_bald := by
  intro q r hd hf _ _ K ls H locs hl hR hS
  unfold rm_bald at hf
  split at hf
  · rename_i i st hst
    split at hf
    · rename_i hi
      cases hf
      obtain ⟨-, -, -, hv⟩ := hX.2.2.2.2.1.2.2.1.1 0 (by decide)
      obtain ⟨cell, g1, g2, g3, g4, g5, g6, g7⟩ := hv.kept (rm_hq hS)
      have hin := rm_in_ok hi
      have hlt : i.toNatClampNeg < rm_sB.length := Nat.not_le.mp fun z => hin (Or.inr z)
      have hk := K ls H locs hl hR hS
      rw [hst]
      exact W.bald (v := .int (rm_sB.getD i.toNatClampNeg 0)) hx rfl g1 g2 g3 (fun z => hin (z.imp id (fun z => Nat.le_trans (by exact g4) z))) (g6 _ hlt) rfl rfl hd hk
    · cases hf
  · cases hf
theorem rm_s_ldc (hx : p.tables.exec = Jvm.exec) (hts : ∀ w ∈ rm_tb, w.before args s = true) (hown : s.vm.findClass own = some m.cls) (hks : ∀ k ∈ ks, rm_okK own k) {i : Nat} : rm_KR p l e R s m args below meth c Q nL sz ext cA D (.ldc i) 2 (rm_ldc 2 (rm_lk ks i)) := by
  intro q r hd hf _ _ K ls H locs hl hR hS
  unfold rm_ldc at hf
  split at hf
  · rename_i a b d hk
    have hok := hks _ (rm_lk_mem hk)
    cases hf
    exact lv_ldc hx rfl hown (hts _ hok) hd (K ls H locs hl hR hS)
  · cases hf
theorem rm_s_ldcw (hx : p.tables.exec = Jvm.exec) (hts : ∀ w ∈ rm_tb, w.before args s = true) (hown : s.vm.findClass own = some m.cls) (hks : ∀ k ∈ ks, rm_okK own k) {i : Nat} : rm_KR p l e R s m args below meth c Q nL sz ext cA D (.ldc_w i) 3 (rm_ldc 3 (rm_lk ks i)) := by
  intro q r hd hf _ _ K ls H locs hl hR hS
  unfold rm_ldc at hf
  split at hf
  · rename_i a b d hk
    have hok := hks _ (rm_lk_mem hk)
    cases hf
    exact lv_ldcw hx rfl hown (hts _ hok) hd (K ls H locs hl hR hS)
  · cases hf
theorem rm_s_ldc2 (hx : p.tables.exec = Jvm.exec) (hts : ∀ w ∈ rm_tb, w.before args s = true) (hown : s.vm.findClass own = some m.cls) (hks : ∀ k ∈ ks, rm_okK own k) {i : Nat} : rm_KR p l e R s m args below meth c Q nL sz ext cA D (.ldc2_w i) 3 (rm_ldc2 (rm_lk ks i)) := by
  intro q r hd hf _ _ K ls H locs hl hR hS
  unfold rm_ldc2 at hf
  split at hf
  · rename_i a b d hk
    have hok := hks _ (rm_lk_mem hk)
    cases hf
    exact lv_ldc2 hx rfl hown (hts _ hok) hd (K ls H locs hl hR hS)
  · cases hf
theorem rm_s_ldcA (hx : p.tables.exec = Jvm.exec) (hts : ∀ w ∈ rm_tb, w.before args s = true) (hX : rm_X D cA sz ext L xs s) (hown : s.vm.findClass own = some m.cls) (hks : ∀ k ∈ ks, rm_okK own k) {i : Nat} : rm_KR p l e R s m args below meth c Q nL sz ext cA D (.ldc i) 2 (rm_ldcA (rm_lk ks i)) := by
  intro q r hd hf h1 h2 K
  unfold rm_ldcA at hf
  split at hf
  · rename_i u1 u2 u3 hk
    obtain ⟨rfl, rfl⟩ := hks _ (rm_lk_mem hk)
    cases hf
    intro ls H locs hl hR hS
    exact va_ldcS hx rfl hown hX.2.2.2.2.1.2.1 hd (K ls H locs hl hR hS)
  · exact rm_s_ldc hx hts hown hks q r hd hf h1 h2 K
end RMH
end
section
/-! PUTFIELD, NEW, ARRAYS -/
theorem rm_v_default (sz : Nat) (ext : Nat → Nat) (ty : FieldType) (h : rm_nf0 (defaultValue ty) = true) : rm_v sz ext (defaultValue ty) = defaultValue ty := by cases ty <;> first | rfl | cases h
theorem rm_fit_ok {ty : FieldType} {v : Value} (h : rm_fit ty v = true) (sz : Nat) (ext : Nat → Nat) : narrow ty (rm_v sz ext v) = rm_v sz ext v ∧ fits ty (rm_v sz ext v) = true := by
  unfold rm_fit at h
  split at h
  · exact ⟨rfl, rfl⟩
  · exact ⟨rfl, rfl⟩
  · rename_i x
    simp only [decide_eq_true_eq] at h
    rcases h with rfl | rfl
    · exact ⟨rfl, rfl⟩
    · exact ⟨rfl, rfl⟩
  · exact ⟨rfl, rfl⟩
  · exact ⟨rfl, rfl⟩
  · cases h
theorem rm_map_set {sz : Nat} {ext : Nat → Nat} (fs : List Value) (k : Nat) (v : Value) : (fs.set k v).map (rm_v sz ext) = (fs.map (rm_v sz ext)).set k (rm_v sz ext v) := List.map_set
section RMP
variable {p : Program} {l : Launch} {e : Env} {R : Room} {s : State} {m : MethodId} {args : Array Value} {below : List Frame} {meth : Method} {c : Code} {Q : State → Prop}
variable {nL sz : Nat} {ext : Nat → Nat} {cA : Nat → ClassId} {D : va_G} {own : String} {L : Nat} {xs : rm_F} {ks : List rm_K5}
theorem rm_s_putf (hx : p.tables.exec = Jvm.exec) (hts : ∀ w ∈ rm_tb, w.before args s = true) (hX : rm_X D cA sz ext L xs s) (hown : s.vm.findClass own = some m.cls) (hks : ∀ k ∈ ks, rm_okK own k) {ini : Bool} {oc : Nat} (hini : ini = true → meth.name = "<init>" ∧ ∃ q, vwCl[oc]? = some q ∧ q.1 = own) {i : Nat} : rm_KR p l e R s m args below meth c Q nL sz ext cA D (.putfield i) 3 (rm_putf ini oc (rm_lk ks i)) := by
  intro q r hd hf _ _ K ls H locs hl hR hS
  unfold rm_putf at hf
  split at hf
  · rename_i ci f v a st hk hst
    have hok := hks _ (rm_lk_mem hk)
    split at hf
    · rename_i o ho
      split at hf
      · rename_i hcond
        cases hf
        simp only [Bool.and_eq_true, decide_eq_true_eq, Bool.or_eq_true, Bool.not_eq_true'] at hcond
        obtain ⟨⟨⟨hci, hfit⟩, hlen⟩, hfin⟩ := hcond
        obtain ⟨ci', fs⟩ := o
        have hci : ci' = ci := hci
        subst hci
        have hk0 := rm_obj_ok ho
        have hat := hR.2 _ _ hk0
        obtain ⟨C, T, N, h1, h2, h3⟩ := hok
        obtain ⟨g1, g2, g3, g4, g5, g6⟩ := rm_okC_all _ _ h1
        have z4 : (T f).1 = C := g4 f h2
        have g2f : parseFieldDescriptor (T f).2.2.1 = some (rm_ft ci' f) := g2 f h2
        have hap := va_apart (own := own) (args := args) (s := s) hts g1 (rm_ft ci') g2 g3 hX.1 h1
        obtain ⟨r0, e1, cell, q1, q2, q3, q4⟩ := hat
        have hr : r0 = (C, T, N) := Option.some.inj (e1.symm.trans h1)
        subst hr
        obtain ⟨hSl, hfc, kC, hkC, hkind⟩ := hX.1.1 ci' _ h1
        obtain ⟨cf, kf, fi, fd, hi, hsl⟩ := hSl f h2
        have hst2 := (u_facts hfc hkC (u_lays hts g1 h2) hi).1
        obtain ⟨n1, n2⟩ := rm_fit_ok hfit sz ext
        have h6 := u_fits hfc hkC hkind (u_lays hts g1 h2) hi g2f n1 n2
        have hlt : fd.slot < cell.slots.size := by rw [hsl]; exact k2_hasslot (q4 f h2)
        have hi2 : s.fieldFound? C (T f).2.1 (T f).2.2.1 = some (cf, kf, fi, fd) := by
          have hi9 := hi
          dsimp only at hi9
          rw [z4] at hi9
          exact hi9
        have hff : hasFlag fd.accessFlags Acc.final = false ∨ (m.cls = cf ∧ meth.name = "<init>") := by
          have hlay := hts _ (g1 _ (u_in_lay h2))
          unfold u_lay at hlay
          have efin : rm_fin ci' f = (T f).2.2.2 := by unfold rm_fin; rw [h1]
          rw [efin] at hfin
          cases hb : (T f).2.2.2 with
          | false =>
            rw [if_neg (by rw [hb]; decide)] at hlay
            exact Or.inl (u_store hfc hkC hkind hlay hi g2f n1 n2).1
          | true =>
            rcases hfin with hfin | ⟨hfin, hoc⟩
            · rw [hb] at hfin; cases hfin
            · obtain ⟨w1, qq, w2, w3⟩ := hini hfin
              rw [hoc, h1] at w2
              cases w2
              rw [if_pos hb] at hlay
              obtain ⟨_, _, c', _, _, _, -, -, hf', -, -, -, hown2, -⟩ := Cond.laysFinal_spec hlay
              have e1 : c' = cf := by have := hi.symm.trans hf'; simp at this; exact this.1.symm
              have w3 : C = own := w3
              have z5 : (T f).1 = own := z4.trans w3
              dsimp only at hown2
              rw [z5] at hown2
              exact Or.inr ⟨by rw [← e1]; exact Option.some.inj (hown.symm.trans hown2), w1⟩
        have ha : sz + a < H.size := (Array.getElem?_eq_some_iff.mp q1).1
        rw [hst]
        refine W.putf hx rfl hown (hts _ h3) hi2 hst2 hff q1 (by rw [q3]; exact fun z => by cases z) hlt h6.1 (by rw [q2, q3]; exact h6.2) rfl rfl hd ?_
        refine K ls _ _ hl ?_ ?_
        · refine hR.set hk0 ?_ (by simp) (fun j hj => by simp [Array.getElem?_setIfInBounds, Ne.symm hj])
          refine ⟨_, h1, t_OB.to (V := updV (vp_V (fs.map (rm_v sz ext))) f (rm_v sz ext v)) ⟨cell.setSlot fd.slot (rm_v sz ext v), by simp [Array.getElem?_setIfInBounds, ha], q2, q3, ?_⟩ (fun j _ => ?_)⟩
          · rw [hsl]
            exact t_set q4 hap h2 _
          · rw [rm_map_set]
            exact vp_updV_set (by rw [List.length_map]; exact hlen) _ j
        · exact hS.put (Nat.le_add_right sz a) (fun j hj => by simp [Array.getElem?_setIfInBounds, Ne.symm hj])
      · cases hf
    · cases hf
  · cases hf
theorem rm_s_new (hx : p.tables.exec = Jvm.exec) (hts : ∀ w ∈ rm_tb, w.before args s = true) (hX : rm_X D cA sz ext L xs s) (hown : s.vm.findClass own = some m.cls) (hks : ∀ k ∈ ks, rm_okK own k) {i : Nat} : rm_KR p l e R s m args below meth c Q nL sz ext cA D (.new i) 3 (rm_new (rm_lk ks i)) := by
  intro q r hd hf hc1 hc2 K ls H locs hl hR hS
  unfold rm_new at hf
  split at hf
  · rename_i ci N z hk
    have hok := hks _ (rm_lk_mem hk)
    split at hf
    · cases hf
    rename_i hnf
    cases hf
    obtain ⟨C, T, h1, h3, -⟩ := hok
    obtain ⟨g1, g2, g3, g4, g5, g6⟩ := rm_okC_all _ _ h1
    have hKn := hX.1.1 ci _ h1
    refine W.newcK hx rfl hown (hts _ h3) (hts _ g5) (hts _ g6) rfl hd hc1 hc2 hKn.2.1 hR.1 fun H1 kC hkC e1 z1 o1 => ?_
    have hk2 := K ls H1 locs hl
    refine hk2 ?_ (hS.new (by rw [hR.1]; omega) (fun x hx9 => o1 x (by rw [← hR.1]; exact hx9)))
    refine hR.push ⟨_, h1, (u_born (rm_ft ci) hts g1 hKn hkC e1 g2).to (fun j hj => ?_)⟩ (by rw [z1, hR.1]) (fun x hx9 => o1 x (by rw [← hR.1]; exact hx9))
    have hj : j < N := hj
    have hnf : ((List.range N).map (fun j => defaultValue (rm_ft ci j))).all rm_nf0 = true := by simpa using hnf
    have hd9 := List.all_eq_true.mp hnf (defaultValue (rm_ft ci j)) (List.mem_map.mpr ⟨j, List.mem_range.mpr hj, rfl⟩)
    simp [vp_V, hj, rm_v_default _ _ _ hd9]
  · cases hf
theorem rm_tys_at {cA : Nat → ClassId} {t : Nat} {ty : FieldType} (h : rm_ts[t]? = some ty) : (rm_tys cA)[t]? = some (cA t, ty) := by
  match t, h with
  | 0, h => cases h; rfl
  | 1, h => cases h; rfl
  | 2, h => cases h; rfl
  | 3, h => cases h; rfl
  | 4, h => cases h; rfl
  | 5, h => cases h; rfl
  | 6, h => cases h; rfl
  | 7, h => cases h; rfl
  | n + 8, h => simp [rm_ts] at h
theorem rm_newa_s (hx : p.tables.exec = Jvm.exec) (hts : ∀ w ∈ rm_tb, w.before args s = true) (hX : rm_X D cA sz ext L xs s) {at9 : ArrayType} {t : Nat} {ty : FieldType} {d : (Nat → Int32) ⊕ (Nat → Int64) ⊕ (Nat → UInt32) ⊕ (Nat → UInt64) ⊕ (Nat → Option Nat)} (ht5 : t < 5) (hkd : rm_kd t d) (ht : rm_ts[t]? = some ty) (hty : newarray.typeOf at9 = ty) (hno : ∀ C, ty ≠ .object C) (hb : componentBytes ty ≤ 8) (hw : Cond.arrayClass ty ∈ rm_tb)
    (hd0 : ∀ (N : Nat) (a : ClassId), vp_cell a (N, d) = arrV a N (fun _ => defaultValue ty)) : rm_KR p l e R s m args below meth c Q nL sz ext cA D (.newarray at9) 2 (rm_newa t) := by
  intro q r hd hf hc1 hc2 K ls H locs hl hR hS
  unfold rm_newa at hf
  split at hf
  · rename_i n st hst
    split at hf
    · cases hf
    · rename_i hn
      cases hf
      simp only [Bool.or_eq_true, decide_eq_true_eq, not_or] at hn
      subst hty
      rw [hst]
      refine va_newaK hx rfl (hts _ hw) rfl hd rfl hn.1 rfl (Nat.le_trans (Nat.mul_le_mul_left _ hb) (by omega)) hc1 hc2 hR.1 fun H1 a9 e1 z1 o1 hAr hNm => ?_
      have hRA := (hX.1.2 t _ (rm_tys_at ht)).2
      have ha9 : a9 = cA t := by
        cases at9 <;> exact Option.some.inj (hNm.symm.trans hRA)
      subst ha9
      have hk2 := K ls H1 locs hl
      refine hk2 ?_ (hS.new (by rw [hR.1]; omega) (fun x hx9 => o1 x (by rw [← hR.1]; exact hx9)))
      refine hR.push ?_ (by rw [z1, hR.1]) (fun x hx9 => o1 x (by rw [← hR.1]; exact hx9))
      refine ⟨ht5, d, hkd, ?_⟩
      show H1[sz + _]? = some (vp_cell (cA t) (_, d))
      rw [hd0]
      exact e1
  · cases hf
theorem rm_s_newq (hx : p.tables.exec = Jvm.exec) (hts : ∀ w ∈ rm_tb, w.before args s = true) (hX : rm_X D cA sz ext L xs s) (hown : s.vm.findClass own = some m.cls) (hks : ∀ k ∈ ks, rm_okK own k) {i : Nat} : rm_KR p l e R s m args below meth c Q nL sz ext cA D (.anewarray i) 3 (rm_newq (rm_lk ks i)) := by
  intro q r hd hf hc1 hc2 K ls H locs hl hR hS
  unfold rm_newq at hf
  split at hf
  · rename_i z z2 t n st hk hst
    have hok := hks _ (rm_lk_mem hk)
    split at hf
    · cases hf
    · rename_i hn
      cases hf
      simp only [Bool.or_eq_true, decide_eq_true_eq, not_or] at hn
      obtain ⟨C, T, -, h3, h1⟩ := hok
      have h1 := h1 (by omega)
      have hn := hn.1
      rw [hst]
      refine W.anew hx rfl hown (hts _ h3) (va_AO.use (hX.2.1 t C h1)) rfl hd rfl hn.1 (by omega) hc1 hc2 fun a9 kA comp f1 f2 f3 f4 => ?_
      obtain ⟨kA', comp', k1, k2, k3, k4⟩ := (hX.1.2 t _ (rm_tys_at h1)).2
      have ha9 : a9 = cA t := Option.some.inj (f1.symm.trans k4)
      subst ha9
      rw [hR.1]
      have hk2 := K ls (H.push { cls := cA t, slots := Array.replicate n.toNatClampNeg .null, vm := .none }) locs hl
      have o1 : ∀ x : Nat, x < H.size → (H.push ({ cls := cA t, slots := Array.replicate n.toNatClampNeg .null, vm := .none } : Cell))[x]? = H[x]? := fun x hx9 => by rw [Array.getElem?_push, if_neg (Nat.ne_of_lt hx9)]
      refine hk2 ?_ (hS.new (by rw [hR.1]; omega) o1)
      refine hR.push ?_ (by simp) o1
      have e9 : (H.push ({ cls := cA t, slots := Array.replicate n.toNatClampNeg .null, vm := .none } : Cell))[H.size]? = some (vp_cell (cA t) (rm_a sz (n.toNatClampNeg, .inr (.inr (.inr (.inr (fun _ => none))))))) := by
        rw [Array.getElem?_push_size, arrV_new]
        rfl
      rw [hR.1] at e9
      exact e9
  · cases hf
end RMP
end
section
/-! READS AND WRITES OF ARRAYS -/
section RMQ
variable {p : Program} {l : Launch} {e : Env} {R : Room} {s : State} {m : MethodId} {args : Array Value} {below : List Frame} {meth : Method} {c : Code} {Q : State → Prop}
variable {nL sz : Nat} {ext : Nat → Nat} {cA : Nat → ClassId} {D : va_G} {own : String} {L : Nat} {xs : rm_F} {ks : List rm_K5}
theorem rm_oneO {D : va_G} {sz : Nat} {ext : Nat → Nat} {cA : Nat → ClassId} {h : rm_H} {H : Heap} {a : Nat} {o : Nat × List Value} (hR : rm_R D sz ext cA h H) (h0 : h[a]? = some (.inr o)) : va_P D vwCl [(sz + a, rm_c sz ext cA (.inr o))] H := fun j y hj => by
  cases j with
  | zero => cases hj; exact hR.2 _ _ h0
  | succ j => simp at hj
theorem rm_oneP {D : va_G} {H : Heap} {x : Nat × va_E} (h : va_at D vwCl x H) : va_P D vwCl [x] H := fun j y hj => by
  cases j with
  | zero => cases hj; exact h
  | succ j => simp at hj
theorem rm_ts_lt {t : Nat} (h : t < 8) : ∃ ty, rm_ts[t]? = some ty := ⟨_, List.getElem?_eq_getElem (by show t < 8; exact h)⟩
theorem rm_s_alen (hx : p.tables.exec = Jvm.exec) (hX : rm_X D cA sz ext L xs s) : rm_KR p l e R s m args below meth c Q nL sz ext cA D .arraylength 1 (rm_alen L) := by
  intro q r hd hf _ _ K ls H locs hl hR hS
  unfold rm_alen at hf
  split at hf
  · rename_i a st hst
    split at hf
    · rename_i o ho
      split at hf
      · rename_i ht
        cases hf
        obtain ⟨t, n, d⟩ := o
        obtain ⟨ty, hty⟩ := rm_ts_lt ht
        have hk := K ls H locs hl hR hS
        have h0 := hR.2 _ _ (rm_arr_ok ho)
        rw [hst]
        obtain d | d | d | d | d := d
        · have h1 : va_at D vwCl (sz + a, rm_c sz ext cA (.inl (t, n, .inl d))) H := h0
          exact va_alen (D := D) (cl := vwCl) hx rfl hX.1 (rm_oneP h1) 0 t rfl (rm_tys_at hty) rfl hd hk
        · have h1 : va_at D vwCl (sz + a, rm_c sz ext cA (.inl (t, n, .inr (.inl d)))) H := h0
          exact va_alen (D := D) (cl := vwCl) hx rfl hX.1 (rm_oneP h1) 0 t rfl (rm_tys_at hty) rfl hd hk
        · obtain ⟨-, d9, -, h9⟩ := h0
          exact va_alen (D := D) (cl := vwCl) hx rfl hX.1 (rm_oneP h9) 0 t rfl (rm_tys_at hty) rfl hd hk
        · have h1 : va_at D vwCl (sz + a, rm_c sz ext cA (.inl (t, n, .inr (.inr (.inr (.inl d)))))) H := h0
          exact va_alen (D := D) (cl := vwCl) hx rfl hX.1 (rm_oneP h1) 0 t rfl (rm_tys_at hty) rfl hd hk
        · have h1 : va_at D vwCl (sz + a, rm_c sz ext cA (.inl (t, n, .inr (.inr (.inr (.inr d)))))) H := h0
          exact va_alen (D := D) (cl := vwCl) hx rfl hX.1 (rm_oneP h1) 0 t rfl (rm_tys_at hty) rfl hd hk
      · cases hf
    · cases hf
  · rename_i st hst
    split at hf
    · cases hf
    · rename_i hL
      cases hf
      obtain ⟨ys, ⟨scr, h1, h2, h3, h4, h5⟩, -⟩ := hX.2.2.2.1 hL
      have hk := K ls H locs hl hR hS
      rw [hst]
      exact W.alen (n := Int32.ofNat L) hx rfl (by rw [hS.1 _ hX.2.2.2.2.1.1]; exact h1) h2 (by rw [h4] <;> rfl) rfl rfl hd hk
  · rename_i st hst
    cases hf
    obtain ⟨-, -, -, hv⟩ := hX.2.2.2.2.1.2.2.1.1 0 (by decide)
    obtain ⟨cell, g1, g2, g3, g4, g5, g6, g7⟩ := hv.kept (rm_hq hS)
    have hk := K ls H locs hl hR hS
    rw [hst]
    exact W.alen (n := Int32.ofNat rm_sB.length) hx rfl g1 g2 g5 rfl rfl hd hk
  · cases hf
theorem rm_s_iald (hx : p.tables.exec = Jvm.exec) (hX : rm_X D cA sz ext L xs s) : rm_KR p l e R s m args below meth c Q nL sz ext cA D .iaload 1 (rm_iald L) := by
  intro q r hd hf _ _ K ls H locs hl hR hS
  unfold rm_iald at hf
  split at hf
  · rename_i i st hst
    split at hf
    · rename_i hi
      cases hf
      simp only [Bool.and_eq_true, decide_eq_true_eq] at hi
      obtain ⟨ys, ⟨scr, h1, h2, h3, h4, h5⟩, h6⟩ := hX.2.2.2.1 hi.2
      have hk := K ls H locs hl hR hS
      have hin := rm_in_ok hi.1.1
      have hlt : i.toNatClampNeg < L := Nat.not_le.mp fun z => hin (Or.inr z)
      have ev : rm_v sz ext (.float (UInt32.ofNat i.toNatClampNeg)) = .int (ys i.toNatClampNeg) := by
        show Value.int (rm_e ext (UInt32.ofNat i.toNatClampNeg).toNat) = _
        rw [rm_u32 (by omega), h6 _ hi.1.2]
      simp only [List.map_cons, ev] at hk
      rw [hst]
      exact W.iald (v := .int (ys i.toNatClampNeg)) hx rfl (by rw [hS.1 _ hX.2.2.2.2.1.1]; exact h1) h2 h3 (by rw [h4]; exact hin) (h5 _ hlt) rfl rfl hd hk
    · cases hf
  · cases hf
theorem rm_rf_map (sz : Nat) (ext : Nat → Nat) (x : Option Nat) : rm_v sz ext (va_rf x) = va_rf (x.map (fun k => sz + k)) := by cases x <;> rfl
theorem rm_s_aald (hx : p.tables.exec = Jvm.exec) (hX : rm_X D cA sz ext L xs s) : rm_KR p l e R s m args below meth c Q nL sz ext cA D .aaload 1 rm_aald := by
  intro q r hd hf _ _ K ls H locs hl hR hS
  unfold rm_aald at hf
  split at hf
  · rename_i i a st hst
    split at hf
    · rename_i t n f ho
      split at hf
      · rename_i hi
        cases hf
        simp only [Bool.and_eq_true, decide_eq_true_eq] at hi
        have hk := K ls H locs hl hR hS
        simp only [List.map_cons, rm_rf_map] at hk
        rw [hst]
        have hobj : ∃ C, rm_ts[t]? = some (.object C) := by
          match t, hi.1.2, hi.2 with
          | 5, _, _ => exact ⟨_, rfl⟩
          | 6, _, _ => exact ⟨_, rfl⟩
          | 7, _, _ => exact ⟨_, rfl⟩
        obtain ⟨C, hC⟩ := hobj
        have h9 : va_at D vwCl (sz + a, rm_c sz ext cA (.inl (t, n, .inr (.inr (.inr (.inr f)))))) H := hR.2 _ _ (rm_arr_ok ho)
        exact va_aldq (D := D) (cl := vwCl) (f := fun j => (f j).map (fun k => sz + k)) hx rfl hX.1 (rm_oneP h9) 0 t rfl (rm_tys_at hC) (rm_in_ok hi.1.1) hd hk
      · cases hf
    · cases hf
  · cases hf
theorem rm_s_iast (hx : p.tables.exec = Jvm.exec) (hX : rm_X D cA sz ext L xs s) : rm_KR p l e R s m args below meth c Q nL sz ext cA D .iastore 1 (rm_ist 0 rm_isI) := by
  intro q r hd hf _ _ K ls H locs hl hR hS
  unfold rm_ist at hf
  split at hf
  · rename_i v i a st hst
    split at hf
    · rename_i t n z9 ho
      split at hf
      · rename_i hi
        cases hf
        simp only [Bool.and_eq_true, decide_eq_true_eq] at hi
        obtain ⟨⟨rfl, hin⟩, hfx⟩ := hi
        have h0 := rm_arr_ok ho
        obtain ⟨ht5, d, hkd, hat⟩ := hR.2 _ _ h0
        obtain ⟨f, rfl⟩ : ∃ f, d = .inl (f) := hkd
        obtain ⟨x, hv⟩ := rm_isI_ok hfx sz ext
        rw [hst]
        simp only [List.map_cons, hv]
        refine W.iast hx rfl hat ((hX.1.2 0 _ rfl).1 n (fun j => .int (f j))) (fun z => by cases z) (by show ¬ (i < 0 ∨ (arrV _ _ _).slots.size ≤ _); rw [arrV_size]; exact rm_in_ok hin) rfl rfl hd fun H1 e1 z1 o1 => ?_
        refine K ls H1 _ hl (hR.same h0 ⟨ht5, .inl (upd f i.toNatClampNeg x), ⟨_, rfl⟩, ?_⟩ z1 o1) (hS.put (Nat.le_add_right sz a) o1)
        show H1[sz + a]? = some (vp_cell _ _)
        rw [e1]
        show some ((vp_cell (cA 0) (n, .inl (f))).setSlot _ _) = some (vp_cell (cA 0) (n, .inl (upd f i.toNatClampNeg x)))
        rw [vp_cell_i, vp_cell_i, arrV_store]
        congr 2
        funext z
        by_cases hq : z = i.toNatClampNeg
        · subst hq
          simp [updV, upd]
          try rfl
        · simp [updV, upd, hq]
      · cases hf
    · cases hf
  · cases hf
theorem rm_s_cast (hx : p.tables.exec = Jvm.exec) (hX : rm_X D cA sz ext L xs s) : rm_KR p l e R s m args below meth c Q nL sz ext cA D .castore 1 (rm_ist 2 rm_isI) := by
  intro q r hd hf _ _ K ls H locs hl hR hS
  unfold rm_ist at hf
  split at hf
  · rename_i v i a st hst
    split at hf
    · rename_i t n z9 ho
      split at hf
      · rename_i hi
        cases hf
        simp only [Bool.and_eq_true, decide_eq_true_eq] at hi
        obtain ⟨⟨rfl, hin⟩, hfx⟩ := hi
        have h0 := rm_arr_ok ho
        obtain ⟨ht5, d, hkd, hat⟩ := hR.2 _ _ h0
        obtain ⟨f, rfl⟩ : ∃ f, d = .inl (f) := hkd
        obtain ⟨x, hv⟩ := rm_isI_ok hfx sz ext
        rw [hst]
        simp only [List.map_cons, hv]
        refine W.cast hx rfl hat ((hX.1.2 2 _ rfl).1 n (fun j => .int (f j))) (fun z => by cases z) (by show ¬ (i < 0 ∨ (arrV _ _ _).slots.size ≤ _); rw [arrV_size]; exact rm_in_ok hin) rfl rfl hd fun H1 e1 z1 o1 => ?_
        refine K ls H1 _ hl (hR.same h0 ⟨ht5, .inl (upd f i.toNatClampNeg (vp_nar .char x)), ⟨_, rfl⟩, ?_⟩ z1 o1) (hS.put (Nat.le_add_right sz a) o1)
        show H1[sz + a]? = some (vp_cell _ _)
        rw [e1]
        show some ((vp_cell (cA 2) (n, .inl (f))).setSlot _ _) = some (vp_cell (cA 2) (n, .inl (upd f i.toNatClampNeg (vp_nar .char x))))
        rw [vp_cell_i, vp_cell_i, arrV_store]
        congr 2
        funext z
        by_cases hq : z = i.toNatClampNeg
        · subst hq
          simp [updV, upd, vp_nar]
          try rfl
        · simp [updV, upd, hq]
      · cases hf
    · cases hf
  · cases hf
theorem rm_s_last (hx : p.tables.exec = Jvm.exec) (hX : rm_X D cA sz ext L xs s) : rm_KR p l e R s m args below meth c Q nL sz ext cA D .lastore 1 (rm_ist 1 rm_isJ) := by
  intro q r hd hf _ _ K ls H locs hl hR hS
  unfold rm_ist at hf
  split at hf
  · rename_i v i a st hst
    split at hf
    · rename_i t n z9 ho
      split at hf
      · rename_i hi
        cases hf
        simp only [Bool.and_eq_true, decide_eq_true_eq] at hi
        obtain ⟨⟨rfl, hin⟩, hfx⟩ := hi
        have h0 := rm_arr_ok ho
        obtain ⟨ht5, d, hkd, hat⟩ := hR.2 _ _ h0
        obtain ⟨f, rfl⟩ : ∃ f, d = .inr (.inl (f)) := hkd
        obtain ⟨x, rfl⟩ := rm_isJ_ok hfx
        have hv : rm_v sz ext (.long x) = .long x := rfl
        rw [hst]
        simp only [List.map_cons, hv]
        refine W.last hx rfl hat ((hX.1.2 1 _ rfl).1 n (fun j => .long (f j))) (fun z => by cases z) (by show ¬ (i < 0 ∨ (arrV _ _ _).slots.size ≤ _); rw [arrV_size]; exact rm_in_ok hin) rfl rfl hd fun H1 e1 z1 o1 => ?_
        refine K ls H1 _ hl (hR.same h0 ⟨ht5, .inr (.inl (vp_updL f i.toNatClampNeg x)), ⟨_, rfl⟩, ?_⟩ z1 o1) (hS.put (Nat.le_add_right sz a) o1)
        show H1[sz + a]? = some (vp_cell _ _)
        rw [e1]
        show some ((vp_cell (cA 1) (n, .inr (.inl (f)))).setSlot _ _) = some (vp_cell (cA 1) (n, .inr (.inl (vp_updL f i.toNatClampNeg x))))
        rw [vp_cell_l, vp_cell_l, arrV_store]
        congr 2
        funext z
        by_cases hq : z = i.toNatClampNeg
        · subst hq
          simp [updV, vp_updL]
          try rfl
        · simp [updV, vp_updL, hq]
      · cases hf
    · cases hf
  · cases hf
theorem rm_s_aast (hx : p.tables.exec = Jvm.exec) (hX : rm_X D cA sz ext L xs s) : rm_KR p l e R s m args below meth c Q nL sz ext cA D .aastore 1 rm_aast := by
  intro q r hd hf _ _ K ls H locs hl hR hS
  unfold rm_aast at hf
  split at hf
  · rename_i v i a st hst
    split at hf
    · rename_i t n f o ho hv
      split at hf
      · rename_i hi
        cases hf
        simp only [Bool.and_eq_true, decide_eq_true_eq] at hi
        obtain ⟨ci, fs⟩ := o
        have h0 := rm_arr_ok ho
        obtain ⟨q9, hq9, cellV, g1, g2, g3, -⟩ := hR.2 _ _ (rm_obj_ok hv)
        have hin := rm_in_ok hi.1
        have hlt : i.toNatClampNeg < n := Nat.not_le.mp fun z => hin (Or.inr z)
        have hneg : ¬ i < 0 := fun z => hin (Or.inl z)
        have hcls := (hX.1.1 ci q9 hq9).2
        have hrt : rm_ts[t]? = some (.object q9.1) := by
          have h2 := hi.2
          unfold rm_tc at h2
          split at h2 <;> first | (cases h2; cases hq9; rfl) | cases h2
        obtain ⟨kA, comp, k1, k2, k3, -⟩ := (hX.1.2 t _ (rm_tys_at hrt)).2
        have hcomp : comp = D.1 ci := Option.some.inj (k3.symm.trans hcls.1)
        subst hcomp
        have hcls2 := hcls
        obtain ⟨kC, hkC, -⟩ := hcls.2
        rw [hst]
        refine W.aast hx rfl (hR.2 _ _ h0) (fun z h => by cases h) (fun h => by cases h) k1 k2 rfl hkC ⟨hneg, by show _ < (arrV _ _ _).slots.size; rw [arrV_size]; exact hlt⟩ g1 (fun z h => by rw [g3] at h; cases h) (by rw [g2]; exact hkC) (by rw [g2]; exact va_assign hcls2) rfl rfl hd fun H1 e1 z1 o1 => ?_
        refine K ls H1 _ hl (hR.set h0 ?_ z1 o1) (hS.put (Nat.le_add_right sz a) o1)
        show H1[sz + a]? = some (vp_cell _ _)
        rw [e1]
        show some ((vp_cell (cA t) (n, .inr (.inr (.inr (.inr (fun j => (f j).map (fun k => sz + k))))))).setSlot _ _) = some (vp_cell (cA t) (n, .inr (.inr (.inr (.inr (fun j => (va_up f i.toNatClampNeg (some v) j).map (fun k => sz + k)))))))
        rw [vp_cell_q, vp_cell_q, arrV_store]
        congr 2
        funext z
        by_cases hq : z = i.toNatClampNeg
        · subst hq
          simp [updV, va_up, va_rf]
        · simp [updV, va_up, hq]
      · cases hf
    · cases hf
  · cases hf
end RMQ
end
section
/-! THE DISPATCHER -/
def rm_is (n k : Nat) (f : rm_N → Option rm_N) : Option (rm_N → Option rm_N) := if n = k then some f else none
theorem rm_is_ok {n k : Nat} {f g : rm_N → Option rm_N} (h : rm_is n k f = some g) : n = k ∧ f = g := by
  unfold rm_is at h
  split at h
  · rename_i e; exact ⟨e, Option.some.inj h⟩
  · cases h
def rm_op (nL : Nat) (ini : Bool) (oc : Nat) (ks : List rm_K5) (L : Nat) (xs : rm_F) (i : Instr) (n : Nat) : Option (rm_N → Option rm_N) := match i with
  | .iconst k => rm_is n 1 (rm_push 1 (.int (Int32.ofInt k)))
  | .bipush k => rm_is n 2 (rm_push 2 (.int (Int8.ofInt k).toInt32))
  | .sipush k => rm_is n 3 (rm_push 3 (.int (Int16.ofInt k).toInt32))
  | .lconst k => rm_is n 1 (rm_push 1 (.long (Int64.ofNat (k : Nat))))
  | .iload_n k => rm_is n 1 (rm_loadT rm_isI 1 (k : Nat))
  | .iload k => rm_is n 2 (rm_loadT rm_isI 2 k)
  | .lload_n k => rm_is n 1 (rm_loadT rm_isJ 1 (k : Nat))
  | .lload k => rm_is n 2 (rm_loadT rm_isJ 2 k)
  | .aload_n k => rm_is n 1 (rm_loadT rm_isA 1 (k : Nat))
  | .aload k => rm_is n 2 (rm_loadT rm_isA 2 k)
  | .istore_n k => rm_is n 1 (rm_store1 rm_isI nL 1 (k : Nat))
  | .istore k => rm_is n 2 (rm_store1 rm_isI nL 2 k)
  | .astore_n k => rm_is n 1 (rm_store1 rm_isA nL 1 (k : Nat))
  | .astore k => rm_is n 2 (rm_store1 rm_isA nL 2 k)
  | .lstore_n k => rm_is n 1 (rm_store2 nL 1 (k : Nat))
  | .lstore k => rm_is n 2 (rm_store2 nL 2 k)
  | .iinc j k => rm_is n 3 (rm_iinc nL j k)
  | .iadd => rm_is n 1 (rm_ii (fun x y => x + y))
  | .isub => rm_is n 1 (rm_ii (fun x y => x - y))
  | .imul => rm_is n 1 (rm_ii (fun x y => x * y))
  | .iand => rm_is n 1 (rm_iis 0)
  | .ishr => rm_is n 1 (rm_iis 1)
  | .iushr => rm_is n 1 (rm_iis 2)
  | .irem => rm_is n 1 (rm_iiz (fun x y => x - x / y * y))
  | .lcmp => rm_is n 1 (rm_jji lg_cmp)
  | .lushr => rm_is n 1 (rm_jij (fun x y => (x.toUInt64 >>> (y.toInt64.toUInt64 &&& Int64.toUInt64 63)).toInt64))
  | .i2l => rm_is n 1 (rm_i1 (fun x => .long x.toInt64))
  | .i2c => rm_is n 1 (rm_i1s)
  | .i2b => rm_is n 1 (rm_i1 (fun x => .int x.toInt8.toInt32))
  | .l2i => rm_is n 1 (rm_j1 (fun x => .int x.toInt32))
  | .dup => rm_is n 1 (rm_dup)
  | .pop => rm_is n 1 (rm_pop)
  | .goto off => rm_is n 3 (rm_goto off)
  | .ifCond cd off => rm_is n 3 (rm_if1 xs cd off)
  | .if_icmp cd off => rm_is n 3 (rm_if2 xs cd off)
  | .getfield k => rm_is n 3 (rm_getfA (rm_lk ks k))
  | .putfield k => rm_is n 3 (rm_putf ini oc (rm_lk ks k))
  | .new k => rm_is n 3 (rm_new (rm_lk ks k))
  | .anewarray k => rm_is n 3 (rm_newq (rm_lk ks k))
  | .newarray .int => rm_is n 2 (rm_newa 0)
  | .newarray .long => rm_is n 2 (rm_newa 1)
  | .newarray .char => rm_is n 2 (rm_newa 2)
  | .newarray .byte => rm_is n 2 (rm_newa 3)
  | .newarray .boolean => rm_is n 2 (rm_newa 4)
  | .arraylength => rm_is n 1 (rm_alen L)
  | .iaload => rm_is n 1 (rm_iald L)
  | .aaload => rm_is n 1 (rm_aald)
  | .iastore => rm_is n 1 (rm_ist 0 rm_isI)
  | .castore => rm_is n 1 (rm_ist 2 rm_isI)
  | .lastore => rm_is n 1 (rm_ist 1 rm_isJ)
  | .aastore => rm_is n 1 (rm_aast)
  | .ldc k => rm_is n 2 (rm_ldcA (rm_lk ks k))
  | .getstatic k => rm_is n 3 (rm_gets (rm_lk ks k))
  | .baload => rm_is n 1 (rm_bald)
  | .ldc_w k => rm_is n 3 (rm_ldc 3 (rm_lk ks k))
  | .ldc2_w k => rm_is n 3 (rm_ldc2 (rm_lk ks k))
  | .tableswitch d lo hi offs => some (rm_table xs d lo hi offs.toList)
  | _ => none
section RMO
variable {p : Program} {l : Launch} {e : Env} {R : Room} {s : State} {m : MethodId} {args : Array Value} {below : List Frame} {meth : Method} {c : Code} {Q : State → Prop}
variable {nL sz : Nat} {ext : Nat → Nat} {cA : Nat → ClassId} {D : va_G} {own : String} {L : Nat} {xs : rm_F} {ks : List rm_K5}
abbrev rm_KA (p : Program) (l : Launch) (e : Env) (R : Room) (s : State) (m : MethodId) (args : Array Value) (below : List Frame) (meth : Method) (c : Code) (Q : State → Prop) (nL sz : Nat) (ext : Nat → Nat) (cA : Nat → ClassId) (D : va_G) (i : Instr) (n : Nat) (f : rm_N → Option rm_N) : Prop :=
  ∀ (q r : rm_N), decode c.code q.1 = .ok (i, n) → f q = some r → r.2.2.2.2.2.2.2 = true → r.2.2.2.2.1 ≤ R.cells → r.2.2.2.2.2.1 ≤ R.slots → rm_K p l e R s m args below meth c Q nL sz ext cA D r → rm_K p l e R s m args below meth c Q nL sz ext cA D q
theorem rm_KK.toA {i : Instr} {n k : Nat} {f g : rm_N → Option rm_N} (h : rm_KK p l e R s m args below meth c Q nL sz ext cA D i k f) (z : rm_is n k f = some g) : rm_KA p l e R s m args below meth c Q nL sz ext cA D i n g := by
  obtain ⟨rfl, rfl⟩ := rm_is_ok z
  exact fun q r h1 h2 h3 _ _ h4 => h q r h1 h2 h3 h4
theorem rm_KR.toA {i : Instr} {n k : Nat} {f g : rm_N → Option rm_N} (h : rm_KR p l e R s m args below meth c Q nL sz ext cA D i k f) (z : rm_is n k f = some g) : rm_KA p l e R s m args below meth c Q nL sz ext cA D i n g := by
  obtain ⟨rfl, rfl⟩ := rm_is_ok z
  exact fun q r h1 h2 _ h5 h6 h4 => h q r h1 h2 h5 h6 h4
theorem rm_s_table (hx : p.tables.exec = Jvm.exec) {F : rm_F} (hE : rm_E ext F) {d lo hi : Int} {offs : Array Int} {n : Nat} : rm_KA p l e R s m args below meth c Q nL sz ext cA D (.tableswitch d lo hi offs) n (rm_table F d lo hi offs.toList) := by
  intro q r hd hf ho _ _ K ls H locs hl hR hS
  unfold rm_table at hf
  split at hf
  · rename_i v st hst
    split at hf
    · rename_i x hx9
      have hv := rm_num_ok hE hx9 sz
      rw [hst]
      simp only [List.map_cons, hv]
      split at hf
      · rename_i hlo
        split at hf
        · rename_i g hg
          cases hf
          exact lv_tableOut hx rfl hd hlo (rm_tgt_ok hg) (K ls H locs hl hR hS)
        · cases hf
      · rename_i hlo
        split at hf
        · rename_i off hoff
          split at hf
          · rename_i g hg
            cases hf
            exact lv_tableIn hx rfl hd (fun z => hlo (Or.inl z)) (fun z => hlo (Or.inr z)) (by rw [← Array.getElem?_toList]; exact hoff) (rm_tgt_ok hg) (K ls H locs hl hR hS)
          · cases hf
        · cases hf
    · cases hf
  · cases hf
theorem rm_op_s (hx : p.tables.exec = Jvm.exec) (hts : ∀ w ∈ rm_tb, w.before args s = true) (hX : rm_X D cA sz ext L xs s) (hown : s.vm.findClass own = some m.cls) (hks : ∀ k ∈ ks, rm_okK own k) {ini : Bool} {oc : Nat} (hini : ini = true → meth.name = "<init>" ∧ ∃ q, vwCl[oc]? = some q ∧ q.1 = own) {i : Instr} {n : Nat} {g : rm_N → Option rm_N} (h : rm_op nL ini oc ks L xs i n = some g) : rm_KA p l e R s m args below meth c Q nL sz ext cA D i n g := by
  unfold rm_op at h
  split at h
  · exact rm_KK.toA (rm_s_iconst hx) h
  · exact rm_KK.toA (rm_s_bipush hx) h
  · exact rm_KK.toA (rm_s_sipush hx) h
  · exact rm_KK.toA (rm_s_lconst hx) h
  · exact rm_KK.toA (rm_s_iload_n hx) h
  · exact rm_KK.toA (rm_s_iload hx) h
  · exact rm_KK.toA (rm_s_lload_n hx) h
  · exact rm_KK.toA (rm_s_lload hx) h
  · exact rm_KK.toA (rm_s_aload_n hx) h
  · exact rm_KK.toA (rm_s_aload hx) h
  · exact rm_KK.toA (rm_s_istore_n hx) h
  · exact rm_KK.toA (rm_s_istore hx) h
  · exact rm_KK.toA (rm_s_astore_n hx) h
  · exact rm_KK.toA (rm_s_astore hx) h
  · exact rm_KK.toA (rm_s_lstore_n hx) h
  · exact rm_KK.toA (rm_s_lstore hx) h
  · exact rm_KK.toA (rm_s_iinc hx) h
  · exact rm_KK.toA (rm_s_iadd hx) h
  · exact rm_KK.toA (rm_s_isub hx) h
  · exact rm_KK.toA (rm_s_imul hx) h
  · exact rm_KK.toA (rm_s_iand hx hX.2.2.2.2.2) h
  · exact rm_KK.toA (rm_s_ishr hx hX.2.2.2.2.2) h
  · exact rm_KK.toA (rm_s_iushr hx hX.2.2.2.2.2) h
  · exact rm_KK.toA (rm_s_irem hx) h
  · exact rm_KK.toA (rm_s_lcmp hx) h
  · exact rm_KK.toA (rm_s_lushr hx) h
  · exact rm_KK.toA (rm_s_i2l hx) h
  · exact rm_KK.toA (rm_s_i2c hx hX.2.2.2.2.2) h
  · exact rm_KK.toA (rm_s_i2b hx) h
  · exact rm_KK.toA (rm_s_l2i hx) h
  · exact rm_KK.toA (rm_s_dup hx) h
  · exact rm_KK.toA (rm_s_pop hx) h
  · exact rm_KK.toA (rm_s_goto hx) h
  · exact rm_KK.toA (rm_s_if1 hx hX.2.2.2.2.2) h
  · exact rm_KK.toA (rm_s_if2 hx hX.2.2.2.2.2) h
  · exact rm_KR.toA (rm_s_getfA hx hts hX hown hks) h
  · exact rm_KR.toA (rm_s_putf hx hts hX hown hks hini) h
  · exact rm_KR.toA (rm_s_new hx hts hX hown hks) h
  · exact rm_KR.toA (rm_s_newq hx hts hX hown hks) h
  · exact rm_KR.toA (rm_newa_s (t := 0) (ty := .int) (d := .inl (fun _ => 0)) hx hts hX (by decide) ⟨_, rfl⟩ rfl rfl (fun _ z => by cases z) (by decide) (by decide +kernel) (fun _ _ => rfl)) h
  · exact rm_KR.toA (rm_newa_s (t := 1) (ty := .long) (d := .inr (.inl (fun _ => 0))) hx hts hX (by decide) ⟨_, rfl⟩ rfl rfl (fun _ z => by cases z) (by decide) (by decide +kernel) (fun _ _ => rfl)) h
  · exact rm_KR.toA (rm_newa_s (t := 2) (ty := .char) (d := .inl (fun _ => 0)) hx hts hX (by decide) ⟨_, rfl⟩ rfl rfl (fun _ z => by cases z) (by decide) (by decide +kernel) (fun _ _ => rfl)) h
  · exact rm_KR.toA (rm_newa_s (t := 3) (ty := .byte) (d := .inl (fun _ => 0)) hx hts hX (by decide) ⟨_, rfl⟩ rfl rfl (fun _ z => by cases z) (by decide) (by decide +kernel) (fun _ _ => rfl)) h
  · exact rm_KR.toA (rm_newa_s (t := 4) (ty := .boolean) (d := .inl (fun _ => 0)) hx hts hX (by decide) ⟨_, rfl⟩ rfl rfl (fun _ z => by cases z) (by decide) (by decide +kernel) (fun _ _ => rfl)) h
  · exact rm_KR.toA (rm_s_alen hx hX) h
  · exact rm_KR.toA (rm_s_iald hx hX) h
  · exact rm_KR.toA (rm_s_aald hx hX) h
  · exact rm_KR.toA (rm_s_iast hx hX) h
  · exact rm_KR.toA (rm_s_cast hx hX) h
  · exact rm_KR.toA (rm_s_last hx hX) h
  · exact rm_KR.toA (rm_s_aast hx hX) h
  · exact rm_KR.toA (rm_s_ldcA hx hts hX hown hks) h
  · exact rm_KR.toA (rm_s_gets hx hts hX hown hks) h
  · exact rm_KR.toA (rm_s_bald hx hX) h
  · exact rm_KR.toA (rm_s_ldcw hx hts hown hks) h
  · exact rm_KR.toA (rm_s_ldc2 hx hts hown hks) h
  · cases h; exact rm_s_table hx hX.2.2.2.2.2
  · cases h
end RMO
end
section
/-! CALLS, THE LOOP, METHODS -/
/-- a method: its instructions, its links, its locals, what it answers (0 nothing, 1 int, 2 boolean, 3 long, 4 a reference), whether it is a constructor, of which class -/
abbrev rm_M : Type := List (Nat × Instr × Nat) × List rm_K5 × Nat × Nat × Bool × Nat
abbrev rm_Re : Type := Option Value × rm_H × rm_T
abbrev rm_Y : Type := MethodName × ByteArray × Nat × Option FieldType
noncomputable def rm_find (cs : List (Nat × Instr × Nat)) (pc : Nat) : Option (Instr × Nat) := List.rec (motive := fun _ => Option (Instr × Nat)) none (fun q _ ih => cond (Nat.beq q.1 pc) (some q.2) ih) cs
theorem rm_find_mem {cs : List (Nat × Instr × Nat)} {pc : Nat} {k : Instr × Nat} (h : rm_find cs pc = some k) : (pc, k) ∈ cs := by
  induction cs with
  | nil => cases h
  | cons q r ih =>
    have h : cond (Nat.beq q.1 pc) (some q.2) (rm_find r pc) = some k := h
    cases hq : Nat.beq q.1 pc with
    | true =>
      rw [hq] at h
      have e : q.1 = pc := Nat.eq_of_beq_eq_true hq
      have h : some q.2 = some k := h
      cases h
      cases q
      cases e
      exact List.mem_cons_self
    | false =>
      rw [hq] at h
      exact List.mem_cons_of_mem _ (ih h)
def rm_ret (rt : Nat) (i : Instr) (n : Nat) (q : rm_N) : Option rm_Re := match i, q.2.2.1 with
  | .return_, [] => if n = 1 ∧ rt = 0 then some (none, q.2.2.2) else none
  | .ireturn, [.int v] => if n = 1 ∧ (rt = 1 ∨ (rt = 2 ∧ (v = 0 ∨ v = 1)) ∨ (rt = 5 ∧ v = 0)) then some (some (.int v), q.2.2.2) else none
  | .lreturn, [.long v] => if n = 1 ∧ rt = 3 then some (some (.long v), q.2.2.2) else none
  | .areturn, [.ref a] => if n = 1 ∧ rt = 4 then some (some (.ref a), q.2.2.2) else none
  | _, _ => none
def rm_ck : Instr → Option (Nat × Nat)
  | .invokestatic k => some (0, k)
  | .invokevirtual k => some (1, k)
  | .invokespecial k => some (2, k)
  | _ => none
def rm_cs (r : List Value) : Nat := (r.map fun v => v.category).sum
def rm_aft (q : rm_N) (rest : List Value) (res : rm_Re) : rm_N := (q.1 + 3, q.2.1, res.1.toList ++ rest, res.2.1, q.2.2.2.2.1 + res.2.2.1, q.2.2.2.2.2.1 + res.2.2.2.1, res.2.2.2.2)
def rm_invS (call : Nat → List Value → rm_H → List Nat → Option rm_Re) (mi na : Nat) (q : rm_N) : Option rm_N :=
  if na ≤ q.2.2.1.length ∧ rm_cs (q.2.2.1.drop na) ≤ 8 then match call mi (q.2.2.1.take na).reverse q.2.2.2.1 q.2.2.2.2.2.2.1 with
    | some res => some (rm_aft q (q.2.2.1.drop na) res)
    | none => none
  else none
def rm_isObj (h : rm_H) (oc a : Nat) : Bool := match rm_obj h a with
  | some o => decide (o.1 = oc)
  | none => false
def rm_invR (call : Nat → List Value → rm_H → List Nat → Option rm_Re) (chk : Nat → Bool) (mi na : Nat) (q : rm_N) : Option rm_N := match q.2.2.1.drop na with
  | .ref a :: rest => if rm_cs rest ≤ 8 ∧ chk a = true then match call mi (.ref a :: (q.2.2.1.take na).reverse) q.2.2.2.1 q.2.2.2.2.2.2.1 with
      | some res => some (rm_aft q rest res)
      | none => none
    else none
  | _ => none
/-- a method of the text -/
def rm_invF (call : Nat → List Value → rm_H → List Nat → Option rm_Re) (mi na : Nat) (q : rm_N) : Option rm_N := match q.2.2.1.drop na with
  | .retAddr 2 :: rest => if rm_cs rest ≤ 8 then match call mi (.retAddr 2 :: (q.2.2.1.take na).reverse) q.2.2.2.1 q.2.2.2.2.2.2.1 with
      | some res => some (rm_aft q rest res)
      | none => none
    else none
  | _ => none
def rm_nr : Value → Bool
  | .ref _ => false
  | _ => true
def rm_shv (k : Nat) : Value → Value
  | .ref j => .ref (k + j)
  | v => v
def rm_sh (k : Nat) : va_E → va_E
  | .inl a => .inl (a.1, rm_a k a.2)
  | .inr o => .inr (o.1, o.2.map (rm_shv k))
/-- a constructor on the newest cell: it runs in a heap of its own, and what it made is laid behind what was there -/
def rm_invI (call : Nat → List Value → rm_H → List Nat → Option rm_Re) (mi na : Nat) (q : rm_N) : Option rm_N := match q.2.2.1.drop na with
  | .ref a :: rest => match rm_obj q.2.2.2.1 a with
    | some o => if rm_cs rest ≤ 8 ∧ a + 1 = q.2.2.2.1.length ∧ (q.2.2.1.take na).all rm_nr = true ∧ o.2.all rm_nr = true then match call mi (.ref 0 :: (q.2.2.1.take na).reverse) [.inr o] q.2.2.2.2.2.2.1 with
        | some (none, h', t') => some (q.1 + 3, q.2.1, rest, q.2.2.2.1.take a ++ h'.map (rm_sh a), q.2.2.2.2.1 + t'.1, q.2.2.2.2.2.1 + t'.2.1, t'.2.2)
        | _ => none
      else none
    | none => none
  | _ => none
def rm_invO (q : rm_N) : Option rm_N := match q.2.2.1 with
  | .ref _ :: rest => if rm_cs rest ≤ 8 then some (q.1 + 3, q.2.1, rest, q.2.2.2) else none
  | _ => none
def rm_inv (call : Nat → List Value → rm_H → List Nat → Option rm_Re) (P : Nat → rm_M) (kd n : Nat) (k : Option (Nat × Nat × Nat × Nat)) (q : rm_N) : Option rm_N := match n, kd, k with
  | 3, 0, some (3, mi, na, 0) => rm_invS call mi na q
  | 3, 1, some (3, mi, na, 1) => rm_invR call (rm_isObj q.2.2.2.1 (P mi).2.2.2.2.2) mi na q
  | 3, 1, some (3, mi, na, 4) => rm_invF call mi na q
  | 3, 2, some (3, mi, na, 2) => rm_invI call mi na q
  | 3, 2, some (3, _, _, 3) => rm_invO q
  | _, _, _ => none
/-- with all symbolic branches as they should be, so far -/
def rm_t1 (q : rm_N) : rm_N := (q.1, q.2.1, q.2.2.1, q.2.2.2.1, q.2.2.2.2.1, q.2.2.2.2.2.1, q.2.2.2.2.2.2.1, true)
def rm_tk (b : Bool) (q : rm_N) : rm_N := (q.1, q.2.1, q.2.2.1, q.2.2.2.1, q.2.2.2.2.1, q.2.2.2.2.2.1, q.2.2.2.2.2.2.1, q.2.2.2.2.2.2.2 && b)
def rm_ge (q r : rm_N) : Bool := Nat.ble q.2.2.2.2.1 r.2.2.2.2.1 && Nat.ble q.2.2.2.2.2.1 r.2.2.2.2.2.1
def rm_one1 (call : Nat → List Value → rm_H → List Nat → Option rm_Re) (P : Nat → rm_M) (M : rm_M) (L : Nat) (xs : rm_F) (i : Instr) (n : Nat) (q : rm_N) : Option rm_N := match rm_ck i with
  | some kk => rm_inv call P kk.1 n (rm_lk M.2.1 kk.2) q
  | none => match rm_op M.2.2.1 M.2.2.2.2.1 M.2.2.2.2.2 M.2.1 L xs i n with
    | some g => g q
    | none => none
noncomputable def rm_fl {α β : Type} (l : List α) : (List α → β) → β := List.rec (motive := fun _ => (List α → β) → β) (fun k => k []) (fun x _ ih k => ih (fun ys => k (x :: ys))) l
def rm_fn {β : Type} (n : Nat) (k : Nat → β) : β := match n with
  | 0 => k 0
  | m + 1 => k (m + 1)
theorem rm_fl_eq {α β : Type} (l : List α) : ∀ k : List α → β, rm_fl l k = k l := by
  induction l with
  | nil => intro k; rfl
  | cons x l ih => intro k; exact ih (fun ys => k (x :: ys))
theorem rm_fn_eq {β : Type} (n : Nat) (k : Nat → β) : rm_fn n k = k n := by cases n <;> rfl
def rm_mod : Instr → Bool
  | .putfield _ | .new _ | .newarray _ | .anewarray _ | .iastore | .lastore | .castore | .aastore | .invokespecial _ => true
  | _ => false
noncomputable def rm_force {β : Type} (b : Bool) (r : rm_N) (k : rm_N → β) : β := match r with
  | (pc, lv, st, h, uc, us, orc, ok) => rm_fn pc (fun pc => rm_fl lv (fun lv => rm_fl st (fun st => rm_fn uc (fun uc => rm_fn us (fun us => rm_fl orc (fun orc => match b with
    | true => rm_fl h (fun h => k (pc, lv, st, h, uc, us, orc, ok))
    | false => k (pc, lv, st, h, uc, us, orc, ok)))))))
theorem rm_force_eq {β : Type} (b : Bool) (r : rm_N) (k : rm_N → β) : rm_force b r k = k r := by
  obtain ⟨pc, lv, st, h, uc, us, orc, ok⟩ := r
  unfold rm_force
  simp only [rm_fn_eq, rm_fl_eq]
  cases b <;> rfl
noncomputable def rm_body (call : Nat → List Value → rm_H → List Nat → Option rm_Re) (P : Nat → rm_M) (M : rm_M) (L : Nat) (xs : rm_F) (q : rm_N) (ih : rm_N → Option rm_Re) : Option rm_Re := match rm_find M.1 q.1 with
    | none => none
    | some ii => match rm_ret M.2.2.2.1 ii.1 ii.2 q with
      | some res => some res
      | none => match rm_one1 call P M L xs ii.1 ii.2 (rm_t1 q) with
        | some r => cond (rm_ge q r) (rm_force (rm_mod ii.1) (rm_tk q.2.2.2.2.2.2.2 r) ih) none
        | none => none
noncomputable def rm_loop (call : Nat → List Value → rm_H → List Nat → Option rm_Re) (P : Nat → rm_M) (M : rm_M) (L : Nat) (xs : rm_F) (f : Nat) : rm_N → Option rm_Re := Nat.rec (motive := fun _ => rm_N → Option rm_Re) (fun _ => none) (fun _ ih q => rm_body call P M L xs q ih) f
noncomputable def rm_meth (P : Nat → rm_M) (L : Nat) (xs : rm_F) (d : Nat) : Nat → List Value → rm_H → List Nat → Option rm_Re := Nat.rec (motive := fun _ => Nat → List Value → rm_H → List Nat → Option rm_Re) (fun _ _ _ _ => none) (fun _ ih mi av h orc => if (lg_sl av).length ≤ (P mi).2.2.1 then rm_loop ih P (P mi) L xs 3000 (0, lv_args 0 av, [], h, 0, 0, orc, true) else none) d
-- what must hold of the tables
def rm_okN (mt : Nat → rm_Y) (nM mi na : Nat) : Prop := mi < nM ∧ Cond.code (mt mi).1 (mt mi).2.1 (mt mi).2.2.1 (mt mi).2.2.2 ∈ rm_tb ∧ Cond.initialized (mt mi).1.cls ∈ rm_tb ∧ ((mt mi).1.cls ≠ "java/lang/invoke/MethodHandle" ∧ (mt mi).1.cls ≠ "java/lang/invoke/VarHandle" ∧ (parseMethodDescriptor (mt mi).1.desc).map (fun d => d.parameters.length) = some na) ∧ (mt mi).2.2.1 ≤ 45
def rm_okM (mt : Nat → rm_Y) (P : Nat → rm_M) (nM : Nat) (own : String) (k : rm_K5) : Prop := match k with
  | (i, 3, mi, na, 0) => Cond.methodLink own i (mt mi).1 ∈ rm_tb ∧ Cond.static (mt mi).1 ∈ rm_tb ∧ rm_okN mt nM mi na
  | (i, 3, mi, na, 1) => Cond.methodLink own i (mt mi).1 ∈ rm_tb ∧ Cond.instanceMethod (mt mi).1 ∈ rm_tb ∧ Cond.selects (mt mi).1.cls (mt mi).1 (mt mi).1 ∈ rm_tb ∧ (∃ q, vwCl[(P mi).2.2.2.2.2]? = some q ∧ q.1 = (mt mi).1.cls) ∧ rm_okN mt nM mi na
  | (i, 3, mi, na, 2) => Cond.methodLink own i (mt mi).1 ∈ rm_tb ∧ Cond.instanceMethod (mt mi).1 ∈ rm_tb ∧ (mt mi).1.name = "<init>" ∧ (mt mi).2.2.2 = none ∧ rm_okN mt nM mi na
  | (i, 3, mi, na, 4) => Cond.methodLink own i (mt mi).1 ∈ rm_tb ∧ Cond.instanceMethod (mt mi).1 ∈ rm_tb ∧ Cond.selects (mt mi).1.cls (mt mi).1 (mt mi).1 ∈ rm_tb ∧ (mt mi).1.cls = "java/lang/String" ∧ rm_okN mt nM mi na
  | (i, 3, _, _, _) => Cond.methodLink own i objectInit ∈ rm_tb ∧ Cond.instanceMethod objectInit ∈ rm_tb ∧ Cond.code objectInit ⟨#[0xb1]⟩ 1 none ∈ rm_tb
  | _ => True
def rm_rm (d mc ms : Nat) : Room := { frames := d + 1, cells := mc, slots := ms, locals := 64 * (d + 1) }
def rm_Pc (D : va_G) (cA : Nat → ClassId) (sz : Nat) (ext : Nat → Nat) (L : Nat) (xs : rm_F) (av : List Value) (h : rm_H) : Array Value → State → Prop := va_Pc (av.map (rm_v sz ext)) (fun U => rm_R D sz ext cA h U.heap ∧ rm_X D cA sz ext L xs U)
def rm_Qc (D : va_G) (cA : Nat → ClassId) (sz : Nat) (ext : Nat → Nat) (res : rm_Re) : Array Value → State → Outcome → State → Prop := fun _ st oc t => oc = .returned (res.1.map (rm_v sz ext)) ∧ rm_R D sz ext cA res.2.1 t.heap ∧ ∀ q : Nat, q < sz → t.heap[q]? = st.heap[q]?
def rm_Mt (l : Launch) (D : va_G) (cA : Nat → ClassId) (sz : Nat) (ext : Nat → Nat) (L : Nat) (xs : rm_F) (mt : Nat → rm_Y) (d mi : Nat) (av : List Value) (h : rm_H) (res : rm_Re) : Prop :=
  Met l (mt mi).1 (Cond.code (mt mi).1 (mt mi).2.1 (mt mi).2.2.1 (mt mi).2.2.2 :: rm_tb) (rm_rm d res.2.2.1 res.2.2.2.1) (rm_Pc D cA sz ext L xs av h) (rm_Qc D cA sz ext res) res.2.2.1 res.2.2.2.1 (fun a => sz ≤ a)
theorem rm_X.same {D : va_G} {cA : Nat → ClassId} {sz : Nat} {ext : Nat → Nat} {L : Nat} {xs : rm_F} {u U : State} (hX : rm_X D cA sz ext L xs u) (e1 : u.vm = U.vm) (e2 : U.heap = u.heap) : rm_X D cA sz ext L xs U := by
  obtain ⟨h1, h2, h3, h4, ⟨h5, k1, k2, k3⟩, h7⟩ := hX
  have hal : u.vm.Alike U.vm := by rw [e1]; exact Vm.Alike.refl _
  exact ⟨h1.moved hal, fun t C h => (h2 t C h).moved hal, fun w hw => rm_nest_same hw e1 (h3 w hw), fun hL => by obtain ⟨ys, g4, g6⟩ := h4 hL; exact ⟨ys, (g4.moved hal).kept (by rw [e2]), g6⟩, ⟨h5, k1.same e1.symm, (k2.moved hal).kept (fun a _ _ => by rw [e2]), (k3.moved hal).kept (fun a _ _ => by rw [e2])⟩, h7⟩
theorem rm_X.go {D : va_G} {cA : Nat → ClassId} {sz : Nat} {ext : Nat → Nat} {L : Nat} {xs : rm_F} {s U : State} (hX : rm_X D cA sz ext L xs s) (hW : s.WarmedH U.vm) (e2 : ∀ q : Nat, q < sz → U.heap[q]? = s.heap[q]?) : rm_X D cA sz ext L xs U := by
  obtain ⟨h1, h2, h3, h4, ⟨h5, k1, k2, k3⟩, h7⟩ := hX
  exact ⟨h1.moved hW.alike, fun t C h => (h2 t C h).moved hW.alike, fun w hw => rm_nest_warm hw hW (h3 w hw), fun hL => by obtain ⟨ys, g4, g6⟩ := h4 hL; exact ⟨ys, (g4.moved hW.alike).kept (e2 _ h5), g6⟩, ⟨h5, k1.warm hW, (k2.moved hW.alike).kept (fun a _ h => e2 a (Nat.lt_of_not_le h)), (k3.moved hW.alike).kept (fun a _ h => e2 a (Nat.lt_of_not_le h))⟩, h7⟩
theorem rm_blind {D : va_G} {cA : Nat → ClassId} {sz : Nat} {ext : Nat → Nat} {L : Nat} {xs : rm_F} {av : List Value} {h : rm_H} : FrameBlind (rm_Pc D cA sz ext L xs av h) := fun a U g mk q => ⟨q.1, q.2.1, rm_X.same (U := U.calling g mk a) q.2.2 rfl rfl⟩
theorem rm_good {mt : Nat → rm_Y} {mi : Nat} (h : Cond.code (mt mi).1 (mt mi).2.1 (mt mi).2.2.1 (mt mi).2.2.2 ∈ rm_tb) : GoodIn rm_tb (Cond.code (mt mi).1 (mt mi).2.1 (mt mi).2.2.1 (mt mi).2.2.2 :: rm_tb) := by
  intro w hw
  have hw : w ∈ rm_tb := by
    rcases List.mem_cons.mp hw with rfl | hw
    · exact h
    · exact hw
  exact ⟨hw, good_of_word (rm_tb_good w hw)⟩
theorem rm_cs_map (sz : Nat) (ext : Nat → Nat) (r : List Value) : ((r.map (rm_v sz ext)).map fun v => v.category).sum = rm_cs r := by
  unfold rm_cs
  rw [List.map_map]
  congr 2
  funext v
  exact rm_v_cat sz ext v
section RMC
variable {p : Program} {l : Launch} {e : Env} {R : Room} {s : State} {m : MethodId} {args : Array Value} {below : List Frame} {meth : Method} {c : Code} {Q : State → Prop}
variable {nL sz : Nat} {ext : Nat → Nat} {cA : Nat → ClassId} {D : va_G} {own : String} {L : Nat} {xs : rm_F} {ks : List rm_K5} {mt : Nat → rm_Y} {P : Nat → rm_M} {nM d : Nat}
theorem rm_call {H : Heap} {locs : List Loc} {cells slots mc ms pc : Nat} {ls : Array Slot} {st0 rest : List Value} {a : Array Value} {res : rm_Re} (hr : va_Run p l e R s m args below meth c H locs cells slots mc ms (F0 m pc ls st0) rest (rm_Qc D cA sz ext res a) (fun a => sz ≤ a)) (hS : rm_S sz s.heap H locs)
    (kk : ∀ (H1 : Heap) (locs1 : List Loc), rm_R D sz ext cA res.2.1 H1 → rm_S sz s.heap H1 locs1 → W p l e R s m args below meth c H1 locs1 (cells + mc) (slots + ms) Q (F0 m (pc + 3) ls ((res.1.map (rm_v sz ext)).toList ++ rest))) : W p l e R s m args below meth c H locs cells slots Q (F0 m pc ls st0) := by
  intro T hT X
  obtain ⟨v, st₀, t, T', L9, h0, X', hL, e1, e2, ⟨hv, hR1, hk⟩, st⟩ := hr T hT X
  cases hv
  obtain ⟨t2, a1, b1⟩ := kk T'.heap (locs ++ L9) (by rw [e1]; exact hR1) ⟨fun q hq => by rw [e1, hk q hq, h0]; exact hS.1 q hq, fun q hq => by
    rcases List.mem_append.mp hq with h | h
    · exact hS.2 q h
    · exact hL q h⟩ T' rfl X'
  exact ⟨t2, st t2 a1, b1⟩
theorem rm_toList (sz : Nat) (ext : Nat → Nat) (v : Option Value) (r : List Value) : (v.toList ++ r).map (rm_v sz ext) = (v.map (rm_v sz ext)).toList ++ r.map (rm_v sz ext) := by
  rw [List.map_append]
  cases v <;> rfl
theorem rm_invS_s (hx : p.tables.exec = Jvm.exec) (hml : c.maxLocals = nL) (hts : ∀ w ∈ rm_tb, w.before args s = true) (hX : rm_X D cA sz ext L xs s) (hown : s.vm.findClass own = some m.cls) (hfr : d + 2 ≤ R.frames) (hlo : 64 * (d + 2) ≤ R.locals) {call : Nat → List Value → rm_H → List Nat → Option rm_Re}
    (Hcall : ∀ (z mi : Nat) (av : List Value) (h : rm_H) (orc : List Nat) (res : rm_Re), call mi av h orc = some res → res.2.2.2.2.2 = true → mi < nM → rm_Mt l D cA z ext L xs mt d mi av h res) {i mi na : Nat} (hok : rm_okM mt P nM own (i, 3, mi, na, 0)) : rm_KA p l e R s m args below meth c Q nL sz ext cA D (.invokestatic i) 3 (rm_invS call mi na) := by
  intro q r hd hf ho hc1 hc2 K ls H locs hl hR hS
  unfold rm_invS at hf
  split at hf
  · rename_i hn
    split at hf
    · rename_i res hres
      cases hf
      obtain ⟨k1, k2, n1, n2, n3, n4, n5⟩ := hok
      have hM := Hcall sz _ _ _ _ _ hres ho n1
      have est : q.2.2.1.map (rm_v sz ext) = (((q.2.2.1.take na).reverse).map (rm_v sz ext)).reverse ++ (q.2.2.1.drop na).map (rm_v sz ext) := by
        rw [List.map_reverse, List.reverse_reverse, ← List.map_append, List.take_append_drop]
      refine rm_call (va_runS (As := ((q.2.2.1.take na).reverse).map (rm_v sz ext)) (rest := (q.2.2.1.drop na).map (rm_v sz ext)) (n := na) (Ts := rm_tb) ⟨hx, rfl, hml, hown, hts⟩ hM (va_cwS na hts (fun w hw => ?_) rfl rfl rfl n4 ⟨by show d + 1 + 1 ≤ _; omega, by show 8 + (_ + 11) + 64 * (d + 1) ≤ _; omega⟩) ⟨rm_blind, fun U hU hW => ⟨rfl, by rw [hU]; exact hR, hX.go hW (fun z hz => by rw [hU]; exact hS.1 z hz)⟩⟩ rfl ?_ hl.1 est (lv_room ?_) hd ⟨hc1, hc2⟩) hS ?_
      · unfold va_wsS at hw
        rcases List.mem_append.mp hw with hw | hw
        · simp only [List.mem_cons, List.not_mem_nil, or_false] at hw
          rcases hw with rfl | rfl | rfl
          · exact ⟨k1, good_of_word (rm_tb_good _ k1)⟩
          · exact ⟨k2, good_of_word (rm_tb_good _ k2)⟩
          · exact ⟨n3, good_of_word (rm_tb_good _ n3)⟩
        · exact rm_good n2 w hw
      · rw [List.length_map, List.length_reverse, List.length_take]; omega
      · rw [rm_cs_map]; exact hn.2
      · intro H1 locs1 h1 h2
        have hk := K ls H1 locs1 hl h1 h2
        unfold rm_aft at hk
        dsimp only at hk
        rw [rm_toList] at hk
        exact hk
    · cases hf
  · cases hf
theorem rm_invV_s (hx : p.tables.exec = Jvm.exec) (hml : c.maxLocals = nL) (hts : ∀ w ∈ rm_tb, w.before args s = true) (hX : rm_X D cA sz ext L xs s) (hown : s.vm.findClass own = some m.cls) (hfr : d + 2 ≤ R.frames) (hlo : 64 * (d + 2) ≤ R.locals) {call : Nat → List Value → rm_H → List Nat → Option rm_Re}
    (Hcall : ∀ (z mi : Nat) (av : List Value) (h : rm_H) (orc : List Nat) (res : rm_Re), call mi av h orc = some res → res.2.2.2.2.2 = true → mi < nM → rm_Mt l D cA z ext L xs mt d mi av h res) {i mi na : Nat} (hok : rm_okM mt P nM own (i, 3, mi, na, 1)) : rm_KA p l e R s m args below meth c Q nL sz ext cA D (.invokevirtual i) 3 (fun q => rm_invR call (rm_isObj q.2.2.2.1 (P mi).2.2.2.2.2) mi na q) := by
  intro q r hd hf ho hc1 hc2 K ls H locs hl hR hS
  unfold rm_invR at hf
  dsimp only at hf
  split at hf
  · rename_i a rest hst
    split at hf
    · rename_i hn
      split at hf
      · rename_i res hres
        cases hf
        obtain ⟨k1, k2, k3, ⟨vq, k4, k5⟩, n1, n2, n3, n4, n5⟩ := hok
        have hM := Hcall sz _ _ _ _ _ hres ho n1
        have hlen : (q.2.2.1.take na).length = na := by
          have : (q.2.2.1.drop na).length ≠ 0 := by rw [hst]; simp
          rw [List.length_drop] at this
          rw [List.length_take]; omega
        have est : q.2.2.1.map (rm_v sz ext) = (((q.2.2.1.take na).reverse).map (rm_v sz ext)).reverse ++ .ref (sz + a) :: rest.map (rm_v sz ext) := by
          have e0 : q.2.2.1 = q.2.2.1.take na ++ .ref a :: rest := by rw [← hst, List.take_append_drop]
          rw [List.map_reverse, List.reverse_reverse]
          conv => lhs; rw [e0]
          rw [List.map_append]; rfl
        have hobj : ∃ o, rm_obj q.2.2.2.1 a = some o ∧ o.1 = (P mi).2.2.2.2.2 := by
          have z := hn.2
          unfold rm_isObj at z
          split at z
          · rename_i o ho9; exact ⟨o, ho9, by simpa using z⟩
          · cases z
        obtain ⟨o, ho1, ho2⟩ := hobj
        obtain ⟨ci, fs⟩ := o
        have ho2 : ci = (P mi).2.2.2.2.2 := ho2
        subst ho2
        refine rm_call (va_runV (As := ((q.2.2.1.take na).reverse).map (rm_v sz ext)) (rest := rest.map (rm_v sz ext)) (n := na) (Ts := rm_tb) (C := (mt mi).1.cls) (b := sz + a) ⟨hx, rfl, hml, hown, hts⟩ hM (cwV na hts (fun w hw => ?_) rfl rfl rfl ⟨rfl, n4⟩ ⟨by show d + 1 + 1 ≤ _; omega, by show 8 + (_ + 11) + 64 * (d + 1) ≤ _; omega⟩) ⟨rm_blind, ?_, fun U hU hW => ⟨rfl, by rw [hU]; exact hR, hX.go hW (fun z hz => by rw [hU]; exact hS.1 z hz)⟩⟩ rfl ?_ hl.1 est (lv_room ?_) hd ⟨hc1, hc2⟩) hS ?_
        · unfold wsV at hw
          rcases List.mem_append.mp hw with hw | hw
          · simp only [List.mem_cons, List.not_mem_nil, or_false] at hw
            rcases hw with rfl | rfl | rfl | rfl
            · exact ⟨k1, good_of_word (rm_tb_good _ k1)⟩
            · exact ⟨k2, good_of_word (rm_tb_good _ k2)⟩
            · exact ⟨k3, good_of_word (rm_tb_good _ k3)⟩
            · exact ⟨n3, good_of_word (rm_tb_good _ n3)⟩
          · exact rm_good n2 w hw
        · rw [← k5]
          exact va_recv hX.1 (rm_oneO hR (rm_obj_ok ho1)) (q0 := 0) k4 rfl
        · rw [List.length_map, List.length_reverse]; exact hlen
        · rw [rm_cs_map]; exact hn.1
        · intro H1 locs1 h1 h2
          have hk := K ls H1 locs1 hl h1 h2
          unfold rm_aft at hk
          dsimp only at hk
          rw [rm_toList] at hk
          exact hk
      · cases hf
    · cases hf
  · cases hf
theorem rm_invF_s (hx : p.tables.exec = Jvm.exec) (hml : c.maxLocals = nL) (hts : ∀ w ∈ rm_tb, w.before args s = true) (hX : rm_X D cA sz ext L xs s) (hown : s.vm.findClass own = some m.cls) (hfr : d + 2 ≤ R.frames) (hlo : 64 * (d + 2) ≤ R.locals) {call : Nat → List Value → rm_H → List Nat → Option rm_Re}
    (Hcall : ∀ (z mi : Nat) (av : List Value) (h : rm_H) (orc : List Nat) (res : rm_Re), call mi av h orc = some res → res.2.2.2.2.2 = true → mi < nM → rm_Mt l D cA z ext L xs mt d mi av h res) {i mi na : Nat} (hok : rm_okM mt P nM own (i, 3, mi, na, 4)) : rm_KA p l e R s m args below meth c Q nL sz ext cA D (.invokevirtual i) 3 (rm_invF call mi na) := by
  intro q r hd hf ho hc1 hc2 K ls H locs hl hR hS
  unfold rm_invF at hf
  split at hf
  · rename_i rest hst
    split at hf
    · rename_i hn
      split at hf
      · rename_i res hres
        cases hf
        obtain ⟨k1, k2, k3, k5, n1, n2, n3, n4, n5⟩ := hok
        have hM := Hcall sz _ _ _ _ _ hres ho n1
        have hlen : (q.2.2.1.take na).length = na := by
          have : (q.2.2.1.drop na).length ≠ 0 := by rw [hst]; simp
          rw [List.length_drop] at this
          rw [List.length_take]; omega
        have est : q.2.2.1.map (rm_v sz ext) = (((q.2.2.1.take na).reverse).map (rm_v sz ext)).reverse ++ .ref (ext 2) :: rest.map (rm_v sz ext) := by
          have e0 : q.2.2.1 = q.2.2.1.take na ++ .retAddr 2 :: rest := by rw [← hst, List.take_append_drop]
          rw [List.map_reverse, List.reverse_reverse]
          conv => lhs; rw [e0]
          rw [List.map_append]; rfl
        refine rm_call (va_runV (As := ((q.2.2.1.take na).reverse).map (rm_v sz ext)) (rest := rest.map (rm_v sz ext)) (n := na) (Ts := rm_tb) (C := (mt mi).1.cls) (b := ext 2) ⟨hx, rfl, hml, hown, hts⟩ hM (cwV na hts (fun w hw => ?_) rfl rfl rfl ⟨rfl, n4⟩ ⟨by show d + 1 + 1 ≤ _; omega, by show 8 + (_ + 11) + 64 * (d + 1) ≤ _; omega⟩) ⟨rm_blind, ?_, fun U hU hW => ⟨rfl, by rw [hU]; exact hR, hX.go hW (fun z hz => by rw [hU]; exact hS.1 z hz)⟩⟩ rfl ?_ hl.1 est (lv_room ?_) hd ⟨hc1, hc2⟩) hS ?_
        · unfold wsV at hw
          rcases List.mem_append.mp hw with hw | hw
          · simp only [List.mem_cons, List.not_mem_nil, or_false] at hw
            rcases hw with rfl | rfl | rfl | rfl
            · exact ⟨k1, good_of_word (rm_tb_good _ k1)⟩
            · exact ⟨k2, good_of_word (rm_tb_good _ k2)⟩
            · exact ⟨k3, good_of_word (rm_tb_good _ k3)⟩
            · exact ⟨n3, good_of_word (rm_tb_good _ n3)⟩
          · exact rm_good n2 w hw
        · rw [k5]
          obtain ⟨hv, -⟩ := hX.2.2.2.2.1.2.2.1.1 0 (by decide)
          obtain ⟨cell, g1, g2, g3, -⟩ := hv.kept (rm_hq hS)
          exact ⟨cell, g1, g2, g3⟩
        · rw [List.length_map, List.length_reverse]; exact hlen
        · rw [rm_cs_map]; exact hn
        · intro H1 locs1 h1 h2
          have hk := K ls H1 locs1 hl h1 h2
          unfold rm_aft at hk
          dsimp only at hk
          rw [rm_toList] at hk
          exact hk
      · cases hf
    · cases hf
  · cases hf
theorem rm_nr_v {v : Value} (h : rm_nr v = true) (z : Nat) : rm_v (sz + z) ext v = rm_v sz ext v := by cases v <;> first | rfl | cases h
theorem rm_nr_map {vs : List Value} (h : vs.all rm_nr = true) (z : Nat) : vs.map (rm_v (sz + z) ext) = vs.map (rm_v sz ext) :=
  List.map_congr_left (fun v hv => rm_nr_v (List.all_eq_true.mp h v hv) z)
theorem rm_sh_c (z : Nat) (x : va_E) : rm_c sz ext cA (rm_sh z x) = rm_c (sz + z) ext cA x := by
  cases x with
  | inl a =>
    obtain ⟨t, n, d⟩ := a
    obtain d | d | d | d | d := d
    · rfl
    · rfl
    · rfl
    · rfl
    · show Sum.inl (cA t, n, _) = Sum.inl (cA t, n, _)
      congr 7
      funext j
      show ((d j).map (fun k => z + k)).map (fun k => sz + k) = (d j).map (fun k => sz + z + k)
      cases d j with
      | none => rfl
      | some k => exact congrArg some (Nat.add_assoc sz z k).symm
  | inr o =>
    obtain ⟨ci, fs⟩ := o
    show Sum.inr (ci, (fs.map (rm_shv z)).map (rm_v sz ext)) = Sum.inr (ci, fs.map (rm_v (sz + z) ext))
    rw [List.map_map]
    congr 3
    funext v
    cases v <;> first | rfl | exact congrArg Value.ref (Nat.add_assoc sz z _).symm
theorem rm_sh_at {H : Heap} (z k : Nat) (x : va_E) (h : rm_at1 D (sz + z) ext cA k x H) : rm_at1 D sz ext cA (z + k) (rm_sh z x) H := by
  have ea : sz + z + k = sz + (z + k) := Nat.add_assoc sz z k
  cases x with
  | inl a =>
    obtain ⟨t, n, d⟩ := a
    obtain d | d | d | d | d := d
    · have h : va_at D vwCl (sz + z + k, rm_c (sz + z) ext cA (.inl (t, n, .inl d))) H := h
      rw [ea, ← rm_sh_c] at h
      exact h
    · have h : va_at D vwCl (sz + z + k, rm_c (sz + z) ext cA (.inl (t, n, .inr (.inl d)))) H := h
      rw [ea, ← rm_sh_c] at h
      exact h
    · have h : rm_hv D cA (sz + z + k) t n H := h
      rw [ea] at h
      exact h
    · have h : va_at D vwCl (sz + z + k, rm_c (sz + z) ext cA (.inl (t, n, .inr (.inr (.inr (.inl d)))))) H := h
      rw [ea, ← rm_sh_c] at h
      exact h
    · have h : va_at D vwCl (sz + z + k, rm_c (sz + z) ext cA (.inl (t, n, .inr (.inr (.inr (.inr d)))))) H := h
      rw [ea, ← rm_sh_c] at h
      exact h
  | inr o =>
    have h : va_at D vwCl (sz + z + k, rm_c (sz + z) ext cA (.inr o)) H := h
    rw [ea, ← rm_sh_c] at h
    exact h
theorem rm_invI_s (hx : p.tables.exec = Jvm.exec) (hml : c.maxLocals = nL) (hts : ∀ w ∈ rm_tb, w.before args s = true) (hX : rm_X D cA sz ext L xs s) (hown : s.vm.findClass own = some m.cls) (hfr : d + 2 ≤ R.frames) (hlo : 64 * (d + 2) ≤ R.locals) {call : Nat → List Value → rm_H → List Nat → Option rm_Re}
    (Hcall : ∀ (z mi : Nat) (av : List Value) (h : rm_H) (orc : List Nat) (res : rm_Re), call mi av h orc = some res → res.2.2.2.2.2 = true → mi < nM → rm_Mt l D cA z ext L xs mt d mi av h res) {i mi na : Nat} (hok : rm_okM mt P nM own (i, 3, mi, na, 2)) : rm_KA p l e R s m args below meth c Q nL sz ext cA D (.invokespecial i) 3 (rm_invI call mi na) := by
  intro q r hd hf ho hc1 hc2 K ls H locs hl hR hS
  unfold rm_invI at hf
  split at hf
  · rename_i a rest hst
    split at hf
    · rename_i o hobj
      split at hf
      · rename_i hn
        split at hf
        · rename_i h' t' hres
          cases hf
          obtain ⟨k1, k2, k3, k4, n1, n2, n3, n4, n5⟩ := hok
          have hM := Hcall (sz + a) _ _ _ _ _ hres ho n1
          have hlen : (q.2.2.1.take na).length = na := by
            have : (q.2.2.1.drop na).length ≠ 0 := by rw [hst]; simp
            rw [List.length_drop] at this
            rw [List.length_take]; omega
          have hnr : ((q.2.2.1.take na).reverse).all rm_nr = true := by rw [List.all_reverse]; exact hn.2.2.1
          have est : q.2.2.1.map (rm_v sz ext) = (((q.2.2.1.take na).reverse).map (rm_v (sz + a) ext)).reverse ++ .ref (sz + a) :: rest.map (rm_v sz ext) := by
            have e0 : q.2.2.1 = q.2.2.1.take na ++ .ref a :: rest := by rw [← hst, List.take_append_drop]
            rw [rm_nr_map hnr, List.map_reverse, List.reverse_reverse]
            conv => lhs; rw [e0]
            rw [List.map_append]; rfl
          have h0 := rm_obj_ok hobj
          have hn1 : a + 1 = List.length q.2.2.2.1 := hn.2.1
          have hR1 : rm_R D (sz + a) ext cA [.inr o] H := by
            refine ⟨by rw [hR.1, ← hn1]; show sz + _ = sz + a + 1; omega, fun k x hk => ?_⟩
            cases k with
            | succ k => simp at hk
            | zero =>
              cases hk
              have z : va_at D vwCl (sz + a, .inr (o.1, o.2.map (rm_v sz ext))) H := hR.2 _ _ h0
              show va_at D vwCl (sz + a, .inr (o.1, o.2.map (rm_v (sz + a) ext))) H
              rw [rm_nr_map hn.2.2.2]
              exact z
          have hX1 : ∀ U : State, U.heap = H → s.WarmedH U.vm → rm_X D cA (sz + a) ext L xs U := fun U hU hW => by
            have z := hX.go hW (fun z hz => by rw [hU]; exact hS.1 z hz)
            exact ⟨z.1, z.2.1, z.2.2.1, z.2.2.2.1, ⟨Nat.lt_of_lt_of_le z.2.2.2.2.1.1 (Nat.le_add_right sz a), z.2.2.2.2.1.2.1, z.2.2.2.2.1.2.2.1.narrow (fun q hq => Nat.le_trans (Nat.le_add_right sz a) hq), z.2.2.2.2.1.2.2.2.narrow (fun q hq => Nat.le_trans (Nat.le_add_right sz a) hq)⟩, z.2.2.2.2.2⟩
          unfold rm_Mt at hM
          have hg := rm_good n2
          rw [k4] at hM hg
          have hrun := va_runI (p := p) (l := l) (e := e) (R := R) (s := s) (m := m) (args := args) (below := below) (meth := meth) (c := c) (H := H) (locs := locs) (cells := q.2.2.2.2.1) (slots := q.2.2.2.2.2.1) (g := F0 m q.1 ls (q.2.2.1.map (rm_v sz ext))) (As := ((q.2.2.1.take na).reverse).map (rm_v (sz + a) ext)) (rest := rest.map (rm_v sz ext)) (n := na) (Ts := rm_tb) (b := sz + a) ⟨hx, rfl, hml, hown, hts⟩ hM (cwI na hts hg rfl rfl rfl (hts _ n3) (hts _ k1) (hts _ k2) k3 n4 ⟨by show d + 1 + 1 ≤ _; omega, by show 8 + (_ + 11) + 64 * (d + 1) ≤ _; omega⟩) ⟨rm_blind, fun U hU hW => ⟨rfl, by rw [hU]; exact hR1, hX1 U hU hW⟩⟩ rfl (by rw [List.length_map, List.length_reverse]; exact hlen) hl.1 est (lv_room (by rw [rm_cs_map]; exact hn.1)) hd ⟨hc1, hc2⟩
          intro T hT X
          obtain ⟨v, st₀, t, T', L9, g0, X', hL, e1, e2, ⟨hv, hR2, hk⟩, st⟩ := hrun T hT X
          cases hv
          have hRn : rm_R D sz ext cA (q.2.2.2.1.take a ++ h'.map (rm_sh a)) T'.heap := by
            have hla : (q.2.2.2.1.take a).length = a := by rw [List.length_take, ← hn1]; omega
            refine ⟨by rw [e1, hR2.1, List.length_append, List.length_map, hla]; show sz + a + h'.length = _; omega, fun k x hkx => ?_⟩
            by_cases hka : k < a
            · rw [List.getElem?_append_left (by omega), List.getElem?_take_of_lt hka] at hkx
              refine (hR.2 k x hkx).kept ?_
              show T'.heap[sz + k]? = H[sz + k]?
              rw [e1, hk (sz + k) (by omega), g0]
            · rw [List.getElem?_append_right (by omega), hla, List.getElem?_map] at hkx
              cases hy : h'[k - a]? with
              | none => rw [hy] at hkx; cases hkx
              | some y =>
                rw [hy] at hkx
                cases hkx
                have z := rm_sh_at a (k - a) y (hR2.2 (k - a) y hy)
                have ez : a + (k - a) = k := Nat.add_sub_cancel' (Nat.le_of_not_lt hka)
                rw [ez] at z
                rw [e1]
                exact z
          obtain ⟨t2, a1, b1⟩ := K ls T'.heap (locs ++ L9) hl hRn ⟨fun z hz => by rw [e1, hk z (by omega), g0]; exact hS.1 z hz, fun z hz => by
            rcases List.mem_append.mp hz with h9 | h9
            · exact hS.2 z h9
            · exact Nat.le_trans (Nat.le_add_right sz a) (hL z h9)⟩ T' rfl X'
          exact ⟨t2, st t2 a1, b1⟩
        · cases hf
      · cases hf
    · cases hf
  · cases hf
theorem rm_invO_s (hx : p.tables.exec = Jvm.exec) (hml : c.maxLocals = nL) (hts : ∀ w ∈ rm_tb, w.before args s = true) (hown : s.vm.findClass own = some m.cls) (hfr : d + 2 ≤ R.frames) (hlo : 64 * (d + 2) ≤ R.locals) {i mi na : Nat} (hok : rm_okM mt P nM own (i, 3, mi, na, 3)) : rm_KA p l e R s m args below meth c Q nL sz ext cA D (.invokespecial i) 3 rm_invO := by
  intro q r hd hf ho hc1 hc2 K ls H locs hl hR hS
  unfold rm_invO at hf
  split at hf
  · rename_i a rest hst
    split at hf
    · rename_i hn
      cases hf
      obtain ⟨k1, k2, k3⟩ := hok
      have hk := K ls H locs hl hR hS
      rw [hst]
      refine W.objInit hx rfl hown (hts _ k1) (hts _ k2) (hts _ k3) rfl (by rw [hml]; exact hl.1) rfl hd (by omega) ?_ hk
      show 2 * 0 + _ + 12 ≤ _
      rw [rm_cs_map]
      omega
    · cases hf
  · cases hf
end RMC
end
section
/-! THE LOOP AND THE METHODS ARE SOUND -/
def rm_rt (rt : Nat) (ret : Option FieldType) : Prop := match rt with
  | 0 => ret = none
  | 1 => ret = some .int
  | 2 => ret = some .boolean
  | 3 => ret = some .long
  | 4 => ∃ n, ret = some (.object n)
  | 5 => ret = some .byte
  | _ => False
/-- a method of the table is as the claim's tables have it -/
def rm_okP (mt : Nat → rm_Y) (P : Nat → rm_M) (nM mi : Nat) : Prop :=
  (∀ q ∈ (P mi).1, decode (mt mi).2.1 q.1 = .ok (q.2.1, q.2.2)) ∧ (∀ k ∈ (P mi).2.1, rm_okK (mt mi).1.cls k ∧ rm_okM mt P nM (mt mi).1.cls k) ∧ (P mi).2.2.1 = (mt mi).2.2.1 ∧ rm_rt (P mi).2.2.2.1 (mt mi).2.2.2 ∧ ((P mi).2.2.2.2.1 = true → (mt mi).1.name = "<init>" ∧ ∃ q, vwCl[(P mi).2.2.2.2.2]? = some q ∧ q.1 = (mt mi).1.cls) ∧ plainFor (mt mi).1 = true
section RML
variable {p : Program} {l : Launch} {e : Env} {R : Room} {s : State} {m : MethodId} {args : Array Value} {below : List Frame} {meth : Method} {c : Code} {Q : State → Prop}
variable {sz : Nat} {ext : Nat → Nat} {cA : Nat → ClassId} {D : va_G} {own : String} {L : Nat} {xs : rm_F} {mt : Nat → rm_Y} {P : Nat → rm_M} {nM d : Nat} {M : rm_M}
theorem rm_one_s (hx : p.tables.exec = Jvm.exec) (hml : c.maxLocals = M.2.2.1) (hts : ∀ w ∈ rm_tb, w.before args s = true) (hX : rm_X D cA sz ext L xs s) (hown : s.vm.findClass own = some m.cls) (hks : ∀ k ∈ M.2.1, rm_okK own k ∧ rm_okM mt P nM own k) (hini : M.2.2.2.2.1 = true → meth.name = "<init>" ∧ ∃ q, vwCl[M.2.2.2.2.2]? = some q ∧ q.1 = own) (hfr : d + 2 ≤ R.frames) (hlo : 64 * (d + 2) ≤ R.locals) {call : Nat → List Value → rm_H → List Nat → Option rm_Re}
    (Hcall : ∀ (z mi : Nat) (av : List Value) (h : rm_H) (orc : List Nat) (res : rm_Re), call mi av h orc = some res → res.2.2.2.2.2 = true → mi < nM → rm_Mt l D cA z ext L xs mt d mi av h res) {i : Instr} {n : Nat} : rm_KA p l e R s m args below meth c Q M.2.2.1 sz ext cA D i n (rm_one1 call P M L xs i n) := by
  intro q r hd hf ho hc1 hc2 K
  unfold rm_one1 at hf
  split at hf
  · rename_i kk hkk
    unfold rm_inv at hf
    split at hf
    · rename_i mi na hk1 hk2
      have hok := (hks _ (rm_lk_mem hk2)).2
      cases i <;> first | (cases hkk; done) | skip
      all_goals (cases hkk; first | (cases hk1; done) | skip)
      exact rm_invS_s hx hml hts hX hown hfr hlo Hcall hok q r hd hf ho hc1 hc2 K
    · rename_i mi na hk1 hk2
      have hok := (hks _ (rm_lk_mem hk2)).2
      cases i <;> first | (cases hkk; done) | skip
      all_goals (cases hkk; first | (cases hk1; done) | skip)
      exact rm_invV_s hx hml hts hX hown hfr hlo Hcall hok q r hd hf ho hc1 hc2 K
    · rename_i mi na hk1 hk2
      have hok := (hks _ (rm_lk_mem hk2)).2
      cases i <;> first | (cases hkk; done) | skip
      all_goals (cases hkk; first | (cases hk1; done) | skip)
      exact rm_invF_s hx hml hts hX hown hfr hlo Hcall hok q r hd hf ho hc1 hc2 K
    · rename_i mi na hk1 hk2
      have hok := (hks _ (rm_lk_mem hk2)).2
      cases i <;> first | (cases hkk; done) | skip
      all_goals (cases hkk; first | (cases hk1; done) | skip)
      exact rm_invI_s hx hml hts hX hown hfr hlo Hcall hok q r hd hf ho hc1 hc2 K
    · rename_i mi na hk1 hk2
      have hok := (hks _ (rm_lk_mem hk2)).2
      cases i <;> first | (cases hkk; done) | skip
      all_goals (cases hkk; first | (cases hk1; done) | skip)
      exact rm_invO_s hx hml hts hown hfr hlo hok q r hd hf ho hc1 hc2 K
    · cases hf
  · split at hf
    · rename_i g hg
      exact rm_op_s hx hts hX hown (fun k hk => (hks k hk).1) hini hg q r hd hf ho hc1 hc2 K
    · cases hf
theorem rm_loop_s (hx : p.tables.exec = Jvm.exec) (hml : c.maxLocals = M.2.2.1) (hts : ∀ w ∈ rm_tb, w.before args s = true) (hX : rm_X D cA sz ext L xs s) (hown : s.vm.findClass own = some m.cls) (hks : ∀ k ∈ M.2.1, rm_okK own k ∧ rm_okM mt P nM own k) (hini : M.2.2.2.2.1 = true → meth.name = "<init>" ∧ ∃ q, vwCl[M.2.2.2.2.2]? = some q ∧ q.1 = own) (hfr : d + 2 ≤ R.frames) (hlo : 64 * (d + 2) ≤ R.locals) (hdec : ∀ q ∈ M.1, decode c.code q.1 = .ok (q.2.1, q.2.2)) {call : Nat → List Value → rm_H → List Nat → Option rm_Re}
    (Hcall : ∀ (z mi : Nat) (av : List Value) (h : rm_H) (orc : List Nat) (res : rm_Re), call mi av h orc = some res → res.2.2.2.2.2 = true → mi < nM → rm_Mt l D cA z ext L xs mt d mi av h res) {res : rm_Re} (hok : res.2.2.2.2.2 = true) (hc1 : res.2.2.1 ≤ R.cells) (hc2 : res.2.2.2.1 ≤ R.slots)
    (hEnd : ∀ (q : rm_N) (i : Instr) (n : Nat), (q.1, i, n) ∈ M.1 → rm_ret M.2.2.2.1 i n q = some res → rm_K p l e R s m args below meth c Q M.2.2.1 sz ext cA D q) :
    ∀ (f : Nat) (q : rm_N), rm_loop call P M L xs f q = some res → q.2.2.2.2.2.2.2 = true ∧ q.2.2.2.2.1 ≤ res.2.2.1 ∧ q.2.2.2.2.2.1 ≤ res.2.2.2.1 ∧ rm_K p l e R s m args below meth c Q M.2.2.1 sz ext cA D q := by
  intro f
  induction f with
  | zero => intro q h; cases h
  | succ f ih =>
    intro q h
    have h : rm_body call P M L xs q (rm_loop call P M L xs f) = some res := h
    unfold rm_body at h
    split at h
    · cases h
    · rename_i ii hii
      have hmem := rm_find_mem hii
      split at h
      · rename_i res' hres
        cases h
        have hK := hEnd q ii.1 ii.2 hmem hres
        have e2 : res.2 = q.2.2.2 := by
          unfold rm_ret at hres
          split at hres
          all_goals first | (cases hres; done) | skip
          all_goals (split at hres; first | (cases hres; rfl) | cases hres)
          all_goals cases hres
        rw [e2] at hok
        refine ⟨hok, ?_, ?_, hK⟩
        · rw [e2]; exact Nat.le_refl _
        · rw [e2]; exact Nat.le_refl _
      · split at h
        · rename_i r hr
          cases hge : rm_ge q r with
          | true =>
            rw [hge] at h
            have h : rm_force (rm_mod ii.1) (rm_tk q.2.2.2.2.2.2.2 r) (rm_loop call P M L xs f) = some res := h
            rw [rm_force_eq] at h
            obtain ⟨g1, g2, g3, g4⟩ := ih _ h
            have g1 : (r.2.2.2.2.2.2.2 && q.2.2.2.2.2.2.2) = true := g1
            simp only [Bool.and_eq_true] at g1
            unfold rm_ge at hge
            simp only [Bool.and_eq_true] at hge
            have z1 := Nat.le_of_ble_eq_true hge.1
            have z2 := Nat.le_of_ble_eq_true hge.2
            have g2 : r.2.2.2.2.1 ≤ res.2.2.1 := g2
            have g3 : r.2.2.2.2.2.1 ≤ res.2.2.2.1 := g3
            have hK : rm_K p l e R s m args below meth c Q M.2.2.1 sz ext cA D r := g4
            have hd : decode c.code (rm_t1 q).1 = .ok (ii.1, ii.2) := hdec (q.1, ii) hmem
            exact ⟨g1.2, Nat.le_trans z1 g2, Nat.le_trans z2 g3, rm_one_s (M := M) (call := call) hx hml hts hX hown hks hini hfr hlo Hcall (rm_t1 q) r hd hr g1.1 (Nat.le_trans g2 hc1) (Nat.le_trans g3 hc2) hK⟩
          | false => rw [hge] at h; cases h
        · cases h
end RML
theorem rm_lv_args (sz : Nat) (ext : Nat → Nat) (av : List Value) : ∀ i, lv_args i (av.map (rm_v sz ext)) = rm_l sz ext (lv_args i av) := by
  induction av with
  | nil => intro i; rfl
  | cons v r ih =>
    intro i
    show (i, rm_v sz ext v) :: lv_args (if (rm_v sz ext v).category = 2 then i + 2 else i + 1) (r.map (rm_v sz ext)) = (i, rm_v sz ext v) :: rm_l sz ext (lv_args (if v.category = 2 then i + 2 else i + 1) r)
    rw [rm_v_cat, ih]
theorem rm_sl_len (sz : Nat) (ext : Nat → Nat) (av : List Value) : (lg_sl (av.map (rm_v sz ext))).length = (lg_sl av).length := by
  induction av with
  | nil => rfl
  | cons v r ih =>
    unfold lg_sl at ih ⊢
    rw [List.map_cons, List.flatMap_cons, List.flatMap_cons, List.length_append, List.length_append, ih, rm_v_cat]
    split <;> rfl
theorem rm_ret_s {p : Program} {l : Launch} {e : Env} {R : Room} {s : State} {m : MethodId} {args : Array Value} {below : List Frame} {meth : Method} {c : Code} {sz : Nat} {ext : Nat → Nat} {cA : Nat → ClassId} {D : va_G} {rt : Nat} {ret : Option FieldType} (p4 : rm_rt rt ret) (hx : p.tables.exec = Jvm.exec) (hret : meth.sig.returnType = ret) (hlocks : meth.locks = false) {i : Instr} {n : Nat} {q : rm_N} {res : rm_Re} (hre : rm_ret rt i n q = some res) (hd : decode c.code q.1 = .ok (i, n)) {ls : Array Slot} {H : Heap} {locs : List Loc} (hR : rm_R D sz ext cA q.2.2.2.1 H) (hS : rm_S sz s.heap H locs) :
    W p l e R s m args below meth c H locs q.2.2.2.2.1 q.2.2.2.2.2.1 (MQ below (rm_Qc D cA sz ext res) args s res.2.2.1 res.2.2.2.1 (fun a => sz ≤ a)) (F0 m q.1 ls (q.2.2.1.map (rm_v sz ext))) := by
  unfold rm_ret at hre
  split at hre
  · rename_i hst
    split at hre
    · rename_i hrt
      obtain ⟨rfl, rfl⟩ := hrt
      cases hre
      rw [hst]
      have p4 : ret = none := p4
      rw [p4] at hret
      exact W.vret hx rfl hret (fun t ht hW => ⟨rfl, by rw [ht]; exact hR, fun z hz => by rw [ht]; exact hS.1 z hz⟩) hS.2 hd
    · cases hre
  · rename_i v hst
    split at hre
    · rename_i hrt
      obtain ⟨rfl, hrt⟩ := hrt
      cases hre
      rw [hst]
      rcases hrt with rfl | ⟨rfl, hv⟩ | ⟨rfl, rfl⟩
      · have p4 : ret = some .int := p4
        rw [p4] at hret
        exact W.iret hx rfl hret (fun t ht hW => ⟨rfl, by rw [ht]; exact hR, fun z hz => by rw [ht]; exact hS.1 z hz⟩) hS.2 hd
      · have p4 : ret = some .boolean := p4
        rw [p4] at hret
        refine W.zret hx rfl hret ?_ (fun t ht hW => ⟨rfl, by rw [ht]; exact hR, fun z hz => by rw [ht]; exact hS.1 z hz⟩) hS.2 hd
        rcases hv with rfl | rfl <;> rfl
      · have p4 : ret = some .byte := p4
        rw [p4] at hret
        exact W.zret hx rfl hret rfl (fun t ht hW => ⟨rfl, by rw [ht]; exact hR, fun z hz => by rw [ht]; exact hS.1 z hz⟩) hS.2 hd
    · cases hre
  · rename_i v hst
    split at hre
    · rename_i hrt
      obtain ⟨rfl, rfl⟩ := hrt
      cases hre
      rw [hst]
      have p4 : ret = some .long := p4
      rw [p4] at hret
      exact W.lret hx rfl hret (fun t ht hW => ⟨rfl, by rw [ht]; exact hR, fun z hz => by rw [ht]; exact hS.1 z hz⟩) hS.2 hd
    · cases hre
  · rename_i v hst
    split at hre
    · rename_i hrt
      obtain ⟨rfl, rfl⟩ := hrt
      cases hre
      rw [hst]
      obtain ⟨nm, p4⟩ : ∃ nm, ret = some (.object nm) := p4
      rw [p4] at hret
      exact W.aret hx rfl hret (Or.inl ⟨nm, rfl⟩) (Or.inr ⟨_, rfl⟩) (fun t ht hW => ⟨rfl, by rw [ht]; exact hR, fun z hz => by rw [ht]; exact hS.1 z hz⟩) hS.2 hd
    · cases hre
  · cases hre
end
section
set_option maxHeartbeats 400000 in
theorem rm_meth_s {l : Launch} {ext : Nat → Nat} {cA : Nat → ClassId} {D : va_G} {L : Nat} {xs : rm_F} {mt : Nat → rm_Y} {P : Nat → rm_M} {nM : Nat} (hP : ∀ mi, mi < nM → rm_okP mt P nM mi) :
    ∀ (d sz mi : Nat) (av : List Value) (h : rm_H) (orc : List Nat) (res : rm_Re), rm_meth P L xs d mi av h orc = some res → res.2.2.2.2.2 = true → mi < nM → rm_Mt l D cA sz ext L xs mt d mi av h res := by
  intro d
  induction d with
  | zero => intro sz mi av h orc res hr; cases hr
  | succ d ih =>
    intro sz mi av h orc res hr hok hmi
    have hr : (if (lg_sl av).length ≤ (P mi).2.2.1 then rm_loop (rm_meth P L xs d) P (P mi) L xs 3000 (0, lv_args 0 av, [], h, 0, 0, orc, true) else none) = some res := hr
    split at hr
    · rename_i hlen
      obtain ⟨p1, p2, p3, p4, p5, p6⟩ := hP mi hmi
      unfold rm_Mt
      refine va_MetF (cc := (mt mi).2.1) (maxL := (mt mi).2.2.1) (ret := (mt mi).2.2.2) p6 rfl ?_
      intro p e s m args below meth c s₁ B hml hv
      obtain ⟨rfl, hR, hX⟩ := hv
      have hx := B.exec
      have hb := B.bytes
      have hret := B.returns
      have hts0 := atoms_spec (ws := Cond.code (mt mi).1 (mt mi).2.1 (mt mi).2.2.1 (mt mi).2.2.2 :: rm_tb) B.pre
      have hts : ∀ w ∈ rm_tb, w.before ((av.map (rm_v sz ext)).toArray) s = true := fun w hw => hts0 w (List.mem_cons_of_mem _ hw)
      have hown : s.vm.findClass (mt mi).1.cls = some m.cls := findClass_of_methodNamed B.named
      have hlocks := B.notSynchronized
      have hname : meth.name = (mt mi).1.name := (name_of_methodNamed B.named B.method).1
      have key := rm_loop_s (p := p) (l := l) (e := e) (R := (headSpec (Cond.code (mt mi).1 (mt mi).2.1 (mt mi).2.2.1 (mt mi).2.2.2 :: rm_tb) (rm_rm (d + 1) res.2.2.1 res.2.2.2.1)).room) (s := s) (m := m) (args := (av.map (rm_v sz ext)).toArray) (below := below) (meth := meth) (c := c) (Q := MQ below (rm_Qc D cA sz ext res) (av.map (rm_v sz ext)).toArray s res.2.2.1 res.2.2.2.1 (fun a => sz ≤ a)) (sz := sz) (ext := ext) (cA := cA) (D := D) (own := (mt mi).1.cls) (L := L) (xs := xs) (mt := mt) (P := P) (nM := nM) (d := d) (M := P mi)
        hx (by rw [hml, p3]) hts hX hown p2 (fun z => ⟨hname.trans (p5 z).1, (p5 z).2⟩) (Nat.le_refl _) (Nat.le_refl _) (by rw [hb]; exact p1) (call := rm_meth P L xs d) ih (res := res) hok (Nat.le_refl _) (Nat.le_refl _) ?_ 3000 _ hr
      · have hl := lv_entry (av.map (rm_v sz ext)) (n := (mt mi).2.2.1) (by rw [rm_sl_len, ← p3]; exact hlen)
        rw [lg_entry_eq]
        rw [rm_lv_args] at hl
        rw [← p3] at hl ⊢
        exact key.2.2.2 _ s.heap [] hl hR ⟨fun _ _ => rfl, fun _ h => by cases h⟩
      · intro q i n hmem hre ls H locs hl hR' hS
        have hd : decode c.code q.1 = .ok (i, n) := by rw [hb]; exact p1 (q.1, i, n) hmem
        exact rm_ret_s p4 hx hret hlocks hre hd hR' hS
    · cases hr
end
section
/-! A RUN UP TO A PLACE; HEAPS THAT ARE ALIKE -/
noncomputable def rm_tbody (call : Nat → List Value → rm_H → List Nat → Option rm_Re) (P : Nat → rm_M) (M : rm_M) (L : Nat) (xs : rm_F) (stop : Nat) (q : rm_N) (ih : rm_N → Option rm_N) : Option rm_N := cond (Nat.beq q.1 stop) (some q) (match rm_find M.1 q.1 with
    | none => none
    | some ii => match rm_one1 call P M L xs ii.1 ii.2 (rm_t1 q) with
        | some r => cond (rm_ge q r) (rm_force (rm_mod ii.1) (rm_tk q.2.2.2.2.2.2.2 r) ih) none
        | none => none)
noncomputable def rm_till (call : Nat → List Value → rm_H → List Nat → Option rm_Re) (P : Nat → rm_M) (M : rm_M) (L : Nat) (xs : rm_F) (stop f : Nat) : rm_N → Option rm_N := Nat.rec (motive := fun _ => rm_N → Option rm_N) (fun _ => none) (fun _ ih q => rm_tbody call P M L xs stop q ih) f
section RMT
variable {p : Program} {l : Launch} {e : Env} {R : Room} {s : State} {m : MethodId} {args : Array Value} {below : List Frame} {meth : Method} {c : Code} {Q : State → Prop}
variable {sz : Nat} {ext : Nat → Nat} {cA : Nat → ClassId} {D : va_G} {own : String} {L : Nat} {xs : rm_F} {mt : Nat → rm_Y} {P : Nat → rm_M} {nM d : Nat} {M : rm_M}
theorem rm_till_s (hx : p.tables.exec = Jvm.exec) (hml : c.maxLocals = M.2.2.1) (hts : ∀ w ∈ rm_tb, w.before args s = true) (hX : rm_X D cA sz ext L xs s) (hown : s.vm.findClass own = some m.cls) (hks : ∀ k ∈ M.2.1, rm_okK own k ∧ rm_okM mt P nM own k) (hini : M.2.2.2.2.1 = true → meth.name = "<init>" ∧ ∃ q, vwCl[M.2.2.2.2.2]? = some q ∧ q.1 = own) (hfr : d + 2 ≤ R.frames) (hlo : 64 * (d + 2) ≤ R.locals) (hdec : ∀ q ∈ M.1, decode c.code q.1 = .ok (q.2.1, q.2.2)) {call : Nat → List Value → rm_H → List Nat → Option rm_Re}
    (Hcall : ∀ (z mi : Nat) (av : List Value) (h : rm_H) (orc : List Nat) (res : rm_Re), call mi av h orc = some res → res.2.2.2.2.2 = true → mi < nM → rm_Mt l D cA z ext L xs mt d mi av h res) {stop : Nat} {q' : rm_N} (hok : q'.2.2.2.2.2.2.2 = true) (hc1 : q'.2.2.2.2.1 ≤ R.cells) (hc2 : q'.2.2.2.2.2.1 ≤ R.slots)
    (hEnd : rm_K p l e R s m args below meth c Q M.2.2.1 sz ext cA D q') :
    ∀ (f : Nat) (q : rm_N), rm_till call P M L xs stop f q = some q' → q.2.2.2.2.2.2.2 = true ∧ q.2.2.2.2.1 ≤ q'.2.2.2.2.1 ∧ q.2.2.2.2.2.1 ≤ q'.2.2.2.2.2.1 ∧ rm_K p l e R s m args below meth c Q M.2.2.1 sz ext cA D q := by
  intro f
  induction f with
  | zero => intro q h; cases h
  | succ f ih =>
    intro q h
    have h : rm_tbody call P M L xs stop q (rm_till call P M L xs stop f) = some q' := h
    unfold rm_tbody at h
    cases hb : Nat.beq q.1 stop with
    | true =>
      rw [hb] at h
      have h : some q = some q' := h
      cases h
      exact ⟨hok, Nat.le_refl _, Nat.le_refl _, hEnd⟩
    | false =>
      rw [hb] at h
      dsimp only [cond_false] at h
      split at h
      · cases h
      · rename_i ii hii
        have hmem := rm_find_mem hii
        split at h
        · rename_i r hr
          cases hge : rm_ge q r with
          | true =>
            rw [hge] at h
            have h : rm_force (rm_mod ii.1) (rm_tk q.2.2.2.2.2.2.2 r) (rm_till call P M L xs stop f) = some q' := h
            rw [rm_force_eq] at h
            obtain ⟨g1, g2, g3, g4⟩ := ih _ h
            have g1 : (r.2.2.2.2.2.2.2 && q.2.2.2.2.2.2.2) = true := g1
            simp only [Bool.and_eq_true] at g1
            unfold rm_ge at hge
            simp only [Bool.and_eq_true] at hge
            have z1 := Nat.le_of_ble_eq_true hge.1
            have z2 := Nat.le_of_ble_eq_true hge.2
            have g2 : r.2.2.2.2.1 ≤ q'.2.2.2.2.1 := g2
            have g3 : r.2.2.2.2.2.1 ≤ q'.2.2.2.2.2.1 := g3
            have hK : rm_K p l e R s m args below meth c Q M.2.2.1 sz ext cA D r := g4
            have hd : decode c.code (rm_t1 q).1 = .ok (ii.1, ii.2) := hdec (q.1, ii) hmem
            exact ⟨g1.2, Nat.le_trans z1 g2, Nat.le_trans z2 g3, rm_one_s (M := M) (call := call) hx hml hts hX hown hks hini hfr hlo Hcall (rm_t1 q) r hd hr g1.1 (Nat.le_trans g2 hc1) (Nat.le_trans g3 hc2) hK⟩
          | false => rw [hge] at h; cases h
        · cases h
end RMT
def rm_simc (x y : va_E) : Bool := match x, y with
  | .inr o, .inr o' => decide (o = o')
  | .inl (t, n, .inr (.inr (.inl _))), .inl (t', n', .inr (.inr (.inl _))) => decide (t = t') && decide (n = n')
  | .inl (t, n, .inr (.inr (.inr (.inr f)))), .inl (t', n', .inr (.inr (.inr (.inr f')))) => decide (t = t') && decide (n = n') && (List.range n).all (fun j => decide (f j = f' j))
  | _, _ => false
def rm_simh : rm_H → rm_H → Bool
  | [], [] => true
  | x :: h, y :: h' => rm_simc x y && rm_simh h h'
  | _, _ => false
theorem rm_arrV_congr {cA : ClassId} {n : Nat} {f g : Nat → Value} (h : ∀ j, j < n → f j = g j) : arrV cA n f = arrV cA n g := by
  unfold arrV
  congr 2
  funext j
  exact h j.1 j.2
theorem rm_simc_s {D : va_G} {sz : Nat} {ext : Nat → Nat} {cA : Nat → ClassId} {H : Heap} {k : Nat} {x y : va_E} (h : rm_simc x y = true) (hx : rm_at1 D sz ext cA k x H) : rm_at1 D sz ext cA k y H := by
  unfold rm_simc at h
  split at h
  · have e := of_decide_eq_true h
    cases e
    exact hx
  · simp only [Bool.and_eq_true, decide_eq_true_eq] at h
    obtain ⟨rfl, rfl⟩ := h
    exact hx
  · rename_i t n f t' n' f'
    simp only [Bool.and_eq_true, decide_eq_true_eq] at h
    obtain ⟨⟨rfl, rfl⟩, h3⟩ := h
    have hx : H[sz + k]? = some (vp_cell (cA t) (n, .inr (.inr (.inr (.inr (fun j => (f j).map (fun k => sz + k))))))) := hx
    show H[sz + k]? = some (vp_cell (cA t) (n, .inr (.inr (.inr (.inr (fun j => (f' j).map (fun k => sz + k)))))))
    rw [hx, vp_cell_q, vp_cell_q]
    congr 1
    refine rm_arrV_congr (fun j hj => ?_)
    have z := of_decide_eq_true (List.all_eq_true.mp h3 j (List.mem_range.mpr hj))
    rw [z]
  · cases h
theorem rm_simh_s {h h' : rm_H} (e : rm_simh h h' = true) : h.length = h'.length ∧ ∀ (k : Nat) (y : va_E), h'[k]? = some y → ∃ x, h[k]? = some x ∧ rm_simc x y = true := by
  induction h generalizing h' with
  | nil =>
    cases h' with
    | nil => exact ⟨rfl, fun k y hk => by simp at hk⟩
    | cons y r => cases e
  | cons x h ih =>
    cases h' with
    | nil => cases e
    | cons y r =>
      have e : (rm_simc x y && rm_simh h r) = true := e
      simp only [Bool.and_eq_true] at e
      obtain ⟨g1, g2⟩ := ih e.2
      refine ⟨congrArg Nat.succ g1, fun k z hk => ?_⟩
      cases k with
      | zero => cases hk; exact ⟨x, rfl, e.1⟩
      | succ k => exact g2 k z hk
theorem rm_R.sim {D : va_G} {sz : Nat} {ext : Nat → Nat} {cA : Nat → ClassId} {h h' : rm_H} {H : Heap} (hR : rm_R D sz ext cA h H) (e : rm_simh h h' = true) : rm_R D sz ext cA h' H := by
  obtain ⟨g1, g2⟩ := rm_simh_s e
  refine ⟨by rw [hR.1, g1], fun k y hk => ?_⟩
  obtain ⟨x, h1, h2⟩ := g2 k y hk
  exact rm_simc_s h2 (hR.2 k x h1)
end
section
/-! THE METHODS' TABLES, by program -/
def rm_c_J0_coder_7d493 : List (Nat × Instr × Nat) := [(0, .getstatic 38, 3), (3, .ifCond .eq 10, 3), (6, .aload_n 0, 1), (7, .getfield 15, 3), (10, .goto 4, 3), (13, .iconst 1, 1), (14, .ireturn, 1)]
def rm_k_J0_coder_7d493 : List rm_K5 := [(38, 8, 0, 0, 0), (15, 7, 1, 0, 0)]
def rm_p_J0_coder_7d493 : rm_M := (rm_c_J0_coder_7d493, rm_k_J0_coder_7d493, 1, 5, false, 99)
def rm_c_J0_indexOf_0f7a4 : List (Nat × Instr × Nat) := [(0, .aload_n 0, 1), (1, .iload_n 1, 1), (2, .iconst 0, 1), (3, .invokevirtual 633, 3), (6, .ireturn, 1)]
def rm_k_J0_indexOf_0f7a4 : List rm_K5 := [(633, 3, 2, 2, 4)]
def rm_p_J0_indexOf_0f7a4 : rm_M := (rm_c_J0_indexOf_0f7a4, rm_k_J0_indexOf_0f7a4, 2, 1, false, 99)
def rm_c_J0_indexOf_7cf53 : List (Nat × Instr × Nat) := [(0, .aload_n 0, 1), (1, .invokevirtual 492, 3), (4, .ifCond .eq 19, 3), (7, .aload_n 0, 1), (8, .getfield 9, 3), (11, .iload_n 1, 1), (12, .iload_n 2, 1), (13, .aload_n 0, 1), (14, .invokevirtual 505, 3), (17, .invokestatic 637, 3), (20, .goto 16, 3), (23, .aload_n 0, 1), (24, .getfield 9, 3), (27, .iload_n 1, 1), (28, .iload_n 2, 1), (29, .aload_n 0, 1), (30, .invokevirtual 505, 3), (33, .invokestatic 640, 3), (36, .ireturn, 1)]
def rm_k_J0_indexOf_7cf53 : List rm_K5 := [(492, 3, 3, 0, 4), (9, 7, 0, 0, 0), (505, 3, 4, 0, 4), (637, 3, 8, 4, 0)]
def rm_p_J0_indexOf_7cf53 : rm_M := (rm_c_J0_indexOf_7cf53, rm_k_J0_indexOf_7cf53, 3, 1, false, 99)
def rm_c_J0_isLatin1_aae02 : List (Nat × Instr × Nat) := [(0, .getstatic 38, 3), (3, .ifCond .eq 14, 3), (6, .aload_n 0, 1), (7, .getfield 15, 3), (10, .ifCond .ne 7, 3), (13, .iconst 1, 1), (14, .goto 4, 3), (17, .iconst 0, 1), (18, .ireturn, 1)]
def rm_k_J0_isLatin1_aae02 : List rm_K5 := [(38, 8, 0, 0, 0), (15, 7, 1, 0, 0)]
def rm_p_J0_isLatin1_aae02 : rm_M := (rm_c_J0_isLatin1_aae02, rm_k_J0_isLatin1_aae02, 1, 2, false, 99)
def rm_c_J0_length_8abf5 : List (Nat × Instr × Nat) := [(0, .aload_n 0, 1), (1, .getfield 9, 3), (4, .arraylength, 1), (5, .aload_n 0, 1), (6, .invokevirtual 335, 3), (9, .ishr, 1), (10, .ireturn, 1)]
def rm_k_J0_length_8abf5 : List rm_K5 := [(9, 7, 0, 0, 0), (335, 3, 0, 0, 4)]
def rm_p_J0_length_8abf5 : rm_M := (rm_c_J0_length_8abf5, rm_k_J0_length_8abf5, 1, 1, false, 99)
def rm_c_J13_compare_74951 : List (Nat × Instr × Nat) := [(0, .lload_n 0, 1), (1, .lload_n 2, 1), (2, .lcmp, 1), (3, .ifCond .ge 7, 3), (6, .iconst (-1), 1), (7, .goto 14, 3), (10, .lload_n 0, 1), (11, .lload_n 2, 1), (12, .lcmp, 1), (13, .ifCond .ne 7, 3), (16, .iconst 0, 1), (17, .goto 4, 3), (20, .iconst 1, 1), (21, .ireturn, 1)]
def rm_k_J13_compare_74951 : List rm_K5 := []
def rm_p_J13_compare_74951 : rm_M := (rm_c_J13_compare_74951, rm_k_J13_compare_74951, 4, 1, false, 99)
def rm_c_J1_canEncode_9a6ad : List (Nat × Instr × Nat) := [(0, .iload_n 0, 1), (1, .ifCond .lt 14, 3), (4, .iload_n 0, 1), (5, .sipush 255, 3), (8, .if_icmp .gt 7, 3), (11, .iconst 1, 1), (12, .goto 4, 3), (15, .iconst 0, 1), (16, .ireturn, 1)]
def rm_k_J1_canEncode_9a6ad : List rm_K5 := []
def rm_p_J1_canEncode_9a6ad : rm_M := (rm_c_J1_canEncode_9a6ad, rm_k_J1_canEncode_9a6ad, 1, 2, false, 99)
def rm_c_J1_indexOfChar_4cfef : List (Nat × Instr × Nat) := [(0, .iload_n 1, 1), (1, .i2b, 1), (2, .istore 4, 2), (4, .iload_n 2, 1), (5, .istore 5, 2), (7, .iload 5, 2), (9, .iload_n 3, 1), (10, .if_icmp .ge 21, 3), (13, .aload_n 0, 1), (14, .iload 5, 2), (16, .baload, 1), (17, .iload 4, 2), (19, .if_icmp .ne 6, 3), (22, .iload 5, 2), (24, .ireturn, 1), (25, .iinc 5 1, 3), (28, .goto (-21), 3), (31, .iconst (-1), 1), (32, .ireturn, 1)]
def rm_k_J1_indexOfChar_4cfef : List rm_K5 := []
def rm_p_J1_indexOfChar_4cfef : rm_M := (rm_c_J1_indexOfChar_4cfef, rm_k_J1_indexOfChar_4cfef, 6, 1, false, 99)
def rm_c_J1_indexOf_4cfef : List (Nat × Instr × Nat) := [(0, .iload_n 1, 1), (1, .invokestatic 88, 3), (4, .ifCond .ne 5, 3), (7, .iconst (-1), 1), (8, .ireturn, 1), (9, .iload_n 2, 1), (10, .iconst 0, 1), (11, .invokestatic 92, 3), (14, .istore_n 2, 1), (15, .iload_n 3, 1), (16, .aload_n 0, 1), (17, .arraylength, 1), (18, .invokestatic 38, 3), (21, .istore_n 3, 1), (22, .iload_n 2, 1), (23, .iload_n 3, 1), (24, .if_icmp .lt 5, 3), (27, .iconst (-1), 1), (28, .ireturn, 1), (29, .aload_n 0, 1), (30, .iload_n 1, 1), (31, .iload_n 2, 1), (32, .iload_n 3, 1), (33, .invokestatic 95, 3), (36, .ireturn, 1)]
def rm_k_J1_indexOf_4cfef : List rm_K5 := [(88, 3, 6, 1, 0), (92, 3, 10, 2, 0), (38, 3, 11, 2, 0), (95, 3, 7, 4, 0)]
def rm_p_J1_indexOf_4cfef : rm_M := (rm_c_J1_indexOf_4cfef, rm_k_J1_indexOf_4cfef, 4, 1, false, 99)
def rm_c_J9_abs_067f4 : List (Nat × Instr × Nat) := [(0, .lload_n 0, 1), (1, .lconst 0, 1), (2, .lcmp, 1), (3, .ifCond .ge 8, 3), (6, .lload_n 0, 1), (7, .lneg, 1), (8, .goto 4, 3), (11, .lload_n 0, 1), (12, .lreturn, 1)]
def rm_k_J9_abs_067f4 : List rm_K5 := []
def rm_p_J9_abs_067f4 : rm_M := (rm_c_J9_abs_067f4, rm_k_J9_abs_067f4, 2, 3, false, 99)
def rm_c_J9_max_7cf53 : List (Nat × Instr × Nat) := [(0, .iload_n 0, 1), (1, .iload_n 1, 1), (2, .if_icmp .lt 7, 3), (5, .iload_n 0, 1), (6, .goto 4, 3), (9, .iload_n 1, 1), (10, .ireturn, 1)]
def rm_k_J9_max_7cf53 : List rm_K5 := []
def rm_p_J9_max_7cf53 : rm_M := (rm_c_J9_max_7cf53, rm_k_J9_max_7cf53, 2, 1, false, 99)
def rm_c_J9_min_7cf53 : List (Nat × Instr × Nat) := [(0, .iload_n 0, 1), (1, .iload_n 1, 1), (2, .if_icmp .gt 7, 3), (5, .iload_n 0, 1), (6, .goto 4, 3), (9, .iload_n 1, 1), (10, .ireturn, 1)]
def rm_k_J9_min_7cf53 : List rm_K5 := []
def rm_p_J9_min_7cf53 : rm_M := (rm_c_J9_min_7cf53, rm_k_J9_min_7cf53, 2, 1, false, 99)
def rm_c_X0_init : List (Nat × Instr × Nat) := [(0, .aload_n 0, 1), (1, .invokespecial 3, 3), (4, .aload_n 0, 1), (5, .bipush 80, 2), (7, .anewarray 9, 3), (10, .putfield 11, 3), (13, .iconst 0, 1), (14, .istore_n 1, 1), (15, .iload_n 1, 1), (16, .bipush 80, 2), (18, .if_icmp .ge 22, 3), (21, .aload_n 0, 1), (22, .getfield 11, 3), (25, .iload_n 1, 1), (26, .new 9, 3), (29, .dup, 1), (30, .invokespecial 17, 3), (33, .aastore, 1), (34, .iinc 1 1, 3), (37, .goto (-22), 3), (40, .aload_n 0, 1), (41, .sipush 800, 3), (44, .newarray .int, 2), (46, .putfield 18, 3), (49, .aload_n 0, 1), (50, .new 22, 3), (53, .dup, 1), (54, .invokespecial 24, 3), (57, .putfield 25, 3), (60, .aload_n 0, 1), (61, .new 9, 3), (64, .dup, 1), (65, .invokespecial 17, 3), (68, .putfield 29, 3), (71, .aload_n 0, 1), (72, .new 9, 3), (75, .dup, 1), (76, .invokespecial 17, 3), (79, .putfield 33, 3), (82, .aload_n 0, 1), (83, .new 9, 3), (86, .dup, 1), (87, .invokespecial 17, 3), (90, .putfield 36, 3), (93, .aload_n 0, 1), (94, .new 9, 3), (97, .dup, 1), (98, .invokespecial 17, 3), (101, .putfield 39, 3), (104, .return_, 1)]
def rm_k_X0_init : List rm_K5 := [(3, 3, 0, 0, 3), (9, 1, 6, 2, 5), (11, 0, 0, 0, 0), (17, 3, 51, 0, 2), (18, 0, 0, 1, 0), (22, 1, 2, 8, 0), (24, 3, 47, 0, 2), (25, 0, 0, 3, 0), (29, 0, 0, 4, 0), (33, 0, 0, 5, 0), (36, 0, 0, 6, 0), (39, 0, 0, 7, 0)]
def rm_p_X0_init : rm_M := (rm_c_X0_init, rm_k_X0_init, 2, 0, true, 0)
def rm_c_X10_atom : List (Nat × Instr × Nat) := [(0, .aload_n 0, 1), (1, .iload_n 1, 1), (2, .invokevirtual 443, 3), (5, .ifCond .eq 13, 3), (8, .iload_n 2, 1), (9, .ifCond .lt 9, 3), (12, .iload_n 2, 1), (13, .bipush 12, 2), (15, .if_icmp .le 7, 3), (18, .ldc_w 446, 3), (21, .ireturn, 1), (22, .iload_n 2, 1), (23, .bipush 9, 2), (25, .if_icmp .ge 16, 3), (28, .aload_n 0, 1), (29, .getfield 17, 3), (32, .bipush 9, 2), (34, .iload_n 1, 1), (35, .imul, 1), (36, .iload_n 2, 1), (37, .iadd, 1), (38, .laload, 1), (39, .l2i, 1), (40, .ireturn, 1), (41, .aload_n 0, 1), (42, .iload_n 1, 1), (43, .invokevirtual 418, 3), (46, .istore_n 3, 1), (47, .iload_n 2, 1), (48, .bipush 9, 2), (50, .if_icmp .ne 14, 3), (53, .iload_n 3, 1), (54, .ifCond .ge 8, 3), (57, .bipush (-2), 2), (59, .goto 4, 3), (62, .iload_n 3, 1), (63, .ireturn, 1), (64, .iload_n 2, 1), (65, .bipush 10, 2), (67, .if_icmp .ne 10, 3), (70, .aload_n 0, 1), (71, .getfield 21, 3), (74, .iload_n 1, 1), (75, .iaload, 1), (76, .ireturn, 1), (77, .iconst 0, 1), (78, .istore 4, 2), (80, .iconst 0, 1), (81, .istore 5, 2), (83, .iconst 0, 1), (84, .istore 6, 2), (86, .iload 6, 2), (88, .aload_n 0, 1), (89, .getfield 363, 3), (92, .if_icmp .ge 29, 3), (95, .iload 4, 2), (97, .aload_n 0, 1), (98, .iload 6, 2), (100, .iload_n 1, 1), (101, .invokevirtual 421, 3), (104, .ifCond .le 7, 3), (107, .iconst 1, 1), (108, .goto 4, 3), (111, .iconst 0, 1), (112, .iadd, 1), (113, .istore 4, 2), (115, .iinc 6 1, 3), (118, .goto (-32), 3), (121, .iconst 0, 1), (122, .istore 6, 2), (124, .iload 6, 2), (126, .aload_n 0, 1), (127, .getfield 353, 3), (130, .if_icmp .ge 45, 3), (133, .iload 5, 2), (135, .aload_n 0, 1), (136, .getfield 86, 3), (139, .bipush 10, 2), (141, .iload 6, 2), (143, .imul, 1), (144, .iload_n 1, 1), (145, .iadd, 1), (146, .iaload, 1), (147, .ifCond .le 18, 3), (150, .aload_n 0, 1), (151, .getfield 62, 3), (154, .aload_n 0, 1), (155, .getfield 74, 3), (158, .iload 6, 2), (160, .iaload, 1), (161, .iaload, 1), (162, .goto 4, 3), (165, .iconst 0, 1), (166, .iadd, 1), (167, .istore 5, 2), (169, .iinc 6 1, 3), (172, .goto (-48), 3), (175, .iload_n 2, 1), (176, .bipush 11, 2), (178, .if_icmp .ne 8, 3), (181, .iload 4, 2), (183, .goto 8, 3), (186, .iload 5, 2), (188, .iload 4, 2), (190, .isub, 1), (191, .ireturn, 1)]
def rm_k_X10_atom : List rm_K5 := [(443, 3, 25, 1, 1), (446, 4, 2294967296, 0, 0), (17, 0, 10, 7, 0), (21, 0, 10, 8, 0), (363, 0, 10, 41, 0), (353, 0, 10, 34, 0), (86, 0, 10, 40, 0), (62, 0, 10, 26, 0), (74, 0, 10, 35, 0)]
def rm_p_X10_atom : rm_M := (rm_c_X10_atom, rm_k_X10_atom, 7, 1, false, 10)
def rm_c_X10_beginSum : List (Nat × Instr × Nat) := [(0, .iconst 0, 1), (1, .istore_n 1, 1), (2, .iload_n 1, 1), (3, .bipush 9, 2), (5, .if_icmp .ge 24, 3), (8, .aload_n 0, 1), (9, .getfield 34, 3), (12, .bipush 9, 2), (14, .aload_n 0, 1), (15, .getfield 160, 3), (18, .imul, 1), (19, .iload_n 1, 1), (20, .iadd, 1), (21, .lconst 0, 1), (22, .lastore, 1), (23, .iinc 1 1, 3), (26, .goto (-24), 3), (29, .aload_n 0, 1), (30, .getfield 46, 3), (33, .aload_n 0, 1), (34, .getfield 160, 3), (37, .iconst 1, 1), (38, .iastore, 1), (39, .aload_n 0, 1), (40, .getfield 49, 3), (43, .aload_n 0, 1), (44, .getfield 160, 3), (47, .iconst (-1), 1), (48, .iastore, 1), (49, .aload_n 0, 1), (50, .getfield 52, 3), (53, .aload_n 0, 1), (54, .getfield 160, 3), (57, .iconst (-1), 1), (58, .iastore, 1), (59, .aload_n 0, 1), (60, .invokevirtual 141, 3), (63, .bipush 45, 2), (65, .if_icmp .ne 23, 3), (68, .aload_n 0, 1), (69, .getfield 46, 3), (72, .aload_n 0, 1), (73, .getfield 160, 3), (76, .iconst (-1), 1), (77, .iastore, 1), (78, .aload_n 0, 1), (79, .dup, 1), (80, .getfield 135, 3), (83, .iconst 1, 1), (84, .iadd, 1), (85, .putfield 135, 3), (88, .return_, 1)]
def rm_k_X10_beginSum : List rm_K5 := [(34, 0, 10, 14, 0), (160, 0, 10, 21, 0), (46, 0, 10, 18, 0), (49, 0, 10, 19, 0), (52, 0, 10, 20, 0), (141, 3, 33, 0, 1), (135, 0, 10, 4, 0)]
def rm_p_X10_beginSum : rm_M := (rm_c_X10_beginSum, rm_k_X10_beginSum, 2, 0, false, 10)
def rm_c_X10_cannot : List (Nat × Instr × Nat) := [(0, .aload_n 0, 1), (1, .invokevirtual 141, 3), (4, .istore_n 1, 1), (5, .aload_n 0, 1), (6, .iload_n 1, 1), (7, .iconst (-1), 1), (8, .if_icmp .eq 10, 3), (11, .iload_n 1, 1), (12, .invokestatic 145, 3), (15, .ifCond .eq 7, 3), (18, .iconst 2, 1), (19, .goto 4, 3), (22, .iconst 1, 1), (23, .aload_n 0, 1), (24, .getfield 135, 3), (27, .invokevirtual 148, 3), (30, .return_, 1)]
def rm_k_X10_cannot : List rm_K5 := [(141, 3, 33, 0, 1), (135, 0, 10, 4, 0), (148, 3, 20, 2, 1)]
def rm_p_X10_cannot : rm_M := (rm_c_X10_cannot, rm_k_X10_cannot, 2, 0, false, 10)
def rm_c_X10_cellOf : List (Nat × Instr × Nat) := [(0, .iload_n 1, 1), (1, .iload_n 2, 1), (2, .invokestatic 477, 3), (5, .ifCond .eq 10, 3), (8, .aload_n 0, 1), (9, .getfield 430, 3), (12, .ifCond .ne 5, 3), (15, .iconst (-1), 1), (16, .ireturn, 1), (17, .iconst 0, 1), (18, .istore_n 3, 1), (19, .iconst (-1), 1), (20, .istore 4, 2), (22, .iload_n 3, 1), (23, .aload_n 0, 1), (24, .getfield 363, 3), (27, .if_icmp .ge 40, 3), (30, .iload 4, 2), (32, .ifCond .ge 35, 3), (35, .aload_n 0, 1), (36, .aload_n 0, 1), (37, .getfield 110, 3), (40, .iload_n 3, 1), (41, .iaload, 1), (42, .iload_n 1, 1), (43, .i2l, 1), (44, .iload_n 2, 1), (45, .i2l, 1), (46, .invokevirtual 395, 3), (49, .istore 4, 2), (51, .iload_n 3, 1), (52, .iload 4, 2), (54, .ifCond .ge 7, 3), (57, .iconst 1, 1), (58, .goto 4, 3), (61, .iconst 0, 1), (62, .iadd, 1), (63, .istore_n 3, 1), (64, .goto (-42), 3), (67, .iload_n 3, 1), (68, .aload_n 0, 1), (69, .getfield 363, 3), (72, .if_icmp .ne 12, 3), (75, .iconst 2, 1), (76, .aload_n 0, 1), (77, .getfield 363, 3), (80, .imul, 1), (81, .goto 19, 3), (84, .iload 4, 2), (86, .ifCond .ne 11, 3), (89, .iconst 2, 1), (90, .iload_n 3, 1), (91, .imul, 1), (92, .iconst 1, 1), (93, .iadd, 1), (94, .goto 6, 3), (97, .iconst 2, 1), (98, .iload_n 3, 1), (99, .imul, 1), (100, .ireturn, 1)]
def rm_k_X10_cellOf : List rm_K5 := [(477, 3, 28, 2, 0), (430, 0, 10, 5, 0), (363, 0, 10, 41, 0), (110, 0, 10, 49, 0)]
def rm_p_X10_cellOf : rm_M := (rm_c_X10_cellOf, rm_k_X10_cellOf, 5, 1, false, 10)
def rm_c_X10_common : List (Nat × Instr × Nat) := [(0, .aload_n 0, 1), (1, .iload_n 1, 1), (2, .invokevirtual 453, 3), (5, .ifCond .ne 5, 3), (8, .iconst (-1), 1), (9, .ireturn, 1), (10, .iconst 0, 1), (11, .istore_n 2, 1), (12, .iconst 0, 1), (13, .istore_n 3, 1), (14, .iload_n 3, 1), (15, .aload_n 0, 1), (16, .getfield 353, 3), (19, .if_icmp .ge 90, 3), (22, .iconst 1, 1), (23, .istore 4, 2), (25, .iconst 0, 1), (26, .istore 5, 2), (28, .iload 5, 2), (30, .aload_n 0, 1), (31, .getfield 203, 3), (34, .if_icmp .ge 46, 3), (37, .iload 4, 2), (39, .ifCond .eq 32, 3), (42, .aload_n 0, 1), (43, .iload_n 1, 1), (44, .iload 5, 2), (46, .invokevirtual 421, 3), (49, .ifCond .eq 18, 3), (52, .aload_n 0, 1), (53, .getfield 86, 3), (56, .bipush 10, 2), (58, .iload_n 3, 1), (59, .imul, 1), (60, .iload 5, 2), (62, .iadd, 1), (63, .iaload, 1), (64, .ifCond .le 7, 3), (67, .iconst 1, 1), (68, .goto 4, 3), (71, .iconst 0, 1), (72, .istore 4, 2), (74, .iinc 5 1, 3), (77, .goto (-49), 3), (80, .iload_n 2, 1), (81, .iload 4, 2), (83, .ifCond .eq 17, 3), (86, .aload_n 0, 1), (87, .getfield 62, 3), (90, .aload_n 0, 1), (91, .getfield 74, 3), (94, .iload_n 3, 1), (95, .iaload, 1), (96, .iaload, 1), (97, .goto 4, 3), (100, .iconst 0, 1), (101, .iadd, 1), (102, .istore_n 2, 1), (103, .iinc 3 1, 3), (106, .goto (-92), 3), (109, .iload_n 2, 1), (110, .ireturn, 1)]
def rm_k_X10_common : List rm_K5 := [(453, 3, 29, 1, 1), (353, 0, 10, 34, 0), (203, 0, 10, 6, 0), (86, 0, 10, 40, 0), (62, 0, 10, 26, 0), (74, 0, 10, 35, 0)]
def rm_p_X10_common : rm_M := (rm_c_X10_common, rm_k_X10_common, 6, 1, false, 10)
def rm_c_X10_count : List (Nat × Instr × Nat) := [(0, .iload_n 1, 1), (1, .ifCond .lt 20, 3), (4, .iload_n 1, 1), (5, .iconst 5, 1), (6, .if_icmp .gt 15, 3), (9, .iload_n 1, 1), (10, .iconst 2, 1), (11, .if_icmp .le 12, 3), (14, .aload_n 0, 1), (15, .getfield 430, 3), (18, .ifCond .ne 5, 3), (21, .iconst (-1), 1), (22, .ireturn, 1), (23, .iload_n 1, 1), (24, .ifCond .ne 10, 3), (27, .aload_n 0, 1), (28, .getfield 132, 3), (31, .goto 55, 3), (34, .iload_n 1, 1), (35, .iconst 1, 1), (36, .if_icmp .ne 10, 3), (39, .aload_n 0, 1), (40, .getfield 13, 3), (43, .goto 43, 3), (46, .iload_n 1, 1), (47, .iconst 2, 1), (48, .if_icmp .ne 10, 3), (51, .aload_n 0, 1), (52, .getfield 129, 3), (55, .goto 31, 3), (58, .iload_n 1, 1), (59, .iconst 3, 1), (60, .if_icmp .ne 10, 3), (63, .aload_n 0, 1), (64, .getfield 203, 3), (67, .goto 19, 3), (70, .iload_n 1, 1), (71, .iconst 4, 1), (72, .if_icmp .ne 10, 3), (75, .aload_n 0, 1), (76, .getfield 363, 3), (79, .goto 7, 3), (82, .aload_n 0, 1), (83, .invokevirtual 440, 3), (86, .ireturn, 1)]
def rm_k_X10_count : List rm_K5 := [(430, 0, 10, 5, 0), (132, 0, 10, 2, 0), (13, 0, 10, 3, 0), (129, 0, 10, 1, 0), (203, 0, 10, 6, 0), (363, 0, 10, 41, 0)]
def rm_p_X10_count : rm_M := (rm_c_X10_count, rm_k_X10_count, 2, 1, false, 10)
def rm_c_X10_exact : List (Nat × Instr × Nat) := [(0, .aload_n 0, 1), (1, .iload_n 1, 1), (2, .invokevirtual 453, 3), (5, .ifCond .eq 12, 3), (8, .iload_n 2, 1), (9, .ifCond .lt 8, 3), (12, .iload_n 2, 1), (13, .iconst 1, 1), (14, .if_icmp .le 7, 3), (17, .ldc2_w 456, 3), (20, .lreturn, 1), (21, .aload_n 0, 1), (22, .getfield 110, 3), (25, .iload_n 1, 1), (26, .iaload, 1), (27, .istore_n 3, 1), (28, .aload_n 0, 1), (29, .getfield 95, 3), (32, .iload_n 3, 1), (33, .laload, 1), (34, .lconst 0, 1), (35, .lcmp, 1), (36, .ifCond .ne 9, 3), (39, .ldc2_w 464, 3), (42, .goto 22, 3), (45, .iload_n 2, 1), (46, .ifCond .ne 12, 3), (49, .aload_n 0, 1), (50, .getfield 92, 3), (53, .iload_n 3, 1), (54, .laload, 1), (55, .goto 9, 3), (58, .aload_n 0, 1), (59, .getfield 95, 3), (62, .iload_n 3, 1), (63, .laload, 1), (64, .lreturn, 1)]
def rm_k_X10_exact : List rm_K5 := [(453, 3, 29, 1, 1), (456, 5, 9446744073709551616, 0, 0), (110, 0, 10, 49, 0), (95, 0, 10, 44, 0), (464, 5, 9446744073709551614, 0, 0), (92, 0, 10, 43, 0)]
def rm_p_X10_exact : rm_M := (rm_c_X10_exact, rm_k_X10_exact, 4, 3, false, 10)
def rm_c_X10_fail : List (Nat × Instr × Nat) := [(0, .aload_n 0, 1), (1, .getfield 132, 3), (4, .ifCond .ne 13, 3), (7, .aload_n 0, 1), (8, .iload_n 1, 1), (9, .putfield 132, 3), (12, .aload_n 0, 1), (13, .iload_n 2, 1), (14, .putfield 13, 3), (17, .return_, 1)]
def rm_k_X10_fail : List rm_K5 := [(132, 0, 10, 2, 0), (13, 0, 10, 3, 0)]
def rm_p_X10_fail : rm_M := (rm_c_X10_fail, rm_k_X10_fail, 3, 0, false, 10)
def rm_c_X10_four : List (Nat × Instr × Nat) := [(0, .iconst 0, 1), (1, .istore_n 2, 1), (2, .bipush 24, 2), (4, .istore_n 3, 1), (5, .iload_n 3, 1), (6, .ifCond .lt 46, 3), (9, .iload_n 1, 1), (10, .iload_n 3, 1), (11, .ishr, 1), (12, .sipush 255, 3), (15, .iand, 1), (16, .istore 4, 2), (18, .iload 4, 2), (20, .ifCond .eq 13, 3), (23, .iload 4, 2), (25, .invokestatic 125, 3), (28, .ifCond .ne 5, 3), (31, .iconst (-1), 1), (32, .ireturn, 1), (33, .iload_n 2, 1), (34, .iload 4, 2), (36, .ifCond .ne 7, 3), (39, .iconst 0, 1), (40, .goto 4, 3), (43, .iconst 1, 1), (44, .iadd, 1), (45, .istore_n 2, 1), (46, .iinc 3 (-8), 3), (49, .goto (-44), 3), (52, .aload_n 0, 1), (53, .getfield 129, 3), (56, .iload_n 2, 1), (57, .iadd, 1), (58, .sipush 400, 3), (61, .if_icmp .le 5, 3), (64, .iconst (-1), 1), (65, .ireturn, 1), (66, .bipush 24, 2), (68, .istore_n 3, 1), (69, .iload_n 3, 1), (70, .ifCond .lt 44, 3), (73, .iload_n 1, 1), (74, .iload_n 3, 1), (75, .ishr, 1), (76, .sipush 255, 3), (79, .iand, 1), (80, .istore 4, 2), (82, .iload 4, 2), (84, .ifCond .eq 24, 3), (87, .aload_n 0, 1), (88, .getfield 7, 3), (91, .aload_n 0, 1), (92, .getfield 129, 3), (95, .iload 4, 2), (97, .iastore, 1), (98, .aload_n 0, 1), (99, .dup, 1), (100, .getfield 129, 3), (103, .iconst 1, 1), (104, .iadd, 1), (105, .putfield 129, 3), (108, .iinc 3 (-8), 3), (111, .goto (-42), 3), (114, .aload_n 0, 1), (115, .getfield 129, 3), (118, .ireturn, 1)]
def rm_k_X10_four : List rm_K5 := [(125, 3, 30, 1, 0), (129, 0, 10, 1, 0), (7, 0, 10, 0, 0)]
def rm_p_X10_four : rm_M := (rm_c_X10_four, rm_k_X10_four, 5, 1, false, 10)
def rm_c_X10_good : List (Nat × Instr × Nat) := [(0, .aload_n 0, 1), (1, .getfield 132, 3), (4, .ifCond .ne 7, 3), (7, .iconst 1, 1), (8, .goto 4, 3), (11, .iconst 0, 1), (12, .ireturn, 1)]
def rm_k_X10_good : List rm_K5 := [(132, 0, 10, 2, 0)]
def rm_p_X10_good : rm_M := (rm_c_X10_good, rm_k_X10_good, 1, 2, false, 10)
def rm_c_X10_holds : List (Nat × Instr × Nat) := [(0, .aload_n 0, 1), (1, .iload_n 1, 1), (2, .invokevirtual 447, 3), (5, .ifCond .eq 20, 3), (8, .aload_n 0, 1), (9, .getfield 122, 3), (12, .iload_n 1, 1), (13, .baload, 1), (14, .ifCond .eq 7, 3), (17, .iconst 1, 1), (18, .goto 8, 3), (21, .iconst 0, 1), (22, .goto 4, 3), (25, .iconst (-1), 1), (26, .ireturn, 1)]
def rm_k_X10_holds : List rm_K5 := [(447, 3, 26, 1, 1), (122, 0, 10, 54, 0)]
def rm_p_X10_holds : rm_M := (rm_c_X10_holds, rm_k_X10_holds, 2, 1, false, 10)
def rm_c_X10_init : List (Nat × Instr × Nat) := [(0, .aload_n 0, 1), (1, .invokespecial 1, 3), (4, .aload_n 0, 1), (5, .sipush 400, 3), (8, .newarray .int, 2), (10, .putfield 7, 3), (13, .aload_n 0, 1), (14, .bipush (-2), 2), (16, .putfield 13, 3), (19, .aload_n 0, 1), (20, .bipush 90, 2), (22, .newarray .long, 2), (24, .putfield 17, 3), (27, .aload_n 0, 1), (28, .bipush 10, 2), (30, .newarray .int, 2), (32, .putfield 21, 3), (35, .aload_n 0, 1), (36, .sipush 500, 3), (39, .newarray .int, 2), (41, .putfield 24, 3), (44, .aload_n 0, 1), (45, .sipush 500, 3), (48, .newarray .int, 2), (50, .putfield 27, 3), (53, .aload_n 0, 1), (54, .sipush 400, 3), (57, .newarray .boolean, 2), (59, .putfield 30, 3), (62, .aload_n 0, 1), (63, .bipush 108, 2), (65, .newarray .long, 2), (67, .putfield 34, 3), (70, .aload_n 0, 1), (71, .bipush 108, 2), (73, .newarray .long, 2), (75, .putfield 37, 3), (78, .aload_n 0, 1), (79, .bipush 108, 2), (81, .newarray .long, 2), (83, .putfield 40, 3), (86, .aload_n 0, 1), (87, .bipush 9, 2), (89, .newarray .long, 2), (91, .putfield 43, 3), (94, .aload_n 0, 1), (95, .bipush 12, 2), (97, .newarray .int, 2), (99, .putfield 46, 3), (102, .aload_n 0, 1), (103, .bipush 12, 2), (105, .newarray .int, 2), (107, .putfield 49, 3), (110, .aload_n 0, 1), (111, .bipush 12, 2), (113, .newarray .int, 2), (115, .putfield 52, 3), (118, .aload_n 0, 1), (119, .bipush 9, 2), (121, .newarray .long, 2), (123, .putfield 55, 3), (126, .aload_n 0, 1), (127, .ldc 58, 2), (129, .newarray .int, 2), (131, .putfield 59, 3), (134, .aload_n 0, 1), (135, .sipush 1200, 3), (138, .newarray .int, 2), (140, .putfield 62, 3), (143, .aload_n 0, 1), (144, .sipush 10800, 3), (147, .newarray .int, 2), (149, .putfield 65, 3), (152, .aload_n 0, 1), (153, .bipush 12, 2), (155, .newarray .int, 2), (157, .putfield 68, 3), (160, .aload_n 0, 1), (161, .sipush 20000, 3), (164, .newarray .int, 2), (166, .putfield 71, 3), (169, .aload_n 0, 1), (170, .sipush 200, 3), (173, .newarray .int, 2), (175, .putfield 74, 3), (178, .aload_n 0, 1), (179, .bipush 90, 2), (181, .newarray .int, 2), (183, .putfield 77, 3), (186, .aload_n 0, 1), (187, .bipush 90, 2), (189, .newarray .int, 2), (191, .putfield 80, 3), (194, .aload_n 0, 1), (195, .bipush 90, 2), (197, .newarray .int, 2), (199, .putfield 83, 3), (202, .aload_n 0, 1), (203, .sipush 2000, 3), (206, .newarray .int, 2), (208, .putfield 86, 3), (211, .aload_n 0, 1), (212, .bipush 90, 2), (214, .newarray .int, 2), (216, .putfield 89, 3), (219, .aload_n 0, 1), (220, .bipush 90, 2), (222, .newarray .long, 2), (224, .putfield 92, 3), (227, .aload_n 0, 1), (228, .bipush 90, 2), (230, .newarray .long, 2), (232, .putfield 95, 3), (235, .aload_n 0, 1), (236, .bipush 90, 2), (238, .newarray .int, 2), (240, .putfield 98, 3), (243, .aload_n 0, 1), (244, .bipush 90, 2), (246, .newarray .int, 2), (248, .putfield 101, 3), (251, .aload_n 0, 1), (252, .bipush 90, 2), (254, .newarray .int, 2), (256, .putfield 104, 3), (259, .aload_n 0, 1), (260, .bipush 90, 2), (262, .newarray .int, 2), (264, .putfield 107, 3), (267, .aload_n 0, 1), (268, .bipush 90, 2), (270, .newarray .int, 2), (272, .putfield 110, 3), (275, .aload_n 0, 1), (276, .sipush 800, 3), (279, .newarray .int, 2), (281, .putfield 113, 3), (284, .aload_n 0, 1), (285, .sipush 800, 3), (288, .newarray .int, 2), (290, .putfield 116, 3), (293, .aload_n 0, 1), (294, .sipush 2000, 3), (297, .newarray .int, 2), (299, .putfield 119, 3), (302, .aload_n 0, 1), (303, .sipush 200, 3), (306, .newarray .boolean, 2), (308, .putfield 122, 3), (311, .return_, 1)]
def rm_k_X10_init : List rm_K5 := [(1, 3, 0, 0, 3), (7, 0, 10, 0, 0), (13, 0, 10, 3, 0), (17, 0, 10, 7, 0), (21, 0, 10, 8, 0), (24, 0, 10, 9, 0), (27, 0, 10, 11, 0), (30, 0, 10, 13, 0), (34, 0, 10, 14, 0), (37, 0, 10, 15, 0), (40, 0, 10, 16, 0), (43, 0, 10, 17, 0), (46, 0, 10, 18, 0), (49, 0, 10, 19, 0), (52, 0, 10, 20, 0), (55, 0, 10, 22, 0), (58, 4, 700000, 0, 0), (59, 0, 10, 23, 0), (62, 0, 10, 26, 0), (65, 0, 10, 27, 0), (68, 0, 10, 30, 0), (71, 0, 10, 31, 0), (74, 0, 10, 35, 0), (77, 0, 10, 37, 0), (80, 0, 10, 38, 0), (83, 0, 10, 39, 0), (86, 0, 10, 40, 0), (89, 0, 10, 42, 0), (92, 0, 10, 43, 0), (95, 0, 10, 44, 0), (98, 0, 10, 45, 0), (101, 0, 10, 46, 0), (104, 0, 10, 47, 0), (107, 0, 10, 48, 0), (110, 0, 10, 49, 0), (113, 0, 10, 50, 0), (116, 0, 10, 51, 0), (119, 0, 10, 53, 0), (122, 0, 10, 54, 0)]
def rm_p_X10_init : rm_M := (rm_c_X10_init, rm_k_X10_init, 1, 0, true, 10)
def rm_c_X10_isAtom : List (Nat × Instr × Nat) := [(0, .aload_n 0, 1), (1, .getfield 430, 3), (4, .ifCond .eq 19, 3), (7, .iload_n 1, 1), (8, .ifCond .lt 15, 3), (11, .iload_n 1, 1), (12, .aload_n 0, 1), (13, .getfield 203, 3), (16, .if_icmp .ge 7, 3), (19, .iconst 1, 1), (20, .goto 4, 3), (23, .iconst 0, 1), (24, .ireturn, 1)]
def rm_k_X10_isAtom : List rm_K5 := [(430, 0, 10, 5, 0), (203, 0, 10, 6, 0)]
def rm_p_X10_isAtom : rm_M := (rm_c_X10_isAtom, rm_k_X10_isAtom, 2, 2, false, 10)
def rm_c_X10_isCell : List (Nat × Instr × Nat) := [(0, .aload_n 0, 1), (1, .getfield 430, 3), (4, .ifCond .eq 19, 3), (7, .iload_n 1, 1), (8, .ifCond .lt 15, 3), (11, .iload_n 1, 1), (12, .aload_n 0, 1), (13, .invokevirtual 424, 3), (16, .if_icmp .ge 7, 3), (19, .iconst 1, 1), (20, .goto 4, 3), (23, .iconst 0, 1), (24, .ireturn, 1)]
def rm_k_X10_isCell : List rm_K5 := [(430, 0, 10, 5, 0)]
def rm_p_X10_isCell : rm_M := (rm_c_X10_isCell, rm_k_X10_isCell, 2, 2, false, 10)
def rm_c_X10_isDigit : List (Nat × Instr × Nat) := [(0, .iload_n 0, 1), (1, .bipush 48, 2), (3, .if_icmp .lt 13, 3), (6, .iload_n 0, 1), (7, .bipush 57, 2), (9, .if_icmp .gt 7, 3), (12, .iconst 1, 1), (13, .goto 4, 3), (16, .iconst 0, 1), (17, .ireturn, 1)]
def rm_k_X10_isDigit : List rm_K5 := []
def rm_p_X10_isDigit : rm_M := (rm_c_X10_isDigit, rm_k_X10_isDigit, 1, 2, false, 10)
def rm_c_X10_isNumber : List (Nat × Instr × Nat) := [(0, .iload_n 1, 1), (1, .iconst 1, 1), (2, .if_icmp .lt 28, 3), (5, .iload_n 1, 1), (6, .ldc_w 475, 3), (9, .if_icmp .gt 21, 3), (12, .iload_n 0, 1), (13, .ldc_w 476, 3), (16, .if_icmp .lt 14, 3), (19, .iload_n 0, 1), (20, .ldc_w 475, 3), (23, .if_icmp .gt 7, 3), (26, .iconst 1, 1), (27, .goto 4, 3), (30, .iconst 0, 1), (31, .ireturn, 1)]
def rm_k_X10_isNumber : List rm_K5 := [(475, 4, 1000000000, 0, 0), (476, 4, 3294967296, 0, 0)]
def rm_p_X10_isNumber : rm_M := (rm_c_X10_isNumber, rm_k_X10_isNumber, 2, 2, false, 10)
def rm_c_X10_isRoot : List (Nat × Instr × Nat) := [(0, .aload_n 0, 1), (1, .getfield 430, 3), (4, .ifCond .eq 19, 3), (7, .iload_n 1, 1), (8, .ifCond .lt 15, 3), (11, .iload_n 1, 1), (12, .aload_n 0, 1), (13, .getfield 363, 3), (16, .if_icmp .ge 7, 3), (19, .iconst 1, 1), (20, .goto 4, 3), (23, .iconst 0, 1), (24, .ireturn, 1)]
def rm_k_X10_isRoot : List rm_K5 := [(430, 0, 10, 5, 0), (363, 0, 10, 41, 0)]
def rm_p_X10_isRoot : rm_M := (rm_c_X10_isRoot, rm_k_X10_isRoot, 2, 2, false, 10)
def rm_c_X10_isSign : List (Nat × Instr × Nat) := [(0, .iload_n 0, 1), (1, .bipush 32, 2), (3, .if_icmp .lt 13, 3), (6, .iload_n 0, 1), (7, .bipush 126, 2), (9, .if_icmp .gt 7, 3), (12, .iconst 1, 1), (13, .goto 4, 3), (16, .iconst 0, 1), (17, .ireturn, 1)]
def rm_k_X10_isSign : List rm_K5 := []
def rm_p_X10_isSign : rm_M := (rm_c_X10_isSign, rm_k_X10_isSign, 1, 2, false, 10)
def rm_c_X10_judge : List (Nat × Instr × Nat) := [(0, .aload_n 0, 1), (1, .getfield 430, 3), (4, .ifCond .eq 13, 3), (7, .iload_n 1, 1), (8, .ifCond .lt 9, 3), (11, .iload_n 1, 1), (12, .bipush 8, 2), (14, .if_icmp .le 5, 3), (17, .iconst (-1), 1), (18, .ireturn, 1), (19, .bipush (-2), 2), (21, .istore_n 2, 1), (22, .bipush (-2), 2), (24, .istore_n 3, 1), (25, .iconst 0, 1), (26, .istore 4, 2), (28, .iconst 0, 1), (29, .istore 5, 2), (31, .iload 5, 2), (33, .aload_n 0, 1), (34, .invokevirtual 424, 3), (37, .if_icmp .ge 59, 3), (40, .aload_n 0, 1), (41, .getfield 122, 3), (44, .iload 5, 2), (46, .baload, 1), (47, .ifCond .eq 43, 3), (50, .iload_n 2, 1), (51, .bipush (-2), 2), (53, .if_icmp .ne 8, 3), (56, .iload 5, 2), (58, .goto 4, 3), (61, .iload_n 2, 1), (62, .istore_n 2, 1), (63, .iload 4, 2), (65, .iload_n 3, 1), (66, .iload 5, 2), (68, .iconst 1, 1), (69, .isub, 1), (70, .if_icmp .ne 9, 3), (73, .iload_n 2, 1), (74, .iload 5, 2), (76, .if_icmp .ne 7, 3), (79, .iconst 1, 1), (80, .goto 4, 3), (83, .iconst 0, 1), (84, .iadd, 1), (85, .istore 4, 2), (87, .iload 5, 2), (89, .istore_n 3, 1), (90, .iinc 5 1, 3), (93, .goto (-62), 3), (96, .aload_n 0, 1), (97, .invokevirtual 440, 3), (100, .istore 5, 2), (102, .iload_n 1, 1), (103, .tableswitch 129 0 7 #[45, 56, 71, 73, 75, 78, 96, 114], 45), (148, .iload 5, 2), (150, .ifCond .le 7, 3), (153, .iconst 1, 1), (154, .goto 4, 3), (157, .iconst 0, 1), (158, .ireturn, 1), (159, .iload 5, 2), (161, .aload_n 0, 1), (162, .invokevirtual 424, 3), (165, .if_icmp .ne 7, 3), (168, .iconst 1, 1), (169, .goto 4, 3), (172, .iconst 0, 1), (173, .ireturn, 1), (174, .iload_n 2, 1), (175, .ireturn, 1), (176, .iload_n 3, 1), (177, .ireturn, 1), (178, .iload 4, 2), (180, .ireturn, 1), (181, .iload 5, 2), (183, .ifCond .le 14, 3), (186, .iload_n 2, 1), (187, .iconst 2, 1), (188, .irem, 1), (189, .iconst 1, 1), (190, .if_icmp .ne 7, 3), (193, .iconst 1, 1), (194, .goto 4, 3), (197, .iconst 0, 1), (198, .ireturn, 1), (199, .iload 5, 2), (201, .ifCond .le 14, 3), (204, .iload_n 3, 1), (205, .iconst 2, 1), (206, .irem, 1), (207, .iconst 1, 1), (208, .if_icmp .ne 7, 3), (211, .iconst 1, 1), (212, .goto 4, 3), (215, .iconst 0, 1), (216, .ireturn, 1), (217, .aload_n 0, 1), (218, .getfield 122, 3), (221, .iconst 0, 1), (222, .baload, 1), (223, .ifCond .eq 7, 3), (226, .iconst 1, 1), (227, .goto 4, 3), (230, .iconst 0, 1), (231, .ireturn, 1), (232, .aload_n 0, 1), (233, .getfield 122, 3), (236, .aload_n 0, 1), (237, .invokevirtual 424, 3), (240, .iconst 1, 1), (241, .isub, 1), (242, .baload, 1), (243, .ifCond .eq 7, 3), (246, .iconst 1, 1), (247, .goto 4, 3), (250, .iconst 0, 1), (251, .ireturn, 1)]
def rm_k_X10_judge : List rm_K5 := [(430, 0, 10, 5, 0), (122, 0, 10, 54, 0)]
def rm_p_X10_judge : rm_M := (rm_c_X10_judge, rm_k_X10_judge, 6, 1, false, 10)
def rm_c_X10_load : List (Nat × Instr × Nat) := [(0, .aload_n 0, 1), (1, .iconst 0, 1), (2, .putfield 132, 3), (5, .aload_n 0, 1), (6, .bipush (-2), 2), (8, .putfield 13, 3), (11, .aload_n 0, 1), (12, .iconst 0, 1), (13, .putfield 135, 3), (16, .aload_n 0, 1), (17, .iconst 0, 1), (18, .putfield 430, 3), (21, .aload_n 0, 1), (22, .invokevirtual 434, 3), (25, .aload_n 0, 1), (26, .iconst 0, 1), (27, .putfield 129, 3), (30, .aload_n 0, 1), (31, .invokevirtual 152, 3), (34, .ifCond .ne 8, 3), (37, .aload_n 0, 1), (38, .getfield 132, 3), (41, .ireturn, 1), (42, .aload_n 0, 1), (43, .iconst 1, 1), (44, .putfield 430, 3), (47, .aload_n 0, 1), (48, .invokevirtual 437, 3), (51, .iconst 0, 1), (52, .ireturn, 1)]
def rm_k_X10_load : List rm_K5 := [(132, 0, 10, 2, 0), (13, 0, 10, 3, 0), (135, 0, 10, 4, 0), (430, 0, 10, 5, 0), (434, 3, 36, 0, 1), (129, 0, 10, 1, 0), (152, 3, 22, 0, 1)]
def rm_p_X10_load : rm_M := (rm_c_X10_load, rm_k_X10_load, 1, 1, false, 10)
def rm_c_X10_peek : List (Nat × Instr × Nat) := [(0, .aload_n 0, 1), (1, .getfield 135, 3), (4, .aload_n 0, 1), (5, .getfield 129, 3), (8, .if_icmp .ge 30, 3), (11, .aload_n 0, 1), (12, .getfield 7, 3), (15, .aload_n 0, 1), (16, .getfield 135, 3), (19, .iaload, 1), (20, .bipush 32, 2), (22, .if_icmp .ne 16, 3), (25, .aload_n 0, 1), (26, .dup, 1), (27, .getfield 135, 3), (30, .iconst 1, 1), (31, .iadd, 1), (32, .putfield 135, 3), (35, .goto (-35), 3), (38, .aload_n 0, 1), (39, .getfield 135, 3), (42, .aload_n 0, 1), (43, .getfield 129, 3), (46, .if_icmp .ge 15, 3), (49, .aload_n 0, 1), (50, .getfield 7, 3), (53, .aload_n 0, 1), (54, .getfield 135, 3), (57, .iaload, 1), (58, .goto 4, 3), (61, .iconst (-1), 1), (62, .ireturn, 1)]
def rm_k_X10_peek : List rm_K5 := [(135, 0, 10, 4, 0), (129, 0, 10, 1, 0), (7, 0, 10, 0, 0)]
def rm_p_X10_peek : rm_M := (rm_c_X10_peek, rm_k_X10_peek, 1, 1, false, 10)
def rm_c_X10_readAtom : List (Nat × Instr × Nat) := [(0, .aload_n 0, 1), (1, .invokevirtual 200, 3), (4, .aload_n 0, 1), (5, .invokevirtual 152, 3), (8, .ifCond .eq 10, 3), (11, .aload_n 0, 1), (12, .invokevirtual 141, 3), (15, .goto 4, 3), (18, .iconst (-1), 1), (19, .istore_n 1, 1), (20, .aload_n 0, 1), (21, .invokevirtual 152, 3), (24, .ifCond .eq 25, 3), (27, .iload_n 1, 1), (28, .bipush 61, 2), (30, .if_icmp .eq 19, 3), (33, .iload_n 1, 1), (34, .bipush 60, 2), (36, .if_icmp .eq 13, 3), (39, .iload_n 1, 1), (40, .bipush 62, 2), (42, .if_icmp .eq 7, 3), (45, .aload_n 0, 1), (46, .invokevirtual 182, 3), (49, .aload_n 0, 1), (50, .invokevirtual 152, 3), (53, .ifCond .eq 21, 3), (56, .aload_n 0, 1), (57, .getfield 203, 3), (60, .bipush 10, 2), (62, .if_icmp .ne 12, 3), (65, .aload_n 0, 1), (66, .iconst 3, 1), (67, .aload_n 0, 1), (68, .getfield 135, 3), (71, .invokevirtual 148, 3), (74, .aload_n 0, 1), (75, .invokevirtual 152, 3), (78, .ifCond .ne 4, 3), (81, .return_, 1), (82, .aload_n 0, 1), (83, .getfield 135, 3), (86, .istore_n 2, 1), (87, .aload_n 0, 1), (88, .dup, 1), (89, .getfield 135, 3), (92, .iconst 1, 1), (93, .iadd, 1), (94, .putfield 135, 3), (97, .iconst 0, 1), (98, .istore_n 3, 1), (99, .iload_n 3, 1), (100, .bipush 9, 2), (102, .if_icmp .ge 29, 3), (105, .aload_n 0, 1), (106, .getfield 17, 3), (109, .bipush 9, 2), (111, .aload_n 0, 1), (112, .getfield 203, 3), (115, .imul, 1), (116, .iload_n 3, 1), (117, .iadd, 1), (118, .aload_n 0, 1), (119, .getfield 34, 3), (122, .iload_n 3, 1), (123, .laload, 1), (124, .lastore, 1), (125, .iinc 3 1, 3), (128, .goto (-29), 3), (131, .aload_n 0, 1), (132, .invokevirtual 200, 3), (135, .iconst 0, 1), (136, .istore_n 3, 1), (137, .iload_n 3, 1), (138, .bipush 9, 2), (140, .if_icmp .ge 66, 3), (143, .aload_n 0, 1), (144, .invokevirtual 152, 3), (147, .ifCond .eq 59, 3), (150, .aload_n 0, 1), (151, .getfield 17, 3), (154, .bipush 9, 2), (156, .aload_n 0, 1), (157, .getfield 203, 3), (160, .imul, 1), (161, .iload_n 3, 1), (162, .iadd, 1), (163, .dup2, 1), (164, .laload, 1), (165, .aload_n 0, 1), (166, .getfield 34, 3), (169, .iload_n 3, 1), (170, .laload, 1), (171, .lsub, 1), (172, .lastore, 1), (173, .aload_n 0, 1), (174, .aload_n 0, 1), (175, .getfield 17, 3), (178, .bipush 9, 2), (180, .aload_n 0, 1), (181, .getfield 203, 3), (184, .imul, 1), (185, .iload_n 3, 1), (186, .iadd, 1), (187, .laload, 1), (188, .invokevirtual 163, 3), (191, .ifCond .ne 9, 3), (194, .aload_n 0, 1), (195, .iconst 3, 1), (196, .iload_n 2, 1), (197, .invokevirtual 148, 3), (200, .iinc 3 1, 3), (203, .goto (-66), 3), (206, .aload_n 0, 1), (207, .getfield 21, 3), (210, .aload_n 0, 1), (211, .getfield 203, 3), (214, .iload_n 1, 1), (215, .bipush 61, 2), (217, .if_icmp .ne 7, 3), (220, .iconst 0, 1), (221, .goto 14, 3), (224, .iload_n 1, 1), (225, .bipush 60, 2), (227, .if_icmp .ne 7, 3), (230, .iconst 1, 1), (231, .goto 4, 3), (234, .iconst 2, 1), (235, .iastore, 1), (236, .aload_n 0, 1), (237, .aload_n 0, 1), (238, .getfield 203, 3), (241, .invokevirtual 206, 3), (244, .aload_n 0, 1), (245, .dup, 1), (246, .getfield 203, 3), (249, .iconst 1, 1), (250, .iadd, 1), (251, .putfield 203, 3), (254, .return_, 1)]
def rm_k_X10_readAtom : List rm_K5 := [(200, 3, 35, 0, 1), (152, 3, 22, 0, 1), (141, 3, 33, 0, 1), (182, 3, 15, 0, 1), (203, 0, 10, 6, 0), (135, 0, 10, 4, 0), (148, 3, 20, 2, 1), (17, 0, 10, 7, 0), (34, 0, 10, 14, 0), (21, 0, 10, 8, 0)]
def rm_p_X10_readAtom : rm_M := (rm_c_X10_readAtom, rm_k_X10_readAtom, 4, 0, false, 10)
def rm_c_X10_readSum : List (Nat × Instr × Nat) := [(0, .aload_n 0, 1), (1, .iconst 0, 1), (2, .putfield 160, 3), (5, .aload_n 0, 1), (6, .invokevirtual 185, 3), (9, .iconst 1, 1), (10, .istore_n 1, 1), (11, .iconst 0, 1), (12, .istore_n 2, 1), (13, .iload_n 2, 1), (14, .ifCond .ne 160, 3), (17, .aload_n 0, 1), (18, .invokevirtual 152, 3), (21, .ifCond .eq 153, 3), (24, .aload_n 0, 1), (25, .invokevirtual 141, 3), (28, .istore_n 3, 1), (29, .iload_n 1, 1), (30, .ifCond .eq 12, 3), (33, .aload_n 0, 1), (34, .iload_n 3, 1), (35, .invokevirtual 188, 3), (38, .istore_n 1, 1), (39, .goto 132, 3), (42, .iload_n 3, 1), (43, .bipush 42, 2), (45, .if_icmp .ne 31, 3), (48, .aload_n 0, 1), (49, .getfield 52, 3), (52, .aload_n 0, 1), (53, .getfield 160, 3), (56, .aload_n 0, 1), (57, .getfield 135, 3), (60, .iastore, 1), (61, .aload_n 0, 1), (62, .dup, 1), (63, .getfield 135, 3), (66, .iconst 1, 1), (67, .iadd, 1), (68, .putfield 135, 3), (71, .iconst 1, 1), (72, .istore_n 1, 1), (73, .goto 98, 3), (76, .aload_n 0, 1), (77, .invokevirtual 191, 3), (80, .aload_n 0, 1), (81, .invokevirtual 152, 3), (84, .ifCond .eq 63, 3), (87, .iload_n 3, 1), (88, .bipush 43, 2), (90, .if_icmp .eq 9, 3), (93, .iload_n 3, 1), (94, .bipush 45, 2), (96, .if_icmp .ne 51, 3), (99, .aload_n 0, 1), (100, .getfield 46, 3), (103, .aload_n 0, 1), (104, .getfield 160, 3), (107, .iload_n 3, 1), (108, .bipush 43, 2), (110, .if_icmp .ne 7, 3), (113, .iconst 1, 1), (114, .goto 4, 3), (117, .iconst (-1), 1), (118, .iastore, 1), (119, .aload_n 0, 1), (120, .getfield 49, 3), (123, .aload_n 0, 1), (124, .getfield 160, 3), (127, .aload_n 0, 1), (128, .getfield 135, 3), (131, .iastore, 1), (132, .aload_n 0, 1), (133, .dup, 1), (134, .getfield 135, 3), (137, .iconst 1, 1), (138, .iadd, 1), (139, .putfield 135, 3), (142, .iconst 1, 1), (143, .istore_n 1, 1), (144, .goto 27, 3), (147, .aload_n 0, 1), (148, .invokevirtual 152, 3), (151, .ifCond .eq 18, 3), (154, .aload_n 0, 1), (155, .getfield 160, 3), (158, .ifCond .le 11, 3), (161, .aload_n 0, 1), (162, .iload_n 3, 1), (163, .invokevirtual 194, 3), (166, .goto 5, 3), (169, .iconst 1, 1), (170, .istore_n 2, 1), (171, .goto (-158), 3), (174, .return_, 1)]
def rm_k_X10_readSum : List rm_K5 := [(160, 0, 10, 21, 0), (185, 3, 14, 0, 1), (152, 3, 22, 0, 1), (141, 3, 33, 0, 1), (188, 3, 42, 1, 1), (52, 0, 10, 20, 0), (135, 0, 10, 4, 0), (46, 0, 10, 18, 0), (49, 0, 10, 19, 0)]
def rm_p_X10_readSum : rm_M := (rm_c_X10_readSum, rm_k_X10_readSum, 4, 0, false, 10)
def rm_c_X10_readText : List (Nat × Instr × Nat) := [(0, .aload_n 0, 1), (1, .iconst 0, 1), (2, .putfield 209, 3), (5, .aload_n 0, 1), (6, .iconst 0, 1), (7, .putfield 212, 3), (10, .aload_n 0, 1), (11, .iconst 0, 1), (12, .putfield 203, 3), (15, .iconst 0, 1), (16, .istore_n 1, 1), (17, .iconst 0, 1), (18, .istore_n 2, 1), (19, .iconst 1, 1), (20, .istore_n 3, 1), (21, .iconst 0, 1), (22, .istore 4, 2), (24, .iload 4, 2), (26, .ifCond .ne 266, 3), (29, .aload_n 0, 1), (30, .invokevirtual 152, 3), (33, .ifCond .eq 259, 3), (36, .aload_n 0, 1), (37, .invokevirtual 141, 3), (40, .istore 5, 2), (42, .iload_n 3, 1), (43, .ifCond .eq 46, 3), (46, .iload 5, 2), (48, .bipush 126, 2), (50, .if_icmp .ne 39, 3), (53, .iinc 2 1, 3), (56, .iload_n 2, 1), (57, .bipush 10, 2), (59, .if_icmp .le 12, 3), (62, .aload_n 0, 1), (63, .iconst 3, 1), (64, .aload_n 0, 1), (65, .getfield 135, 3), (68, .invokevirtual 148, 3), (71, .aload_n 0, 1), (72, .iconst (-1), 1), (73, .invokevirtual 215, 3), (76, .aload_n 0, 1), (77, .dup, 1), (78, .getfield 135, 3), (81, .iconst 1, 1), (82, .iadd, 1), (83, .putfield 135, 3), (86, .goto 203, 3), (89, .iload_n 3, 1), (90, .ifCond .eq 49, 3), (93, .iload 5, 2), (95, .bipush 91, 2), (97, .if_icmp .ne 42, 3), (100, .iinc 1 1, 3), (103, .iload_n 1, 1), (104, .bipush 10, 2), (106, .if_icmp .le 12, 3), (109, .aload_n 0, 1), (110, .iconst 3, 1), (111, .aload_n 0, 1), (112, .getfield 135, 3), (115, .invokevirtual 148, 3), (118, .iconst 0, 1), (119, .istore_n 2, 1), (120, .aload_n 0, 1), (121, .bipush (-4), 2), (123, .invokevirtual 215, 3), (126, .aload_n 0, 1), (127, .dup, 1), (128, .getfield 135, 3), (131, .iconst 1, 1), (132, .iadd, 1), (133, .putfield 135, 3), (136, .goto 153, 3), (139, .iload_n 3, 1), (140, .ifCond .eq 19, 3), (143, .aload_n 0, 1), (144, .invokevirtual 218, 3), (147, .iconst 0, 1), (148, .istore_n 3, 1), (149, .iconst 0, 1), (150, .istore_n 2, 1), (151, .aload_n 0, 1), (152, .iconst (-1), 1), (153, .invokevirtual 221, 3), (156, .goto 133, 3), (159, .iload 5, 2), (161, .bipush 38, 2), (163, .if_icmp .eq 10, 3), (166, .iload 5, 2), (168, .bipush 124, 2), (170, .if_icmp .ne 54, 3), (173, .aload_n 0, 1), (174, .iload 5, 2), (176, .bipush 38, 2), (178, .if_icmp .ne 8, 3), (181, .bipush (-2), 2), (183, .goto 5, 3), (186, .bipush (-3), 2), (188, .invokevirtual 221, 3), (191, .aload_n 0, 1), (192, .iload 5, 2), (194, .bipush 38, 2), (196, .if_icmp .ne 8, 3), (199, .bipush (-2), 2), (201, .goto 5, 3), (204, .bipush (-3), 2), (206, .invokevirtual 215, 3), (209, .iconst 1, 1), (210, .istore_n 3, 1), (211, .aload_n 0, 1), (212, .dup, 1), (213, .getfield 135, 3), (216, .iconst 1, 1), (217, .iadd, 1), (218, .putfield 135, 3), (221, .goto 68, 3), (224, .iload 5, 2), (226, .bipush 93, 2), (228, .if_icmp .ne 44, 3), (231, .iload_n 1, 1), (232, .ifCond .le 40, 3), (235, .aload_n 0, 1), (236, .bipush (-3), 2), (238, .invokevirtual 221, 3), (241, .aload_n 0, 1), (242, .dup, 1), (243, .getfield 212, 3), (246, .iconst 1, 1), (247, .isub, 1), (248, .putfield 212, 3), (251, .iinc 1 (-1), 3), (254, .aload_n 0, 1), (255, .dup, 1), (256, .getfield 135, 3), (259, .iconst 1, 1), (260, .iadd, 1), (261, .putfield 135, 3), (264, .aload_n 0, 1), (265, .iconst (-1), 1), (266, .invokevirtual 221, 3), (269, .goto 20, 3), (272, .iconst 1, 1), (273, .istore 4, 2), (275, .iload 5, 2), (277, .iconst (-1), 1), (278, .if_icmp .ne 7, 3), (281, .iload_n 1, 1), (282, .ifCond .le 7, 3), (285, .aload_n 0, 1), (286, .invokevirtual 182, 3), (289, .goto (-265), 3), (292, .aload_n 0, 1), (293, .bipush (-3), 2), (295, .invokevirtual 221, 3), (298, .return_, 1)]
def rm_k_X10_readText : List rm_K5 := [(209, 0, 10, 10, 0), (212, 0, 10, 12, 0), (203, 0, 10, 6, 0), (152, 3, 22, 0, 1), (141, 3, 33, 0, 1), (135, 0, 10, 4, 0), (148, 3, 20, 2, 1), (218, 3, 34, 0, 1), (221, 3, 38, 1, 1), (182, 3, 15, 0, 1)]
def rm_p_X10_readText : rm_M := (rm_c_X10_readText, rm_k_X10_readText, 6, 0, false, 10)
def rm_c_X10_root : List (Nat × Instr × Nat) := [(0, .aload_n 0, 1), (1, .iload_n 1, 1), (2, .invokevirtual 453, 3), (5, .ifCond .eq 13, 3), (8, .iload_n 2, 1), (9, .ifCond .lt 9, 3), (12, .iload_n 2, 1), (13, .bipush 8, 2), (15, .if_icmp .le 7, 3), (18, .ldc2_w 456, 3), (21, .lreturn, 1), (22, .lconst 1, 1), (23, .lstore_n 3, 1), (24, .iconst 0, 1), (25, .istore 5, 2), (27, .iload 5, 2), (29, .iload_n 2, 1), (30, .if_icmp .ge 15, 3), (33, .lload_n 3, 1), (34, .ldc2_w 458, 3), (37, .lmul, 1), (38, .lstore_n 3, 1), (39, .iinc 5 1, 3), (42, .goto (-15), 3), (45, .aload_n 0, 1), (46, .aload_n 0, 1), (47, .getfield 110, 3), (50, .iload_n 1, 1), (51, .iaload, 1), (52, .lload_n 3, 1), (53, .invokevirtual 460, 3), (56, .lreturn, 1)]
def rm_k_X10_root : List rm_K5 := [(453, 3, 29, 1, 1), (456, 5, 9446744073709551616, 0, 0), (458, 5, 10, 0, 0), (110, 0, 10, 49, 0)]
def rm_p_X10_root : rm_M := (rm_c_X10_root, rm_k_X10_root, 6, 3, false, 10)
def rm_c_X10_settle : List (Nat × Instr × Nat) := [(0, .aload_n 0, 1), (1, .getfield 212, 3), (4, .ifCond .le 60, 3), (7, .aload_n 0, 1), (8, .getfield 27, 3), (11, .aload_n 0, 1), (12, .getfield 212, 3), (15, .iconst 1, 1), (16, .isub, 1), (17, .iaload, 1), (18, .iload_n 1, 1), (19, .if_icmp .lt 45, 3), (22, .aload_n 0, 1), (23, .getfield 27, 3), (26, .aload_n 0, 1), (27, .getfield 212, 3), (30, .iconst 1, 1), (31, .isub, 1), (32, .iaload, 1), (33, .bipush (-4), 2), (35, .if_icmp .eq 29, 3), (38, .aload_n 0, 1), (39, .dup, 1), (40, .getfield 212, 3), (43, .iconst 1, 1), (44, .isub, 1), (45, .putfield 212, 3), (48, .aload_n 0, 1), (49, .aload_n 0, 1), (50, .getfield 27, 3), (53, .aload_n 0, 1), (54, .getfield 212, 3), (57, .iaload, 1), (58, .invokevirtual 206, 3), (61, .goto (-61), 3), (64, .return_, 1)]
def rm_k_X10_settle : List rm_K5 := [(212, 0, 10, 12, 0), (27, 0, 10, 11, 0)]
def rm_p_X10_settle : rm_M := (rm_c_X10_settle, rm_k_X10_settle, 2, 0, false, 10)
def rm_c_X10_sign : List (Nat × Instr × Nat) := [(0, .aload_n 0, 1), (1, .iload_n 1, 1), (2, .invokevirtual 447, 3), (5, .ifCond .eq 25, 3), (8, .aload_n 0, 1), (9, .iload_n 2, 1), (10, .invokevirtual 443, 3), (13, .ifCond .eq 17, 3), (16, .aload_n 0, 1), (17, .getfield 119, 3), (20, .bipush 10, 2), (22, .iload_n 1, 1), (23, .imul, 1), (24, .iload_n 2, 1), (25, .iadd, 1), (26, .iaload, 1), (27, .goto 5, 3), (30, .bipush (-2), 2), (32, .ireturn, 1)]
def rm_k_X10_sign : List rm_K5 := [(447, 3, 26, 1, 1), (443, 3, 25, 1, 1), (119, 0, 10, 53, 0)]
def rm_p_X10_sign : rm_M := (rm_c_X10_sign, rm_k_X10_sign, 3, 1, false, 10)
def rm_c_X10_signAt : List (Nat × Instr × Nat) := [(0, .aload_n 0, 1), (1, .iload_n 1, 1), (2, .invokevirtual 443, 3), (5, .ifCond .eq 11, 3), (8, .iload_n 2, 1), (9, .iload_n 3, 1), (10, .invokestatic 477, 3), (13, .ifCond .ne 6, 3), (16, .bipush (-2), 2), (18, .ireturn, 1), (19, .aload_n 0, 1), (20, .iload_n 1, 1), (21, .invokevirtual 418, 3), (24, .istore 4, 2), (26, .iload 4, 2), (28, .ifCond .ge 5, 3), (31, .iconst 0, 1), (32, .ireturn, 1), (33, .aload_n 0, 1), (34, .getfield 224, 3), (37, .istore 5, 2), (39, .aload_n 0, 1), (40, .aload_n 0, 1), (41, .getfield 17, 3), (44, .bipush 9, 2), (46, .iload_n 1, 1), (47, .imul, 1), (48, .iload 4, 2), (50, .iadd, 1), (51, .laload, 1), (52, .invokevirtual 275, 3), (55, .istore 6, 2), (57, .aload_n 0, 1), (58, .lconst 1, 1), (59, .invokevirtual 275, 3), (62, .istore 7, 2), (64, .iload 4, 2), (66, .iconst 1, 1), (67, .isub, 1), (68, .istore 8, 2), (70, .iload 8, 2), (72, .ifCond .lt 63, 3), (75, .aload_n 0, 1), (76, .iload 7, 2), (78, .aload_n 0, 1), (79, .iload_n 3, 1), (80, .i2l, 1), (81, .invokevirtual 275, 3), (84, .invokevirtual 282, 3), (87, .istore 7, 2), (89, .aload_n 0, 1), (90, .aload_n 0, 1), (91, .iload 6, 2), (93, .aload_n 0, 1), (94, .iload_n 2, 1), (95, .i2l, 1), (96, .invokevirtual 275, 3), (99, .invokevirtual 282, 3), (102, .aload_n 0, 1), (103, .aload_n 0, 1), (104, .aload_n 0, 1), (105, .getfield 17, 3), (108, .bipush 9, 2), (110, .iload_n 1, 1), (111, .imul, 1), (112, .iload 8, 2), (114, .iadd, 1), (115, .laload, 1), (116, .invokevirtual 275, 3), (119, .iload 7, 2), (121, .invokevirtual 282, 3), (124, .invokevirtual 251, 3), (127, .istore 6, 2), (129, .iinc 8 (-1), 3), (132, .goto (-62), 3), (135, .aload_n 0, 1), (136, .iload 6, 2), (138, .invokevirtual 237, 3), (141, .istore 8, 2), (143, .aload_n 0, 1), (144, .iload 5, 2), (146, .putfield 224, 3), (149, .iload 8, 2), (151, .ireturn, 1)]
def rm_k_X10_signAt : List rm_K5 := [(443, 3, 25, 1, 1), (477, 3, 28, 2, 0), (224, 0, 10, 24, 0), (17, 0, 10, 7, 0)]
def rm_p_X10_signAt : rm_M := (rm_c_X10_signAt, rm_k_X10_signAt, 9, 1, false, 10)
def rm_c_X10_simple : List (Nat × Instr × Nat) := [(0, .aload_n 0, 1), (1, .iload_n 1, 1), (2, .invokevirtual 447, 3), (5, .ifCond .eq 12, 3), (8, .iload_n 2, 1), (9, .ifCond .lt 8, 3), (12, .iload_n 2, 1), (13, .iconst 1, 1), (14, .if_icmp .le 7, 3), (17, .ldc2_w 466, 3), (20, .lreturn, 1), (21, .iload_n 1, 1), (22, .iconst 2, 1), (23, .irem, 1), (24, .iconst 1, 1), (25, .if_icmp .ne 68, 3), (28, .aload_n 0, 1), (29, .getfield 110, 3), (32, .iload_n 1, 1), (33, .iconst 2, 1), (34, .idiv, 1), (35, .iaload, 1), (36, .istore_n 3, 1), (37, .aload_n 0, 1), (38, .getfield 95, 3), (41, .iload_n 3, 1), (42, .laload, 1), (43, .lconst 0, 1), (44, .lcmp, 1), (45, .ifCond .ne 9, 3), (48, .ldc2_w 464, 3), (51, .goto 41, 3), (54, .aload_n 0, 1), (55, .getfield 95, 3), (58, .iload_n 3, 1), (59, .laload, 1), (60, .ldc2_w 468, 3), (63, .lcmp, 1), (64, .ifCond .le 9, 3), (67, .ldc2_w 470, 3), (70, .goto 22, 3), (73, .iload_n 2, 1), (74, .ifCond .ne 12, 3), (77, .aload_n 0, 1), (78, .getfield 92, 3), (81, .iload_n 3, 1), (82, .laload, 1), (83, .goto 9, 3), (86, .aload_n 0, 1), (87, .getfield 95, 3), (90, .iload_n 3, 1), (91, .laload, 1), (92, .lreturn, 1), (93, .iload_n 1, 1), (94, .ifCond .le 7, 3), (97, .iconst 1, 1), (98, .goto 4, 3), (101, .iconst 0, 1), (102, .istore_n 3, 1), (103, .iload_n 1, 1), (104, .aload_n 0, 1), (105, .invokevirtual 424, 3), (108, .iconst 1, 1), (109, .isub, 1), (110, .if_icmp .ge 7, 3), (113, .iconst 1, 1), (114, .goto 4, 3), (117, .iconst 0, 1), (118, .istore 4, 2), (120, .lconst 1, 1), (121, .lstore 5, 2), (123, .lload 5, 2), (125, .ldc2_w 468, 3), (128, .lcmp, 1), (129, .ifCond .gt 160, 3), (132, .iload_n 3, 1), (133, .ifCond .eq 24, 3), (136, .aload_n 0, 1), (137, .aload_n 0, 1), (138, .getfield 110, 3), (141, .iload_n 1, 1), (142, .iconst 2, 1), (143, .idiv, 1), (144, .iconst 1, 1), (145, .isub, 1), (146, .iaload, 1), (147, .lload 5, 2), (149, .invokevirtual 460, 3), (152, .lconst 1, 1), (153, .ladd, 1), (154, .goto 4, 3), (157, .lconst 0, 1), (158, .lstore 7, 2), (160, .iload 4, 2), (162, .ifCond .eq 20, 3), (165, .aload_n 0, 1), (166, .aload_n 0, 1), (167, .getfield 110, 3), (170, .iload_n 1, 1), (171, .iconst 2, 1), (172, .idiv, 1), (173, .iaload, 1), (174, .lload 5, 2), (176, .invokevirtual 472, 3), (179, .goto 4, 3), (182, .lconst 0, 1), (183, .lstore 9, 2), (185, .iload_n 3, 1), (186, .ifCond .eq 10, 3), (189, .lload 7, 2), (191, .lconst 0, 1), (192, .lcmp, 1), (193, .ifCond .gt 19, 3), (196, .iload 4, 2), (198, .ifCond .eq 10, 3), (201, .lload 9, 2), (203, .lconst 0, 1), (204, .lcmp, 1), (205, .ifCond .lt 7, 3), (208, .iconst 1, 1), (209, .goto 4, 3), (212, .iconst 0, 1), (213, .istore 11, 2), (215, .iload 11, 2), (217, .ifCond .eq 14, 3), (220, .iload_n 2, 1), (221, .ifCond .ne 7, 3), (224, .lconst 0, 1), (225, .goto 5, 3), (228, .lload 5, 2), (230, .lreturn, 1), (231, .iload_n 3, 1), (232, .ifCond .eq 16, 3), (235, .iload 4, 2), (237, .ifCond .eq 11, 3), (240, .lload 7, 2), (242, .lload 9, 2), (244, .lcmp, 1), (245, .ifCond .gt 35, 3), (248, .iload_n 3, 1), (249, .ifCond .eq 15, 3), (252, .lload 7, 2), (254, .lconst 0, 1), (255, .lcmp, 1), (256, .ifCond .le 8, 3), (259, .lload 7, 2), (261, .goto 5, 3), (264, .lload 9, 2), (266, .lstore 12, 2), (268, .iload_n 2, 1), (269, .ifCond .ne 8, 3), (272, .lload 12, 2), (274, .goto 5, 3), (277, .lload 5, 2), (279, .lreturn, 1), (280, .lload 5, 2), (282, .lconst 1, 1), (283, .ladd, 1), (284, .lstore 5, 2), (286, .goto (-163), 3), (289, .ldc2_w 470, 3), (292, .lreturn, 1)]
def rm_k_X10_simple : List rm_K5 := [(447, 3, 26, 1, 1), (466, 5, 9446744073709551615, 0, 0), (110, 0, 10, 49, 0), (95, 0, 10, 44, 0), (464, 5, 9446744073709551614, 0, 0), (468, 5, 2000, 0, 0), (470, 5, 9446744073709551613, 0, 0), (92, 0, 10, 43, 0)]
def rm_p_X10_simple : rm_M := (rm_c_X10_simple, rm_k_X10_simple, 14, 3, false, 10)
def rm_c_X10_takeBase : List (Nat × Instr × Nat) := [(0, .iconst 0, 1), (1, .istore_n 2, 1), (2, .iload_n 2, 1), (3, .bipush 9, 2), (5, .if_icmp .ge 24, 3), (8, .aload_n 0, 1), (9, .getfield 40, 3), (12, .bipush 9, 2), (14, .aload_n 0, 1), (15, .getfield 160, 3), (18, .imul, 1), (19, .iload_n 2, 1), (20, .iadd, 1), (21, .lconst 0, 1), (22, .lastore, 1), (23, .iinc 2 1, 3), (26, .goto (-24), 3), (29, .iload_n 1, 1), (30, .invokestatic 138, 3), (33, .ifCond .eq 23, 3), (36, .aload_n 0, 1), (37, .getfield 40, 3), (40, .bipush 9, 2), (42, .aload_n 0, 1), (43, .getfield 160, 3), (46, .imul, 1), (47, .aload_n 0, 1), (48, .invokevirtual 176, 3), (51, .i2l, 1), (52, .lastore, 1), (53, .goto 93, 3), (56, .iload_n 1, 1), (57, .bipush 120, 2), (59, .if_icmp .ne 31, 3), (62, .aload_n 0, 1), (63, .getfield 40, 3), (66, .bipush 9, 2), (68, .aload_n 0, 1), (69, .getfield 160, 3), (72, .imul, 1), (73, .iconst 1, 1), (74, .iadd, 1), (75, .lconst 1, 1), (76, .lastore, 1), (77, .aload_n 0, 1), (78, .dup, 1), (79, .getfield 135, 3), (82, .iconst 1, 1), (83, .iadd, 1), (84, .putfield 135, 3), (87, .goto 59, 3), (90, .iload_n 1, 1), (91, .bipush 40, 2), (93, .if_icmp .ne 49, 3), (96, .aload_n 0, 1), (97, .getfield 160, 3), (100, .bipush 10, 2), (102, .if_icmp .ne 14, 3), (105, .aload_n 0, 1), (106, .iconst 3, 1), (107, .aload_n 0, 1), (108, .getfield 135, 3), (111, .invokevirtual 148, 3), (114, .iconst 1, 1), (115, .ireturn, 1), (116, .aload_n 0, 1), (117, .dup, 1), (118, .getfield 135, 3), (121, .iconst 1, 1), (122, .iadd, 1), (123, .putfield 135, 3), (126, .aload_n 0, 1), (127, .dup, 1), (128, .getfield 160, 3), (131, .iconst 1, 1), (132, .iadd, 1), (133, .putfield 160, 3), (136, .aload_n 0, 1), (137, .invokevirtual 185, 3), (140, .iconst 1, 1), (141, .ireturn, 1), (142, .aload_n 0, 1), (143, .invokevirtual 182, 3), (146, .aload_n 0, 1), (147, .invokevirtual 152, 3), (150, .ifCond .eq 7, 3), (153, .aload_n 0, 1), (154, .invokevirtual 197, 3), (157, .iconst 0, 1), (158, .ireturn, 1)]
def rm_k_X10_takeBase : List rm_K5 := [(40, 0, 10, 16, 0), (160, 0, 10, 21, 0), (138, 3, 27, 1, 0), (135, 0, 10, 4, 0), (148, 3, 20, 2, 1), (185, 3, 14, 0, 1), (182, 3, 15, 0, 1), (152, 3, 22, 0, 1)]
def rm_p_X10_takeBase : rm_M := (rm_c_X10_takeBase, rm_k_X10_takeBase, 3, 2, false, 10)
def rm_c_X10_times : List (Nat × Instr × Nat) := [(0, .aload_n 0, 1), (1, .iload_n 1, 1), (2, .invokevirtual 453, 3), (5, .ifCond .eq 11, 3), (8, .aload_n 0, 1), (9, .iload_n 2, 1), (10, .invokevirtual 443, 3), (13, .ifCond .ne 7, 3), (16, .iconst (-1), 1), (17, .goto 22, 3), (20, .aload_n 0, 1), (21, .iload_n 2, 1), (22, .invokevirtual 418, 3), (25, .ifCond .ge 8, 3), (28, .bipush (-2), 2), (30, .goto 9, 3), (33, .aload_n 0, 1), (34, .iload_n 1, 1), (35, .iload_n 2, 1), (36, .invokevirtual 421, 3), (39, .ireturn, 1)]
def rm_k_X10_times : List rm_K5 := [(453, 3, 29, 1, 1), (443, 3, 25, 1, 1)]
def rm_p_X10_times : rm_M := (rm_c_X10_times, rm_k_X10_times, 3, 1, false, 10)
def rm_c_X10_type : List (Nat × Instr × Nat) := [(0, .iload_n 1, 1), (1, .invokestatic 125, 3), (4, .ifCond .eq 13, 3), (7, .aload_n 0, 1), (8, .getfield 129, 3), (11, .sipush 400, 3), (14, .if_icmp .ne 5, 3), (17, .iconst (-1), 1), (18, .ireturn, 1), (19, .aload_n 0, 1), (20, .getfield 7, 3), (23, .aload_n 0, 1), (24, .getfield 129, 3), (27, .iload_n 1, 1), (28, .iastore, 1), (29, .aload_n 0, 1), (30, .dup, 1), (31, .getfield 129, 3), (34, .iconst 1, 1), (35, .iadd, 1), (36, .putfield 129, 3), (39, .aload_n 0, 1), (40, .getfield 129, 3), (43, .ireturn, 1)]
def rm_k_X10_type : List rm_K5 := [(125, 3, 30, 1, 0), (129, 0, 10, 1, 0), (7, 0, 10, 0, 0)]
def rm_p_X10_type : rm_M := (rm_c_X10_type, rm_k_X10_type, 2, 1, false, 10)
def rm_c_X1_init : List (Nat × Instr × Nat) := [(0, .aload_n 0, 1), (1, .invokespecial 1, 3), (4, .aload_n 0, 1), (5, .iconst 2, 1), (6, .iload_n 1, 1), (7, .invokestatic 7, 3), (10, .newarray .int, 2), (12, .putfield 13, 3), (15, .return_, 1)]
def rm_k_X1_init : List rm_K5 := [(1, 3, 0, 0, 3), (7, 3, 10, 2, 0), (13, 0, 1, 0, 0)]
def rm_p_X1_init : rm_M := (rm_c_X1_init, rm_k_X1_init, 2, 0, true, 1)
def rm_c_X1_set : List (Nat × Instr × Nat) := [(0, .aload_n 0, 1), (1, .lload_n 1, 1), (2, .lconst 0, 1), (3, .invokestatic 19, 3), (6, .putfield 25, 3), (9, .aload_n 0, 1), (10, .iconst 0, 1), (11, .putfield 29, 3), (14, .lload_n 1, 1), (15, .invokestatic 32, 3), (18, .lstore_n 3, 1), (19, .lload_n 3, 1), (20, .lconst 0, 1), (21, .lcmp, 1), (22, .ifCond .eq 40, 3), (25, .aload_n 0, 1), (26, .getfield 29, 3), (29, .iconst 2, 1), (30, .if_icmp .ge 32, 3), (33, .aload_n 0, 1), (34, .getfield 13, 3), (37, .aload_n 0, 1), (38, .getfield 29, 3), (41, .lload_n 3, 1), (42, .l2i, 1), (43, .iastore, 1), (44, .aload_n 0, 1), (45, .dup, 1), (46, .getfield 29, 3), (49, .iconst 1, 1), (50, .iadd, 1), (51, .putfield 29, 3), (54, .lload_n 3, 1), (55, .bipush 32, 2), (57, .lushr, 1), (58, .lstore_n 3, 1), (59, .goto (-40), 3), (62, .return_, 1)]
def rm_k_X1_set : List rm_K5 := [(19, 3, 5, 2, 0), (25, 0, 1, 2, 0), (29, 0, 1, 1, 0), (32, 3, 9, 1, 0), (13, 0, 1, 0, 0)]
def rm_p_X1_set : rm_M := (rm_c_X1_set, rm_k_X1_set, 5, 0, false, 1)
def rm_c_X2_init : List (Nat × Instr × Nat) := [(0, .aload_n 0, 1), (1, .invokespecial 3, 3), (4, .aload_n 0, 1), (5, .bipush 9, 2), (7, .newarray .long, 2), (9, .putfield 9, 3), (12, .aload_n 0, 1), (13, .bipush 9, 2), (15, .newarray .long, 2), (17, .putfield 15, 3), (20, .aload_n 0, 1), (21, .bipush 9, 2), (23, .newarray .long, 2), (25, .putfield 18, 3), (28, .aload_n 0, 1), (29, .bipush 9, 2), (31, .newarray .long, 2), (33, .putfield 21, 3), (36, .aload_n 0, 1), (37, .bipush 9, 2), (39, .newarray .long, 2), (41, .putfield 24, 3), (44, .aload_n 0, 1), (45, .new 27, 3), (48, .dup, 1), (49, .invokespecial 29, 3), (52, .putfield 30, 3), (55, .aload_n 0, 1), (56, .new 27, 3), (59, .dup, 1), (60, .invokespecial 29, 3), (63, .putfield 34, 3), (66, .aload_n 0, 1), (67, .new 27, 3), (70, .dup, 1), (71, .invokespecial 29, 3), (74, .putfield 37, 3), (77, .return_, 1)]
def rm_k_X2_init : List rm_K5 := [(3, 3, 0, 0, 3), (9, 0, 2, 0, 0), (15, 0, 2, 1, 0), (18, 0, 2, 2, 0), (21, 0, 2, 3, 0), (24, 0, 2, 4, 0), (27, 1, 6, 2, 5), (29, 3, 51, 0, 2), (30, 0, 2, 5, 0), (34, 0, 2, 6, 0), (37, 0, 2, 7, 0)]
def rm_p_X2_init : rm_M := (rm_c_X2_init, rm_k_X2_init, 1, 0, true, 2)
def rm_c_X3_init : List (Nat × Instr × Nat) := [(0, .aload_n 0, 1), (1, .invokespecial 3, 3), (4, .aload_n 0, 1), (5, .new 9, 3), (8, .dup, 1), (9, .invokespecial 11, 3), (12, .putfield 12, 3), (15, .aload_n 0, 1), (16, .new 18, 3), (19, .dup, 1), (20, .invokespecial 20, 3), (23, .putfield 21, 3), (26, .aload_n 0, 1), (27, .bipush 80, 2), (29, .anewarray 25, 3), (32, .putfield 27, 3), (35, .iconst 0, 1), (36, .istore_n 1, 1), (37, .iload_n 1, 1), (38, .bipush 80, 2), (40, .if_icmp .ge 22, 3), (43, .aload_n 0, 1), (44, .getfield 27, 3), (47, .iload_n 1, 1), (48, .new 25, 3), (51, .dup, 1), (52, .invokespecial 31, 3), (55, .aastore, 1), (56, .iinc 1 1, 3), (59, .goto (-22), 3), (62, .aload_n 0, 1), (63, .new 32, 3), (66, .dup, 1), (67, .invokespecial 34, 3), (70, .putfield 35, 3), (73, .aload_n 0, 1), (74, .new 39, 3), (77, .dup, 1), (78, .iconst 1, 1), (79, .invokespecial 41, 3), (82, .putfield 44, 3), (85, .aload_n 0, 1), (86, .getfield 44, 3), (89, .lconst 1, 1), (90, .invokevirtual 48, 3), (93, .aload_n 0, 1), (94, .new 39, 3), (97, .dup, 1), (98, .bipush 24, 2), (100, .invokespecial 41, 3), (103, .putfield 52, 3), (106, .aload_n 0, 1), (107, .new 39, 3), (110, .dup, 1), (111, .bipush 24, 2), (113, .invokespecial 41, 3), (116, .putfield 55, 3), (119, .aload_n 0, 1), (120, .new 39, 3), (123, .dup, 1), (124, .bipush 24, 2), (126, .invokespecial 41, 3), (129, .putfield 58, 3), (132, .aload_n 0, 1), (133, .new 39, 3), (136, .dup, 1), (137, .bipush 24, 2), (139, .invokespecial 41, 3), (142, .putfield 61, 3), (145, .aload_n 0, 1), (146, .new 39, 3), (149, .dup, 1), (150, .sipush 196, 3), (153, .invokespecial 41, 3), (156, .putfield 64, 3), (159, .aload_n 0, 1), (160, .new 39, 3), (163, .dup, 1), (164, .sipush 196, 3), (167, .invokespecial 41, 3), (170, .putfield 67, 3), (173, .aload_n 0, 1), (174, .new 39, 3), (177, .dup, 1), (178, .bipush 24, 2), (180, .invokespecial 41, 3), (183, .putfield 70, 3), (186, .aload_n 0, 1), (187, .new 39, 3), (190, .dup, 1), (191, .sipush 196, 3), (194, .invokespecial 41, 3), (197, .putfield 73, 3), (200, .aload_n 0, 1), (201, .new 39, 3), (204, .dup, 1), (205, .sipush 196, 3), (208, .invokespecial 41, 3), (211, .putfield 76, 3), (214, .aload_n 0, 1), (215, .new 39, 3), (218, .dup, 1), (219, .sipush 196, 3), (222, .invokespecial 41, 3), (225, .putfield 79, 3), (228, .aload_n 0, 1), (229, .new 39, 3), (232, .dup, 1), (233, .sipush 196, 3), (236, .invokespecial 41, 3), (239, .putfield 82, 3), (242, .return_, 1)]
def rm_k_X3_init : List rm_K5 := [(3, 3, 0, 0, 3), (9, 1, 0, 8, 0), (11, 3, 12, 0, 2), (12, 0, 3, 0, 0), (18, 1, 5, 6, 0), (20, 3, 50, 0, 2), (21, 0, 3, 1, 0), (25, 1, 8, 10, 7), (27, 0, 3, 2, 0), (31, 3, 68, 0, 2), (32, 1, 6, 2, 5), (34, 3, 51, 0, 2), (35, 0, 3, 4, 0), (39, 1, 1, 3, 6), (41, 3, 45, 1, 2), (44, 0, 3, 5, 0), (48, 3, 46, 1, 1), (52, 0, 3, 6, 0), (55, 0, 3, 7, 0), (58, 0, 3, 8, 0), (61, 0, 3, 9, 0), (64, 0, 3, 10, 0), (67, 0, 3, 11, 0), (70, 0, 3, 12, 0), (73, 0, 3, 13, 0), (76, 0, 3, 14, 0), (79, 0, 3, 15, 0), (82, 0, 3, 16, 0)]
def rm_p_X3_init : rm_M := (rm_c_X3_init, rm_k_X3_init, 2, 0, true, 3)
def rm_c_X4_init : List (Nat × Instr × Nat) := [(0, .aload_n 0, 1), (1, .invokespecial 3, 3), (4, .aload_n 0, 1), (5, .new 9, 3), (8, .dup, 1), (9, .invokespecial 11, 3), (12, .putfield 12, 3), (15, .aload_n 0, 1), (16, .new 18, 3), (19, .dup, 1), (20, .invokespecial 20, 3), (23, .putfield 21, 3), (26, .aload_n 0, 1), (27, .aload_n 0, 1), (28, .getfield 21, 3), (31, .getfield 25, 3), (34, .putfield 29, 3), (37, .aload_n 0, 1), (38, .bipush 80, 2), (40, .newarray .int, 2), (42, .putfield 30, 3), (45, .aload_n 0, 1), (46, .sipush 1610, 3), (49, .newarray .byte, 2), (51, .putfield 34, 3), (54, .aload_n 0, 1), (55, .sipush 161, 3), (58, .newarray .boolean, 2), (60, .putfield 38, 3), (63, .aload_n 0, 1), (64, .sipush 161, 3), (67, .newarray .long, 2), (69, .putfield 42, 3), (72, .aload_n 0, 1), (73, .sipush 161, 3), (76, .newarray .int, 2), (78, .putfield 46, 3), (81, .return_, 1)]
def rm_k_X4_init : List rm_K5 := [(3, 3, 0, 0, 3), (9, 1, 7, 14, 0), (11, 3, 54, 0, 2), (12, 0, 4, 0, 0), (18, 1, 3, 17, 0), (20, 3, 48, 0, 2), (21, 0, 4, 1, 0), (25, 0, 3, 0, 1), (29, 0, 4, 2, 0), (30, 0, 4, 3, 0), (34, 0, 4, 5, 0), (38, 0, 4, 6, 0), (42, 0, 4, 11, 0), (46, 0, 4, 12, 0)]
def rm_p_X4_init : rm_M := (rm_c_X4_init, rm_k_X4_init, 1, 0, true, 4)
def rm_c_X5_init : List (Nat × Instr × Nat) := [(0, .aload_n 0, 1), (1, .invokespecial 3, 3), (4, .aload_n 0, 1), (5, .bipush 9, 2), (7, .anewarray 9, 3), (10, .putfield 11, 3), (13, .aload_n 0, 1), (14, .bipush 9, 2), (16, .anewarray 9, 3), (19, .putfield 17, 3), (22, .iconst 0, 1), (23, .istore_n 1, 1), (24, .iload_n 1, 1), (25, .bipush 8, 2), (27, .if_icmp .gt 39, 3), (30, .aload_n 0, 1), (31, .getfield 11, 3), (34, .iload_n 1, 1), (35, .new 9, 3), (38, .dup, 1), (39, .bipush 80, 2), (41, .invokespecial 20, 3), (44, .aastore, 1), (45, .aload_n 0, 1), (46, .getfield 17, 3), (49, .iload_n 1, 1), (50, .new 9, 3), (53, .dup, 1), (54, .bipush 80, 2), (56, .invokespecial 20, 3), (59, .aastore, 1), (60, .iinc 1 1, 3), (63, .goto (-39), 3), (66, .aload_n 0, 1), (67, .new 9, 3), (70, .dup, 1), (71, .bipush 24, 2), (73, .invokespecial 20, 3), (76, .putfield 25, 3), (79, .aload_n 0, 1), (80, .new 9, 3), (83, .dup, 1), (84, .iconst 1, 1), (85, .invokespecial 20, 3), (88, .putfield 29, 3), (91, .aload_n 0, 1), (92, .getfield 29, 3), (95, .lconst 1, 1), (96, .invokevirtual 32, 3), (99, .return_, 1)]
def rm_k_X5_init : List rm_K5 := [(3, 3, 0, 0, 3), (9, 1, 1, 3, 6), (11, 0, 5, 0, 0), (17, 0, 5, 1, 0), (20, 3, 45, 1, 2), (25, 0, 5, 2, 0), (29, 0, 5, 3, 0), (32, 3, 46, 1, 1)]
def rm_p_X5_init : rm_M := (rm_c_X5_init, rm_k_X5_init, 2, 0, true, 5)
def rm_c_X6_init : List (Nat × Instr × Nat) := [(0, .aload_n 0, 1), (1, .invokespecial 3, 3), (4, .aload_n 0, 1), (5, .bipush 9, 2), (7, .newarray .long, 2), (9, .putfield 9, 3), (12, .aload_n 0, 1), (13, .iconst (-1), 1), (14, .putfield 15, 3), (17, .return_, 1)]
def rm_k_X6_init : List rm_K5 := [(3, 3, 0, 0, 3), (9, 0, 6, 1, 0), (15, 0, 6, 0, 0)]
def rm_p_X6_init : rm_M := (rm_c_X6_init, rm_k_X6_init, 1, 0, true, 6)
def rm_c_X6_setConstant : List (Nat × Instr × Nat) := [(0, .iconst 1, 1), (1, .istore_n 3, 1), (2, .iload_n 3, 1), (3, .bipush 8, 2), (5, .if_icmp .gt 16, 3), (8, .aload_n 0, 1), (9, .getfield 9, 3), (12, .iload_n 3, 1), (13, .lconst 0, 1), (14, .lastore, 1), (15, .iinc 3 1, 3), (18, .goto (-16), 3), (21, .aload_n 0, 1), (22, .getfield 9, 3), (25, .iconst 0, 1), (26, .lload_n 1, 1), (27, .lastore, 1), (28, .aload_n 0, 1), (29, .lload_n 1, 1), (30, .lconst 0, 1), (31, .lcmp, 1), (32, .ifCond .eq 7, 3), (35, .iconst 0, 1), (36, .goto 4, 3), (39, .iconst (-1), 1), (40, .putfield 15, 3), (43, .return_, 1)]
def rm_k_X6_setConstant : List rm_K5 := [(9, 0, 6, 1, 0), (15, 0, 6, 0, 0)]
def rm_p_X6_setConstant : rm_M := (rm_c_X6_setConstant, rm_k_X6_setConstant, 4, 0, false, 6)
def rm_c_X7_fail : List (Nat × Instr × Nat) := [(0, .aload_n 0, 1), (1, .getfield 53, 3), (4, .ifCond .ne 13, 3), (7, .aload_n 0, 1), (8, .iload_n 1, 1), (9, .putfield 53, 3), (12, .aload_n 0, 1), (13, .iload_n 2, 1), (14, .putfield 56, 3), (17, .aload_n 0, 1), (18, .iconst 1, 1), (19, .putfield 72, 3), (22, .return_, 1)]
def rm_k_X7_fail : List rm_K5 := [(53, 0, 7, 4, 0), (56, 0, 7, 5, 0), (72, 0, 7, 3, 0)]
def rm_p_X7_fail : rm_M := (rm_c_X7_fail, rm_k_X7_fail, 3, 0, false, 7)
def rm_c_X7_init : List (Nat × Instr × Nat) := [(0, .aload_n 0, 1), (1, .invokespecial 3, 3), (4, .aload_n 0, 1), (5, .sipush 400, 3), (8, .newarray .char, 2), (10, .putfield 9, 3), (13, .aload_n 0, 1), (14, .bipush 26, 2), (16, .anewarray 15, 3), (19, .putfield 17, 3), (22, .iconst 0, 1), (23, .istore_n 1, 1), (24, .iload_n 1, 1), (25, .bipush 26, 2), (27, .if_icmp .ge 22, 3), (30, .aload_n 0, 1), (31, .getfield 17, 3), (34, .iload_n 1, 1), (35, .new 15, 3), (38, .dup, 1), (39, .invokespecial 21, 3), (42, .aastore, 1), (43, .iinc 1 1, 3), (46, .goto (-22), 3), (49, .aload_n 0, 1), (50, .new 15, 3), (53, .dup, 1), (54, .invokespecial 21, 3), (57, .putfield 22, 3), (60, .aload_n 0, 1), (61, .bipush 9, 2), (63, .newarray .long, 2), (65, .putfield 26, 3), (68, .aload_n 0, 1), (69, .bipush 10, 2), (71, .anewarray 15, 3), (74, .putfield 30, 3), (77, .iconst 0, 1), (78, .istore_n 1, 1), (79, .iload_n 1, 1), (80, .bipush 10, 2), (82, .if_icmp .ge 22, 3), (85, .aload_n 0, 1), (86, .getfield 30, 3), (89, .iload_n 1, 1), (90, .new 15, 3), (93, .dup, 1), (94, .invokespecial 21, 3), (97, .aastore, 1), (98, .iinc 1 1, 3), (101, .goto (-22), 3), (104, .aload_n 0, 1), (105, .bipush 10, 2), (107, .newarray .int, 2), (109, .putfield 33, 3), (112, .aload_n 0, 1), (113, .sipush 160, 3), (116, .newarray .int, 2), (118, .putfield 37, 3), (121, .return_, 1)]
def rm_k_X7_init : List rm_K5 := [(3, 3, 0, 0, 3), (9, 0, 7, 0, 0), (15, 1, 6, 2, 5), (17, 0, 7, 6, 0), (21, 3, 51, 0, 2), (22, 0, 7, 7, 0), (26, 0, 7, 8, 0), (30, 0, 7, 9, 0), (33, 0, 7, 10, 0), (37, 0, 7, 12, 0)]
def rm_p_X7_init : rm_M := (rm_c_X7_init, rm_k_X7_init, 2, 0, true, 7)
def rm_c_X7_isDigit : List (Nat × Instr × Nat) := [(0, .iload_n 0, 1), (1, .bipush 48, 2), (3, .if_icmp .lt 13, 3), (6, .iload_n 0, 1), (7, .bipush 57, 2), (9, .if_icmp .gt 7, 3), (12, .iconst 1, 1), (13, .goto 4, 3), (16, .iconst 0, 1), (17, .ireturn, 1)]
def rm_k_X7_isDigit : List rm_K5 := []
def rm_p_X7_isDigit : rm_M := (rm_c_X7_isDigit, rm_k_X7_isDigit, 1, 2, false, 7)
def rm_c_X7_look : List (Nat × Instr × Nat) := [(0, .aload_n 0, 1), (1, .getfield 50, 3), (4, .aload_n 0, 1), (5, .getfield 46, 3), (8, .if_icmp .ge 30, 3), (11, .aload_n 0, 1), (12, .getfield 9, 3), (15, .aload_n 0, 1), (16, .getfield 50, 3), (19, .caload, 1), (20, .bipush 32, 2), (22, .if_icmp .ne 16, 3), (25, .aload_n 0, 1), (26, .dup, 1), (27, .getfield 50, 3), (30, .iconst 1, 1), (31, .iadd, 1), (32, .putfield 50, 3), (35, .goto (-35), 3), (38, .aload_n 0, 1), (39, .aload_n 0, 1), (40, .getfield 50, 3), (43, .aload_n 0, 1), (44, .getfield 46, 3), (47, .if_icmp .ge 15, 3), (50, .aload_n 0, 1), (51, .getfield 9, 3), (54, .aload_n 0, 1), (55, .getfield 50, 3), (58, .caload, 1), (59, .goto 4, 3), (62, .iconst 0, 1), (63, .putfield 72, 3), (66, .aload_n 0, 1), (67, .getfield 72, 3), (70, .ifCond .eq 35, 3), (73, .aload_n 0, 1), (74, .getfield 72, 3), (77, .invokestatic 79, 3), (80, .ifCond .ne 25, 3), (83, .ldc 83, 2), (85, .aload_n 0, 1), (86, .getfield 72, 3), (89, .i2c, 1), (90, .invokevirtual 85, 3), (93, .ifCond .ge 12, 3), (96, .aload_n 0, 1), (97, .iconst 1, 1), (98, .aload_n 0, 1), (99, .getfield 50, 3), (102, .invokevirtual 75, 3), (105, .return_, 1)]
def rm_k_X7_look : List rm_K5 := [(50, 0, 7, 2, 0), (46, 0, 7, 1, 0), (9, 0, 7, 0, 0), (72, 0, 7, 3, 0), (79, 3, 55, 1, 0), (85, 3, 1, 1, 4), (75, 3, 53, 2, 1)]
def rm_p_X7_look : rm_M := (rm_c_X7_look, rm_k_X7_look, 1, 0, false, 7)
def rm_c_X7_read : List (Nat × Instr × Nat) := [(0, .aload_n 0, 1), (1, .iload_n 1, 1), (2, .aload_n 0, 1), (3, .getfield 9, 3), (6, .arraylength, 1), (7, .invokestatic 40, 3), (10, .putfield 46, 3), (13, .aload_n 0, 1), (14, .iconst 0, 1), (15, .putfield 50, 3), (18, .aload_n 0, 1), (19, .iconst 0, 1), (20, .putfield 53, 3), (23, .aload_n 0, 1), (24, .bipush (-2), 2), (26, .putfield 56, 3), (29, .aload_n 0, 1), (30, .iconst 0, 1), (31, .putfield 59, 3), (34, .aload_n 0, 1), (35, .iconst 0, 1), (36, .putfield 62, 3), (39, .aload_n 0, 1), (40, .invokevirtual 65, 3), (43, .aload_n 0, 1), (44, .iconst 0, 1), (45, .invokevirtual 68, 3), (48, .aload_n 0, 1), (49, .getfield 72, 3), (52, .ifCond .eq 12, 3), (55, .aload_n 0, 1), (56, .iconst 2, 1), (57, .aload_n 0, 1), (58, .getfield 50, 3), (61, .invokevirtual 75, 3), (64, .aload_n 0, 1), (65, .getfield 53, 3), (68, .ireturn, 1)]
def rm_k_X7_read : List rm_K5 := [(9, 0, 7, 0, 0), (40, 3, 11, 2, 0), (46, 0, 7, 1, 0), (50, 0, 7, 2, 0), (53, 0, 7, 4, 0), (56, 0, 7, 5, 0), (59, 0, 7, 11, 0), (62, 0, 7, 13, 0), (65, 3, 56, 0, 1), (68, 3, 66, 1, 1), (72, 0, 7, 3, 0), (75, 3, 53, 2, 1)]
def rm_p_X7_read : rm_M := (rm_c_X7_read, rm_k_X7_read, 2, 1, false, 7)
def rm_c_X7_readAll : List (Nat × Instr × Nat) := [(0, .aload_n 0, 1), (1, .iload_n 1, 1), (2, .invokevirtual 100, 3), (5, .iconst 0, 1), (6, .istore_n 2, 1), (7, .iload_n 2, 1), (8, .sipush 400, 3), (11, .if_icmp .ge 33, 3), (14, .aload_n 0, 1), (15, .getfield 72, 3), (18, .bipush 38, 2), (20, .if_icmp .ne 24, 3), (23, .aload_n 0, 1), (24, .invokevirtual 91, 3), (27, .aload_n 0, 1), (28, .iload_n 1, 1), (29, .invokevirtual 100, 3), (32, .aload_n 0, 1), (33, .bipush 11, 2), (35, .invokevirtual 97, 3), (38, .iinc 2 1, 3), (41, .goto (-34), 3), (44, .return_, 1)]
def rm_k_X7_readAll : List rm_K5 := [(100, 3, 62, 1, 1), (72, 0, 7, 3, 0)]
def rm_p_X7_readAll : rm_M := (rm_c_X7_readAll, rm_k_X7_readAll, 3, 0, false, 7)
def rm_c_X7_readAtom : List (Nat × Instr × Nat) := [(0, .aload_n 0, 1), (1, .iconst 0, 1), (2, .iconst 0, 1), (3, .invokevirtual 109, 3), (6, .ldc 112, 2), (8, .aload_n 0, 1), (9, .getfield 72, 3), (12, .i2c, 1), (13, .invokevirtual 85, 3), (16, .istore_n 1, 1), (17, .aload_n 0, 1), (18, .getfield 50, 3), (21, .istore_n 2, 1), (22, .iload_n 1, 1), (23, .ifCond .ge 12, 3), (26, .aload_n 0, 1), (27, .iconst 2, 1), (28, .iload_n 2, 1), (29, .invokevirtual 75, 3), (32, .goto 47, 3), (35, .aload_n 0, 1), (36, .getfield 59, 3), (39, .bipush 10, 2), (41, .if_icmp .lt 12, 3), (44, .aload_n 0, 1), (45, .iconst 3, 1), (46, .iload_n 2, 1), (47, .invokevirtual 75, 3), (50, .goto 29, 3), (53, .aload_n 0, 1), (54, .invokevirtual 91, 3), (57, .aload_n 0, 1), (58, .iconst 1, 1), (59, .iconst 0, 1), (60, .invokevirtual 109, 3), (63, .aload_n 0, 1), (64, .aload_n 0, 1), (65, .iconst 0, 1), (66, .invokevirtual 114, 3), (69, .aload_n 0, 1), (70, .iconst 1, 1), (71, .invokevirtual 114, 3), (74, .iconst (-1), 1), (75, .iload_n 2, 1), (76, .invokevirtual 118, 3), (79, .aload_n 0, 1), (80, .getfield 53, 3), (83, .ifCond .ne 57, 3), (86, .aload_n 0, 1), (87, .getfield 59, 3), (90, .bipush 10, 2), (92, .if_icmp .ge 48, 3), (95, .aload_n 0, 1), (96, .getfield 30, 3), (99, .aload_n 0, 1), (100, .getfield 59, 3), (103, .aaload, 1), (104, .aload_n 0, 1), (105, .iconst 0, 1), (106, .invokevirtual 114, 3), (109, .invokevirtual 122, 3), (112, .aload_n 0, 1), (113, .getfield 33, 3), (116, .aload_n 0, 1), (117, .getfield 59, 3), (120, .iload_n 1, 1), (121, .iastore, 1), (122, .aload_n 0, 1), (123, .aload_n 0, 1), (124, .getfield 59, 3), (127, .invokevirtual 97, 3), (130, .aload_n 0, 1), (131, .dup, 1), (132, .getfield 59, 3), (135, .iconst 1, 1), (136, .iadd, 1), (137, .putfield 59, 3), (140, .return_, 1)]
def rm_k_X7_readAtom : List rm_K5 := [(109, 3, 64, 2, 1), (112, 6, 0, 0, 0), (72, 0, 7, 3, 0), (85, 3, 1, 1, 4), (50, 0, 7, 2, 0), (75, 3, 53, 2, 1), (59, 0, 7, 11, 0), (114, 3, 67, 1, 1), (53, 0, 7, 4, 0), (30, 0, 7, 9, 0), (33, 0, 7, 10, 0)]
def rm_p_X7_readAtom : rm_M := (rm_c_X7_readAtom, rm_k_X7_readAtom, 3, 0, false, 7)
def rm_c_X7_readBase : List (Nat × Instr × Nat) := [(0, .aload_n 0, 1), (1, .getfield 72, 3), (4, .bipush 120, 2), (6, .if_icmp .ne 20, 3), (9, .aload_n 0, 1), (10, .iload_n 1, 1), (11, .invokevirtual 114, 3), (14, .lconst 1, 1), (15, .lconst 0, 1), (16, .invokevirtual 153, 3), (19, .aload_n 0, 1), (20, .invokevirtual 91, 3), (23, .goto 64, 3), (26, .aload_n 0, 1), (27, .getfield 72, 3), (30, .bipush 40, 2), (32, .if_icmp .eq 19, 3), (35, .aload_n 0, 1), (36, .iload_n 1, 1), (37, .invokevirtual 114, 3), (40, .aload_n 0, 1), (41, .invokevirtual 145, 3), (44, .i2l, 1), (45, .invokevirtual 157, 3), (48, .goto 39, 3), (51, .iload_n 2, 1), (52, .bipush 10, 2), (54, .if_icmp .lt 15, 3), (57, .aload_n 0, 1), (58, .iconst 3, 1), (59, .aload_n 0, 1), (60, .getfield 50, 3), (63, .invokevirtual 75, 3), (66, .goto 21, 3), (69, .aload_n 0, 1), (70, .invokevirtual 91, 3), (73, .aload_n 0, 1), (74, .iload_n 1, 1), (75, .iload_n 2, 1), (76, .iconst 1, 1), (77, .iadd, 1), (78, .invokevirtual 109, 3), (81, .aload_n 0, 1), (82, .bipush 41, 2), (84, .invokevirtual 106, 3), (87, .return_, 1)]
def rm_k_X7_readBase : List rm_K5 := [(72, 0, 7, 3, 0), (114, 3, 67, 1, 1), (145, 3, 61, 0, 1), (157, 3, 52, 1, 1), (50, 0, 7, 2, 0), (75, 3, 53, 2, 1), (109, 3, 64, 2, 1)]
def rm_p_X7_readBase : rm_M := (rm_c_X7_readBase, rm_k_X7_readBase, 3, 0, false, 7)
def rm_c_X7_readNumber : List (Nat × Instr × Nat) := [(0, .aload_n 0, 1), (1, .getfield 72, 3), (4, .invokestatic 79, 3), (7, .ifCond .ne 14, 3), (10, .aload_n 0, 1), (11, .iconst 2, 1), (12, .aload_n 0, 1), (13, .getfield 50, 3), (16, .invokevirtual 75, 3), (19, .iconst 0, 1), (20, .ireturn, 1), (21, .iconst 0, 1), (22, .istore_n 1, 1), (23, .aload_n 0, 1), (24, .getfield 46, 3), (27, .aload_n 0, 1), (28, .getfield 50, 3), (31, .bipush 6, 2), (33, .iadd, 1), (34, .invokestatic 40, 3), (37, .istore_n 2, 1), (38, .aload_n 0, 1), (39, .getfield 50, 3), (42, .iload_n 2, 1), (43, .if_icmp .ge 49, 3), (46, .aload_n 0, 1), (47, .getfield 9, 3), (50, .aload_n 0, 1), (51, .getfield 50, 3), (54, .caload, 1), (55, .invokestatic 79, 3), (58, .ifCond .eq 34, 3), (61, .iload_n 1, 1), (62, .bipush 10, 2), (64, .imul, 1), (65, .aload_n 0, 1), (66, .getfield 9, 3), (69, .aload_n 0, 1), (70, .getfield 50, 3), (73, .caload, 1), (74, .bipush 48, 2), (76, .isub, 1), (77, .iadd, 1), (78, .istore_n 1, 1), (79, .aload_n 0, 1), (80, .dup, 1), (81, .getfield 50, 3), (84, .iconst 1, 1), (85, .iadd, 1), (86, .putfield 50, 3), (89, .goto (-51), 3), (92, .aload_n 0, 1), (93, .getfield 50, 3), (96, .aload_n 0, 1), (97, .getfield 46, 3), (100, .if_icmp .ge 30, 3), (103, .aload_n 0, 1), (104, .getfield 9, 3), (107, .aload_n 0, 1), (108, .getfield 50, 3), (111, .caload, 1), (112, .invokestatic 79, 3), (115, .ifCond .eq 15, 3), (118, .aload_n 0, 1), (119, .iconst 1, 1), (120, .aload_n 0, 1), (121, .getfield 50, 3), (124, .invokevirtual 75, 3), (127, .goto 7, 3), (130, .aload_n 0, 1), (131, .invokevirtual 65, 3), (134, .iload_n 1, 1), (135, .ireturn, 1)]
def rm_k_X7_readNumber : List rm_K5 := [(72, 0, 7, 3, 0), (79, 3, 55, 1, 0), (50, 0, 7, 2, 0), (75, 3, 53, 2, 1), (46, 0, 7, 1, 0), (40, 3, 11, 2, 0), (9, 0, 7, 0, 0), (65, 3, 56, 0, 1)]
def rm_p_X7_readNumber : rm_M := (rm_c_X7_readNumber, rm_k_X7_readNumber, 3, 1, false, 7)
def rm_c_X7_readOne : List (Nat × Instr × Nat) := [(0, .iconst 0, 1), (1, .istore_n 2, 1), (2, .iconst 0, 1), (3, .istore_n 3, 1), (4, .iload_n 3, 1), (5, .sipush 400, 3), (8, .if_icmp .ge 43, 3), (11, .aload_n 0, 1), (12, .getfield 72, 3), (15, .bipush 126, 2), (17, .if_icmp .ne 34, 3), (20, .iload_n 2, 1), (21, .bipush 10, 2), (23, .if_icmp .lt 15, 3), (26, .aload_n 0, 1), (27, .iconst 3, 1), (28, .aload_n 0, 1), (29, .getfield 50, 3), (32, .invokevirtual 75, 3), (35, .goto 10, 3), (38, .iinc 2 1, 3), (41, .aload_n 0, 1), (42, .invokevirtual 91, 3), (45, .iinc 3 1, 3), (48, .goto (-44), 3), (51, .aload_n 0, 1), (52, .getfield 72, 3), (55, .bipush 91, 2), (57, .if_icmp .eq 10, 3), (60, .aload_n 0, 1), (61, .invokevirtual 103, 3), (64, .goto 38, 3), (67, .iload_n 1, 1), (68, .bipush 10, 2), (70, .if_icmp .lt 15, 3), (73, .aload_n 0, 1), (74, .iconst 3, 1), (75, .aload_n 0, 1), (76, .getfield 50, 3), (79, .invokevirtual 75, 3), (82, .goto 20, 3), (85, .aload_n 0, 1), (86, .invokevirtual 91, 3), (89, .aload_n 0, 1), (90, .iload_n 1, 1), (91, .iconst 1, 1), (92, .iadd, 1), (93, .invokevirtual 68, 3), (96, .aload_n 0, 1), (97, .bipush 93, 2), (99, .invokevirtual 106, 3), (102, .iload_n 2, 1), (103, .iconst 2, 1), (104, .irem, 1), (105, .iconst 1, 1), (106, .if_icmp .ne 9, 3), (109, .aload_n 0, 1), (110, .bipush 10, 2), (112, .invokevirtual 97, 3), (115, .return_, 1)]
def rm_k_X7_readOne : List rm_K5 := [(72, 0, 7, 3, 0), (50, 0, 7, 2, 0), (75, 3, 53, 2, 1), (103, 3, 59, 0, 1), (68, 3, 66, 1, 1)]
def rm_p_X7_readOne : rm_M := (rm_c_X7_readOne, rm_k_X7_readOne, 4, 0, false, 7)
def rm_c_X7_readPower : List (Nat × Instr × Nat) := [(0, .aload_n 0, 1), (1, .iload_n 1, 1), (2, .iload_n 2, 1), (3, .invokevirtual 142, 3), (6, .aload_n 0, 1), (7, .getfield 72, 3), (10, .bipush 94, 2), (12, .if_icmp .ne 30, 3), (15, .aload_n 0, 1), (16, .getfield 50, 3), (19, .istore_n 3, 1), (20, .aload_n 0, 1), (21, .invokevirtual 91, 3), (24, .aload_n 0, 1), (25, .invokevirtual 145, 3), (28, .istore 4, 2), (30, .aload_n 0, 1), (31, .aload_n 0, 1), (32, .iload_n 1, 1), (33, .invokevirtual 114, 3), (36, .iload 4, 2), (38, .iload_n 3, 1), (39, .invokevirtual 149, 3), (42, .return_, 1)]
def rm_k_X7_readPower : List rm_K5 := [(142, 3, 60, 2, 1), (72, 0, 7, 3, 0), (50, 0, 7, 2, 0), (145, 3, 61, 0, 1), (114, 3, 67, 1, 1)]
def rm_p_X7_readPower : rm_M := (rm_c_X7_readPower, rm_k_X7_readPower, 5, 0, false, 7)
def rm_c_X7_readSum : List (Nat × Instr × Nat) := [(0, .aload_n 0, 1), (1, .getfield 72, 3), (4, .bipush 45, 2), (6, .if_icmp .ne 7, 3), (9, .iconst (-1), 1), (10, .goto 4, 3), (13, .iconst 1, 1), (14, .istore_n 3, 1), (15, .iload_n 3, 1), (16, .ifCond .ge 7, 3), (19, .aload_n 0, 1), (20, .invokevirtual 91, 3), (23, .aload_n 0, 1), (24, .iload_n 1, 1), (25, .iload_n 2, 1), (26, .invokevirtual 129, 3), (29, .iload_n 3, 1), (30, .ifCond .ge 11, 3), (33, .aload_n 0, 1), (34, .iload_n 1, 1), (35, .invokevirtual 114, 3), (38, .invokestatic 132, 3), (41, .iconst 0, 1), (42, .istore 4, 2), (44, .iload 4, 2), (46, .sipush 400, 3), (49, .if_icmp .ge 79, 3), (52, .aload_n 0, 1), (53, .getfield 72, 3), (56, .bipush 43, 2), (58, .if_icmp .eq 12, 3), (61, .aload_n 0, 1), (62, .getfield 72, 3), (65, .bipush 45, 2), (67, .if_icmp .ne 61, 3), (70, .aload_n 0, 1), (71, .getfield 50, 3), (74, .istore 5, 2), (76, .aload_n 0, 1), (77, .getfield 72, 3), (80, .bipush 45, 2), (82, .if_icmp .ne 7, 3), (85, .iconst (-1), 1), (86, .goto 4, 3), (89, .iconst 1, 1), (90, .istore_n 3, 1), (91, .aload_n 0, 1), (92, .invokevirtual 91, 3), (95, .aload_n 0, 1), (96, .iload_n 1, 1), (97, .iconst 1, 1), (98, .iadd, 1), (99, .iload_n 2, 1), (100, .invokevirtual 129, 3), (103, .aload_n 0, 1), (104, .aload_n 0, 1), (105, .iload_n 1, 1), (106, .invokevirtual 114, 3), (109, .aload_n 0, 1), (110, .iload_n 1, 1), (111, .iconst 1, 1), (112, .iadd, 1), (113, .invokevirtual 114, 3), (116, .iload_n 3, 1), (117, .iload 5, 2), (119, .invokevirtual 118, 3), (122, .iinc 4 1, 3), (125, .goto (-81), 3), (128, .return_, 1)]
def rm_k_X7_readSum : List rm_K5 := [(72, 0, 7, 3, 0), (129, 3, 65, 2, 1), (114, 3, 67, 1, 1), (50, 0, 7, 2, 0)]
def rm_p_X7_readSum : rm_M := (rm_c_X7_readSum, rm_k_X7_readSum, 6, 0, false, 7)
def rm_c_X7_readTerm : List (Nat × Instr × Nat) := [(0, .aload_n 0, 1), (1, .iload_n 1, 1), (2, .iload_n 2, 1), (3, .invokevirtual 135, 3), (6, .iconst 0, 1), (7, .istore_n 3, 1), (8, .iload_n 3, 1), (9, .sipush 400, 3), (12, .if_icmp .ge 54, 3), (15, .aload_n 0, 1), (16, .getfield 72, 3), (19, .bipush 42, 2), (21, .if_icmp .ne 45, 3), (24, .aload_n 0, 1), (25, .getfield 50, 3), (28, .istore 4, 2), (30, .aload_n 0, 1), (31, .invokevirtual 91, 3), (34, .aload_n 0, 1), (35, .iload_n 1, 1), (36, .iconst 1, 1), (37, .iadd, 1), (38, .iload_n 2, 1), (39, .invokevirtual 135, 3), (42, .aload_n 0, 1), (43, .aload_n 0, 1), (44, .iload_n 1, 1), (45, .invokevirtual 114, 3), (48, .aload_n 0, 1), (49, .iload_n 1, 1), (50, .iconst 1, 1), (51, .iadd, 1), (52, .invokevirtual 114, 3), (55, .iload 4, 2), (57, .invokevirtual 138, 3), (60, .iinc 3 1, 3), (63, .goto (-55), 3), (66, .return_, 1)]
def rm_k_X7_readTerm : List rm_K5 := [(135, 3, 63, 2, 1), (72, 0, 7, 3, 0), (50, 0, 7, 2, 0), (114, 3, 67, 1, 1)]
def rm_p_X7_readTerm : rm_M := (rm_c_X7_readTerm, rm_k_X7_readTerm, 5, 0, false, 7)
def rm_c_X7_readText : List (Nat × Instr × Nat) := [(0, .aload_n 0, 1), (1, .iload_n 1, 1), (2, .invokevirtual 94, 3), (5, .iconst 0, 1), (6, .istore_n 2, 1), (7, .iload_n 2, 1), (8, .sipush 400, 3), (11, .if_icmp .ge 33, 3), (14, .aload_n 0, 1), (15, .getfield 72, 3), (18, .bipush 124, 2), (20, .if_icmp .ne 24, 3), (23, .aload_n 0, 1), (24, .invokevirtual 91, 3), (27, .aload_n 0, 1), (28, .iload_n 1, 1), (29, .invokevirtual 94, 3), (32, .aload_n 0, 1), (33, .bipush 12, 2), (35, .invokevirtual 97, 3), (38, .iinc 2 1, 3), (41, .goto (-34), 3), (44, .return_, 1)]
def rm_k_X7_readText : List rm_K5 := [(94, 3, 58, 1, 1), (72, 0, 7, 3, 0)]
def rm_p_X7_readText : rm_M := (rm_c_X7_readText, rm_k_X7_readText, 3, 0, false, 7)
def rm_c_X7_slot : List (Nat × Instr × Nat) := [(0, .aload_n 0, 1), (1, .getfield 17, 3), (4, .iconst 0, 1), (5, .iload_n 1, 1), (6, .bipush 25, 2), (8, .invokestatic 40, 3), (11, .invokestatic 126, 3), (14, .aaload, 1), (15, .areturn, 1)]
def rm_k_X7_slot : List rm_K5 := [(17, 0, 7, 6, 0), (40, 3, 11, 2, 0), (126, 3, 10, 2, 0)]
def rm_p_X7_slot : rm_M := (rm_c_X7_slot, rm_k_X7_slot, 2, 4, false, 7)
def rm_c_X8_init : List (Nat × Instr × Nat) := [(0, .aload_n 0, 1), (1, .invokespecial 1, 3), (4, .aload_n 0, 1), (5, .new 7, 3), (8, .dup, 1), (9, .bipush 24, 2), (11, .invokespecial 11, 3), (14, .putfield 14, 3), (17, .return_, 1)]
def rm_k_X8_init : List rm_K5 := [(1, 3, 0, 0, 3), (7, 1, 1, 3, 6), (11, 3, 45, 1, 2), (14, 0, 8, 6, 0)]
def rm_p_X8_init : rm_M := (rm_c_X8_init, rm_k_X8_init, 1, 0, true, 8)
def rm_c_X9_atom : List (Nat × Instr × Nat) := [(0, .aload_n 0, 1), (1, .iload_n 1, 1), (2, .invokevirtual 95, 3), (5, .ifCond .eq 13, 3), (8, .iload_n 2, 1), (9, .ifCond .lt 9, 3), (12, .iload_n 2, 1), (13, .bipush 12, 2), (15, .if_icmp .le 6, 3), (18, .ldc 98, 2), (20, .ireturn, 1), (21, .aload_n 0, 1), (22, .getfield 24, 3), (25, .getfield 68, 3), (28, .iload_n 1, 1), (29, .aaload, 1), (30, .astore_n 3, 1), (31, .iload_n 2, 1), (32, .bipush 8, 2), (34, .if_icmp .gt 11, 3), (37, .aload_n 3, 1), (38, .getfield 99, 3), (41, .iload_n 2, 1), (42, .laload, 1), (43, .l2i, 1), (44, .ireturn, 1), (45, .iload_n 2, 1), (46, .bipush 9, 2), (48, .if_icmp .ne 20, 3), (51, .aload_n 3, 1), (52, .getfield 105, 3), (55, .ifCond .ge 8, 3), (58, .bipush (-2), 2), (60, .goto 7, 3), (63, .aload_n 3, 1), (64, .getfield 105, 3), (67, .ireturn, 1), (68, .iload_n 2, 1), (69, .bipush 10, 2), (71, .if_icmp .ne 13, 3), (74, .aload_n 0, 1), (75, .getfield 24, 3), (78, .getfield 108, 3), (81, .iload_n 1, 1), (82, .iaload, 1), (83, .ireturn, 1), (84, .aload_n 0, 1), (85, .getfield 16, 3), (88, .iload_n 1, 1), (89, .invokevirtual 112, 3), (92, .istore 4, 2), (94, .iload_n 2, 1), (95, .bipush 11, 2), (97, .if_icmp .ne 8, 3), (100, .iload 4, 2), (102, .goto 14, 3), (105, .aload_n 0, 1), (106, .getfield 34, 3), (109, .iload_n 1, 1), (110, .invokevirtual 115, 3), (113, .iload 4, 2), (115, .isub, 1), (116, .ireturn, 1)]
def rm_k_X9_atom : List rm_K5 := [(95, 3, 77, 1, 1), (98, 4, 2294967296, 0, 0), (24, 0, 9, 5, 0), (68, 0, 7, 9, 1), (99, 0, 6, 1, 1), (105, 0, 6, 0, 1), (108, 0, 7, 10, 1), (16, 0, 9, 4, 0), (34, 0, 9, 7, 0)]
def rm_p_X9_atom : rm_M := (rm_c_X9_atom, rm_k_X9_atom, 5, 1, false, 9)
def rm_c_X9_cellOf : List (Nat × Instr × Nat) := [(0, .aload_n 0, 1), (1, .getfield 56, 3), (4, .ifCond .eq 11, 3), (7, .iload_n 1, 1), (8, .iload_n 2, 1), (9, .invokestatic 190, 3), (12, .ifCond .ne 5, 3), (15, .iconst (-1), 1), (16, .ireturn, 1), (17, .aload_n 0, 1), (18, .getfield 16, 3), (21, .iload_n 1, 1), (22, .iload_n 2, 1), (23, .invokestatic 194, 3), (26, .i2l, 1), (27, .iload_n 1, 1), (28, .iload_n 2, 1), (29, .invokestatic 199, 3), (32, .i2l, 1), (33, .iload_n 2, 1), (34, .i2l, 1), (35, .invokevirtual 202, 3), (38, .ireturn, 1)]
def rm_k_X9_cellOf : List rm_K5 := [(56, 0, 9, 3, 0), (16, 0, 9, 4, 0)]
def rm_p_X9_cellOf : rm_M := (rm_c_X9_cellOf, rm_k_X9_cellOf, 3, 1, false, 9)
def rm_c_X9_common : List (Nat × Instr × Nat) := [(0, .aload_n 0, 1), (1, .iload_n 1, 1), (2, .invokevirtual 137, 3), (5, .ifCond .ne 5, 3), (8, .iconst (-1), 1), (9, .ireturn, 1), (10, .aload_n 0, 1), (11, .getfield 34, 3), (14, .aload_n 0, 1), (15, .getfield 16, 3), (18, .iload_n 1, 1), (19, .invokevirtual 144, 3), (22, .getfield 152, 3), (25, .invokevirtual 173, 3), (28, .ireturn, 1)]
def rm_k_X9_common : List rm_K5 := [(137, 3, 79, 1, 1), (34, 0, 9, 7, 0), (16, 0, 9, 4, 0), (152, 0, 8, 0, 1)]
def rm_p_X9_common : rm_M := (rm_c_X9_common, rm_k_X9_common, 2, 1, false, 9)
def rm_c_X9_count : List (Nat × Instr × Nat) := [(0, .iload_n 1, 1), (1, .ifCond .ne 8, 3), (4, .aload_n 0, 1), (5, .getfield 52, 3), (8, .ireturn, 1), (9, .iload_n 1, 1), (10, .iconst 1, 1), (11, .if_icmp .ne 8, 3), (14, .aload_n 0, 1), (15, .getfield 9, 3), (18, .ireturn, 1), (19, .iload_n 1, 1), (20, .iconst 2, 1), (21, .if_icmp .ne 8, 3), (24, .aload_n 0, 1), (25, .getfield 39, 3), (28, .ireturn, 1), (29, .aload_n 0, 1), (30, .getfield 56, 3), (33, .ifCond .ne 5, 3), (36, .iconst (-1), 1), (37, .ireturn, 1), (38, .iload_n 1, 1), (39, .iconst 3, 1), (40, .if_icmp .ne 11, 3), (43, .aload_n 0, 1), (44, .getfield 24, 3), (47, .getfield 65, 3), (50, .ireturn, 1), (51, .iload_n 1, 1), (52, .iconst 4, 1), (53, .if_icmp .ne 11, 3), (56, .aload_n 0, 1), (57, .getfield 16, 3), (60, .getfield 85, 3), (63, .ireturn, 1), (64, .iload_n 1, 1), (65, .iconst 5, 1), (66, .if_icmp .ne 13, 3), (69, .aload_n 0, 1), (70, .getfield 16, 3), (73, .getfield 92, 3), (76, .goto 4, 3), (79, .iconst (-1), 1), (80, .ireturn, 1)]
def rm_k_X9_count : List rm_K5 := [(52, 0, 9, 1, 0), (9, 0, 9, 2, 0), (39, 0, 9, 0, 0), (56, 0, 9, 3, 0), (24, 0, 9, 5, 0), (65, 0, 7, 11, 1), (16, 0, 9, 4, 0), (85, 0, 4, 4, 1), (92, 0, 4, 7, 1)]
def rm_p_X9_count : rm_M := (rm_c_X9_count, rm_k_X9_count, 2, 1, false, 9)
def rm_c_X9_exact : List (Nat × Instr × Nat) := [(0, .aload_n 0, 1), (1, .iload_n 1, 1), (2, .invokevirtual 137, 3), (5, .ifCond .eq 12, 3), (8, .iload_n 2, 1), (9, .ifCond .lt 8, 3), (12, .iload_n 2, 1), (13, .iconst 1, 1), (14, .if_icmp .le 7, 3), (17, .ldc2_w 140, 3), (20, .lreturn, 1), (21, .aload_n 0, 1), (22, .getfield 16, 3), (25, .iload_n 1, 1), (26, .invokevirtual 144, 3), (29, .astore_n 3, 1), (30, .aload_n 3, 1), (31, .getfield 161, 3), (34, .ifCond .ne 7, 3), (37, .ldc2_w 164, 3), (40, .lreturn, 1), (41, .iload_n 2, 1), (42, .ifCond .ne 10, 3), (45, .aload_n 3, 1), (46, .getfield 166, 3), (49, .goto 7, 3), (52, .aload_n 3, 1), (53, .getfield 170, 3), (56, .lreturn, 1)]
def rm_k_X9_exact : List rm_K5 := [(137, 3, 79, 1, 1), (140, 5, 9446744073709551616, 0, 0), (16, 0, 9, 4, 0), (161, 0, 8, 1, 1), (164, 5, 9446744073709551614, 0, 0), (166, 0, 8, 2, 1), (170, 0, 8, 3, 1)]
def rm_p_X9_exact : rm_M := (rm_c_X9_exact, rm_k_X9_exact, 4, 3, false, 9)
def rm_c_X9_four : List (Nat × Instr × Nat) := [(0, .iconst 0, 1), (1, .istore_n 2, 1), (2, .bipush 24, 2), (4, .istore_n 3, 1), (5, .iload_n 3, 1), (6, .ifCond .lt 46, 3), (9, .iload_n 1, 1), (10, .iload_n 3, 1), (11, .iushr, 1), (12, .sipush 255, 3), (15, .iand, 1), (16, .istore 4, 2), (18, .iload 4, 2), (20, .ifCond .eq 13, 3), (23, .iload 4, 2), (25, .invokestatic 35, 3), (28, .ifCond .ne 5, 3), (31, .iconst (-1), 1), (32, .ireturn, 1), (33, .iload_n 2, 1), (34, .iload 4, 2), (36, .ifCond .eq 7, 3), (39, .iconst 1, 1), (40, .goto 4, 3), (43, .iconst 0, 1), (44, .iadd, 1), (45, .istore_n 2, 1), (46, .iinc 3 (-8), 3), (49, .goto (-44), 3), (52, .aload_n 0, 1), (53, .getfield 39, 3), (56, .iload_n 2, 1), (57, .iadd, 1), (58, .sipush 400, 3), (61, .if_icmp .le 5, 3), (64, .iconst (-1), 1), (65, .ireturn, 1), (66, .bipush 24, 2), (68, .istore_n 3, 1), (69, .iload_n 3, 1), (70, .ifCond .lt 58, 3), (73, .iload_n 1, 1), (74, .iload_n 3, 1), (75, .iushr, 1), (76, .sipush 255, 3), (79, .iand, 1), (80, .istore 4, 2), (82, .iload 4, 2), (84, .ifCond .eq 38, 3), (87, .aload_n 0, 1), (88, .getfield 39, 3), (91, .sipush 400, 3), (94, .if_icmp .ge 28, 3), (97, .aload_n 0, 1), (98, .getfield 24, 3), (101, .getfield 42, 3), (104, .aload_n 0, 1), (105, .getfield 39, 3), (108, .iload 4, 2), (110, .i2c, 1), (111, .castore, 1), (112, .aload_n 0, 1), (113, .dup, 1), (114, .getfield 39, 3), (117, .iconst 1, 1), (118, .iadd, 1), (119, .putfield 39, 3), (122, .iinc 3 (-8), 3), (125, .goto (-56), 3), (128, .aload_n 0, 1), (129, .getfield 39, 3), (132, .ireturn, 1)]
def rm_k_X9_four : List rm_K5 := [(35, 3, 80, 1, 0), (39, 0, 9, 0, 0), (24, 0, 9, 5, 0), (42, 0, 7, 0, 1)]
def rm_p_X9_four : rm_M := (rm_c_X9_four, rm_k_X9_four, 5, 1, false, 9)
def rm_c_X9_holds : List (Nat × Instr × Nat) := [(0, .aload_n 0, 1), (1, .iload_n 1, 1), (2, .invokevirtual 127, 3), (5, .ifCond .ne 5, 3), (8, .iconst (-1), 1), (9, .ireturn, 1), (10, .aload_n 0, 1), (11, .getfield 16, 3), (14, .getfield 130, 3), (17, .iload_n 1, 1), (18, .baload, 1), (19, .ifCond .eq 7, 3), (22, .iconst 1, 1), (23, .goto 4, 3), (26, .iconst 0, 1), (27, .ireturn, 1)]
def rm_k_X9_holds : List rm_K5 := [(127, 3, 78, 1, 1), (16, 0, 9, 4, 0), (130, 0, 4, 6, 1)]
def rm_p_X9_holds : rm_M := (rm_c_X9_holds, rm_k_X9_holds, 2, 1, false, 9)
def rm_c_X9_init : List (Nat × Instr × Nat) := [(0, .aload_n 0, 1), (1, .invokespecial 1, 3), (4, .aload_n 0, 1), (5, .bipush (-2), 2), (7, .putfield 9, 3), (10, .aload_n 0, 1), (11, .new 13, 3), (14, .dup, 1), (15, .invokespecial 15, 3), (18, .putfield 16, 3), (21, .aload_n 0, 1), (22, .aload_n 0, 1), (23, .getfield 16, 3), (26, .getfield 20, 3), (29, .putfield 24, 3), (32, .aload_n 0, 1), (33, .aload_n 0, 1), (34, .getfield 16, 3), (37, .getfield 25, 3), (40, .putfield 29, 3), (43, .aload_n 0, 1), (44, .aload_n 0, 1), (45, .getfield 16, 3), (48, .getfield 30, 3), (51, .putfield 34, 3), (54, .return_, 1)]
def rm_k_X9_init : List rm_K5 := [(1, 3, 0, 0, 3), (9, 0, 9, 2, 0), (13, 1, 4, 13, 0), (15, 3, 49, 0, 2), (16, 0, 9, 4, 0), (20, 0, 4, 0, 1), (24, 0, 9, 5, 0), (25, 0, 4, 1, 1), (29, 0, 9, 6, 0), (30, 0, 4, 2, 1), (34, 0, 9, 7, 0)]
def rm_p_X9_init : rm_M := (rm_c_X9_init, rm_k_X9_init, 1, 0, true, 9)
def rm_c_X9_isAtom : List (Nat × Instr × Nat) := [(0, .aload_n 0, 1), (1, .getfield 56, 3), (4, .ifCond .eq 22, 3), (7, .iload_n 1, 1), (8, .ifCond .lt 18, 3), (11, .iload_n 1, 1), (12, .aload_n 0, 1), (13, .getfield 24, 3), (16, .getfield 65, 3), (19, .if_icmp .ge 7, 3), (22, .iconst 1, 1), (23, .goto 4, 3), (26, .iconst 0, 1), (27, .ireturn, 1)]
def rm_k_X9_isAtom : List rm_K5 := [(56, 0, 9, 3, 0), (24, 0, 9, 5, 0), (65, 0, 7, 11, 1)]
def rm_p_X9_isAtom : rm_M := (rm_c_X9_isAtom, rm_k_X9_isAtom, 2, 2, false, 9)
def rm_c_X9_isCell : List (Nat × Instr × Nat) := [(0, .aload_n 0, 1), (1, .getfield 56, 3), (4, .ifCond .eq 24, 3), (7, .iload_n 1, 1), (8, .ifCond .lt 20, 3), (11, .iload_n 1, 1), (12, .iconst 2, 1), (13, .aload_n 0, 1), (14, .getfield 16, 3), (17, .getfield 85, 3), (20, .imul, 1), (21, .if_icmp .gt 7, 3), (24, .iconst 1, 1), (25, .goto 4, 3), (28, .iconst 0, 1), (29, .ireturn, 1)]
def rm_k_X9_isCell : List rm_K5 := [(56, 0, 9, 3, 0), (16, 0, 9, 4, 0), (85, 0, 4, 4, 1)]
def rm_p_X9_isCell : rm_M := (rm_c_X9_isCell, rm_k_X9_isCell, 2, 2, false, 9)
def rm_c_X9_isRoot : List (Nat × Instr × Nat) := [(0, .aload_n 0, 1), (1, .getfield 56, 3), (4, .ifCond .eq 22, 3), (7, .iload_n 1, 1), (8, .ifCond .lt 18, 3), (11, .iload_n 1, 1), (12, .aload_n 0, 1), (13, .getfield 16, 3), (16, .getfield 85, 3), (19, .if_icmp .ge 7, 3), (22, .iconst 1, 1), (23, .goto 4, 3), (26, .iconst 0, 1), (27, .ireturn, 1)]
def rm_k_X9_isRoot : List rm_K5 := [(56, 0, 9, 3, 0), (16, 0, 9, 4, 0), (85, 0, 4, 4, 1)]
def rm_p_X9_isRoot : rm_M := (rm_c_X9_isRoot, rm_k_X9_isRoot, 2, 2, false, 9)
def rm_c_X9_isSign : List (Nat × Instr × Nat) := [(0, .iload_n 0, 1), (1, .bipush 32, 2), (3, .if_icmp .lt 13, 3), (6, .iload_n 0, 1), (7, .bipush 126, 2), (9, .if_icmp .gt 7, 3), (12, .iconst 1, 1), (13, .goto 4, 3), (16, .iconst 0, 1), (17, .ireturn, 1)]
def rm_k_X9_isSign : List rm_K5 := []
def rm_p_X9_isSign : rm_M := (rm_c_X9_isSign, rm_k_X9_isSign, 1, 2, false, 9)
def rm_c_X9_judge : List (Nat × Instr × Nat) := [(0, .aload_n 0, 1), (1, .getfield 56, 3), (4, .ifCond .ne 5, 3), (7, .iconst (-1), 1), (8, .ireturn, 1), (9, .iconst 2, 1), (10, .aload_n 0, 1), (11, .getfield 16, 3), (14, .getfield 85, 3), (17, .imul, 1), (18, .istore_n 2, 1), (19, .iload_n 1, 1), (20, .tableswitch 202 0 8 #[52, 68, 87, 95, 103, 111, 140, 169, 185], 52), (72, .aload_n 0, 1), (73, .getfield 16, 3), (76, .getfield 92, 3), (79, .ifCond .le 7, 3), (82, .iconst 1, 1), (83, .goto 4, 3), (86, .iconst 0, 1), (87, .ireturn, 1), (88, .aload_n 0, 1), (89, .getfield 16, 3), (92, .getfield 92, 3), (95, .iload_n 2, 1), (96, .iconst 1, 1), (97, .iadd, 1), (98, .if_icmp .ne 7, 3), (101, .iconst 1, 1), (102, .goto 4, 3), (105, .iconst 0, 1), (106, .ireturn, 1), (107, .aload_n 0, 1), (108, .getfield 16, 3), (111, .getfield 118, 3), (114, .ireturn, 1), (115, .aload_n 0, 1), (116, .getfield 16, 3), (119, .getfield 121, 3), (122, .ireturn, 1), (123, .aload_n 0, 1), (124, .getfield 16, 3), (127, .getfield 124, 3), (130, .ireturn, 1), (131, .aload_n 0, 1), (132, .getfield 16, 3), (135, .getfield 118, 3), (138, .ifCond .lt 20, 3), (141, .aload_n 0, 1), (142, .getfield 16, 3), (145, .getfield 118, 3), (148, .iconst 2, 1), (149, .irem, 1), (150, .iconst 1, 1), (151, .if_icmp .ne 7, 3), (154, .iconst 1, 1), (155, .goto 4, 3), (158, .iconst 0, 1), (159, .ireturn, 1), (160, .aload_n 0, 1), (161, .getfield 16, 3), (164, .getfield 121, 3), (167, .ifCond .lt 20, 3), (170, .aload_n 0, 1), (171, .getfield 16, 3), (174, .getfield 121, 3), (177, .iconst 2, 1), (178, .irem, 1), (179, .iconst 1, 1), (180, .if_icmp .ne 7, 3), (183, .iconst 1, 1), (184, .goto 4, 3), (187, .iconst 0, 1), (188, .ireturn, 1), (189, .aload_n 0, 1), (190, .getfield 16, 3), (193, .getfield 118, 3), (196, .ifCond .ne 7, 3), (199, .iconst 1, 1), (200, .goto 4, 3), (203, .iconst 0, 1), (204, .ireturn, 1), (205, .aload_n 0, 1), (206, .getfield 16, 3), (209, .getfield 121, 3), (212, .iload_n 2, 1), (213, .if_icmp .ne 7, 3), (216, .iconst 1, 1), (217, .goto 4, 3), (220, .iconst 0, 1), (221, .ireturn, 1), (222, .iconst (-1), 1), (223, .ireturn, 1)]
def rm_k_X9_judge : List rm_K5 := [(56, 0, 9, 3, 0), (16, 0, 9, 4, 0), (85, 0, 4, 4, 1), (92, 0, 4, 7, 1), (118, 0, 4, 8, 1), (121, 0, 4, 9, 1), (124, 0, 4, 10, 1)]
def rm_p_X9_judge : rm_M := (rm_c_X9_judge, rm_k_X9_judge, 3, 1, false, 9)
def rm_c_X9_load : List (Nat × Instr × Nat) := [(0, .aload_n 0, 1), (1, .getfield 39, 3), (4, .istore_n 1, 1), (5, .aload_n 0, 1), (6, .iconst 0, 1), (7, .putfield 39, 3), (10, .aload_n 0, 1), (11, .aload_n 0, 1), (12, .getfield 24, 3), (15, .iload_n 1, 1), (16, .invokevirtual 48, 3), (19, .putfield 52, 3), (22, .aload_n 0, 1), (23, .aload_n 0, 1), (24, .getfield 52, 3), (27, .ifCond .ne 8, 3), (30, .bipush (-2), 2), (32, .goto 10, 3), (35, .aload_n 0, 1), (36, .getfield 24, 3), (39, .getfield 55, 3), (42, .putfield 9, 3), (45, .aload_n 0, 1), (46, .aload_n 0, 1), (47, .getfield 52, 3), (50, .ifCond .ne 7, 3), (53, .iconst 1, 1), (54, .goto 4, 3), (57, .iconst 0, 1), (58, .putfield 56, 3), (61, .aload_n 0, 1), (62, .getfield 56, 3), (65, .ifCond .ne 8, 3), (68, .aload_n 0, 1), (69, .getfield 52, 3), (72, .ireturn, 1), (73, .aload_n 0, 1), (74, .getfield 34, 3), (77, .iconst 0, 1), (78, .putfield 60, 3), (81, .iconst 0, 1), (82, .istore_n 2, 1), (83, .iload_n 2, 1), (84, .aload_n 0, 1), (85, .getfield 24, 3), (88, .getfield 65, 3), (91, .if_icmp .ge 26, 3), (94, .aload_n 0, 1), (95, .getfield 34, 3), (98, .aload_n 0, 1), (99, .getfield 24, 3), (102, .getfield 68, 3), (105, .iload_n 2, 1), (106, .aaload, 1), (107, .iload_n 2, 1), (108, .invokevirtual 72, 3), (111, .iinc 2 1, 3), (114, .goto (-31), 3), (117, .aload_n 0, 1), (118, .getfield 29, 3), (121, .iconst 0, 1), (122, .putfield 76, 3), (125, .aload_n 0, 1), (126, .getfield 34, 3), (129, .getfield 60, 3), (132, .istore_n 2, 1), (133, .iconst 0, 1), (134, .istore_n 3, 1), (135, .iload_n 3, 1), (136, .iload_n 2, 1), (137, .if_icmp .ge 17, 3), (140, .aload_n 0, 1), (141, .getfield 29, 3), (144, .iload_n 3, 1), (145, .invokevirtual 81, 3), (148, .iinc 3 1, 3), (151, .goto (-16), 3), (154, .aload_n 0, 1), (155, .getfield 16, 3), (158, .iconst 0, 1), (159, .putfield 85, 3), (162, .iconst 0, 1), (163, .istore_n 3, 1), (164, .iload_n 3, 1), (165, .aload_n 0, 1), (166, .getfield 29, 3), (169, .getfield 76, 3), (172, .if_icmp .ge 17, 3), (175, .aload_n 0, 1), (176, .getfield 16, 3), (179, .iload_n 3, 1), (180, .invokevirtual 86, 3), (183, .iinc 3 1, 3), (186, .goto (-22), 3), (189, .aload_n 0, 1), (190, .getfield 16, 3), (193, .invokevirtual 89, 3), (196, .aload_n 0, 1), (197, .getfield 52, 3), (200, .ireturn, 1)]
def rm_k_X9_load : List rm_K5 := [(39, 0, 9, 0, 0), (24, 0, 9, 5, 0), (48, 3, 57, 1, 1), (52, 0, 9, 1, 0), (55, 0, 7, 5, 1), (9, 0, 9, 2, 0), (56, 0, 9, 3, 0), (34, 0, 9, 7, 0), (60, 0, 0, 2, 1), (65, 0, 7, 11, 1), (68, 0, 7, 9, 1), (29, 0, 9, 6, 0), (76, 0, 3, 3, 1), (16, 0, 9, 4, 0), (85, 0, 4, 4, 1)]
def rm_p_X9_load : rm_M := (rm_c_X9_load, rm_k_X9_load, 4, 1, false, 9)
def rm_c_X9_root : List (Nat × Instr × Nat) := [(0, .aload_n 0, 1), (1, .iload_n 1, 1), (2, .invokevirtual 137, 3), (5, .ifCond .eq 13, 3), (8, .iload_n 2, 1), (9, .ifCond .lt 9, 3), (12, .iload_n 2, 1), (13, .bipush 8, 2), (15, .if_icmp .le 7, 3), (18, .ldc2_w 140, 3), (21, .lreturn, 1), (22, .lconst 1, 1), (23, .lstore_n 3, 1), (24, .iconst 0, 1), (25, .istore 5, 2), (27, .iload 5, 2), (29, .iload_n 2, 1), (30, .if_icmp .ge 15, 3), (33, .lload_n 3, 1), (34, .ldc2_w 142, 3), (37, .lmul, 1), (38, .lstore_n 3, 1), (39, .iinc 5 1, 3), (42, .goto (-15), 3), (45, .aload_n 0, 1), (46, .getfield 29, 3), (49, .aload_n 0, 1), (50, .getfield 16, 3), (53, .iload_n 1, 1), (54, .invokevirtual 144, 3), (57, .lload_n 3, 1), (58, .invokevirtual 148, 3), (61, .lreturn, 1)]
def rm_k_X9_root : List rm_K5 := [(137, 3, 79, 1, 1), (140, 5, 9446744073709551616, 0, 0), (142, 5, 10, 0, 0), (29, 0, 9, 6, 0), (16, 0, 9, 4, 0)]
def rm_p_X9_root : rm_M := (rm_c_X9_root, rm_k_X9_root, 6, 3, false, 9)
def rm_c_X9_sign : List (Nat × Instr × Nat) := [(0, .aload_n 0, 1), (1, .iload_n 1, 1), (2, .invokevirtual 127, 3), (5, .ifCond .eq 11, 3), (8, .aload_n 0, 1), (9, .iload_n 2, 1), (10, .invokevirtual 95, 3), (13, .ifCond .ne 6, 3), (16, .bipush (-2), 2), (18, .ireturn, 1), (19, .aload_n 0, 1), (20, .getfield 16, 3), (23, .getfield 134, 3), (26, .iload_n 1, 1), (27, .bipush 10, 2), (29, .imul, 1), (30, .iload_n 2, 1), (31, .iadd, 1), (32, .baload, 1), (33, .ireturn, 1)]
def rm_k_X9_sign : List rm_K5 := [(127, 3, 78, 1, 1), (95, 3, 77, 1, 1), (16, 0, 9, 4, 0), (134, 0, 4, 5, 1)]
def rm_p_X9_sign : rm_M := (rm_c_X9_sign, rm_k_X9_sign, 3, 1, false, 9)
def rm_c_X9_signAt : List (Nat × Instr × Nat) := [(0, .aload_n 0, 1), (1, .iload_n 1, 1), (2, .invokevirtual 95, 3), (5, .ifCond .eq 11, 3), (8, .iload_n 2, 1), (9, .iload_n 3, 1), (10, .invokestatic 190, 3), (13, .ifCond .ne 6, 3), (16, .bipush (-2), 2), (18, .ireturn, 1), (19, .aload_n 0, 1), (20, .getfield 29, 3), (23, .aload_n 0, 1), (24, .getfield 24, 3), (27, .getfield 68, 3), (30, .iload_n 1, 1), (31, .aaload, 1), (32, .iload_n 2, 1), (33, .i2l, 1), (34, .iload_n 3, 1), (35, .i2l, 1), (36, .invokevirtual 206, 3), (39, .ireturn, 1)]
def rm_k_X9_signAt : List rm_K5 := [(95, 3, 77, 1, 1), (29, 0, 9, 6, 0), (24, 0, 9, 5, 0), (68, 0, 7, 9, 1)]
def rm_p_X9_signAt : rm_M := (rm_c_X9_signAt, rm_k_X9_signAt, 4, 1, false, 9)
def rm_c_X9_simple : List (Nat × Instr × Nat) := [(0, .aload_n 0, 1), (1, .iload_n 1, 1), (2, .invokevirtual 127, 3), (5, .ifCond .eq 12, 3), (8, .iload_n 2, 1), (9, .ifCond .lt 8, 3), (12, .iload_n 2, 1), (13, .iconst 1, 1), (14, .if_icmp .le 7, 3), (17, .ldc2_w 176, 3), (20, .lreturn, 1), (21, .iload_n 1, 1), (22, .iconst 2, 1), (23, .irem, 1), (24, .ifCond .ne 14, 3), (27, .aload_n 0, 1), (28, .getfield 16, 3), (31, .iload_n 1, 1), (32, .invokevirtual 178, 3), (35, .goto 11, 3), (38, .aload_n 0, 1), (39, .getfield 16, 3), (42, .iload_n 1, 1), (43, .invokevirtual 181, 3), (46, .aload_n 0, 1), (47, .getfield 16, 3), (50, .getfield 184, 3), (53, .iload_n 1, 1), (54, .iaload, 1), (55, .istore_n 3, 1), (56, .iload_n 3, 1), (57, .ifCond .ge 10, 3), (60, .ldc2_w 140, 3), (63, .iload_n 3, 1), (64, .i2l, 1), (65, .ladd, 1), (66, .lreturn, 1), (67, .iload_n 2, 1), (68, .ifCond .ne 15, 3), (71, .aload_n 0, 1), (72, .getfield 16, 3), (75, .getfield 187, 3), (78, .iload_n 1, 1), (79, .laload, 1), (80, .goto 5, 3), (83, .iload_n 3, 1), (84, .i2l, 1), (85, .lreturn, 1)]
def rm_k_X9_simple : List rm_K5 := [(127, 3, 78, 1, 1), (176, 5, 9446744073709551615, 0, 0), (16, 0, 9, 4, 0), (184, 0, 4, 12, 1), (140, 5, 9446744073709551616, 0, 0), (187, 0, 4, 11, 1)]
def rm_p_X9_simple : rm_M := (rm_c_X9_simple, rm_k_X9_simple, 4, 3, false, 9)
def rm_c_X9_times : List (Nat × Instr × Nat) := [(0, .aload_n 0, 1), (1, .iload_n 1, 1), (2, .invokevirtual 137, 3), (5, .ifCond .eq 11, 3), (8, .aload_n 0, 1), (9, .iload_n 2, 1), (10, .invokevirtual 95, 3), (13, .ifCond .ne 5, 3), (16, .iconst (-1), 1), (17, .ireturn, 1), (18, .aload_n 0, 1), (19, .getfield 24, 3), (22, .getfield 68, 3), (25, .iload_n 2, 1), (26, .aaload, 1), (27, .getfield 105, 3), (30, .ifCond .ge 6, 3), (33, .bipush (-2), 2), (35, .ireturn, 1), (36, .aload_n 0, 1), (37, .getfield 34, 3), (40, .aload_n 0, 1), (41, .getfield 16, 3), (44, .iload_n 1, 1), (45, .invokevirtual 144, 3), (48, .getfield 152, 3), (51, .iload_n 2, 1), (52, .invokevirtual 157, 3), (55, .ireturn, 1)]
def rm_k_X9_times : List rm_K5 := [(137, 3, 79, 1, 1), (95, 3, 77, 1, 1), (24, 0, 9, 5, 0), (68, 0, 7, 9, 1), (105, 0, 6, 0, 1), (34, 0, 9, 7, 0), (16, 0, 9, 4, 0), (152, 0, 8, 0, 1)]
def rm_p_X9_times : rm_M := (rm_c_X9_times, rm_k_X9_times, 3, 1, false, 9)
def rm_c_X9_type : List (Nat × Instr × Nat) := [(0, .iload_n 1, 1), (1, .invokestatic 35, 3), (4, .ifCond .eq 13, 3), (7, .aload_n 0, 1), (8, .getfield 39, 3), (11, .sipush 400, 3), (14, .if_icmp .lt 5, 3), (17, .iconst (-1), 1), (18, .ireturn, 1), (19, .aload_n 0, 1), (20, .getfield 24, 3), (23, .getfield 42, 3), (26, .aload_n 0, 1), (27, .getfield 39, 3), (30, .iload_n 1, 1), (31, .i2c, 1), (32, .castore, 1), (33, .aload_n 0, 1), (34, .dup, 1), (35, .getfield 39, 3), (38, .iconst 1, 1), (39, .iadd, 1), (40, .putfield 39, 3), (43, .aload_n 0, 1), (44, .getfield 39, 3), (47, .ireturn, 1)]
def rm_k_X9_type : List rm_K5 := [(35, 3, 80, 1, 0), (39, 0, 9, 0, 0), (24, 0, 9, 5, 0), (42, 0, 7, 0, 1)]
def rm_p_X9_type : rm_M := (rm_c_X9_type, rm_k_X9_type, 2, 1, false, 9)
def rm_P (i : Nat) : rm_M := match i with
  | 0 => rm_p_J0_coder_7d493
  | 1 => rm_p_J0_indexOf_0f7a4
  | 2 => rm_p_J0_indexOf_7cf53
  | 3 => rm_p_J0_isLatin1_aae02
  | 4 => rm_p_J0_length_8abf5
  | 5 => rm_p_J13_compare_74951
  | 6 => rm_p_J1_canEncode_9a6ad
  | 7 => rm_p_J1_indexOfChar_4cfef
  | 8 => rm_p_J1_indexOf_4cfef
  | 9 => rm_p_J9_abs_067f4
  | 10 => rm_p_J9_max_7cf53
  | 11 => rm_p_J9_min_7cf53
  | 12 => rm_p_X0_init
  | 13 => rm_p_X10_atom
  | 14 => rm_p_X10_beginSum
  | 15 => rm_p_X10_cannot
  | 16 => rm_p_X10_cellOf
  | 17 => rm_p_X10_common
  | 18 => rm_p_X10_count
  | 19 => rm_p_X10_exact
  | 20 => rm_p_X10_fail
  | 21 => rm_p_X10_four
  | 22 => rm_p_X10_good
  | 23 => rm_p_X10_holds
  | 24 => rm_p_X10_init
  | 25 => rm_p_X10_isAtom
  | 26 => rm_p_X10_isCell
  | 27 => rm_p_X10_isDigit
  | 28 => rm_p_X10_isNumber
  | 29 => rm_p_X10_isRoot
  | 30 => rm_p_X10_isSign
  | 31 => rm_p_X10_judge
  | 32 => rm_p_X10_load
  | 33 => rm_p_X10_peek
  | 34 => rm_p_X10_readAtom
  | 35 => rm_p_X10_readSum
  | 36 => rm_p_X10_readText
  | 37 => rm_p_X10_root
  | 38 => rm_p_X10_settle
  | 39 => rm_p_X10_sign
  | 40 => rm_p_X10_signAt
  | 41 => rm_p_X10_simple
  | 42 => rm_p_X10_takeBase
  | 43 => rm_p_X10_times
  | 44 => rm_p_X10_type
  | 45 => rm_p_X1_init
  | 46 => rm_p_X1_set
  | 47 => rm_p_X2_init
  | 48 => rm_p_X3_init
  | 49 => rm_p_X4_init
  | 50 => rm_p_X5_init
  | 51 => rm_p_X6_init
  | 52 => rm_p_X6_setConstant
  | 53 => rm_p_X7_fail
  | 54 => rm_p_X7_init
  | 55 => rm_p_X7_isDigit
  | 56 => rm_p_X7_look
  | 57 => rm_p_X7_read
  | 58 => rm_p_X7_readAll
  | 59 => rm_p_X7_readAtom
  | 60 => rm_p_X7_readBase
  | 61 => rm_p_X7_readNumber
  | 62 => rm_p_X7_readOne
  | 63 => rm_p_X7_readPower
  | 64 => rm_p_X7_readSum
  | 65 => rm_p_X7_readTerm
  | 66 => rm_p_X7_readText
  | 67 => rm_p_X7_slot
  | 68 => rm_p_X8_init
  | 69 => rm_p_X9_atom
  | 70 => rm_p_X9_cellOf
  | 71 => rm_p_X9_common
  | 72 => rm_p_X9_count
  | 73 => rm_p_X9_exact
  | 74 => rm_p_X9_four
  | 75 => rm_p_X9_holds
  | 76 => rm_p_X9_init
  | 77 => rm_p_X9_isAtom
  | 78 => rm_p_X9_isCell
  | 79 => rm_p_X9_isRoot
  | 80 => rm_p_X9_isSign
  | 81 => rm_p_X9_judge
  | 82 => rm_p_X9_load
  | 83 => rm_p_X9_root
  | 84 => rm_p_X9_sign
  | 85 => rm_p_X9_signAt
  | 86 => rm_p_X9_simple
  | 87 => rm_p_X9_times
  | _ => rm_p_X9_type
def rm_mt (i : Nat) : rm_Y := match i with
  | 0 => (yJ0_coder_7d493, cJ0_coder_7d493, 1, (some .byte))
  | 1 => (yJ0_indexOf_0f7a4, cJ0_indexOf_0f7a4, 2, (some .int))
  | 2 => (yJ0_indexOf_7cf53, cJ0_indexOf_7cf53, 3, (some .int))
  | 3 => (yJ0_isLatin1_aae02, cJ0_isLatin1_aae02, 1, (some .boolean))
  | 4 => (yJ0_length_8abf5, cJ0_length_8abf5, 1, (some .int))
  | 5 => (yJ13_compare_74951, cJ13_compare_74951, 4, (some .int))
  | 6 => (yJ1_canEncode_9a6ad, cJ1_canEncode_9a6ad, 1, (some .boolean))
  | 7 => (yJ1_indexOfChar_4cfef, cJ1_indexOfChar_4cfef, 6, (some .int))
  | 8 => (yJ1_indexOf_4cfef, cJ1_indexOf_4cfef, 4, (some .int))
  | 9 => (yJ9_abs_067f4, cJ9_abs_067f4, 2, (some .long))
  | 10 => (yJ9_max_7cf53, cJ9_max_7cf53, 2, (some .int))
  | 11 => (yJ9_min_7cf53, cJ9_min_7cf53, 2, (some .int))
  | 12 => (yX0_init, cX0_init, 2, none)
  | 13 => (yX10_atom, cX10_atom, 7, (some .int))
  | 14 => (yX10_beginSum, cX10_beginSum, 2, none)
  | 15 => (yX10_cannot, cX10_cannot, 2, none)
  | 16 => (yX10_cellOf, cX10_cellOf, 5, (some .int))
  | 17 => (yX10_common, cX10_common, 6, (some .int))
  | 18 => (yX10_count, cX10_count, 2, (some .int))
  | 19 => (yX10_exact, cX10_exact, 4, (some .long))
  | 20 => (yX10_fail, cX10_fail, 3, none)
  | 21 => (yX10_four, cX10_four, 5, (some .int))
  | 22 => (yX10_good, cX10_good, 1, (some .boolean))
  | 23 => (yX10_holds, cX10_holds, 2, (some .int))
  | 24 => (yX10_init, cX10_init, 1, none)
  | 25 => (yX10_isAtom, cX10_isAtom, 2, (some .boolean))
  | 26 => (yX10_isCell, cX10_isCell, 2, (some .boolean))
  | 27 => (yX10_isDigit, cX10_isDigit, 1, (some .boolean))
  | 28 => (yX10_isNumber, cX10_isNumber, 2, (some .boolean))
  | 29 => (yX10_isRoot, cX10_isRoot, 2, (some .boolean))
  | 30 => (yX10_isSign, cX10_isSign, 1, (some .boolean))
  | 31 => (yX10_judge, cX10_judge, 6, (some .int))
  | 32 => (yX10_load, cX10_load, 1, (some .int))
  | 33 => (yX10_peek, cX10_peek, 1, (some .int))
  | 34 => (yX10_readAtom, cX10_readAtom, 4, none)
  | 35 => (yX10_readSum, cX10_readSum, 4, none)
  | 36 => (yX10_readText, cX10_readText, 6, none)
  | 37 => (yX10_root, cX10_root, 6, (some .long))
  | 38 => (yX10_settle, cX10_settle, 2, none)
  | 39 => (yX10_sign, cX10_sign, 3, (some .int))
  | 40 => (yX10_signAt, cX10_signAt, 9, (some .int))
  | 41 => (yX10_simple, cX10_simple, 14, (some .long))
  | 42 => (yX10_takeBase, cX10_takeBase, 3, (some .boolean))
  | 43 => (yX10_times, cX10_times, 3, (some .int))
  | 44 => (yX10_type, cX10_type, 2, (some .int))
  | 45 => (yX1_init, cX1_init, 2, none)
  | 46 => (yX1_set, cX1_set, 5, none)
  | 47 => (yX2_init, cX2_init, 1, none)
  | 48 => (yX3_init, cX3_init, 2, none)
  | 49 => (yX4_init, cX4_init, 1, none)
  | 50 => (yX5_init, cX5_init, 2, none)
  | 51 => (yX6_init, cX6_init, 1, none)
  | 52 => (yX6_setConstant, cX6_setConstant, 4, none)
  | 53 => (yX7_fail, cX7_fail, 3, none)
  | 54 => (yX7_init, cX7_init, 2, none)
  | 55 => (yX7_isDigit, cX7_isDigit, 1, (some .boolean))
  | 56 => (yX7_look, cX7_look, 1, none)
  | 57 => (yX7_read, cX7_read, 2, (some .int))
  | 58 => (yX7_readAll, cX7_readAll, 3, none)
  | 59 => (yX7_readAtom, cX7_readAtom, 3, none)
  | 60 => (yX7_readBase, cX7_readBase, 3, none)
  | 61 => (yX7_readNumber, cX7_readNumber, 3, (some .int))
  | 62 => (yX7_readOne, cX7_readOne, 4, none)
  | 63 => (yX7_readPower, cX7_readPower, 5, none)
  | 64 => (yX7_readSum, cX7_readSum, 6, none)
  | 65 => (yX7_readTerm, cX7_readTerm, 5, none)
  | 66 => (yX7_readText, cX7_readText, 3, none)
  | 67 => (yX7_slot, cX7_slot, 2, (some (.object "RootJudge$Poly")))
  | 68 => (yX8_init, cX8_init, 1, none)
  | 69 => (yX9_atom, cX9_atom, 5, (some .int))
  | 70 => (yX9_cellOf, cX9_cellOf, 3, (some .int))
  | 71 => (yX9_common, cX9_common, 2, (some .int))
  | 72 => (yX9_count, cX9_count, 2, (some .int))
  | 73 => (yX9_exact, cX9_exact, 4, (some .long))
  | 74 => (yX9_four, cX9_four, 5, (some .int))
  | 75 => (yX9_holds, cX9_holds, 2, (some .int))
  | 76 => (yX9_init, cX9_init, 1, none)
  | 77 => (yX9_isAtom, cX9_isAtom, 2, (some .boolean))
  | 78 => (yX9_isCell, cX9_isCell, 2, (some .boolean))
  | 79 => (yX9_isRoot, cX9_isRoot, 2, (some .boolean))
  | 80 => (yX9_isSign, cX9_isSign, 1, (some .boolean))
  | 81 => (yX9_judge, cX9_judge, 3, (some .int))
  | 82 => (yX9_load, cX9_load, 4, (some .int))
  | 83 => (yX9_root, cX9_root, 6, (some .long))
  | 84 => (yX9_sign, cX9_sign, 3, (some .int))
  | 85 => (yX9_signAt, cX9_signAt, 4, (some .int))
  | 86 => (yX9_simple, cX9_simple, 4, (some .long))
  | 87 => (yX9_times, cX9_times, 3, (some .int))
  | _ => (yX9_type, cX9_type, 2, (some .int))
end
section
/-! THEY ARE AS THE CLAIM HAS THEM -/
theorem rm_n_J0_coder_7d493 : rm_okN rm_mt 89 0 0 := ⟨by decide, rm_tb_of 629 (by decide +kernel) rfl, rm_tb_of 142 (by decide +kernel) rfl, ⟨by decide, by decide, by decide +kernel⟩, by decide⟩
theorem rm_n_J0_indexOf_0f7a4 : rm_okN rm_mt 89 1 1 := ⟨by decide, rm_tb_of 611 (by decide +kernel) rfl, rm_tb_of 142 (by decide +kernel) rfl, ⟨by decide, by decide, by decide +kernel⟩, by decide⟩
theorem rm_n_J0_indexOf_7cf53 : rm_okN rm_mt 89 2 2 := ⟨by decide, rm_tb_of 615 (by decide +kernel) rfl, rm_tb_of 142 (by decide +kernel) rfl, ⟨by decide, by decide, by decide +kernel⟩, by decide⟩
theorem rm_n_J0_isLatin1_aae02 : rm_okN rm_mt 89 3 0 := ⟨by decide, rm_tb_of 619 (by decide +kernel) rfl, rm_tb_of 142 (by decide +kernel) rfl, ⟨by decide, by decide, by decide +kernel⟩, by decide⟩
theorem rm_n_J0_length_8abf5 : rm_okN rm_mt 89 4 0 := ⟨by decide, rm_tb_of 625 (by decide +kernel) rfl, rm_tb_of 142 (by decide +kernel) rfl, ⟨by decide, by decide, by decide +kernel⟩, by decide⟩
theorem rm_n_J13_compare_74951 : rm_okN rm_mt 89 5 2 := ⟨by decide, rm_tb_of 358 (by decide +kernel) rfl, rm_tb_of 139 (by decide +kernel) rfl, ⟨by decide, by decide, by decide +kernel⟩, by decide⟩
theorem rm_n_J1_canEncode_9a6ad : rm_okN rm_mt 89 6 1 := ⟨by decide, rm_tb_of 635 (by decide +kernel) rfl, rm_tb_of 143 (by decide +kernel) rfl, ⟨by decide, by decide, by decide +kernel⟩, by decide⟩
theorem rm_n_J1_indexOfChar_4cfef : rm_okN rm_mt 89 7 4 := ⟨by decide, rm_tb_of 640 (by decide +kernel) rfl, rm_tb_of 143 (by decide +kernel) rfl, ⟨by decide, by decide, by decide +kernel⟩, by decide⟩
theorem rm_n_J1_indexOf_4cfef : rm_okN rm_mt 89 8 4 := ⟨by decide, rm_tb_of 632 (by decide +kernel) rfl, rm_tb_of 143 (by decide +kernel) rfl, ⟨by decide, by decide, by decide +kernel⟩, by decide⟩
theorem rm_n_J9_abs_067f4 : rm_okN rm_mt 89 9 1 := ⟨by decide, rm_tb_of 361 (by decide +kernel) rfl, rm_tb_of 138 (by decide +kernel) rfl, ⟨by decide, by decide, by decide +kernel⟩, by decide⟩
theorem rm_n_J9_max_7cf53 : rm_okN rm_mt 89 10 2 := ⟨by decide, rm_tb_of 339 (by decide +kernel) rfl, rm_tb_of 138 (by decide +kernel) rfl, ⟨by decide, by decide, by decide +kernel⟩, by decide⟩
theorem rm_n_J9_min_7cf53 : rm_okN rm_mt 89 11 2 := ⟨by decide, rm_tb_of 599 (by decide +kernel) rfl, rm_tb_of 138 (by decide +kernel) rfl, ⟨by decide, by decide, by decide +kernel⟩, by decide⟩
theorem rm_n_X0_init : rm_okN rm_mt 89 12 0 := ⟨by decide, rm_tb_of 257 (by decide +kernel) rfl, rm_tb_of 134 (by decide +kernel) rfl, ⟨by decide, by decide, by decide +kernel⟩, by decide⟩
theorem rm_n_X10_atom : rm_okN rm_mt 89 13 2 := ⟨by decide, rm_tb_of 1710 (by decide +kernel) rfl, rm_tb_of 141 (by decide +kernel) rfl, ⟨by decide, by decide, by decide +kernel⟩, by decide⟩
theorem rm_n_X10_beginSum : rm_okN rm_mt 89 14 0 := ⟨by decide, rm_tb_of 1423 (by decide +kernel) rfl, rm_tb_of 141 (by decide +kernel) rfl, ⟨by decide, by decide, by decide +kernel⟩, by decide⟩
theorem rm_n_X10_cannot : rm_okN rm_mt 89 15 0 := ⟨by decide, rm_tb_of 1438 (by decide +kernel) rfl, rm_tb_of 141 (by decide +kernel) rfl, ⟨by decide, by decide, by decide +kernel⟩, by decide⟩
theorem rm_n_X10_cellOf : rm_okN rm_mt 89 16 2 := ⟨by decide, rm_tb_of 1776 (by decide +kernel) rfl, rm_tb_of 141 (by decide +kernel) rfl, ⟨by decide, by decide, by decide +kernel⟩, by decide⟩
theorem rm_n_X10_common : rm_okN rm_mt 89 17 1 := ⟨by decide, rm_tb_of 1761 (by decide +kernel) rfl, rm_tb_of 141 (by decide +kernel) rfl, ⟨by decide, by decide, by decide +kernel⟩, by decide⟩
theorem rm_n_X10_count : rm_okN rm_mt 89 18 1 := ⟨by decide, rm_tb_of 1702 (by decide +kernel) rfl, rm_tb_of 141 (by decide +kernel) rfl, ⟨by decide, by decide, by decide +kernel⟩, by decide⟩
theorem rm_n_X10_exact : rm_okN rm_mt 89 19 2 := ⟨by decide, rm_tb_of 1756 (by decide +kernel) rfl, rm_tb_of 141 (by decide +kernel) rfl, ⟨by decide, by decide, by decide +kernel⟩, by decide⟩
theorem rm_n_X10_fail : rm_okN rm_mt 89 20 2 := ⟨by decide, rm_tb_of 1407 (by decide +kernel) rfl, rm_tb_of 141 (by decide +kernel) rfl, ⟨by decide, by decide, by decide +kernel⟩, by decide⟩
theorem rm_n_X10_four : rm_okN rm_mt 89 21 1 := ⟨by decide, rm_tb_of 1387 (by decide +kernel) rfl, rm_tb_of 141 (by decide +kernel) rfl, ⟨by decide, by decide, by decide +kernel⟩, by decide⟩
theorem rm_n_X10_good : rm_okN rm_mt 89 22 0 := ⟨by decide, rm_tb_of 1399 (by decide +kernel) rfl, rm_tb_of 141 (by decide +kernel) rfl, ⟨by decide, by decide, by decide +kernel⟩, by decide⟩
theorem rm_n_X10_holds : rm_okN rm_mt 89 23 1 := ⟨by decide, rm_tb_of 1723 (by decide +kernel) rfl, rm_tb_of 141 (by decide +kernel) rfl, ⟨by decide, by decide, by decide +kernel⟩, by decide⟩
theorem rm_n_X10_init : rm_okN rm_mt 89 24 0 := ⟨by decide, rm_tb_of 1208 (by decide +kernel) rfl, rm_tb_of 141 (by decide +kernel) rfl, ⟨by decide, by decide, by decide +kernel⟩, by decide⟩
theorem rm_n_X10_isAtom : rm_okN rm_mt 89 25 1 := ⟨by decide, rm_tb_of 1714 (by decide +kernel) rfl, rm_tb_of 141 (by decide +kernel) rfl, ⟨by decide, by decide, by decide +kernel⟩, by decide⟩
theorem rm_n_X10_isCell : rm_okN rm_mt 89 26 1 := ⟨by decide, rm_tb_of 1727 (by decide +kernel) rfl, rm_tb_of 141 (by decide +kernel) rfl, ⟨by decide, by decide, by decide +kernel⟩, by decide⟩
theorem rm_n_X10_isDigit : rm_okN rm_mt 89 27 1 := ⟨by decide, rm_tb_of 1430 (by decide +kernel) rfl, rm_tb_of 141 (by decide +kernel) rfl, ⟨by decide, by decide, by decide +kernel⟩, by decide⟩
theorem rm_n_X10_isNumber : rm_okN rm_mt 89 28 2 := ⟨by decide, rm_tb_of 1779 (by decide +kernel) rfl, rm_tb_of 141 (by decide +kernel) rfl, ⟨by decide, by decide, by decide +kernel⟩, by decide⟩
theorem rm_n_X10_isRoot : rm_okN rm_mt 89 29 1 := ⟨by decide, rm_tb_of 1739 (by decide +kernel) rfl, rm_tb_of 141 (by decide +kernel) rfl, ⟨by decide, by decide, by decide +kernel⟩, by decide⟩
theorem rm_n_X10_isSign : rm_okN rm_mt 89 30 1 := ⟨by decide, rm_tb_of 1383 (by decide +kernel) rfl, rm_tb_of 141 (by decide +kernel) rfl, ⟨by decide, by decide, by decide +kernel⟩, by decide⟩
theorem rm_n_X10_judge : rm_okN rm_mt 89 31 1 := ⟨by decide, rm_tb_of 1719 (by decide +kernel) rfl, rm_tb_of 141 (by decide +kernel) rfl, ⟨by decide, by decide, by decide +kernel⟩, by decide⟩
theorem rm_n_X10_load : rm_okN rm_mt 89 32 0 := ⟨by decide, rm_tb_of 1391 (by decide +kernel) rfl, rm_tb_of 141 (by decide +kernel) rfl, ⟨by decide, by decide, by decide +kernel⟩, by decide⟩
theorem rm_n_X10_peek : rm_okN rm_mt 89 33 0 := ⟨by decide, rm_tb_of 1403 (by decide +kernel) rfl, rm_tb_of 141 (by decide +kernel) rfl, ⟨by decide, by decide, by decide +kernel⟩, by decide⟩
theorem rm_n_X10_readAtom : rm_okN rm_mt 89 34 0 := ⟨by decide, rm_tb_of 1415 (by decide +kernel) rfl, rm_tb_of 141 (by decide +kernel) rfl, ⟨by decide, by decide, by decide +kernel⟩, by decide⟩
theorem rm_n_X10_readSum : rm_okN rm_mt 89 35 0 := ⟨by decide, rm_tb_of 1419 (by decide +kernel) rfl, rm_tb_of 141 (by decide +kernel) rfl, ⟨by decide, by decide, by decide +kernel⟩, by decide⟩
theorem rm_n_X10_readText : rm_okN rm_mt 89 36 0 := ⟨by decide, rm_tb_of 1395 (by decide +kernel) rfl, rm_tb_of 141 (by decide +kernel) rfl, ⟨by decide, by decide, by decide +kernel⟩, by decide⟩
theorem rm_n_X10_root : rm_okN rm_mt 89 37 2 := ⟨by decide, rm_tb_of 1735 (by decide +kernel) rfl, rm_tb_of 141 (by decide +kernel) rfl, ⟨by decide, by decide, by decide +kernel⟩, by decide⟩
theorem rm_n_X10_settle : rm_okN rm_mt 89 38 1 := ⟨by decide, rm_tb_of 1480 (by decide +kernel) rfl, rm_tb_of 141 (by decide +kernel) rfl, ⟨by decide, by decide, by decide +kernel⟩, by decide⟩
theorem rm_n_X10_sign : rm_okN rm_mt 89 39 2 := ⟨by decide, rm_tb_of 1731 (by decide +kernel) rfl, rm_tb_of 141 (by decide +kernel) rfl, ⟨by decide, by decide, by decide +kernel⟩, by decide⟩
theorem rm_n_X10_signAt : rm_okN rm_mt 89 40 3 := ⟨by decide, rm_tb_of 1785 (by decide +kernel) rfl, rm_tb_of 141 (by decide +kernel) rfl, ⟨by decide, by decide, by decide +kernel⟩, by decide⟩
theorem rm_n_X10_simple : rm_okN rm_mt 89 41 2 := ⟨by decide, rm_tb_of 1765 (by decide +kernel) rfl, rm_tb_of 141 (by decide +kernel) rfl, ⟨by decide, by decide, by decide +kernel⟩, by decide⟩
theorem rm_n_X10_takeBase : rm_okN rm_mt 89 42 1 := ⟨by decide, rm_tb_of 1427 (by decide +kernel) rfl, rm_tb_of 141 (by decide +kernel) rfl, ⟨by decide, by decide, by decide +kernel⟩, by decide⟩
theorem rm_n_X10_times : rm_okN rm_mt 89 43 2 := ⟨by decide, rm_tb_of 1752 (by decide +kernel) rfl, rm_tb_of 141 (by decide +kernel) rfl, ⟨by decide, by decide, by decide +kernel⟩, by decide⟩
theorem rm_n_X10_type : rm_okN rm_mt 89 44 1 := ⟨by decide, rm_tb_of 1380 (by decide +kernel) rfl, rm_tb_of 141 (by decide +kernel) rfl, ⟨by decide, by decide, by decide +kernel⟩, by decide⟩
theorem rm_n_X1_init : rm_okN rm_mt 89 45 1 := ⟨by decide, rm_tb_of 335 (by decide +kernel) rfl, rm_tb_of 137 (by decide +kernel) rfl, ⟨by decide, by decide, by decide +kernel⟩, by decide⟩
theorem rm_n_X1_set : rm_okN rm_mt 89 46 1 := ⟨by decide, rm_tb_of 355 (by decide +kernel) rfl, rm_tb_of 137 (by decide +kernel) rfl, ⟨by decide, by decide, by decide +kernel⟩, by decide⟩
theorem rm_n_X2_init : rm_okN rm_mt 89 47 0 := ⟨by decide, rm_tb_of 265 (by decide +kernel) rfl, rm_tb_of 135 (by decide +kernel) rfl, ⟨by decide, by decide, by decide +kernel⟩, by decide⟩
theorem rm_n_X3_init : rm_okN rm_mt 89 48 0 := ⟨by decide, rm_tb_of 251 (by decide +kernel) rfl, rm_tb_of 133 (by decide +kernel) rfl, ⟨by decide, by decide, by decide +kernel⟩, by decide⟩
theorem rm_n_X4_init : rm_okN rm_mt 89 49 0 := ⟨by decide, rm_tb_of 160 (by decide +kernel) rfl, rm_tb_of 130 (by decide +kernel) rfl, ⟨by decide, by decide, by decide +kernel⟩, by decide⟩
theorem rm_n_X5_init : rm_okN rm_mt 89 50 0 := ⟨by decide, rm_tb_of 328 (by decide +kernel) rfl, rm_tb_of 136 (by decide +kernel) rfl, ⟨by decide, by decide, by decide +kernel⟩, by decide⟩
theorem rm_n_X6_init : rm_okN rm_mt 89 51 0 := ⟨by decide, rm_tb_of 173 (by decide +kernel) rfl, rm_tb_of 132 (by decide +kernel) rfl, ⟨by decide, by decide, by decide +kernel⟩, by decide⟩
theorem rm_n_X6_setConstant : rm_okN rm_mt 89 52 1 := ⟨by decide, rm_tb_of 742 (by decide +kernel) rfl, rm_tb_of 132 (by decide +kernel) rfl, ⟨by decide, by decide, by decide +kernel⟩, by decide⟩
theorem rm_n_X7_fail : rm_okN rm_mt 89 53 2 := ⟨by decide, rm_tb_of 693 (by decide +kernel) rfl, rm_tb_of 131 (by decide +kernel) rfl, ⟨by decide, by decide, by decide +kernel⟩, by decide⟩
theorem rm_n_X7_init : rm_okN rm_mt 89 54 0 := ⟨by decide, rm_tb_of 166 (by decide +kernel) rfl, rm_tb_of 131 (by decide +kernel) rfl, ⟨by decide, by decide, by decide +kernel⟩, by decide⟩
theorem rm_n_X7_isDigit : rm_okN rm_mt 89 55 1 := ⟨by decide, rm_tb_of 606 (by decide +kernel) rfl, rm_tb_of 131 (by decide +kernel) rfl, ⟨by decide, by decide, by decide +kernel⟩, by decide⟩
theorem rm_n_X7_look : rm_okN rm_mt 89 56 0 := ⟨by decide, rm_tb_of 603 (by decide +kernel) rfl, rm_tb_of 131 (by decide +kernel) rfl, ⟨by decide, by decide, by decide +kernel⟩, by decide⟩
theorem rm_n_X7_read : rm_okN rm_mt 89 57 1 := ⟨by decide, rm_tb_of 596 (by decide +kernel) rfl, rm_tb_of 131 (by decide +kernel) rfl, ⟨by decide, by decide, by decide +kernel⟩, by decide⟩
theorem rm_n_X7_readAll : rm_okN rm_mt 89 58 1 := ⟨by decide, rm_tb_of 701 (by decide +kernel) rfl, rm_tb_of 131 (by decide +kernel) rfl, ⟨by decide, by decide, by decide +kernel⟩, by decide⟩
theorem rm_n_X7_readAtom : rm_okN rm_mt 89 59 0 := ⟨by decide, rm_tb_of 713 (by decide +kernel) rfl, rm_tb_of 131 (by decide +kernel) rfl, ⟨by decide, by decide, by decide +kernel⟩, by decide⟩
theorem rm_n_X7_readBase : rm_okN rm_mt 89 60 2 := ⟨by decide, rm_tb_of 729 (by decide +kernel) rfl, rm_tb_of 131 (by decide +kernel) rfl, ⟨by decide, by decide, by decide +kernel⟩, by decide⟩
theorem rm_n_X7_readNumber : rm_okN rm_mt 89 61 0 := ⟨by decide, rm_tb_of 746 (by decide +kernel) rfl, rm_tb_of 131 (by decide +kernel) rfl, ⟨by decide, by decide, by decide +kernel⟩, by decide⟩
theorem rm_n_X7_readOne : rm_okN rm_mt 89 62 1 := ⟨by decide, rm_tb_of 705 (by decide +kernel) rfl, rm_tb_of 131 (by decide +kernel) rfl, ⟨by decide, by decide, by decide +kernel⟩, by decide⟩
theorem rm_n_X7_readPower : rm_okN rm_mt 89 63 2 := ⟨by decide, rm_tb_of 725 (by decide +kernel) rfl, rm_tb_of 131 (by decide +kernel) rfl, ⟨by decide, by decide, by decide +kernel⟩, by decide⟩
theorem rm_n_X7_readSum : rm_okN rm_mt 89 64 2 := ⟨by decide, rm_tb_of 717 (by decide +kernel) rfl, rm_tb_of 131 (by decide +kernel) rfl, ⟨by decide, by decide, by decide +kernel⟩, by decide⟩
theorem rm_n_X7_readTerm : rm_okN rm_mt 89 65 2 := ⟨by decide, rm_tb_of 721 (by decide +kernel) rfl, rm_tb_of 131 (by decide +kernel) rfl, ⟨by decide, by decide, by decide +kernel⟩, by decide⟩
theorem rm_n_X7_readText : rm_okN rm_mt 89 66 1 := ⟨by decide, rm_tb_of 697 (by decide +kernel) rfl, rm_tb_of 131 (by decide +kernel) rfl, ⟨by decide, by decide, by decide +kernel⟩, by decide⟩
theorem rm_n_X7_slot : rm_okN rm_mt 89 67 1 := ⟨by decide, rm_tb_of 733 (by decide +kernel) rfl, rm_tb_of 131 (by decide +kernel) rfl, ⟨by decide, by decide, by decide +kernel⟩, by decide⟩
theorem rm_n_X8_init : rm_okN rm_mt 89 68 0 := ⟨by decide, rm_tb_of 386 (by decide +kernel) rfl, rm_tb_of 140 (by decide +kernel) rfl, ⟨by decide, by decide, by decide +kernel⟩, by decide⟩
theorem rm_n_X9_atom : rm_okN rm_mt 89 69 2 := ⟨by decide, rm_tb_of 1098 (by decide +kernel) rfl, rm_tb_of 129 (by decide +kernel) rfl, ⟨by decide, by decide, by decide +kernel⟩, by decide⟩
theorem rm_n_X9_cellOf : rm_okN rm_mt 89 70 2 := ⟨by decide, rm_tb_of 1188 (by decide +kernel) rfl, rm_tb_of 129 (by decide +kernel) rfl, ⟨by decide, by decide, by decide +kernel⟩, by decide⟩
theorem rm_n_X9_common : rm_okN rm_mt 89 71 1 := ⟨by decide, rm_tb_of 1157 (by decide +kernel) rfl, rm_tb_of 129 (by decide +kernel) rfl, ⟨by decide, by decide, by decide +kernel⟩, by decide⟩
theorem rm_n_X9_count : rm_okN rm_mt 89 72 1 := ⟨by decide, rm_tb_of 1094 (by decide +kernel) rfl, rm_tb_of 129 (by decide +kernel) rfl, ⟨by decide, by decide, by decide +kernel⟩, by decide⟩
theorem rm_n_X9_exact : rm_okN rm_mt 89 73 2 := ⟨by decide, rm_tb_of 1152 (by decide +kernel) rfl, rm_tb_of 129 (by decide +kernel) rfl, ⟨by decide, by decide, by decide +kernel⟩, by decide⟩
theorem rm_n_X9_four : rm_okN rm_mt 89 74 1 := ⟨by decide, rm_tb_of 588 (by decide +kernel) rfl, rm_tb_of 129 (by decide +kernel) rfl, ⟨by decide, by decide, by decide +kernel⟩, by decide⟩
theorem rm_n_X9_holds : rm_okN rm_mt 89 75 1 := ⟨by decide, rm_tb_of 1120 (by decide +kernel) rfl, rm_tb_of 129 (by decide +kernel) rfl, ⟨by decide, by decide, by decide +kernel⟩, by decide⟩
theorem rm_n_X9_init : rm_okN rm_mt 89 76 0 := ⟨by decide, rm_tb_of 152 (by decide +kernel) rfl, rm_tb_of 129 (by decide +kernel) rfl, ⟨by decide, by decide, by decide +kernel⟩, by decide⟩
theorem rm_n_X9_isAtom : rm_okN rm_mt 89 77 1 := ⟨by decide, rm_tb_of 1102 (by decide +kernel) rfl, rm_tb_of 129 (by decide +kernel) rfl, ⟨by decide, by decide, by decide +kernel⟩, by decide⟩
theorem rm_n_X9_isCell : rm_okN rm_mt 89 78 1 := ⟨by decide, rm_tb_of 1124 (by decide +kernel) rfl, rm_tb_of 129 (by decide +kernel) rfl, ⟨by decide, by decide, by decide +kernel⟩, by decide⟩
theorem rm_n_X9_isRoot : rm_okN rm_mt 89 79 1 := ⟨by decide, rm_tb_of 1136 (by decide +kernel) rfl, rm_tb_of 129 (by decide +kernel) rfl, ⟨by decide, by decide, by decide +kernel⟩, by decide⟩
theorem rm_n_X9_isSign : rm_okN rm_mt 89 80 1 := ⟨by decide, rm_tb_of 584 (by decide +kernel) rfl, rm_tb_of 129 (by decide +kernel) rfl, ⟨by decide, by decide, by decide +kernel⟩, by decide⟩
theorem rm_n_X9_judge : rm_okN rm_mt 89 81 1 := ⟨by decide, rm_tb_of 1116 (by decide +kernel) rfl, rm_tb_of 129 (by decide +kernel) rfl, ⟨by decide, by decide, by decide +kernel⟩, by decide⟩
theorem rm_n_X9_load : rm_okN rm_mt 89 82 0 := ⟨by decide, rm_tb_of 592 (by decide +kernel) rfl, rm_tb_of 129 (by decide +kernel) rfl, ⟨by decide, by decide, by decide +kernel⟩, by decide⟩
theorem rm_n_X9_root : rm_okN rm_mt 89 83 2 := ⟨by decide, rm_tb_of 1132 (by decide +kernel) rfl, rm_tb_of 129 (by decide +kernel) rfl, ⟨by decide, by decide, by decide +kernel⟩, by decide⟩
theorem rm_n_X9_sign : rm_okN rm_mt 89 84 2 := ⟨by decide, rm_tb_of 1128 (by decide +kernel) rfl, rm_tb_of 129 (by decide +kernel) rfl, ⟨by decide, by decide, by decide +kernel⟩, by decide⟩
theorem rm_n_X9_signAt : rm_okN rm_mt 89 85 3 := ⟨by decide, rm_tb_of 1202 (by decide +kernel) rfl, rm_tb_of 129 (by decide +kernel) rfl, ⟨by decide, by decide, by decide +kernel⟩, by decide⟩
theorem rm_n_X9_simple : rm_okN rm_mt 89 86 2 := ⟨by decide, rm_tb_of 1165 (by decide +kernel) rfl, rm_tb_of 129 (by decide +kernel) rfl, ⟨by decide, by decide, by decide +kernel⟩, by decide⟩
theorem rm_n_X9_times : rm_okN rm_mt 89 87 2 := ⟨by decide, rm_tb_of 1147 (by decide +kernel) rfl, rm_tb_of 129 (by decide +kernel) rfl, ⟨by decide, by decide, by decide +kernel⟩, by decide⟩
theorem rm_n_X9_type : rm_okN rm_mt 89 88 1 := ⟨by decide, rm_tb_of 581 (by decide +kernel) rfl, rm_tb_of 129 (by decide +kernel) rfl, ⟨by decide, by decide, by decide +kernel⟩, by decide⟩
end
section
set_option maxRecDepth 100000 in
theorem rm_d_J0_coder_7d493 : ∀ q ∈ rm_c_J0_coder_7d493, decode cJ0_coder_7d493 q.1 = .ok (q.2.1, q.2.2) := by decide +kernel
set_option maxRecDepth 100000 in
theorem rm_o_J0_coder_7d493 : rm_okP rm_mt rm_P 89 0 := ⟨rm_d_J0_coder_7d493, List.forall_mem_cons.mpr ⟨⟨rm_tb_of 620 (by decide +kernel) rfl, trivial⟩, List.forall_mem_cons.mpr ⟨⟨rm_tb_of 1786 (by decide +kernel) rfl, trivial⟩, (fun _ h => by cases h)⟩⟩, rfl, rfl, (fun h => by cases h), by decide +kernel⟩
set_option maxRecDepth 100000 in
theorem rm_d_J0_indexOf_0f7a4 : ∀ q ∈ rm_c_J0_indexOf_0f7a4, decode cJ0_indexOf_0f7a4 q.1 = .ok (q.2.1, q.2.2) := by decide +kernel
set_option maxRecDepth 100000 in
theorem rm_o_J0_indexOf_0f7a4 : rm_okP rm_mt rm_P 89 1 := ⟨rm_d_J0_indexOf_0f7a4, List.forall_mem_cons.mpr ⟨⟨trivial, rm_tb_of 612 (by decide +kernel) rfl, rm_tb_of 613 (by decide +kernel) rfl, rm_tb_of 614 (by decide +kernel) rfl, rfl, rm_n_J0_indexOf_7cf53⟩, (fun _ h => by cases h)⟩, rfl, rfl, (fun h => by cases h), by decide +kernel⟩
set_option maxRecDepth 100000 in
theorem rm_d_J0_indexOf_7cf53 : ∀ q ∈ rm_c_J0_indexOf_7cf53, decode cJ0_indexOf_7cf53 q.1 = .ok (q.2.1, q.2.2) := by decide +kernel
set_option maxRecDepth 100000 in
theorem rm_o_J0_indexOf_7cf53 : rm_okP rm_mt rm_P 89 2 := ⟨rm_d_J0_indexOf_7cf53, List.forall_mem_cons.mpr ⟨⟨trivial, rm_tb_of 616 (by decide +kernel) rfl, rm_tb_of 617 (by decide +kernel) rfl, rm_tb_of 618 (by decide +kernel) rfl, rfl, rm_n_J0_isLatin1_aae02⟩, List.forall_mem_cons.mpr ⟨⟨rm_tb_of 1787 (by decide +kernel) rfl, trivial⟩, List.forall_mem_cons.mpr ⟨⟨trivial, rm_tb_of 622 (by decide +kernel) rfl, rm_tb_of 623 (by decide +kernel) rfl, rm_tb_of 624 (by decide +kernel) rfl, rfl, rm_n_J0_length_8abf5⟩, List.forall_mem_cons.mpr ⟨⟨trivial, rm_tb_of 630 (by decide +kernel) rfl, rm_tb_of 631 (by decide +kernel) rfl, rm_n_J1_indexOf_4cfef⟩, (fun _ h => by cases h)⟩⟩⟩⟩, rfl, rfl, (fun h => by cases h), by decide +kernel⟩
set_option maxRecDepth 100000 in
theorem rm_d_J0_isLatin1_aae02 : ∀ q ∈ rm_c_J0_isLatin1_aae02, decode cJ0_isLatin1_aae02 q.1 = .ok (q.2.1, q.2.2) := by decide +kernel
set_option maxRecDepth 100000 in
theorem rm_o_J0_isLatin1_aae02 : rm_okP rm_mt rm_P 89 3 := ⟨rm_d_J0_isLatin1_aae02, List.forall_mem_cons.mpr ⟨⟨rm_tb_of 620 (by decide +kernel) rfl, trivial⟩, List.forall_mem_cons.mpr ⟨⟨rm_tb_of 1786 (by decide +kernel) rfl, trivial⟩, (fun _ h => by cases h)⟩⟩, rfl, rfl, (fun h => by cases h), by decide +kernel⟩
set_option maxRecDepth 100000 in
theorem rm_d_J0_length_8abf5 : ∀ q ∈ rm_c_J0_length_8abf5, decode cJ0_length_8abf5 q.1 = .ok (q.2.1, q.2.2) := by decide +kernel
set_option maxRecDepth 100000 in
theorem rm_o_J0_length_8abf5 : rm_okP rm_mt rm_P 89 4 := ⟨rm_d_J0_length_8abf5, List.forall_mem_cons.mpr ⟨⟨rm_tb_of 1787 (by decide +kernel) rfl, trivial⟩, List.forall_mem_cons.mpr ⟨⟨trivial, rm_tb_of 626 (by decide +kernel) rfl, rm_tb_of 627 (by decide +kernel) rfl, rm_tb_of 628 (by decide +kernel) rfl, rfl, rm_n_J0_coder_7d493⟩, (fun _ h => by cases h)⟩⟩, rfl, rfl, (fun h => by cases h), by decide +kernel⟩
set_option maxRecDepth 100000 in
theorem rm_d_J13_compare_74951 : ∀ q ∈ rm_c_J13_compare_74951, decode cJ13_compare_74951 q.1 = .ok (q.2.1, q.2.2) := by decide +kernel
set_option maxRecDepth 100000 in
theorem rm_o_J13_compare_74951 : rm_okP rm_mt rm_P 89 5 := ⟨rm_d_J13_compare_74951, (fun _ h => by cases h), rfl, rfl, (fun h => by cases h), by decide +kernel⟩
set_option maxRecDepth 100000 in
theorem rm_d_J1_canEncode_9a6ad : ∀ q ∈ rm_c_J1_canEncode_9a6ad, decode cJ1_canEncode_9a6ad q.1 = .ok (q.2.1, q.2.2) := by decide +kernel
set_option maxRecDepth 100000 in
theorem rm_o_J1_canEncode_9a6ad : rm_okP rm_mt rm_P 89 6 := ⟨rm_d_J1_canEncode_9a6ad, (fun _ h => by cases h), rfl, rfl, (fun h => by cases h), by decide +kernel⟩
set_option maxRecDepth 100000 in
theorem rm_d_J1_indexOfChar_4cfef : ∀ q ∈ rm_c_J1_indexOfChar_4cfef, decode cJ1_indexOfChar_4cfef q.1 = .ok (q.2.1, q.2.2) := by decide +kernel
set_option maxRecDepth 100000 in
theorem rm_o_J1_indexOfChar_4cfef : rm_okP rm_mt rm_P 89 7 := ⟨rm_d_J1_indexOfChar_4cfef, (fun _ h => by cases h), rfl, rfl, (fun h => by cases h), by decide +kernel⟩
set_option maxRecDepth 100000 in
theorem rm_d_J1_indexOf_4cfef : ∀ q ∈ rm_c_J1_indexOf_4cfef, decode cJ1_indexOf_4cfef q.1 = .ok (q.2.1, q.2.2) := by decide +kernel
set_option maxRecDepth 100000 in
theorem rm_o_J1_indexOf_4cfef : rm_okP rm_mt rm_P 89 8 := ⟨rm_d_J1_indexOf_4cfef, List.forall_mem_cons.mpr ⟨⟨trivial, rm_tb_of 633 (by decide +kernel) rfl, rm_tb_of 634 (by decide +kernel) rfl, rm_n_J1_canEncode_9a6ad⟩, List.forall_mem_cons.mpr ⟨⟨trivial, rm_tb_of 636 (by decide +kernel) rfl, rm_tb_of 338 (by decide +kernel) rfl, rm_n_J9_max_7cf53⟩, List.forall_mem_cons.mpr ⟨⟨trivial, rm_tb_of 637 (by decide +kernel) rfl, rm_tb_of 598 (by decide +kernel) rfl, rm_n_J9_min_7cf53⟩, List.forall_mem_cons.mpr ⟨⟨trivial, rm_tb_of 638 (by decide +kernel) rfl, rm_tb_of 639 (by decide +kernel) rfl, rm_n_J1_indexOfChar_4cfef⟩, (fun _ h => by cases h)⟩⟩⟩⟩, rfl, rfl, (fun h => by cases h), by decide +kernel⟩
set_option maxRecDepth 100000 in
theorem rm_d_J9_abs_067f4 : ∀ q ∈ rm_c_J9_abs_067f4, decode cJ9_abs_067f4 q.1 = .ok (q.2.1, q.2.2) := by decide +kernel
set_option maxRecDepth 100000 in
theorem rm_o_J9_abs_067f4 : rm_okP rm_mt rm_P 89 9 := ⟨rm_d_J9_abs_067f4, (fun _ h => by cases h), rfl, rfl, (fun h => by cases h), by decide +kernel⟩
set_option maxRecDepth 100000 in
theorem rm_d_J9_max_7cf53 : ∀ q ∈ rm_c_J9_max_7cf53, decode cJ9_max_7cf53 q.1 = .ok (q.2.1, q.2.2) := by decide +kernel
set_option maxRecDepth 100000 in
theorem rm_o_J9_max_7cf53 : rm_okP rm_mt rm_P 89 10 := ⟨rm_d_J9_max_7cf53, (fun _ h => by cases h), rfl, rfl, (fun h => by cases h), by decide +kernel⟩
set_option maxRecDepth 100000 in
theorem rm_d_J9_min_7cf53 : ∀ q ∈ rm_c_J9_min_7cf53, decode cJ9_min_7cf53 q.1 = .ok (q.2.1, q.2.2) := by decide +kernel
set_option maxRecDepth 100000 in
theorem rm_o_J9_min_7cf53 : rm_okP rm_mt rm_P 89 11 := ⟨rm_d_J9_min_7cf53, (fun _ h => by cases h), rfl, rfl, (fun h => by cases h), by decide +kernel⟩
set_option maxRecDepth 100000 in
theorem rm_d_X0_init : ∀ q ∈ rm_c_X0_init, decode cX0_init q.1 = .ok (q.2.1, q.2.2) := by decide +kernel
set_option maxRecDepth 100000 in
theorem rm_o_X0_init : rm_okP rm_mt rm_P 89 12 := ⟨rm_d_X0_init, List.forall_mem_cons.mpr ⟨⟨trivial, rm_tb_of 258 (by decide +kernel) rfl, rm_tb_of 154 (by decide +kernel) rfl, rm_tb_of 155 (by decide +kernel) rfl⟩, List.forall_mem_cons.mpr ⟨⟨⟨RX6, TX6, rfl, rm_tb_of 259 (by decide +kernel) rfl, fun _ => rfl⟩, trivial⟩, List.forall_mem_cons.mpr ⟨⟨⟨RX0, TX0, 8, rfl, by decide, rm_tb_of 296 (by decide +kernel) rfl⟩, trivial⟩, List.forall_mem_cons.mpr ⟨⟨trivial, rm_tb_of 260 (by decide +kernel) rfl, rm_tb_of 172 (by decide +kernel) rfl, rfl, rfl, rm_n_X6_init⟩, List.forall_mem_cons.mpr ⟨⟨⟨RX0, TX0, 8, rfl, by decide, rm_tb_of 298 (by decide +kernel) rfl⟩, trivial⟩, List.forall_mem_cons.mpr ⟨⟨⟨RX2, TX2, rfl, rm_tb_of 261 (by decide +kernel) rfl, fun h => absurd h (by decide)⟩, trivial⟩, List.forall_mem_cons.mpr ⟨⟨trivial, rm_tb_of 263 (by decide +kernel) rfl, rm_tb_of 264 (by decide +kernel) rfl, rfl, rfl, rm_n_X2_init⟩, List.forall_mem_cons.mpr ⟨⟨⟨RX0, TX0, 8, rfl, by decide, rm_tb_of 301 (by decide +kernel) rfl⟩, trivial⟩, List.forall_mem_cons.mpr ⟨⟨⟨RX0, TX0, 8, rfl, by decide, rm_tb_of 303 (by decide +kernel) rfl⟩, trivial⟩, List.forall_mem_cons.mpr ⟨⟨⟨RX0, TX0, 8, rfl, by decide, rm_tb_of 304 (by decide +kernel) rfl⟩, trivial⟩, List.forall_mem_cons.mpr ⟨⟨⟨RX0, TX0, 8, rfl, by decide, rm_tb_of 305 (by decide +kernel) rfl⟩, trivial⟩, List.forall_mem_cons.mpr ⟨⟨⟨RX0, TX0, 8, rfl, by decide, rm_tb_of 306 (by decide +kernel) rfl⟩, trivial⟩, (fun _ h => by cases h)⟩⟩⟩⟩⟩⟩⟩⟩⟩⟩⟩⟩, rfl, rfl, (fun _ => ⟨rfl, _, rfl, rfl⟩), by decide +kernel⟩
set_option maxRecDepth 100000 in
theorem rm_d_X10_atom : ∀ q ∈ rm_c_X10_atom, decode cX10_atom q.1 = .ok (q.2.1, q.2.2) := by decide +kernel
set_option maxRecDepth 100000 in
theorem rm_o_X10_atom : rm_okP rm_mt rm_P 89 13 := ⟨rm_d_X10_atom, List.forall_mem_cons.mpr ⟨⟨trivial, rm_tb_of 1711 (by decide +kernel) rfl, rm_tb_of 1713 (by decide +kernel) rfl, rm_tb_of 123 (by decide +kernel) rfl, ⟨_, rfl, rfl⟩, rm_n_X10_isAtom⟩, List.forall_mem_cons.mpr ⟨⟨rm_tb_of 1715 (by decide +kernel) rfl, trivial⟩, List.forall_mem_cons.mpr ⟨⟨⟨RX10, TX10, 55, rfl, by decide, rm_tb_of 1218 (by decide +kernel) rfl⟩, trivial⟩, List.forall_mem_cons.mpr ⟨⟨⟨RX10, TX10, 55, rfl, by decide, rm_tb_of 1219 (by decide +kernel) rfl⟩, trivial⟩, List.forall_mem_cons.mpr ⟨⟨⟨RX10, TX10, 55, rfl, by decide, rm_tb_of 1252 (by decide +kernel) rfl⟩, trivial⟩, List.forall_mem_cons.mpr ⟨⟨⟨RX10, TX10, 55, rfl, by decide, rm_tb_of 1245 (by decide +kernel) rfl⟩, trivial⟩, List.forall_mem_cons.mpr ⟨⟨⟨RX10, TX10, 55, rfl, by decide, rm_tb_of 1251 (by decide +kernel) rfl⟩, trivial⟩, List.forall_mem_cons.mpr ⟨⟨⟨RX10, TX10, 55, rfl, by decide, rm_tb_of 1237 (by decide +kernel) rfl⟩, trivial⟩, List.forall_mem_cons.mpr ⟨⟨⟨RX10, TX10, 55, rfl, by decide, rm_tb_of 1246 (by decide +kernel) rfl⟩, trivial⟩, (fun _ h => by cases h)⟩⟩⟩⟩⟩⟩⟩⟩⟩, rfl, rfl, (fun h => by cases h), by decide +kernel⟩
set_option maxRecDepth 100000 in
theorem rm_d_X10_beginSum : ∀ q ∈ rm_c_X10_beginSum, decode cX10_beginSum q.1 = .ok (q.2.1, q.2.2) := by decide +kernel
set_option maxRecDepth 100000 in
theorem rm_o_X10_beginSum : rm_okP rm_mt rm_P 89 14 := ⟨rm_d_X10_beginSum, List.forall_mem_cons.mpr ⟨⟨⟨RX10, TX10, 55, rfl, by decide, rm_tb_of 1225 (by decide +kernel) rfl⟩, trivial⟩, List.forall_mem_cons.mpr ⟨⟨⟨RX10, TX10, 55, rfl, by decide, rm_tb_of 1232 (by decide +kernel) rfl⟩, trivial⟩, List.forall_mem_cons.mpr ⟨⟨⟨RX10, TX10, 55, rfl, by decide, rm_tb_of 1229 (by decide +kernel) rfl⟩, trivial⟩, List.forall_mem_cons.mpr ⟨⟨⟨RX10, TX10, 55, rfl, by decide, rm_tb_of 1230 (by decide +kernel) rfl⟩, trivial⟩, List.forall_mem_cons.mpr ⟨⟨⟨RX10, TX10, 55, rfl, by decide, rm_tb_of 1231 (by decide +kernel) rfl⟩, trivial⟩, List.forall_mem_cons.mpr ⟨⟨trivial, rm_tb_of 1400 (by decide +kernel) rfl, rm_tb_of 1402 (by decide +kernel) rfl, rm_tb_of 51 (by decide +kernel) rfl, ⟨_, rfl, rfl⟩, rm_n_X10_peek⟩, List.forall_mem_cons.mpr ⟨⟨⟨RX10, TX10, 55, rfl, by decide, rm_tb_of 1215 (by decide +kernel) rfl⟩, trivial⟩, (fun _ h => by cases h)⟩⟩⟩⟩⟩⟩⟩, rfl, rfl, (fun h => by cases h), by decide +kernel⟩
set_option maxRecDepth 100000 in
theorem rm_d_X10_cannot : ∀ q ∈ rm_c_X10_cannot, decode cX10_cannot q.1 = .ok (q.2.1, q.2.2) := by decide +kernel
set_option maxRecDepth 100000 in
theorem rm_o_X10_cannot : rm_okP rm_mt rm_P 89 15 := ⟨rm_d_X10_cannot, List.forall_mem_cons.mpr ⟨⟨trivial, rm_tb_of 1400 (by decide +kernel) rfl, rm_tb_of 1402 (by decide +kernel) rfl, rm_tb_of 51 (by decide +kernel) rfl, ⟨_, rfl, rfl⟩, rm_n_X10_peek⟩, List.forall_mem_cons.mpr ⟨⟨⟨RX10, TX10, 55, rfl, by decide, rm_tb_of 1215 (by decide +kernel) rfl⟩, trivial⟩, List.forall_mem_cons.mpr ⟨⟨trivial, rm_tb_of 1404 (by decide +kernel) rfl, rm_tb_of 1406 (by decide +kernel) rfl, rm_tb_of 52 (by decide +kernel) rfl, ⟨_, rfl, rfl⟩, rm_n_X10_fail⟩, (fun _ h => by cases h)⟩⟩⟩, rfl, rfl, (fun h => by cases h), by decide +kernel⟩
set_option maxRecDepth 100000 in
theorem rm_d_X10_cellOf : ∀ q ∈ rm_c_X10_cellOf, decode cX10_cellOf q.1 = .ok (q.2.1, q.2.2) := by decide +kernel
set_option maxRecDepth 100000 in
theorem rm_o_X10_cellOf : rm_okP rm_mt rm_P 89 16 := ⟨rm_d_X10_cellOf, List.forall_mem_cons.mpr ⟨⟨trivial, rm_tb_of 1777 (by decide +kernel) rfl, rm_tb_of 1778 (by decide +kernel) rfl, rm_n_X10_isNumber⟩, List.forall_mem_cons.mpr ⟨⟨⟨RX10, TX10, 55, rfl, by decide, rm_tb_of 1216 (by decide +kernel) rfl⟩, trivial⟩, List.forall_mem_cons.mpr ⟨⟨⟨RX10, TX10, 55, rfl, by decide, rm_tb_of 1252 (by decide +kernel) rfl⟩, trivial⟩, List.forall_mem_cons.mpr ⟨⟨⟨RX10, TX10, 55, rfl, by decide, rm_tb_of 1260 (by decide +kernel) rfl⟩, trivial⟩, (fun _ h => by cases h)⟩⟩⟩⟩, rfl, rfl, (fun h => by cases h), by decide +kernel⟩
set_option maxRecDepth 100000 in
theorem rm_d_X10_common : ∀ q ∈ rm_c_X10_common, decode cX10_common q.1 = .ok (q.2.1, q.2.2) := by decide +kernel
set_option maxRecDepth 100000 in
theorem rm_o_X10_common : rm_okP rm_mt rm_P 89 17 := ⟨rm_d_X10_common, List.forall_mem_cons.mpr ⟨⟨trivial, rm_tb_of 1736 (by decide +kernel) rfl, rm_tb_of 1738 (by decide +kernel) rfl, rm_tb_of 125 (by decide +kernel) rfl, ⟨_, rfl, rfl⟩, rm_n_X10_isRoot⟩, List.forall_mem_cons.mpr ⟨⟨⟨RX10, TX10, 55, rfl, by decide, rm_tb_of 1245 (by decide +kernel) rfl⟩, trivial⟩, List.forall_mem_cons.mpr ⟨⟨⟨RX10, TX10, 55, rfl, by decide, rm_tb_of 1217 (by decide +kernel) rfl⟩, trivial⟩, List.forall_mem_cons.mpr ⟨⟨⟨RX10, TX10, 55, rfl, by decide, rm_tb_of 1251 (by decide +kernel) rfl⟩, trivial⟩, List.forall_mem_cons.mpr ⟨⟨⟨RX10, TX10, 55, rfl, by decide, rm_tb_of 1237 (by decide +kernel) rfl⟩, trivial⟩, List.forall_mem_cons.mpr ⟨⟨⟨RX10, TX10, 55, rfl, by decide, rm_tb_of 1246 (by decide +kernel) rfl⟩, trivial⟩, (fun _ h => by cases h)⟩⟩⟩⟩⟩⟩, rfl, rfl, (fun h => by cases h), by decide +kernel⟩
set_option maxRecDepth 100000 in
theorem rm_d_X10_count : ∀ q ∈ rm_c_X10_count, decode cX10_count q.1 = .ok (q.2.1, q.2.2) := by decide +kernel
set_option maxRecDepth 100000 in
theorem rm_o_X10_count : rm_okP rm_mt rm_P 89 18 := ⟨rm_d_X10_count, List.forall_mem_cons.mpr ⟨⟨⟨RX10, TX10, 55, rfl, by decide, rm_tb_of 1216 (by decide +kernel) rfl⟩, trivial⟩, List.forall_mem_cons.mpr ⟨⟨⟨RX10, TX10, 55, rfl, by decide, rm_tb_of 1213 (by decide +kernel) rfl⟩, trivial⟩, List.forall_mem_cons.mpr ⟨⟨⟨RX10, TX10, 55, rfl, by decide, rm_tb_of 1214 (by decide +kernel) rfl⟩, trivial⟩, List.forall_mem_cons.mpr ⟨⟨⟨RX10, TX10, 55, rfl, by decide, rm_tb_of 1212 (by decide +kernel) rfl⟩, trivial⟩, List.forall_mem_cons.mpr ⟨⟨⟨RX10, TX10, 55, rfl, by decide, rm_tb_of 1217 (by decide +kernel) rfl⟩, trivial⟩, List.forall_mem_cons.mpr ⟨⟨⟨RX10, TX10, 55, rfl, by decide, rm_tb_of 1252 (by decide +kernel) rfl⟩, trivial⟩, (fun _ h => by cases h)⟩⟩⟩⟩⟩⟩, rfl, rfl, (fun h => by cases h), by decide +kernel⟩
set_option maxRecDepth 100000 in
theorem rm_d_X10_exact : ∀ q ∈ rm_c_X10_exact, decode cX10_exact q.1 = .ok (q.2.1, q.2.2) := by decide +kernel
set_option maxRecDepth 100000 in
theorem rm_o_X10_exact : rm_okP rm_mt rm_P 89 19 := ⟨rm_d_X10_exact, List.forall_mem_cons.mpr ⟨⟨trivial, rm_tb_of 1736 (by decide +kernel) rfl, rm_tb_of 1738 (by decide +kernel) rfl, rm_tb_of 125 (by decide +kernel) rfl, ⟨_, rfl, rfl⟩, rm_n_X10_isRoot⟩, List.forall_mem_cons.mpr ⟨⟨rm_tb_of 1740 (by decide +kernel) rfl, trivial⟩, List.forall_mem_cons.mpr ⟨⟨⟨RX10, TX10, 55, rfl, by decide, rm_tb_of 1260 (by decide +kernel) rfl⟩, trivial⟩, List.forall_mem_cons.mpr ⟨⟨⟨RX10, TX10, 55, rfl, by decide, rm_tb_of 1255 (by decide +kernel) rfl⟩, trivial⟩, List.forall_mem_cons.mpr ⟨⟨rm_tb_of 1757 (by decide +kernel) rfl, trivial⟩, List.forall_mem_cons.mpr ⟨⟨⟨RX10, TX10, 55, rfl, by decide, rm_tb_of 1254 (by decide +kernel) rfl⟩, trivial⟩, (fun _ h => by cases h)⟩⟩⟩⟩⟩⟩, rfl, rfl, (fun h => by cases h), by decide +kernel⟩
set_option maxRecDepth 100000 in
theorem rm_d_X10_fail : ∀ q ∈ rm_c_X10_fail, decode cX10_fail q.1 = .ok (q.2.1, q.2.2) := by decide +kernel
set_option maxRecDepth 100000 in
theorem rm_o_X10_fail : rm_okP rm_mt rm_P 89 20 := ⟨rm_d_X10_fail, List.forall_mem_cons.mpr ⟨⟨⟨RX10, TX10, 55, rfl, by decide, rm_tb_of 1213 (by decide +kernel) rfl⟩, trivial⟩, List.forall_mem_cons.mpr ⟨⟨⟨RX10, TX10, 55, rfl, by decide, rm_tb_of 1214 (by decide +kernel) rfl⟩, trivial⟩, (fun _ h => by cases h)⟩⟩, rfl, rfl, (fun h => by cases h), by decide +kernel⟩
set_option maxRecDepth 100000 in
theorem rm_d_X10_four : ∀ q ∈ rm_c_X10_four, decode cX10_four q.1 = .ok (q.2.1, q.2.2) := by decide +kernel
set_option maxRecDepth 100000 in
theorem rm_o_X10_four : rm_okP rm_mt rm_P 89 21 := ⟨rm_d_X10_four, List.forall_mem_cons.mpr ⟨⟨trivial, rm_tb_of 1381 (by decide +kernel) rfl, rm_tb_of 1382 (by decide +kernel) rfl, rm_n_X10_isSign⟩, List.forall_mem_cons.mpr ⟨⟨⟨RX10, TX10, 55, rfl, by decide, rm_tb_of 1212 (by decide +kernel) rfl⟩, trivial⟩, List.forall_mem_cons.mpr ⟨⟨⟨RX10, TX10, 55, rfl, by decide, rm_tb_of 1211 (by decide +kernel) rfl⟩, trivial⟩, (fun _ h => by cases h)⟩⟩⟩, rfl, rfl, (fun h => by cases h), by decide +kernel⟩
set_option maxRecDepth 100000 in
theorem rm_d_X10_good : ∀ q ∈ rm_c_X10_good, decode cX10_good q.1 = .ok (q.2.1, q.2.2) := by decide +kernel
set_option maxRecDepth 100000 in
theorem rm_o_X10_good : rm_okP rm_mt rm_P 89 22 := ⟨rm_d_X10_good, List.forall_mem_cons.mpr ⟨⟨⟨RX10, TX10, 55, rfl, by decide, rm_tb_of 1213 (by decide +kernel) rfl⟩, trivial⟩, (fun _ h => by cases h)⟩, rfl, rfl, (fun h => by cases h), by decide +kernel⟩
set_option maxRecDepth 100000 in
theorem rm_d_X10_holds : ∀ q ∈ rm_c_X10_holds, decode cX10_holds q.1 = .ok (q.2.1, q.2.2) := by decide +kernel
set_option maxRecDepth 100000 in
theorem rm_o_X10_holds : rm_okP rm_mt rm_P 89 23 := ⟨rm_d_X10_holds, List.forall_mem_cons.mpr ⟨⟨trivial, rm_tb_of 1724 (by decide +kernel) rfl, rm_tb_of 1726 (by decide +kernel) rfl, rm_tb_of 124 (by decide +kernel) rfl, ⟨_, rfl, rfl⟩, rm_n_X10_isCell⟩, List.forall_mem_cons.mpr ⟨⟨⟨RX10, TX10, 55, rfl, by decide, rm_tb_of 1265 (by decide +kernel) rfl⟩, trivial⟩, (fun _ h => by cases h)⟩⟩, rfl, rfl, (fun h => by cases h), by decide +kernel⟩
set_option maxRecDepth 100000 in
theorem rm_d_X10_init : ∀ q ∈ rm_c_X10_init, decode cX10_init q.1 = .ok (q.2.1, q.2.2) := by decide +kernel
set_option maxRecDepth 100000 in
theorem rm_o_X10_init : rm_okP rm_mt rm_P 89 24 := ⟨rm_d_X10_init, List.forall_mem_cons.mpr ⟨⟨trivial, rm_tb_of 1209 (by decide +kernel) rfl, rm_tb_of 154 (by decide +kernel) rfl, rm_tb_of 155 (by decide +kernel) rfl⟩, List.forall_mem_cons.mpr ⟨⟨⟨RX10, TX10, 55, rfl, by decide, rm_tb_of 1211 (by decide +kernel) rfl⟩, trivial⟩, List.forall_mem_cons.mpr ⟨⟨⟨RX10, TX10, 55, rfl, by decide, rm_tb_of 1214 (by decide +kernel) rfl⟩, trivial⟩, List.forall_mem_cons.mpr ⟨⟨⟨RX10, TX10, 55, rfl, by decide, rm_tb_of 1218 (by decide +kernel) rfl⟩, trivial⟩, List.forall_mem_cons.mpr ⟨⟨⟨RX10, TX10, 55, rfl, by decide, rm_tb_of 1219 (by decide +kernel) rfl⟩, trivial⟩, List.forall_mem_cons.mpr ⟨⟨⟨RX10, TX10, 55, rfl, by decide, rm_tb_of 1220 (by decide +kernel) rfl⟩, trivial⟩, List.forall_mem_cons.mpr ⟨⟨⟨RX10, TX10, 55, rfl, by decide, rm_tb_of 1222 (by decide +kernel) rfl⟩, trivial⟩, List.forall_mem_cons.mpr ⟨⟨⟨RX10, TX10, 55, rfl, by decide, rm_tb_of 1224 (by decide +kernel) rfl⟩, trivial⟩, List.forall_mem_cons.mpr ⟨⟨⟨RX10, TX10, 55, rfl, by decide, rm_tb_of 1225 (by decide +kernel) rfl⟩, trivial⟩, List.forall_mem_cons.mpr ⟨⟨⟨RX10, TX10, 55, rfl, by decide, rm_tb_of 1226 (by decide +kernel) rfl⟩, trivial⟩, List.forall_mem_cons.mpr ⟨⟨⟨RX10, TX10, 55, rfl, by decide, rm_tb_of 1227 (by decide +kernel) rfl⟩, trivial⟩, List.forall_mem_cons.mpr ⟨⟨⟨RX10, TX10, 55, rfl, by decide, rm_tb_of 1228 (by decide +kernel) rfl⟩, trivial⟩, List.forall_mem_cons.mpr ⟨⟨⟨RX10, TX10, 55, rfl, by decide, rm_tb_of 1229 (by decide +kernel) rfl⟩, trivial⟩, List.forall_mem_cons.mpr ⟨⟨⟨RX10, TX10, 55, rfl, by decide, rm_tb_of 1230 (by decide +kernel) rfl⟩, trivial⟩, List.forall_mem_cons.mpr ⟨⟨⟨RX10, TX10, 55, rfl, by decide, rm_tb_of 1231 (by decide +kernel) rfl⟩, trivial⟩, List.forall_mem_cons.mpr ⟨⟨⟨RX10, TX10, 55, rfl, by decide, rm_tb_of 1233 (by decide +kernel) rfl⟩, trivial⟩, List.forall_mem_cons.mpr ⟨⟨rm_tb_of 1210 (by decide +kernel) rfl, trivial⟩, List.forall_mem_cons.mpr ⟨⟨⟨RX10, TX10, 55, rfl, by decide, rm_tb_of 1234 (by decide +kernel) rfl⟩, trivial⟩, List.forall_mem_cons.mpr ⟨⟨⟨RX10, TX10, 55, rfl, by decide, rm_tb_of 1237 (by decide +kernel) rfl⟩, trivial⟩, List.forall_mem_cons.mpr ⟨⟨⟨RX10, TX10, 55, rfl, by decide, rm_tb_of 1238 (by decide +kernel) rfl⟩, trivial⟩, List.forall_mem_cons.mpr ⟨⟨⟨RX10, TX10, 55, rfl, by decide, rm_tb_of 1241 (by decide +kernel) rfl⟩, trivial⟩, List.forall_mem_cons.mpr ⟨⟨⟨RX10, TX10, 55, rfl, by decide, rm_tb_of 1242 (by decide +kernel) rfl⟩, trivial⟩, List.forall_mem_cons.mpr ⟨⟨⟨RX10, TX10, 55, rfl, by decide, rm_tb_of 1246 (by decide +kernel) rfl⟩, trivial⟩, List.forall_mem_cons.mpr ⟨⟨⟨RX10, TX10, 55, rfl, by decide, rm_tb_of 1248 (by decide +kernel) rfl⟩, trivial⟩, List.forall_mem_cons.mpr ⟨⟨⟨RX10, TX10, 55, rfl, by decide, rm_tb_of 1249 (by decide +kernel) rfl⟩, trivial⟩, List.forall_mem_cons.mpr ⟨⟨⟨RX10, TX10, 55, rfl, by decide, rm_tb_of 1250 (by decide +kernel) rfl⟩, trivial⟩, List.forall_mem_cons.mpr ⟨⟨⟨RX10, TX10, 55, rfl, by decide, rm_tb_of 1251 (by decide +kernel) rfl⟩, trivial⟩, List.forall_mem_cons.mpr ⟨⟨⟨RX10, TX10, 55, rfl, by decide, rm_tb_of 1253 (by decide +kernel) rfl⟩, trivial⟩, List.forall_mem_cons.mpr ⟨⟨⟨RX10, TX10, 55, rfl, by decide, rm_tb_of 1254 (by decide +kernel) rfl⟩, trivial⟩, List.forall_mem_cons.mpr ⟨⟨⟨RX10, TX10, 55, rfl, by decide, rm_tb_of 1255 (by decide +kernel) rfl⟩, trivial⟩, List.forall_mem_cons.mpr ⟨⟨⟨RX10, TX10, 55, rfl, by decide, rm_tb_of 1256 (by decide +kernel) rfl⟩, trivial⟩, List.forall_mem_cons.mpr ⟨⟨⟨RX10, TX10, 55, rfl, by decide, rm_tb_of 1257 (by decide +kernel) rfl⟩, trivial⟩, List.forall_mem_cons.mpr ⟨⟨⟨RX10, TX10, 55, rfl, by decide, rm_tb_of 1258 (by decide +kernel) rfl⟩, trivial⟩, List.forall_mem_cons.mpr ⟨⟨⟨RX10, TX10, 55, rfl, by decide, rm_tb_of 1259 (by decide +kernel) rfl⟩, trivial⟩, List.forall_mem_cons.mpr ⟨⟨⟨RX10, TX10, 55, rfl, by decide, rm_tb_of 1260 (by decide +kernel) rfl⟩, trivial⟩, List.forall_mem_cons.mpr ⟨⟨⟨RX10, TX10, 55, rfl, by decide, rm_tb_of 1261 (by decide +kernel) rfl⟩, trivial⟩, List.forall_mem_cons.mpr ⟨⟨⟨RX10, TX10, 55, rfl, by decide, rm_tb_of 1262 (by decide +kernel) rfl⟩, trivial⟩, List.forall_mem_cons.mpr ⟨⟨⟨RX10, TX10, 55, rfl, by decide, rm_tb_of 1264 (by decide +kernel) rfl⟩, trivial⟩, List.forall_mem_cons.mpr ⟨⟨⟨RX10, TX10, 55, rfl, by decide, rm_tb_of 1265 (by decide +kernel) rfl⟩, trivial⟩, (fun _ h => by cases h)⟩⟩⟩⟩⟩⟩⟩⟩⟩⟩⟩⟩⟩⟩⟩⟩⟩⟩⟩⟩⟩⟩⟩⟩⟩⟩⟩⟩⟩⟩⟩⟩⟩⟩⟩⟩⟩⟩⟩, rfl, rfl, (fun _ => ⟨rfl, _, rfl, rfl⟩), by decide +kernel⟩
set_option maxRecDepth 100000 in
theorem rm_d_X10_isAtom : ∀ q ∈ rm_c_X10_isAtom, decode cX10_isAtom q.1 = .ok (q.2.1, q.2.2) := by decide +kernel
set_option maxRecDepth 100000 in
theorem rm_o_X10_isAtom : rm_okP rm_mt rm_P 89 25 := ⟨rm_d_X10_isAtom, List.forall_mem_cons.mpr ⟨⟨⟨RX10, TX10, 55, rfl, by decide, rm_tb_of 1216 (by decide +kernel) rfl⟩, trivial⟩, List.forall_mem_cons.mpr ⟨⟨⟨RX10, TX10, 55, rfl, by decide, rm_tb_of 1217 (by decide +kernel) rfl⟩, trivial⟩, (fun _ h => by cases h)⟩⟩, rfl, rfl, (fun h => by cases h), by decide +kernel⟩
set_option maxRecDepth 100000 in
theorem rm_d_X10_isCell : ∀ q ∈ rm_c_X10_isCell, decode cX10_isCell q.1 = .ok (q.2.1, q.2.2) := by decide +kernel
set_option maxRecDepth 100000 in
theorem rm_o_X10_isCell : rm_okP rm_mt rm_P 89 26 := ⟨rm_d_X10_isCell, List.forall_mem_cons.mpr ⟨⟨⟨RX10, TX10, 55, rfl, by decide, rm_tb_of 1216 (by decide +kernel) rfl⟩, trivial⟩, (fun _ h => by cases h)⟩, rfl, rfl, (fun h => by cases h), by decide +kernel⟩
set_option maxRecDepth 100000 in
theorem rm_d_X10_isDigit : ∀ q ∈ rm_c_X10_isDigit, decode cX10_isDigit q.1 = .ok (q.2.1, q.2.2) := by decide +kernel
set_option maxRecDepth 100000 in
theorem rm_o_X10_isDigit : rm_okP rm_mt rm_P 89 27 := ⟨rm_d_X10_isDigit, (fun _ h => by cases h), rfl, rfl, (fun h => by cases h), by decide +kernel⟩
set_option maxRecDepth 100000 in
theorem rm_d_X10_isNumber : ∀ q ∈ rm_c_X10_isNumber, decode cX10_isNumber q.1 = .ok (q.2.1, q.2.2) := by decide +kernel
set_option maxRecDepth 100000 in
theorem rm_o_X10_isNumber : rm_okP rm_mt rm_P 89 28 := ⟨rm_d_X10_isNumber, List.forall_mem_cons.mpr ⟨⟨rm_tb_of 1780 (by decide +kernel) rfl, trivial⟩, List.forall_mem_cons.mpr ⟨⟨rm_tb_of 1781 (by decide +kernel) rfl, trivial⟩, (fun _ h => by cases h)⟩⟩, rfl, rfl, (fun h => by cases h), by decide +kernel⟩
set_option maxRecDepth 100000 in
theorem rm_d_X10_isRoot : ∀ q ∈ rm_c_X10_isRoot, decode cX10_isRoot q.1 = .ok (q.2.1, q.2.2) := by decide +kernel
set_option maxRecDepth 100000 in
theorem rm_o_X10_isRoot : rm_okP rm_mt rm_P 89 29 := ⟨rm_d_X10_isRoot, List.forall_mem_cons.mpr ⟨⟨⟨RX10, TX10, 55, rfl, by decide, rm_tb_of 1216 (by decide +kernel) rfl⟩, trivial⟩, List.forall_mem_cons.mpr ⟨⟨⟨RX10, TX10, 55, rfl, by decide, rm_tb_of 1252 (by decide +kernel) rfl⟩, trivial⟩, (fun _ h => by cases h)⟩⟩, rfl, rfl, (fun h => by cases h), by decide +kernel⟩
end
section
set_option maxRecDepth 100000 in
theorem rm_d_X10_isSign : ∀ q ∈ rm_c_X10_isSign, decode cX10_isSign q.1 = .ok (q.2.1, q.2.2) := by decide +kernel
set_option maxRecDepth 100000 in
theorem rm_o_X10_isSign : rm_okP rm_mt rm_P 89 30 := ⟨rm_d_X10_isSign, (fun _ h => by cases h), rfl, rfl, (fun h => by cases h), by decide +kernel⟩
set_option maxRecDepth 100000 in
theorem rm_d_X10_judge : ∀ q ∈ rm_c_X10_judge, decode cX10_judge q.1 = .ok (q.2.1, q.2.2) := by decide +kernel
set_option maxRecDepth 100000 in
theorem rm_o_X10_judge : rm_okP rm_mt rm_P 89 31 := ⟨rm_d_X10_judge, List.forall_mem_cons.mpr ⟨⟨⟨RX10, TX10, 55, rfl, by decide, rm_tb_of 1216 (by decide +kernel) rfl⟩, trivial⟩, List.forall_mem_cons.mpr ⟨⟨⟨RX10, TX10, 55, rfl, by decide, rm_tb_of 1265 (by decide +kernel) rfl⟩, trivial⟩, (fun _ h => by cases h)⟩⟩, rfl, rfl, (fun h => by cases h), by decide +kernel⟩
set_option maxRecDepth 100000 in
theorem rm_d_X10_load : ∀ q ∈ rm_c_X10_load, decode cX10_load q.1 = .ok (q.2.1, q.2.2) := by decide +kernel
set_option maxRecDepth 100000 in
theorem rm_o_X10_load : rm_okP rm_mt rm_P 89 32 := ⟨rm_d_X10_load, List.forall_mem_cons.mpr ⟨⟨⟨RX10, TX10, 55, rfl, by decide, rm_tb_of 1213 (by decide +kernel) rfl⟩, trivial⟩, List.forall_mem_cons.mpr ⟨⟨⟨RX10, TX10, 55, rfl, by decide, rm_tb_of 1214 (by decide +kernel) rfl⟩, trivial⟩, List.forall_mem_cons.mpr ⟨⟨⟨RX10, TX10, 55, rfl, by decide, rm_tb_of 1215 (by decide +kernel) rfl⟩, trivial⟩, List.forall_mem_cons.mpr ⟨⟨⟨RX10, TX10, 55, rfl, by decide, rm_tb_of 1216 (by decide +kernel) rfl⟩, trivial⟩, List.forall_mem_cons.mpr ⟨⟨trivial, rm_tb_of 1392 (by decide +kernel) rfl, rm_tb_of 1394 (by decide +kernel) rfl, rm_tb_of 49 (by decide +kernel) rfl, ⟨_, rfl, rfl⟩, rm_n_X10_readText⟩, List.forall_mem_cons.mpr ⟨⟨⟨RX10, TX10, 55, rfl, by decide, rm_tb_of 1212 (by decide +kernel) rfl⟩, trivial⟩, List.forall_mem_cons.mpr ⟨⟨trivial, rm_tb_of 1396 (by decide +kernel) rfl, rm_tb_of 1398 (by decide +kernel) rfl, rm_tb_of 50 (by decide +kernel) rfl, ⟨_, rfl, rfl⟩, rm_n_X10_good⟩, (fun _ h => by cases h)⟩⟩⟩⟩⟩⟩⟩, rfl, rfl, (fun h => by cases h), by decide +kernel⟩
set_option maxRecDepth 100000 in
theorem rm_d_X10_peek : ∀ q ∈ rm_c_X10_peek, decode cX10_peek q.1 = .ok (q.2.1, q.2.2) := by decide +kernel
set_option maxRecDepth 100000 in
theorem rm_o_X10_peek : rm_okP rm_mt rm_P 89 33 := ⟨rm_d_X10_peek, List.forall_mem_cons.mpr ⟨⟨⟨RX10, TX10, 55, rfl, by decide, rm_tb_of 1215 (by decide +kernel) rfl⟩, trivial⟩, List.forall_mem_cons.mpr ⟨⟨⟨RX10, TX10, 55, rfl, by decide, rm_tb_of 1212 (by decide +kernel) rfl⟩, trivial⟩, List.forall_mem_cons.mpr ⟨⟨⟨RX10, TX10, 55, rfl, by decide, rm_tb_of 1211 (by decide +kernel) rfl⟩, trivial⟩, (fun _ h => by cases h)⟩⟩⟩, rfl, rfl, (fun h => by cases h), by decide +kernel⟩
set_option maxRecDepth 100000 in
theorem rm_d_X10_readAtom : ∀ q ∈ rm_c_X10_readAtom, decode cX10_readAtom q.1 = .ok (q.2.1, q.2.2) := by decide +kernel
set_option maxRecDepth 100000 in
theorem rm_o_X10_readAtom : rm_okP rm_mt rm_P 89 34 := ⟨rm_d_X10_readAtom, List.forall_mem_cons.mpr ⟨⟨trivial, rm_tb_of 1416 (by decide +kernel) rfl, rm_tb_of 1418 (by decide +kernel) rfl, rm_tb_of 55 (by decide +kernel) rfl, ⟨_, rfl, rfl⟩, rm_n_X10_readSum⟩, List.forall_mem_cons.mpr ⟨⟨trivial, rm_tb_of 1396 (by decide +kernel) rfl, rm_tb_of 1398 (by decide +kernel) rfl, rm_tb_of 50 (by decide +kernel) rfl, ⟨_, rfl, rfl⟩, rm_n_X10_good⟩, List.forall_mem_cons.mpr ⟨⟨trivial, rm_tb_of 1400 (by decide +kernel) rfl, rm_tb_of 1402 (by decide +kernel) rfl, rm_tb_of 51 (by decide +kernel) rfl, ⟨_, rfl, rfl⟩, rm_n_X10_peek⟩, List.forall_mem_cons.mpr ⟨⟨trivial, rm_tb_of 1435 (by decide +kernel) rfl, rm_tb_of 1437 (by decide +kernel) rfl, rm_tb_of 59 (by decide +kernel) rfl, ⟨_, rfl, rfl⟩, rm_n_X10_cannot⟩, List.forall_mem_cons.mpr ⟨⟨⟨RX10, TX10, 55, rfl, by decide, rm_tb_of 1217 (by decide +kernel) rfl⟩, trivial⟩, List.forall_mem_cons.mpr ⟨⟨⟨RX10, TX10, 55, rfl, by decide, rm_tb_of 1215 (by decide +kernel) rfl⟩, trivial⟩, List.forall_mem_cons.mpr ⟨⟨trivial, rm_tb_of 1404 (by decide +kernel) rfl, rm_tb_of 1406 (by decide +kernel) rfl, rm_tb_of 52 (by decide +kernel) rfl, ⟨_, rfl, rfl⟩, rm_n_X10_fail⟩, List.forall_mem_cons.mpr ⟨⟨⟨RX10, TX10, 55, rfl, by decide, rm_tb_of 1218 (by decide +kernel) rfl⟩, trivial⟩, List.forall_mem_cons.mpr ⟨⟨⟨RX10, TX10, 55, rfl, by decide, rm_tb_of 1225 (by decide +kernel) rfl⟩, trivial⟩, List.forall_mem_cons.mpr ⟨⟨⟨RX10, TX10, 55, rfl, by decide, rm_tb_of 1219 (by decide +kernel) rfl⟩, trivial⟩, (fun _ h => by cases h)⟩⟩⟩⟩⟩⟩⟩⟩⟩⟩, rfl, rfl, (fun h => by cases h), by decide +kernel⟩
set_option maxRecDepth 100000 in
theorem rm_d_X10_readSum : ∀ q ∈ rm_c_X10_readSum, decode cX10_readSum q.1 = .ok (q.2.1, q.2.2) := by decide +kernel
set_option maxRecDepth 100000 in
theorem rm_o_X10_readSum : rm_okP rm_mt rm_P 89 35 := ⟨rm_d_X10_readSum, List.forall_mem_cons.mpr ⟨⟨⟨RX10, TX10, 55, rfl, by decide, rm_tb_of 1232 (by decide +kernel) rfl⟩, trivial⟩, List.forall_mem_cons.mpr ⟨⟨trivial, rm_tb_of 1420 (by decide +kernel) rfl, rm_tb_of 1422 (by decide +kernel) rfl, rm_tb_of 56 (by decide +kernel) rfl, ⟨_, rfl, rfl⟩, rm_n_X10_beginSum⟩, List.forall_mem_cons.mpr ⟨⟨trivial, rm_tb_of 1396 (by decide +kernel) rfl, rm_tb_of 1398 (by decide +kernel) rfl, rm_tb_of 50 (by decide +kernel) rfl, ⟨_, rfl, rfl⟩, rm_n_X10_good⟩, List.forall_mem_cons.mpr ⟨⟨trivial, rm_tb_of 1400 (by decide +kernel) rfl, rm_tb_of 1402 (by decide +kernel) rfl, rm_tb_of 51 (by decide +kernel) rfl, ⟨_, rfl, rfl⟩, rm_n_X10_peek⟩, List.forall_mem_cons.mpr ⟨⟨trivial, rm_tb_of 1424 (by decide +kernel) rfl, rm_tb_of 1426 (by decide +kernel) rfl, rm_tb_of 57 (by decide +kernel) rfl, ⟨_, rfl, rfl⟩, rm_n_X10_takeBase⟩, List.forall_mem_cons.mpr ⟨⟨⟨RX10, TX10, 55, rfl, by decide, rm_tb_of 1231 (by decide +kernel) rfl⟩, trivial⟩, List.forall_mem_cons.mpr ⟨⟨⟨RX10, TX10, 55, rfl, by decide, rm_tb_of 1215 (by decide +kernel) rfl⟩, trivial⟩, List.forall_mem_cons.mpr ⟨⟨⟨RX10, TX10, 55, rfl, by decide, rm_tb_of 1229 (by decide +kernel) rfl⟩, trivial⟩, List.forall_mem_cons.mpr ⟨⟨⟨RX10, TX10, 55, rfl, by decide, rm_tb_of 1230 (by decide +kernel) rfl⟩, trivial⟩, (fun _ h => by cases h)⟩⟩⟩⟩⟩⟩⟩⟩⟩, rfl, rfl, (fun h => by cases h), by decide +kernel⟩
set_option maxRecDepth 100000 in
theorem rm_d_X10_readText : ∀ q ∈ rm_c_X10_readText, decode cX10_readText q.1 = .ok (q.2.1, q.2.2) := by decide +kernel
set_option maxRecDepth 100000 in
theorem rm_o_X10_readText : rm_okP rm_mt rm_P 89 36 := ⟨rm_d_X10_readText, List.forall_mem_cons.mpr ⟨⟨⟨RX10, TX10, 55, rfl, by decide, rm_tb_of 1221 (by decide +kernel) rfl⟩, trivial⟩, List.forall_mem_cons.mpr ⟨⟨⟨RX10, TX10, 55, rfl, by decide, rm_tb_of 1223 (by decide +kernel) rfl⟩, trivial⟩, List.forall_mem_cons.mpr ⟨⟨⟨RX10, TX10, 55, rfl, by decide, rm_tb_of 1217 (by decide +kernel) rfl⟩, trivial⟩, List.forall_mem_cons.mpr ⟨⟨trivial, rm_tb_of 1396 (by decide +kernel) rfl, rm_tb_of 1398 (by decide +kernel) rfl, rm_tb_of 50 (by decide +kernel) rfl, ⟨_, rfl, rfl⟩, rm_n_X10_good⟩, List.forall_mem_cons.mpr ⟨⟨trivial, rm_tb_of 1400 (by decide +kernel) rfl, rm_tb_of 1402 (by decide +kernel) rfl, rm_tb_of 51 (by decide +kernel) rfl, ⟨_, rfl, rfl⟩, rm_n_X10_peek⟩, List.forall_mem_cons.mpr ⟨⟨⟨RX10, TX10, 55, rfl, by decide, rm_tb_of 1215 (by decide +kernel) rfl⟩, trivial⟩, List.forall_mem_cons.mpr ⟨⟨trivial, rm_tb_of 1404 (by decide +kernel) rfl, rm_tb_of 1406 (by decide +kernel) rfl, rm_tb_of 52 (by decide +kernel) rfl, ⟨_, rfl, rfl⟩, rm_n_X10_fail⟩, List.forall_mem_cons.mpr ⟨⟨trivial, rm_tb_of 1412 (by decide +kernel) rfl, rm_tb_of 1414 (by decide +kernel) rfl, rm_tb_of 54 (by decide +kernel) rfl, ⟨_, rfl, rfl⟩, rm_n_X10_readAtom⟩, List.forall_mem_cons.mpr ⟨⟨trivial, rm_tb_of 1477 (by decide +kernel) rfl, rm_tb_of 1479 (by decide +kernel) rfl, rm_tb_of 68 (by decide +kernel) rfl, ⟨_, rfl, rfl⟩, rm_n_X10_settle⟩, List.forall_mem_cons.mpr ⟨⟨trivial, rm_tb_of 1435 (by decide +kernel) rfl, rm_tb_of 1437 (by decide +kernel) rfl, rm_tb_of 59 (by decide +kernel) rfl, ⟨_, rfl, rfl⟩, rm_n_X10_cannot⟩, (fun _ h => by cases h)⟩⟩⟩⟩⟩⟩⟩⟩⟩⟩, rfl, rfl, (fun h => by cases h), by decide +kernel⟩
set_option maxRecDepth 100000 in
theorem rm_d_X10_root : ∀ q ∈ rm_c_X10_root, decode cX10_root q.1 = .ok (q.2.1, q.2.2) := by decide +kernel
set_option maxRecDepth 100000 in
theorem rm_o_X10_root : rm_okP rm_mt rm_P 89 37 := ⟨rm_d_X10_root, List.forall_mem_cons.mpr ⟨⟨trivial, rm_tb_of 1736 (by decide +kernel) rfl, rm_tb_of 1738 (by decide +kernel) rfl, rm_tb_of 125 (by decide +kernel) rfl, ⟨_, rfl, rfl⟩, rm_n_X10_isRoot⟩, List.forall_mem_cons.mpr ⟨⟨rm_tb_of 1740 (by decide +kernel) rfl, trivial⟩, List.forall_mem_cons.mpr ⟨⟨rm_tb_of 1741 (by decide +kernel) rfl, trivial⟩, List.forall_mem_cons.mpr ⟨⟨⟨RX10, TX10, 55, rfl, by decide, rm_tb_of 1260 (by decide +kernel) rfl⟩, trivial⟩, (fun _ h => by cases h)⟩⟩⟩⟩, rfl, rfl, (fun h => by cases h), by decide +kernel⟩
set_option maxRecDepth 100000 in
theorem rm_d_X10_settle : ∀ q ∈ rm_c_X10_settle, decode cX10_settle q.1 = .ok (q.2.1, q.2.2) := by decide +kernel
set_option maxRecDepth 100000 in
theorem rm_o_X10_settle : rm_okP rm_mt rm_P 89 38 := ⟨rm_d_X10_settle, List.forall_mem_cons.mpr ⟨⟨⟨RX10, TX10, 55, rfl, by decide, rm_tb_of 1223 (by decide +kernel) rfl⟩, trivial⟩, List.forall_mem_cons.mpr ⟨⟨⟨RX10, TX10, 55, rfl, by decide, rm_tb_of 1222 (by decide +kernel) rfl⟩, trivial⟩, (fun _ h => by cases h)⟩⟩, rfl, rfl, (fun h => by cases h), by decide +kernel⟩
set_option maxRecDepth 100000 in
theorem rm_d_X10_sign : ∀ q ∈ rm_c_X10_sign, decode cX10_sign q.1 = .ok (q.2.1, q.2.2) := by decide +kernel
set_option maxRecDepth 100000 in
theorem rm_o_X10_sign : rm_okP rm_mt rm_P 89 39 := ⟨rm_d_X10_sign, List.forall_mem_cons.mpr ⟨⟨trivial, rm_tb_of 1724 (by decide +kernel) rfl, rm_tb_of 1726 (by decide +kernel) rfl, rm_tb_of 124 (by decide +kernel) rfl, ⟨_, rfl, rfl⟩, rm_n_X10_isCell⟩, List.forall_mem_cons.mpr ⟨⟨trivial, rm_tb_of 1711 (by decide +kernel) rfl, rm_tb_of 1713 (by decide +kernel) rfl, rm_tb_of 123 (by decide +kernel) rfl, ⟨_, rfl, rfl⟩, rm_n_X10_isAtom⟩, List.forall_mem_cons.mpr ⟨⟨⟨RX10, TX10, 55, rfl, by decide, rm_tb_of 1264 (by decide +kernel) rfl⟩, trivial⟩, (fun _ h => by cases h)⟩⟩⟩, rfl, rfl, (fun h => by cases h), by decide +kernel⟩
set_option maxRecDepth 100000 in
theorem rm_d_X10_signAt : ∀ q ∈ rm_c_X10_signAt, decode cX10_signAt q.1 = .ok (q.2.1, q.2.2) := by decide +kernel
set_option maxRecDepth 100000 in
theorem rm_o_X10_signAt : rm_okP rm_mt rm_P 89 40 := ⟨rm_d_X10_signAt, List.forall_mem_cons.mpr ⟨⟨trivial, rm_tb_of 1711 (by decide +kernel) rfl, rm_tb_of 1713 (by decide +kernel) rfl, rm_tb_of 123 (by decide +kernel) rfl, ⟨_, rfl, rfl⟩, rm_n_X10_isAtom⟩, List.forall_mem_cons.mpr ⟨⟨trivial, rm_tb_of 1777 (by decide +kernel) rfl, rm_tb_of 1778 (by decide +kernel) rfl, rm_n_X10_isNumber⟩, List.forall_mem_cons.mpr ⟨⟨⟨RX10, TX10, 55, rfl, by decide, rm_tb_of 1235 (by decide +kernel) rfl⟩, trivial⟩, List.forall_mem_cons.mpr ⟨⟨⟨RX10, TX10, 55, rfl, by decide, rm_tb_of 1218 (by decide +kernel) rfl⟩, trivial⟩, (fun _ h => by cases h)⟩⟩⟩⟩, rfl, rfl, (fun h => by cases h), by decide +kernel⟩
set_option maxRecDepth 100000 in
theorem rm_d_X10_simple : ∀ q ∈ rm_c_X10_simple, decode cX10_simple q.1 = .ok (q.2.1, q.2.2) := by decide +kernel
set_option maxRecDepth 100000 in
theorem rm_o_X10_simple : rm_okP rm_mt rm_P 89 41 := ⟨rm_d_X10_simple, List.forall_mem_cons.mpr ⟨⟨trivial, rm_tb_of 1724 (by decide +kernel) rfl, rm_tb_of 1726 (by decide +kernel) rfl, rm_tb_of 124 (by decide +kernel) rfl, ⟨_, rfl, rfl⟩, rm_n_X10_isCell⟩, List.forall_mem_cons.mpr ⟨⟨rm_tb_of 1766 (by decide +kernel) rfl, trivial⟩, List.forall_mem_cons.mpr ⟨⟨⟨RX10, TX10, 55, rfl, by decide, rm_tb_of 1260 (by decide +kernel) rfl⟩, trivial⟩, List.forall_mem_cons.mpr ⟨⟨⟨RX10, TX10, 55, rfl, by decide, rm_tb_of 1255 (by decide +kernel) rfl⟩, trivial⟩, List.forall_mem_cons.mpr ⟨⟨rm_tb_of 1757 (by decide +kernel) rfl, trivial⟩, List.forall_mem_cons.mpr ⟨⟨rm_tb_of 1767 (by decide +kernel) rfl, trivial⟩, List.forall_mem_cons.mpr ⟨⟨rm_tb_of 1768 (by decide +kernel) rfl, trivial⟩, List.forall_mem_cons.mpr ⟨⟨⟨RX10, TX10, 55, rfl, by decide, rm_tb_of 1254 (by decide +kernel) rfl⟩, trivial⟩, (fun _ h => by cases h)⟩⟩⟩⟩⟩⟩⟩⟩, rfl, rfl, (fun h => by cases h), by decide +kernel⟩
set_option maxRecDepth 100000 in
theorem rm_d_X10_takeBase : ∀ q ∈ rm_c_X10_takeBase, decode cX10_takeBase q.1 = .ok (q.2.1, q.2.2) := by decide +kernel
set_option maxRecDepth 100000 in
theorem rm_o_X10_takeBase : rm_okP rm_mt rm_P 89 42 := ⟨rm_d_X10_takeBase, List.forall_mem_cons.mpr ⟨⟨⟨RX10, TX10, 55, rfl, by decide, rm_tb_of 1227 (by decide +kernel) rfl⟩, trivial⟩, List.forall_mem_cons.mpr ⟨⟨⟨RX10, TX10, 55, rfl, by decide, rm_tb_of 1232 (by decide +kernel) rfl⟩, trivial⟩, List.forall_mem_cons.mpr ⟨⟨trivial, rm_tb_of 1428 (by decide +kernel) rfl, rm_tb_of 1429 (by decide +kernel) rfl, rm_n_X10_isDigit⟩, List.forall_mem_cons.mpr ⟨⟨⟨RX10, TX10, 55, rfl, by decide, rm_tb_of 1215 (by decide +kernel) rfl⟩, trivial⟩, List.forall_mem_cons.mpr ⟨⟨trivial, rm_tb_of 1404 (by decide +kernel) rfl, rm_tb_of 1406 (by decide +kernel) rfl, rm_tb_of 52 (by decide +kernel) rfl, ⟨_, rfl, rfl⟩, rm_n_X10_fail⟩, List.forall_mem_cons.mpr ⟨⟨trivial, rm_tb_of 1420 (by decide +kernel) rfl, rm_tb_of 1422 (by decide +kernel) rfl, rm_tb_of 56 (by decide +kernel) rfl, ⟨_, rfl, rfl⟩, rm_n_X10_beginSum⟩, List.forall_mem_cons.mpr ⟨⟨trivial, rm_tb_of 1435 (by decide +kernel) rfl, rm_tb_of 1437 (by decide +kernel) rfl, rm_tb_of 59 (by decide +kernel) rfl, ⟨_, rfl, rfl⟩, rm_n_X10_cannot⟩, List.forall_mem_cons.mpr ⟨⟨trivial, rm_tb_of 1396 (by decide +kernel) rfl, rm_tb_of 1398 (by decide +kernel) rfl, rm_tb_of 50 (by decide +kernel) rfl, ⟨_, rfl, rfl⟩, rm_n_X10_good⟩, (fun _ h => by cases h)⟩⟩⟩⟩⟩⟩⟩⟩, rfl, rfl, (fun h => by cases h), by decide +kernel⟩
set_option maxRecDepth 100000 in
theorem rm_d_X10_times : ∀ q ∈ rm_c_X10_times, decode cX10_times q.1 = .ok (q.2.1, q.2.2) := by decide +kernel
set_option maxRecDepth 100000 in
theorem rm_o_X10_times : rm_okP rm_mt rm_P 89 43 := ⟨rm_d_X10_times, List.forall_mem_cons.mpr ⟨⟨trivial, rm_tb_of 1736 (by decide +kernel) rfl, rm_tb_of 1738 (by decide +kernel) rfl, rm_tb_of 125 (by decide +kernel) rfl, ⟨_, rfl, rfl⟩, rm_n_X10_isRoot⟩, List.forall_mem_cons.mpr ⟨⟨trivial, rm_tb_of 1711 (by decide +kernel) rfl, rm_tb_of 1713 (by decide +kernel) rfl, rm_tb_of 123 (by decide +kernel) rfl, ⟨_, rfl, rfl⟩, rm_n_X10_isAtom⟩, (fun _ h => by cases h)⟩⟩, rfl, rfl, (fun h => by cases h), by decide +kernel⟩
set_option maxRecDepth 100000 in
theorem rm_d_X10_type : ∀ q ∈ rm_c_X10_type, decode cX10_type q.1 = .ok (q.2.1, q.2.2) := by decide +kernel
set_option maxRecDepth 100000 in
theorem rm_o_X10_type : rm_okP rm_mt rm_P 89 44 := ⟨rm_d_X10_type, List.forall_mem_cons.mpr ⟨⟨trivial, rm_tb_of 1381 (by decide +kernel) rfl, rm_tb_of 1382 (by decide +kernel) rfl, rm_n_X10_isSign⟩, List.forall_mem_cons.mpr ⟨⟨⟨RX10, TX10, 55, rfl, by decide, rm_tb_of 1212 (by decide +kernel) rfl⟩, trivial⟩, List.forall_mem_cons.mpr ⟨⟨⟨RX10, TX10, 55, rfl, by decide, rm_tb_of 1211 (by decide +kernel) rfl⟩, trivial⟩, (fun _ h => by cases h)⟩⟩⟩, rfl, rfl, (fun h => by cases h), by decide +kernel⟩
set_option maxRecDepth 100000 in
theorem rm_d_X1_init : ∀ q ∈ rm_c_X1_init, decode cX1_init q.1 = .ok (q.2.1, q.2.2) := by decide +kernel
set_option maxRecDepth 100000 in
theorem rm_o_X1_init : rm_okP rm_mt rm_P 89 45 := ⟨rm_d_X1_init, List.forall_mem_cons.mpr ⟨⟨trivial, rm_tb_of 336 (by decide +kernel) rfl, rm_tb_of 154 (by decide +kernel) rfl, rm_tb_of 155 (by decide +kernel) rfl⟩, List.forall_mem_cons.mpr ⟨⟨trivial, rm_tb_of 337 (by decide +kernel) rfl, rm_tb_of 338 (by decide +kernel) rfl, rm_n_J9_max_7cf53⟩, List.forall_mem_cons.mpr ⟨⟨⟨RX1, TX1, 3, rfl, by decide, rm_tb_of 340 (by decide +kernel) rfl⟩, trivial⟩, (fun _ h => by cases h)⟩⟩⟩, rfl, rfl, (fun _ => ⟨rfl, _, rfl, rfl⟩), by decide +kernel⟩
set_option maxRecDepth 100000 in
theorem rm_d_X1_set : ∀ q ∈ rm_c_X1_set, decode cX1_set q.1 = .ok (q.2.1, q.2.2) := by decide +kernel
set_option maxRecDepth 100000 in
theorem rm_o_X1_set : rm_okP rm_mt rm_P 89 46 := ⟨rm_d_X1_set, List.forall_mem_cons.mpr ⟨⟨trivial, rm_tb_of 356 (by decide +kernel) rfl, rm_tb_of 357 (by decide +kernel) rfl, rm_n_J13_compare_74951⟩, List.forall_mem_cons.mpr ⟨⟨⟨RX1, TX1, 3, rfl, by decide, rm_tb_of 342 (by decide +kernel) rfl⟩, trivial⟩, List.forall_mem_cons.mpr ⟨⟨⟨RX1, TX1, 3, rfl, by decide, rm_tb_of 341 (by decide +kernel) rfl⟩, trivial⟩, List.forall_mem_cons.mpr ⟨⟨trivial, rm_tb_of 359 (by decide +kernel) rfl, rm_tb_of 360 (by decide +kernel) rfl, rm_n_J9_abs_067f4⟩, List.forall_mem_cons.mpr ⟨⟨⟨RX1, TX1, 3, rfl, by decide, rm_tb_of 340 (by decide +kernel) rfl⟩, trivial⟩, (fun _ h => by cases h)⟩⟩⟩⟩⟩, rfl, rfl, (fun h => by cases h), by decide +kernel⟩
set_option maxRecDepth 100000 in
theorem rm_d_X2_init : ∀ q ∈ rm_c_X2_init, decode cX2_init q.1 = .ok (q.2.1, q.2.2) := by decide +kernel
set_option maxRecDepth 100000 in
theorem rm_o_X2_init : rm_okP rm_mt rm_P 89 47 := ⟨rm_d_X2_init, List.forall_mem_cons.mpr ⟨⟨trivial, rm_tb_of 266 (by decide +kernel) rfl, rm_tb_of 154 (by decide +kernel) rfl, rm_tb_of 155 (by decide +kernel) rfl⟩, List.forall_mem_cons.mpr ⟨⟨⟨RX2, TX2, 8, rfl, by decide, rm_tb_of 269 (by decide +kernel) rfl⟩, trivial⟩, List.forall_mem_cons.mpr ⟨⟨⟨RX2, TX2, 8, rfl, by decide, rm_tb_of 270 (by decide +kernel) rfl⟩, trivial⟩, List.forall_mem_cons.mpr ⟨⟨⟨RX2, TX2, 8, rfl, by decide, rm_tb_of 271 (by decide +kernel) rfl⟩, trivial⟩, List.forall_mem_cons.mpr ⟨⟨⟨RX2, TX2, 8, rfl, by decide, rm_tb_of 272 (by decide +kernel) rfl⟩, trivial⟩, List.forall_mem_cons.mpr ⟨⟨⟨RX2, TX2, 8, rfl, by decide, rm_tb_of 273 (by decide +kernel) rfl⟩, trivial⟩, List.forall_mem_cons.mpr ⟨⟨⟨RX6, TX6, rfl, rm_tb_of 267 (by decide +kernel) rfl, fun _ => rfl⟩, trivial⟩, List.forall_mem_cons.mpr ⟨⟨trivial, rm_tb_of 268 (by decide +kernel) rfl, rm_tb_of 172 (by decide +kernel) rfl, rfl, rfl, rm_n_X6_init⟩, List.forall_mem_cons.mpr ⟨⟨⟨RX2, TX2, 8, rfl, by decide, rm_tb_of 274 (by decide +kernel) rfl⟩, trivial⟩, List.forall_mem_cons.mpr ⟨⟨⟨RX2, TX2, 8, rfl, by decide, rm_tb_of 275 (by decide +kernel) rfl⟩, trivial⟩, List.forall_mem_cons.mpr ⟨⟨⟨RX2, TX2, 8, rfl, by decide, rm_tb_of 277 (by decide +kernel) rfl⟩, trivial⟩, (fun _ h => by cases h)⟩⟩⟩⟩⟩⟩⟩⟩⟩⟩⟩, rfl, rfl, (fun _ => ⟨rfl, _, rfl, rfl⟩), by decide +kernel⟩
set_option maxRecDepth 100000 in
theorem rm_d_X3_init : ∀ q ∈ rm_c_X3_init, decode cX3_init q.1 = .ok (q.2.1, q.2.2) := by decide +kernel
set_option maxRecDepth 100000 in
theorem rm_o_X3_init : rm_okP rm_mt rm_P 89 48 := ⟨rm_d_X3_init, List.forall_mem_cons.mpr ⟨⟨trivial, rm_tb_of 252 (by decide +kernel) rfl, rm_tb_of 154 (by decide +kernel) rfl, rm_tb_of 155 (by decide +kernel) rfl⟩, List.forall_mem_cons.mpr ⟨⟨⟨RX0, TX0, rfl, rm_tb_of 253 (by decide +kernel) rfl, fun h => absurd h (by decide)⟩, trivial⟩, List.forall_mem_cons.mpr ⟨⟨trivial, rm_tb_of 255 (by decide +kernel) rfl, rm_tb_of 256 (by decide +kernel) rfl, rfl, rfl, rm_n_X0_init⟩, List.forall_mem_cons.mpr ⟨⟨⟨RX3, TX3, 17, rfl, by decide, rm_tb_of 444 (by decide +kernel) rfl⟩, trivial⟩, List.forall_mem_cons.mpr ⟨⟨⟨RX5, TX5, rfl, rm_tb_of 324 (by decide +kernel) rfl, fun h => absurd h (by decide)⟩, trivial⟩, List.forall_mem_cons.mpr ⟨⟨trivial, rm_tb_of 326 (by decide +kernel) rfl, rm_tb_of 327 (by decide +kernel) rfl, rfl, rfl, rm_n_X5_init⟩, List.forall_mem_cons.mpr ⟨⟨⟨RX3, TX3, 17, rfl, by decide, rm_tb_of 446 (by decide +kernel) rfl⟩, trivial⟩, List.forall_mem_cons.mpr ⟨⟨⟨RX8, TX8, rfl, rm_tb_of 381 (by decide +kernel) rfl, fun _ => rfl⟩, trivial⟩, List.forall_mem_cons.mpr ⟨⟨⟨RX3, TX3, 17, rfl, by decide, rm_tb_of 447 (by decide +kernel) rfl⟩, trivial⟩, List.forall_mem_cons.mpr ⟨⟨trivial, rm_tb_of 384 (by decide +kernel) rfl, rm_tb_of 385 (by decide +kernel) rfl, rfl, rfl, rm_n_X8_init⟩, List.forall_mem_cons.mpr ⟨⟨⟨RX6, TX6, rfl, rm_tb_of 439 (by decide +kernel) rfl, fun _ => rfl⟩, trivial⟩, List.forall_mem_cons.mpr ⟨⟨trivial, rm_tb_of 440 (by decide +kernel) rfl, rm_tb_of 172 (by decide +kernel) rfl, rfl, rfl, rm_n_X6_init⟩, List.forall_mem_cons.mpr ⟨⟨⟨RX3, TX3, 17, rfl, by decide, rm_tb_of 451 (by decide +kernel) rfl⟩, trivial⟩, List.forall_mem_cons.mpr ⟨⟨⟨RX1, TX1, rfl, rm_tb_of 441 (by decide +kernel) rfl, fun _ => rfl⟩, trivial⟩, List.forall_mem_cons.mpr ⟨⟨trivial, rm_tb_of 442 (by decide +kernel) rfl, rm_tb_of 334 (by decide +kernel) rfl, rfl, rfl, rm_n_X1_init⟩, List.forall_mem_cons.mpr ⟨⟨⟨RX3, TX3, 17, rfl, by decide, rm_tb_of 452 (by decide +kernel) rfl⟩, trivial⟩, List.forall_mem_cons.mpr ⟨⟨trivial, rm_tb_of 443 (by decide +kernel) rfl, rm_tb_of 353 (by decide +kernel) rfl, rm_tb_of 354 (by decide +kernel) rfl, ⟨_, rfl, rfl⟩, rm_n_X1_set⟩, List.forall_mem_cons.mpr ⟨⟨⟨RX3, TX3, 17, rfl, by decide, rm_tb_of 453 (by decide +kernel) rfl⟩, trivial⟩, List.forall_mem_cons.mpr ⟨⟨⟨RX3, TX3, 17, rfl, by decide, rm_tb_of 454 (by decide +kernel) rfl⟩, trivial⟩, List.forall_mem_cons.mpr ⟨⟨⟨RX3, TX3, 17, rfl, by decide, rm_tb_of 455 (by decide +kernel) rfl⟩, trivial⟩, List.forall_mem_cons.mpr ⟨⟨⟨RX3, TX3, 17, rfl, by decide, rm_tb_of 456 (by decide +kernel) rfl⟩, trivial⟩, List.forall_mem_cons.mpr ⟨⟨⟨RX3, TX3, 17, rfl, by decide, rm_tb_of 457 (by decide +kernel) rfl⟩, trivial⟩, List.forall_mem_cons.mpr ⟨⟨⟨RX3, TX3, 17, rfl, by decide, rm_tb_of 458 (by decide +kernel) rfl⟩, trivial⟩, List.forall_mem_cons.mpr ⟨⟨⟨RX3, TX3, 17, rfl, by decide, rm_tb_of 459 (by decide +kernel) rfl⟩, trivial⟩, List.forall_mem_cons.mpr ⟨⟨⟨RX3, TX3, 17, rfl, by decide, rm_tb_of 460 (by decide +kernel) rfl⟩, trivial⟩, List.forall_mem_cons.mpr ⟨⟨⟨RX3, TX3, 17, rfl, by decide, rm_tb_of 461 (by decide +kernel) rfl⟩, trivial⟩, List.forall_mem_cons.mpr ⟨⟨⟨RX3, TX3, 17, rfl, by decide, rm_tb_of 462 (by decide +kernel) rfl⟩, trivial⟩, List.forall_mem_cons.mpr ⟨⟨⟨RX3, TX3, 17, rfl, by decide, rm_tb_of 463 (by decide +kernel) rfl⟩, trivial⟩, (fun _ h => by cases h)⟩⟩⟩⟩⟩⟩⟩⟩⟩⟩⟩⟩⟩⟩⟩⟩⟩⟩⟩⟩⟩⟩⟩⟩⟩⟩⟩⟩, rfl, rfl, (fun _ => ⟨rfl, _, rfl, rfl⟩), by decide +kernel⟩
set_option maxRecDepth 100000 in
theorem rm_d_X4_init : ∀ q ∈ rm_c_X4_init, decode cX4_init q.1 = .ok (q.2.1, q.2.2) := by decide +kernel
set_option maxRecDepth 100000 in
theorem rm_o_X4_init : rm_okP rm_mt rm_P 89 49 := ⟨rm_d_X4_init, List.forall_mem_cons.mpr ⟨⟨trivial, rm_tb_of 161 (by decide +kernel) rfl, rm_tb_of 154 (by decide +kernel) rfl, rm_tb_of 155 (by decide +kernel) rfl⟩, List.forall_mem_cons.mpr ⟨⟨⟨RX7, TX7, rfl, rm_tb_of 162 (by decide +kernel) rfl, fun h => absurd h (by decide)⟩, trivial⟩, List.forall_mem_cons.mpr ⟨⟨trivial, rm_tb_of 164 (by decide +kernel) rfl, rm_tb_of 165 (by decide +kernel) rfl, rfl, rfl, rm_n_X7_init⟩, List.forall_mem_cons.mpr ⟨⟨⟨RX4, TX4, 13, rfl, by decide, rm_tb_of 499 (by decide +kernel) rfl⟩, trivial⟩, List.forall_mem_cons.mpr ⟨⟨⟨RX3, TX3, rfl, rm_tb_of 247 (by decide +kernel) rfl, fun h => absurd h (by decide)⟩, trivial⟩, List.forall_mem_cons.mpr ⟨⟨trivial, rm_tb_of 249 (by decide +kernel) rfl, rm_tb_of 250 (by decide +kernel) rfl, rfl, rfl, rm_n_X3_init⟩, List.forall_mem_cons.mpr ⟨⟨⟨RX4, TX4, 13, rfl, by decide, rm_tb_of 501 (by decide +kernel) rfl⟩, trivial⟩, List.forall_mem_cons.mpr ⟨⟨⟨RX3, TX3, 17, rfl, by decide, rm_nest_of 445 (by decide +kernel) rfl⟩, trivial⟩, List.forall_mem_cons.mpr ⟨⟨⟨RX4, TX4, 13, rfl, by decide, rm_tb_of 503 (by decide +kernel) rfl⟩, trivial⟩, List.forall_mem_cons.mpr ⟨⟨⟨RX4, TX4, 13, rfl, by decide, rm_tb_of 505 (by decide +kernel) rfl⟩, trivial⟩, List.forall_mem_cons.mpr ⟨⟨⟨RX4, TX4, 13, rfl, by decide, rm_tb_of 508 (by decide +kernel) rfl⟩, trivial⟩, List.forall_mem_cons.mpr ⟨⟨⟨RX4, TX4, 13, rfl, by decide, rm_tb_of 510 (by decide +kernel) rfl⟩, trivial⟩, List.forall_mem_cons.mpr ⟨⟨⟨RX4, TX4, 13, rfl, by decide, rm_tb_of 520 (by decide +kernel) rfl⟩, trivial⟩, List.forall_mem_cons.mpr ⟨⟨⟨RX4, TX4, 13, rfl, by decide, rm_tb_of 522 (by decide +kernel) rfl⟩, trivial⟩, (fun _ h => by cases h)⟩⟩⟩⟩⟩⟩⟩⟩⟩⟩⟩⟩⟩⟩, rfl, rfl, (fun _ => ⟨rfl, _, rfl, rfl⟩), by decide +kernel⟩
set_option maxRecDepth 100000 in
theorem rm_d_X5_init : ∀ q ∈ rm_c_X5_init, decode cX5_init q.1 = .ok (q.2.1, q.2.2) := by decide +kernel
set_option maxRecDepth 100000 in
theorem rm_o_X5_init : rm_okP rm_mt rm_P 89 50 := ⟨rm_d_X5_init, List.forall_mem_cons.mpr ⟨⟨trivial, rm_tb_of 329 (by decide +kernel) rfl, rm_tb_of 154 (by decide +kernel) rfl, rm_tb_of 155 (by decide +kernel) rfl⟩, List.forall_mem_cons.mpr ⟨⟨⟨RX1, TX1, rfl, rm_tb_of 330 (by decide +kernel) rfl, fun _ => rfl⟩, trivial⟩, List.forall_mem_cons.mpr ⟨⟨⟨RX5, TX5, 6, rfl, by decide, rm_tb_of 362 (by decide +kernel) rfl⟩, trivial⟩, List.forall_mem_cons.mpr ⟨⟨⟨RX5, TX5, 6, rfl, by decide, rm_tb_of 363 (by decide +kernel) rfl⟩, trivial⟩, List.forall_mem_cons.mpr ⟨⟨trivial, rm_tb_of 333 (by decide +kernel) rfl, rm_tb_of 334 (by decide +kernel) rfl, rfl, rfl, rm_n_X1_init⟩, List.forall_mem_cons.mpr ⟨⟨⟨RX5, TX5, 6, rfl, by decide, rm_tb_of 364 (by decide +kernel) rfl⟩, trivial⟩, List.forall_mem_cons.mpr ⟨⟨⟨RX5, TX5, 6, rfl, by decide, rm_tb_of 365 (by decide +kernel) rfl⟩, trivial⟩, List.forall_mem_cons.mpr ⟨⟨trivial, rm_tb_of 352 (by decide +kernel) rfl, rm_tb_of 353 (by decide +kernel) rfl, rm_tb_of 354 (by decide +kernel) rfl, ⟨_, rfl, rfl⟩, rm_n_X1_set⟩, (fun _ h => by cases h)⟩⟩⟩⟩⟩⟩⟩⟩, rfl, rfl, (fun _ => ⟨rfl, _, rfl, rfl⟩), by decide +kernel⟩
set_option maxRecDepth 100000 in
theorem rm_d_X6_init : ∀ q ∈ rm_c_X6_init, decode cX6_init q.1 = .ok (q.2.1, q.2.2) := by decide +kernel
set_option maxRecDepth 100000 in
theorem rm_o_X6_init : rm_okP rm_mt rm_P 89 51 := ⟨rm_d_X6_init, List.forall_mem_cons.mpr ⟨⟨trivial, rm_tb_of 174 (by decide +kernel) rfl, rm_tb_of 154 (by decide +kernel) rfl, rm_tb_of 155 (by decide +kernel) rfl⟩, List.forall_mem_cons.mpr ⟨⟨⟨RX6, TX6, 2, rfl, by decide, rm_tb_of 182 (by decide +kernel) rfl⟩, trivial⟩, List.forall_mem_cons.mpr ⟨⟨⟨RX6, TX6, 2, rfl, by decide, rm_tb_of 175 (by decide +kernel) rfl⟩, trivial⟩, (fun _ h => by cases h)⟩⟩⟩, rfl, rfl, (fun _ => ⟨rfl, _, rfl, rfl⟩), by decide +kernel⟩
set_option maxRecDepth 100000 in
theorem rm_d_X6_setConstant : ∀ q ∈ rm_c_X6_setConstant, decode cX6_setConstant q.1 = .ok (q.2.1, q.2.2) := by decide +kernel
set_option maxRecDepth 100000 in
theorem rm_o_X6_setConstant : rm_okP rm_mt rm_P 89 52 := ⟨rm_d_X6_setConstant, List.forall_mem_cons.mpr ⟨⟨⟨RX6, TX6, 2, rfl, by decide, rm_tb_of 182 (by decide +kernel) rfl⟩, trivial⟩, List.forall_mem_cons.mpr ⟨⟨⟨RX6, TX6, 2, rfl, by decide, rm_tb_of 175 (by decide +kernel) rfl⟩, trivial⟩, (fun _ h => by cases h)⟩⟩, rfl, rfl, (fun h => by cases h), by decide +kernel⟩
set_option maxRecDepth 100000 in
theorem rm_d_X7_fail : ∀ q ∈ rm_c_X7_fail, decode cX7_fail q.1 = .ok (q.2.1, q.2.2) := by decide +kernel
set_option maxRecDepth 100000 in
theorem rm_o_X7_fail : rm_okP rm_mt rm_P 89 53 := ⟨rm_d_X7_fail, List.forall_mem_cons.mpr ⟨⟨⟨RX7, TX7, 14, rfl, by decide, rm_tb_of 200 (by decide +kernel) rfl⟩, trivial⟩, List.forall_mem_cons.mpr ⟨⟨⟨RX7, TX7, 14, rfl, by decide, rm_tb_of 201 (by decide +kernel) rfl⟩, trivial⟩, List.forall_mem_cons.mpr ⟨⟨⟨RX7, TX7, 14, rfl, by decide, rm_tb_of 199 (by decide +kernel) rfl⟩, trivial⟩, (fun _ h => by cases h)⟩⟩⟩, rfl, rfl, (fun h => by cases h), by decide +kernel⟩
set_option maxRecDepth 100000 in
theorem rm_d_X7_init : ∀ q ∈ rm_c_X7_init, decode cX7_init q.1 = .ok (q.2.1, q.2.2) := by decide +kernel
set_option maxRecDepth 100000 in
theorem rm_o_X7_init : rm_okP rm_mt rm_P 89 54 := ⟨rm_d_X7_init, List.forall_mem_cons.mpr ⟨⟨trivial, rm_tb_of 167 (by decide +kernel) rfl, rm_tb_of 154 (by decide +kernel) rfl, rm_tb_of 155 (by decide +kernel) rfl⟩, List.forall_mem_cons.mpr ⟨⟨⟨RX7, TX7, 14, rfl, by decide, rm_tb_of 195 (by decide +kernel) rfl⟩, trivial⟩, List.forall_mem_cons.mpr ⟨⟨⟨RX6, TX6, rfl, rm_tb_of 168 (by decide +kernel) rfl, fun _ => rfl⟩, trivial⟩, List.forall_mem_cons.mpr ⟨⟨⟨RX7, TX7, 14, rfl, by decide, rm_tb_of 203 (by decide +kernel) rfl⟩, trivial⟩, List.forall_mem_cons.mpr ⟨⟨trivial, rm_tb_of 171 (by decide +kernel) rfl, rm_tb_of 172 (by decide +kernel) rfl, rfl, rfl, rm_n_X6_init⟩, List.forall_mem_cons.mpr ⟨⟨⟨RX7, TX7, 14, rfl, by decide, rm_tb_of 204 (by decide +kernel) rfl⟩, trivial⟩, List.forall_mem_cons.mpr ⟨⟨⟨RX7, TX7, 14, rfl, by decide, rm_tb_of 205 (by decide +kernel) rfl⟩, trivial⟩, List.forall_mem_cons.mpr ⟨⟨⟨RX7, TX7, 14, rfl, by decide, rm_tb_of 206 (by decide +kernel) rfl⟩, trivial⟩, List.forall_mem_cons.mpr ⟨⟨⟨RX7, TX7, 14, rfl, by decide, rm_tb_of 209 (by decide +kernel) rfl⟩, trivial⟩, List.forall_mem_cons.mpr ⟨⟨⟨RX7, TX7, 14, rfl, by decide, rm_tb_of 215 (by decide +kernel) rfl⟩, trivial⟩, (fun _ h => by cases h)⟩⟩⟩⟩⟩⟩⟩⟩⟩⟩, rfl, rfl, (fun _ => ⟨rfl, _, rfl, rfl⟩), by decide +kernel⟩
set_option maxRecDepth 100000 in
theorem rm_d_X7_isDigit : ∀ q ∈ rm_c_X7_isDigit, decode cX7_isDigit q.1 = .ok (q.2.1, q.2.2) := by decide +kernel
set_option maxRecDepth 100000 in
theorem rm_o_X7_isDigit : rm_okP rm_mt rm_P 89 55 := ⟨rm_d_X7_isDigit, (fun _ h => by cases h), rfl, rfl, (fun h => by cases h), by decide +kernel⟩
set_option maxRecDepth 100000 in
theorem rm_d_X7_look : ∀ q ∈ rm_c_X7_look, decode cX7_look q.1 = .ok (q.2.1, q.2.2) := by decide +kernel
set_option maxRecDepth 100000 in
theorem rm_o_X7_look : rm_okP rm_mt rm_P 89 56 := ⟨rm_d_X7_look, List.forall_mem_cons.mpr ⟨⟨⟨RX7, TX7, 14, rfl, by decide, rm_tb_of 198 (by decide +kernel) rfl⟩, trivial⟩, List.forall_mem_cons.mpr ⟨⟨⟨RX7, TX7, 14, rfl, by decide, rm_tb_of 197 (by decide +kernel) rfl⟩, trivial⟩, List.forall_mem_cons.mpr ⟨⟨⟨RX7, TX7, 14, rfl, by decide, rm_tb_of 195 (by decide +kernel) rfl⟩, trivial⟩, List.forall_mem_cons.mpr ⟨⟨⟨RX7, TX7, 14, rfl, by decide, rm_tb_of 199 (by decide +kernel) rfl⟩, trivial⟩, List.forall_mem_cons.mpr ⟨⟨trivial, rm_tb_of 604 (by decide +kernel) rfl, rm_tb_of 605 (by decide +kernel) rfl, rm_n_X7_isDigit⟩, List.forall_mem_cons.mpr ⟨⟨trivial, rm_tb_of 608 (by decide +kernel) rfl, rm_tb_of 609 (by decide +kernel) rfl, rm_tb_of 610 (by decide +kernel) rfl, rfl, rm_n_J0_indexOf_0f7a4⟩, List.forall_mem_cons.mpr ⟨⟨trivial, rm_tb_of 690 (by decide +kernel) rfl, rm_tb_of 692 (by decide +kernel) rfl, rm_tb_of 1 (by decide +kernel) rfl, ⟨_, rfl, rfl⟩, rm_n_X7_fail⟩, (fun _ h => by cases h)⟩⟩⟩⟩⟩⟩⟩, rfl, rfl, (fun h => by cases h), by decide +kernel⟩
set_option maxRecDepth 100000 in
theorem rm_d_X7_read : ∀ q ∈ rm_c_X7_read, decode cX7_read q.1 = .ok (q.2.1, q.2.2) := by decide +kernel
set_option maxRecDepth 100000 in
theorem rm_o_X7_read : rm_okP rm_mt rm_P 89 57 := ⟨rm_d_X7_read, List.forall_mem_cons.mpr ⟨⟨⟨RX7, TX7, 14, rfl, by decide, rm_tb_of 195 (by decide +kernel) rfl⟩, trivial⟩, List.forall_mem_cons.mpr ⟨⟨trivial, rm_tb_of 597 (by decide +kernel) rfl, rm_tb_of 598 (by decide +kernel) rfl, rm_n_J9_min_7cf53⟩, List.forall_mem_cons.mpr ⟨⟨⟨RX7, TX7, 14, rfl, by decide, rm_tb_of 197 (by decide +kernel) rfl⟩, trivial⟩, List.forall_mem_cons.mpr ⟨⟨⟨RX7, TX7, 14, rfl, by decide, rm_tb_of 198 (by decide +kernel) rfl⟩, trivial⟩, List.forall_mem_cons.mpr ⟨⟨⟨RX7, TX7, 14, rfl, by decide, rm_tb_of 200 (by decide +kernel) rfl⟩, trivial⟩, List.forall_mem_cons.mpr ⟨⟨⟨RX7, TX7, 14, rfl, by decide, rm_tb_of 201 (by decide +kernel) rfl⟩, trivial⟩, List.forall_mem_cons.mpr ⟨⟨⟨RX7, TX7, 14, rfl, by decide, rm_tb_of 212 (by decide +kernel) rfl⟩, trivial⟩, List.forall_mem_cons.mpr ⟨⟨⟨RX7, TX7, 14, rfl, by decide, rm_tb_of 216 (by decide +kernel) rfl⟩, trivial⟩, List.forall_mem_cons.mpr ⟨⟨trivial, rm_tb_of 600 (by decide +kernel) rfl, rm_tb_of 602 (by decide +kernel) rfl, rm_tb_of 0 (by decide +kernel) rfl, ⟨_, rfl, rfl⟩, rm_n_X7_look⟩, List.forall_mem_cons.mpr ⟨⟨trivial, rm_tb_of 694 (by decide +kernel) rfl, rm_tb_of 696 (by decide +kernel) rfl, rm_tb_of 2 (by decide +kernel) rfl, ⟨_, rfl, rfl⟩, rm_n_X7_readText⟩, List.forall_mem_cons.mpr ⟨⟨⟨RX7, TX7, 14, rfl, by decide, rm_tb_of 199 (by decide +kernel) rfl⟩, trivial⟩, List.forall_mem_cons.mpr ⟨⟨trivial, rm_tb_of 690 (by decide +kernel) rfl, rm_tb_of 692 (by decide +kernel) rfl, rm_tb_of 1 (by decide +kernel) rfl, ⟨_, rfl, rfl⟩, rm_n_X7_fail⟩, (fun _ h => by cases h)⟩⟩⟩⟩⟩⟩⟩⟩⟩⟩⟩⟩, rfl, rfl, (fun h => by cases h), by decide +kernel⟩
set_option maxRecDepth 100000 in
theorem rm_d_X7_readAll : ∀ q ∈ rm_c_X7_readAll, decode cX7_readAll q.1 = .ok (q.2.1, q.2.2) := by decide +kernel
set_option maxRecDepth 100000 in
theorem rm_o_X7_readAll : rm_okP rm_mt rm_P 89 58 := ⟨rm_d_X7_readAll, List.forall_mem_cons.mpr ⟨⟨trivial, rm_tb_of 702 (by decide +kernel) rfl, rm_tb_of 704 (by decide +kernel) rfl, rm_tb_of 4 (by decide +kernel) rfl, ⟨_, rfl, rfl⟩, rm_n_X7_readOne⟩, List.forall_mem_cons.mpr ⟨⟨⟨RX7, TX7, 14, rfl, by decide, rm_tb_of 199 (by decide +kernel) rfl⟩, trivial⟩, (fun _ h => by cases h)⟩⟩, rfl, rfl, (fun h => by cases h), by decide +kernel⟩
set_option maxRecDepth 100000 in
theorem rm_d_X7_readAtom : ∀ q ∈ rm_c_X7_readAtom, decode cX7_readAtom q.1 = .ok (q.2.1, q.2.2) := by decide +kernel
set_option maxRecDepth 100000 in
theorem rm_o_X7_readAtom : rm_okP rm_mt rm_P 89 59 := ⟨rm_d_X7_readAtom, List.forall_mem_cons.mpr ⟨⟨trivial, rm_tb_of 714 (by decide +kernel) rfl, rm_tb_of 716 (by decide +kernel) rfl, rm_tb_of 7 (by decide +kernel) rfl, ⟨_, rfl, rfl⟩, rm_n_X7_readSum⟩, List.forall_mem_cons.mpr ⟨⟨⟨rfl, rfl⟩, trivial⟩, List.forall_mem_cons.mpr ⟨⟨⟨RX7, TX7, 14, rfl, by decide, rm_tb_of 199 (by decide +kernel) rfl⟩, trivial⟩, List.forall_mem_cons.mpr ⟨⟨trivial, rm_tb_of 608 (by decide +kernel) rfl, rm_tb_of 609 (by decide +kernel) rfl, rm_tb_of 610 (by decide +kernel) rfl, rfl, rm_n_J0_indexOf_0f7a4⟩, List.forall_mem_cons.mpr ⟨⟨⟨RX7, TX7, 14, rfl, by decide, rm_tb_of 198 (by decide +kernel) rfl⟩, trivial⟩, List.forall_mem_cons.mpr ⟨⟨trivial, rm_tb_of 690 (by decide +kernel) rfl, rm_tb_of 692 (by decide +kernel) rfl, rm_tb_of 1 (by decide +kernel) rfl, ⟨_, rfl, rfl⟩, rm_n_X7_fail⟩, List.forall_mem_cons.mpr ⟨⟨⟨RX7, TX7, 14, rfl, by decide, rm_tb_of 212 (by decide +kernel) rfl⟩, trivial⟩, List.forall_mem_cons.mpr ⟨⟨trivial, rm_tb_of 730 (by decide +kernel) rfl, rm_tb_of 732 (by decide +kernel) rfl, rm_tb_of 11 (by decide +kernel) rfl, ⟨_, rfl, rfl⟩, rm_n_X7_slot⟩, List.forall_mem_cons.mpr ⟨⟨⟨RX7, TX7, 14, rfl, by decide, rm_tb_of 200 (by decide +kernel) rfl⟩, trivial⟩, List.forall_mem_cons.mpr ⟨⟨⟨RX7, TX7, 14, rfl, by decide, rm_tb_of 206 (by decide +kernel) rfl⟩, trivial⟩, List.forall_mem_cons.mpr ⟨⟨⟨RX7, TX7, 14, rfl, by decide, rm_tb_of 209 (by decide +kernel) rfl⟩, trivial⟩, (fun _ h => by cases h)⟩⟩⟩⟩⟩⟩⟩⟩⟩⟩⟩, rfl, rfl, (fun h => by cases h), by decide +kernel⟩
end
section
set_option maxRecDepth 100000 in
theorem rm_d_X7_readBase : ∀ q ∈ rm_c_X7_readBase, decode cX7_readBase q.1 = .ok (q.2.1, q.2.2) := by decide +kernel
set_option maxRecDepth 100000 in
theorem rm_o_X7_readBase : rm_okP rm_mt rm_P 89 60 := ⟨rm_d_X7_readBase, List.forall_mem_cons.mpr ⟨⟨⟨RX7, TX7, 14, rfl, by decide, rm_tb_of 199 (by decide +kernel) rfl⟩, trivial⟩, List.forall_mem_cons.mpr ⟨⟨trivial, rm_tb_of 730 (by decide +kernel) rfl, rm_tb_of 732 (by decide +kernel) rfl, rm_tb_of 11 (by decide +kernel) rfl, ⟨_, rfl, rfl⟩, rm_n_X7_slot⟩, List.forall_mem_cons.mpr ⟨⟨trivial, rm_tb_of 743 (by decide +kernel) rfl, rm_tb_of 745 (by decide +kernel) rfl, rm_tb_of 12 (by decide +kernel) rfl, ⟨_, rfl, rfl⟩, rm_n_X7_readNumber⟩, List.forall_mem_cons.mpr ⟨⟨trivial, rm_tb_of 747 (by decide +kernel) rfl, rm_tb_of 740 (by decide +kernel) rfl, rm_tb_of 741 (by decide +kernel) rfl, ⟨_, rfl, rfl⟩, rm_n_X6_setConstant⟩, List.forall_mem_cons.mpr ⟨⟨⟨RX7, TX7, 14, rfl, by decide, rm_tb_of 198 (by decide +kernel) rfl⟩, trivial⟩, List.forall_mem_cons.mpr ⟨⟨trivial, rm_tb_of 690 (by decide +kernel) rfl, rm_tb_of 692 (by decide +kernel) rfl, rm_tb_of 1 (by decide +kernel) rfl, ⟨_, rfl, rfl⟩, rm_n_X7_fail⟩, List.forall_mem_cons.mpr ⟨⟨trivial, rm_tb_of 714 (by decide +kernel) rfl, rm_tb_of 716 (by decide +kernel) rfl, rm_tb_of 7 (by decide +kernel) rfl, ⟨_, rfl, rfl⟩, rm_n_X7_readSum⟩, (fun _ h => by cases h)⟩⟩⟩⟩⟩⟩⟩, rfl, rfl, (fun h => by cases h), by decide +kernel⟩
set_option maxRecDepth 100000 in
theorem rm_d_X7_readNumber : ∀ q ∈ rm_c_X7_readNumber, decode cX7_readNumber q.1 = .ok (q.2.1, q.2.2) := by decide +kernel
set_option maxRecDepth 100000 in
theorem rm_o_X7_readNumber : rm_okP rm_mt rm_P 89 61 := ⟨rm_d_X7_readNumber, List.forall_mem_cons.mpr ⟨⟨⟨RX7, TX7, 14, rfl, by decide, rm_tb_of 199 (by decide +kernel) rfl⟩, trivial⟩, List.forall_mem_cons.mpr ⟨⟨trivial, rm_tb_of 604 (by decide +kernel) rfl, rm_tb_of 605 (by decide +kernel) rfl, rm_n_X7_isDigit⟩, List.forall_mem_cons.mpr ⟨⟨⟨RX7, TX7, 14, rfl, by decide, rm_tb_of 198 (by decide +kernel) rfl⟩, trivial⟩, List.forall_mem_cons.mpr ⟨⟨trivial, rm_tb_of 690 (by decide +kernel) rfl, rm_tb_of 692 (by decide +kernel) rfl, rm_tb_of 1 (by decide +kernel) rfl, ⟨_, rfl, rfl⟩, rm_n_X7_fail⟩, List.forall_mem_cons.mpr ⟨⟨⟨RX7, TX7, 14, rfl, by decide, rm_tb_of 197 (by decide +kernel) rfl⟩, trivial⟩, List.forall_mem_cons.mpr ⟨⟨trivial, rm_tb_of 597 (by decide +kernel) rfl, rm_tb_of 598 (by decide +kernel) rfl, rm_n_J9_min_7cf53⟩, List.forall_mem_cons.mpr ⟨⟨⟨RX7, TX7, 14, rfl, by decide, rm_tb_of 195 (by decide +kernel) rfl⟩, trivial⟩, List.forall_mem_cons.mpr ⟨⟨trivial, rm_tb_of 600 (by decide +kernel) rfl, rm_tb_of 602 (by decide +kernel) rfl, rm_tb_of 0 (by decide +kernel) rfl, ⟨_, rfl, rfl⟩, rm_n_X7_look⟩, (fun _ h => by cases h)⟩⟩⟩⟩⟩⟩⟩⟩, rfl, rfl, (fun h => by cases h), by decide +kernel⟩
set_option maxRecDepth 100000 in
theorem rm_d_X7_readOne : ∀ q ∈ rm_c_X7_readOne, decode cX7_readOne q.1 = .ok (q.2.1, q.2.2) := by decide +kernel
set_option maxRecDepth 100000 in
theorem rm_o_X7_readOne : rm_okP rm_mt rm_P 89 62 := ⟨rm_d_X7_readOne, List.forall_mem_cons.mpr ⟨⟨⟨RX7, TX7, 14, rfl, by decide, rm_tb_of 199 (by decide +kernel) rfl⟩, trivial⟩, List.forall_mem_cons.mpr ⟨⟨⟨RX7, TX7, 14, rfl, by decide, rm_tb_of 198 (by decide +kernel) rfl⟩, trivial⟩, List.forall_mem_cons.mpr ⟨⟨trivial, rm_tb_of 690 (by decide +kernel) rfl, rm_tb_of 692 (by decide +kernel) rfl, rm_tb_of 1 (by decide +kernel) rfl, ⟨_, rfl, rfl⟩, rm_n_X7_fail⟩, List.forall_mem_cons.mpr ⟨⟨trivial, rm_tb_of 710 (by decide +kernel) rfl, rm_tb_of 712 (by decide +kernel) rfl, rm_tb_of 6 (by decide +kernel) rfl, ⟨_, rfl, rfl⟩, rm_n_X7_readAtom⟩, List.forall_mem_cons.mpr ⟨⟨trivial, rm_tb_of 694 (by decide +kernel) rfl, rm_tb_of 696 (by decide +kernel) rfl, rm_tb_of 2 (by decide +kernel) rfl, ⟨_, rfl, rfl⟩, rm_n_X7_readText⟩, (fun _ h => by cases h)⟩⟩⟩⟩⟩, rfl, rfl, (fun h => by cases h), by decide +kernel⟩
set_option maxRecDepth 100000 in
theorem rm_d_X7_readPower : ∀ q ∈ rm_c_X7_readPower, decode cX7_readPower q.1 = .ok (q.2.1, q.2.2) := by decide +kernel
set_option maxRecDepth 100000 in
theorem rm_o_X7_readPower : rm_okP rm_mt rm_P 89 63 := ⟨rm_d_X7_readPower, List.forall_mem_cons.mpr ⟨⟨trivial, rm_tb_of 726 (by decide +kernel) rfl, rm_tb_of 728 (by decide +kernel) rfl, rm_tb_of 10 (by decide +kernel) rfl, ⟨_, rfl, rfl⟩, rm_n_X7_readBase⟩, List.forall_mem_cons.mpr ⟨⟨⟨RX7, TX7, 14, rfl, by decide, rm_tb_of 199 (by decide +kernel) rfl⟩, trivial⟩, List.forall_mem_cons.mpr ⟨⟨⟨RX7, TX7, 14, rfl, by decide, rm_tb_of 198 (by decide +kernel) rfl⟩, trivial⟩, List.forall_mem_cons.mpr ⟨⟨trivial, rm_tb_of 743 (by decide +kernel) rfl, rm_tb_of 745 (by decide +kernel) rfl, rm_tb_of 12 (by decide +kernel) rfl, ⟨_, rfl, rfl⟩, rm_n_X7_readNumber⟩, List.forall_mem_cons.mpr ⟨⟨trivial, rm_tb_of 730 (by decide +kernel) rfl, rm_tb_of 732 (by decide +kernel) rfl, rm_tb_of 11 (by decide +kernel) rfl, ⟨_, rfl, rfl⟩, rm_n_X7_slot⟩, (fun _ h => by cases h)⟩⟩⟩⟩⟩, rfl, rfl, (fun h => by cases h), by decide +kernel⟩
set_option maxRecDepth 100000 in
theorem rm_d_X7_readSum : ∀ q ∈ rm_c_X7_readSum, decode cX7_readSum q.1 = .ok (q.2.1, q.2.2) := by decide +kernel
set_option maxRecDepth 100000 in
theorem rm_o_X7_readSum : rm_okP rm_mt rm_P 89 64 := ⟨rm_d_X7_readSum, List.forall_mem_cons.mpr ⟨⟨⟨RX7, TX7, 14, rfl, by decide, rm_tb_of 199 (by decide +kernel) rfl⟩, trivial⟩, List.forall_mem_cons.mpr ⟨⟨trivial, rm_tb_of 718 (by decide +kernel) rfl, rm_tb_of 720 (by decide +kernel) rfl, rm_tb_of 8 (by decide +kernel) rfl, ⟨_, rfl, rfl⟩, rm_n_X7_readTerm⟩, List.forall_mem_cons.mpr ⟨⟨trivial, rm_tb_of 730 (by decide +kernel) rfl, rm_tb_of 732 (by decide +kernel) rfl, rm_tb_of 11 (by decide +kernel) rfl, ⟨_, rfl, rfl⟩, rm_n_X7_slot⟩, List.forall_mem_cons.mpr ⟨⟨⟨RX7, TX7, 14, rfl, by decide, rm_tb_of 198 (by decide +kernel) rfl⟩, trivial⟩, (fun _ h => by cases h)⟩⟩⟩⟩, rfl, rfl, (fun h => by cases h), by decide +kernel⟩
set_option maxRecDepth 100000 in
theorem rm_d_X7_readTerm : ∀ q ∈ rm_c_X7_readTerm, decode cX7_readTerm q.1 = .ok (q.2.1, q.2.2) := by decide +kernel
set_option maxRecDepth 100000 in
theorem rm_o_X7_readTerm : rm_okP rm_mt rm_P 89 65 := ⟨rm_d_X7_readTerm, List.forall_mem_cons.mpr ⟨⟨trivial, rm_tb_of 722 (by decide +kernel) rfl, rm_tb_of 724 (by decide +kernel) rfl, rm_tb_of 9 (by decide +kernel) rfl, ⟨_, rfl, rfl⟩, rm_n_X7_readPower⟩, List.forall_mem_cons.mpr ⟨⟨⟨RX7, TX7, 14, rfl, by decide, rm_tb_of 199 (by decide +kernel) rfl⟩, trivial⟩, List.forall_mem_cons.mpr ⟨⟨⟨RX7, TX7, 14, rfl, by decide, rm_tb_of 198 (by decide +kernel) rfl⟩, trivial⟩, List.forall_mem_cons.mpr ⟨⟨trivial, rm_tb_of 730 (by decide +kernel) rfl, rm_tb_of 732 (by decide +kernel) rfl, rm_tb_of 11 (by decide +kernel) rfl, ⟨_, rfl, rfl⟩, rm_n_X7_slot⟩, (fun _ h => by cases h)⟩⟩⟩⟩, rfl, rfl, (fun h => by cases h), by decide +kernel⟩
set_option maxRecDepth 100000 in
theorem rm_d_X7_readText : ∀ q ∈ rm_c_X7_readText, decode cX7_readText q.1 = .ok (q.2.1, q.2.2) := by decide +kernel
set_option maxRecDepth 100000 in
theorem rm_o_X7_readText : rm_okP rm_mt rm_P 89 66 := ⟨rm_d_X7_readText, List.forall_mem_cons.mpr ⟨⟨trivial, rm_tb_of 698 (by decide +kernel) rfl, rm_tb_of 700 (by decide +kernel) rfl, rm_tb_of 3 (by decide +kernel) rfl, ⟨_, rfl, rfl⟩, rm_n_X7_readAll⟩, List.forall_mem_cons.mpr ⟨⟨⟨RX7, TX7, 14, rfl, by decide, rm_tb_of 199 (by decide +kernel) rfl⟩, trivial⟩, (fun _ h => by cases h)⟩⟩, rfl, rfl, (fun h => by cases h), by decide +kernel⟩
set_option maxRecDepth 100000 in
theorem rm_d_X7_slot : ∀ q ∈ rm_c_X7_slot, decode cX7_slot q.1 = .ok (q.2.1, q.2.2) := by decide +kernel
set_option maxRecDepth 100000 in
theorem rm_o_X7_slot : rm_okP rm_mt rm_P 89 67 := ⟨rm_d_X7_slot, List.forall_mem_cons.mpr ⟨⟨⟨RX7, TX7, 14, rfl, by decide, rm_tb_of 203 (by decide +kernel) rfl⟩, trivial⟩, List.forall_mem_cons.mpr ⟨⟨trivial, rm_tb_of 597 (by decide +kernel) rfl, rm_tb_of 598 (by decide +kernel) rfl, rm_n_J9_min_7cf53⟩, List.forall_mem_cons.mpr ⟨⟨trivial, rm_tb_of 734 (by decide +kernel) rfl, rm_tb_of 338 (by decide +kernel) rfl, rm_n_J9_max_7cf53⟩, (fun _ h => by cases h)⟩⟩⟩, rfl, ⟨_, rfl⟩, (fun h => by cases h), by decide +kernel⟩
set_option maxRecDepth 100000 in
theorem rm_d_X8_init : ∀ q ∈ rm_c_X8_init, decode cX8_init q.1 = .ok (q.2.1, q.2.2) := by decide +kernel
set_option maxRecDepth 100000 in
theorem rm_o_X8_init : rm_okP rm_mt rm_P 89 68 := ⟨rm_d_X8_init, List.forall_mem_cons.mpr ⟨⟨trivial, rm_tb_of 387 (by decide +kernel) rfl, rm_tb_of 154 (by decide +kernel) rfl, rm_tb_of 155 (by decide +kernel) rfl⟩, List.forall_mem_cons.mpr ⟨⟨⟨RX1, TX1, rfl, rm_tb_of 388 (by decide +kernel) rfl, fun _ => rfl⟩, trivial⟩, List.forall_mem_cons.mpr ⟨⟨trivial, rm_tb_of 389 (by decide +kernel) rfl, rm_tb_of 334 (by decide +kernel) rfl, rfl, rfl, rm_n_X1_init⟩, List.forall_mem_cons.mpr ⟨⟨⟨RX8, TX8, 10, rfl, by decide, rm_tb_of 411 (by decide +kernel) rfl⟩, trivial⟩, (fun _ h => by cases h)⟩⟩⟩⟩, rfl, rfl, (fun _ => ⟨rfl, _, rfl, rfl⟩), by decide +kernel⟩
set_option maxRecDepth 100000 in
theorem rm_d_X9_atom : ∀ q ∈ rm_c_X9_atom, decode cX9_atom q.1 = .ok (q.2.1, q.2.2) := by decide +kernel
set_option maxRecDepth 100000 in
theorem rm_o_X9_atom : rm_okP rm_mt rm_P 89 69 := ⟨rm_d_X9_atom, List.forall_mem_cons.mpr ⟨⟨trivial, rm_tb_of 1099 (by decide +kernel) rfl, rm_tb_of 1101 (by decide +kernel) rfl, rm_tb_of 45 (by decide +kernel) rfl, ⟨_, rfl, rfl⟩, rm_n_X9_isAtom⟩, List.forall_mem_cons.mpr ⟨⟨rm_tb_of 1103 (by decide +kernel) rfl, trivial⟩, List.forall_mem_cons.mpr ⟨⟨⟨RX9, TX9, 8, rfl, by decide, rm_tb_of 558 (by decide +kernel) rfl⟩, trivial⟩, List.forall_mem_cons.mpr ⟨⟨⟨RX7, TX7, 14, rfl, by decide, rm_nest_of 207 (by decide +kernel) rfl⟩, trivial⟩, List.forall_mem_cons.mpr ⟨⟨⟨RX6, TX6, 2, rfl, by decide, rm_nest_of 186 (by decide +kernel) rfl⟩, trivial⟩, List.forall_mem_cons.mpr ⟨⟨⟨RX6, TX6, 2, rfl, by decide, rm_nest_of 180 (by decide +kernel) rfl⟩, trivial⟩, List.forall_mem_cons.mpr ⟨⟨⟨RX7, TX7, 14, rfl, by decide, rm_nest_of 211 (by decide +kernel) rfl⟩, trivial⟩, List.forall_mem_cons.mpr ⟨⟨⟨RX9, TX9, 8, rfl, by decide, rm_tb_of 557 (by decide +kernel) rfl⟩, trivial⟩, List.forall_mem_cons.mpr ⟨⟨⟨RX9, TX9, 8, rfl, by decide, rm_tb_of 560 (by decide +kernel) rfl⟩, trivial⟩, (fun _ h => by cases h)⟩⟩⟩⟩⟩⟩⟩⟩⟩, rfl, rfl, (fun h => by cases h), by decide +kernel⟩
set_option maxRecDepth 100000 in
theorem rm_d_X9_cellOf : ∀ q ∈ rm_c_X9_cellOf, decode cX9_cellOf q.1 = .ok (q.2.1, q.2.2) := by decide +kernel
set_option maxRecDepth 100000 in
theorem rm_o_X9_cellOf : rm_okP rm_mt rm_P 89 70 := ⟨rm_d_X9_cellOf, List.forall_mem_cons.mpr ⟨⟨⟨RX9, TX9, 8, rfl, by decide, rm_tb_of 556 (by decide +kernel) rfl⟩, trivial⟩, List.forall_mem_cons.mpr ⟨⟨⟨RX9, TX9, 8, rfl, by decide, rm_tb_of 557 (by decide +kernel) rfl⟩, trivial⟩, (fun _ h => by cases h)⟩⟩, rfl, rfl, (fun h => by cases h), by decide +kernel⟩
set_option maxRecDepth 100000 in
theorem rm_d_X9_common : ∀ q ∈ rm_c_X9_common, decode cX9_common q.1 = .ok (q.2.1, q.2.2) := by decide +kernel
set_option maxRecDepth 100000 in
theorem rm_o_X9_common : rm_okP rm_mt rm_P 89 71 := ⟨rm_d_X9_common, List.forall_mem_cons.mpr ⟨⟨trivial, rm_tb_of 1133 (by decide +kernel) rfl, rm_tb_of 1135 (by decide +kernel) rfl, rm_tb_of 47 (by decide +kernel) rfl, ⟨_, rfl, rfl⟩, rm_n_X9_isRoot⟩, List.forall_mem_cons.mpr ⟨⟨⟨RX9, TX9, 8, rfl, by decide, rm_tb_of 560 (by decide +kernel) rfl⟩, trivial⟩, List.forall_mem_cons.mpr ⟨⟨⟨RX9, TX9, 8, rfl, by decide, rm_tb_of 557 (by decide +kernel) rfl⟩, trivial⟩, List.forall_mem_cons.mpr ⟨⟨⟨RX8, TX8, 10, rfl, by decide, rm_nest_of 392 (by decide +kernel) rfl⟩, trivial⟩, (fun _ h => by cases h)⟩⟩⟩⟩, rfl, rfl, (fun h => by cases h), by decide +kernel⟩
set_option maxRecDepth 100000 in
theorem rm_d_X9_count : ∀ q ∈ rm_c_X9_count, decode cX9_count q.1 = .ok (q.2.1, q.2.2) := by decide +kernel
set_option maxRecDepth 100000 in
theorem rm_o_X9_count : rm_okP rm_mt rm_P 89 72 := ⟨rm_d_X9_count, List.forall_mem_cons.mpr ⟨⟨⟨RX9, TX9, 8, rfl, by decide, rm_tb_of 554 (by decide +kernel) rfl⟩, trivial⟩, List.forall_mem_cons.mpr ⟨⟨⟨RX9, TX9, 8, rfl, by decide, rm_tb_of 555 (by decide +kernel) rfl⟩, trivial⟩, List.forall_mem_cons.mpr ⟨⟨⟨RX9, TX9, 8, rfl, by decide, rm_tb_of 553 (by decide +kernel) rfl⟩, trivial⟩, List.forall_mem_cons.mpr ⟨⟨⟨RX9, TX9, 8, rfl, by decide, rm_tb_of 556 (by decide +kernel) rfl⟩, trivial⟩, List.forall_mem_cons.mpr ⟨⟨⟨RX9, TX9, 8, rfl, by decide, rm_tb_of 558 (by decide +kernel) rfl⟩, trivial⟩, List.forall_mem_cons.mpr ⟨⟨⟨RX7, TX7, 14, rfl, by decide, rm_nest_of 214 (by decide +kernel) rfl⟩, trivial⟩, List.forall_mem_cons.mpr ⟨⟨⟨RX9, TX9, 8, rfl, by decide, rm_tb_of 557 (by decide +kernel) rfl⟩, trivial⟩, List.forall_mem_cons.mpr ⟨⟨⟨RX4, TX4, 13, rfl, by decide, rm_nest_of 507 (by decide +kernel) rfl⟩, trivial⟩, List.forall_mem_cons.mpr ⟨⟨⟨RX4, TX4, 13, rfl, by decide, rm_nest_of 513 (by decide +kernel) rfl⟩, trivial⟩, (fun _ h => by cases h)⟩⟩⟩⟩⟩⟩⟩⟩⟩, rfl, rfl, (fun h => by cases h), by decide +kernel⟩
set_option maxRecDepth 100000 in
theorem rm_d_X9_exact : ∀ q ∈ rm_c_X9_exact, decode cX9_exact q.1 = .ok (q.2.1, q.2.2) := by decide +kernel
set_option maxRecDepth 100000 in
theorem rm_o_X9_exact : rm_okP rm_mt rm_P 89 73 := ⟨rm_d_X9_exact, List.forall_mem_cons.mpr ⟨⟨trivial, rm_tb_of 1133 (by decide +kernel) rfl, rm_tb_of 1135 (by decide +kernel) rfl, rm_tb_of 47 (by decide +kernel) rfl, ⟨_, rfl, rfl⟩, rm_n_X9_isRoot⟩, List.forall_mem_cons.mpr ⟨⟨rm_tb_of 1137 (by decide +kernel) rfl, trivial⟩, List.forall_mem_cons.mpr ⟨⟨⟨RX9, TX9, 8, rfl, by decide, rm_tb_of 557 (by decide +kernel) rfl⟩, trivial⟩, List.forall_mem_cons.mpr ⟨⟨⟨RX8, TX8, 10, rfl, by decide, rm_nest_of 396 (by decide +kernel) rfl⟩, trivial⟩, List.forall_mem_cons.mpr ⟨⟨rm_tb_of 1153 (by decide +kernel) rfl, trivial⟩, List.forall_mem_cons.mpr ⟨⟨⟨RX8, TX8, 10, rfl, by decide, rm_nest_of 400 (by decide +kernel) rfl⟩, trivial⟩, List.forall_mem_cons.mpr ⟨⟨⟨RX8, TX8, 10, rfl, by decide, rm_nest_of 404 (by decide +kernel) rfl⟩, trivial⟩, (fun _ h => by cases h)⟩⟩⟩⟩⟩⟩⟩, rfl, rfl, (fun h => by cases h), by decide +kernel⟩
set_option maxRecDepth 100000 in
theorem rm_d_X9_four : ∀ q ∈ rm_c_X9_four, decode cX9_four q.1 = .ok (q.2.1, q.2.2) := by decide +kernel
set_option maxRecDepth 100000 in
theorem rm_o_X9_four : rm_okP rm_mt rm_P 89 74 := ⟨rm_d_X9_four, List.forall_mem_cons.mpr ⟨⟨trivial, rm_tb_of 582 (by decide +kernel) rfl, rm_tb_of 583 (by decide +kernel) rfl, rm_n_X9_isSign⟩, List.forall_mem_cons.mpr ⟨⟨⟨RX9, TX9, 8, rfl, by decide, rm_tb_of 553 (by decide +kernel) rfl⟩, trivial⟩, List.forall_mem_cons.mpr ⟨⟨⟨RX9, TX9, 8, rfl, by decide, rm_tb_of 558 (by decide +kernel) rfl⟩, trivial⟩, List.forall_mem_cons.mpr ⟨⟨⟨RX7, TX7, 14, rfl, by decide, rm_nest_of 196 (by decide +kernel) rfl⟩, trivial⟩, (fun _ h => by cases h)⟩⟩⟩⟩, rfl, rfl, (fun h => by cases h), by decide +kernel⟩
set_option maxRecDepth 100000 in
theorem rm_d_X9_holds : ∀ q ∈ rm_c_X9_holds, decode cX9_holds q.1 = .ok (q.2.1, q.2.2) := by decide +kernel
set_option maxRecDepth 100000 in
theorem rm_o_X9_holds : rm_okP rm_mt rm_P 89 75 := ⟨rm_d_X9_holds, List.forall_mem_cons.mpr ⟨⟨trivial, rm_tb_of 1121 (by decide +kernel) rfl, rm_tb_of 1123 (by decide +kernel) rfl, rm_tb_of 46 (by decide +kernel) rfl, ⟨_, rfl, rfl⟩, rm_n_X9_isCell⟩, List.forall_mem_cons.mpr ⟨⟨⟨RX9, TX9, 8, rfl, by decide, rm_tb_of 557 (by decide +kernel) rfl⟩, trivial⟩, List.forall_mem_cons.mpr ⟨⟨⟨RX4, TX4, 13, rfl, by decide, rm_nest_of 511 (by decide +kernel) rfl⟩, trivial⟩, (fun _ h => by cases h)⟩⟩⟩, rfl, rfl, (fun h => by cases h), by decide +kernel⟩
set_option maxRecDepth 100000 in
theorem rm_d_X9_init : ∀ q ∈ rm_c_X9_init, decode cX9_init q.1 = .ok (q.2.1, q.2.2) := by decide +kernel
set_option maxRecDepth 100000 in
theorem rm_o_X9_init : rm_okP rm_mt rm_P 89 76 := ⟨rm_d_X9_init, List.forall_mem_cons.mpr ⟨⟨trivial, rm_tb_of 153 (by decide +kernel) rfl, rm_tb_of 154 (by decide +kernel) rfl, rm_tb_of 155 (by decide +kernel) rfl⟩, List.forall_mem_cons.mpr ⟨⟨⟨RX9, TX9, 8, rfl, by decide, rm_tb_of 555 (by decide +kernel) rfl⟩, trivial⟩, List.forall_mem_cons.mpr ⟨⟨⟨RX4, TX4, rfl, rm_tb_of 156 (by decide +kernel) rfl, fun h => absurd h (by decide)⟩, trivial⟩, List.forall_mem_cons.mpr ⟨⟨trivial, rm_tb_of 158 (by decide +kernel) rfl, rm_tb_of 159 (by decide +kernel) rfl, rfl, rfl, rm_n_X4_init⟩, List.forall_mem_cons.mpr ⟨⟨⟨RX9, TX9, 8, rfl, by decide, rm_tb_of 557 (by decide +kernel) rfl⟩, trivial⟩, List.forall_mem_cons.mpr ⟨⟨⟨RX4, TX4, 13, rfl, by decide, rm_nest_of 500 (by decide +kernel) rfl⟩, trivial⟩, List.forall_mem_cons.mpr ⟨⟨⟨RX9, TX9, 8, rfl, by decide, rm_tb_of 558 (by decide +kernel) rfl⟩, trivial⟩, List.forall_mem_cons.mpr ⟨⟨⟨RX4, TX4, 13, rfl, by decide, rm_nest_of 502 (by decide +kernel) rfl⟩, trivial⟩, List.forall_mem_cons.mpr ⟨⟨⟨RX9, TX9, 8, rfl, by decide, rm_tb_of 559 (by decide +kernel) rfl⟩, trivial⟩, List.forall_mem_cons.mpr ⟨⟨⟨RX4, TX4, 13, rfl, by decide, rm_nest_of 504 (by decide +kernel) rfl⟩, trivial⟩, List.forall_mem_cons.mpr ⟨⟨⟨RX9, TX9, 8, rfl, by decide, rm_tb_of 560 (by decide +kernel) rfl⟩, trivial⟩, (fun _ h => by cases h)⟩⟩⟩⟩⟩⟩⟩⟩⟩⟩⟩, rfl, rfl, (fun _ => ⟨rfl, _, rfl, rfl⟩), by decide +kernel⟩
set_option maxRecDepth 100000 in
theorem rm_d_X9_isAtom : ∀ q ∈ rm_c_X9_isAtom, decode cX9_isAtom q.1 = .ok (q.2.1, q.2.2) := by decide +kernel
set_option maxRecDepth 100000 in
theorem rm_o_X9_isAtom : rm_okP rm_mt rm_P 89 77 := ⟨rm_d_X9_isAtom, List.forall_mem_cons.mpr ⟨⟨⟨RX9, TX9, 8, rfl, by decide, rm_tb_of 556 (by decide +kernel) rfl⟩, trivial⟩, List.forall_mem_cons.mpr ⟨⟨⟨RX9, TX9, 8, rfl, by decide, rm_tb_of 558 (by decide +kernel) rfl⟩, trivial⟩, List.forall_mem_cons.mpr ⟨⟨⟨RX7, TX7, 14, rfl, by decide, rm_nest_of 214 (by decide +kernel) rfl⟩, trivial⟩, (fun _ h => by cases h)⟩⟩⟩, rfl, rfl, (fun h => by cases h), by decide +kernel⟩
set_option maxRecDepth 100000 in
theorem rm_d_X9_isCell : ∀ q ∈ rm_c_X9_isCell, decode cX9_isCell q.1 = .ok (q.2.1, q.2.2) := by decide +kernel
set_option maxRecDepth 100000 in
theorem rm_o_X9_isCell : rm_okP rm_mt rm_P 89 78 := ⟨rm_d_X9_isCell, List.forall_mem_cons.mpr ⟨⟨⟨RX9, TX9, 8, rfl, by decide, rm_tb_of 556 (by decide +kernel) rfl⟩, trivial⟩, List.forall_mem_cons.mpr ⟨⟨⟨RX9, TX9, 8, rfl, by decide, rm_tb_of 557 (by decide +kernel) rfl⟩, trivial⟩, List.forall_mem_cons.mpr ⟨⟨⟨RX4, TX4, 13, rfl, by decide, rm_nest_of 507 (by decide +kernel) rfl⟩, trivial⟩, (fun _ h => by cases h)⟩⟩⟩, rfl, rfl, (fun h => by cases h), by decide +kernel⟩
set_option maxRecDepth 100000 in
theorem rm_d_X9_isRoot : ∀ q ∈ rm_c_X9_isRoot, decode cX9_isRoot q.1 = .ok (q.2.1, q.2.2) := by decide +kernel
set_option maxRecDepth 100000 in
theorem rm_o_X9_isRoot : rm_okP rm_mt rm_P 89 79 := ⟨rm_d_X9_isRoot, List.forall_mem_cons.mpr ⟨⟨⟨RX9, TX9, 8, rfl, by decide, rm_tb_of 556 (by decide +kernel) rfl⟩, trivial⟩, List.forall_mem_cons.mpr ⟨⟨⟨RX9, TX9, 8, rfl, by decide, rm_tb_of 557 (by decide +kernel) rfl⟩, trivial⟩, List.forall_mem_cons.mpr ⟨⟨⟨RX4, TX4, 13, rfl, by decide, rm_nest_of 507 (by decide +kernel) rfl⟩, trivial⟩, (fun _ h => by cases h)⟩⟩⟩, rfl, rfl, (fun h => by cases h), by decide +kernel⟩
set_option maxRecDepth 100000 in
theorem rm_d_X9_isSign : ∀ q ∈ rm_c_X9_isSign, decode cX9_isSign q.1 = .ok (q.2.1, q.2.2) := by decide +kernel
set_option maxRecDepth 100000 in
theorem rm_o_X9_isSign : rm_okP rm_mt rm_P 89 80 := ⟨rm_d_X9_isSign, (fun _ h => by cases h), rfl, rfl, (fun h => by cases h), by decide +kernel⟩
set_option maxRecDepth 100000 in
theorem rm_d_X9_judge : ∀ q ∈ rm_c_X9_judge, decode cX9_judge q.1 = .ok (q.2.1, q.2.2) := by decide +kernel
set_option maxRecDepth 100000 in
theorem rm_o_X9_judge : rm_okP rm_mt rm_P 89 81 := ⟨rm_d_X9_judge, List.forall_mem_cons.mpr ⟨⟨⟨RX9, TX9, 8, rfl, by decide, rm_tb_of 556 (by decide +kernel) rfl⟩, trivial⟩, List.forall_mem_cons.mpr ⟨⟨⟨RX9, TX9, 8, rfl, by decide, rm_tb_of 557 (by decide +kernel) rfl⟩, trivial⟩, List.forall_mem_cons.mpr ⟨⟨⟨RX4, TX4, 13, rfl, by decide, rm_nest_of 507 (by decide +kernel) rfl⟩, trivial⟩, List.forall_mem_cons.mpr ⟨⟨⟨RX4, TX4, 13, rfl, by decide, rm_nest_of 513 (by decide +kernel) rfl⟩, trivial⟩, List.forall_mem_cons.mpr ⟨⟨⟨RX4, TX4, 13, rfl, by decide, rm_nest_of 515 (by decide +kernel) rfl⟩, trivial⟩, List.forall_mem_cons.mpr ⟨⟨⟨RX4, TX4, 13, rfl, by decide, rm_nest_of 517 (by decide +kernel) rfl⟩, trivial⟩, List.forall_mem_cons.mpr ⟨⟨⟨RX4, TX4, 13, rfl, by decide, rm_nest_of 519 (by decide +kernel) rfl⟩, trivial⟩, (fun _ h => by cases h)⟩⟩⟩⟩⟩⟩⟩, rfl, rfl, (fun h => by cases h), by decide +kernel⟩
set_option maxRecDepth 100000 in
theorem rm_d_X9_load : ∀ q ∈ rm_c_X9_load, decode cX9_load q.1 = .ok (q.2.1, q.2.2) := by decide +kernel
set_option maxRecDepth 100000 in
theorem rm_o_X9_load : rm_okP rm_mt rm_P 89 82 := ⟨rm_d_X9_load, List.forall_mem_cons.mpr ⟨⟨⟨RX9, TX9, 8, rfl, by decide, rm_tb_of 553 (by decide +kernel) rfl⟩, trivial⟩, List.forall_mem_cons.mpr ⟨⟨⟨RX9, TX9, 8, rfl, by decide, rm_tb_of 558 (by decide +kernel) rfl⟩, trivial⟩, List.forall_mem_cons.mpr ⟨⟨trivial, rm_tb_of 593 (by decide +kernel) rfl, rm_tb_of 594 (by decide +kernel) rfl, rm_tb_of 595 (by decide +kernel) rfl, ⟨_, rfl, rfl⟩, rm_n_X7_read⟩, List.forall_mem_cons.mpr ⟨⟨⟨RX9, TX9, 8, rfl, by decide, rm_tb_of 554 (by decide +kernel) rfl⟩, trivial⟩, List.forall_mem_cons.mpr ⟨⟨⟨RX7, TX7, 14, rfl, by decide, rm_nest_of 202 (by decide +kernel) rfl⟩, trivial⟩, List.forall_mem_cons.mpr ⟨⟨⟨RX9, TX9, 8, rfl, by decide, rm_tb_of 555 (by decide +kernel) rfl⟩, trivial⟩, List.forall_mem_cons.mpr ⟨⟨⟨RX9, TX9, 8, rfl, by decide, rm_tb_of 556 (by decide +kernel) rfl⟩, trivial⟩, List.forall_mem_cons.mpr ⟨⟨⟨RX9, TX9, 8, rfl, by decide, rm_tb_of 560 (by decide +kernel) rfl⟩, trivial⟩, List.forall_mem_cons.mpr ⟨⟨⟨RX0, TX0, 8, rfl, by decide, rm_nest_of 300 (by decide +kernel) rfl⟩, trivial⟩, List.forall_mem_cons.mpr ⟨⟨⟨RX7, TX7, 14, rfl, by decide, rm_nest_of 214 (by decide +kernel) rfl⟩, trivial⟩, List.forall_mem_cons.mpr ⟨⟨⟨RX7, TX7, 14, rfl, by decide, rm_nest_of 207 (by decide +kernel) rfl⟩, trivial⟩, List.forall_mem_cons.mpr ⟨⟨⟨RX9, TX9, 8, rfl, by decide, rm_tb_of 559 (by decide +kernel) rfl⟩, trivial⟩, List.forall_mem_cons.mpr ⟨⟨⟨RX3, TX3, 17, rfl, by decide, rm_nest_of 450 (by decide +kernel) rfl⟩, trivial⟩, List.forall_mem_cons.mpr ⟨⟨⟨RX9, TX9, 8, rfl, by decide, rm_tb_of 557 (by decide +kernel) rfl⟩, trivial⟩, List.forall_mem_cons.mpr ⟨⟨⟨RX4, TX4, 13, rfl, by decide, rm_nest_of 507 (by decide +kernel) rfl⟩, trivial⟩, (fun _ h => by cases h)⟩⟩⟩⟩⟩⟩⟩⟩⟩⟩⟩⟩⟩⟩⟩, rfl, rfl, (fun h => by cases h), by decide +kernel⟩
set_option maxRecDepth 100000 in
theorem rm_d_X9_root : ∀ q ∈ rm_c_X9_root, decode cX9_root q.1 = .ok (q.2.1, q.2.2) := by decide +kernel
set_option maxRecDepth 100000 in
theorem rm_o_X9_root : rm_okP rm_mt rm_P 89 83 := ⟨rm_d_X9_root, List.forall_mem_cons.mpr ⟨⟨trivial, rm_tb_of 1133 (by decide +kernel) rfl, rm_tb_of 1135 (by decide +kernel) rfl, rm_tb_of 47 (by decide +kernel) rfl, ⟨_, rfl, rfl⟩, rm_n_X9_isRoot⟩, List.forall_mem_cons.mpr ⟨⟨rm_tb_of 1137 (by decide +kernel) rfl, trivial⟩, List.forall_mem_cons.mpr ⟨⟨rm_tb_of 1138 (by decide +kernel) rfl, trivial⟩, List.forall_mem_cons.mpr ⟨⟨⟨RX9, TX9, 8, rfl, by decide, rm_tb_of 559 (by decide +kernel) rfl⟩, trivial⟩, List.forall_mem_cons.mpr ⟨⟨⟨RX9, TX9, 8, rfl, by decide, rm_tb_of 557 (by decide +kernel) rfl⟩, trivial⟩, (fun _ h => by cases h)⟩⟩⟩⟩⟩, rfl, rfl, (fun h => by cases h), by decide +kernel⟩
set_option maxRecDepth 100000 in
theorem rm_d_X9_sign : ∀ q ∈ rm_c_X9_sign, decode cX9_sign q.1 = .ok (q.2.1, q.2.2) := by decide +kernel
set_option maxRecDepth 100000 in
theorem rm_o_X9_sign : rm_okP rm_mt rm_P 89 84 := ⟨rm_d_X9_sign, List.forall_mem_cons.mpr ⟨⟨trivial, rm_tb_of 1121 (by decide +kernel) rfl, rm_tb_of 1123 (by decide +kernel) rfl, rm_tb_of 46 (by decide +kernel) rfl, ⟨_, rfl, rfl⟩, rm_n_X9_isCell⟩, List.forall_mem_cons.mpr ⟨⟨trivial, rm_tb_of 1099 (by decide +kernel) rfl, rm_tb_of 1101 (by decide +kernel) rfl, rm_tb_of 45 (by decide +kernel) rfl, ⟨_, rfl, rfl⟩, rm_n_X9_isAtom⟩, List.forall_mem_cons.mpr ⟨⟨⟨RX9, TX9, 8, rfl, by decide, rm_tb_of 557 (by decide +kernel) rfl⟩, trivial⟩, List.forall_mem_cons.mpr ⟨⟨⟨RX4, TX4, 13, rfl, by decide, rm_nest_of 509 (by decide +kernel) rfl⟩, trivial⟩, (fun _ h => by cases h)⟩⟩⟩⟩, rfl, rfl, (fun h => by cases h), by decide +kernel⟩
set_option maxRecDepth 100000 in
theorem rm_d_X9_signAt : ∀ q ∈ rm_c_X9_signAt, decode cX9_signAt q.1 = .ok (q.2.1, q.2.2) := by decide +kernel
set_option maxRecDepth 100000 in
theorem rm_o_X9_signAt : rm_okP rm_mt rm_P 89 85 := ⟨rm_d_X9_signAt, List.forall_mem_cons.mpr ⟨⟨trivial, rm_tb_of 1099 (by decide +kernel) rfl, rm_tb_of 1101 (by decide +kernel) rfl, rm_tb_of 45 (by decide +kernel) rfl, ⟨_, rfl, rfl⟩, rm_n_X9_isAtom⟩, List.forall_mem_cons.mpr ⟨⟨⟨RX9, TX9, 8, rfl, by decide, rm_tb_of 559 (by decide +kernel) rfl⟩, trivial⟩, List.forall_mem_cons.mpr ⟨⟨⟨RX9, TX9, 8, rfl, by decide, rm_tb_of 558 (by decide +kernel) rfl⟩, trivial⟩, List.forall_mem_cons.mpr ⟨⟨⟨RX7, TX7, 14, rfl, by decide, rm_nest_of 207 (by decide +kernel) rfl⟩, trivial⟩, (fun _ h => by cases h)⟩⟩⟩⟩, rfl, rfl, (fun h => by cases h), by decide +kernel⟩
set_option maxRecDepth 100000 in
theorem rm_d_X9_simple : ∀ q ∈ rm_c_X9_simple, decode cX9_simple q.1 = .ok (q.2.1, q.2.2) := by decide +kernel
set_option maxRecDepth 100000 in
theorem rm_o_X9_simple : rm_okP rm_mt rm_P 89 86 := ⟨rm_d_X9_simple, List.forall_mem_cons.mpr ⟨⟨trivial, rm_tb_of 1121 (by decide +kernel) rfl, rm_tb_of 1123 (by decide +kernel) rfl, rm_tb_of 46 (by decide +kernel) rfl, ⟨_, rfl, rfl⟩, rm_n_X9_isCell⟩, List.forall_mem_cons.mpr ⟨⟨rm_tb_of 1166 (by decide +kernel) rfl, trivial⟩, List.forall_mem_cons.mpr ⟨⟨⟨RX9, TX9, 8, rfl, by decide, rm_tb_of 557 (by decide +kernel) rfl⟩, trivial⟩, List.forall_mem_cons.mpr ⟨⟨⟨RX4, TX4, 13, rfl, by decide, rm_nest_of 523 (by decide +kernel) rfl⟩, trivial⟩, List.forall_mem_cons.mpr ⟨⟨rm_tb_of 1137 (by decide +kernel) rfl, trivial⟩, List.forall_mem_cons.mpr ⟨⟨⟨RX4, TX4, 13, rfl, by decide, rm_nest_of 521 (by decide +kernel) rfl⟩, trivial⟩, (fun _ h => by cases h)⟩⟩⟩⟩⟩⟩, rfl, rfl, (fun h => by cases h), by decide +kernel⟩
set_option maxRecDepth 100000 in
theorem rm_d_X9_times : ∀ q ∈ rm_c_X9_times, decode cX9_times q.1 = .ok (q.2.1, q.2.2) := by decide +kernel
set_option maxRecDepth 100000 in
theorem rm_o_X9_times : rm_okP rm_mt rm_P 89 87 := ⟨rm_d_X9_times, List.forall_mem_cons.mpr ⟨⟨trivial, rm_tb_of 1133 (by decide +kernel) rfl, rm_tb_of 1135 (by decide +kernel) rfl, rm_tb_of 47 (by decide +kernel) rfl, ⟨_, rfl, rfl⟩, rm_n_X9_isRoot⟩, List.forall_mem_cons.mpr ⟨⟨trivial, rm_tb_of 1099 (by decide +kernel) rfl, rm_tb_of 1101 (by decide +kernel) rfl, rm_tb_of 45 (by decide +kernel) rfl, ⟨_, rfl, rfl⟩, rm_n_X9_isAtom⟩, List.forall_mem_cons.mpr ⟨⟨⟨RX9, TX9, 8, rfl, by decide, rm_tb_of 558 (by decide +kernel) rfl⟩, trivial⟩, List.forall_mem_cons.mpr ⟨⟨⟨RX7, TX7, 14, rfl, by decide, rm_nest_of 207 (by decide +kernel) rfl⟩, trivial⟩, List.forall_mem_cons.mpr ⟨⟨⟨RX6, TX6, 2, rfl, by decide, rm_nest_of 180 (by decide +kernel) rfl⟩, trivial⟩, List.forall_mem_cons.mpr ⟨⟨⟨RX9, TX9, 8, rfl, by decide, rm_tb_of 560 (by decide +kernel) rfl⟩, trivial⟩, List.forall_mem_cons.mpr ⟨⟨⟨RX9, TX9, 8, rfl, by decide, rm_tb_of 557 (by decide +kernel) rfl⟩, trivial⟩, List.forall_mem_cons.mpr ⟨⟨⟨RX8, TX8, 10, rfl, by decide, rm_nest_of 392 (by decide +kernel) rfl⟩, trivial⟩, (fun _ h => by cases h)⟩⟩⟩⟩⟩⟩⟩⟩, rfl, rfl, (fun h => by cases h), by decide +kernel⟩
set_option maxRecDepth 100000 in
theorem rm_d_X9_type : ∀ q ∈ rm_c_X9_type, decode cX9_type q.1 = .ok (q.2.1, q.2.2) := by decide +kernel
set_option maxRecDepth 100000 in
theorem rm_o_X9_type : rm_okP rm_mt rm_P 89 88 := ⟨rm_d_X9_type, List.forall_mem_cons.mpr ⟨⟨trivial, rm_tb_of 582 (by decide +kernel) rfl, rm_tb_of 583 (by decide +kernel) rfl, rm_n_X9_isSign⟩, List.forall_mem_cons.mpr ⟨⟨⟨RX9, TX9, 8, rfl, by decide, rm_tb_of 553 (by decide +kernel) rfl⟩, trivial⟩, List.forall_mem_cons.mpr ⟨⟨⟨RX9, TX9, 8, rfl, by decide, rm_tb_of 558 (by decide +kernel) rfl⟩, trivial⟩, List.forall_mem_cons.mpr ⟨⟨⟨RX7, TX7, 14, rfl, by decide, rm_nest_of 196 (by decide +kernel) rfl⟩, trivial⟩, (fun _ h => by cases h)⟩⟩⟩⟩, rfl, rfl, (fun h => by cases h), by decide +kernel⟩
end
section
theorem rm_P_ok : ∀ mi, mi < 89 → rm_okP rm_mt rm_P 89 mi := by
  intro mi h
  match mi, h with
  | 0, _ => exact rm_o_J0_coder_7d493
  | 1, _ => exact rm_o_J0_indexOf_0f7a4
  | 2, _ => exact rm_o_J0_indexOf_7cf53
  | 3, _ => exact rm_o_J0_isLatin1_aae02
  | 4, _ => exact rm_o_J0_length_8abf5
  | 5, _ => exact rm_o_J13_compare_74951
  | 6, _ => exact rm_o_J1_canEncode_9a6ad
  | 7, _ => exact rm_o_J1_indexOfChar_4cfef
  | 8, _ => exact rm_o_J1_indexOf_4cfef
  | 9, _ => exact rm_o_J9_abs_067f4
  | 10, _ => exact rm_o_J9_max_7cf53
  | 11, _ => exact rm_o_J9_min_7cf53
  | 12, _ => exact rm_o_X0_init
  | 13, _ => exact rm_o_X10_atom
  | 14, _ => exact rm_o_X10_beginSum
  | 15, _ => exact rm_o_X10_cannot
  | 16, _ => exact rm_o_X10_cellOf
  | 17, _ => exact rm_o_X10_common
  | 18, _ => exact rm_o_X10_count
  | 19, _ => exact rm_o_X10_exact
  | 20, _ => exact rm_o_X10_fail
  | 21, _ => exact rm_o_X10_four
  | 22, _ => exact rm_o_X10_good
  | 23, _ => exact rm_o_X10_holds
  | 24, _ => exact rm_o_X10_init
  | 25, _ => exact rm_o_X10_isAtom
  | 26, _ => exact rm_o_X10_isCell
  | 27, _ => exact rm_o_X10_isDigit
  | 28, _ => exact rm_o_X10_isNumber
  | 29, _ => exact rm_o_X10_isRoot
  | 30, _ => exact rm_o_X10_isSign
  | 31, _ => exact rm_o_X10_judge
  | 32, _ => exact rm_o_X10_load
  | 33, _ => exact rm_o_X10_peek
  | 34, _ => exact rm_o_X10_readAtom
  | 35, _ => exact rm_o_X10_readSum
  | 36, _ => exact rm_o_X10_readText
  | 37, _ => exact rm_o_X10_root
  | 38, _ => exact rm_o_X10_settle
  | 39, _ => exact rm_o_X10_sign
  | 40, _ => exact rm_o_X10_signAt
  | 41, _ => exact rm_o_X10_simple
  | 42, _ => exact rm_o_X10_takeBase
  | 43, _ => exact rm_o_X10_times
  | 44, _ => exact rm_o_X10_type
  | 45, _ => exact rm_o_X1_init
  | 46, _ => exact rm_o_X1_set
  | 47, _ => exact rm_o_X2_init
  | 48, _ => exact rm_o_X3_init
  | 49, _ => exact rm_o_X4_init
  | 50, _ => exact rm_o_X5_init
  | 51, _ => exact rm_o_X6_init
  | 52, _ => exact rm_o_X6_setConstant
  | 53, _ => exact rm_o_X7_fail
  | 54, _ => exact rm_o_X7_init
  | 55, _ => exact rm_o_X7_isDigit
  | 56, _ => exact rm_o_X7_look
  | 57, _ => exact rm_o_X7_read
  | 58, _ => exact rm_o_X7_readAll
  | 59, _ => exact rm_o_X7_readAtom
  | 60, _ => exact rm_o_X7_readBase
  | 61, _ => exact rm_o_X7_readNumber
  | 62, _ => exact rm_o_X7_readOne
  | 63, _ => exact rm_o_X7_readPower
  | 64, _ => exact rm_o_X7_readSum
  | 65, _ => exact rm_o_X7_readTerm
  | 66, _ => exact rm_o_X7_readText
  | 67, _ => exact rm_o_X7_slot
  | 68, _ => exact rm_o_X8_init
  | 69, _ => exact rm_o_X9_atom
  | 70, _ => exact rm_o_X9_cellOf
  | 71, _ => exact rm_o_X9_common
  | 72, _ => exact rm_o_X9_count
  | 73, _ => exact rm_o_X9_exact
  | 74, _ => exact rm_o_X9_four
  | 75, _ => exact rm_o_X9_holds
  | 76, _ => exact rm_o_X9_init
  | 77, _ => exact rm_o_X9_isAtom
  | 78, _ => exact rm_o_X9_isCell
  | 79, _ => exact rm_o_X9_isRoot
  | 80, _ => exact rm_o_X9_isSign
  | 81, _ => exact rm_o_X9_judge
  | 82, _ => exact rm_o_X9_load
  | 83, _ => exact rm_o_X9_root
  | 84, _ => exact rm_o_X9_sign
  | 85, _ => exact rm_o_X9_signAt
  | 86, _ => exact rm_o_X9_simple
  | 87, _ => exact rm_o_X9_times
  | 88, _ => exact rm_o_X9_type
  | n + 89, h => exact absurd h (by omega)
end
section
/-! THE LAW'S OWN CODE, by program -/
def rm_c_L_law : List (Nat × Instr × Nat) := [(0, .new 7, 3), (3, .dup, 1), (4, .invokespecial 9, 3), (7, .astore_n 1, 1), (8, .new 10, 3), (11, .dup, 1), (12, .invokespecial 12, 3), (15, .astore_n 2, 1), (16, .iconst 0, 1), (17, .istore_n 3, 1), (18, .iload_n 3, 1), (19, .aload_n 0, 1), (20, .arraylength, 1), (21, .iconst 4, 1), (22, .isub, 1), (23, .if_icmp .gt 519, 3), (26, .aload_n 0, 1), (27, .iload_n 3, 1), (28, .iaload, 1), (29, .bipush 15, 2), (31, .iand, 1), (32, .tableswitch 504 0 14 #[76, 99, 122, 135, 158, 191, 214, 237, 270, 304, 337, 371, 394, 428, 461], 76), (108, .aload_n 1, 1), (109, .aload_n 0, 1), (110, .iload_n 3, 1), (111, .iconst 1, 1), (112, .iadd, 1), (113, .iaload, 1), (114, .invokevirtual 13, 3), (117, .aload_n 2, 1), (118, .aload_n 0, 1), (119, .iload_n 3, 1), (120, .iconst 1, 1), (121, .iadd, 1), (122, .iaload, 1), (123, .invokevirtual 17, 3), (126, .if_icmp .eq 410, 3), (129, .iconst 0, 1), (130, .ireturn, 1), (131, .aload_n 1, 1), (132, .aload_n 0, 1), (133, .iload_n 3, 1), (134, .iconst 1, 1), (135, .iadd, 1), (136, .iaload, 1), (137, .invokevirtual 18, 3), (140, .aload_n 2, 1), (141, .aload_n 0, 1), (142, .iload_n 3, 1), (143, .iconst 1, 1), (144, .iadd, 1), (145, .iaload, 1), (146, .invokevirtual 21, 3), (149, .if_icmp .eq 387, 3), (152, .iconst 0, 1), (153, .ireturn, 1), (154, .aload_n 1, 1), (155, .invokevirtual 22, 3), (158, .aload_n 2, 1), (159, .invokevirtual 26, 3), (162, .if_icmp .eq 374, 3), (165, .iconst 0, 1), (166, .ireturn, 1), (167, .aload_n 1, 1), (168, .aload_n 0, 1), (169, .iload_n 3, 1), (170, .iconst 1, 1), (171, .iadd, 1), (172, .iaload, 1), (173, .invokevirtual 27, 3), (176, .aload_n 2, 1), (177, .aload_n 0, 1), (178, .iload_n 3, 1), (179, .iconst 1, 1), (180, .iadd, 1), (181, .iaload, 1), (182, .invokevirtual 30, 3), (185, .if_icmp .eq 351, 3), (188, .iconst 0, 1), (189, .ireturn, 1), (190, .aload_n 1, 1), (191, .aload_n 0, 1), (192, .iload_n 3, 1), (193, .iconst 1, 1), (194, .iadd, 1), (195, .iaload, 1), (196, .aload_n 0, 1), (197, .iload_n 3, 1), (198, .iconst 2, 1), (199, .iadd, 1), (200, .iaload, 1), (201, .invokevirtual 31, 3), (204, .aload_n 2, 1), (205, .aload_n 0, 1), (206, .iload_n 3, 1), (207, .iconst 1, 1), (208, .iadd, 1), (209, .iaload, 1), (210, .aload_n 0, 1), (211, .iload_n 3, 1), (212, .iconst 2, 1), (213, .iadd, 1), (214, .iaload, 1), (215, .invokevirtual 35, 3), (218, .if_icmp .eq 318, 3), (221, .iconst 0, 1), (222, .ireturn, 1), (223, .aload_n 1, 1), (224, .aload_n 0, 1), (225, .iload_n 3, 1), (226, .iconst 1, 1), (227, .iadd, 1), (228, .iaload, 1), (229, .invokevirtual 36, 3), (232, .aload_n 2, 1), (233, .aload_n 0, 1), (234, .iload_n 3, 1), (235, .iconst 1, 1), (236, .iadd, 1), (237, .iaload, 1), (238, .invokevirtual 39, 3), (241, .if_icmp .eq 295, 3), (244, .iconst 0, 1), (245, .ireturn, 1), (246, .aload_n 1, 1), (247, .aload_n 0, 1), (248, .iload_n 3, 1), (249, .iconst 1, 1), (250, .iadd, 1), (251, .iaload, 1), (252, .invokevirtual 40, 3), (255, .aload_n 2, 1), (256, .aload_n 0, 1), (257, .iload_n 3, 1), (258, .iconst 1, 1), (259, .iadd, 1), (260, .iaload, 1), (261, .invokevirtual 43, 3), (264, .if_icmp .eq 272, 3), (267, .iconst 0, 1), (268, .ireturn, 1), (269, .aload_n 1, 1), (270, .aload_n 0, 1), (271, .iload_n 3, 1), (272, .iconst 1, 1), (273, .iadd, 1), (274, .iaload, 1), (275, .aload_n 0, 1), (276, .iload_n 3, 1), (277, .iconst 2, 1), (278, .iadd, 1), (279, .iaload, 1), (280, .invokevirtual 44, 3), (283, .aload_n 2, 1), (284, .aload_n 0, 1), (285, .iload_n 3, 1), (286, .iconst 1, 1), (287, .iadd, 1), (288, .iaload, 1), (289, .aload_n 0, 1), (290, .iload_n 3, 1), (291, .iconst 2, 1), (292, .iadd, 1), (293, .iaload, 1), (294, .invokevirtual 47, 3), (297, .if_icmp .eq 239, 3), (300, .iconst 0, 1), (301, .ireturn, 1), (302, .aload_n 1, 1), (303, .aload_n 0, 1), (304, .iload_n 3, 1), (305, .iconst 1, 1), (306, .iadd, 1), (307, .iaload, 1), (308, .aload_n 0, 1), (309, .iload_n 3, 1), (310, .iconst 2, 1), (311, .iadd, 1), (312, .iaload, 1), (313, .invokevirtual 48, 3), (316, .aload_n 2, 1), (317, .aload_n 0, 1), (318, .iload_n 3, 1), (319, .iconst 1, 1), (320, .iadd, 1), (321, .iaload, 1), (322, .aload_n 0, 1), (323, .iload_n 3, 1), (324, .iconst 2, 1), (325, .iadd, 1), (326, .iaload, 1), (327, .invokevirtual 52, 3), (330, .lcmp, 1), (331, .ifCond .eq 205, 3), (334, .iconst 0, 1), (335, .ireturn, 1), (336, .aload_n 1, 1), (337, .aload_n 0, 1), (338, .iload_n 3, 1), (339, .iconst 1, 1), (340, .iadd, 1), (341, .iaload, 1), (342, .aload_n 0, 1), (343, .iload_n 3, 1), (344, .iconst 2, 1), (345, .iadd, 1), (346, .iaload, 1), (347, .invokevirtual 53, 3), (350, .aload_n 2, 1), (351, .aload_n 0, 1), (352, .iload_n 3, 1), (353, .iconst 1, 1), (354, .iadd, 1), (355, .iaload, 1), (356, .aload_n 0, 1), (357, .iload_n 3, 1), (358, .iconst 2, 1), (359, .iadd, 1), (360, .iaload, 1), (361, .invokevirtual 56, 3), (364, .if_icmp .eq 172, 3), (367, .iconst 0, 1), (368, .ireturn, 1), (369, .aload_n 1, 1), (370, .aload_n 0, 1), (371, .iload_n 3, 1), (372, .iconst 1, 1), (373, .iadd, 1), (374, .iaload, 1), (375, .aload_n 0, 1), (376, .iload_n 3, 1), (377, .iconst 2, 1), (378, .iadd, 1), (379, .iaload, 1), (380, .invokevirtual 57, 3), (383, .aload_n 2, 1), (384, .aload_n 0, 1), (385, .iload_n 3, 1), (386, .iconst 1, 1), (387, .iadd, 1), (388, .iaload, 1), (389, .aload_n 0, 1), (390, .iload_n 3, 1), (391, .iconst 2, 1), (392, .iadd, 1), (393, .iaload, 1), (394, .invokevirtual 60, 3), (397, .lcmp, 1), (398, .ifCond .eq 138, 3), (401, .iconst 0, 1), (402, .ireturn, 1), (403, .aload_n 1, 1), (404, .aload_n 0, 1), (405, .iload_n 3, 1), (406, .iconst 1, 1), (407, .iadd, 1), (408, .iaload, 1), (409, .invokevirtual 61, 3), (412, .aload_n 2, 1), (413, .aload_n 0, 1), (414, .iload_n 3, 1), (415, .iconst 1, 1), (416, .iadd, 1), (417, .iaload, 1), (418, .invokevirtual 64, 3), (421, .if_icmp .eq 115, 3), (424, .iconst 0, 1), (425, .ireturn, 1), (426, .aload_n 1, 1), (427, .aload_n 0, 1), (428, .iload_n 3, 1), (429, .iconst 1, 1), (430, .iadd, 1), (431, .iaload, 1), (432, .aload_n 0, 1), (433, .iload_n 3, 1), (434, .iconst 2, 1), (435, .iadd, 1), (436, .iaload, 1), (437, .invokevirtual 65, 3), (440, .aload_n 2, 1), (441, .aload_n 0, 1), (442, .iload_n 3, 1), (443, .iconst 1, 1), (444, .iadd, 1), (445, .iaload, 1), (446, .aload_n 0, 1), (447, .iload_n 3, 1), (448, .iconst 2, 1), (449, .iadd, 1), (450, .iaload, 1), (451, .invokevirtual 68, 3), (454, .lcmp, 1), (455, .ifCond .eq 81, 3), (458, .iconst 0, 1), (459, .ireturn, 1), (460, .aload_n 1, 1), (461, .aload_n 0, 1), (462, .iload_n 3, 1), (463, .iconst 1, 1), (464, .iadd, 1), (465, .iaload, 1), (466, .aload_n 0, 1), (467, .iload_n 3, 1), (468, .iconst 2, 1), (469, .iadd, 1), (470, .iaload, 1), (471, .invokevirtual 69, 3), (474, .aload_n 2, 1), (475, .aload_n 0, 1), (476, .iload_n 3, 1), (477, .iconst 1, 1), (478, .iadd, 1), (479, .iaload, 1), (480, .aload_n 0, 1), (481, .iload_n 3, 1), (482, .iconst 2, 1), (483, .iadd, 1), (484, .iaload, 1), (485, .invokevirtual 72, 3), (488, .if_icmp .eq 48, 3), (491, .iconst 0, 1), (492, .ireturn, 1), (493, .aload_n 1, 1), (494, .aload_n 0, 1), (495, .iload_n 3, 1), (496, .iconst 1, 1), (497, .iadd, 1), (498, .iaload, 1), (499, .aload_n 0, 1), (500, .iload_n 3, 1), (501, .iconst 2, 1), (502, .iadd, 1), (503, .iaload, 1), (504, .aload_n 0, 1), (505, .iload_n 3, 1), (506, .iconst 3, 1), (507, .iadd, 1), (508, .iaload, 1), (509, .invokevirtual 73, 3), (512, .aload_n 2, 1), (513, .aload_n 0, 1), (514, .iload_n 3, 1), (515, .iconst 1, 1), (516, .iadd, 1), (517, .iaload, 1), (518, .aload_n 0, 1), (519, .iload_n 3, 1), (520, .iconst 2, 1), (521, .iadd, 1), (522, .iaload, 1), (523, .aload_n 0, 1), (524, .iload_n 3, 1), (525, .iconst 3, 1), (526, .iadd, 1), (527, .iaload, 1), (528, .invokevirtual 77, 3), (531, .if_icmp .eq 5, 3), (534, .iconst 0, 1), (535, .ireturn, 1), (536, .iinc 3 4, 3), (539, .goto (-521), 3), (542, .iconst 1, 1), (543, .ireturn, 1)]
def rm_k_L_law : List rm_K5 := [(7, 1, 9, 8, 0), (9, 3, 76, 0, 2), (10, 1, 10, 55, 0), (12, 3, 24, 0, 2), (13, 3, 88, 1, 1), (17, 3, 44, 1, 1), (18, 3, 74, 1, 1), (21, 3, 21, 1, 1), (22, 3, 82, 0, 1), (26, 3, 32, 0, 1), (27, 3, 72, 1, 1), (30, 3, 18, 1, 1), (31, 3, 69, 2, 1), (35, 3, 13, 2, 1), (36, 3, 81, 1, 1), (39, 3, 31, 1, 1), (40, 3, 75, 1, 1), (43, 3, 23, 1, 1), (44, 3, 84, 2, 1), (47, 3, 39, 2, 1), (48, 3, 83, 2, 1), (52, 3, 37, 2, 1), (53, 3, 87, 2, 1), (56, 3, 43, 2, 1), (57, 3, 73, 2, 1), (60, 3, 19, 2, 1), (61, 3, 71, 1, 1), (64, 3, 17, 1, 1), (65, 3, 86, 2, 1), (68, 3, 41, 2, 1), (69, 3, 70, 2, 1), (72, 3, 16, 2, 1), (73, 3, 85, 3, 1), (77, 3, 40, 3, 1)]
def rm_p_L_law : rm_M := (rm_c_L_law, rm_k_L_law, 4, 2, false, 99)
set_option maxRecDepth 100000 in
theorem rm_d_L_law : ∀ q ∈ rm_c_L_law, decode cL_law q.1 = .ok (q.2.1, q.2.2) := by decide +kernel
set_option maxRecDepth 100000 in
theorem rm_lk_L_law : ∀ k ∈ rm_k_L_law, rm_okK RL k ∧ rm_okM rm_mt rm_P 89 RL k := List.forall_mem_cons.mpr ⟨⟨⟨RX9, TX9, rfl, rm_tb_of 148 (by decide +kernel) rfl, fun h => absurd h (by decide)⟩, trivial⟩, List.forall_mem_cons.mpr ⟨⟨trivial, rm_tb_of 150 (by decide +kernel) rfl, rm_tb_of 151 (by decide +kernel) rfl, rfl, rfl, rm_n_X9_init⟩, List.forall_mem_cons.mpr ⟨⟨⟨RX10, TX10, rfl, rm_tb_of 1204 (by decide +kernel) rfl, fun h => absurd h (by decide)⟩, trivial⟩, List.forall_mem_cons.mpr ⟨⟨trivial, rm_tb_of 1206 (by decide +kernel) rfl, rm_tb_of 1207 (by decide +kernel) rfl, rfl, rfl, rm_n_X10_init⟩, List.forall_mem_cons.mpr ⟨⟨trivial, rm_tb_of 578 (by decide +kernel) rfl, rm_tb_of 579 (by decide +kernel) rfl, rm_tb_of 580 (by decide +kernel) rfl, ⟨_, rfl, rfl⟩, rm_n_X9_type⟩, List.forall_mem_cons.mpr ⟨⟨trivial, rm_tb_of 1377 (by decide +kernel) rfl, rm_tb_of 1378 (by decide +kernel) rfl, rm_tb_of 1379 (by decide +kernel) rfl, ⟨_, rfl, rfl⟩, rm_n_X10_type⟩, List.forall_mem_cons.mpr ⟨⟨trivial, rm_tb_of 585 (by decide +kernel) rfl, rm_tb_of 586 (by decide +kernel) rfl, rm_tb_of 587 (by decide +kernel) rfl, ⟨_, rfl, rfl⟩, rm_n_X9_four⟩, List.forall_mem_cons.mpr ⟨⟨trivial, rm_tb_of 1384 (by decide +kernel) rfl, rm_tb_of 1385 (by decide +kernel) rfl, rm_tb_of 1386 (by decide +kernel) rfl, ⟨_, rfl, rfl⟩, rm_n_X10_four⟩, List.forall_mem_cons.mpr ⟨⟨trivial, rm_tb_of 589 (by decide +kernel) rfl, rm_tb_of 590 (by decide +kernel) rfl, rm_tb_of 591 (by decide +kernel) rfl, ⟨_, rfl, rfl⟩, rm_n_X9_load⟩, List.forall_mem_cons.mpr ⟨⟨trivial, rm_tb_of 1388 (by decide +kernel) rfl, rm_tb_of 1389 (by decide +kernel) rfl, rm_tb_of 1390 (by decide +kernel) rfl, ⟨_, rfl, rfl⟩, rm_n_X10_load⟩, List.forall_mem_cons.mpr ⟨⟨trivial, rm_tb_of 1091 (by decide +kernel) rfl, rm_tb_of 1092 (by decide +kernel) rfl, rm_tb_of 1093 (by decide +kernel) rfl, ⟨_, rfl, rfl⟩, rm_n_X9_count⟩, List.forall_mem_cons.mpr ⟨⟨trivial, rm_tb_of 1699 (by decide +kernel) rfl, rm_tb_of 1700 (by decide +kernel) rfl, rm_tb_of 1701 (by decide +kernel) rfl, ⟨_, rfl, rfl⟩, rm_n_X10_count⟩, List.forall_mem_cons.mpr ⟨⟨trivial, rm_tb_of 1095 (by decide +kernel) rfl, rm_tb_of 1096 (by decide +kernel) rfl, rm_tb_of 1097 (by decide +kernel) rfl, ⟨_, rfl, rfl⟩, rm_n_X9_atom⟩, List.forall_mem_cons.mpr ⟨⟨trivial, rm_tb_of 1707 (by decide +kernel) rfl, rm_tb_of 1708 (by decide +kernel) rfl, rm_tb_of 1709 (by decide +kernel) rfl, ⟨_, rfl, rfl⟩, rm_n_X10_atom⟩, List.forall_mem_cons.mpr ⟨⟨trivial, rm_tb_of 1113 (by decide +kernel) rfl, rm_tb_of 1114 (by decide +kernel) rfl, rm_tb_of 1115 (by decide +kernel) rfl, ⟨_, rfl, rfl⟩, rm_n_X9_judge⟩, List.forall_mem_cons.mpr ⟨⟨trivial, rm_tb_of 1716 (by decide +kernel) rfl, rm_tb_of 1717 (by decide +kernel) rfl, rm_tb_of 1718 (by decide +kernel) rfl, ⟨_, rfl, rfl⟩, rm_n_X10_judge⟩, List.forall_mem_cons.mpr ⟨⟨trivial, rm_tb_of 1117 (by decide +kernel) rfl, rm_tb_of 1118 (by decide +kernel) rfl, rm_tb_of 1119 (by decide +kernel) rfl, ⟨_, rfl, rfl⟩, rm_n_X9_holds⟩, List.forall_mem_cons.mpr ⟨⟨trivial, rm_tb_of 1720 (by decide +kernel) rfl, rm_tb_of 1721 (by decide +kernel) rfl, rm_tb_of 1722 (by decide +kernel) rfl, ⟨_, rfl, rfl⟩, rm_n_X10_holds⟩, List.forall_mem_cons.mpr ⟨⟨trivial, rm_tb_of 1125 (by decide +kernel) rfl, rm_tb_of 1126 (by decide +kernel) rfl, rm_tb_of 1127 (by decide +kernel) rfl, ⟨_, rfl, rfl⟩, rm_n_X9_sign⟩, List.forall_mem_cons.mpr ⟨⟨trivial, rm_tb_of 1728 (by decide +kernel) rfl, rm_tb_of 1729 (by decide +kernel) rfl, rm_tb_of 1730 (by decide +kernel) rfl, ⟨_, rfl, rfl⟩, rm_n_X10_sign⟩, List.forall_mem_cons.mpr ⟨⟨trivial, rm_tb_of 1129 (by decide +kernel) rfl, rm_tb_of 1130 (by decide +kernel) rfl, rm_tb_of 1131 (by decide +kernel) rfl, ⟨_, rfl, rfl⟩, rm_n_X9_root⟩, List.forall_mem_cons.mpr ⟨⟨trivial, rm_tb_of 1732 (by decide +kernel) rfl, rm_tb_of 1733 (by decide +kernel) rfl, rm_tb_of 1734 (by decide +kernel) rfl, ⟨_, rfl, rfl⟩, rm_n_X10_root⟩, List.forall_mem_cons.mpr ⟨⟨trivial, rm_tb_of 1144 (by decide +kernel) rfl, rm_tb_of 1145 (by decide +kernel) rfl, rm_tb_of 1146 (by decide +kernel) rfl, ⟨_, rfl, rfl⟩, rm_n_X9_times⟩, List.forall_mem_cons.mpr ⟨⟨trivial, rm_tb_of 1749 (by decide +kernel) rfl, rm_tb_of 1750 (by decide +kernel) rfl, rm_tb_of 1751 (by decide +kernel) rfl, ⟨_, rfl, rfl⟩, rm_n_X10_times⟩, List.forall_mem_cons.mpr ⟨⟨trivial, rm_tb_of 1149 (by decide +kernel) rfl, rm_tb_of 1150 (by decide +kernel) rfl, rm_tb_of 1151 (by decide +kernel) rfl, ⟨_, rfl, rfl⟩, rm_n_X9_exact⟩, List.forall_mem_cons.mpr ⟨⟨trivial, rm_tb_of 1753 (by decide +kernel) rfl, rm_tb_of 1754 (by decide +kernel) rfl, rm_tb_of 1755 (by decide +kernel) rfl, ⟨_, rfl, rfl⟩, rm_n_X10_exact⟩, List.forall_mem_cons.mpr ⟨⟨trivial, rm_tb_of 1154 (by decide +kernel) rfl, rm_tb_of 1155 (by decide +kernel) rfl, rm_tb_of 1156 (by decide +kernel) rfl, ⟨_, rfl, rfl⟩, rm_n_X9_common⟩, List.forall_mem_cons.mpr ⟨⟨trivial, rm_tb_of 1758 (by decide +kernel) rfl, rm_tb_of 1759 (by decide +kernel) rfl, rm_tb_of 1760 (by decide +kernel) rfl, ⟨_, rfl, rfl⟩, rm_n_X10_common⟩, List.forall_mem_cons.mpr ⟨⟨trivial, rm_tb_of 1162 (by decide +kernel) rfl, rm_tb_of 1163 (by decide +kernel) rfl, rm_tb_of 1164 (by decide +kernel) rfl, ⟨_, rfl, rfl⟩, rm_n_X9_simple⟩, List.forall_mem_cons.mpr ⟨⟨trivial, rm_tb_of 1762 (by decide +kernel) rfl, rm_tb_of 1763 (by decide +kernel) rfl, rm_tb_of 1764 (by decide +kernel) rfl, ⟨_, rfl, rfl⟩, rm_n_X10_simple⟩, List.forall_mem_cons.mpr ⟨⟨trivial, rm_tb_of 1185 (by decide +kernel) rfl, rm_tb_of 1186 (by decide +kernel) rfl, rm_tb_of 1187 (by decide +kernel) rfl, ⟨_, rfl, rfl⟩, rm_n_X9_cellOf⟩, List.forall_mem_cons.mpr ⟨⟨trivial, rm_tb_of 1773 (by decide +kernel) rfl, rm_tb_of 1774 (by decide +kernel) rfl, rm_tb_of 1775 (by decide +kernel) rfl, ⟨_, rfl, rfl⟩, rm_n_X10_cellOf⟩, List.forall_mem_cons.mpr ⟨⟨trivial, rm_tb_of 1199 (by decide +kernel) rfl, rm_tb_of 1200 (by decide +kernel) rfl, rm_tb_of 1201 (by decide +kernel) rfl, ⟨_, rfl, rfl⟩, rm_n_X9_signAt⟩, List.forall_mem_cons.mpr ⟨⟨trivial, rm_tb_of 1782 (by decide +kernel) rfl, rm_tb_of 1783 (by decide +kernel) rfl, rm_tb_of 1784 (by decide +kernel) rfl, ⟨_, rfl, rfl⟩, rm_n_X10_signAt⟩, (fun _ h => by cases h)⟩⟩⟩⟩⟩⟩⟩⟩⟩⟩⟩⟩⟩⟩⟩⟩⟩⟩⟩⟩⟩⟩⟩⟩⟩⟩⟩⟩⟩⟩⟩⟩⟩⟩
end
section
/-! THE HEAP BEHIND THE CONSTRUCTORS, THE CASES OF A FIRST CALL, by program -/
def rm_rl (l : List (Option Nat)) : Nat → Option Nat := fun j => l.getD j none
def rm_h1_0 : rm_H := [.inr (9, [.int 0, .int 0, .int (-2), .int 0, .ref 1, .ref 2, .ref 83, .ref 84]), .inr (4, [.ref 2, .ref 83, .ref 84, .ref 577, .int 0, .ref 578, .ref 579, .int 0, .int 0, .int 0, .int 0, .ref 580, .ref 581]), .inr (7, [.ref 3, .int 0, .int 0, .int 0, .int 0, .int 0, .ref 4, .ref 57, .ref 59, .ref 60, .ref 81, .int 0, .ref 82, .int 0]), .inl (2, 400, .inr (.inr (.inl rm_z))), .inl (5, 26, .inr (.inr (.inr (.inr (rm_rl [some 5, some 7, some 9, some 11, some 13, some 15, some 17, some 19, some 21, some 23, some 25, some 27, some 29, some 31, some 33, some 35, some 37, some 39, some 41, some 43, some 45, some 47, some 49, some 51, some 53, some 55]))))), .inr (6, [.int (-1), .ref 6]), .inl (1, 9, .inr (.inr (.inl rm_z))), .inr (6, [.int (-1), .ref 8]), .inl (1, 9, .inr (.inr (.inl rm_z))), .inr (6, [.int (-1), .ref 10]), .inl (1, 9, .inr (.inr (.inl rm_z))), .inr (6, [.int (-1), .ref 12]), .inl (1, 9, .inr (.inr (.inl rm_z))), .inr (6, [.int (-1), .ref 14]), .inl (1, 9, .inr (.inr (.inl rm_z))), .inr (6, [.int (-1), .ref 16]), .inl (1, 9, .inr (.inr (.inl rm_z))), .inr (6, [.int (-1), .ref 18]), .inl (1, 9, .inr (.inr (.inl rm_z))), .inr (6, [.int (-1), .ref 20]), .inl (1, 9, .inr (.inr (.inl rm_z))), .inr (6, [.int (-1), .ref 22]), .inl (1, 9, .inr (.inr (.inl rm_z))), .inr (6, [.int (-1), .ref 24]), .inl (1, 9, .inr (.inr (.inl rm_z))), .inr (6, [.int (-1), .ref 26]), .inl (1, 9, .inr (.inr (.inl rm_z))), .inr (6, [.int (-1), .ref 28]), .inl (1, 9, .inr (.inr (.inl rm_z))), .inr (6, [.int (-1), .ref 30]), .inl (1, 9, .inr (.inr (.inl rm_z))), .inr (6, [.int (-1), .ref 32]), .inl (1, 9, .inr (.inr (.inl rm_z))), .inr (6, [.int (-1), .ref 34]), .inl (1, 9, .inr (.inr (.inl rm_z))), .inr (6, [.int (-1), .ref 36]), .inl (1, 9, .inr (.inr (.inl rm_z))), .inr (6, [.int (-1), .ref 38]), .inl (1, 9, .inr (.inr (.inl rm_z))), .inr (6, [.int (-1), .ref 40])]
def rm_h1_1 : rm_H := [.inl (1, 9, .inr (.inr (.inl rm_z))), .inr (6, [.int (-1), .ref 42]), .inl (1, 9, .inr (.inr (.inl rm_z))), .inr (6, [.int (-1), .ref 44]), .inl (1, 9, .inr (.inr (.inl rm_z))), .inr (6, [.int (-1), .ref 46]), .inl (1, 9, .inr (.inr (.inl rm_z))), .inr (6, [.int (-1), .ref 48]), .inl (1, 9, .inr (.inr (.inl rm_z))), .inr (6, [.int (-1), .ref 50]), .inl (1, 9, .inr (.inr (.inl rm_z))), .inr (6, [.int (-1), .ref 52]), .inl (1, 9, .inr (.inr (.inl rm_z))), .inr (6, [.int (-1), .ref 54]), .inl (1, 9, .inr (.inr (.inl rm_z))), .inr (6, [.int (-1), .ref 56]), .inl (1, 9, .inr (.inr (.inl rm_z))), .inr (6, [.int (-1), .ref 58]), .inl (1, 9, .inr (.inr (.inl rm_z))), .inl (1, 9, .inr (.inr (.inl rm_z))), .inl (5, 10, .inr (.inr (.inr (.inr (rm_rl [some 61, some 63, some 65, some 67, some 69, some 71, some 73, some 75, some 77, some 79]))))), .inr (6, [.int (-1), .ref 62]), .inl (1, 9, .inr (.inr (.inl rm_z))), .inr (6, [.int (-1), .ref 64]), .inl (1, 9, .inr (.inr (.inl rm_z))), .inr (6, [.int (-1), .ref 66]), .inl (1, 9, .inr (.inr (.inl rm_z))), .inr (6, [.int (-1), .ref 68]), .inl (1, 9, .inr (.inr (.inl rm_z))), .inr (6, [.int (-1), .ref 70]), .inl (1, 9, .inr (.inr (.inl rm_z))), .inr (6, [.int (-1), .ref 72]), .inl (1, 9, .inr (.inr (.inl rm_z))), .inr (6, [.int (-1), .ref 74]), .inl (1, 9, .inr (.inr (.inl rm_z))), .inr (6, [.int (-1), .ref 76]), .inl (1, 9, .inr (.inr (.inl rm_z))), .inr (6, [.int (-1), .ref 78]), .inl (1, 9, .inr (.inr (.inl rm_z))), .inr (6, [.int (-1), .ref 80])]
def rm_h1_2 : rm_H := [.inl (1, 9, .inr (.inr (.inl rm_z))), .inl (0, 10, .inr (.inr (.inl rm_z))), .inl (0, 160, .inr (.inr (.inl rm_z))), .inr (3, [.ref 84, .ref 267, .ref 310, .int 0, .ref 551, .ref 553, .ref 555, .ref 557, .ref 559, .ref 561, .ref 563, .ref 565, .ref 567, .ref 569, .ref 571, .ref 573, .ref 575]), .inr (0, [.ref 85, .ref 246, .int 0, .ref 247, .ref 259, .ref 261, .ref 263, .ref 265]), .inl (5, 80, .inr (.inr (.inr (.inr (rm_rl [some 86, some 88, some 90, some 92, some 94, some 96, some 98, some 100, some 102, some 104, some 106, some 108, some 110, some 112, some 114, some 116, some 118, some 120, some 122, some 124, some 126, some 128, some 130, some 132, some 134, some 136, some 138, some 140, some 142, some 144, some 146, some 148, some 150, some 152, some 154, some 156, some 158, some 160, some 162, some 164, some 166, some 168, some 170, some 172, some 174, some 176, some 178, some 180, some 182, some 184, some 186, some 188, some 190, some 192, some 194, some 196, some 198, some 200, some 202, some 204, some 206, some 208, some 210, some 212, some 214, some 216, some 218, some 220, some 222, some 224, some 226, some 228, some 230, some 232, some 234, some 236, some 238, some 240, some 242, some 244]))))), .inr (6, [.int (-1), .ref 87]), .inl (1, 9, .inr (.inr (.inl rm_z))), .inr (6, [.int (-1), .ref 89]), .inl (1, 9, .inr (.inr (.inl rm_z))), .inr (6, [.int (-1), .ref 91]), .inl (1, 9, .inr (.inr (.inl rm_z))), .inr (6, [.int (-1), .ref 93]), .inl (1, 9, .inr (.inr (.inl rm_z))), .inr (6, [.int (-1), .ref 95]), .inl (1, 9, .inr (.inr (.inl rm_z))), .inr (6, [.int (-1), .ref 97]), .inl (1, 9, .inr (.inr (.inl rm_z))), .inr (6, [.int (-1), .ref 99]), .inl (1, 9, .inr (.inr (.inl rm_z))), .inr (6, [.int (-1), .ref 101]), .inl (1, 9, .inr (.inr (.inl rm_z))), .inr (6, [.int (-1), .ref 103]), .inl (1, 9, .inr (.inr (.inl rm_z))), .inr (6, [.int (-1), .ref 105]), .inl (1, 9, .inr (.inr (.inl rm_z))), .inr (6, [.int (-1), .ref 107]), .inl (1, 9, .inr (.inr (.inl rm_z))), .inr (6, [.int (-1), .ref 109]), .inl (1, 9, .inr (.inr (.inl rm_z))), .inr (6, [.int (-1), .ref 111]), .inl (1, 9, .inr (.inr (.inl rm_z))), .inr (6, [.int (-1), .ref 113]), .inl (1, 9, .inr (.inr (.inl rm_z))), .inr (6, [.int (-1), .ref 115]), .inl (1, 9, .inr (.inr (.inl rm_z))), .inr (6, [.int (-1), .ref 117]), .inl (1, 9, .inr (.inr (.inl rm_z))), .inr (6, [.int (-1), .ref 119]), .inl (1, 9, .inr (.inr (.inl rm_z)))]
def rm_h1_3 : rm_H := [.inr (6, [.int (-1), .ref 121]), .inl (1, 9, .inr (.inr (.inl rm_z))), .inr (6, [.int (-1), .ref 123]), .inl (1, 9, .inr (.inr (.inl rm_z))), .inr (6, [.int (-1), .ref 125]), .inl (1, 9, .inr (.inr (.inl rm_z))), .inr (6, [.int (-1), .ref 127]), .inl (1, 9, .inr (.inr (.inl rm_z))), .inr (6, [.int (-1), .ref 129]), .inl (1, 9, .inr (.inr (.inl rm_z))), .inr (6, [.int (-1), .ref 131]), .inl (1, 9, .inr (.inr (.inl rm_z))), .inr (6, [.int (-1), .ref 133]), .inl (1, 9, .inr (.inr (.inl rm_z))), .inr (6, [.int (-1), .ref 135]), .inl (1, 9, .inr (.inr (.inl rm_z))), .inr (6, [.int (-1), .ref 137]), .inl (1, 9, .inr (.inr (.inl rm_z))), .inr (6, [.int (-1), .ref 139]), .inl (1, 9, .inr (.inr (.inl rm_z))), .inr (6, [.int (-1), .ref 141]), .inl (1, 9, .inr (.inr (.inl rm_z))), .inr (6, [.int (-1), .ref 143]), .inl (1, 9, .inr (.inr (.inl rm_z))), .inr (6, [.int (-1), .ref 145]), .inl (1, 9, .inr (.inr (.inl rm_z))), .inr (6, [.int (-1), .ref 147]), .inl (1, 9, .inr (.inr (.inl rm_z))), .inr (6, [.int (-1), .ref 149]), .inl (1, 9, .inr (.inr (.inl rm_z))), .inr (6, [.int (-1), .ref 151]), .inl (1, 9, .inr (.inr (.inl rm_z))), .inr (6, [.int (-1), .ref 153]), .inl (1, 9, .inr (.inr (.inl rm_z))), .inr (6, [.int (-1), .ref 155]), .inl (1, 9, .inr (.inr (.inl rm_z))), .inr (6, [.int (-1), .ref 157]), .inl (1, 9, .inr (.inr (.inl rm_z))), .inr (6, [.int (-1), .ref 159]), .inl (1, 9, .inr (.inr (.inl rm_z)))]
def rm_h1_4 : rm_H := [.inr (6, [.int (-1), .ref 161]), .inl (1, 9, .inr (.inr (.inl rm_z))), .inr (6, [.int (-1), .ref 163]), .inl (1, 9, .inr (.inr (.inl rm_z))), .inr (6, [.int (-1), .ref 165]), .inl (1, 9, .inr (.inr (.inl rm_z))), .inr (6, [.int (-1), .ref 167]), .inl (1, 9, .inr (.inr (.inl rm_z))), .inr (6, [.int (-1), .ref 169]), .inl (1, 9, .inr (.inr (.inl rm_z))), .inr (6, [.int (-1), .ref 171]), .inl (1, 9, .inr (.inr (.inl rm_z))), .inr (6, [.int (-1), .ref 173]), .inl (1, 9, .inr (.inr (.inl rm_z))), .inr (6, [.int (-1), .ref 175]), .inl (1, 9, .inr (.inr (.inl rm_z))), .inr (6, [.int (-1), .ref 177]), .inl (1, 9, .inr (.inr (.inl rm_z))), .inr (6, [.int (-1), .ref 179]), .inl (1, 9, .inr (.inr (.inl rm_z))), .inr (6, [.int (-1), .ref 181]), .inl (1, 9, .inr (.inr (.inl rm_z))), .inr (6, [.int (-1), .ref 183]), .inl (1, 9, .inr (.inr (.inl rm_z))), .inr (6, [.int (-1), .ref 185]), .inl (1, 9, .inr (.inr (.inl rm_z))), .inr (6, [.int (-1), .ref 187]), .inl (1, 9, .inr (.inr (.inl rm_z))), .inr (6, [.int (-1), .ref 189]), .inl (1, 9, .inr (.inr (.inl rm_z))), .inr (6, [.int (-1), .ref 191]), .inl (1, 9, .inr (.inr (.inl rm_z))), .inr (6, [.int (-1), .ref 193]), .inl (1, 9, .inr (.inr (.inl rm_z))), .inr (6, [.int (-1), .ref 195]), .inl (1, 9, .inr (.inr (.inl rm_z))), .inr (6, [.int (-1), .ref 197]), .inl (1, 9, .inr (.inr (.inl rm_z))), .inr (6, [.int (-1), .ref 199]), .inl (1, 9, .inr (.inr (.inl rm_z)))]
def rm_h1_5 : rm_H := [.inr (6, [.int (-1), .ref 201]), .inl (1, 9, .inr (.inr (.inl rm_z))), .inr (6, [.int (-1), .ref 203]), .inl (1, 9, .inr (.inr (.inl rm_z))), .inr (6, [.int (-1), .ref 205]), .inl (1, 9, .inr (.inr (.inl rm_z))), .inr (6, [.int (-1), .ref 207]), .inl (1, 9, .inr (.inr (.inl rm_z))), .inr (6, [.int (-1), .ref 209]), .inl (1, 9, .inr (.inr (.inl rm_z))), .inr (6, [.int (-1), .ref 211]), .inl (1, 9, .inr (.inr (.inl rm_z))), .inr (6, [.int (-1), .ref 213]), .inl (1, 9, .inr (.inr (.inl rm_z))), .inr (6, [.int (-1), .ref 215]), .inl (1, 9, .inr (.inr (.inl rm_z))), .inr (6, [.int (-1), .ref 217]), .inl (1, 9, .inr (.inr (.inl rm_z))), .inr (6, [.int (-1), .ref 219]), .inl (1, 9, .inr (.inr (.inl rm_z))), .inr (6, [.int (-1), .ref 221]), .inl (1, 9, .inr (.inr (.inl rm_z))), .inr (6, [.int (-1), .ref 223]), .inl (1, 9, .inr (.inr (.inl rm_z))), .inr (6, [.int (-1), .ref 225]), .inl (1, 9, .inr (.inr (.inl rm_z))), .inr (6, [.int (-1), .ref 227]), .inl (1, 9, .inr (.inr (.inl rm_z))), .inr (6, [.int (-1), .ref 229]), .inl (1, 9, .inr (.inr (.inl rm_z))), .inr (6, [.int (-1), .ref 231]), .inl (1, 9, .inr (.inr (.inl rm_z))), .inr (6, [.int (-1), .ref 233]), .inl (1, 9, .inr (.inr (.inl rm_z))), .inr (6, [.int (-1), .ref 235]), .inl (1, 9, .inr (.inr (.inl rm_z))), .inr (6, [.int (-1), .ref 237]), .inl (1, 9, .inr (.inr (.inl rm_z))), .inr (6, [.int (-1), .ref 239]), .inl (1, 9, .inr (.inr (.inl rm_z)))]
def rm_h1_6 : rm_H := [.inr (6, [.int (-1), .ref 241]), .inl (1, 9, .inr (.inr (.inl rm_z))), .inr (6, [.int (-1), .ref 243]), .inl (1, 9, .inr (.inr (.inl rm_z))), .inr (6, [.int (-1), .ref 245]), .inl (1, 9, .inr (.inr (.inl rm_z))), .inl (0, 800, .inr (.inr (.inl rm_z))), .inr (2, [.ref 248, .ref 249, .ref 250, .ref 251, .ref 252, .ref 253, .ref 255, .ref 257]), .inl (1, 9, .inr (.inr (.inl rm_z))), .inl (1, 9, .inr (.inr (.inl rm_z))), .inl (1, 9, .inr (.inr (.inl rm_z))), .inl (1, 9, .inr (.inr (.inl rm_z))), .inl (1, 9, .inr (.inr (.inl rm_z))), .inr (6, [.int (-1), .ref 254]), .inl (1, 9, .inr (.inr (.inl rm_z))), .inr (6, [.int (-1), .ref 256]), .inl (1, 9, .inr (.inr (.inl rm_z))), .inr (6, [.int (-1), .ref 258]), .inl (1, 9, .inr (.inr (.inl rm_z))), .inr (6, [.int (-1), .ref 260]), .inl (1, 9, .inr (.inr (.inl rm_z))), .inr (6, [.int (-1), .ref 262]), .inl (1, 9, .inr (.inr (.inl rm_z))), .inr (6, [.int (-1), .ref 264]), .inl (1, 9, .inr (.inr (.inl rm_z))), .inr (6, [.int (-1), .ref 266]), .inl (1, 9, .inr (.inr (.inl rm_z))), .inr (5, [.ref 268, .ref 269, .ref 306, .ref 308, .int 0, .int 0]), .inl (6, 9, .inr (.inr (.inr (.inr (rm_rl [some 270, some 274, some 278, some 282, some 286, some 290, some 294, some 298, some 302]))))), .inl (6, 9, .inr (.inr (.inr (.inr (rm_rl [some 272, some 276, some 280, some 284, some 288, some 292, some 296, some 300, some 304]))))), .inr (1, [.ref 271, .int 0, .int 0]), .inl (0, 80, .inr (.inr (.inl rm_z))), .inr (1, [.ref 273, .int 0, .int 0]), .inl (0, 80, .inr (.inr (.inl rm_z))), .inr (1, [.ref 275, .int 0, .int 0]), .inl (0, 80, .inr (.inr (.inl rm_z))), .inr (1, [.ref 277, .int 0, .int 0]), .inl (0, 80, .inr (.inr (.inl rm_z))), .inr (1, [.ref 279, .int 0, .int 0]), .inl (0, 80, .inr (.inr (.inl rm_z)))]
def rm_h1_7 : rm_H := [.inr (1, [.ref 281, .int 0, .int 0]), .inl (0, 80, .inr (.inr (.inl rm_z))), .inr (1, [.ref 283, .int 0, .int 0]), .inl (0, 80, .inr (.inr (.inl rm_z))), .inr (1, [.ref 285, .int 0, .int 0]), .inl (0, 80, .inr (.inr (.inl rm_z))), .inr (1, [.ref 287, .int 0, .int 0]), .inl (0, 80, .inr (.inr (.inl rm_z))), .inr (1, [.ref 289, .int 0, .int 0]), .inl (0, 80, .inr (.inr (.inl rm_z))), .inr (1, [.ref 291, .int 0, .int 0]), .inl (0, 80, .inr (.inr (.inl rm_z))), .inr (1, [.ref 293, .int 0, .int 0]), .inl (0, 80, .inr (.inr (.inl rm_z))), .inr (1, [.ref 295, .int 0, .int 0]), .inl (0, 80, .inr (.inr (.inl rm_z))), .inr (1, [.ref 297, .int 0, .int 0]), .inl (0, 80, .inr (.inr (.inl rm_z))), .inr (1, [.ref 299, .int 0, .int 0]), .inl (0, 80, .inr (.inr (.inl rm_z))), .inr (1, [.ref 301, .int 0, .int 0]), .inl (0, 80, .inr (.inr (.inl rm_z))), .inr (1, [.ref 303, .int 0, .int 0]), .inl (0, 80, .inr (.inr (.inl rm_z))), .inr (1, [.ref 305, .int 0, .int 0]), .inl (0, 80, .inr (.inr (.inl rm_z))), .inr (1, [.ref 307, .int 0, .int 0]), .inl (0, 24, .inr (.inr (.inl rm_z))), .inr (1, [.ref 309, .int 1, .int 1]), .inl (0, 2, .inr (.inr (.inl rm_z))), .inl (7, 80, .inr (.inr (.inr (.inr (rm_rl [some 311, some 314, some 317, some 320, some 323, some 326, some 329, some 332, some 335, some 338, some 341, some 344, some 347, some 350, some 353, some 356, some 359, some 362, some 365, some 368, some 371, some 374, some 377, some 380, some 383, some 386, some 389, some 392, some 395, some 398, some 401, some 404, some 407, some 410, some 413, some 416, some 419, some 422, some 425, some 428, some 431, some 434, some 437, some 440, some 443, some 446, some 449, some 452, some 455, some 458, some 461, some 464, some 467, some 470, some 473, some 476, some 479, some 482, some 485, some 488, some 491, some 494, some 497, some 500, some 503, some 506, some 509, some 512, some 515, some 518, some 521, some 524, some 527, some 530, some 533, some 536, some 539, some 542, some 545, some 548]))))), .inr (8, [.int 0, .int 0, .long 0, .long 0, .long 0, .long 0, .ref 312, .int 0, .int 0, .int 0]), .inr (1, [.ref 313, .int 0, .int 0]), .inl (0, 24, .inr (.inr (.inl rm_z))), .inr (8, [.int 0, .int 0, .long 0, .long 0, .long 0, .long 0, .ref 315, .int 0, .int 0, .int 0]), .inr (1, [.ref 316, .int 0, .int 0]), .inl (0, 24, .inr (.inr (.inl rm_z))), .inr (8, [.int 0, .int 0, .long 0, .long 0, .long 0, .long 0, .ref 318, .int 0, .int 0, .int 0]), .inr (1, [.ref 319, .int 0, .int 0]), .inl (0, 24, .inr (.inr (.inl rm_z)))]
def rm_h1_8 : rm_H := [.inr (8, [.int 0, .int 0, .long 0, .long 0, .long 0, .long 0, .ref 321, .int 0, .int 0, .int 0]), .inr (1, [.ref 322, .int 0, .int 0]), .inl (0, 24, .inr (.inr (.inl rm_z))), .inr (8, [.int 0, .int 0, .long 0, .long 0, .long 0, .long 0, .ref 324, .int 0, .int 0, .int 0]), .inr (1, [.ref 325, .int 0, .int 0]), .inl (0, 24, .inr (.inr (.inl rm_z))), .inr (8, [.int 0, .int 0, .long 0, .long 0, .long 0, .long 0, .ref 327, .int 0, .int 0, .int 0]), .inr (1, [.ref 328, .int 0, .int 0]), .inl (0, 24, .inr (.inr (.inl rm_z))), .inr (8, [.int 0, .int 0, .long 0, .long 0, .long 0, .long 0, .ref 330, .int 0, .int 0, .int 0]), .inr (1, [.ref 331, .int 0, .int 0]), .inl (0, 24, .inr (.inr (.inl rm_z))), .inr (8, [.int 0, .int 0, .long 0, .long 0, .long 0, .long 0, .ref 333, .int 0, .int 0, .int 0]), .inr (1, [.ref 334, .int 0, .int 0]), .inl (0, 24, .inr (.inr (.inl rm_z))), .inr (8, [.int 0, .int 0, .long 0, .long 0, .long 0, .long 0, .ref 336, .int 0, .int 0, .int 0]), .inr (1, [.ref 337, .int 0, .int 0]), .inl (0, 24, .inr (.inr (.inl rm_z))), .inr (8, [.int 0, .int 0, .long 0, .long 0, .long 0, .long 0, .ref 339, .int 0, .int 0, .int 0]), .inr (1, [.ref 340, .int 0, .int 0]), .inl (0, 24, .inr (.inr (.inl rm_z))), .inr (8, [.int 0, .int 0, .long 0, .long 0, .long 0, .long 0, .ref 342, .int 0, .int 0, .int 0]), .inr (1, [.ref 343, .int 0, .int 0]), .inl (0, 24, .inr (.inr (.inl rm_z))), .inr (8, [.int 0, .int 0, .long 0, .long 0, .long 0, .long 0, .ref 345, .int 0, .int 0, .int 0]), .inr (1, [.ref 346, .int 0, .int 0]), .inl (0, 24, .inr (.inr (.inl rm_z))), .inr (8, [.int 0, .int 0, .long 0, .long 0, .long 0, .long 0, .ref 348, .int 0, .int 0, .int 0]), .inr (1, [.ref 349, .int 0, .int 0]), .inl (0, 24, .inr (.inr (.inl rm_z))), .inr (8, [.int 0, .int 0, .long 0, .long 0, .long 0, .long 0, .ref 351, .int 0, .int 0, .int 0]), .inr (1, [.ref 352, .int 0, .int 0]), .inl (0, 24, .inr (.inr (.inl rm_z))), .inr (8, [.int 0, .int 0, .long 0, .long 0, .long 0, .long 0, .ref 354, .int 0, .int 0, .int 0]), .inr (1, [.ref 355, .int 0, .int 0]), .inl (0, 24, .inr (.inr (.inl rm_z))), .inr (8, [.int 0, .int 0, .long 0, .long 0, .long 0, .long 0, .ref 357, .int 0, .int 0, .int 0]), .inr (1, [.ref 358, .int 0, .int 0]), .inl (0, 24, .inr (.inr (.inl rm_z))), .inr (8, [.int 0, .int 0, .long 0, .long 0, .long 0, .long 0, .ref 360, .int 0, .int 0, .int 0])]
def rm_h1_9 : rm_H := [.inr (1, [.ref 361, .int 0, .int 0]), .inl (0, 24, .inr (.inr (.inl rm_z))), .inr (8, [.int 0, .int 0, .long 0, .long 0, .long 0, .long 0, .ref 363, .int 0, .int 0, .int 0]), .inr (1, [.ref 364, .int 0, .int 0]), .inl (0, 24, .inr (.inr (.inl rm_z))), .inr (8, [.int 0, .int 0, .long 0, .long 0, .long 0, .long 0, .ref 366, .int 0, .int 0, .int 0]), .inr (1, [.ref 367, .int 0, .int 0]), .inl (0, 24, .inr (.inr (.inl rm_z))), .inr (8, [.int 0, .int 0, .long 0, .long 0, .long 0, .long 0, .ref 369, .int 0, .int 0, .int 0]), .inr (1, [.ref 370, .int 0, .int 0]), .inl (0, 24, .inr (.inr (.inl rm_z))), .inr (8, [.int 0, .int 0, .long 0, .long 0, .long 0, .long 0, .ref 372, .int 0, .int 0, .int 0]), .inr (1, [.ref 373, .int 0, .int 0]), .inl (0, 24, .inr (.inr (.inl rm_z))), .inr (8, [.int 0, .int 0, .long 0, .long 0, .long 0, .long 0, .ref 375, .int 0, .int 0, .int 0]), .inr (1, [.ref 376, .int 0, .int 0]), .inl (0, 24, .inr (.inr (.inl rm_z))), .inr (8, [.int 0, .int 0, .long 0, .long 0, .long 0, .long 0, .ref 378, .int 0, .int 0, .int 0]), .inr (1, [.ref 379, .int 0, .int 0]), .inl (0, 24, .inr (.inr (.inl rm_z))), .inr (8, [.int 0, .int 0, .long 0, .long 0, .long 0, .long 0, .ref 381, .int 0, .int 0, .int 0]), .inr (1, [.ref 382, .int 0, .int 0]), .inl (0, 24, .inr (.inr (.inl rm_z))), .inr (8, [.int 0, .int 0, .long 0, .long 0, .long 0, .long 0, .ref 384, .int 0, .int 0, .int 0]), .inr (1, [.ref 385, .int 0, .int 0]), .inl (0, 24, .inr (.inr (.inl rm_z))), .inr (8, [.int 0, .int 0, .long 0, .long 0, .long 0, .long 0, .ref 387, .int 0, .int 0, .int 0]), .inr (1, [.ref 388, .int 0, .int 0]), .inl (0, 24, .inr (.inr (.inl rm_z))), .inr (8, [.int 0, .int 0, .long 0, .long 0, .long 0, .long 0, .ref 390, .int 0, .int 0, .int 0]), .inr (1, [.ref 391, .int 0, .int 0]), .inl (0, 24, .inr (.inr (.inl rm_z))), .inr (8, [.int 0, .int 0, .long 0, .long 0, .long 0, .long 0, .ref 393, .int 0, .int 0, .int 0]), .inr (1, [.ref 394, .int 0, .int 0]), .inl (0, 24, .inr (.inr (.inl rm_z))), .inr (8, [.int 0, .int 0, .long 0, .long 0, .long 0, .long 0, .ref 396, .int 0, .int 0, .int 0]), .inr (1, [.ref 397, .int 0, .int 0]), .inl (0, 24, .inr (.inr (.inl rm_z))), .inr (8, [.int 0, .int 0, .long 0, .long 0, .long 0, .long 0, .ref 399, .int 0, .int 0, .int 0]), .inr (1, [.ref 400, .int 0, .int 0])]
def rm_h1_10 : rm_H := [.inl (0, 24, .inr (.inr (.inl rm_z))), .inr (8, [.int 0, .int 0, .long 0, .long 0, .long 0, .long 0, .ref 402, .int 0, .int 0, .int 0]), .inr (1, [.ref 403, .int 0, .int 0]), .inl (0, 24, .inr (.inr (.inl rm_z))), .inr (8, [.int 0, .int 0, .long 0, .long 0, .long 0, .long 0, .ref 405, .int 0, .int 0, .int 0]), .inr (1, [.ref 406, .int 0, .int 0]), .inl (0, 24, .inr (.inr (.inl rm_z))), .inr (8, [.int 0, .int 0, .long 0, .long 0, .long 0, .long 0, .ref 408, .int 0, .int 0, .int 0]), .inr (1, [.ref 409, .int 0, .int 0]), .inl (0, 24, .inr (.inr (.inl rm_z))), .inr (8, [.int 0, .int 0, .long 0, .long 0, .long 0, .long 0, .ref 411, .int 0, .int 0, .int 0]), .inr (1, [.ref 412, .int 0, .int 0]), .inl (0, 24, .inr (.inr (.inl rm_z))), .inr (8, [.int 0, .int 0, .long 0, .long 0, .long 0, .long 0, .ref 414, .int 0, .int 0, .int 0]), .inr (1, [.ref 415, .int 0, .int 0]), .inl (0, 24, .inr (.inr (.inl rm_z))), .inr (8, [.int 0, .int 0, .long 0, .long 0, .long 0, .long 0, .ref 417, .int 0, .int 0, .int 0]), .inr (1, [.ref 418, .int 0, .int 0]), .inl (0, 24, .inr (.inr (.inl rm_z))), .inr (8, [.int 0, .int 0, .long 0, .long 0, .long 0, .long 0, .ref 420, .int 0, .int 0, .int 0]), .inr (1, [.ref 421, .int 0, .int 0]), .inl (0, 24, .inr (.inr (.inl rm_z))), .inr (8, [.int 0, .int 0, .long 0, .long 0, .long 0, .long 0, .ref 423, .int 0, .int 0, .int 0]), .inr (1, [.ref 424, .int 0, .int 0]), .inl (0, 24, .inr (.inr (.inl rm_z))), .inr (8, [.int 0, .int 0, .long 0, .long 0, .long 0, .long 0, .ref 426, .int 0, .int 0, .int 0]), .inr (1, [.ref 427, .int 0, .int 0]), .inl (0, 24, .inr (.inr (.inl rm_z))), .inr (8, [.int 0, .int 0, .long 0, .long 0, .long 0, .long 0, .ref 429, .int 0, .int 0, .int 0]), .inr (1, [.ref 430, .int 0, .int 0]), .inl (0, 24, .inr (.inr (.inl rm_z))), .inr (8, [.int 0, .int 0, .long 0, .long 0, .long 0, .long 0, .ref 432, .int 0, .int 0, .int 0]), .inr (1, [.ref 433, .int 0, .int 0]), .inl (0, 24, .inr (.inr (.inl rm_z))), .inr (8, [.int 0, .int 0, .long 0, .long 0, .long 0, .long 0, .ref 435, .int 0, .int 0, .int 0]), .inr (1, [.ref 436, .int 0, .int 0]), .inl (0, 24, .inr (.inr (.inl rm_z))), .inr (8, [.int 0, .int 0, .long 0, .long 0, .long 0, .long 0, .ref 438, .int 0, .int 0, .int 0]), .inr (1, [.ref 439, .int 0, .int 0]), .inl (0, 24, .inr (.inr (.inl rm_z)))]
def rm_h1_11 : rm_H := [.inr (8, [.int 0, .int 0, .long 0, .long 0, .long 0, .long 0, .ref 441, .int 0, .int 0, .int 0]), .inr (1, [.ref 442, .int 0, .int 0]), .inl (0, 24, .inr (.inr (.inl rm_z))), .inr (8, [.int 0, .int 0, .long 0, .long 0, .long 0, .long 0, .ref 444, .int 0, .int 0, .int 0]), .inr (1, [.ref 445, .int 0, .int 0]), .inl (0, 24, .inr (.inr (.inl rm_z))), .inr (8, [.int 0, .int 0, .long 0, .long 0, .long 0, .long 0, .ref 447, .int 0, .int 0, .int 0]), .inr (1, [.ref 448, .int 0, .int 0]), .inl (0, 24, .inr (.inr (.inl rm_z))), .inr (8, [.int 0, .int 0, .long 0, .long 0, .long 0, .long 0, .ref 450, .int 0, .int 0, .int 0]), .inr (1, [.ref 451, .int 0, .int 0]), .inl (0, 24, .inr (.inr (.inl rm_z))), .inr (8, [.int 0, .int 0, .long 0, .long 0, .long 0, .long 0, .ref 453, .int 0, .int 0, .int 0]), .inr (1, [.ref 454, .int 0, .int 0]), .inl (0, 24, .inr (.inr (.inl rm_z))), .inr (8, [.int 0, .int 0, .long 0, .long 0, .long 0, .long 0, .ref 456, .int 0, .int 0, .int 0]), .inr (1, [.ref 457, .int 0, .int 0]), .inl (0, 24, .inr (.inr (.inl rm_z))), .inr (8, [.int 0, .int 0, .long 0, .long 0, .long 0, .long 0, .ref 459, .int 0, .int 0, .int 0]), .inr (1, [.ref 460, .int 0, .int 0]), .inl (0, 24, .inr (.inr (.inl rm_z))), .inr (8, [.int 0, .int 0, .long 0, .long 0, .long 0, .long 0, .ref 462, .int 0, .int 0, .int 0]), .inr (1, [.ref 463, .int 0, .int 0]), .inl (0, 24, .inr (.inr (.inl rm_z))), .inr (8, [.int 0, .int 0, .long 0, .long 0, .long 0, .long 0, .ref 465, .int 0, .int 0, .int 0]), .inr (1, [.ref 466, .int 0, .int 0]), .inl (0, 24, .inr (.inr (.inl rm_z))), .inr (8, [.int 0, .int 0, .long 0, .long 0, .long 0, .long 0, .ref 468, .int 0, .int 0, .int 0]), .inr (1, [.ref 469, .int 0, .int 0]), .inl (0, 24, .inr (.inr (.inl rm_z))), .inr (8, [.int 0, .int 0, .long 0, .long 0, .long 0, .long 0, .ref 471, .int 0, .int 0, .int 0]), .inr (1, [.ref 472, .int 0, .int 0]), .inl (0, 24, .inr (.inr (.inl rm_z))), .inr (8, [.int 0, .int 0, .long 0, .long 0, .long 0, .long 0, .ref 474, .int 0, .int 0, .int 0]), .inr (1, [.ref 475, .int 0, .int 0]), .inl (0, 24, .inr (.inr (.inl rm_z))), .inr (8, [.int 0, .int 0, .long 0, .long 0, .long 0, .long 0, .ref 477, .int 0, .int 0, .int 0]), .inr (1, [.ref 478, .int 0, .int 0]), .inl (0, 24, .inr (.inr (.inl rm_z))), .inr (8, [.int 0, .int 0, .long 0, .long 0, .long 0, .long 0, .ref 480, .int 0, .int 0, .int 0])]
def rm_h1_12 : rm_H := [.inr (1, [.ref 481, .int 0, .int 0]), .inl (0, 24, .inr (.inr (.inl rm_z))), .inr (8, [.int 0, .int 0, .long 0, .long 0, .long 0, .long 0, .ref 483, .int 0, .int 0, .int 0]), .inr (1, [.ref 484, .int 0, .int 0]), .inl (0, 24, .inr (.inr (.inl rm_z))), .inr (8, [.int 0, .int 0, .long 0, .long 0, .long 0, .long 0, .ref 486, .int 0, .int 0, .int 0]), .inr (1, [.ref 487, .int 0, .int 0]), .inl (0, 24, .inr (.inr (.inl rm_z))), .inr (8, [.int 0, .int 0, .long 0, .long 0, .long 0, .long 0, .ref 489, .int 0, .int 0, .int 0]), .inr (1, [.ref 490, .int 0, .int 0]), .inl (0, 24, .inr (.inr (.inl rm_z))), .inr (8, [.int 0, .int 0, .long 0, .long 0, .long 0, .long 0, .ref 492, .int 0, .int 0, .int 0]), .inr (1, [.ref 493, .int 0, .int 0]), .inl (0, 24, .inr (.inr (.inl rm_z))), .inr (8, [.int 0, .int 0, .long 0, .long 0, .long 0, .long 0, .ref 495, .int 0, .int 0, .int 0]), .inr (1, [.ref 496, .int 0, .int 0]), .inl (0, 24, .inr (.inr (.inl rm_z))), .inr (8, [.int 0, .int 0, .long 0, .long 0, .long 0, .long 0, .ref 498, .int 0, .int 0, .int 0]), .inr (1, [.ref 499, .int 0, .int 0]), .inl (0, 24, .inr (.inr (.inl rm_z))), .inr (8, [.int 0, .int 0, .long 0, .long 0, .long 0, .long 0, .ref 501, .int 0, .int 0, .int 0]), .inr (1, [.ref 502, .int 0, .int 0]), .inl (0, 24, .inr (.inr (.inl rm_z))), .inr (8, [.int 0, .int 0, .long 0, .long 0, .long 0, .long 0, .ref 504, .int 0, .int 0, .int 0]), .inr (1, [.ref 505, .int 0, .int 0]), .inl (0, 24, .inr (.inr (.inl rm_z))), .inr (8, [.int 0, .int 0, .long 0, .long 0, .long 0, .long 0, .ref 507, .int 0, .int 0, .int 0]), .inr (1, [.ref 508, .int 0, .int 0]), .inl (0, 24, .inr (.inr (.inl rm_z))), .inr (8, [.int 0, .int 0, .long 0, .long 0, .long 0, .long 0, .ref 510, .int 0, .int 0, .int 0]), .inr (1, [.ref 511, .int 0, .int 0]), .inl (0, 24, .inr (.inr (.inl rm_z))), .inr (8, [.int 0, .int 0, .long 0, .long 0, .long 0, .long 0, .ref 513, .int 0, .int 0, .int 0]), .inr (1, [.ref 514, .int 0, .int 0]), .inl (0, 24, .inr (.inr (.inl rm_z))), .inr (8, [.int 0, .int 0, .long 0, .long 0, .long 0, .long 0, .ref 516, .int 0, .int 0, .int 0]), .inr (1, [.ref 517, .int 0, .int 0]), .inl (0, 24, .inr (.inr (.inl rm_z))), .inr (8, [.int 0, .int 0, .long 0, .long 0, .long 0, .long 0, .ref 519, .int 0, .int 0, .int 0]), .inr (1, [.ref 520, .int 0, .int 0])]
def rm_h1_13 : rm_H := [.inl (0, 24, .inr (.inr (.inl rm_z))), .inr (8, [.int 0, .int 0, .long 0, .long 0, .long 0, .long 0, .ref 522, .int 0, .int 0, .int 0]), .inr (1, [.ref 523, .int 0, .int 0]), .inl (0, 24, .inr (.inr (.inl rm_z))), .inr (8, [.int 0, .int 0, .long 0, .long 0, .long 0, .long 0, .ref 525, .int 0, .int 0, .int 0]), .inr (1, [.ref 526, .int 0, .int 0]), .inl (0, 24, .inr (.inr (.inl rm_z))), .inr (8, [.int 0, .int 0, .long 0, .long 0, .long 0, .long 0, .ref 528, .int 0, .int 0, .int 0]), .inr (1, [.ref 529, .int 0, .int 0]), .inl (0, 24, .inr (.inr (.inl rm_z))), .inr (8, [.int 0, .int 0, .long 0, .long 0, .long 0, .long 0, .ref 531, .int 0, .int 0, .int 0]), .inr (1, [.ref 532, .int 0, .int 0]), .inl (0, 24, .inr (.inr (.inl rm_z))), .inr (8, [.int 0, .int 0, .long 0, .long 0, .long 0, .long 0, .ref 534, .int 0, .int 0, .int 0]), .inr (1, [.ref 535, .int 0, .int 0]), .inl (0, 24, .inr (.inr (.inl rm_z))), .inr (8, [.int 0, .int 0, .long 0, .long 0, .long 0, .long 0, .ref 537, .int 0, .int 0, .int 0]), .inr (1, [.ref 538, .int 0, .int 0]), .inl (0, 24, .inr (.inr (.inl rm_z))), .inr (8, [.int 0, .int 0, .long 0, .long 0, .long 0, .long 0, .ref 540, .int 0, .int 0, .int 0]), .inr (1, [.ref 541, .int 0, .int 0]), .inl (0, 24, .inr (.inr (.inl rm_z))), .inr (8, [.int 0, .int 0, .long 0, .long 0, .long 0, .long 0, .ref 543, .int 0, .int 0, .int 0]), .inr (1, [.ref 544, .int 0, .int 0]), .inl (0, 24, .inr (.inr (.inl rm_z))), .inr (8, [.int 0, .int 0, .long 0, .long 0, .long 0, .long 0, .ref 546, .int 0, .int 0, .int 0]), .inr (1, [.ref 547, .int 0, .int 0]), .inl (0, 24, .inr (.inr (.inl rm_z))), .inr (8, [.int 0, .int 0, .long 0, .long 0, .long 0, .long 0, .ref 549, .int 0, .int 0, .int 0]), .inr (1, [.ref 550, .int 0, .int 0]), .inl (0, 24, .inr (.inr (.inl rm_z))), .inr (6, [.int (-1), .ref 552]), .inl (1, 9, .inr (.inr (.inl rm_z))), .inr (1, [.ref 554, .int 1, .int 1]), .inl (0, 2, .inr (.inr (.inl rm_z))), .inr (1, [.ref 556, .int 0, .int 0]), .inl (0, 24, .inr (.inr (.inl rm_z))), .inr (1, [.ref 558, .int 0, .int 0]), .inl (0, 24, .inr (.inr (.inl rm_z))), .inr (1, [.ref 560, .int 0, .int 0])]
def rm_h1_14 : rm_H := [.inl (0, 24, .inr (.inr (.inl rm_z))), .inr (1, [.ref 562, .int 0, .int 0]), .inl (0, 24, .inr (.inr (.inl rm_z))), .inr (1, [.ref 564, .int 0, .int 0]), .inl (0, 196, .inr (.inr (.inl rm_z))), .inr (1, [.ref 566, .int 0, .int 0]), .inl (0, 196, .inr (.inr (.inl rm_z))), .inr (1, [.ref 568, .int 0, .int 0]), .inl (0, 24, .inr (.inr (.inl rm_z))), .inr (1, [.ref 570, .int 0, .int 0]), .inl (0, 196, .inr (.inr (.inl rm_z))), .inr (1, [.ref 572, .int 0, .int 0]), .inl (0, 196, .inr (.inr (.inl rm_z))), .inr (1, [.ref 574, .int 0, .int 0]), .inl (0, 196, .inr (.inr (.inl rm_z))), .inr (1, [.ref 576, .int 0, .int 0]), .inl (0, 196, .inr (.inr (.inl rm_z))), .inl (0, 80, .inr (.inr (.inl rm_z))), .inl (3, 1610, .inr (.inr (.inl rm_z))), .inl (4, 161, .inr (.inr (.inl rm_z))), .inl (1, 161, .inr (.inr (.inl rm_z))), .inl (0, 161, .inr (.inr (.inl rm_z))), .inr (10, [.ref 583, .int 0, .int 0, .int (-2), .int 0, .int 0, .int 0, .ref 584, .ref 585, .ref 586, .int 0, .ref 587, .int 0, .ref 588, .ref 589, .ref 590, .ref 591, .ref 592, .ref 593, .ref 594, .ref 595, .int 0, .ref 596, .ref 597, .int 0, .int 0, .ref 598, .ref 599, .int 0, .int 0, .ref 600, .ref 601, .int 0, .int 0, .int 0, .ref 602, .int 0, .ref 603, .ref 604, .ref 605, .ref 606, .int 0, .ref 607, .ref 608, .ref 609, .ref 610, .ref 611, .ref 612, .ref 613, .ref 614, .ref 615, .ref 616, .int 0, .ref 617, .ref 618]), .inl (0, 400, .inr (.inr (.inl rm_z))), .inl (1, 90, .inr (.inr (.inl rm_z))), .inl (0, 10, .inr (.inr (.inl rm_z))), .inl (0, 500, .inr (.inr (.inl rm_z))), .inl (0, 500, .inr (.inr (.inl rm_z))), .inl (4, 400, .inr (.inr (.inl rm_z))), .inl (1, 108, .inr (.inr (.inl rm_z))), .inl (1, 108, .inr (.inr (.inl rm_z))), .inl (1, 108, .inr (.inr (.inl rm_z))), .inl (1, 9, .inr (.inr (.inl rm_z))), .inl (0, 12, .inr (.inr (.inl rm_z))), .inl (0, 12, .inr (.inr (.inl rm_z))), .inl (0, 12, .inr (.inr (.inl rm_z))), .inl (1, 9, .inr (.inr (.inl rm_z))), .inl (0, 700000, .inr (.inr (.inl rm_z))), .inl (0, 1200, .inr (.inr (.inl rm_z))), .inl (0, 10800, .inr (.inr (.inl rm_z)))]
def rm_h1_15 : rm_H := [.inl (0, 12, .inr (.inr (.inl rm_z))), .inl (0, 20000, .inr (.inr (.inl rm_z))), .inl (0, 200, .inr (.inr (.inl rm_z))), .inl (0, 90, .inr (.inr (.inl rm_z))), .inl (0, 90, .inr (.inr (.inl rm_z))), .inl (0, 90, .inr (.inr (.inl rm_z))), .inl (0, 2000, .inr (.inr (.inl rm_z))), .inl (0, 90, .inr (.inr (.inl rm_z))), .inl (1, 90, .inr (.inr (.inl rm_z))), .inl (1, 90, .inr (.inr (.inl rm_z))), .inl (0, 90, .inr (.inr (.inl rm_z))), .inl (0, 90, .inr (.inr (.inl rm_z))), .inl (0, 90, .inr (.inr (.inl rm_z))), .inl (0, 90, .inr (.inr (.inl rm_z))), .inl (0, 90, .inr (.inr (.inl rm_z))), .inl (0, 800, .inr (.inr (.inl rm_z))), .inl (0, 800, .inr (.inr (.inl rm_z))), .inl (0, 2000, .inr (.inr (.inl rm_z))), .inl (4, 200, .inr (.inr (.inl rm_z)))]
def rm_h1 : rm_H := rm_h1_0 ++ (rm_h1_1 ++ (rm_h1_2 ++ (rm_h1_3 ++ (rm_h1_4 ++ (rm_h1_5 ++ (rm_h1_6 ++ (rm_h1_7 ++ (rm_h1_8 ++ (rm_h1_9 ++ (rm_h1_10 ++ (rm_h1_11 ++ (rm_h1_12 ++ (rm_h1_13 ++ (rm_h1_14 ++ (rm_h1_15)))))))))))))))
def rm_lv1 : rm_L := [(3, .int 0), (2, .ref 582), (1, .ref 0), (0, .retAddr 0)]
def rm_nc : Nat := 619
def rm_ns : Nat := 752415
/-- a case: intervals of named numbers, what follows for the branches -/
abbrev rm_Cs : Type := List (Nat × Int × Int) × rm_F
def rm_cs_o4 : rm_Cs := ([(4, 4, 4)], [(4, 4, 0, true)])
def rm_cs_o5 : rm_Cs := ([(4, 5, 5)], [(4, 5, 0, true)])
def rm_cs_o6 : rm_Cs := ([(4, 6, 6)], [(4, 6, 0, true)])
def rm_cs_o7 : rm_Cs := ([(4, 7, 7)], [(4, 7, 0, true)])
def rm_cs_o8 : rm_Cs := ([(4, 8, 8)], [(4, 8, 0, true)])
def rm_cs_o9 : rm_Cs := ([(4, 9, 9)], [(4, 9, 0, true)])
def rm_cs_o10 : rm_Cs := ([(4, 10, 10)], [(4, 10, 0, true)])
def rm_cs_o11 : rm_Cs := ([(4, 11, 11)], [(4, 11, 0, true)])
def rm_cs_o12 : rm_Cs := ([(4, 12, 12)], [(4, 12, 0, true)])
def rm_cs_o14 : rm_Cs := ([(4, 14, 14)], [(4, 14, 0, true)])
def rm_cs_o15 : rm_Cs := ([(4, 15, 15)], [(4, 15, 0, true)])
def rm_cs_o2 : rm_Cs := ([(4, 2, 2)], [(4, 2, 0, true)])
def rm_cs_t0 : rm_Cs := ([(4, 0, 0), (1, -2147483648, 31)], [(4, 0, 0, true), (1, 32, 2, true)])
def rm_cs_t1 : rm_Cs := ([(4, 0, 0), (1, 32, 126)], [(4, 0, 0, true), (1, 32, 2, false), (1, 126, 4, false)])
def rm_cs_t2 : rm_Cs := ([(4, 0, 0), (1, 127, 2147483647)], [(4, 0, 0, true), (1, 32, 2, false), (1, 126, 4, true)])
def rm_cs_c0 : rm_Cs := ([(4, 3, 3), (1, -2147483648, -1)], [(4, 3, 0, true), (1, 0, 1, true), (1, 1, 1, true), (1, 2, 1, true), (1, 0, 2, true)])
def rm_cs_c1 : rm_Cs := ([(4, 3, 3), (1, 0, 0)], [(4, 3, 0, true), (1, 0, 1, false), (1, 0, 2, false), (1, 5, 4, false), (1, 2, 5, true)])
def rm_cs_c2 : rm_Cs := ([(4, 3, 3), (1, 1, 1)], [(4, 3, 0, true), (1, 0, 1, true), (1, 1, 1, false), (1, 0, 2, false), (1, 5, 4, false), (1, 2, 5, true)])
def rm_cs_c3 : rm_Cs := ([(4, 3, 3), (1, 2, 2)], [(4, 3, 0, true), (1, 0, 1, true), (1, 1, 1, true), (1, 2, 1, false), (1, 0, 2, false), (1, 5, 4, false), (1, 2, 5, true)])
def rm_cs_c4 : rm_Cs := ([(4, 3, 3), (1, 3, 5)], [(4, 3, 0, true), (1, 0, 1, true), (1, 1, 1, true), (1, 2, 1, true), (1, 0, 2, false), (1, 5, 4, false), (1, 2, 5, false)])
def rm_cs_c5 : rm_Cs := ([(4, 3, 3), (1, 6, 2147483647)], [(4, 3, 0, true), (1, 0, 1, true), (1, 1, 1, true), (1, 2, 1, true), (1, 0, 2, false), (1, 5, 4, true)])
def rm_cs_e0 : rm_Cs := ([(4, 13, 13), (2, -2147483648, 0)], [(4, 13, 0, true), (2, 1, 2, true)])
def rm_cs_e1 : rm_Cs := ([(4, 13, 13), (2, 1000000001, 2147483647)], [(4, 13, 0, true), (2, 1, 2, false), (2, 1000000000, 4, true)])
def rm_cs_e2 : rm_Cs := ([(4, 13, 13), (2, 1, 1000000000), (1, -2147483648, -1000000001)], [(4, 13, 0, true), (2, 1, 2, false), (2, 1000000000, 4, false), (1, -1000000000, 2, true)])
def rm_cs_e3 : rm_Cs := ([(4, 13, 13), (2, 1, 1000000000), (1, 1000000001, 2147483647)], [(4, 13, 0, true), (2, 1, 2, false), (2, 1000000000, 4, false), (1, -1000000000, 2, false), (1, 1000000000, 4, true)])
def rm_cs_e4 : rm_Cs := ([(4, 13, 13), (2, 1, 1000000000), (1, -1000000000, 1000000000)], [(4, 13, 0, true), (2, 1, 2, false), (2, 1000000000, 4, false), (1, -1000000000, 2, false), (1, 1000000000, 4, false)])
def rm_cs_f_l : rm_Cs := ([(4, 1, 1), (33, 1, 31)], [(4, 1, 0, true), (33, 0, 0, false), (33, 32, 2, true)])
def rm_cs_f_h : rm_Cs := ([(4, 1, 1), (33, 127, 255)], [(4, 1, 0, true), (33, 0, 0, false), (33, 32, 2, false), (33, 126, 4, true)])
def rm_cs_f_zl : rm_Cs := ([(4, 1, 1), (33, 0, 0), (32, 1, 31)], [(4, 1, 0, true), (33, 0, 0, true), (32, 0, 0, false), (32, 32, 2, true), (33, 0, 1, false)])
def rm_cs_f_zh : rm_Cs := ([(4, 1, 1), (33, 0, 0), (32, 127, 255)], [(4, 1, 0, true), (33, 0, 0, true), (32, 0, 0, false), (32, 32, 2, false), (32, 126, 4, true), (33, 0, 1, false)])
def rm_cs_f_zzl : rm_Cs := ([(4, 1, 1), (33, 0, 0), (32, 0, 0), (31, 1, 31)], [(4, 1, 0, true), (33, 0, 0, true), (32, 0, 0, true), (31, 0, 0, false), (31, 32, 2, true), (33, 0, 1, false), (32, 0, 1, false)])
def rm_cs_f_zzh : rm_Cs := ([(4, 1, 1), (33, 0, 0), (32, 0, 0), (31, 127, 255)], [(4, 1, 0, true), (33, 0, 0, true), (32, 0, 0, true), (31, 0, 0, false), (31, 32, 2, false), (31, 126, 4, true), (33, 0, 1, false), (32, 0, 1, false)])
def rm_cs_f_zzzl : rm_Cs := ([(4, 1, 1), (33, 0, 0), (32, 0, 0), (31, 0, 0), (30, 1, 31)], [(4, 1, 0, true), (33, 0, 0, true), (32, 0, 0, true), (31, 0, 0, true), (30, 0, 0, false), (30, 32, 2, true), (33, 0, 1, false), (32, 0, 1, false), (31, 0, 1, false)])
def rm_cs_f_zzzh : rm_Cs := ([(4, 1, 1), (33, 0, 0), (32, 0, 0), (31, 0, 0), (30, 127, 255)], [(4, 1, 0, true), (33, 0, 0, true), (32, 0, 0, true), (31, 0, 0, true), (30, 0, 0, false), (30, 32, 2, false), (30, 126, 4, true), (33, 0, 1, false), (32, 0, 1, false), (31, 0, 1, false)])
def rm_cs_f_zzzz : rm_Cs := ([(4, 1, 1), (33, 0, 0), (32, 0, 0), (31, 0, 0), (30, 0, 0)], [(4, 1, 0, true), (33, 0, 0, true), (32, 0, 0, true), (31, 0, 0, true), (30, 0, 0, true), (33, 0, 1, false), (32, 0, 1, false), (31, 0, 1, false), (30, 0, 1, false)])
def rm_cs_f_zzzg : rm_Cs := ([(4, 1, 1), (33, 0, 0), (32, 0, 0), (31, 0, 0), (30, 32, 126)], [(4, 1, 0, true), (33, 0, 0, true), (32, 0, 0, true), (31, 0, 0, true), (30, 0, 0, false), (30, 32, 2, false), (30, 126, 4, false), (33, 0, 1, false), (32, 0, 1, false), (31, 0, 1, false), (30, 0, 1, true)])
def rm_cs_f_zzgl : rm_Cs := ([(4, 1, 1), (33, 0, 0), (32, 0, 0), (31, 32, 126), (30, 1, 31)], [(4, 1, 0, true), (33, 0, 0, true), (32, 0, 0, true), (31, 0, 0, false), (31, 32, 2, false), (31, 126, 4, false), (30, 0, 0, false), (30, 32, 2, true), (33, 0, 1, false), (32, 0, 1, false), (31, 0, 1, true)])
def rm_cs_f_zzgh : rm_Cs := ([(4, 1, 1), (33, 0, 0), (32, 0, 0), (31, 32, 126), (30, 127, 255)], [(4, 1, 0, true), (33, 0, 0, true), (32, 0, 0, true), (31, 0, 0, false), (31, 32, 2, false), (31, 126, 4, false), (30, 0, 0, false), (30, 32, 2, false), (30, 126, 4, true), (33, 0, 1, false), (32, 0, 1, false), (31, 0, 1, true)])
def rm_cs_f_zzgz : rm_Cs := ([(4, 1, 1), (33, 0, 0), (32, 0, 0), (31, 32, 126), (30, 0, 0)], [(4, 1, 0, true), (33, 0, 0, true), (32, 0, 0, true), (31, 0, 0, false), (31, 32, 2, false), (31, 126, 4, false), (30, 0, 0, true), (33, 0, 1, false), (32, 0, 1, false), (31, 0, 1, true), (30, 0, 1, false)])
def rm_cs_f_zzgg : rm_Cs := ([(4, 1, 1), (33, 0, 0), (32, 0, 0), (31, 32, 126), (30, 32, 126)], [(4, 1, 0, true), (33, 0, 0, true), (32, 0, 0, true), (31, 0, 0, false), (31, 32, 2, false), (31, 126, 4, false), (30, 0, 0, false), (30, 32, 2, false), (30, 126, 4, false), (33, 0, 1, false), (32, 0, 1, false), (31, 0, 1, true), (30, 0, 1, true)])
def rm_cs_f_zgl : rm_Cs := ([(4, 1, 1), (33, 0, 0), (32, 32, 126), (31, 1, 31)], [(4, 1, 0, true), (33, 0, 0, true), (32, 0, 0, false), (32, 32, 2, false), (32, 126, 4, false), (31, 0, 0, false), (31, 32, 2, true), (33, 0, 1, false), (32, 0, 1, true)])
def rm_cs_f_zgh : rm_Cs := ([(4, 1, 1), (33, 0, 0), (32, 32, 126), (31, 127, 255)], [(4, 1, 0, true), (33, 0, 0, true), (32, 0, 0, false), (32, 32, 2, false), (32, 126, 4, false), (31, 0, 0, false), (31, 32, 2, false), (31, 126, 4, true), (33, 0, 1, false), (32, 0, 1, true)])
def rm_cs_f_zgzl : rm_Cs := ([(4, 1, 1), (33, 0, 0), (32, 32, 126), (31, 0, 0), (30, 1, 31)], [(4, 1, 0, true), (33, 0, 0, true), (32, 0, 0, false), (32, 32, 2, false), (32, 126, 4, false), (31, 0, 0, true), (30, 0, 0, false), (30, 32, 2, true), (33, 0, 1, false), (32, 0, 1, true), (31, 0, 1, false)])
def rm_cs_f_zgzh : rm_Cs := ([(4, 1, 1), (33, 0, 0), (32, 32, 126), (31, 0, 0), (30, 127, 255)], [(4, 1, 0, true), (33, 0, 0, true), (32, 0, 0, false), (32, 32, 2, false), (32, 126, 4, false), (31, 0, 0, true), (30, 0, 0, false), (30, 32, 2, false), (30, 126, 4, true), (33, 0, 1, false), (32, 0, 1, true), (31, 0, 1, false)])
def rm_cs_f_zgzz : rm_Cs := ([(4, 1, 1), (33, 0, 0), (32, 32, 126), (31, 0, 0), (30, 0, 0)], [(4, 1, 0, true), (33, 0, 0, true), (32, 0, 0, false), (32, 32, 2, false), (32, 126, 4, false), (31, 0, 0, true), (30, 0, 0, true), (33, 0, 1, false), (32, 0, 1, true), (31, 0, 1, false), (30, 0, 1, false)])
def rm_cs_f_zgzg : rm_Cs := ([(4, 1, 1), (33, 0, 0), (32, 32, 126), (31, 0, 0), (30, 32, 126)], [(4, 1, 0, true), (33, 0, 0, true), (32, 0, 0, false), (32, 32, 2, false), (32, 126, 4, false), (31, 0, 0, true), (30, 0, 0, false), (30, 32, 2, false), (30, 126, 4, false), (33, 0, 1, false), (32, 0, 1, true), (31, 0, 1, false), (30, 0, 1, true)])
def rm_cs_f_zggl : rm_Cs := ([(4, 1, 1), (33, 0, 0), (32, 32, 126), (31, 32, 126), (30, 1, 31)], [(4, 1, 0, true), (33, 0, 0, true), (32, 0, 0, false), (32, 32, 2, false), (32, 126, 4, false), (31, 0, 0, false), (31, 32, 2, false), (31, 126, 4, false), (30, 0, 0, false), (30, 32, 2, true), (33, 0, 1, false), (32, 0, 1, true), (31, 0, 1, true)])
def rm_cs_f_zggh : rm_Cs := ([(4, 1, 1), (33, 0, 0), (32, 32, 126), (31, 32, 126), (30, 127, 255)], [(4, 1, 0, true), (33, 0, 0, true), (32, 0, 0, false), (32, 32, 2, false), (32, 126, 4, false), (31, 0, 0, false), (31, 32, 2, false), (31, 126, 4, false), (30, 0, 0, false), (30, 32, 2, false), (30, 126, 4, true), (33, 0, 1, false), (32, 0, 1, true), (31, 0, 1, true)])
def rm_cs_f_zggz : rm_Cs := ([(4, 1, 1), (33, 0, 0), (32, 32, 126), (31, 32, 126), (30, 0, 0)], [(4, 1, 0, true), (33, 0, 0, true), (32, 0, 0, false), (32, 32, 2, false), (32, 126, 4, false), (31, 0, 0, false), (31, 32, 2, false), (31, 126, 4, false), (30, 0, 0, true), (33, 0, 1, false), (32, 0, 1, true), (31, 0, 1, true), (30, 0, 1, false)])
def rm_cs_f_zggg : rm_Cs := ([(4, 1, 1), (33, 0, 0), (32, 32, 126), (31, 32, 126), (30, 32, 126)], [(4, 1, 0, true), (33, 0, 0, true), (32, 0, 0, false), (32, 32, 2, false), (32, 126, 4, false), (31, 0, 0, false), (31, 32, 2, false), (31, 126, 4, false), (30, 0, 0, false), (30, 32, 2, false), (30, 126, 4, false), (33, 0, 1, false), (32, 0, 1, true), (31, 0, 1, true), (30, 0, 1, true)])
def rm_cs_f_gl : rm_Cs := ([(4, 1, 1), (33, 32, 126), (32, 1, 31)], [(4, 1, 0, true), (33, 0, 0, false), (33, 32, 2, false), (33, 126, 4, false), (32, 0, 0, false), (32, 32, 2, true), (33, 0, 1, true)])
def rm_cs_f_gh : rm_Cs := ([(4, 1, 1), (33, 32, 126), (32, 127, 255)], [(4, 1, 0, true), (33, 0, 0, false), (33, 32, 2, false), (33, 126, 4, false), (32, 0, 0, false), (32, 32, 2, false), (32, 126, 4, true), (33, 0, 1, true)])
def rm_cs_f_gzl : rm_Cs := ([(4, 1, 1), (33, 32, 126), (32, 0, 0), (31, 1, 31)], [(4, 1, 0, true), (33, 0, 0, false), (33, 32, 2, false), (33, 126, 4, false), (32, 0, 0, true), (31, 0, 0, false), (31, 32, 2, true), (33, 0, 1, true), (32, 0, 1, false)])
def rm_cs_f_gzh : rm_Cs := ([(4, 1, 1), (33, 32, 126), (32, 0, 0), (31, 127, 255)], [(4, 1, 0, true), (33, 0, 0, false), (33, 32, 2, false), (33, 126, 4, false), (32, 0, 0, true), (31, 0, 0, false), (31, 32, 2, false), (31, 126, 4, true), (33, 0, 1, true), (32, 0, 1, false)])
def rm_cs_f_gzzl : rm_Cs := ([(4, 1, 1), (33, 32, 126), (32, 0, 0), (31, 0, 0), (30, 1, 31)], [(4, 1, 0, true), (33, 0, 0, false), (33, 32, 2, false), (33, 126, 4, false), (32, 0, 0, true), (31, 0, 0, true), (30, 0, 0, false), (30, 32, 2, true), (33, 0, 1, true), (32, 0, 1, false), (31, 0, 1, false)])
def rm_cs_f_gzzh : rm_Cs := ([(4, 1, 1), (33, 32, 126), (32, 0, 0), (31, 0, 0), (30, 127, 255)], [(4, 1, 0, true), (33, 0, 0, false), (33, 32, 2, false), (33, 126, 4, false), (32, 0, 0, true), (31, 0, 0, true), (30, 0, 0, false), (30, 32, 2, false), (30, 126, 4, true), (33, 0, 1, true), (32, 0, 1, false), (31, 0, 1, false)])
def rm_cs_f_gzzz : rm_Cs := ([(4, 1, 1), (33, 32, 126), (32, 0, 0), (31, 0, 0), (30, 0, 0)], [(4, 1, 0, true), (33, 0, 0, false), (33, 32, 2, false), (33, 126, 4, false), (32, 0, 0, true), (31, 0, 0, true), (30, 0, 0, true), (33, 0, 1, true), (32, 0, 1, false), (31, 0, 1, false), (30, 0, 1, false)])
def rm_cs_f_gzzg : rm_Cs := ([(4, 1, 1), (33, 32, 126), (32, 0, 0), (31, 0, 0), (30, 32, 126)], [(4, 1, 0, true), (33, 0, 0, false), (33, 32, 2, false), (33, 126, 4, false), (32, 0, 0, true), (31, 0, 0, true), (30, 0, 0, false), (30, 32, 2, false), (30, 126, 4, false), (33, 0, 1, true), (32, 0, 1, false), (31, 0, 1, false), (30, 0, 1, true)])
def rm_cs_f_gzgl : rm_Cs := ([(4, 1, 1), (33, 32, 126), (32, 0, 0), (31, 32, 126), (30, 1, 31)], [(4, 1, 0, true), (33, 0, 0, false), (33, 32, 2, false), (33, 126, 4, false), (32, 0, 0, true), (31, 0, 0, false), (31, 32, 2, false), (31, 126, 4, false), (30, 0, 0, false), (30, 32, 2, true), (33, 0, 1, true), (32, 0, 1, false), (31, 0, 1, true)])
def rm_cs_f_gzgh : rm_Cs := ([(4, 1, 1), (33, 32, 126), (32, 0, 0), (31, 32, 126), (30, 127, 255)], [(4, 1, 0, true), (33, 0, 0, false), (33, 32, 2, false), (33, 126, 4, false), (32, 0, 0, true), (31, 0, 0, false), (31, 32, 2, false), (31, 126, 4, false), (30, 0, 0, false), (30, 32, 2, false), (30, 126, 4, true), (33, 0, 1, true), (32, 0, 1, false), (31, 0, 1, true)])
def rm_cs_f_gzgz : rm_Cs := ([(4, 1, 1), (33, 32, 126), (32, 0, 0), (31, 32, 126), (30, 0, 0)], [(4, 1, 0, true), (33, 0, 0, false), (33, 32, 2, false), (33, 126, 4, false), (32, 0, 0, true), (31, 0, 0, false), (31, 32, 2, false), (31, 126, 4, false), (30, 0, 0, true), (33, 0, 1, true), (32, 0, 1, false), (31, 0, 1, true), (30, 0, 1, false)])
def rm_cs_f_gzgg : rm_Cs := ([(4, 1, 1), (33, 32, 126), (32, 0, 0), (31, 32, 126), (30, 32, 126)], [(4, 1, 0, true), (33, 0, 0, false), (33, 32, 2, false), (33, 126, 4, false), (32, 0, 0, true), (31, 0, 0, false), (31, 32, 2, false), (31, 126, 4, false), (30, 0, 0, false), (30, 32, 2, false), (30, 126, 4, false), (33, 0, 1, true), (32, 0, 1, false), (31, 0, 1, true), (30, 0, 1, true)])
def rm_cs_f_ggl : rm_Cs := ([(4, 1, 1), (33, 32, 126), (32, 32, 126), (31, 1, 31)], [(4, 1, 0, true), (33, 0, 0, false), (33, 32, 2, false), (33, 126, 4, false), (32, 0, 0, false), (32, 32, 2, false), (32, 126, 4, false), (31, 0, 0, false), (31, 32, 2, true), (33, 0, 1, true), (32, 0, 1, true)])
def rm_cs_f_ggh : rm_Cs := ([(4, 1, 1), (33, 32, 126), (32, 32, 126), (31, 127, 255)], [(4, 1, 0, true), (33, 0, 0, false), (33, 32, 2, false), (33, 126, 4, false), (32, 0, 0, false), (32, 32, 2, false), (32, 126, 4, false), (31, 0, 0, false), (31, 32, 2, false), (31, 126, 4, true), (33, 0, 1, true), (32, 0, 1, true)])
def rm_cs_f_ggzl : rm_Cs := ([(4, 1, 1), (33, 32, 126), (32, 32, 126), (31, 0, 0), (30, 1, 31)], [(4, 1, 0, true), (33, 0, 0, false), (33, 32, 2, false), (33, 126, 4, false), (32, 0, 0, false), (32, 32, 2, false), (32, 126, 4, false), (31, 0, 0, true), (30, 0, 0, false), (30, 32, 2, true), (33, 0, 1, true), (32, 0, 1, true), (31, 0, 1, false)])
def rm_cs_f_ggzh : rm_Cs := ([(4, 1, 1), (33, 32, 126), (32, 32, 126), (31, 0, 0), (30, 127, 255)], [(4, 1, 0, true), (33, 0, 0, false), (33, 32, 2, false), (33, 126, 4, false), (32, 0, 0, false), (32, 32, 2, false), (32, 126, 4, false), (31, 0, 0, true), (30, 0, 0, false), (30, 32, 2, false), (30, 126, 4, true), (33, 0, 1, true), (32, 0, 1, true), (31, 0, 1, false)])
def rm_cs_f_ggzz : rm_Cs := ([(4, 1, 1), (33, 32, 126), (32, 32, 126), (31, 0, 0), (30, 0, 0)], [(4, 1, 0, true), (33, 0, 0, false), (33, 32, 2, false), (33, 126, 4, false), (32, 0, 0, false), (32, 32, 2, false), (32, 126, 4, false), (31, 0, 0, true), (30, 0, 0, true), (33, 0, 1, true), (32, 0, 1, true), (31, 0, 1, false), (30, 0, 1, false)])
def rm_cs_f_ggzg : rm_Cs := ([(4, 1, 1), (33, 32, 126), (32, 32, 126), (31, 0, 0), (30, 32, 126)], [(4, 1, 0, true), (33, 0, 0, false), (33, 32, 2, false), (33, 126, 4, false), (32, 0, 0, false), (32, 32, 2, false), (32, 126, 4, false), (31, 0, 0, true), (30, 0, 0, false), (30, 32, 2, false), (30, 126, 4, false), (33, 0, 1, true), (32, 0, 1, true), (31, 0, 1, false), (30, 0, 1, true)])
def rm_cs_f_gggl : rm_Cs := ([(4, 1, 1), (33, 32, 126), (32, 32, 126), (31, 32, 126), (30, 1, 31)], [(4, 1, 0, true), (33, 0, 0, false), (33, 32, 2, false), (33, 126, 4, false), (32, 0, 0, false), (32, 32, 2, false), (32, 126, 4, false), (31, 0, 0, false), (31, 32, 2, false), (31, 126, 4, false), (30, 0, 0, false), (30, 32, 2, true), (33, 0, 1, true), (32, 0, 1, true), (31, 0, 1, true)])
def rm_cs_f_gggh : rm_Cs := ([(4, 1, 1), (33, 32, 126), (32, 32, 126), (31, 32, 126), (30, 127, 255)], [(4, 1, 0, true), (33, 0, 0, false), (33, 32, 2, false), (33, 126, 4, false), (32, 0, 0, false), (32, 32, 2, false), (32, 126, 4, false), (31, 0, 0, false), (31, 32, 2, false), (31, 126, 4, false), (30, 0, 0, false), (30, 32, 2, false), (30, 126, 4, true), (33, 0, 1, true), (32, 0, 1, true), (31, 0, 1, true)])
def rm_cs_f_gggz : rm_Cs := ([(4, 1, 1), (33, 32, 126), (32, 32, 126), (31, 32, 126), (30, 0, 0)], [(4, 1, 0, true), (33, 0, 0, false), (33, 32, 2, false), (33, 126, 4, false), (32, 0, 0, false), (32, 32, 2, false), (32, 126, 4, false), (31, 0, 0, false), (31, 32, 2, false), (31, 126, 4, false), (30, 0, 0, true), (33, 0, 1, true), (32, 0, 1, true), (31, 0, 1, true), (30, 0, 1, false)])
def rm_cs_f_gggg : rm_Cs := ([(4, 1, 1), (33, 32, 126), (32, 32, 126), (31, 32, 126), (30, 32, 126)], [(4, 1, 0, true), (33, 0, 0, false), (33, 32, 2, false), (33, 126, 4, false), (32, 0, 0, false), (32, 32, 2, false), (32, 126, 4, false), (31, 0, 0, false), (31, 32, 2, false), (31, 126, 4, false), (30, 0, 0, false), (30, 32, 2, false), (30, 126, 4, false), (33, 0, 1, true), (32, 0, 1, true), (31, 0, 1, true), (30, 0, 1, true)])
end
section
/-! NAMED NUMBERS: what they are; intervals decide the branches -/
def bt (x : Int32) (i : Nat) : Bool := x.toBitVec.getLsbD i
theorem b_ext {x y : Int32} (h : ∀ i, i < 32 → bt x i = bt y i) : x = y := Int32.toBitVec_inj.mp (BitVec.eq_of_getLsbD_eq (fun i hi => h i hi))
theorem b_and (x y : Int32) (i : Nat) : bt (x &&& y) i = (bt x i && bt y i) := by unfold bt; rw [Int32.toBitVec_and, BitVec.getLsbD_and]
theorem b_big {x : Int32} {i : Nat} (h : 32 ≤ i) : bt x i = false := BitVec.getLsbD_of_ge _ _ h
theorem b_255 (i : Nat) : bt 255 i = decide (i < 8) := by
  rcases Nat.lt_or_ge i 32 with h | h
  · exact (by decide +kernel : ∀ i, i < 32 → bt 255 i = decide (i < 8)) i h
  · rw [b_big h, decide_eq_false (by omega)]
theorem s_l : ∀ n, n < 32 → ((nI n &&& 31).toBitVec.smod 32).toNat = n := by decide +kernel
theorem s_u : ∀ n, n < 32 → (((nI n).toUInt32 &&& Int32.toUInt32 31).toBitVec % 32).toNat = n := by decide +kernel
theorem b_ushr (n : Nat) (hn : n < 32) (x : Int32) (i : Nat) : bt ((x.toUInt32 >>> ((nI n).toUInt32 &&& Int32.toUInt32 31)).toInt32) i = bt x (n + i) := by
  show (x.toUInt32 >>> ((nI n).toUInt32 &&& Int32.toUInt32 31)).toBitVec.getLsbD i = x.toUInt32.toBitVec.getLsbD (n + i)
  rw [UInt32.toBitVec_shiftRight]
  show (x.toUInt32.toBitVec >>> (((nI n).toUInt32 &&& Int32.toUInt32 31).toBitVec % 32).toNat).getLsbD i = _
  rw [s_u n hn, BitVec.getLsbD_ushiftRight]
theorem b_sshr (n : Nat) (hn : n < 32) (x : Int32) {i : Nat} (hi : i < 32) : bt (x >>> (nI n &&& 31)) i = if n + i < 32 then bt x (n + i) else bt x 31 := by
  unfold bt
  rw [Int32.toBitVec_shiftRight]
  show (x.toBitVec.sshiftRight ((nI n &&& 31).toBitVec.smod 32).toNat).getLsbD i = _
  rw [s_l n hn, BitVec.getLsbD_sshiftRight, BitVec.msb_eq_getLsbD_last]
  simp [hi]
theorem rm_sh255 (n : Nat) (hn : n ≤ 24) (x : Int32) : rm_fop 0 (rm_fop 2 x (nI n)) 255 = rm_fop 0 (rm_fop 1 x (nI n)) 255 := by
  apply b_ext
  intro i hi
  show bt ((x.toUInt32 >>> ((nI n).toUInt32 &&& Int32.toUInt32 31)).toInt32 &&& 255) i = bt ((x >>> (nI n &&& 31)) &&& 255) i
  rw [b_and, b_and, b_ushr n (by omega), b_sshr n (by omega) x hi, b_255]
  by_cases h8 : i < 8
  · rw [if_pos (by omega)]
  · simp [h8]
def rm_vals (xs : Nat → Int32) (k : Nat) : Int32 := match k with
  | 0 => xs 0
  | 1 => xs 1
  | 2 => xs 2
  | 3 => xs 3
  | 4 => rm_fop 0 (xs 0) 15
  | 10 => rm_fop 2 (xs 1) 0
  | 11 => rm_fop 2 (xs 1) 8
  | 12 => rm_fop 2 (xs 1) 16
  | 13 => rm_fop 2 (xs 1) 24
  | 20 => rm_fop 1 (xs 1) 0
  | 21 => rm_fop 1 (xs 1) 8
  | 22 => rm_fop 1 (xs 1) 16
  | 23 => rm_fop 1 (xs 1) 24
  | 30 => rm_fop 0 (rm_fop 2 (xs 1) 0) 255
  | 31 => rm_fop 0 (rm_fop 2 (xs 1) 8) 255
  | 32 => rm_fop 0 (rm_fop 2 (xs 1) 16) 255
  | 33 => rm_fop 0 (rm_fop 2 (xs 1) 24) 255
  | 50 => rm_fop 3 (xs 1) 0
  | 60 => rm_fop 3 (rm_fop 0 (rm_fop 2 (xs 1) 0) 255) 0
  | 61 => rm_fop 3 (rm_fop 0 (rm_fop 2 (xs 1) 8) 255) 0
  | 62 => rm_fop 3 (rm_fop 0 (rm_fop 2 (xs 1) 16) 255) 0
  | 63 => rm_fop 3 (rm_fop 0 (rm_fop 2 (xs 1) 24) 255) 0
  | _ => 0
theorem rm_fop3 (x y z : Int32) : rm_fop 3 x y = rm_fop 3 x z := rfl
theorem rm_sym_s (xs : Nat → Int32) (op k : Nat) (y : Int32) (j : Nat) (h : rm_sym op k y = some j) : j < 100 ∧ rm_vals xs j = rm_fop op (rm_vals xs k) y := by
  unfold rm_sym at h
  split at h
  · split at h
    · rename_i hk
      obtain ⟨rfl, rfl⟩ := hk
      cases h
      exact ⟨by decide, rfl⟩
    · split at h
      · rename_i hk
        obtain ⟨h1, h2, rfl⟩ := hk
        cases h
        refine ⟨by omega, ?_⟩
        rcases (show k = 10 ∨ k = 11 ∨ k = 12 ∨ k = 13 by omega) with rfl | rfl | rfl | rfl <;> rfl
      · split at h
        · rename_i hk
          obtain ⟨h1, h2, rfl⟩ := hk
          cases h
          refine ⟨by omega, ?_⟩
          rcases (show k = 20 ∨ k = 21 ∨ k = 22 ∨ k = 23 by omega) with rfl | rfl | rfl | rfl
          · exact rm_sh255 0 (by omega) (xs 1)
          · exact rm_sh255 8 (by omega) (xs 1)
          · exact rm_sh255 16 (by omega) (xs 1)
          · exact rm_sh255 24 (by omega) (xs 1)
        · cases h
  · split at h
    · rename_i hk
      subst hk
      split at h
      · rename_i hy; subst hy; cases h; exact ⟨by decide, rfl⟩
      · split at h
        · rename_i hy; subst hy; cases h; exact ⟨by decide, rfl⟩
        · split at h
          · rename_i hy; subst hy; cases h; exact ⟨by decide, rfl⟩
          · split at h
            · rename_i hy; subst hy; cases h; exact ⟨by decide, rfl⟩
            · cases h
    · cases h
  · split at h
    · rename_i hk
      subst hk
      split at h
      · rename_i hy; subst hy; cases h; exact ⟨by decide, rfl⟩
      · split at h
        · rename_i hy; subst hy; cases h; exact ⟨by decide, rfl⟩
        · split at h
          · rename_i hy; subst hy; cases h; exact ⟨by decide, rfl⟩
          · split at h
            · rename_i hy; subst hy; cases h; exact ⟨by decide, rfl⟩
            · cases h
    · cases h
  · split at h
    · rename_i hk
      subst hk
      cases h
      exact ⟨by decide, rfl⟩
    · split at h
      · rename_i hk
        cases h
        refine ⟨by omega, ?_⟩
        rcases (show k = 30 ∨ k = 31 ∨ k = 32 ∨ k = 33 by omega) with rfl | rfl | rfl | rfl <;> rfl
      · cases h
  · cases h
theorem rm_i32 (x : Int32) : Int32.ofNat x.toBitVec.toNat = x := by
  apply Int32.toBitVec_inj.mp
  show BitVec.ofNat 32 x.toBitVec.toNat = x.toBitVec
  simp
def rm_ext (b t v : Nat) (xs : Nat → Int32) : Nat → Nat := fun i => if i = 0 then b else if i = 2 then t else if i = 3 then v else (rm_vals xs (i - 100)).toBitVec.toNat
theorem rm_e_ext (b t v : Nat) (xs : Nat → Int32) (k : Nat) : rm_e (rm_ext b t v xs) k = rm_vals xs k := by
  unfold rm_e rm_ext
  rw [if_neg (by omega), if_neg (by omega), if_neg (by omega), Nat.add_sub_cancel_left]
  exact rm_i32 _
/-- an interval decides a condition -/
def rm_ivf : List (Nat × Int × Int) → Nat → Option (Int × Int)
  | [], _ => none
  | q :: r, k => if q.1 = k then some q.2 else rm_ivf r k
def rm_ivk (iv : List (Nat × Int × Int)) (f : Nat × Int32 × Nat × Bool) : Bool := match rm_ivf iv f.1 with
  | none => false
  | some (lo, hi) => match f.2.2.1, f.2.2.2 with
    | 0, true => decide (lo = f.2.1.toInt) && decide (hi = f.2.1.toInt)
    | 0, false => decide (f.2.1.toInt < lo) || decide (hi < f.2.1.toInt)
    | 1, true => decide (f.2.1.toInt < lo) || decide (hi < f.2.1.toInt)
    | 1, false => decide (lo = f.2.1.toInt) && decide (hi = f.2.1.toInt)
    | 2, true => decide (hi < f.2.1.toInt)
    | 2, false => decide (f.2.1.toInt ≤ lo)
    | 3, true => decide (f.2.1.toInt ≤ lo)
    | 3, false => decide (hi < f.2.1.toInt)
    | 4, true => decide (f.2.1.toInt < lo)
    | 4, false => decide (hi ≤ f.2.1.toInt)
    | 5, true => decide (hi ≤ f.2.1.toInt)
    | 5, false => decide (f.2.1.toInt < lo)
    | _, _ => false
theorem rm_ivf_s {ext : Nat → Nat} {iv : List (Nat × Int × Int)} (h : ∀ q ∈ iv, q.2.1 ≤ (rm_e ext q.1).toInt ∧ (rm_e ext q.1).toInt ≤ q.2.2) {k : Nat} {lo hi : Int} (e : rm_ivf iv k = some (lo, hi)) : lo ≤ (rm_e ext k).toInt ∧ (rm_e ext k).toInt ≤ hi := by
  induction iv with
  | nil => cases e
  | cons q r ih =>
    unfold rm_ivf at e
    split at e
    · rename_i hq
      have z := h q List.mem_cons_self
      rw [hq] at z
      have e := Option.some.inj e
      rw [e] at z
      exact z
    · exact ih (fun x hx => h x (List.mem_cons_of_mem _ hx)) e
theorem rm_ivk_s {ext : Nat → Nat} {iv : List (Nat × Int × Int)} (h : ∀ q ∈ iv, q.2.1 ≤ (rm_e ext q.1).toInt ∧ (rm_e ext q.1).toInt ≤ q.2.2) {f : Nat × Int32 × Nat × Bool} (hf : rm_ivk iv f = true) : ∀ cd : ClassFile.Cond, rm_cn cd = f.2.2.1 → rm_cnd cd (rm_e ext f.1) f.2.1 = f.2.2.2 := by
  intro cd hcd
  unfold rm_ivk at hf
  split at hf
  · cases hf
  · rename_i lo hi e
    obtain ⟨z1, z2⟩ := rm_ivf_s h e
    obtain ⟨k, y, n, b⟩ := f
    generalize rm_e ext k = x at z1 z2 ⊢
    dsimp only at hcd hf z1 z2 ⊢
    subst hcd
    have ne : ∀ u v : Int32, u.toInt ≠ v.toInt → ¬ u = v := fun u v h e => h (by rw [e])
    cases cd <;> cases b <;> simp only [rm_cn, Bool.and_eq_true, Bool.or_eq_true, decide_eq_true_eq] at hf <;> simp only [rm_cnd, decide_eq_true_eq, decide_eq_false_iff_not, Int32.lt_iff_toInt_lt, Int32.le_iff_toInt_le]
    · exact ne _ _ (by omega)
    · exact Int32.toInt_inj.mp (by omega)
    · exact fun z => z (Int32.toInt_inj.mp (by omega))
    · exact ne _ _ (by omega)
    all_goals omega
end
section
/-! THE RUNS -/
def rm_chk (o : Option rm_Re) : Bool := match o with
  | some (some (.int v), _, uc, us, _, ok) => decide (v = 1) && decide (uc ≤ 600000) && decide (us ≤ 7302250) && ok
  | _ => false
def rm_q0 : rm_N := (0, [(0, .retAddr 0)], [], [], 0, 0, [], true)
def rm_q1 : rm_N := (18, rm_lv1, [], rm_h1, rm_nc, rm_ns, [], true)
noncomputable def rm_runL (L : Nat) (F : rm_F) : Option rm_Re := rm_force true rm_q1 (rm_loop (rm_meth rm_P L F 13) rm_P rm_p_L_law L F 3000)
def rm_chk1 (o : Option rm_N) : Bool := match o with
  | some q => decide (q.1 = 18) && decide (q.2.1 = rm_lv1) && decide (q.2.2.1 = []) && rm_simh q.2.2.2.1 rm_h1 && decide (q.2.2.2.2.1 = rm_nc) && decide (q.2.2.2.2.2.1 = rm_ns) && q.2.2.2.2.2.2.2
  | none => false
set_option maxRecDepth 1000000 in
theorem rm_ctor : rm_chk1 (rm_till (rm_meth rm_P 1000000 [] 13) rm_P rm_p_L_law 1000000 [] 18 3000 rm_q0) = true := by decide +kernel
end
section
/-! THE RUNS OF THE CASES -/
set_option maxRecDepth 1000000 in
theorem rm_r_L0 : rm_chk (rm_runL 0 []) = true := by decide +kernel
set_option maxRecDepth 1000000 in
theorem rm_r_L1 : rm_chk (rm_runL 1 []) = true := by decide +kernel
set_option maxRecDepth 1000000 in
theorem rm_r_L2 : rm_chk (rm_runL 2 []) = true := by decide +kernel
set_option maxRecDepth 1000000 in
theorem rm_r_L3 : rm_chk (rm_runL 3 []) = true := by decide +kernel
set_option maxRecDepth 1000000 in
theorem rm_r_o4 : rm_chk (rm_runL 4 rm_cs_o4.2) = true := by decide +kernel
set_option maxRecDepth 1000000 in
theorem rm_r_o5 : rm_chk (rm_runL 4 rm_cs_o5.2) = true := by decide +kernel
set_option maxRecDepth 1000000 in
theorem rm_r_o6 : rm_chk (rm_runL 4 rm_cs_o6.2) = true := by decide +kernel
set_option maxRecDepth 1000000 in
theorem rm_r_o7 : rm_chk (rm_runL 4 rm_cs_o7.2) = true := by decide +kernel
set_option maxRecDepth 1000000 in
theorem rm_r_o8 : rm_chk (rm_runL 4 rm_cs_o8.2) = true := by decide +kernel
set_option maxRecDepth 1000000 in
theorem rm_r_o9 : rm_chk (rm_runL 4 rm_cs_o9.2) = true := by decide +kernel
set_option maxRecDepth 1000000 in
theorem rm_r_o10 : rm_chk (rm_runL 4 rm_cs_o10.2) = true := by decide +kernel
set_option maxRecDepth 1000000 in
theorem rm_r_o11 : rm_chk (rm_runL 4 rm_cs_o11.2) = true := by decide +kernel
set_option maxRecDepth 1000000 in
theorem rm_r_o12 : rm_chk (rm_runL 4 rm_cs_o12.2) = true := by decide +kernel
set_option maxRecDepth 1000000 in
theorem rm_r_o14 : rm_chk (rm_runL 4 rm_cs_o14.2) = true := by decide +kernel
set_option maxRecDepth 1000000 in
theorem rm_r_o15 : rm_chk (rm_runL 4 rm_cs_o15.2) = true := by decide +kernel
set_option maxRecDepth 1000000 in
theorem rm_r_o2 : rm_chk (rm_runL 4 rm_cs_o2.2) = true := by decide +kernel
set_option maxRecDepth 1000000 in
theorem rm_r_t0 : rm_chk (rm_runL 4 rm_cs_t0.2) = true := by decide +kernel
set_option maxRecDepth 1000000 in
theorem rm_r_t1 : rm_chk (rm_runL 4 rm_cs_t1.2) = true := by decide +kernel
set_option maxRecDepth 1000000 in
theorem rm_r_t2 : rm_chk (rm_runL 4 rm_cs_t2.2) = true := by decide +kernel
set_option maxRecDepth 1000000 in
theorem rm_r_c0 : rm_chk (rm_runL 4 rm_cs_c0.2) = true := by decide +kernel
set_option maxRecDepth 1000000 in
theorem rm_r_c1 : rm_chk (rm_runL 4 rm_cs_c1.2) = true := by decide +kernel
set_option maxRecDepth 1000000 in
theorem rm_r_c2 : rm_chk (rm_runL 4 rm_cs_c2.2) = true := by decide +kernel
set_option maxRecDepth 1000000 in
theorem rm_r_c3 : rm_chk (rm_runL 4 rm_cs_c3.2) = true := by decide +kernel
set_option maxRecDepth 1000000 in
theorem rm_r_c4 : rm_chk (rm_runL 4 rm_cs_c4.2) = true := by decide +kernel
set_option maxRecDepth 1000000 in
theorem rm_r_c5 : rm_chk (rm_runL 4 rm_cs_c5.2) = true := by decide +kernel
set_option maxRecDepth 1000000 in
theorem rm_r_e0 : rm_chk (rm_runL 4 rm_cs_e0.2) = true := by decide +kernel
set_option maxRecDepth 1000000 in
theorem rm_r_e1 : rm_chk (rm_runL 4 rm_cs_e1.2) = true := by decide +kernel
set_option maxRecDepth 1000000 in
theorem rm_r_e2 : rm_chk (rm_runL 4 rm_cs_e2.2) = true := by decide +kernel
end
section
/-! THE RUNS OF THE CASES: four -/
set_option maxRecDepth 1000000 in
theorem rm_r_e3 : rm_chk (rm_runL 4 rm_cs_e3.2) = true := by decide +kernel
set_option maxRecDepth 1000000 in
theorem rm_r_e4 : rm_chk (rm_runL 4 rm_cs_e4.2) = true := by decide +kernel
set_option maxRecDepth 1000000 in
theorem rm_r_f_l : rm_chk (rm_runL 4 rm_cs_f_l.2) = true := by decide +kernel
set_option maxRecDepth 1000000 in
theorem rm_r_f_h : rm_chk (rm_runL 4 rm_cs_f_h.2) = true := by decide +kernel
set_option maxRecDepth 1000000 in
theorem rm_r_f_zl : rm_chk (rm_runL 4 rm_cs_f_zl.2) = true := by decide +kernel
set_option maxRecDepth 1000000 in
theorem rm_r_f_zh : rm_chk (rm_runL 4 rm_cs_f_zh.2) = true := by decide +kernel
set_option maxRecDepth 1000000 in
theorem rm_r_f_zzl : rm_chk (rm_runL 4 rm_cs_f_zzl.2) = true := by decide +kernel
set_option maxRecDepth 1000000 in
theorem rm_r_f_zzh : rm_chk (rm_runL 4 rm_cs_f_zzh.2) = true := by decide +kernel
set_option maxRecDepth 1000000 in
theorem rm_r_f_zzzl : rm_chk (rm_runL 4 rm_cs_f_zzzl.2) = true := by decide +kernel
set_option maxRecDepth 1000000 in
theorem rm_r_f_zzzh : rm_chk (rm_runL 4 rm_cs_f_zzzh.2) = true := by decide +kernel
set_option maxRecDepth 1000000 in
theorem rm_r_f_zzzz : rm_chk (rm_runL 4 rm_cs_f_zzzz.2) = true := by decide +kernel
set_option maxRecDepth 1000000 in
theorem rm_r_f_zzzg : rm_chk (rm_runL 4 rm_cs_f_zzzg.2) = true := by decide +kernel
set_option maxRecDepth 1000000 in
theorem rm_r_f_zzgl : rm_chk (rm_runL 4 rm_cs_f_zzgl.2) = true := by decide +kernel
set_option maxRecDepth 1000000 in
theorem rm_r_f_zzgh : rm_chk (rm_runL 4 rm_cs_f_zzgh.2) = true := by decide +kernel
set_option maxRecDepth 1000000 in
theorem rm_r_f_zzgz : rm_chk (rm_runL 4 rm_cs_f_zzgz.2) = true := by decide +kernel
set_option maxRecDepth 1000000 in
theorem rm_r_f_zzgg : rm_chk (rm_runL 4 rm_cs_f_zzgg.2) = true := by decide +kernel
set_option maxRecDepth 1000000 in
theorem rm_r_f_zgl : rm_chk (rm_runL 4 rm_cs_f_zgl.2) = true := by decide +kernel
set_option maxRecDepth 1000000 in
theorem rm_r_f_zgh : rm_chk (rm_runL 4 rm_cs_f_zgh.2) = true := by decide +kernel
set_option maxRecDepth 1000000 in
theorem rm_r_f_zgzl : rm_chk (rm_runL 4 rm_cs_f_zgzl.2) = true := by decide +kernel
set_option maxRecDepth 1000000 in
theorem rm_r_f_zgzh : rm_chk (rm_runL 4 rm_cs_f_zgzh.2) = true := by decide +kernel
set_option maxRecDepth 1000000 in
theorem rm_r_f_zgzz : rm_chk (rm_runL 4 rm_cs_f_zgzz.2) = true := by decide +kernel
set_option maxRecDepth 1000000 in
theorem rm_r_f_zgzg : rm_chk (rm_runL 4 rm_cs_f_zgzg.2) = true := by decide +kernel
set_option maxRecDepth 1000000 in
theorem rm_r_f_zggl : rm_chk (rm_runL 4 rm_cs_f_zggl.2) = true := by decide +kernel
set_option maxRecDepth 1000000 in
theorem rm_r_f_zggh : rm_chk (rm_runL 4 rm_cs_f_zggh.2) = true := by decide +kernel
set_option maxRecDepth 1000000 in
theorem rm_r_f_zggz : rm_chk (rm_runL 4 rm_cs_f_zggz.2) = true := by decide +kernel
set_option maxRecDepth 1000000 in
theorem rm_r_f_zggg : rm_chk (rm_runL 4 rm_cs_f_zggg.2) = true := by decide +kernel
set_option maxRecDepth 1000000 in
theorem rm_r_f_gl : rm_chk (rm_runL 4 rm_cs_f_gl.2) = true := by decide +kernel
set_option maxRecDepth 1000000 in
theorem rm_r_f_gh : rm_chk (rm_runL 4 rm_cs_f_gh.2) = true := by decide +kernel
set_option maxRecDepth 1000000 in
theorem rm_r_f_gzl : rm_chk (rm_runL 4 rm_cs_f_gzl.2) = true := by decide +kernel
set_option maxRecDepth 1000000 in
theorem rm_r_f_gzh : rm_chk (rm_runL 4 rm_cs_f_gzh.2) = true := by decide +kernel
set_option maxRecDepth 1000000 in
theorem rm_r_f_gzzl : rm_chk (rm_runL 4 rm_cs_f_gzzl.2) = true := by decide +kernel
set_option maxRecDepth 1000000 in
theorem rm_r_f_gzzh : rm_chk (rm_runL 4 rm_cs_f_gzzh.2) = true := by decide +kernel
set_option maxRecDepth 1000000 in
theorem rm_r_f_gzzz : rm_chk (rm_runL 4 rm_cs_f_gzzz.2) = true := by decide +kernel
set_option maxRecDepth 1000000 in
theorem rm_r_f_gzzg : rm_chk (rm_runL 4 rm_cs_f_gzzg.2) = true := by decide +kernel
set_option maxRecDepth 1000000 in
theorem rm_r_f_gzgl : rm_chk (rm_runL 4 rm_cs_f_gzgl.2) = true := by decide +kernel
set_option maxRecDepth 1000000 in
theorem rm_r_f_gzgh : rm_chk (rm_runL 4 rm_cs_f_gzgh.2) = true := by decide +kernel
set_option maxRecDepth 1000000 in
theorem rm_r_f_gzgz : rm_chk (rm_runL 4 rm_cs_f_gzgz.2) = true := by decide +kernel
set_option maxRecDepth 1000000 in
theorem rm_r_f_gzgg : rm_chk (rm_runL 4 rm_cs_f_gzgg.2) = true := by decide +kernel
set_option maxRecDepth 1000000 in
theorem rm_r_f_ggl : rm_chk (rm_runL 4 rm_cs_f_ggl.2) = true := by decide +kernel
set_option maxRecDepth 1000000 in
theorem rm_r_f_ggh : rm_chk (rm_runL 4 rm_cs_f_ggh.2) = true := by decide +kernel
set_option maxRecDepth 1000000 in
theorem rm_r_f_ggzl : rm_chk (rm_runL 4 rm_cs_f_ggzl.2) = true := by decide +kernel
set_option maxRecDepth 1000000 in
theorem rm_r_f_ggzh : rm_chk (rm_runL 4 rm_cs_f_ggzh.2) = true := by decide +kernel
set_option maxRecDepth 1000000 in
theorem rm_r_f_ggzz : rm_chk (rm_runL 4 rm_cs_f_ggzz.2) = true := by decide +kernel
set_option maxRecDepth 1000000 in
theorem rm_r_f_ggzg : rm_chk (rm_runL 4 rm_cs_f_ggzg.2) = true := by decide +kernel
set_option maxRecDepth 1000000 in
theorem rm_r_f_gggl : rm_chk (rm_runL 4 rm_cs_f_gggl.2) = true := by decide +kernel
set_option maxRecDepth 1000000 in
theorem rm_r_f_gggh : rm_chk (rm_runL 4 rm_cs_f_gggh.2) = true := by decide +kernel
set_option maxRecDepth 1000000 in
theorem rm_r_f_gggz : rm_chk (rm_runL 4 rm_cs_f_gggz.2) = true := by decide +kernel
set_option maxRecDepth 1000000 in
theorem rm_r_f_gggg : rm_chk (rm_runL 4 rm_cs_f_gggg.2) = true := by decide +kernel
end
section
/-! THE CLAIM OUT OF ONE WALK OF THE LAW'S BODY. Your part is whole_start (and what it stands on); all else here is the same for every law, but numbers. -/
def R_law : String := "RootJudgeLaw"
def lw_P (b : Addr) (xs : List Int32) (args : Array Value) (s : State) : Prop := args = #[.ref b] ∧ s.IntsAt b xs ∧ xs.length ≤ 4 ∧ (Jvm.Cond.and given_1 narrow_1).before args s = true
def lw_Q (_ : Array Value) (s : State) (o : Outcome) (t : State) : Prop := o = .returned (some (.int 1)) ∧ Framed s o t [] 600000 7302250
def lw_Z (below : List Frame) (a : Array Value) (s : State) : State → Prop := fun t => ∃ o, t.status = .running ∧ Ended t below o ∧ lw_Q a s o t
/-- the law's own end, with 1 on the stack, nothing written that was there before, its room as the claim has it -/
theorem lw_ret {p : Program} {l : Launch} {e : Env} {s : State} {m : MethodId} {below : List Frame} {meth : Method} {c : Code} {b : Nat} (hx : p.tables.exec = Jvm.exec) (hb : c.code = code) (hr : meth.sig.returnType = ret) (hlocks : meth.locks = false) {pc : Nat} {H : Heap} {ls : Array Slot} (hdg : decode code pc = .ok (.ireturn, 1)) : W p l e room_1 s m #[Value.ref b] below meth c H [] 600000 7302250 (lw_Z below #[Value.ref b] s) (F0 m pc ls [.int 1]) := by
  intro T hT X
  obtain ⟨fs, hret, hrun, hended, hW, hframe⟩ := X.leave (v := some (.int 1)) (hlocks := hlocks) (fun h => by rw [hr] at h; cases h)
  have hmeth' : T.vm.method? m = some meth := X.method'
  refine ⟨T.setFrames fs, ?_, .returned (some (.int 1)), hrun, hended, rfl, ⟨_, rfl⟩, hW, hframe⟩
  jvm_step X.here [X.here.top, hx, hb, hdg, hmeth', hr, ret, narrow_b1]
  (try refine ⟨rfl, ?_⟩); (try refine ⟨rfl, ?_⟩)
  first | (intro acts; rw [hret _ acts rfl rfl rfl]) | rw [hret _ _ rfl rfl rfl]
  exact Steps.refl _
/-- what holds at the law's entry: the machine, the code, the tables' words (any of lw_tbl by 'hts w (by decide +kernel)'), the script of L ints xs at the cell b, what the Statement gives of the start (any of its parts by flat_of_before) -/
def lw_At (p : Program) (s : State) (m : MethodId) (meth : Method) (c : Code) (b L : Nat) (xs : Nat → Int32) : Prop :=
  p.tables.exec = Jvm.exec ∧ c.code = code ∧ meth.sig.returnType = ret ∧ c.maxLocals = 4 ∧ s.vm.findClass R_law = some m.cls ∧ (∀ w ∈ lw_tbl, w.before #[Value.ref b] s = true) ∧ va_X b L xs s s.heap ∧ b < s.heap.size ∧ meth.locks = false ∧ (Jvm.Cond.and given_1 narrow_1).before #[Value.ref b] s = true
section RMZ
variable {p : Program} {e : Env} {s : State} {m : MethodId} {below : List Frame} {meth : Method} {c : Code} {l : Launch} {b L : Nat} {xs : Nat → Int32}
theorem rm_known {args : Array Value} (hts : ∀ w ∈ lw_tbl, w.before args s = true) : ∃ (dC : Nat → ClassId) (dI : Nat → Nat → Nat), ∀ (k : Nat) (q : vw_C), vwCl[k]? = some q → u_Kn s q.1 q.2.1 q.2.2 (dC k) (dI k) := by
  have htb : ∀ w ∈ rm_tb, w.before args s = true := fun w h => hts w (rm_tb_in w h)
  have h : ∀ k : Nat, ∃ z : ClassId × (Nat → Nat), ∀ q : vw_C, vwCl[k]? = some q → u_Kn s q.1 q.2.1 q.2.2 z.1 z.2 := by
    intro k
    cases hq : vwCl[k]? with
    | none => exact ⟨(0, fun _ => 0), fun q h => by cases h⟩
    | some q =>
      obtain ⟨g1, g2, g3, g4, g5, g6⟩ := rm_okC_all k q hq
      obtain ⟨cC, iS, hK⟩ := u_known (C := q.1) (T := q.2.1) (N := q.2.2) htb g1 (htb _ g5)
      exact ⟨(cC, iS), fun q' h => by cases h; exact hK⟩
  obtain ⟨f, hf⟩ := Classical.axiomOfChoice h
  exact ⟨fun k => (f k).1, fun k => (f k).2, fun k q hq => hf k q hq⟩
theorem rm_arrK {args : Array Value} (hts : ∀ w ∈ lw_tbl, w.before args s = true) {ty : FieldType} (hn : ∀ C, ty ≠ .object C) (hw : Cond.arrayClass ty ∈ lw_tbl) : ∃ cA : ClassId, ArrOfT s cA ty ∧ va_RA s cA ty := by
  obtain ⟨cA, kA, comp, h1, h2, h3⟩ := Cond.arrayClass_spec (hts _ hw)
  refine ⟨cA, fun n z => ⟨(fun k h => by cases h), kA, h2, comp, h3⟩, ?_⟩
  unfold va_RA
  split
  · rename_i C; exact absurd rfl (hn C)
  · exact h1
theorem rm_arrO {args : Array Value} (hts : ∀ w ∈ lw_tbl, w.before args s = true) {C : String} (hw : Cond.arrayOver (.object C) ∈ lw_tbl) : ∃ cA : ClassId, ArrOfT s cA (.object C) ∧ va_RA s cA (.object C) := by
  obtain ⟨comp, cc, k, h1, h2, h3, h4, h5⟩ := Cond.arrayOver_spec (hts _ hw)
  exact ⟨cc, fun n z => ⟨(fun k h => by cases h), k, h3, comp, h4⟩, k, comp, h3, h4, h1, h5⟩
theorem rm_arrs {args : Array Value} (hts : ∀ w ∈ lw_tbl, w.before args s = true) : ∃ cA : Nat → ClassId, ∀ (k : Nat) (q : ClassId × FieldType), (rm_tys cA)[k]? = some q → ArrOfT s q.1 q.2 ∧ va_RA s q.1 q.2 := by
  obtain ⟨c0, h0⟩ := rm_arrK hts (ty := .int) (fun C z => by cases z) (by decide +kernel)
  obtain ⟨c1, h1⟩ := rm_arrK hts (ty := .long) (fun C z => by cases z) (by decide +kernel)
  obtain ⟨c2, h2⟩ := rm_arrK hts (ty := .char) (fun C z => by cases z) (by decide +kernel)
  obtain ⟨c3, h3⟩ := rm_arrK hts (ty := .byte) (fun C z => by cases z) (by decide +kernel)
  obtain ⟨c4, h4⟩ := rm_arrK hts (ty := .boolean) (fun C z => by cases z) (by decide +kernel)
  obtain ⟨c5, h5⟩ := rm_arrO hts (C := "RootJudge$Poly") (by decide +kernel)
  obtain ⟨c6, h6⟩ := rm_arrO hts (C := "RootJudge$Big") (by decide +kernel)
  obtain ⟨c7, h7⟩ := rm_arrO hts (C := "RootJudge$Root") (by decide +kernel)
  refine ⟨fun k => match k with | 0 => c0 | 1 => c1 | 2 => c2 | 3 => c3 | 4 => c4 | 5 => c5 | 6 => c6 | _ => c7, ?_⟩
  intro k q hq
  match k, hq with
  | 0, hq => cases hq; exact h0
  | 1, hq => cases hq; exact h1
  | 2, hq => cases hq; exact h2
  | 3, hq => cases hq; exact h3
  | 4, hq => cases hq; exact h4
  | 5, hq => cases hq; exact h5
  | 6, hq => cases hq; exact h6
  | 7, hq => cases hq; exact h7
  | n + 8, hq => simp at hq
theorem rm_text {args : Array Value} (hts : ∀ w ∈ lw_tbl, w.before args s = true) (hgv : (Jvm.Cond.and given_1 narrow_1).before args s = true) : ∃ t v : Nat, vk_R rm_sO rm_sI rm_sT t s ∧ vk_S 1 [rm_sB.length] [rm_sB] (fun _ => t) (fun _ => v) (fun q => s.heap.size ≤ q) s s.heap ∧ va_Z "java/lang/String" "COMPACT_STRINGS" "Z" (.int 1) (fun q => s.heap.size ≤ q) s s.heap := by
  have hs := flat_of_before _ hgv
  have hA : ∀ a : Nat, a < s.heap.size → ¬ (fun q => s.heap.size ≤ q) a := fun a h => Nat.not_le.mpr h
  obtain ⟨adK, adV, h1, h2⟩ := vk_Sof (args := args) (s := s) (N := 1) (tm := fun _ => Term.string rm_sO rm_sI) (len := [rm_sB.length]) (byt := [rm_sB]) (A := fun q => s.heap.size ≤ q)
    (fun i hi => by rcases (show i = 0 by omega) with rfl; decide)
    (fun i hi => hs _ (by decide +kernel)) (fun i hi => hs _ (by decide +kernel)) (fun i hi => hs _ (by decide +kernel))
    (fun i hi => by rcases (show i = 0 by omega) with rfl; exact hs _ (by decide +kernel))
    (fun i hi j hj => by
      rcases (show i = 0 by omega) with rfl
      have hj : j < 3 := hj
      match j, hj with
      | 0, _ => exact hs _ (by decide +kernel)
      | 1, _ => exact hs _ (by decide +kernel)
      | 2, _ => exact hs _ (by decide +kernel))
    (fun i j hi hj hne => absurd (show i = j by omega) hne) hA
  refine ⟨adK 0, adV 0, vk_R.of (hts _ (by decide +kernel)) (h2 0 (by decide)), ⟨fun i hi => ?_, fun i j hi hj _ => by omega⟩, va_Zof (hts _ (by decide +kernel)) (hts _ (by decide +kernel)) (va_eqi (hs _ (by decide +kernel))) hA⟩
  rcases (show i = 0 by omega) with rfl
  exact h1.1 0 hi
/-- what the machine needs at the law's entry -/
theorem rm_ctx (C0 : lw_At p s m meth c b L xs) : ∃ (D : va_G) (cA : Nat → ClassId) (t v : Nat), ∀ F : rm_F, (∀ q ∈ F, ∀ cd : ClassFile.Cond, rm_cn cd = q.2.2.1 → rm_cnd cd (rm_e (rm_ext b t v xs) q.1) q.2.1 = q.2.2.2) → ∀ L', (L' ≠ 1000000 → L' = L) → rm_X D cA s.heap.size (rm_ext b t v xs) L' F s := by
  obtain ⟨hx, hb, hr, hml, hown, hts, hX, hbl, hlocks, hgv⟩ := C0
  obtain ⟨dC, dI, hK⟩ := rm_known hts
  obtain ⟨cA, hA⟩ := rm_arrs hts
  obtain ⟨t, v, k1, k2, k3⟩ := rm_text hts hgv
  refine ⟨(dC, dI), cA, t, v, fun F hF L' hL' => ⟨⟨hK, hA⟩, ?_, ?_, fun z => ?_, ⟨hbl, k1, k2, k3⟩, ?_, hF⟩⟩
  · intro t C h
    match t, h with
    | 0, h => cases h
    | 1, h => cases h
    | 2, h => cases h
    | 3, h => cases h
    | 4, h => cases h
    | 5, h => cases h; exact va_AO.of (hts _ (by decide +kernel))
    | 6, h => cases h; exact va_AO.of (hts _ (by decide +kernel))
    | 7, h => cases h; exact va_AO.of (hts _ (by decide +kernel))
    | n + 8, h => simp at h
  · intro w hw
    have g := List.mem_filter.mp hw
    have h := hts w g.1
    have g2 := g.2
    cases w <;> first | exact va_Nw.of rfl h | cases g2
  · rw [hL' z]
    refine ⟨xs, hX, fun j hj => ?_⟩
    rw [rm_e_ext]
    match j, hj with
    | 0, _ => rfl
    | 1, _ => rfl
    | 2, _ => rfl
    | 3, _ => rfl
  · intro op k y j h
    rw [rm_e_ext, rm_e_ext]
    exact rm_sym_s xs op k y j h
/-- a run that ends with 1 from behind the constructors on -/
theorem rm_from1 (C0 : lw_At p s m meth c b L xs) {D : va_G} {cA : Nat → ClassId} {ext : Nat → Nat} {F : rm_F} (hX : rm_X D cA s.heap.size ext L F s) (hrun : rm_chk (rm_runL L F) = true) : rm_K p l e room_1 s m #[Value.ref b] below meth c (lw_Z below #[Value.ref b] s) 4 s.heap.size ext cA D rm_q1 := by
  obtain ⟨hx, hb, hr, hml, hown, hts, -, hbl, hlocks, hgv⟩ := C0
  unfold rm_runL at hrun
  rw [rm_force_eq] at hrun
  unfold rm_chk at hrun
  split at hrun
  · rename_i v h uc us orc ok hres
    simp only [Bool.and_eq_true, decide_eq_true_eq] at hrun
    obtain ⟨⟨⟨rfl, hc1⟩, hc2⟩, hok⟩ := hrun
    refine (rm_loop_s (p := p) (l := l) (e := e) (R := room_1) (s := s) (m := m) (args := #[Value.ref b]) (below := below) (meth := meth) (c := c) (Q := lw_Z below #[Value.ref b] s) (sz := s.heap.size) (ext := ext) (cA := cA) (D := D) (own := RL) (L := L) (xs := F) (mt := rm_mt) (P := rm_P) (nM := 89) (d := 13) (M := rm_p_L_law)
      hx hml (fun w h => hts w (rm_tb_in w h)) hX hown rm_lk_L_law (fun z => by cases z) (by decide) (by decide) (by rw [hb]; exact rm_d_L_law) (call := rm_meth rm_P L F 13) (rm_meth_s rm_P_ok 13) (res := (some (.int 1), h, uc, us, orc, ok)) hok hc1 hc2 ?_ 3000 rm_q1 hres).2.2.2
    intro q i n hmem hre ls H locs hl hR hS
    have hd : decode c.code q.1 = .ok (i, n) := by rw [hb]; exact rm_d_L_law (q.1, i, n) hmem
    unfold rm_ret at hre
    split at hre
    · split at hre <;> cases hre
    · rename_i v hst
      split at hre
      · rename_i hn
        obtain ⟨rfl, -⟩ := hn
        have e9 := Option.some.inj hre
        have e8 : some (Value.int v) = some (Value.int 1) := congrArg Prod.fst e9
        have e2 : q.2.2.2 = (h, uc, us, orc, ok) := congrArg Prod.snd e9
        have ev : v = 1 := by
          have e7 := Option.some.inj e8
          injection e7
        subst ev
        have z1 : q.2.2.2.2.1 = uc := by rw [e2]
        have z2 : q.2.2.2.2.2.1 = us := by rw [e2]
        rw [z1, z2, hst]
        rw [hb] at hd
        refine va_forget (fun z hz => hS.2 z hz) ?_
        refine W.widen (k := 600000) (n := 7302250) hc1 hc2 ?_
        exact lw_ret hx hb hr hlocks hd
      · cases hre
    · split at hre <;> cases hre
    · split at hre <;> cases hre
    · cases hre
  · cases hrun
theorem rm_from0 (C0 : lw_At p s m meth c b L xs) {D : va_G} {cA : Nat → ClassId} {ext : Nat → Nat} (hX : rm_X D cA s.heap.size ext 1000000 [] s) (K : rm_K p l e room_1 s m #[Value.ref b] below meth c (lw_Z below #[Value.ref b] s) 4 s.heap.size ext cA D rm_q1) : rm_K p l e room_1 s m #[Value.ref b] below meth c (lw_Z below #[Value.ref b] s) 4 s.heap.size ext cA D rm_q0 := by
  obtain ⟨hx, hb, hr, hml, hown, hts, -, hbl, hlocks, hgv⟩ := C0
  have hc := rm_ctor
  unfold rm_chk1 at hc
  split at hc
  · rename_i q hq
    simp only [Bool.and_eq_true, decide_eq_true_eq] at hc
    obtain ⟨⟨⟨⟨⟨⟨g1, g2⟩, g3⟩, g4⟩, g5⟩, g6⟩, g7⟩ := hc
    refine (rm_till_s (p := p) (l := l) (e := e) (R := room_1) (s := s) (m := m) (args := #[Value.ref b]) (below := below) (meth := meth) (c := c) (Q := lw_Z below #[Value.ref b] s) (sz := s.heap.size) (ext := ext) (cA := cA) (D := D) (own := RL) (L := 1000000) (xs := []) (mt := rm_mt) (P := rm_P) (nM := 89) (d := 13) (M := rm_p_L_law)
      hx hml (fun w h => hts w (rm_tb_in w h)) hX hown rm_lk_L_law (fun z => by cases z) (by decide) (by decide) (by rw [hb]; exact rm_d_L_law) (call := rm_meth rm_P 1000000 [] 13) (rm_meth_s rm_P_ok 13) (stop := 18) (q' := q) g7 (by rw [g5]; decide) (by rw [g6]; decide) ?_ 3000 rm_q0 hq).2.2.2
    intro ls H locs hl hR hS
    rw [g1, g3, g5, g6]
    rw [g2] at hl
    exact K ls H locs hl (hR.sim g4) hS
  · cases hc
/-- a case -/
theorem rm_case (C0 : lw_At p s m meth c b 4 xs) (cs : rm_Cs) (hk : cs.2.all (rm_ivk cs.1) = true) (hrun : rm_chk (rm_runL 4 cs.2) = true) (hiv : ∀ q ∈ cs.1, q.2.1 ≤ (rm_vals xs q.1).toInt ∧ (rm_vals xs q.1).toInt ≤ q.2.2) : ∃ (D : va_G) (cA : Nat → ClassId) (ext : Nat → Nat), ext 0 = b ∧ rm_K p l e room_1 s m #[Value.ref b] below meth c (lw_Z below #[Value.ref b] s) 4 s.heap.size ext cA D rm_q0 := by
  obtain ⟨D, cA, t, v, hX⟩ := rm_ctx C0
  refine ⟨D, cA, rm_ext b t v xs, rfl, ?_⟩
  refine rm_from0 C0 (hX [] (fun q h => by cases h) 1000000 (fun z => absurd rfl z)) ?_
  refine rm_from1 C0 (hX cs.2 (fun q hq cd hcd => rm_ivk_s (fun z hz => ?_) (List.all_eq_true.mp hk q hq) cd hcd) 4 (fun _ => rfl)) hrun
  rw [rm_e_ext]
  exact hiv z hz
theorem rm_small (C0 : lw_At p s m meth c b L xs) (hrun : rm_chk (rm_runL L []) = true) : ∃ (D : va_G) (cA : Nat → ClassId) (ext : Nat → Nat), ext 0 = b ∧ rm_K p l e room_1 s m #[Value.ref b] below meth c (lw_Z below #[Value.ref b] s) 4 s.heap.size ext cA D rm_q0 := by
  obtain ⟨D, cA, t, v, hX⟩ := rm_ctx C0
  refine ⟨D, cA, rm_ext b t v xs, rfl, ?_⟩
  refine rm_from0 C0 (hX [] (fun q h => by cases h) 1000000 (fun z => absurd rfl z)) ?_
  exact rm_from1 C0 (hX [] (fun q h => by cases h) L (fun _ => rfl)) hrun
theorem rm_entry (C0 : lw_At p s m meth c b L xs) (h : ∃ (D : va_G) (cA : Nat → ClassId) (ext : Nat → Nat), ext 0 = b ∧ rm_K p l e room_1 s m #[Value.ref b] below meth c (lw_Z below #[Value.ref b] s) 4 s.heap.size ext cA D rm_q0) : W p l e room_1 s m #[Value.ref b] below meth c s.heap [] 0 0 (lw_Z below #[Value.ref b] s) (entryFrame m ([Value.ref b] : List Value).toArray 4) := by
  obtain ⟨D, cA, ext, he, K⟩ := h
  have hl := lv_entry ([.ref b]) (n := 4) (Nat.le_of_ble_eq_true rfl)
  rw [lg_entry_eq]
  refine K _ s.heap [] ?_ ⟨rfl, fun k c h => by simp [rm_q0] at h⟩ ⟨fun _ _ => rfl, fun _ h => by cases h⟩
  have e : rm_l s.heap.size ext rm_q0.2.1 = lv_args 0 [.ref b] := by
    show [(0, Value.ref (ext 0))] = [(0, Value.ref b)]
    rw [he]
  rw [e]
  exact hl
end RMZ
end
section
/-! THE CASES COVER ALL FIRST CALLS -/
theorem rm_iv1 {xs : Nat → Int32} {k : Nat} {lo hi : Int} (h : lo ≤ (rm_vals xs k).toInt ∧ (rm_vals xs k).toInt ≤ hi) {iv : List (Nat × Int × Int)} (r : ∀ q ∈ iv, q.2.1 ≤ (rm_vals xs q.1).toInt ∧ (rm_vals xs q.1).toInt ≤ q.2.2) : ∀ q ∈ (k, lo, hi) :: iv, q.2.1 ≤ (rm_vals xs q.1).toInt ∧ (rm_vals xs q.1).toInt ≤ q.2.2 := fun q hq => by
  rcases List.mem_cons.mp hq with rfl | hq
  · exact h
  · exact r q hq
theorem rm_iv0 {xs : Nat → Int32} : ∀ q ∈ ([] : List (Nat × Int × Int)), q.2.1 ≤ (rm_vals xs q.1).toInt ∧ (rm_vals xs q.1).toInt ≤ q.2.2 := fun q hq => by cases hq
theorem rm_rng (x : Int32) : -2147483648 ≤ x.toInt ∧ x.toInt ≤ 2147483647 := by
  have h1 := Int32.le_toInt x
  have h2 := Int32.toInt_le x
  have e2 : Int32.maxValue.toInt = 2147483647 := by decide
  rw [e2] at h2
  exact ⟨by simpa using h1, h2⟩
theorem rm_and15 (x : Int32) : 0 ≤ (rm_fop 0 x 15).toInt ∧ (rm_fop 0 x 15).toInt ≤ 15 := by
  obtain ⟨j, h1, h2⟩ := pk_andE x (m := 15) 4 (by decide)
  have e : rm_fop 0 x 15 = nI j := h2
  rw [e, nI_toInt (by omega)]
  omega
theorem rm_and255 (x : Int32) : 0 ≤ (rm_fop 0 x 255).toInt ∧ (rm_fop 0 x 255).toInt ≤ 255 := by
  obtain ⟨j, h1, h2⟩ := pk_andE x (m := 255) 8 (by decide)
  have e : rm_fop 0 x 255 = nI j := h2
  rw [e, nI_toInt (by omega)]
  omega
theorem whole_start {p : Program} {e : Env} {s : State} {m : MethodId} {below : List Frame} {meth : Method} {c : Code} (l : Launch) {b L : Nat} {xs : Nat → Int32} (hL : L ≤ 4) (C0 : lw_At p s m meth c b L xs) : W p l e room_1 s m #[Value.ref b] below meth c s.heap [] 0 0 (lw_Z below #[Value.ref b] s) (entryFrame m ([Value.ref b] : List Value).toArray 4) := by
  refine rm_entry C0 ?_
  rcases (show L = 0 ∨ L = 1 ∨ L = 2 ∨ L = 3 ∨ L = 4 by omega) with rfl | rfl | rfl | rfl | rfl
  · exact rm_small C0 rm_r_L0
  · exact rm_small C0 rm_r_L1
  · exact rm_small C0 rm_r_L2
  · exact rm_small C0 rm_r_L3
  have a4 : 0 ≤ (rm_vals xs 4).toInt ∧ (rm_vals xs 4).toInt ≤ 15 := rm_and15 (xs 0)
  have a1 : -2147483648 ≤ (rm_vals xs 1).toInt ∧ (rm_vals xs 1).toInt ≤ 2147483647 := rm_rng _
  have a2 : -2147483648 ≤ (rm_vals xs 2).toInt ∧ (rm_vals xs 2).toInt ≤ 2147483647 := rm_rng _
  have a30 : 0 ≤ (rm_vals xs 30).toInt ∧ (rm_vals xs 30).toInt ≤ 255 := rm_and255 _
  have a31 : 0 ≤ (rm_vals xs 31).toInt ∧ (rm_vals xs 31).toInt ≤ 255 := rm_and255 _
  have a32 : 0 ≤ (rm_vals xs 32).toInt ∧ (rm_vals xs 32).toInt ≤ 255 := rm_and255 _
  have a33 : 0 ≤ (rm_vals xs 33).toInt ∧ (rm_vals xs 33).toInt ≤ 255 := rm_and255 _
  have a : (rm_vals xs 4).toInt = 0 ∨ (rm_vals xs 4).toInt = 1 ∨ (rm_vals xs 4).toInt = 3 ∨ (rm_vals xs 4).toInt = 13 ∨ (rm_vals xs 4).toInt = 2 ∨ (rm_vals xs 4).toInt = 4 ∨ (rm_vals xs 4).toInt = 5 ∨ (rm_vals xs 4).toInt = 6 ∨ (rm_vals xs 4).toInt = 7 ∨ (rm_vals xs 4).toInt = 8 ∨ (rm_vals xs 4).toInt = 9 ∨ (rm_vals xs 4).toInt = 10 ∨ (rm_vals xs 4).toInt = 11 ∨ (rm_vals xs 4).toInt = 12 ∨ (rm_vals xs 4).toInt = 14 ∨ (rm_vals xs 4).toInt = 15 := by omega
  rcases a with a | a | a | a | a | a | a | a | a | a | a | a | a | a | a | a
  · rcases (show (rm_vals xs 1).toInt ≤ 31 ∨ (32 ≤ (rm_vals xs 1).toInt ∧ (rm_vals xs 1).toInt ≤ 126) ∨ 127 ≤ (rm_vals xs 1).toInt by omega) with h | h | h
    · exact rm_case C0 rm_cs_t0 (by decide +kernel) rm_r_t0 (rm_iv1 ⟨by omega, by omega⟩ (rm_iv1 ⟨by omega, by omega⟩ rm_iv0))
    · exact rm_case C0 rm_cs_t1 (by decide +kernel) rm_r_t1 (rm_iv1 ⟨by omega, by omega⟩ (rm_iv1 ⟨by omega, by omega⟩ rm_iv0))
    · exact rm_case C0 rm_cs_t2 (by decide +kernel) rm_r_t2 (rm_iv1 ⟨by omega, by omega⟩ (rm_iv1 ⟨by omega, by omega⟩ rm_iv0))
  · rcases (show (rm_vals xs 33).toInt = 0 ∨ (1 ≤ (rm_vals xs 33).toInt ∧ (rm_vals xs 33).toInt ≤ 31) ∨ (32 ≤ (rm_vals xs 33).toInt ∧ (rm_vals xs 33).toInt ≤ 126) ∨ 127 ≤ (rm_vals xs 33).toInt by omega) with h33 | h33 | h33 | h33
    · rcases (show (rm_vals xs 32).toInt = 0 ∨ (1 ≤ (rm_vals xs 32).toInt ∧ (rm_vals xs 32).toInt ≤ 31) ∨ (32 ≤ (rm_vals xs 32).toInt ∧ (rm_vals xs 32).toInt ≤ 126) ∨ 127 ≤ (rm_vals xs 32).toInt by omega) with h32 | h32 | h32 | h32
      · rcases (show (rm_vals xs 31).toInt = 0 ∨ (1 ≤ (rm_vals xs 31).toInt ∧ (rm_vals xs 31).toInt ≤ 31) ∨ (32 ≤ (rm_vals xs 31).toInt ∧ (rm_vals xs 31).toInt ≤ 126) ∨ 127 ≤ (rm_vals xs 31).toInt by omega) with h31 | h31 | h31 | h31
        · rcases (show (rm_vals xs 30).toInt = 0 ∨ (1 ≤ (rm_vals xs 30).toInt ∧ (rm_vals xs 30).toInt ≤ 31) ∨ (32 ≤ (rm_vals xs 30).toInt ∧ (rm_vals xs 30).toInt ≤ 126) ∨ 127 ≤ (rm_vals xs 30).toInt by omega) with h30 | h30 | h30 | h30
          · exact rm_case C0 rm_cs_f_zzzz (by decide +kernel) rm_r_f_zzzz (rm_iv1 ⟨by omega, by omega⟩ (rm_iv1 ⟨by omega, by omega⟩ (rm_iv1 ⟨by omega, by omega⟩ (rm_iv1 ⟨by omega, by omega⟩ (rm_iv1 ⟨by omega, by omega⟩ rm_iv0)))))
          · exact rm_case C0 rm_cs_f_zzzl (by decide +kernel) rm_r_f_zzzl (rm_iv1 ⟨by omega, by omega⟩ (rm_iv1 ⟨by omega, by omega⟩ (rm_iv1 ⟨by omega, by omega⟩ (rm_iv1 ⟨by omega, by omega⟩ (rm_iv1 ⟨by omega, by omega⟩ rm_iv0)))))
          · exact rm_case C0 rm_cs_f_zzzg (by decide +kernel) rm_r_f_zzzg (rm_iv1 ⟨by omega, by omega⟩ (rm_iv1 ⟨by omega, by omega⟩ (rm_iv1 ⟨by omega, by omega⟩ (rm_iv1 ⟨by omega, by omega⟩ (rm_iv1 ⟨by omega, by omega⟩ rm_iv0)))))
          · exact rm_case C0 rm_cs_f_zzzh (by decide +kernel) rm_r_f_zzzh (rm_iv1 ⟨by omega, by omega⟩ (rm_iv1 ⟨by omega, by omega⟩ (rm_iv1 ⟨by omega, by omega⟩ (rm_iv1 ⟨by omega, by omega⟩ (rm_iv1 ⟨by omega, by omega⟩ rm_iv0)))))
        · exact rm_case C0 rm_cs_f_zzl (by decide +kernel) rm_r_f_zzl (rm_iv1 ⟨by omega, by omega⟩ (rm_iv1 ⟨by omega, by omega⟩ (rm_iv1 ⟨by omega, by omega⟩ (rm_iv1 ⟨by omega, by omega⟩ rm_iv0))))
        · rcases (show (rm_vals xs 30).toInt = 0 ∨ (1 ≤ (rm_vals xs 30).toInt ∧ (rm_vals xs 30).toInt ≤ 31) ∨ (32 ≤ (rm_vals xs 30).toInt ∧ (rm_vals xs 30).toInt ≤ 126) ∨ 127 ≤ (rm_vals xs 30).toInt by omega) with h30 | h30 | h30 | h30
          · exact rm_case C0 rm_cs_f_zzgz (by decide +kernel) rm_r_f_zzgz (rm_iv1 ⟨by omega, by omega⟩ (rm_iv1 ⟨by omega, by omega⟩ (rm_iv1 ⟨by omega, by omega⟩ (rm_iv1 ⟨by omega, by omega⟩ (rm_iv1 ⟨by omega, by omega⟩ rm_iv0)))))
          · exact rm_case C0 rm_cs_f_zzgl (by decide +kernel) rm_r_f_zzgl (rm_iv1 ⟨by omega, by omega⟩ (rm_iv1 ⟨by omega, by omega⟩ (rm_iv1 ⟨by omega, by omega⟩ (rm_iv1 ⟨by omega, by omega⟩ (rm_iv1 ⟨by omega, by omega⟩ rm_iv0)))))
          · exact rm_case C0 rm_cs_f_zzgg (by decide +kernel) rm_r_f_zzgg (rm_iv1 ⟨by omega, by omega⟩ (rm_iv1 ⟨by omega, by omega⟩ (rm_iv1 ⟨by omega, by omega⟩ (rm_iv1 ⟨by omega, by omega⟩ (rm_iv1 ⟨by omega, by omega⟩ rm_iv0)))))
          · exact rm_case C0 rm_cs_f_zzgh (by decide +kernel) rm_r_f_zzgh (rm_iv1 ⟨by omega, by omega⟩ (rm_iv1 ⟨by omega, by omega⟩ (rm_iv1 ⟨by omega, by omega⟩ (rm_iv1 ⟨by omega, by omega⟩ (rm_iv1 ⟨by omega, by omega⟩ rm_iv0)))))
        · exact rm_case C0 rm_cs_f_zzh (by decide +kernel) rm_r_f_zzh (rm_iv1 ⟨by omega, by omega⟩ (rm_iv1 ⟨by omega, by omega⟩ (rm_iv1 ⟨by omega, by omega⟩ (rm_iv1 ⟨by omega, by omega⟩ rm_iv0))))
      · exact rm_case C0 rm_cs_f_zl (by decide +kernel) rm_r_f_zl (rm_iv1 ⟨by omega, by omega⟩ (rm_iv1 ⟨by omega, by omega⟩ (rm_iv1 ⟨by omega, by omega⟩ rm_iv0)))
      · rcases (show (rm_vals xs 31).toInt = 0 ∨ (1 ≤ (rm_vals xs 31).toInt ∧ (rm_vals xs 31).toInt ≤ 31) ∨ (32 ≤ (rm_vals xs 31).toInt ∧ (rm_vals xs 31).toInt ≤ 126) ∨ 127 ≤ (rm_vals xs 31).toInt by omega) with h31 | h31 | h31 | h31
        · rcases (show (rm_vals xs 30).toInt = 0 ∨ (1 ≤ (rm_vals xs 30).toInt ∧ (rm_vals xs 30).toInt ≤ 31) ∨ (32 ≤ (rm_vals xs 30).toInt ∧ (rm_vals xs 30).toInt ≤ 126) ∨ 127 ≤ (rm_vals xs 30).toInt by omega) with h30 | h30 | h30 | h30
          · exact rm_case C0 rm_cs_f_zgzz (by decide +kernel) rm_r_f_zgzz (rm_iv1 ⟨by omega, by omega⟩ (rm_iv1 ⟨by omega, by omega⟩ (rm_iv1 ⟨by omega, by omega⟩ (rm_iv1 ⟨by omega, by omega⟩ (rm_iv1 ⟨by omega, by omega⟩ rm_iv0)))))
          · exact rm_case C0 rm_cs_f_zgzl (by decide +kernel) rm_r_f_zgzl (rm_iv1 ⟨by omega, by omega⟩ (rm_iv1 ⟨by omega, by omega⟩ (rm_iv1 ⟨by omega, by omega⟩ (rm_iv1 ⟨by omega, by omega⟩ (rm_iv1 ⟨by omega, by omega⟩ rm_iv0)))))
          · exact rm_case C0 rm_cs_f_zgzg (by decide +kernel) rm_r_f_zgzg (rm_iv1 ⟨by omega, by omega⟩ (rm_iv1 ⟨by omega, by omega⟩ (rm_iv1 ⟨by omega, by omega⟩ (rm_iv1 ⟨by omega, by omega⟩ (rm_iv1 ⟨by omega, by omega⟩ rm_iv0)))))
          · exact rm_case C0 rm_cs_f_zgzh (by decide +kernel) rm_r_f_zgzh (rm_iv1 ⟨by omega, by omega⟩ (rm_iv1 ⟨by omega, by omega⟩ (rm_iv1 ⟨by omega, by omega⟩ (rm_iv1 ⟨by omega, by omega⟩ (rm_iv1 ⟨by omega, by omega⟩ rm_iv0)))))
        · exact rm_case C0 rm_cs_f_zgl (by decide +kernel) rm_r_f_zgl (rm_iv1 ⟨by omega, by omega⟩ (rm_iv1 ⟨by omega, by omega⟩ (rm_iv1 ⟨by omega, by omega⟩ (rm_iv1 ⟨by omega, by omega⟩ rm_iv0))))
        · rcases (show (rm_vals xs 30).toInt = 0 ∨ (1 ≤ (rm_vals xs 30).toInt ∧ (rm_vals xs 30).toInt ≤ 31) ∨ (32 ≤ (rm_vals xs 30).toInt ∧ (rm_vals xs 30).toInt ≤ 126) ∨ 127 ≤ (rm_vals xs 30).toInt by omega) with h30 | h30 | h30 | h30
          · exact rm_case C0 rm_cs_f_zggz (by decide +kernel) rm_r_f_zggz (rm_iv1 ⟨by omega, by omega⟩ (rm_iv1 ⟨by omega, by omega⟩ (rm_iv1 ⟨by omega, by omega⟩ (rm_iv1 ⟨by omega, by omega⟩ (rm_iv1 ⟨by omega, by omega⟩ rm_iv0)))))
          · exact rm_case C0 rm_cs_f_zggl (by decide +kernel) rm_r_f_zggl (rm_iv1 ⟨by omega, by omega⟩ (rm_iv1 ⟨by omega, by omega⟩ (rm_iv1 ⟨by omega, by omega⟩ (rm_iv1 ⟨by omega, by omega⟩ (rm_iv1 ⟨by omega, by omega⟩ rm_iv0)))))
          · exact rm_case C0 rm_cs_f_zggg (by decide +kernel) rm_r_f_zggg (rm_iv1 ⟨by omega, by omega⟩ (rm_iv1 ⟨by omega, by omega⟩ (rm_iv1 ⟨by omega, by omega⟩ (rm_iv1 ⟨by omega, by omega⟩ (rm_iv1 ⟨by omega, by omega⟩ rm_iv0)))))
          · exact rm_case C0 rm_cs_f_zggh (by decide +kernel) rm_r_f_zggh (rm_iv1 ⟨by omega, by omega⟩ (rm_iv1 ⟨by omega, by omega⟩ (rm_iv1 ⟨by omega, by omega⟩ (rm_iv1 ⟨by omega, by omega⟩ (rm_iv1 ⟨by omega, by omega⟩ rm_iv0)))))
        · exact rm_case C0 rm_cs_f_zgh (by decide +kernel) rm_r_f_zgh (rm_iv1 ⟨by omega, by omega⟩ (rm_iv1 ⟨by omega, by omega⟩ (rm_iv1 ⟨by omega, by omega⟩ (rm_iv1 ⟨by omega, by omega⟩ rm_iv0))))
      · exact rm_case C0 rm_cs_f_zh (by decide +kernel) rm_r_f_zh (rm_iv1 ⟨by omega, by omega⟩ (rm_iv1 ⟨by omega, by omega⟩ (rm_iv1 ⟨by omega, by omega⟩ rm_iv0)))
    · exact rm_case C0 rm_cs_f_l (by decide +kernel) rm_r_f_l (rm_iv1 ⟨by omega, by omega⟩ (rm_iv1 ⟨by omega, by omega⟩ rm_iv0))
    · rcases (show (rm_vals xs 32).toInt = 0 ∨ (1 ≤ (rm_vals xs 32).toInt ∧ (rm_vals xs 32).toInt ≤ 31) ∨ (32 ≤ (rm_vals xs 32).toInt ∧ (rm_vals xs 32).toInt ≤ 126) ∨ 127 ≤ (rm_vals xs 32).toInt by omega) with h32 | h32 | h32 | h32
      · rcases (show (rm_vals xs 31).toInt = 0 ∨ (1 ≤ (rm_vals xs 31).toInt ∧ (rm_vals xs 31).toInt ≤ 31) ∨ (32 ≤ (rm_vals xs 31).toInt ∧ (rm_vals xs 31).toInt ≤ 126) ∨ 127 ≤ (rm_vals xs 31).toInt by omega) with h31 | h31 | h31 | h31
        · rcases (show (rm_vals xs 30).toInt = 0 ∨ (1 ≤ (rm_vals xs 30).toInt ∧ (rm_vals xs 30).toInt ≤ 31) ∨ (32 ≤ (rm_vals xs 30).toInt ∧ (rm_vals xs 30).toInt ≤ 126) ∨ 127 ≤ (rm_vals xs 30).toInt by omega) with h30 | h30 | h30 | h30
          · exact rm_case C0 rm_cs_f_gzzz (by decide +kernel) rm_r_f_gzzz (rm_iv1 ⟨by omega, by omega⟩ (rm_iv1 ⟨by omega, by omega⟩ (rm_iv1 ⟨by omega, by omega⟩ (rm_iv1 ⟨by omega, by omega⟩ (rm_iv1 ⟨by omega, by omega⟩ rm_iv0)))))
          · exact rm_case C0 rm_cs_f_gzzl (by decide +kernel) rm_r_f_gzzl (rm_iv1 ⟨by omega, by omega⟩ (rm_iv1 ⟨by omega, by omega⟩ (rm_iv1 ⟨by omega, by omega⟩ (rm_iv1 ⟨by omega, by omega⟩ (rm_iv1 ⟨by omega, by omega⟩ rm_iv0)))))
          · exact rm_case C0 rm_cs_f_gzzg (by decide +kernel) rm_r_f_gzzg (rm_iv1 ⟨by omega, by omega⟩ (rm_iv1 ⟨by omega, by omega⟩ (rm_iv1 ⟨by omega, by omega⟩ (rm_iv1 ⟨by omega, by omega⟩ (rm_iv1 ⟨by omega, by omega⟩ rm_iv0)))))
          · exact rm_case C0 rm_cs_f_gzzh (by decide +kernel) rm_r_f_gzzh (rm_iv1 ⟨by omega, by omega⟩ (rm_iv1 ⟨by omega, by omega⟩ (rm_iv1 ⟨by omega, by omega⟩ (rm_iv1 ⟨by omega, by omega⟩ (rm_iv1 ⟨by omega, by omega⟩ rm_iv0)))))
        · exact rm_case C0 rm_cs_f_gzl (by decide +kernel) rm_r_f_gzl (rm_iv1 ⟨by omega, by omega⟩ (rm_iv1 ⟨by omega, by omega⟩ (rm_iv1 ⟨by omega, by omega⟩ (rm_iv1 ⟨by omega, by omega⟩ rm_iv0))))
        · rcases (show (rm_vals xs 30).toInt = 0 ∨ (1 ≤ (rm_vals xs 30).toInt ∧ (rm_vals xs 30).toInt ≤ 31) ∨ (32 ≤ (rm_vals xs 30).toInt ∧ (rm_vals xs 30).toInt ≤ 126) ∨ 127 ≤ (rm_vals xs 30).toInt by omega) with h30 | h30 | h30 | h30
          · exact rm_case C0 rm_cs_f_gzgz (by decide +kernel) rm_r_f_gzgz (rm_iv1 ⟨by omega, by omega⟩ (rm_iv1 ⟨by omega, by omega⟩ (rm_iv1 ⟨by omega, by omega⟩ (rm_iv1 ⟨by omega, by omega⟩ (rm_iv1 ⟨by omega, by omega⟩ rm_iv0)))))
          · exact rm_case C0 rm_cs_f_gzgl (by decide +kernel) rm_r_f_gzgl (rm_iv1 ⟨by omega, by omega⟩ (rm_iv1 ⟨by omega, by omega⟩ (rm_iv1 ⟨by omega, by omega⟩ (rm_iv1 ⟨by omega, by omega⟩ (rm_iv1 ⟨by omega, by omega⟩ rm_iv0)))))
          · exact rm_case C0 rm_cs_f_gzgg (by decide +kernel) rm_r_f_gzgg (rm_iv1 ⟨by omega, by omega⟩ (rm_iv1 ⟨by omega, by omega⟩ (rm_iv1 ⟨by omega, by omega⟩ (rm_iv1 ⟨by omega, by omega⟩ (rm_iv1 ⟨by omega, by omega⟩ rm_iv0)))))
          · exact rm_case C0 rm_cs_f_gzgh (by decide +kernel) rm_r_f_gzgh (rm_iv1 ⟨by omega, by omega⟩ (rm_iv1 ⟨by omega, by omega⟩ (rm_iv1 ⟨by omega, by omega⟩ (rm_iv1 ⟨by omega, by omega⟩ (rm_iv1 ⟨by omega, by omega⟩ rm_iv0)))))
        · exact rm_case C0 rm_cs_f_gzh (by decide +kernel) rm_r_f_gzh (rm_iv1 ⟨by omega, by omega⟩ (rm_iv1 ⟨by omega, by omega⟩ (rm_iv1 ⟨by omega, by omega⟩ (rm_iv1 ⟨by omega, by omega⟩ rm_iv0))))
      · exact rm_case C0 rm_cs_f_gl (by decide +kernel) rm_r_f_gl (rm_iv1 ⟨by omega, by omega⟩ (rm_iv1 ⟨by omega, by omega⟩ (rm_iv1 ⟨by omega, by omega⟩ rm_iv0)))
      · rcases (show (rm_vals xs 31).toInt = 0 ∨ (1 ≤ (rm_vals xs 31).toInt ∧ (rm_vals xs 31).toInt ≤ 31) ∨ (32 ≤ (rm_vals xs 31).toInt ∧ (rm_vals xs 31).toInt ≤ 126) ∨ 127 ≤ (rm_vals xs 31).toInt by omega) with h31 | h31 | h31 | h31
        · rcases (show (rm_vals xs 30).toInt = 0 ∨ (1 ≤ (rm_vals xs 30).toInt ∧ (rm_vals xs 30).toInt ≤ 31) ∨ (32 ≤ (rm_vals xs 30).toInt ∧ (rm_vals xs 30).toInt ≤ 126) ∨ 127 ≤ (rm_vals xs 30).toInt by omega) with h30 | h30 | h30 | h30
          · exact rm_case C0 rm_cs_f_ggzz (by decide +kernel) rm_r_f_ggzz (rm_iv1 ⟨by omega, by omega⟩ (rm_iv1 ⟨by omega, by omega⟩ (rm_iv1 ⟨by omega, by omega⟩ (rm_iv1 ⟨by omega, by omega⟩ (rm_iv1 ⟨by omega, by omega⟩ rm_iv0)))))
          · exact rm_case C0 rm_cs_f_ggzl (by decide +kernel) rm_r_f_ggzl (rm_iv1 ⟨by omega, by omega⟩ (rm_iv1 ⟨by omega, by omega⟩ (rm_iv1 ⟨by omega, by omega⟩ (rm_iv1 ⟨by omega, by omega⟩ (rm_iv1 ⟨by omega, by omega⟩ rm_iv0)))))
          · exact rm_case C0 rm_cs_f_ggzg (by decide +kernel) rm_r_f_ggzg (rm_iv1 ⟨by omega, by omega⟩ (rm_iv1 ⟨by omega, by omega⟩ (rm_iv1 ⟨by omega, by omega⟩ (rm_iv1 ⟨by omega, by omega⟩ (rm_iv1 ⟨by omega, by omega⟩ rm_iv0)))))
          · exact rm_case C0 rm_cs_f_ggzh (by decide +kernel) rm_r_f_ggzh (rm_iv1 ⟨by omega, by omega⟩ (rm_iv1 ⟨by omega, by omega⟩ (rm_iv1 ⟨by omega, by omega⟩ (rm_iv1 ⟨by omega, by omega⟩ (rm_iv1 ⟨by omega, by omega⟩ rm_iv0)))))
        · exact rm_case C0 rm_cs_f_ggl (by decide +kernel) rm_r_f_ggl (rm_iv1 ⟨by omega, by omega⟩ (rm_iv1 ⟨by omega, by omega⟩ (rm_iv1 ⟨by omega, by omega⟩ (rm_iv1 ⟨by omega, by omega⟩ rm_iv0))))
        · rcases (show (rm_vals xs 30).toInt = 0 ∨ (1 ≤ (rm_vals xs 30).toInt ∧ (rm_vals xs 30).toInt ≤ 31) ∨ (32 ≤ (rm_vals xs 30).toInt ∧ (rm_vals xs 30).toInt ≤ 126) ∨ 127 ≤ (rm_vals xs 30).toInt by omega) with h30 | h30 | h30 | h30
          · exact rm_case C0 rm_cs_f_gggz (by decide +kernel) rm_r_f_gggz (rm_iv1 ⟨by omega, by omega⟩ (rm_iv1 ⟨by omega, by omega⟩ (rm_iv1 ⟨by omega, by omega⟩ (rm_iv1 ⟨by omega, by omega⟩ (rm_iv1 ⟨by omega, by omega⟩ rm_iv0)))))
          · exact rm_case C0 rm_cs_f_gggl (by decide +kernel) rm_r_f_gggl (rm_iv1 ⟨by omega, by omega⟩ (rm_iv1 ⟨by omega, by omega⟩ (rm_iv1 ⟨by omega, by omega⟩ (rm_iv1 ⟨by omega, by omega⟩ (rm_iv1 ⟨by omega, by omega⟩ rm_iv0)))))
          · exact rm_case C0 rm_cs_f_gggg (by decide +kernel) rm_r_f_gggg (rm_iv1 ⟨by omega, by omega⟩ (rm_iv1 ⟨by omega, by omega⟩ (rm_iv1 ⟨by omega, by omega⟩ (rm_iv1 ⟨by omega, by omega⟩ (rm_iv1 ⟨by omega, by omega⟩ rm_iv0)))))
          · exact rm_case C0 rm_cs_f_gggh (by decide +kernel) rm_r_f_gggh (rm_iv1 ⟨by omega, by omega⟩ (rm_iv1 ⟨by omega, by omega⟩ (rm_iv1 ⟨by omega, by omega⟩ (rm_iv1 ⟨by omega, by omega⟩ (rm_iv1 ⟨by omega, by omega⟩ rm_iv0)))))
        · exact rm_case C0 rm_cs_f_ggh (by decide +kernel) rm_r_f_ggh (rm_iv1 ⟨by omega, by omega⟩ (rm_iv1 ⟨by omega, by omega⟩ (rm_iv1 ⟨by omega, by omega⟩ (rm_iv1 ⟨by omega, by omega⟩ rm_iv0))))
      · exact rm_case C0 rm_cs_f_gh (by decide +kernel) rm_r_f_gh (rm_iv1 ⟨by omega, by omega⟩ (rm_iv1 ⟨by omega, by omega⟩ (rm_iv1 ⟨by omega, by omega⟩ rm_iv0)))
    · exact rm_case C0 rm_cs_f_h (by decide +kernel) rm_r_f_h (rm_iv1 ⟨by omega, by omega⟩ (rm_iv1 ⟨by omega, by omega⟩ rm_iv0))
  · rcases (show (rm_vals xs 1).toInt ≤ -1 ∨ (rm_vals xs 1).toInt = 0 ∨ (rm_vals xs 1).toInt = 1 ∨ (rm_vals xs 1).toInt = 2 ∨ (3 ≤ (rm_vals xs 1).toInt ∧ (rm_vals xs 1).toInt ≤ 5) ∨ 6 ≤ (rm_vals xs 1).toInt by omega) with h | h | h | h | h | h
    · exact rm_case C0 rm_cs_c0 (by decide +kernel) rm_r_c0 (rm_iv1 ⟨by omega, by omega⟩ (rm_iv1 ⟨by omega, by omega⟩ rm_iv0))
    · exact rm_case C0 rm_cs_c1 (by decide +kernel) rm_r_c1 (rm_iv1 ⟨by omega, by omega⟩ (rm_iv1 ⟨by omega, by omega⟩ rm_iv0))
    · exact rm_case C0 rm_cs_c2 (by decide +kernel) rm_r_c2 (rm_iv1 ⟨by omega, by omega⟩ (rm_iv1 ⟨by omega, by omega⟩ rm_iv0))
    · exact rm_case C0 rm_cs_c3 (by decide +kernel) rm_r_c3 (rm_iv1 ⟨by omega, by omega⟩ (rm_iv1 ⟨by omega, by omega⟩ rm_iv0))
    · exact rm_case C0 rm_cs_c4 (by decide +kernel) rm_r_c4 (rm_iv1 ⟨by omega, by omega⟩ (rm_iv1 ⟨by omega, by omega⟩ rm_iv0))
    · exact rm_case C0 rm_cs_c5 (by decide +kernel) rm_r_c5 (rm_iv1 ⟨by omega, by omega⟩ (rm_iv1 ⟨by omega, by omega⟩ rm_iv0))
  · rcases (show (rm_vals xs 2).toInt ≤ 0 ∨ 1000000001 ≤ (rm_vals xs 2).toInt ∨ (1 ≤ (rm_vals xs 2).toInt ∧ (rm_vals xs 2).toInt ≤ 1000000000) by omega) with h | h | h
    · exact rm_case C0 rm_cs_e0 (by decide +kernel) rm_r_e0 (rm_iv1 ⟨by omega, by omega⟩ (rm_iv1 ⟨by omega, by omega⟩ rm_iv0))
    · exact rm_case C0 rm_cs_e1 (by decide +kernel) rm_r_e1 (rm_iv1 ⟨by omega, by omega⟩ (rm_iv1 ⟨by omega, by omega⟩ rm_iv0))
    · rcases (show (rm_vals xs 1).toInt ≤ -1000000001 ∨ 1000000001 ≤ (rm_vals xs 1).toInt ∨ (-1000000000 ≤ (rm_vals xs 1).toInt ∧ (rm_vals xs 1).toInt ≤ 1000000000) by omega) with g | g | g
      · exact rm_case C0 rm_cs_e2 (by decide +kernel) rm_r_e2 (rm_iv1 ⟨by omega, by omega⟩ (rm_iv1 ⟨by omega, by omega⟩ (rm_iv1 ⟨by omega, by omega⟩ rm_iv0)))
      · exact rm_case C0 rm_cs_e3 (by decide +kernel) rm_r_e3 (rm_iv1 ⟨by omega, by omega⟩ (rm_iv1 ⟨by omega, by omega⟩ (rm_iv1 ⟨by omega, by omega⟩ rm_iv0)))
      · exact rm_case C0 rm_cs_e4 (by decide +kernel) rm_r_e4 (rm_iv1 ⟨by omega, by omega⟩ (rm_iv1 ⟨by omega, by omega⟩ (rm_iv1 ⟨by omega, by omega⟩ rm_iv0)))
  · exact rm_case C0 rm_cs_o2 (by decide +kernel) rm_r_o2 (rm_iv1 ⟨by omega, by omega⟩ rm_iv0)
  · exact rm_case C0 rm_cs_o4 (by decide +kernel) rm_r_o4 (rm_iv1 ⟨by omega, by omega⟩ rm_iv0)
  · exact rm_case C0 rm_cs_o5 (by decide +kernel) rm_r_o5 (rm_iv1 ⟨by omega, by omega⟩ rm_iv0)
  · exact rm_case C0 rm_cs_o6 (by decide +kernel) rm_r_o6 (rm_iv1 ⟨by omega, by omega⟩ rm_iv0)
  · exact rm_case C0 rm_cs_o7 (by decide +kernel) rm_r_o7 (rm_iv1 ⟨by omega, by omega⟩ rm_iv0)
  · exact rm_case C0 rm_cs_o8 (by decide +kernel) rm_r_o8 (rm_iv1 ⟨by omega, by omega⟩ rm_iv0)
  · exact rm_case C0 rm_cs_o9 (by decide +kernel) rm_r_o9 (rm_iv1 ⟨by omega, by omega⟩ rm_iv0)
  · exact rm_case C0 rm_cs_o10 (by decide +kernel) rm_r_o10 (rm_iv1 ⟨by omega, by omega⟩ rm_iv0)
  · exact rm_case C0 rm_cs_o11 (by decide +kernel) rm_r_o11 (rm_iv1 ⟨by omega, by omega⟩ rm_iv0)
  · exact rm_case C0 rm_cs_o12 (by decide +kernel) rm_r_o12 (rm_iv1 ⟨by omega, by omega⟩ rm_iv0)
  · exact rm_case C0 rm_cs_o14 (by decide +kernel) rm_r_o14 (rm_iv1 ⟨by omega, by omega⟩ rm_iv0)
  · exact rm_case C0 rm_cs_o15 (by decide +kernel) rm_r_o15 (rm_iv1 ⟨by omega, by omega⟩ rm_iv0)
set_option maxHeartbeats 4000000 in
theorem lw_walk (l : Launch) (b : Addr) (xs : List Int32) : MetFree l x (headSpec (Jvm.Cond.code x code maxLocals ret :: tables_1) room_1) (lw_P b xs) (fun _ _ _ _ _ => True) lw_Q := by
  refine MetFree.of_bodyS (code := code) (maxLocals := maxLocals) (ret := ret) (by decide) ?_ ?_
  · intro args s m h hn
    obtain ⟨meth, c, h1, h2, h3, h4, h5, h6, -, -⟩ := Cond.code_spec hn (atoms_spec (ws := Jvm.Cond.code x code maxLocals ret :: tables_1) h _ List.mem_cons_self)
    exact ⟨meth, c, h1, h2, h3, h4, h5, h6⟩
  · intro p e s m args below meth c s₁ B hml0 hP _
    obtain ⟨rfl, hx, hbd, hgv⟩ := hP
    obtain ⟨scr, harrAt, hlist, hof, hsmall⟩ := hx
    obtain ⟨hcb, hkn, -, -⟩ := State.arrayAt?_spec harrAt
    have hown : s.vm.findClass R_law = some m.cls := findClass_of_methodNamed B.named
    have hts0 : ∀ c ∈ (Jvm.Cond.code x code maxLocals ret :: tables_1), c.before #[Value.ref b] s = true := atoms_spec (ws := Jvm.Cond.code x code maxLocals ret :: tables_1) B.pre
    have hts : ∀ w ∈ lw_tbl, w.before #[Value.ref b] s = true := k2_hts_sels lw_privs (fun w hw => hts0 w (List.mem_cons_of_mem _ hw)) lw_privs_ok
    have hml : c.maxLocals = 4 := B.maxLocals_eq (hts0 _ List.mem_cons_self)
    have X₀ : Stand p l e room_1 s m #[Value.ref b] below meth c s₁ [] 0 0 := Stand.of_body B
    have hh0 : s₁.heap = s.heap := by rw [B.state]; rfl
    have hsz : scr.slots.size = xs.length := by rw [← Array.length_toList, hlist, List.length_map]
    have hval : ∀ j : Nat, j < xs.length → scr.slots[j]? = some (.int (xs.getD j 0)) := fun j hj => by
      rw [← Array.getElem?_toList, hlist]
      simp [hj]
    have hbl : b < s.heap.size := (Array.getElem?_eq_some_iff.mp hcb).1
    have hX : va_X b xs.length (fun j => xs.getD j 0) s s.heap := ⟨scr, hcb, hof, hkn, hsz, hval⟩
    have K : W p l e room_1 s m #[Value.ref b] below meth c s₁.heap [] 0 0 (lw_Z below #[Value.ref b] s) (entryFrame m ([Value.ref b] : List Value).toArray 4) := by
      rw [hh0]
      exact whole_start l hbd ⟨B.exec, B.bytes, B.returns, hml, hown, hts, hX, hbl, B.notSynchronized, hgv⟩
    obtain ⟨t, a1, o, b1, b2, b3⟩ := K s₁ rfl X₀
    exact ⟨t, o, a1, b1, b2, b3⟩
theorem lw_pre_spec {args : Array Value} {s : State} (h : (Jvm.Cond.and given_1 narrow_1).before args s = true) (hr : rest_1_c.before args s = true) : ∃ (b : Addr) (xs : List Int32), lw_P b xs args s := by
  have hs := flat_of_before _ h
  have hq := flat_of_before _ hr
  have hc : (Cond.count 1).before args s = true := hs _ (by decide +kernel)
  have harr : (Cond.arrayOf (.arg 0) .int).before args s = true := hs _ (by decide +kernel)
  have hle : (Cond.le (.length (.arg 0)) (.int 4)).before args s = true := hs _ (by decide +kernel)
  have hlen : (Cond.isInt (.length (.arg 0))).before args s = true := hq _ (by decide +kernel)
  have hall : (Cond.all (.arg 0) (.isInt (.elem (.arg 0) (.index 0)))).before args s = true := hq _ (by decide +kernel)
  obtain ⟨b, xs, hb, hx⟩ := State.ints_of_pre rfl harr hlen hall
  have hsm : xs.length < 2 ^ 31 := hx.choose_spec.2.2.2
  have hev : (Term.length (.arg 0)).eval args s none [] s = some (.int xs.length.toInt32) := hx.length_eval hb
  have hv := Cond.le_ints hev (show (Term.int 4).eval args s none [] s = some (.int 4) from rfl)
  have hd : xs.length.toInt32 ≤ 4 := by
    simpa [Cond.before, Cond.holds, hv] using hle
  have hN : xs.length ≤ 4 := (Int32.ofNat_le_ofNat hsm (by decide)).mp (show Int32.ofNat xs.length ≤ Int32.ofNat 4 from hd)
  exact ⟨b, xs, Cond.one_arg hc (show args[0]? = some (.ref b) from hb), hx, hN, h⟩
theorem lw_comes (l : Launch) : Comes l x (Jvm.Cond.code x code maxLocals ret :: tables_1) room_1 (fun tb e args s => Calls_1 tb e args s ∧ rest_1 tb e args s ∧ Pre_1 tb e args s)
    (fun _ _ args s o t => lw_Q args s o t) := by
  intro p e ha hc hk s m args below hf hfit hheap happ hpre
  obtain ⟨b, xs, hP⟩ := lw_pre_spec hpre.2.2 hpre.2.1
  obtain ⟨k, o, h1, h2, h3, hQ⟩ := lw_walk l b xs p e ha hc hk s m args below hf ((Spec.applies_iff_loose hf).mp happ).1 hP trivial
  exact ⟨k, o, h1, h2, h3, hQ⟩
theorem lw_frame {s t : State} {o : Outcome} {args : Array Value} (h : Framed s o t [] 600000 7302250) :
    Framed s o t (fieldLocs frame_1_writes args s ++ arrayLocs frame_1_arrays args s ++ staticLocs frame_1_statics s) 600000 7302250 := h
theorem lw_limb (L : Cond) (hL : ∀ (args : Array Value) (s t : State), L.after args s (.returned (some (.int 1))) t = true) :
    ArmFor flags0 classFile x code maxLocals ret World_1 tables_1 room_1 Calls_1 rest_1 Pre_1
      (fun tb e a s o t => postC L tb e a s o t ∧ Framed s o t (fieldLocs frame_1_writes a s ++ arrayLocs frame_1_arrays a s ++ staticLocs frame_1_statics s) 600000 7302250) := by
  intro l _ _ _ p e ha hc hk s m args below hf hfit hheap happ hpre
  obtain ⟨k, o, h1, h2, h3, rfl, hF⟩ := lw_comes l p e ha hc hk s m args below hf hfit hheap happ hpre
  exact ⟨k, _, h1, h2, h3, hL args s _, lw_frame hF⟩
theorem i_vc : Claimed_1_1 ∧ Claimed_1_2 := ⟨lw_limb limb_1_1 (fun args s t => by simp [limb_1_1, Cond.after, Cond.holds, Cond.value]), lw_limb limb_1_2 (fun args s t => Cond.after_iff.mpr (by
  first | (rw [show limb_1_2 = Cond.eq .result (.int 1) from rfl, Cond.eq_ints (x := 1) (y := 1) rfl rfl]; simp; done) | (simp [limb_1_2, Cond.value, Term.eval]; done)))⟩
end
