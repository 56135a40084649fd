section
-- ===== PART A: goes FIRST, ahead of the names: the tables' words, and 'selects' of the private methods out of them =====
/-- a private method of a class that the tables say can be made, by its rows of tables_1 -/
def lw_okq (q : MethodName × Nat) : Prop := (q.1.cls ≠ "java/lang/invoke/MethodHandle" ∧ q.1.cls ≠ "java/lang/invoke/VarHandle") ∧ Cond.instantiable q.1.cls q.2 ∈ tables_1 ∧ Cond.privateMethod q.1 ∈ tables_1 ∧ Cond.instanceMethod q.1 ∈ tables_1
theorem lw_p0 : lw_okq (⟨"RootJudge$Reader", "look", "()V"⟩, 14) := ⟨⟨by decide +kernel, by decide +kernel⟩, List.mem_of_getElem? (i := 35) (by decide +kernel), List.mem_of_getElem? (i := 473) (by decide +kernel), List.mem_of_getElem? (i := 474) (by decide +kernel)⟩
theorem lw_p1 : lw_okq (⟨"RootJudge$Reader", "fail", "(II)V"⟩, 14) := ⟨⟨by decide +kernel, by decide +kernel⟩, List.mem_of_getElem? (i := 35) (by decide +kernel), List.mem_of_getElem? (i := 563) (by decide +kernel), List.mem_of_getElem? (i := 564) (by decide +kernel)⟩
theorem lw_p2 : lw_okq (⟨"RootJudge$Reader", "readText", "(I)V"⟩, 14) := ⟨⟨by decide +kernel, by decide +kernel⟩, List.mem_of_getElem? (i := 35) (by decide +kernel), List.mem_of_getElem? (i := 567) (by decide +kernel), List.mem_of_getElem? (i := 568) (by decide +kernel)⟩
theorem lw_p3 : lw_okq (⟨"RootJudge$Reader", "readAll", "(I)V"⟩, 14) := ⟨⟨by decide +kernel, by decide +kernel⟩, List.mem_of_getElem? (i := 35) (by decide +kernel), List.mem_of_getElem? (i := 571) (by decide +kernel), List.mem_of_getElem? (i := 572) (by decide +kernel)⟩
theorem lw_p4 : lw_okq (⟨"RootJudge$Reader", "readOne", "(I)V"⟩, 14) := ⟨⟨by decide +kernel, by decide +kernel⟩, List.mem_of_getElem? (i := 35) (by decide +kernel), List.mem_of_getElem? (i := 575) (by decide +kernel), List.mem_of_getElem? (i := 576) (by decide +kernel)⟩
theorem lw_p5 : lw_okq (⟨"RootJudge$Reader", "step", "()V"⟩, 14) := ⟨⟨by decide +kernel, by decide +kernel⟩, List.mem_of_getElem? (i := 35) (by decide +kernel), List.mem_of_getElem? (i := 579) (by decide +kernel), List.mem_of_getElem? (i := 580) (by decide +kernel)⟩
theorem lw_p6 : lw_okq (⟨"RootJudge$Reader", "readAtom", "()V"⟩, 14) := ⟨⟨by decide +kernel, by decide +kernel⟩, List.mem_of_getElem? (i := 35) (by decide +kernel), List.mem_of_getElem? (i := 583) (by decide +kernel), List.mem_of_getElem? (i := 584) (by decide +kernel)⟩
theorem lw_p7 : lw_okq (⟨"RootJudge$Reader", "readSum", "(II)V"⟩, 14) := ⟨⟨by decide +kernel, by decide +kernel⟩, List.mem_of_getElem? (i := 35) (by decide +kernel), List.mem_of_getElem? (i := 587) (by decide +kernel), List.mem_of_getElem? (i := 588) (by decide +kernel)⟩
theorem lw_p8 : lw_okq (⟨"RootJudge$Reader", "readTerm", "(II)V"⟩, 14) := ⟨⟨by decide +kernel, by decide +kernel⟩, List.mem_of_getElem? (i := 35) (by decide +kernel), List.mem_of_getElem? (i := 591) (by decide +kernel), List.mem_of_getElem? (i := 592) (by decide +kernel)⟩
theorem lw_p9 : lw_okq (⟨"RootJudge$Reader", "readPower", "(II)V"⟩, 14) := ⟨⟨by decide +kernel, by decide +kernel⟩, List.mem_of_getElem? (i := 35) (by decide +kernel), List.mem_of_getElem? (i := 595) (by decide +kernel), List.mem_of_getElem? (i := 596) (by decide +kernel)⟩
theorem lw_p10 : lw_okq (⟨"RootJudge$Reader", "readBase", "(II)V"⟩, 14) := ⟨⟨by decide +kernel, by decide +kernel⟩, List.mem_of_getElem? (i := 35) (by decide +kernel), List.mem_of_getElem? (i := 599) (by decide +kernel), List.mem_of_getElem? (i := 600) (by decide +kernel)⟩
theorem lw_p11 : lw_okq (⟨"RootJudge$Reader", "slot", "(I)LRootJudge$Poly;"⟩, 14) := ⟨⟨by decide +kernel, by decide +kernel⟩, List.mem_of_getElem? (i := 35) (by decide +kernel), List.mem_of_getElem? (i := 603) (by decide +kernel), List.mem_of_getElem? (i := 604) (by decide +kernel)⟩
theorem lw_p12 : lw_okq (⟨"RootJudge$Reader", "readNumber", "()I"⟩, 14) := ⟨⟨by decide +kernel, by decide +kernel⟩, List.mem_of_getElem? (i := 35) (by decide +kernel), List.mem_of_getElem? (i := 616) (by decide +kernel), List.mem_of_getElem? (i := 617) (by decide +kernel)⟩
theorem lw_p13 : lw_okq (⟨"RootJudge$Reader", "expect", "(I)V"⟩, 14) := ⟨⟨by decide +kernel, by decide +kernel⟩, List.mem_of_getElem? (i := 35) (by decide +kernel), List.mem_of_getElem? (i := 621) (by decide +kernel), List.mem_of_getElem? (i := 622) (by decide +kernel)⟩
theorem lw_p14 : lw_okq (⟨"RootJudge$Reader", "raise", "(LRootJudge$Poly;II)V"⟩, 14) := ⟨⟨by decide +kernel, by decide +kernel⟩, List.mem_of_getElem? (i := 35) (by decide +kernel), List.mem_of_getElem? (i := 625) (by decide +kernel), List.mem_of_getElem? (i := 626) (by decide +kernel)⟩
theorem lw_p15 : lw_okq (⟨"RootJudge$Reader", "multiply", "(LRootJudge$Poly;LRootJudge$Poly;I)V"⟩, 14) := ⟨⟨by decide +kernel, by decide +kernel⟩, List.mem_of_getElem? (i := 35) (by decide +kernel), List.mem_of_getElem? (i := 634) (by decide +kernel), List.mem_of_getElem? (i := 635) (by decide +kernel)⟩
def lw_privs_1 : List (MethodName × Nat) := [(⟨"RootJudge$Reader", "look", "()V"⟩, 14), (⟨"RootJudge$Reader", "fail", "(II)V"⟩, 14), (⟨"RootJudge$Reader", "readText", "(I)V"⟩, 14), (⟨"RootJudge$Reader", "readAll", "(I)V"⟩, 14), (⟨"RootJudge$Reader", "readOne", "(I)V"⟩, 14), (⟨"RootJudge$Reader", "step", "()V"⟩, 14), (⟨"RootJudge$Reader", "readAtom", "()V"⟩, 14), (⟨"RootJudge$Reader", "readSum", "(II)V"⟩, 14), (⟨"RootJudge$Reader", "readTerm", "(II)V"⟩, 14), (⟨"RootJudge$Reader", "readPower", "(II)V"⟩, 14), (⟨"RootJudge$Reader", "readBase", "(II)V"⟩, 14), (⟨"RootJudge$Reader", "slot", "(I)LRootJudge$Poly;"⟩, 14), (⟨"RootJudge$Reader", "readNumber", "()I"⟩, 14), (⟨"RootJudge$Reader", "expect", "(I)V"⟩, 14), (⟨"RootJudge$Reader", "raise", "(LRootJudge$Poly;II)V"⟩, 14), (⟨"RootJudge$Reader", "multiply", "(LRootJudge$Poly;LRootJudge$Poly;I)V"⟩, 14)]
theorem lw_r1 : ∀ q ∈ lw_privs_1, lw_okq q := List.forall_mem_cons.mpr ⟨lw_p0, List.forall_mem_cons.mpr ⟨lw_p1, List.forall_mem_cons.mpr ⟨lw_p2, List.forall_mem_cons.mpr ⟨lw_p3, List.forall_mem_cons.mpr ⟨lw_p4, List.forall_mem_cons.mpr ⟨lw_p5, List.forall_mem_cons.mpr ⟨lw_p6, List.forall_mem_cons.mpr ⟨lw_p7, List.forall_mem_cons.mpr ⟨lw_p8, List.forall_mem_cons.mpr ⟨lw_p9, List.forall_mem_cons.mpr ⟨lw_p10, List.forall_mem_cons.mpr ⟨lw_p11, List.forall_mem_cons.mpr ⟨lw_p12, List.forall_mem_cons.mpr ⟨lw_p13, List.forall_mem_cons.mpr ⟨lw_p14, List.forall_mem_cons.mpr ⟨lw_p15, fun _ h => absurd h List.not_mem_nil⟩⟩⟩⟩⟩⟩⟩⟩⟩⟩⟩⟩⟩⟩⟩⟩
theorem lw_p16 : lw_okq (⟨"RootJudge$Reader", "accept", "(LRootJudge$Poly;I)V"⟩, 14) := ⟨⟨by decide +kernel, by decide +kernel⟩, List.mem_of_getElem? (i := 35) (by decide +kernel), List.mem_of_getElem? (i := 638) (by decide +kernel), List.mem_of_getElem? (i := 639) (by decide +kernel)⟩
theorem lw_p17 : lw_okq (⟨"RootJudge$Reader", "addTo", "(LRootJudge$Poly;LRootJudge$Poly;II)V"⟩, 14) := ⟨⟨by decide +kernel, by decide +kernel⟩, List.mem_of_getElem? (i := 35) (by decide +kernel), List.mem_of_getElem? (i := 650) (by decide +kernel), List.mem_of_getElem? (i := 651) (by decide +kernel)⟩
theorem lw_p18 : lw_okq (⟨"RootJudge$Reader", "emit", "(I)V"⟩, 14) := ⟨⟨by decide +kernel, by decide +kernel⟩, List.mem_of_getElem? (i := 35) (by decide +kernel), List.mem_of_getElem? (i := 655) (by decide +kernel), List.mem_of_getElem? (i := 656) (by decide +kernel)⟩
theorem lw_p19 : lw_okq (⟨"RootJudge$Divider", "imageModulo", "(LRootJudge$Poly;LRootJudge$Poly;J)I"⟩, 8) := ⟨⟨by decide +kernel, by decide +kernel⟩, List.mem_of_getElem? (i := 134) (by decide +kernel), List.mem_of_getElem? (i := 688) (by decide +kernel), List.mem_of_getElem? (i := 689) (by decide +kernel)⟩
theorem lw_p20 : lw_okq (⟨"RootJudge$Divider", "rebuild", "(JIJJ)V"⟩, 8) := ⟨⟨by decide +kernel, by decide +kernel⟩, List.mem_of_getElem? (i := 134) (by decide +kernel), List.mem_of_getElem? (i := 707) (by decide +kernel), List.mem_of_getElem? (i := 708) (by decide +kernel)⟩
theorem lw_p21 : lw_okq (⟨"RootJudge$Basis", "foldRest", "(I)V"⟩, 8) := ⟨⟨by decide +kernel, by decide +kernel⟩, List.mem_of_getElem? (i := 126) (by decide +kernel), List.mem_of_getElem? (i := 724) (by decide +kernel), List.mem_of_getElem? (i := 725) (by decide +kernel)⟩
theorem lw_p22 : lw_okq (⟨"RootJudge$Parter", "begin", "(LRootJudge$Poly;I)V"⟩, 6) := ⟨⟨by decide +kernel, by decide +kernel⟩, List.mem_of_getElem? (i := 197) (by decide +kernel), List.mem_of_getElem? (i := 762) (by decide +kernel), List.mem_of_getElem? (i := 763) (by decide +kernel)⟩
theorem lw_p23 : lw_okq (⟨"RootJudge$Big", "trim", "()V"⟩, 3) := ⟨⟨by decide +kernel, by decide +kernel⟩, List.mem_of_getElem? (i := 204) (by decide +kernel), List.mem_of_getElem? (i := 772) (by decide +kernel), List.mem_of_getElem? (i := 773) (by decide +kernel)⟩
theorem lw_p24 : lw_okq (⟨"RootJudge$Parter", "moveBy", "([LRootJudge$Big;I)V"⟩, 6) := ⟨⟨by decide +kernel, by decide +kernel⟩, List.mem_of_getElem? (i := 197) (by decide +kernel), List.mem_of_getElem? (i := 776) (by decide +kernel), List.mem_of_getElem? (i := 777) (by decide +kernel)⟩
theorem lw_p25 : lw_okq (⟨"RootJudge$Big", "grow", "(LRootJudge$Big;)V"⟩, 3) := ⟨⟨by decide +kernel, by decide +kernel⟩, List.mem_of_getElem? (i := 204) (by decide +kernel), List.mem_of_getElem? (i := 791) (by decide +kernel), List.mem_of_getElem? (i := 792) (by decide +kernel)⟩
theorem lw_p26 : lw_okq (⟨"RootJudge$Big", "shrink", "(LRootJudge$Big;)V"⟩, 3) := ⟨⟨by decide +kernel, by decide +kernel⟩, List.mem_of_getElem? (i := 204) (by decide +kernel), List.mem_of_getElem? (i := 795) (by decide +kernel), List.mem_of_getElem? (i := 796) (by decide +kernel)⟩
theorem lw_p27 : lw_okq (⟨"RootJudge$Parter", "dropZero", "()V"⟩, 6) := ⟨⟨by decide +kernel, by decide +kernel⟩, List.mem_of_getElem? (i := 197) (by decide +kernel), List.mem_of_getElem? (i := 806) (by decide +kernel), List.mem_of_getElem? (i := 807) (by decide +kernel)⟩
theorem lw_p28 : lw_okq (⟨"RootJudge$Parter", "changes", "()I"⟩, 6) := ⟨⟨by decide +kernel, by decide +kernel⟩, List.mem_of_getElem? (i := 197) (by decide +kernel), List.mem_of_getElem? (i := 811) (by decide +kernel), List.mem_of_getElem? (i := 812) (by decide +kernel)⟩
theorem lw_p29 : lw_okq (⟨"RootJudge$Parter", "mixed", "([LRootJudge$Big;)Z"⟩, 6) := ⟨⟨by decide +kernel, by decide +kernel⟩, List.mem_of_getElem? (i := 197) (by decide +kernel), List.mem_of_getElem? (i := 815) (by decide +kernel), List.mem_of_getElem? (i := 816) (by decide +kernel)⟩
theorem lw_p30 : lw_okq (⟨"RootJudge$Parter", "halve", "()V"⟩, 6) := ⟨⟨by decide +kernel, by decide +kernel⟩, List.mem_of_getElem? (i := 197) (by decide +kernel), List.mem_of_getElem? (i := 819) (by decide +kernel), List.mem_of_getElem? (i := 820) (by decide +kernel)⟩
theorem lw_p31 : lw_okq (⟨"RootJudge$Parter", "stepOn", "(I)Z"⟩, 6) := ⟨⟨by decide +kernel, by decide +kernel⟩, List.mem_of_getElem? (i := 197) (by decide +kernel), List.mem_of_getElem? (i := 823) (by decide +kernel), List.mem_of_getElem? (i := 824) (by decide +kernel)⟩
def lw_privs_2 : List (MethodName × Nat) := [(⟨"RootJudge$Reader", "accept", "(LRootJudge$Poly;I)V"⟩, 14), (⟨"RootJudge$Reader", "addTo", "(LRootJudge$Poly;LRootJudge$Poly;II)V"⟩, 14), (⟨"RootJudge$Reader", "emit", "(I)V"⟩, 14), (⟨"RootJudge$Divider", "imageModulo", "(LRootJudge$Poly;LRootJudge$Poly;J)I"⟩, 8), (⟨"RootJudge$Divider", "rebuild", "(JIJJ)V"⟩, 8), (⟨"RootJudge$Basis", "foldRest", "(I)V"⟩, 8), (⟨"RootJudge$Parter", "begin", "(LRootJudge$Poly;I)V"⟩, 6), (⟨"RootJudge$Big", "trim", "()V"⟩, 3), (⟨"RootJudge$Parter", "moveBy", "([LRootJudge$Big;I)V"⟩, 6), (⟨"RootJudge$Big", "grow", "(LRootJudge$Big;)V"⟩, 3), (⟨"RootJudge$Big", "shrink", "(LRootJudge$Big;)V"⟩, 3), (⟨"RootJudge$Parter", "dropZero", "()V"⟩, 6), (⟨"RootJudge$Parter", "changes", "()I"⟩, 6), (⟨"RootJudge$Parter", "mixed", "([LRootJudge$Big;)Z"⟩, 6), (⟨"RootJudge$Parter", "halve", "()V"⟩, 6), (⟨"RootJudge$Parter", "stepOn", "(I)Z"⟩, 6)]
theorem lw_r2 : ∀ q ∈ lw_privs_2, lw_okq q := List.forall_mem_cons.mpr ⟨lw_p16, List.forall_mem_cons.mpr ⟨lw_p17, List.forall_mem_cons.mpr ⟨lw_p18, List.forall_mem_cons.mpr ⟨lw_p19, List.forall_mem_cons.mpr ⟨lw_p20, List.forall_mem_cons.mpr ⟨lw_p21, List.forall_mem_cons.mpr ⟨lw_p22, List.forall_mem_cons.mpr ⟨lw_p23, List.forall_mem_cons.mpr ⟨lw_p24, List.forall_mem_cons.mpr ⟨lw_p25, List.forall_mem_cons.mpr ⟨lw_p26, List.forall_mem_cons.mpr ⟨lw_p27, List.forall_mem_cons.mpr ⟨lw_p28, List.forall_mem_cons.mpr ⟨lw_p29, List.forall_mem_cons.mpr ⟨lw_p30, List.forall_mem_cons.mpr ⟨lw_p31, fun _ h => absurd h List.not_mem_nil⟩⟩⟩⟩⟩⟩⟩⟩⟩⟩⟩⟩⟩⟩⟩⟩
theorem lw_p32 : lw_okq (⟨"RootJudge$Finder", "readBinary", "(LRootJudge$Root;)V"⟩, 17) := ⟨⟨by decide +kernel, by decide +kernel⟩, List.mem_of_getElem? (i := 120) (by decide +kernel), List.mem_of_getElem? (i := 835) (by decide +kernel), List.mem_of_getElem? (i := 836) (by decide +kernel)⟩
theorem lw_p33 : lw_okq (⟨"RootJudge$Finder", "giveOwnPiece", "(LRootJudge$Root;I)V"⟩, 17) := ⟨⟨by decide +kernel, by decide +kernel⟩, List.mem_of_getElem? (i := 120) (by decide +kernel), List.mem_of_getElem? (i := 848) (by decide +kernel), List.mem_of_getElem? (i := 849) (by decide +kernel)⟩
theorem lw_p34 : lw_okq (⟨"RootJudge$Finder", "settle", "(LRootJudge$Root;I)V"⟩, 17) := ⟨⟨by decide +kernel, by decide +kernel⟩, List.mem_of_getElem? (i := 120) (by decide +kernel), List.mem_of_getElem? (i := 854) (by decide +kernel), List.mem_of_getElem? (i := 855) (by decide +kernel)⟩
theorem lw_p35 : lw_okq (⟨"RootJudge$Finder", "tighten", "(LRootJudge$Root;LRootJudge$Poly;I)V"⟩, 17) := ⟨⟨by decide +kernel, by decide +kernel⟩, List.mem_of_getElem? (i := 120) (by decide +kernel), List.mem_of_getElem? (i := 858) (by decide +kernel), List.mem_of_getElem? (i := 859) (by decide +kernel)⟩
theorem lw_p36 : lw_okq (⟨"RootJudge$Finder", "setValue", "(LRootJudge$Big;LRootJudge$Poly;LRootJudge$Big;I)V"⟩, 17) := ⟨⟨by decide +kernel, by decide +kernel⟩, List.mem_of_getElem? (i := 120) (by decide +kernel), List.mem_of_getElem? (i := 863) (by decide +kernel), List.mem_of_getElem? (i := 864) (by decide +kernel)⟩
theorem lw_p37 : lw_okq (⟨"RootJudge$Finder", "guessJump", "(I)V"⟩, 17) := ⟨⟨by decide +kernel, by decide +kernel⟩, List.mem_of_getElem? (i := 120) (by decide +kernel), List.mem_of_getElem? (i := 873) (by decide +kernel), List.mem_of_getElem? (i := 874) (by decide +kernel)⟩
theorem lw_p38 : lw_okq (⟨"RootJudge$Finder", "take", "(LRootJudge$Root;IZ)V"⟩, 17) := ⟨⟨by decide +kernel, by decide +kernel⟩, List.mem_of_getElem? (i := 120) (by decide +kernel), List.mem_of_getElem? (i := 889) (by decide +kernel), List.mem_of_getElem? (i := 890) (by decide +kernel)⟩
theorem lw_p39 : lw_okq (⟨"RootJudge$Finder", "readParts", "(LRootJudge$Root;)V"⟩, 17) := ⟨⟨by decide +kernel, by decide +kernel⟩, List.mem_of_getElem? (i := 120) (by decide +kernel), List.mem_of_getElem? (i := 893) (by decide +kernel), List.mem_of_getElem? (i := 894) (by decide +kernel)⟩
theorem lw_p40 : lw_okq (⟨"RootJudge$Finder", "tryFraction", "(LRootJudge$Root;LRootJudge$Poly;)V"⟩, 17) := ⟨⟨by decide +kernel, by decide +kernel⟩, List.mem_of_getElem? (i := 120) (by decide +kernel), List.mem_of_getElem? (i := 898) (by decide +kernel), List.mem_of_getElem? (i := 899) (by decide +kernel)⟩
theorem lw_p41 : lw_okq (⟨"RootJudge$Finder", "sideOf", "(LRootJudge$Root;JJ)I"⟩, 17) := ⟨⟨by decide +kernel, by decide +kernel⟩, List.mem_of_getElem? (i := 120) (by decide +kernel), List.mem_of_getElem? (i := 906) (by decide +kernel), List.mem_of_getElem? (i := 907) (by decide +kernel)⟩
theorem lw_p42 : lw_okq (⟨"RootJudge$Finder", "setSigns", "(I)V"⟩, 17) := ⟨⟨by decide +kernel, by decide +kernel⟩, List.mem_of_getElem? (i := 120) (by decide +kernel), List.mem_of_getElem? (i := 910) (by decide +kernel), List.mem_of_getElem? (i := 911) (by decide +kernel)⟩
theorem lw_p43 : lw_okq (⟨"RootJudge$Line", "fillSigns", "(I)V"⟩, 13) := ⟨⟨by decide +kernel, by decide +kernel⟩, List.mem_of_getElem? (i := 29) (by decide +kernel), List.mem_of_getElem? (i := 943) (by decide +kernel), List.mem_of_getElem? (i := 944) (by decide +kernel)⟩
theorem lw_p44 : lw_okq (⟨"RootJudge$Line", "trueAtoms", "(I)I"⟩, 13) := ⟨⟨by decide +kernel, by decide +kernel⟩, List.mem_of_getElem? (i := 29) (by decide +kernel), List.mem_of_getElem? (i := 953) (by decide +kernel), List.mem_of_getElem? (i := 954) (by decide +kernel)⟩
theorem lw_p45 : lw_okq (⟨"RootJudge", "isAtom", "(I)Z"⟩, 8) := ⟨⟨by decide +kernel, by decide +kernel⟩, List.mem_of_getElem? (i := 21) (by decide +kernel), List.mem_of_getElem? (i := 970) (by decide +kernel), List.mem_of_getElem? (i := 971) (by decide +kernel)⟩
theorem lw_p46 : lw_okq (⟨"RootJudge", "isCell", "(I)Z"⟩, 8) := ⟨⟨by decide +kernel, by decide +kernel⟩, List.mem_of_getElem? (i := 21) (by decide +kernel), List.mem_of_getElem? (i := 992) (by decide +kernel), List.mem_of_getElem? (i := 993) (by decide +kernel)⟩
theorem lw_p47 : lw_okq (⟨"RootJudge", "isRoot", "(I)Z"⟩, 8) := ⟨⟨by decide +kernel, by decide +kernel⟩, List.mem_of_getElem? (i := 21) (by decide +kernel), List.mem_of_getElem? (i := 1004) (by decide +kernel), List.mem_of_getElem? (i := 1005) (by decide +kernel)⟩
def lw_privs_3 : List (MethodName × Nat) := [(⟨"RootJudge$Finder", "readBinary", "(LRootJudge$Root;)V"⟩, 17), (⟨"RootJudge$Finder", "giveOwnPiece", "(LRootJudge$Root;I)V"⟩, 17), (⟨"RootJudge$Finder", "settle", "(LRootJudge$Root;I)V"⟩, 17), (⟨"RootJudge$Finder", "tighten", "(LRootJudge$Root;LRootJudge$Poly;I)V"⟩, 17), (⟨"RootJudge$Finder", "setValue", "(LRootJudge$Big;LRootJudge$Poly;LRootJudge$Big;I)V"⟩, 17), (⟨"RootJudge$Finder", "guessJump", "(I)V"⟩, 17), (⟨"RootJudge$Finder", "take", "(LRootJudge$Root;IZ)V"⟩, 17), (⟨"RootJudge$Finder", "readParts", "(LRootJudge$Root;)V"⟩, 17), (⟨"RootJudge$Finder", "tryFraction", "(LRootJudge$Root;LRootJudge$Poly;)V"⟩, 17), (⟨"RootJudge$Finder", "sideOf", "(LRootJudge$Root;JJ)I"⟩, 17), (⟨"RootJudge$Finder", "setSigns", "(I)V"⟩, 17), (⟨"RootJudge$Line", "fillSigns", "(I)V"⟩, 13), (⟨"RootJudge$Line", "trueAtoms", "(I)I"⟩, 13), (⟨"RootJudge", "isAtom", "(I)Z"⟩, 8), (⟨"RootJudge", "isCell", "(I)Z"⟩, 8), (⟨"RootJudge", "isRoot", "(I)Z"⟩, 8)]
theorem lw_r3 : ∀ q ∈ lw_privs_3, lw_okq q := List.forall_mem_cons.mpr ⟨lw_p32, List.forall_mem_cons.mpr ⟨lw_p33, List.forall_mem_cons.mpr ⟨lw_p34, List.forall_mem_cons.mpr ⟨lw_p35, List.forall_mem_cons.mpr ⟨lw_p36, List.forall_mem_cons.mpr ⟨lw_p37, List.forall_mem_cons.mpr ⟨lw_p38, List.forall_mem_cons.mpr ⟨lw_p39, List.forall_mem_cons.mpr ⟨lw_p40, List.forall_mem_cons.mpr ⟨lw_p41, List.forall_mem_cons.mpr ⟨lw_p42, List.forall_mem_cons.mpr ⟨lw_p43, List.forall_mem_cons.mpr ⟨lw_p44, List.forall_mem_cons.mpr ⟨lw_p45, List.forall_mem_cons.mpr ⟨lw_p46, List.forall_mem_cons.mpr ⟨lw_p47, fun _ h => absurd h List.not_mem_nil⟩⟩⟩⟩⟩⟩⟩⟩⟩⟩⟩⟩⟩⟩⟩⟩
theorem lw_p48 : lw_okq (⟨"RootJudge$Line", "descend", "(IJ)V"⟩, 13) := ⟨⟨by decide +kernel, by decide +kernel⟩, List.mem_of_getElem? (i := 29) (by decide +kernel), List.mem_of_getElem? (i := 1047) (by decide +kernel), List.mem_of_getElem? (i := 1048) (by decide +kernel)⟩
theorem lw_p49 : lw_okq (⟨"RootJudgeModel", "readText", "()V"⟩, 55) := ⟨⟨by decide +kernel, by decide +kernel⟩, List.mem_of_getElem? (i := 1075) (by decide +kernel), List.mem_of_getElem? (i := 1263) (by decide +kernel), List.mem_of_getElem? (i := 1264) (by decide +kernel)⟩
theorem lw_p50 : lw_okq (⟨"RootJudgeModel", "good", "()Z"⟩, 55) := ⟨⟨by decide +kernel, by decide +kernel⟩, List.mem_of_getElem? (i := 1075) (by decide +kernel), List.mem_of_getElem? (i := 1267) (by decide +kernel), List.mem_of_getElem? (i := 1268) (by decide +kernel)⟩
theorem lw_p51 : lw_okq (⟨"RootJudgeModel", "peek", "()I"⟩, 55) := ⟨⟨by decide +kernel, by decide +kernel⟩, List.mem_of_getElem? (i := 1075) (by decide +kernel), List.mem_of_getElem? (i := 1271) (by decide +kernel), List.mem_of_getElem? (i := 1272) (by decide +kernel)⟩
theorem lw_p52 : lw_okq (⟨"RootJudgeModel", "fail", "(II)V"⟩, 55) := ⟨⟨by decide +kernel, by decide +kernel⟩, List.mem_of_getElem? (i := 1075) (by decide +kernel), List.mem_of_getElem? (i := 1275) (by decide +kernel), List.mem_of_getElem? (i := 1276) (by decide +kernel)⟩
theorem lw_p53 : lw_okq (⟨"RootJudgeModel", "wait1", "(I)V"⟩, 55) := ⟨⟨by decide +kernel, by decide +kernel⟩, List.mem_of_getElem? (i := 1075) (by decide +kernel), List.mem_of_getElem? (i := 1279) (by decide +kernel), List.mem_of_getElem? (i := 1280) (by decide +kernel)⟩
theorem lw_p54 : lw_okq (⟨"RootJudgeModel", "readAtom", "()V"⟩, 55) := ⟨⟨by decide +kernel, by decide +kernel⟩, List.mem_of_getElem? (i := 1075) (by decide +kernel), List.mem_of_getElem? (i := 1283) (by decide +kernel), List.mem_of_getElem? (i := 1284) (by decide +kernel)⟩
theorem lw_p55 : lw_okq (⟨"RootJudgeModel", "readSum", "()V"⟩, 55) := ⟨⟨by decide +kernel, by decide +kernel⟩, List.mem_of_getElem? (i := 1075) (by decide +kernel), List.mem_of_getElem? (i := 1287) (by decide +kernel), List.mem_of_getElem? (i := 1288) (by decide +kernel)⟩
theorem lw_p56 : lw_okq (⟨"RootJudgeModel", "beginSum", "()V"⟩, 55) := ⟨⟨by decide +kernel, by decide +kernel⟩, List.mem_of_getElem? (i := 1075) (by decide +kernel), List.mem_of_getElem? (i := 1291) (by decide +kernel), List.mem_of_getElem? (i := 1292) (by decide +kernel)⟩
theorem lw_p57 : lw_okq (⟨"RootJudgeModel", "takeBase", "(I)Z"⟩, 55) := ⟨⟨by decide +kernel, by decide +kernel⟩, List.mem_of_getElem? (i := 1075) (by decide +kernel), List.mem_of_getElem? (i := 1295) (by decide +kernel), List.mem_of_getElem? (i := 1296) (by decide +kernel)⟩
theorem lw_p58 : lw_okq (⟨"RootJudgeModel", "number", "()I"⟩, 55) := ⟨⟨by decide +kernel, by decide +kernel⟩, List.mem_of_getElem? (i := 1075) (by decide +kernel), List.mem_of_getElem? (i := 1302) (by decide +kernel), List.mem_of_getElem? (i := 1303) (by decide +kernel)⟩
theorem lw_p59 : lw_okq (⟨"RootJudgeModel", "cannot", "()V"⟩, 55) := ⟨⟨by decide +kernel, by decide +kernel⟩, List.mem_of_getElem? (i := 1075) (by decide +kernel), List.mem_of_getElem? (i := 1306) (by decide +kernel), List.mem_of_getElem? (i := 1307) (by decide +kernel)⟩
theorem lw_p60 : lw_okq (⟨"RootJudgeModel", "endBase", "()V"⟩, 55) := ⟨⟨by decide +kernel, by decide +kernel⟩, List.mem_of_getElem? (i := 1075) (by decide +kernel), List.mem_of_getElem? (i := 1313) (by decide +kernel), List.mem_of_getElem? (i := 1314) (by decide +kernel)⟩
theorem lw_p61 : lw_okq (⟨"RootJudgeModel", "look", "()V"⟩, 55) := ⟨⟨by decide +kernel, by decide +kernel⟩, List.mem_of_getElem? (i := 1075) (by decide +kernel), List.mem_of_getElem? (i := 1317) (by decide +kernel), List.mem_of_getElem? (i := 1318) (by decide +kernel)⟩
theorem lw_p62 : lw_okq (⟨"RootJudgeModel", "raise", "(II)V"⟩, 55) := ⟨⟨by decide +kernel, by decide +kernel⟩, List.mem_of_getElem? (i := 1075) (by decide +kernel), List.mem_of_getElem? (i := 1321) (by decide +kernel), List.mem_of_getElem? (i := 1322) (by decide +kernel)⟩
theorem lw_p63 : lw_okq (⟨"RootJudgeModel", "multiply", "(I)V"⟩, 55) := ⟨⟨by decide +kernel, by decide +kernel⟩, List.mem_of_getElem? (i := 1075) (by decide +kernel), List.mem_of_getElem? (i := 1326) (by decide +kernel), List.mem_of_getElem? (i := 1327) (by decide +kernel)⟩
def lw_privs_4 : List (MethodName × Nat) := [(⟨"RootJudge$Line", "descend", "(IJ)V"⟩, 13), (⟨"RootJudgeModel", "readText", "()V"⟩, 55), (⟨"RootJudgeModel", "good", "()Z"⟩, 55), (⟨"RootJudgeModel", "peek", "()I"⟩, 55), (⟨"RootJudgeModel", "fail", "(II)V"⟩, 55), (⟨"RootJudgeModel", "wait1", "(I)V"⟩, 55), (⟨"RootJudgeModel", "readAtom", "()V"⟩, 55), (⟨"RootJudgeModel", "readSum", "()V"⟩, 55), (⟨"RootJudgeModel", "beginSum", "()V"⟩, 55), (⟨"RootJudgeModel", "takeBase", "(I)Z"⟩, 55), (⟨"RootJudgeModel", "number", "()I"⟩, 55), (⟨"RootJudgeModel", "cannot", "()V"⟩, 55), (⟨"RootJudgeModel", "endBase", "()V"⟩, 55), (⟨"RootJudgeModel", "look", "()V"⟩, 55), (⟨"RootJudgeModel", "raise", "(II)V"⟩, 55), (⟨"RootJudgeModel", "multiply", "(I)V"⟩, 55)]
theorem lw_r4 : ∀ q ∈ lw_privs_4, lw_okq q := List.forall_mem_cons.mpr ⟨lw_p48, List.forall_mem_cons.mpr ⟨lw_p49, List.forall_mem_cons.mpr ⟨lw_p50, List.forall_mem_cons.mpr ⟨lw_p51, List.forall_mem_cons.mpr ⟨lw_p52, List.forall_mem_cons.mpr ⟨lw_p53, List.forall_mem_cons.mpr ⟨lw_p54, List.forall_mem_cons.mpr ⟨lw_p55, List.forall_mem_cons.mpr ⟨lw_p56, List.forall_mem_cons.mpr ⟨lw_p57, List.forall_mem_cons.mpr ⟨lw_p58, List.forall_mem_cons.mpr ⟨lw_p59, List.forall_mem_cons.mpr ⟨lw_p60, List.forall_mem_cons.mpr ⟨lw_p61, List.forall_mem_cons.mpr ⟨lw_p62, List.forall_mem_cons.mpr ⟨lw_p63, fun _ h => absurd h List.not_mem_nil⟩⟩⟩⟩⟩⟩⟩⟩⟩⟩⟩⟩⟩⟩⟩⟩
theorem lw_p64 : lw_okq (⟨"RootJudgeModel", "isFine", "(J)Z"⟩, 55) := ⟨⟨by decide +kernel, by decide +kernel⟩, List.mem_of_getElem? (i := 1075) (by decide +kernel), List.mem_of_getElem? (i := 1330) (by decide +kernel), List.mem_of_getElem? (i := 1331) (by decide +kernel)⟩
theorem lw_p65 : lw_okq (⟨"RootJudgeModel", "endTerm", "()V"⟩, 55) := ⟨⟨by decide +kernel, by decide +kernel⟩, List.mem_of_getElem? (i := 1075) (by decide +kernel), List.mem_of_getElem? (i := 1336) (by decide +kernel), List.mem_of_getElem? (i := 1337) (by decide +kernel)⟩
theorem lw_p66 : lw_okq (⟨"RootJudgeModel", "endBracket", "(I)V"⟩, 55) := ⟨⟨by decide +kernel, by decide +kernel⟩, List.mem_of_getElem? (i := 1075) (by decide +kernel), List.mem_of_getElem? (i := 1340) (by decide +kernel), List.mem_of_getElem? (i := 1341) (by decide +kernel)⟩
theorem lw_p67 : lw_okq (⟨"RootJudgeModel", "make", "(I)V"⟩, 55) := ⟨⟨by decide +kernel, by decide +kernel⟩, List.mem_of_getElem? (i := 1075) (by decide +kernel), List.mem_of_getElem? (i := 1344) (by decide +kernel), List.mem_of_getElem? (i := 1345) (by decide +kernel)⟩
theorem lw_p68 : lw_okq (⟨"RootJudgeModel", "settle", "(I)V"⟩, 55) := ⟨⟨by decide +kernel, by decide +kernel⟩, List.mem_of_getElem? (i := 1075) (by decide +kernel), List.mem_of_getElem? (i := 1348) (by decide +kernel), List.mem_of_getElem? (i := 1349) (by decide +kernel)⟩
theorem lw_p69 : lw_okq (⟨"RootJudgeModel", "findAll", "()V"⟩, 55) := ⟨⟨by decide +kernel, by decide +kernel⟩, List.mem_of_getElem? (i := 1075) (by decide +kernel), List.mem_of_getElem? (i := 1352) (by decide +kernel), List.mem_of_getElem? (i := 1353) (by decide +kernel)⟩
theorem lw_p70 : lw_okq (⟨"RootJudgeModel", "part1", "(I)V"⟩, 55) := ⟨⟨by decide +kernel, by decide +kernel⟩, List.mem_of_getElem? (i := 1075) (by decide +kernel), List.mem_of_getElem? (i := 1356) (by decide +kernel), List.mem_of_getElem? (i := 1357) (by decide +kernel)⟩
theorem lw_p71 : lw_okq (⟨"RootJudgeModel", "polynomialOf", "(I)I"⟩, 55) := ⟨⟨by decide +kernel, by decide +kernel⟩, List.mem_of_getElem? (i := 1075) (by decide +kernel), List.mem_of_getElem? (i := 1360) (by decide +kernel), List.mem_of_getElem? (i := 1361) (by decide +kernel)⟩
theorem lw_p72 : lw_okq (⟨"RootJudgeModel", "newPolynomial", "(I)I"⟩, 55) := ⟨⟨by decide +kernel, by decide +kernel⟩, List.mem_of_getElem? (i := 1075) (by decide +kernel), List.mem_of_getElem? (i := 1364) (by decide +kernel), List.mem_of_getElem? (i := 1365) (by decide +kernel)⟩
theorem lw_p73 : lw_okq (⟨"RootJudgeModel", "whole", "(J)I"⟩, 55) := ⟨⟨by decide +kernel, by decide +kernel⟩, List.mem_of_getElem? (i := 1075) (by decide +kernel), List.mem_of_getElem? (i := 1368) (by decide +kernel), List.mem_of_getElem? (i := 1369) (by decide +kernel)⟩
theorem lw_p74 : lw_okq (⟨"RootJudgeModel", "set", "(III)V"⟩, 55) := ⟨⟨by decide +kernel, by decide +kernel⟩, List.mem_of_getElem? (i := 1075) (by decide +kernel), List.mem_of_getElem? (i := 1372) (by decide +kernel), List.mem_of_getElem? (i := 1373) (by decide +kernel)⟩
theorem lw_p75 : lw_okq (⟨"RootJudgeModel", "clean", "(IZ)V"⟩, 55) := ⟨⟨by decide +kernel, by decide +kernel⟩, List.mem_of_getElem? (i := 1075) (by decide +kernel), List.mem_of_getElem? (i := 1376) (by decide +kernel), List.mem_of_getElem? (i := 1377) (by decide +kernel)⟩
theorem lw_p76 : lw_okq (⟨"RootJudgeModel", "at", "(II)I"⟩, 55) := ⟨⟨by decide +kernel, by decide +kernel⟩, List.mem_of_getElem? (i := 1075) (by decide +kernel), List.mem_of_getElem? (i := 1380) (by decide +kernel), List.mem_of_getElem? (i := 1381) (by decide +kernel)⟩
theorem lw_p77 : lw_okq (⟨"RootJudgeModel", "sgn", "(I)I"⟩, 55) := ⟨⟨by decide +kernel, by decide +kernel⟩, List.mem_of_getElem? (i := 1075) (by decide +kernel), List.mem_of_getElem? (i := 1384) (by decide +kernel), List.mem_of_getElem? (i := 1385) (by decide +kernel)⟩
theorem lw_p78 : lw_okq (⟨"RootJudgeModel", "gcd", "(II)I"⟩, 55) := ⟨⟨by decide +kernel, by decide +kernel⟩, List.mem_of_getElem? (i := 1075) (by decide +kernel), List.mem_of_getElem? (i := 1388) (by decide +kernel), List.mem_of_getElem? (i := 1389) (by decide +kernel)⟩
theorem lw_p79 : lw_okq (⟨"RootJudgeModel", "again", "(I)I"⟩, 55) := ⟨⟨by decide +kernel, by decide +kernel⟩, List.mem_of_getElem? (i := 1075) (by decide +kernel), List.mem_of_getElem? (i := 1392) (by decide +kernel), List.mem_of_getElem? (i := 1393) (by decide +kernel)⟩
def lw_privs_5 : List (MethodName × Nat) := [(⟨"RootJudgeModel", "isFine", "(J)Z"⟩, 55), (⟨"RootJudgeModel", "endTerm", "()V"⟩, 55), (⟨"RootJudgeModel", "endBracket", "(I)V"⟩, 55), (⟨"RootJudgeModel", "make", "(I)V"⟩, 55), (⟨"RootJudgeModel", "settle", "(I)V"⟩, 55), (⟨"RootJudgeModel", "findAll", "()V"⟩, 55), (⟨"RootJudgeModel", "part1", "(I)V"⟩, 55), (⟨"RootJudgeModel", "polynomialOf", "(I)I"⟩, 55), (⟨"RootJudgeModel", "newPolynomial", "(I)I"⟩, 55), (⟨"RootJudgeModel", "whole", "(J)I"⟩, 55), (⟨"RootJudgeModel", "set", "(III)V"⟩, 55), (⟨"RootJudgeModel", "clean", "(IZ)V"⟩, 55), (⟨"RootJudgeModel", "at", "(II)I"⟩, 55), (⟨"RootJudgeModel", "sgn", "(I)I"⟩, 55), (⟨"RootJudgeModel", "gcd", "(II)I"⟩, 55), (⟨"RootJudgeModel", "again", "(I)I"⟩, 55)]
theorem lw_r5 : ∀ q ∈ lw_privs_5, lw_okq q := List.forall_mem_cons.mpr ⟨lw_p64, List.forall_mem_cons.mpr ⟨lw_p65, List.forall_mem_cons.mpr ⟨lw_p66, List.forall_mem_cons.mpr ⟨lw_p67, List.forall_mem_cons.mpr ⟨lw_p68, List.forall_mem_cons.mpr ⟨lw_p69, List.forall_mem_cons.mpr ⟨lw_p70, List.forall_mem_cons.mpr ⟨lw_p71, List.forall_mem_cons.mpr ⟨lw_p72, List.forall_mem_cons.mpr ⟨lw_p73, List.forall_mem_cons.mpr ⟨lw_p74, List.forall_mem_cons.mpr ⟨lw_p75, List.forall_mem_cons.mpr ⟨lw_p76, List.forall_mem_cons.mpr ⟨lw_p77, List.forall_mem_cons.mpr ⟨lw_p78, List.forall_mem_cons.mpr ⟨lw_p79, fun _ h => absurd h List.not_mem_nil⟩⟩⟩⟩⟩⟩⟩⟩⟩⟩⟩⟩⟩⟩⟩⟩
theorem lw_p80 : lw_okq (⟨"RootJudgeModel", "copyTo", "(II)V"⟩, 55) := ⟨⟨by decide +kernel, by decide +kernel⟩, List.mem_of_getElem? (i := 1075) (by decide +kernel), List.mem_of_getElem? (i := 1396) (by decide +kernel), List.mem_of_getElem? (i := 1397) (by decide +kernel)⟩
theorem lw_p81 : lw_okq (⟨"RootJudgeModel", "limbs", "(I)I"⟩, 55) := ⟨⟨by decide +kernel, by decide +kernel⟩, List.mem_of_getElem? (i := 1075) (by decide +kernel), List.mem_of_getElem? (i := 1400) (by decide +kernel), List.mem_of_getElem? (i := 1401) (by decide +kernel)⟩
theorem lw_p82 : lw_okq (⟨"RootJudgeModel", "divide", "(II)I"⟩, 55) := ⟨⟨by decide +kernel, by decide +kernel⟩, List.mem_of_getElem? (i := 1075) (by decide +kernel), List.mem_of_getElem? (i := 1404) (by decide +kernel), List.mem_of_getElem? (i := 1405) (by decide +kernel)⟩
theorem lw_p83 : lw_okq (⟨"RootJudgeModel", "digit", "(IIII)I"⟩, 55) := ⟨⟨by decide +kernel, by decide +kernel⟩, List.mem_of_getElem? (i := 1075) (by decide +kernel), List.mem_of_getElem? (i := 1408) (by decide +kernel), List.mem_of_getElem? (i := 1409) (by decide +kernel)⟩
theorem lw_p84 : lw_okq (⟨"RootJudgeModel", "fitsSo", "(IIIIJ)Z"⟩, 55) := ⟨⟨by decide +kernel, by decide +kernel⟩, List.mem_of_getElem? (i := 1075) (by decide +kernel), List.mem_of_getElem? (i := 1414) (by decide +kernel), List.mem_of_getElem? (i := 1415) (by decide +kernel)⟩
theorem lw_p85 : lw_okq (⟨"RootJudgeModel", "keep", "(II)I"⟩, 55) := ⟨⟨by decide +kernel, by decide +kernel⟩, List.mem_of_getElem? (i := 1075) (by decide +kernel), List.mem_of_getElem? (i := 1418) (by decide +kernel), List.mem_of_getElem? (i := 1419) (by decide +kernel)⟩
theorem lw_p86 : lw_okq (⟨"RootJudgeModel", "over", "(II)I"⟩, 55) := ⟨⟨by decide +kernel, by decide +kernel⟩, List.mem_of_getElem? (i := 1075) (by decide +kernel), List.mem_of_getElem? (i := 1422) (by decide +kernel), List.mem_of_getElem? (i := 1423) (by decide +kernel)⟩
theorem lw_p87 : lw_okq (⟨"RootJudgeModel", "minus", "(II)I"⟩, 55) := ⟨⟨by decide +kernel, by decide +kernel⟩, List.mem_of_getElem? (i := 1075) (by decide +kernel), List.mem_of_getElem? (i := 1426) (by decide +kernel), List.mem_of_getElem? (i := 1427) (by decide +kernel)⟩
theorem lw_p88 : lw_okq (⟨"RootJudgeModel", "less", "(I)I"⟩, 55) := ⟨⟨by decide +kernel, by decide +kernel⟩, List.mem_of_getElem? (i := 1075) (by decide +kernel), List.mem_of_getElem? (i := 1430) (by decide +kernel), List.mem_of_getElem? (i := 1431) (by decide +kernel)⟩
theorem lw_p89 : lw_okq (⟨"RootJudgeModel", "plus", "(II)I"⟩, 55) := ⟨⟨by decide +kernel, by decide +kernel⟩, List.mem_of_getElem? (i := 1075) (by decide +kernel), List.mem_of_getElem? (i := 1434) (by decide +kernel), List.mem_of_getElem? (i := 1435) (by decide +kernel)⟩
theorem lw_p90 : lw_okq (⟨"RootJudgeModel", "joined", "(IIZZ)I"⟩, 55) := ⟨⟨by decide +kernel, by decide +kernel⟩, List.mem_of_getElem? (i := 1075) (by decide +kernel), List.mem_of_getElem? (i := 1438) (by decide +kernel), List.mem_of_getElem? (i := 1439) (by decide +kernel)⟩
theorem lw_p91 : lw_okq (⟨"RootJudgeModel", "weigh", "(II)I"⟩, 55) := ⟨⟨by decide +kernel, by decide +kernel⟩, List.mem_of_getElem? (i := 1075) (by decide +kernel), List.mem_of_getElem? (i := 1442) (by decide +kernel), List.mem_of_getElem? (i := 1443) (by decide +kernel)⟩
theorem lw_p92 : lw_okq (⟨"RootJudgeModel", "giveBack", "(II)V"⟩, 55) := ⟨⟨by decide +kernel, by decide +kernel⟩, List.mem_of_getElem? (i := 1075) (by decide +kernel), List.mem_of_getElem? (i := 1446) (by decide +kernel), List.mem_of_getElem? (i := 1447) (by decide +kernel)⟩
theorem lw_p93 : lw_okq (⟨"RootJudgeModel", "derivative", "(I)I"⟩, 55) := ⟨⟨by decide +kernel, by decide +kernel⟩, List.mem_of_getElem? (i := 1075) (by decide +kernel), List.mem_of_getElem? (i := 1450) (by decide +kernel), List.mem_of_getElem? (i := 1451) (by decide +kernel)⟩
theorem lw_p94 : lw_okq (⟨"RootJudgeModel", "by", "(II)I"⟩, 55) := ⟨⟨by decide +kernel, by decide +kernel⟩, List.mem_of_getElem? (i := 1075) (by decide +kernel), List.mem_of_getElem? (i := 1454) (by decide +kernel), List.mem_of_getElem? (i := 1455) (by decide +kernel)⟩
theorem lw_p95 : lw_okq (⟨"RootJudgeModel", "common2", "(II)I"⟩, 55) := ⟨⟨by decide +kernel, by decide +kernel⟩, List.mem_of_getElem? (i := 1075) (by decide +kernel), List.mem_of_getElem? (i := 1458) (by decide +kernel), List.mem_of_getElem? (i := 1459) (by decide +kernel)⟩
def lw_privs_6 : List (MethodName × Nat) := [(⟨"RootJudgeModel", "copyTo", "(II)V"⟩, 55), (⟨"RootJudgeModel", "limbs", "(I)I"⟩, 55), (⟨"RootJudgeModel", "divide", "(II)I"⟩, 55), (⟨"RootJudgeModel", "digit", "(IIII)I"⟩, 55), (⟨"RootJudgeModel", "fitsSo", "(IIIIJ)Z"⟩, 55), (⟨"RootJudgeModel", "keep", "(II)I"⟩, 55), (⟨"RootJudgeModel", "over", "(II)I"⟩, 55), (⟨"RootJudgeModel", "minus", "(II)I"⟩, 55), (⟨"RootJudgeModel", "less", "(I)I"⟩, 55), (⟨"RootJudgeModel", "plus", "(II)I"⟩, 55), (⟨"RootJudgeModel", "joined", "(IIZZ)I"⟩, 55), (⟨"RootJudgeModel", "weigh", "(II)I"⟩, 55), (⟨"RootJudgeModel", "giveBack", "(II)V"⟩, 55), (⟨"RootJudgeModel", "derivative", "(I)I"⟩, 55), (⟨"RootJudgeModel", "by", "(II)I"⟩, 55), (⟨"RootJudgeModel", "common2", "(II)I"⟩, 55)]
theorem lw_r6 : ∀ q ∈ lw_privs_6, lw_okq q := List.forall_mem_cons.mpr ⟨lw_p80, List.forall_mem_cons.mpr ⟨lw_p81, List.forall_mem_cons.mpr ⟨lw_p82, List.forall_mem_cons.mpr ⟨lw_p83, List.forall_mem_cons.mpr ⟨lw_p84, List.forall_mem_cons.mpr ⟨lw_p85, List.forall_mem_cons.mpr ⟨lw_p86, List.forall_mem_cons.mpr ⟨lw_p87, List.forall_mem_cons.mpr ⟨lw_p88, List.forall_mem_cons.mpr ⟨lw_p89, List.forall_mem_cons.mpr ⟨lw_p90, List.forall_mem_cons.mpr ⟨lw_p91, List.forall_mem_cons.mpr ⟨lw_p92, List.forall_mem_cons.mpr ⟨lw_p93, List.forall_mem_cons.mpr ⟨lw_p94, List.forall_mem_cons.mpr ⟨lw_p95, fun _ h => absurd h List.not_mem_nil⟩⟩⟩⟩⟩⟩⟩⟩⟩⟩⟩⟩⟩⟩⟩⟩
theorem lw_p96 : lw_okq (⟨"RootJudgeModel", "restOf", "(II)I"⟩, 55) := ⟨⟨by decide +kernel, by decide +kernel⟩, List.mem_of_getElem? (i := 1075) (by decide +kernel), List.mem_of_getElem? (i := 1462) (by decide +kernel), List.mem_of_getElem? (i := 1463) (by decide +kernel)⟩
theorem lw_p97 : lw_okq (⟨"RootJudgeModel", "share", "(II)I"⟩, 55) := ⟨⟨by decide +kernel, by decide +kernel⟩, List.mem_of_getElem? (i := 1075) (by decide +kernel), List.mem_of_getElem? (i := 1466) (by decide +kernel), List.mem_of_getElem? (i := 1467) (by decide +kernel)⟩
theorem lw_p98 : lw_okq (⟨"RootJudgeModel", "stay", "(I)V"⟩, 55) := ⟨⟨by decide +kernel, by decide +kernel⟩, List.mem_of_getElem? (i := 1075) (by decide +kernel), List.mem_of_getElem? (i := 1470) (by decide +kernel), List.mem_of_getElem? (i := 1471) (by decide +kernel)⟩
theorem lw_p99 : lw_okq (⟨"RootJudgeModel", "comeBack", "()I"⟩, 55) := ⟨⟨by decide +kernel, by decide +kernel⟩, List.mem_of_getElem? (i := 1075) (by decide +kernel), List.mem_of_getElem? (i := 1474) (by decide +kernel), List.mem_of_getElem? (i := 1475) (by decide +kernel)⟩
theorem lw_p100 : lw_okq (⟨"RootJudgeModel", "join", "(I)V"⟩, 55) := ⟨⟨by decide +kernel, by decide +kernel⟩, List.mem_of_getElem? (i := 1075) (by decide +kernel), List.mem_of_getElem? (i := 1478) (by decide +kernel), List.mem_of_getElem? (i := 1479) (by decide +kernel)⟩
theorem lw_p101 : lw_okq (⟨"RootJudgeModel", "findTimes", "()V"⟩, 55) := ⟨⟨by decide +kernel, by decide +kernel⟩, List.mem_of_getElem? (i := 1075) (by decide +kernel), List.mem_of_getElem? (i := 1483) (by decide +kernel), List.mem_of_getElem? (i := 1484) (by decide +kernel)⟩
theorem lw_p102 : lw_okq (⟨"RootJudgeModel", "findRoots", "(I)V"⟩, 55) := ⟨⟨by decide +kernel, by decide +kernel⟩, List.mem_of_getElem? (i := 1075) (by decide +kernel), List.mem_of_getElem? (i := 1487) (by decide +kernel), List.mem_of_getElem? (i := 1488) (by decide +kernel)⟩
theorem lw_p103 : lw_okq (⟨"RootJudgeModel", "makeChain", "(I)V"⟩, 55) := ⟨⟨by decide +kernel, by decide +kernel⟩, List.mem_of_getElem? (i := 1075) (by decide +kernel), List.mem_of_getElem? (i := 1491) (by decide +kernel), List.mem_of_getElem? (i := 1492) (by decide +kernel)⟩
theorem lw_p104 : lw_okq (⟨"RootJudgeModel", "powerOfTwo", "(I)I"⟩, 55) := ⟨⟨by decide +kernel, by decide +kernel⟩, List.mem_of_getElem? (i := 1075) (by decide +kernel), List.mem_of_getElem? (i := 1495) (by decide +kernel), List.mem_of_getElem? (i := 1496) (by decide +kernel)⟩
theorem lw_p105 : lw_okq (⟨"RootJudgeModel", "plus1", "(II)I"⟩, 55) := ⟨⟨by decide +kernel, by decide +kernel⟩, List.mem_of_getElem? (i := 1075) (by decide +kernel), List.mem_of_getElem? (i := 1499) (by decide +kernel), List.mem_of_getElem? (i := 1500) (by decide +kernel)⟩
theorem lw_p106 : lw_okq (⟨"RootJudgeModel", "changesAtHalf", "(II)I"⟩, 55) := ⟨⟨by decide +kernel, by decide +kernel⟩, List.mem_of_getElem? (i := 1075) (by decide +kernel), List.mem_of_getElem? (i := 1503) (by decide +kernel), List.mem_of_getElem? (i := 1504) (by decide +kernel)⟩
theorem lw_p107 : lw_okq (⟨"RootJudgeModel", "changesAt", "(II)I"⟩, 55) := ⟨⟨by decide +kernel, by decide +kernel⟩, List.mem_of_getElem? (i := 1075) (by decide +kernel), List.mem_of_getElem? (i := 1507) (by decide +kernel), List.mem_of_getElem? (i := 1508) (by decide +kernel)⟩
theorem lw_p108 : lw_okq (⟨"RootJudgeModel", "signAt2", "(III)I"⟩, 55) := ⟨⟨by decide +kernel, by decide +kernel⟩, List.mem_of_getElem? (i := 1075) (by decide +kernel), List.mem_of_getElem? (i := 1511) (by decide +kernel), List.mem_of_getElem? (i := 1512) (by decide +kernel)⟩
theorem lw_p109 : lw_okq (⟨"RootJudgeModel", "addRoot", "(III)V"⟩, 55) := ⟨⟨by decide +kernel, by decide +kernel⟩, List.mem_of_getElem? (i := 1075) (by decide +kernel), List.mem_of_getElem? (i := 1515) (by decide +kernel), List.mem_of_getElem? (i := 1516) (by decide +kernel)⟩
theorem lw_p110 : lw_okq (⟨"RootJudgeModel", "reserve", "(I)I"⟩, 55) := ⟨⟨by decide +kernel, by decide +kernel⟩, List.mem_of_getElem? (i := 1075) (by decide +kernel), List.mem_of_getElem? (i := 1519) (by decide +kernel), List.mem_of_getElem? (i := 1520) (by decide +kernel)⟩
theorem lw_p111 : lw_okq (⟨"RootJudgeModel", "compare", "(II)I"⟩, 55) := ⟨⟨by decide +kernel, by decide +kernel⟩, List.mem_of_getElem? (i := 1075) (by decide +kernel), List.mem_of_getElem? (i := 1523) (by decide +kernel), List.mem_of_getElem? (i := 1524) (by decide +kernel)⟩
def lw_privs_7 : List (MethodName × Nat) := [(⟨"RootJudgeModel", "restOf", "(II)I"⟩, 55), (⟨"RootJudgeModel", "share", "(II)I"⟩, 55), (⟨"RootJudgeModel", "stay", "(I)V"⟩, 55), (⟨"RootJudgeModel", "comeBack", "()I"⟩, 55), (⟨"RootJudgeModel", "join", "(I)V"⟩, 55), (⟨"RootJudgeModel", "findTimes", "()V"⟩, 55), (⟨"RootJudgeModel", "findRoots", "(I)V"⟩, 55), (⟨"RootJudgeModel", "makeChain", "(I)V"⟩, 55), (⟨"RootJudgeModel", "powerOfTwo", "(I)I"⟩, 55), (⟨"RootJudgeModel", "plus1", "(II)I"⟩, 55), (⟨"RootJudgeModel", "changesAtHalf", "(II)I"⟩, 55), (⟨"RootJudgeModel", "changesAt", "(II)I"⟩, 55), (⟨"RootJudgeModel", "signAt2", "(III)I"⟩, 55), (⟨"RootJudgeModel", "addRoot", "(III)V"⟩, 55), (⟨"RootJudgeModel", "reserve", "(I)I"⟩, 55), (⟨"RootJudgeModel", "compare", "(II)I"⟩, 55)]
theorem lw_r7 : ∀ q ∈ lw_privs_7, lw_okq q := List.forall_mem_cons.mpr ⟨lw_p96, List.forall_mem_cons.mpr ⟨lw_p97, List.forall_mem_cons.mpr ⟨lw_p98, List.forall_mem_cons.mpr ⟨lw_p99, List.forall_mem_cons.mpr ⟨lw_p100, List.forall_mem_cons.mpr ⟨lw_p101, List.forall_mem_cons.mpr ⟨lw_p102, List.forall_mem_cons.mpr ⟨lw_p103, List.forall_mem_cons.mpr ⟨lw_p104, List.forall_mem_cons.mpr ⟨lw_p105, List.forall_mem_cons.mpr ⟨lw_p106, List.forall_mem_cons.mpr ⟨lw_p107, List.forall_mem_cons.mpr ⟨lw_p108, List.forall_mem_cons.mpr ⟨lw_p109, List.forall_mem_cons.mpr ⟨lw_p110, List.forall_mem_cons.mpr ⟨lw_p111, fun _ h => absurd h List.not_mem_nil⟩⟩⟩⟩⟩⟩⟩⟩⟩⟩⟩⟩⟩⟩⟩⟩
theorem lw_p112 : lw_okq (⟨"RootJudgeModel", "valueOf", "(I)J"⟩, 55) := ⟨⟨by decide +kernel, by decide +kernel⟩, List.mem_of_getElem? (i := 1075) (by decide +kernel), List.mem_of_getElem? (i := 1527) (by decide +kernel), List.mem_of_getElem? (i := 1528) (by decide +kernel)⟩
theorem lw_p113 : lw_okq (⟨"RootJudgeModel", "restRoots", "(II)V"⟩, 55) := ⟨⟨by decide +kernel, by decide +kernel⟩, List.mem_of_getElem? (i := 1075) (by decide +kernel), List.mem_of_getElem? (i := 1534) (by decide +kernel), List.mem_of_getElem? (i := 1535) (by decide +kernel)⟩
theorem lw_p114 : lw_okq (⟨"RootJudgeModel", "isBefore", "(II)Z"⟩, 55) := ⟨⟨by decide +kernel, by decide +kernel⟩, List.mem_of_getElem? (i := 1075) (by decide +kernel), List.mem_of_getElem? (i := 1538) (by decide +kernel), List.mem_of_getElem? (i := 1539) (by decide +kernel)⟩
theorem lw_p115 : lw_okq (⟨"RootJudgeModel", "against", "(IJJ)I"⟩, 55) := ⟨⟨by decide +kernel, by decide +kernel⟩, List.mem_of_getElem? (i := 1075) (by decide +kernel), List.mem_of_getElem? (i := 1542) (by decide +kernel), List.mem_of_getElem? (i := 1543) (by decide +kernel)⟩
theorem lw_p116 : lw_okq (⟨"RootJudgeModel", "refine", "(I)V"⟩, 55) := ⟨⟨by decide +kernel, by decide +kernel⟩, List.mem_of_getElem? (i := 1075) (by decide +kernel), List.mem_of_getElem? (i := 1546) (by decide +kernel), List.mem_of_getElem? (i := 1547) (by decide +kernel)⟩
theorem lw_p117 : lw_okq (⟨"RootJudgeModel", "signAll", "()V"⟩, 55) := ⟨⟨by decide +kernel, by decide +kernel⟩, List.mem_of_getElem? (i := 1075) (by decide +kernel), List.mem_of_getElem? (i := 1550) (by decide +kernel), List.mem_of_getElem? (i := 1551) (by decide +kernel)⟩
theorem lw_p118 : lw_okq (⟨"RootJudgeModel", "degreeOf", "(I)I"⟩, 55) := ⟨⟨by decide +kernel, by decide +kernel⟩, List.mem_of_getElem? (i := 1075) (by decide +kernel), List.mem_of_getElem? (i := 1554) (by decide +kernel), List.mem_of_getElem? (i := 1555) (by decide +kernel)⟩
theorem lw_p119 : lw_okq (⟨"RootJudgeModel", "timesAt", "(II)I"⟩, 55) := ⟨⟨by decide +kernel, by decide +kernel⟩, List.mem_of_getElem? (i := 1075) (by decide +kernel), List.mem_of_getElem? (i := 1558) (by decide +kernel), List.mem_of_getElem? (i := 1559) (by decide +kernel)⟩
theorem lw_p120 : lw_okq (⟨"RootJudgeModel", "cells", "()I"⟩, 55) := ⟨⟨by decide +kernel, by decide +kernel⟩, List.mem_of_getElem? (i := 1075) (by decide +kernel), List.mem_of_getElem? (i := 1562) (by decide +kernel), List.mem_of_getElem? (i := 1563) (by decide +kernel)⟩
theorem lw_p121 : lw_okq (⟨"RootJudgeModel", "isSo", "(I)Z"⟩, 55) := ⟨⟨by decide +kernel, by decide +kernel⟩, List.mem_of_getElem? (i := 1075) (by decide +kernel), List.mem_of_getElem? (i := 1566) (by decide +kernel), List.mem_of_getElem? (i := 1567) (by decide +kernel)⟩
theorem lw_p122 : lw_okq (⟨"RootJudgeModel", "holdingMany", "()I"⟩, 55) := ⟨⟨by decide +kernel, by decide +kernel⟩, List.mem_of_getElem? (i := 1075) (by decide +kernel), List.mem_of_getElem? (i := 1574) (by decide +kernel), List.mem_of_getElem? (i := 1575) (by decide +kernel)⟩
theorem lw_p123 : lw_okq (⟨"RootJudgeModel", "isAtom", "(I)Z"⟩, 55) := ⟨⟨by decide +kernel, by decide +kernel⟩, List.mem_of_getElem? (i := 1075) (by decide +kernel), List.mem_of_getElem? (i := 1582) (by decide +kernel), List.mem_of_getElem? (i := 1583) (by decide +kernel)⟩
theorem lw_p124 : lw_okq (⟨"RootJudgeModel", "isCell", "(I)Z"⟩, 55) := ⟨⟨by decide +kernel, by decide +kernel⟩, List.mem_of_getElem? (i := 1075) (by decide +kernel), List.mem_of_getElem? (i := 1595) (by decide +kernel), List.mem_of_getElem? (i := 1596) (by decide +kernel)⟩
theorem lw_p125 : lw_okq (⟨"RootJudgeModel", "isRoot", "(I)Z"⟩, 55) := ⟨⟨by decide +kernel, by decide +kernel⟩, List.mem_of_getElem? (i := 1075) (by decide +kernel), List.mem_of_getElem? (i := 1607) (by decide +kernel), List.mem_of_getElem? (i := 1608) (by decide +kernel)⟩
theorem lw_p126 : lw_okq (⟨"RootJudgeModel", "floorOf", "(IJ)J"⟩, 55) := ⟨⟨by decide +kernel, by decide +kernel⟩, List.mem_of_getElem? (i := 1075) (by decide +kernel), List.mem_of_getElem? (i := 1613) (by decide +kernel), List.mem_of_getElem? (i := 1614) (by decide +kernel)⟩
theorem lw_p127 : lw_okq (⟨"RootJudgeModel", "mostBelow", "(IJ)J"⟩, 55) := ⟨⟨by decide +kernel, by decide +kernel⟩, List.mem_of_getElem? (i := 1075) (by decide +kernel), List.mem_of_getElem? (i := 1640) (by decide +kernel), List.mem_of_getElem? (i := 1641) (by decide +kernel)⟩
def lw_privs_8 : List (MethodName × Nat) := [(⟨"RootJudgeModel", "valueOf", "(I)J"⟩, 55), (⟨"RootJudgeModel", "restRoots", "(II)V"⟩, 55), (⟨"RootJudgeModel", "isBefore", "(II)Z"⟩, 55), (⟨"RootJudgeModel", "against", "(IJJ)I"⟩, 55), (⟨"RootJudgeModel", "refine", "(I)V"⟩, 55), (⟨"RootJudgeModel", "signAll", "()V"⟩, 55), (⟨"RootJudgeModel", "degreeOf", "(I)I"⟩, 55), (⟨"RootJudgeModel", "timesAt", "(II)I"⟩, 55), (⟨"RootJudgeModel", "cells", "()I"⟩, 55), (⟨"RootJudgeModel", "isSo", "(I)Z"⟩, 55), (⟨"RootJudgeModel", "holdingMany", "()I"⟩, 55), (⟨"RootJudgeModel", "isAtom", "(I)Z"⟩, 55), (⟨"RootJudgeModel", "isCell", "(I)Z"⟩, 55), (⟨"RootJudgeModel", "isRoot", "(I)Z"⟩, 55), (⟨"RootJudgeModel", "floorOf", "(IJ)J"⟩, 55), (⟨"RootJudgeModel", "mostBelow", "(IJ)J"⟩, 55)]
theorem lw_r8 : ∀ q ∈ lw_privs_8, lw_okq q := List.forall_mem_cons.mpr ⟨lw_p112, List.forall_mem_cons.mpr ⟨lw_p113, List.forall_mem_cons.mpr ⟨lw_p114, List.forall_mem_cons.mpr ⟨lw_p115, List.forall_mem_cons.mpr ⟨lw_p116, List.forall_mem_cons.mpr ⟨lw_p117, List.forall_mem_cons.mpr ⟨lw_p118, List.forall_mem_cons.mpr ⟨lw_p119, List.forall_mem_cons.mpr ⟨lw_p120, List.forall_mem_cons.mpr ⟨lw_p121, List.forall_mem_cons.mpr ⟨lw_p122, List.forall_mem_cons.mpr ⟨lw_p123, List.forall_mem_cons.mpr ⟨lw_p124, List.forall_mem_cons.mpr ⟨lw_p125, List.forall_mem_cons.mpr ⟨lw_p126, List.forall_mem_cons.mpr ⟨lw_p127, fun _ h => absurd h List.not_mem_nil⟩⟩⟩⟩⟩⟩⟩⟩⟩⟩⟩⟩⟩⟩⟩⟩
def lw_privs : List (MethodName × Nat) := lw_privs_1 ++ (lw_privs_2 ++ (lw_privs_3 ++ (lw_privs_4 ++ (lw_privs_5 ++ (lw_privs_6 ++ (lw_privs_7 ++ (lw_privs_8)))))))
def lw_tbl : List Cond := k2_sels lw_privs ++ tables_1
theorem lw_privs_ok : ∀ q ∈ lw_privs, lw_okq q := by
  show ∀ q ∈ lw_privs_1 ++ (lw_privs_2 ++ (lw_privs_3 ++ (lw_privs_4 ++ (lw_privs_5 ++ (lw_privs_6 ++ (lw_privs_7 ++ (lw_privs_8))))))), lw_okq q
  exact List.forall_mem_append.mpr ⟨lw_r1, List.forall_mem_append.mpr ⟨lw_r2, List.forall_mem_append.mpr ⟨lw_r3, List.forall_mem_append.mpr ⟨lw_r4, List.forall_mem_append.mpr ⟨lw_r5, List.forall_mem_append.mpr ⟨lw_r6, List.forall_mem_append.mpr ⟨lw_r7, lw_r8⟩⟩⟩⟩⟩⟩⟩
end
section
def RX0 : String := "RootJudge$Basis"
def TX0 : u_T := fun k => match k with
  | 0 => ("RootJudge$Basis", "pieces", "[LRootJudge$Poly;", true)
  | 1 => ("RootJudge$Basis", "often", "[I", true)
  | 2 => ("RootJudge$Basis", "size", "I", false)
  | 3 => ("RootJudge$Basis", "divider", "LRootJudge$Divider;", true)
  | 4 => ("RootJudge$Basis", "core", "LRootJudge$Poly;", true)
  | 5 => ("RootJudge$Basis", "slope", "LRootJudge$Poly;", true)
  | 6 => ("RootJudge$Basis", "shared", "LRootJudge$Poly;", true)
  | _ => ("RootJudge$Basis", "rest", "LRootJudge$Poly;", true)
def tyX0 : Nat → FieldType := fun k => match k with
  | 0 => .array (.object "RootJudge$Poly")
  | 1 => .array .int
  | 2 => .int
  | 3 => .object "RootJudge$Divider"
  | 4 => .object "RootJudge$Poly"
  | 5 => .object "RootJudge$Poly"
  | 6 => .object "RootJudge$Poly"
  | _ => .object "RootJudge$Poly"
abbrev wsX00 : List Cond := u_ws RX0 TX0 8
theorem nmX0 : ∀ a, a < 8 → ∀ b, b < 8 → a ≠ b → (TX0 a).2.1 ≠ (TX0 b).2.1 := by decide +kernel
theorem tyX0_ok : ∀ k, k < 8 → parseFieldDescriptor (TX0 k).2.2.1 = some (tyX0 k) := by decide +kernel
abbrev cX0_init : ByteArray := prog_2_method_1_code
def yX0_init : MethodName := ⟨RX0, "<init>", "()V"⟩
abbrev cX0_addAtom : ByteArray := prog_2_method_2_code
def yX0_addAtom : MethodName := ⟨RX0, "addAtom", "(LRootJudge$Poly;I)V"⟩
abbrev cX0_foldRest : ByteArray := prog_2_method_3_code
def yX0_foldRest : MethodName := ⟨RX0, "foldRest", "(I)V"⟩
abbrev cX0_splitOff : ByteArray := prog_2_method_4_code
def yX0_splitOff : MethodName := ⟨RX0, "splitOff", "(ILRootJudge$Poly;)I"⟩
abbrev cX0_multiplicity : ByteArray := prog_2_method_5_code
def yX0_multiplicity : MethodName := ⟨RX0, "multiplicity", "(II)I"⟩
abbrev cX0_distinctRoots : ByteArray := prog_2_method_6_code
def yX0_distinctRoots : MethodName := ⟨RX0, "distinctRoots", "(I)I"⟩
abbrev cX0_sharedDegree : ByteArray := prog_2_method_7_code
def yX0_sharedDegree : MethodName := ⟨RX0, "sharedDegree", "(I)I"⟩
def RX1 : String := "RootJudge$Big"
def TX1 : u_T := fun k => match k with
  | 0 => ("RootJudge$Big", "limbs", "[I", true)
  | 1 => ("RootJudge$Big", "size", "I", false)
  | _ => ("RootJudge$Big", "mark", "I", false)
def tyX1 : Nat → FieldType := fun k => match k with
  | 0 => .array .int
  | 1 => .int
  | _ => .int
abbrev wsX10 : List Cond := u_ws RX1 TX1 3
theorem nmX1 : ∀ a, a < 3 → ∀ b, b < 3 → a ≠ b → (TX1 a).2.1 ≠ (TX1 b).2.1 := by decide +kernel
theorem tyX1_ok : ∀ k, k < 3 → parseFieldDescriptor (TX1 k).2.2.1 = some (tyX1 k) := by decide +kernel
abbrev cX1_init : ByteArray := prog_3_method_1_code
def yX1_init : MethodName := ⟨RX1, "<init>", "(I)V"⟩
abbrev cX1_set : ByteArray := prog_3_method_2_code
def yX1_set : MethodName := ⟨RX1, "set", "(J)V"⟩
abbrev cX1_copy : ByteArray := prog_3_method_3_code
def yX1_copy : MethodName := ⟨RX1, "copy", "(LRootJudge$Big;)V"⟩
abbrev cX1_trim : ByteArray := prog_3_method_4_code
def yX1_trim : MethodName := ⟨RX1, "trim", "()V"⟩
abbrev cX1_width : ByteArray := prog_3_method_5_code
def yX1_width : MethodName := ⟨RX1, "width", "(J)I"⟩
abbrev cX1_bits : ByteArray := prog_3_method_6_code
def yX1_bits : MethodName := ⟨RX1, "bits", "()I"⟩
abbrev cX1_isEven : ByteArray := prog_3_method_7_code
def yX1_isEven : MethodName := ⟨RX1, "isEven", "()Z"⟩
abbrev cX1_toLong : ByteArray := prog_3_method_8_code
def yX1_toLong : MethodName := ⟨RX1, "toLong", "()J"⟩
abbrev cX1_shiftUp : ByteArray := prog_3_method_9_code
def yX1_shiftUp : MethodName := ⟨RX1, "shiftUp", "(I)V"⟩
abbrev cX1_shiftDown : ByteArray := prog_3_method_10_code
def yX1_shiftDown : MethodName := ⟨RX1, "shiftDown", "(I)V"⟩
abbrev cX1_compareSize : ByteArray := prog_3_method_11_code
def yX1_compareSize : MethodName := ⟨RX1, "compareSize", "(LRootJudge$Big;)I"⟩
abbrev cX1_add : ByteArray := prog_3_method_12_code
def yX1_add : MethodName := ⟨RX1, "add", "(LRootJudge$Big;I)V"⟩
abbrev cX1_grow : ByteArray := prog_3_method_13_code
def yX1_grow : MethodName := ⟨RX1, "grow", "(LRootJudge$Big;)V"⟩
abbrev cX1_shrink : ByteArray := prog_3_method_14_code
def yX1_shrink : MethodName := ⟨RX1, "shrink", "(LRootJudge$Big;)V"⟩
abbrev cX1_setProduct : ByteArray := prog_3_method_15_code
def yX1_setProduct : MethodName := ⟨RX1, "setProduct", "(LRootJudge$Big;LRootJudge$Big;)V"⟩
def RX2 : String := "RootJudge$Divider"
def TX2 : u_T := fun k => match k with
  | 0 => ("RootJudge$Divider", "upper", "[J", true)
  | 1 => ("RootJudge$Divider", "lower", "[J", true)
  | 2 => ("RootJudge$Divider", "rest", "[J", true)
  | 3 => ("RootJudge$Divider", "image", "[J", false)
  | 4 => ("RootJudge$Divider", "earlier", "[J", false)
  | 5 => ("RootJudge$Divider", "guess", "LRootJudge$Poly;", true)
  | 6 => ("RootJudge$Divider", "divisor", "LRootJudge$Poly;", true)
  | _ => ("RootJudge$Divider", "quotient", "LRootJudge$Poly;", true)
def tyX2 : Nat → FieldType := fun k => match k with
  | 0 => .array .long
  | 1 => .array .long
  | 2 => .array .long
  | 3 => .array .long
  | 4 => .array .long
  | 5 => .object "RootJudge$Poly"
  | 6 => .object "RootJudge$Poly"
  | _ => .object "RootJudge$Poly"
abbrev wsX20 : List Cond := u_ws RX2 TX2 8
theorem nmX2 : ∀ a, a < 8 → ∀ b, b < 8 → a ≠ b → (TX2 a).2.1 ≠ (TX2 b).2.1 := by decide +kernel
theorem tyX2_ok : ∀ k, k < 8 → parseFieldDescriptor (TX2 k).2.2.1 = some (tyX2 k) := by decide +kernel
abbrev cX2_init : ByteArray := prog_4_method_1_code
def yX2_init : MethodName := ⟨RX2, "<init>", "()V"⟩
abbrev cX2_find : ByteArray := prog_4_method_2_code
def yX2_find : MethodName := ⟨RX2, "find", "(LRootJudge$Poly;LRootJudge$Poly;)V"⟩
abbrev cX2_imageModulo : ByteArray := prog_4_method_3_code
def yX2_imageModulo : MethodName := ⟨RX2, "imageModulo", "(LRootJudge$Poly;LRootJudge$Poly;J)I"⟩
abbrev cX2_degreeOf : ByteArray := prog_4_method_4_code
def yX2_degreeOf : MethodName := ⟨RX2, "degreeOf", "([J)I"⟩
abbrev cX2_eliminate : ByteArray := prog_4_method_5_code
def yX2_eliminate : MethodName := ⟨RX2, "eliminate", "([JI[JIJ)V"⟩
abbrev cX2_inverse : ByteArray := prog_4_method_6_code
def yX2_inverse : MethodName := ⟨RX2, "inverse", "(JJ)J"⟩
abbrev cX2_rebuild : ByteArray := prog_4_method_7_code
def yX2_rebuild : MethodName := ⟨RX2, "rebuild", "(JIJJ)V"⟩
abbrev cX2_divide : ByteArray := prog_4_method_8_code
def yX2_divide : MethodName := ⟨RX2, "divide", "(LRootJudge$Poly;LRootJudge$Poly;)Z"⟩
def RX3 : String := "RootJudge$Finder"
def TX3 : u_T := fun k => match k with
  | 0 => ("RootJudge$Finder", "basis", "LRootJudge$Basis;", true)
  | 1 => ("RootJudge$Finder", "parter", "LRootJudge$Parter;", true)
  | 2 => ("RootJudge$Finder", "roots", "[LRootJudge$Root;", true)
  | 3 => ("RootJudge$Finder", "found", "I", false)
  | 4 => ("RootJudge$Finder", "linear", "LRootJudge$Poly;", true)
  | 5 => ("RootJudge$Finder", "one", "LRootJudge$Big;", true)
  | 6 => ("RootJudge$Finder", "probe", "LRootJudge$Big;", true)
  | 7 => ("RootJudge$Finder", "edge", "LRootJudge$Big;", true)
  | 8 => ("RootJudge$Finder", "jump", "LRootJudge$Big;", true)
  | 9 => ("RootJudge$Finder", "point", "LRootJudge$Big;", true)
  | 10 => ("RootJudge$Finder", "term", "LRootJudge$Big;", true)
  | 11 => ("RootJudge$Finder", "work", "LRootJudge$Big;", true)
  | 12 => ("RootJudge$Finder", "power", "LRootJudge$Big;", true)
  | 13 => ("RootJudge$Finder", "low", "LRootJudge$Big;", false)
  | 14 => ("RootJudge$Finder", "high", "LRootJudge$Big;", false)
  | 15 => ("RootJudge$Finder", "middle", "LRootJudge$Big;", false)
  | _ => ("RootJudge$Finder", "other", "LRootJudge$Big;", false)
def tyX3 : Nat → FieldType := fun k => match k with
  | 0 => .object "RootJudge$Basis"
  | 1 => .object "RootJudge$Parter"
  | 2 => .array (.object "RootJudge$Root")
  | 3 => .int
  | 4 => .object "RootJudge$Poly"
  | 5 => .object "RootJudge$Big"
  | 6 => .object "RootJudge$Big"
  | 7 => .object "RootJudge$Big"
  | 8 => .object "RootJudge$Big"
  | 9 => .object "RootJudge$Big"
  | 10 => .object "RootJudge$Big"
  | 11 => .object "RootJudge$Big"
  | 12 => .object "RootJudge$Big"
  | 13 => .object "RootJudge$Big"
  | 14 => .object "RootJudge$Big"
  | 15 => .object "RootJudge$Big"
  | _ => .object "RootJudge$Big"
abbrev wsX30 : List Cond := u_ws RX3 TX3 17
theorem nmX3 : ∀ a, a < 17 → ∀ b, b < 17 → a ≠ b → (TX3 a).2.1 ≠ (TX3 b).2.1 := by decide +kernel
theorem tyX3_ok : ∀ k, k < 17 → parseFieldDescriptor (TX3 k).2.2.1 = some (tyX3 k) := by decide +kernel
abbrev cX3_init : ByteArray := prog_5_method_1_code
def yX3_init : MethodName := ⟨RX3, "<init>", "()V"⟩
abbrev cX3_solve : ByteArray := prog_5_method_2_code
def yX3_solve : MethodName := ⟨RX3, "solve", "(I)V"⟩
abbrev cX3_settle : ByteArray := prog_5_method_3_code
def yX3_settle : MethodName := ⟨RX3, "settle", "(LRootJudge$Root;I)V"⟩
abbrev cX3_giveOwnPiece : ByteArray := prog_5_method_4_code
def yX3_giveOwnPiece : MethodName := ⟨RX3, "giveOwnPiece", "(LRootJudge$Root;I)V"⟩
abbrev cX3_setSigns : ByteArray := prog_5_method_5_code
def yX3_setSigns : MethodName := ⟨RX3, "setSigns", "(I)V"⟩
abbrev cX3_readBinary : ByteArray := prog_5_method_6_code
def yX3_readBinary : MethodName := ⟨RX3, "readBinary", "(LRootJudge$Root;)V"⟩
abbrev cX3_readParts : ByteArray := prog_5_method_7_code
def yX3_readParts : MethodName := ⟨RX3, "readParts", "(LRootJudge$Root;)V"⟩
abbrev cX3_tryFraction : ByteArray := prog_5_method_8_code
def yX3_tryFraction : MethodName := ⟨RX3, "tryFraction", "(LRootJudge$Root;LRootJudge$Poly;)V"⟩
abbrev cX3_sideOf : ByteArray := prog_5_method_9_code
def yX3_sideOf : MethodName := ⟨RX3, "sideOf", "(LRootJudge$Root;JJ)I"⟩
abbrev cX3_tighten : ByteArray := prog_5_method_10_code
def yX3_tighten : MethodName := ⟨RX3, "tighten", "(LRootJudge$Root;LRootJudge$Poly;I)V"⟩
abbrev cX3_take : ByteArray := prog_5_method_11_code
def yX3_take : MethodName := ⟨RX3, "take", "(LRootJudge$Root;IZ)V"⟩
abbrev cX3_guessJump : ByteArray := prog_5_method_12_code
def yX3_guessJump : MethodName := ⟨RX3, "guessJump", "(I)V"⟩
abbrev cX3_setValue : ByteArray := prog_5_method_13_code
def yX3_setValue : MethodName := ⟨RX3, "setValue", "(LRootJudge$Big;LRootJudge$Poly;LRootJudge$Big;I)V"⟩
abbrev cX3_signAtFraction : ByteArray := prog_5_method_14_code
def yX3_signAtFraction : MethodName := ⟨RX3, "signAtFraction", "(LRootJudge$Poly;JJ)I"⟩
abbrev cX3_compareWith : ByteArray := prog_5_method_15_code
def yX3_compareWith : MethodName := ⟨RX3, "compareWith", "(LRootJudge$Root;JJJ)I"⟩
abbrev cX3_scaledFloor : ByteArray := prog_5_method_16_code
def yX3_scaledFloor : MethodName := ⟨RX3, "scaledFloor", "(LRootJudge$Root;J)J"⟩
abbrev cX3_compareQuickly : ByteArray := prog_5_method_17_code
def yX3_compareQuickly : MethodName := ⟨RX3, "compareQuickly", "(LRootJudge$Root;LRootJudge$Root;)I"⟩
abbrev cX3_compareDeeply : ByteArray := prog_5_method_18_code
def yX3_compareDeeply : MethodName := ⟨RX3, "compareDeeply", "(LRootJudge$Root;LRootJudge$Root;)I"⟩
def RX4 : String := "RootJudge$Line"
def TX4 : u_T := fun k => match k with
  | 0 => ("RootJudge$Line", "reader", "LRootJudge$Reader;", true)
  | 1 => ("RootJudge$Line", "finder", "LRootJudge$Finder;", true)
  | 2 => ("RootJudge$Line", "basis", "LRootJudge$Basis;", true)
  | 3 => ("RootJudge$Line", "order", "[I", true)
  | 4 => ("RootJudge$Line", "size", "I", false)
  | 5 => ("RootJudge$Line", "signs", "[B", true)
  | 6 => ("RootJudge$Line", "held", "[Z", true)
  | 7 => ("RootJudge$Line", "holding", "I", false)
  | 8 => ("RootJudge$Line", "first", "I", false)
  | 9 => ("RootJudge$Line", "last", "I", false)
  | 10 => ("RootJudge$Line", "pieces", "I", false)
  | 11 => ("RootJudge$Line", "simpleAbove", "[J", true)
  | _ => ("RootJudge$Line", "simpleBelow", "[I", true)
def tyX4 : Nat → FieldType := fun k => match k with
  | 0 => .object "RootJudge$Reader"
  | 1 => .object "RootJudge$Finder"
  | 2 => .object "RootJudge$Basis"
  | 3 => .array .int
  | 4 => .int
  | 5 => .array .byte
  | 6 => .array .boolean
  | 7 => .int
  | 8 => .int
  | 9 => .int
  | 10 => .int
  | 11 => .array .long
  | _ => .array .int
abbrev wsX40 : List Cond := u_ws RX4 TX4 13
theorem nmX4 : ∀ a, a < 13 → ∀ b, b < 13 → a ≠ b → (TX4 a).2.1 ≠ (TX4 b).2.1 := by decide +kernel
theorem tyX4_ok : ∀ k, k < 13 → parseFieldDescriptor (TX4 k).2.2.1 = some (tyX4 k) := by decide +kernel
abbrev cX4_init : ByteArray := prog_6_method_1_code
def yX4_init : MethodName := ⟨RX4, "<init>", "()V"⟩
abbrev cX4_rootAt : ByteArray := prog_6_method_2_code
def yX4_rootAt : MethodName := ⟨RX4, "rootAt", "(I)LRootJudge$Root;"⟩
abbrev cX4_insert : ByteArray := prog_6_method_3_code
def yX4_insert : MethodName := ⟨RX4, "insert", "(I)V"⟩
abbrev cX4_fillCells : ByteArray := prog_6_method_4_code
def yX4_fillCells : MethodName := ⟨RX4, "fillCells", "()V"⟩
abbrev cX4_fillSigns : ByteArray := prog_6_method_5_code
def yX4_fillSigns : MethodName := ⟨RX4, "fillSigns", "(I)V"⟩
abbrev cX4_trueAtoms : ByteArray := prog_6_method_6_code
def yX4_trueAtoms : MethodName := ⟨RX4, "trueAtoms", "(I)I"⟩
abbrev cX4_rootsOf : ByteArray := prog_6_method_7_code
def yX4_rootsOf : MethodName := ⟨RX4, "rootsOf", "(I)I"⟩
abbrev cX4_locate : ByteArray := prog_6_method_8_code
def yX4_locate : MethodName := ⟨RX4, "locate", "(JJJ)I"⟩
abbrev cX4_fillAt : ByteArray := prog_6_method_9_code
def yX4_fillAt : MethodName := ⟨RX4, "fillAt", "(I)V"⟩
abbrev cX4_fillBetween : ByteArray := prog_6_method_10_code
def yX4_fillBetween : MethodName := ⟨RX4, "fillBetween", "(I)V"⟩
abbrev cX4_descend : ByteArray := prog_6_method_11_code
def yX4_descend : MethodName := ⟨RX4, "descend", "(IJ)V"⟩
def RX5 : String := "RootJudge$Parter"
def TX5 : u_T := fun k => match k with
  | 0 => ("RootJudge$Parter", "moved", "[LRootJudge$Big;", true)
  | 1 => ("RootJudge$Parter", "tested", "[LRootJudge$Big;", true)
  | 2 => ("RootJudge$Parter", "corner", "LRootJudge$Big;", true)
  | 3 => ("RootJudge$Parter", "one", "LRootJudge$Big;", true)
  | 4 => ("RootJudge$Parter", "degree", "I", false)
  | _ => ("RootJudge$Parter", "bits", "I", false)
def tyX5 : Nat → FieldType := fun k => match k with
  | 0 => .array (.object "RootJudge$Big")
  | 1 => .array (.object "RootJudge$Big")
  | 2 => .object "RootJudge$Big"
  | 3 => .object "RootJudge$Big"
  | 4 => .int
  | _ => .int
abbrev wsX50 : List Cond := u_ws RX5 TX5 6
theorem nmX5 : ∀ a, a < 6 → ∀ b, b < 6 → a ≠ b → (TX5 a).2.1 ≠ (TX5 b).2.1 := by decide +kernel
theorem tyX5_ok : ∀ k, k < 6 → parseFieldDescriptor (TX5 k).2.2.1 = some (tyX5 k) := by decide +kernel
abbrev cX5_init : ByteArray := prog_7_method_1_code
def yX5_init : MethodName := ⟨RX5, "<init>", "()V"⟩
abbrev cX5_part : ByteArray := prog_7_method_2_code
def yX5_part : MethodName := ⟨RX5, "part", "(LRootJudge$Poly;[LRootJudge$Root;I)I"⟩
abbrev cX5_reach : ByteArray := prog_7_method_3_code
def yX5_reach : MethodName := ⟨RX5, "reach", "(LRootJudge$Poly;)I"⟩
abbrev cX5_begin : ByteArray := prog_7_method_4_code
def yX5_begin : MethodName := ⟨RX5, "begin", "(LRootJudge$Poly;I)V"⟩
abbrev cX5_moveBy : ByteArray := prog_7_method_5_code
def yX5_moveBy : MethodName := ⟨RX5, "moveBy", "([LRootJudge$Big;I)V"⟩
abbrev cX5_dropZero : ByteArray := prog_7_method_6_code
def yX5_dropZero : MethodName := ⟨RX5, "dropZero", "()V"⟩
abbrev cX5_changes : ByteArray := prog_7_method_7_code
def yX5_changes : MethodName := ⟨RX5, "changes", "()I"⟩
abbrev cX5_mixed : ByteArray := prog_7_method_8_code
def yX5_mixed : MethodName := ⟨RX5, "mixed", "([LRootJudge$Big;)Z"⟩
abbrev cX5_halve : ByteArray := prog_7_method_9_code
def yX5_halve : MethodName := ⟨RX5, "halve", "()V"⟩
abbrev cX5_stepOn : ByteArray := prog_7_method_10_code
def yX5_stepOn : MethodName := ⟨RX5, "stepOn", "(I)Z"⟩
def RX6 : String := "RootJudge$Poly"
def TX6 : u_T := fun k => match k with
  | 0 => ("RootJudge$Poly", "degree", "I", false)
  | _ => ("RootJudge$Poly", "factors", "[J", true)
def tyX6 : Nat → FieldType := fun k => match k with
  | 0 => .int
  | _ => .array .long
abbrev wsX60 : List Cond := u_ws RX6 TX6 2
theorem nmX6 : ∀ a, a < 2 → ∀ b, b < 2 → a ≠ b → (TX6 a).2.1 ≠ (TX6 b).2.1 := by decide +kernel
theorem tyX6_ok : ∀ k, k < 2 → parseFieldDescriptor (TX6 k).2.2.1 = some (tyX6 k) := by decide +kernel
abbrev cX6_init : ByteArray := prog_8_method_1_code
def yX6_init : MethodName := ⟨RX6, "<init>", "()V"⟩
abbrev cX6_setConstant : ByteArray := prog_8_method_2_code
def yX6_setConstant : MethodName := ⟨RX6, "setConstant", "(J)V"⟩
abbrev cX6_setLinear : ByteArray := prog_8_method_3_code
def yX6_setLinear : MethodName := ⟨RX6, "setLinear", "(JJ)V"⟩
abbrev cX6_copy : ByteArray := prog_8_method_4_code
def yX6_copy : MethodName := ⟨RX6, "copy", "(LRootJudge$Poly;)V"⟩
abbrev cX6_measure : ByteArray := prog_8_method_5_code
def yX6_measure : MethodName := ⟨RX6, "measure", "()V"⟩
abbrev cX6_lead : ByteArray := prog_8_method_6_code
def yX6_lead : MethodName := ⟨RX6, "lead", "()J"⟩
abbrev cX6_setSlopeOf : ByteArray := prog_8_method_7_code
def yX6_setSlopeOf : MethodName := ⟨RX6, "setSlopeOf", "(LRootJudge$Poly;)V"⟩
abbrev cX6_makePrimitive : ByteArray := prog_8_method_8_code
def yX6_makePrimitive : MethodName := ⟨RX6, "makePrimitive", "()V"⟩
abbrev cX6_gcd : ByteArray := prog_8_method_9_code
def yX6_gcd : MethodName := ⟨RX6, "gcd", "(JJ)J"⟩
def RX7 : String := "RootJudge$Reader"
def TX7 : u_T := fun k => match k with
  | 0 => ("RootJudge$Reader", "text", "[C", true)
  | 1 => ("RootJudge$Reader", "length", "I", false)
  | 2 => ("RootJudge$Reader", "at", "I", false)
  | 3 => ("RootJudge$Reader", "next", "I", false)
  | 4 => ("RootJudge$Reader", "fault", "I", false)
  | 5 => ("RootJudge$Reader", "place", "I", false)
  | 6 => ("RootJudge$Reader", "slots", "[LRootJudge$Poly;", true)
  | 7 => ("RootJudge$Reader", "base", "LRootJudge$Poly;", true)
  | 8 => ("RootJudge$Reader", "product", "[J", true)
  | 9 => ("RootJudge$Reader", "polys", "[LRootJudge$Poly;", true)
  | 10 => ("RootJudge$Reader", "rels", "[I", true)
  | 11 => ("RootJudge$Reader", "atoms", "I", false)
  | 12 => ("RootJudge$Reader", "program", "[I", true)
  | _ => ("RootJudge$Reader", "steps", "I", false)
def tyX7 : Nat → FieldType := fun k => match k with
  | 0 => .array .char
  | 1 => .int
  | 2 => .int
  | 3 => .int
  | 4 => .int
  | 5 => .int
  | 6 => .array (.object "RootJudge$Poly")
  | 7 => .object "RootJudge$Poly"
  | 8 => .array .long
  | 9 => .array (.object "RootJudge$Poly")
  | 10 => .array .int
  | 11 => .int
  | 12 => .array .int
  | _ => .int
abbrev wsX70 : List Cond := u_ws RX7 TX7 14
theorem nmX7 : ∀ a, a < 14 → ∀ b, b < 14 → a ≠ b → (TX7 a).2.1 ≠ (TX7 b).2.1 := by decide +kernel
theorem tyX7_ok : ∀ k, k < 14 → parseFieldDescriptor (TX7 k).2.2.1 = some (tyX7 k) := by decide +kernel
abbrev cX7_init : ByteArray := prog_9_method_1_code
def yX7_init : MethodName := ⟨RX7, "<init>", "()V"⟩
abbrev cX7_read : ByteArray := prog_9_method_2_code
def yX7_read : MethodName := ⟨RX7, "read", "(I)I"⟩
abbrev cX7_fail : ByteArray := prog_9_method_3_code
def yX7_fail : MethodName := ⟨RX7, "fail", "(II)V"⟩
abbrev cX7_look : ByteArray := prog_9_method_4_code
def yX7_look : MethodName := ⟨RX7, "look", "()V"⟩
abbrev cX7_step : ByteArray := prog_9_method_5_code
def yX7_step : MethodName := ⟨RX7, "step", "()V"⟩
abbrev cX7_isDigit : ByteArray := prog_9_method_6_code
def yX7_isDigit : MethodName := ⟨RX7, "isDigit", "(I)Z"⟩
abbrev cX7_expect : ByteArray := prog_9_method_7_code
def yX7_expect : MethodName := ⟨RX7, "expect", "(I)V"⟩
abbrev cX7_emit : ByteArray := prog_9_method_8_code
def yX7_emit : MethodName := ⟨RX7, "emit", "(I)V"⟩
abbrev cX7_readText : ByteArray := prog_9_method_9_code
def yX7_readText : MethodName := ⟨RX7, "readText", "(I)V"⟩
abbrev cX7_readAll : ByteArray := prog_9_method_10_code
def yX7_readAll : MethodName := ⟨RX7, "readAll", "(I)V"⟩
abbrev cX7_readOne : ByteArray := prog_9_method_11_code
def yX7_readOne : MethodName := ⟨RX7, "readOne", "(I)V"⟩
abbrev cX7_readAtom : ByteArray := prog_9_method_12_code
def yX7_readAtom : MethodName := ⟨RX7, "readAtom", "()V"⟩
abbrev cX7_slot : ByteArray := prog_9_method_13_code
def yX7_slot : MethodName := ⟨RX7, "slot", "(I)LRootJudge$Poly;"⟩
abbrev cX7_readSum : ByteArray := prog_9_method_14_code
def yX7_readSum : MethodName := ⟨RX7, "readSum", "(II)V"⟩
abbrev cX7_readTerm : ByteArray := prog_9_method_15_code
def yX7_readTerm : MethodName := ⟨RX7, "readTerm", "(II)V"⟩
abbrev cX7_readPower : ByteArray := prog_9_method_16_code
def yX7_readPower : MethodName := ⟨RX7, "readPower", "(II)V"⟩
abbrev cX7_readBase : ByteArray := prog_9_method_17_code
def yX7_readBase : MethodName := ⟨RX7, "readBase", "(II)V"⟩
abbrev cX7_readNumber : ByteArray := prog_9_method_18_code
def yX7_readNumber : MethodName := ⟨RX7, "readNumber", "()I"⟩
abbrev cX7_negate : ByteArray := prog_9_method_19_code
def yX7_negate : MethodName := ⟨RX7, "negate", "(LRootJudge$Poly;)V"⟩
abbrev cX7_addTo : ByteArray := prog_9_method_20_code
def yX7_addTo : MethodName := ⟨RX7, "addTo", "(LRootJudge$Poly;LRootJudge$Poly;II)V"⟩
abbrev cX7_multiply : ByteArray := prog_9_method_21_code
def yX7_multiply : MethodName := ⟨RX7, "multiply", "(LRootJudge$Poly;LRootJudge$Poly;I)V"⟩
abbrev cX7_accept : ByteArray := prog_9_method_22_code
def yX7_accept : MethodName := ⟨RX7, "accept", "(LRootJudge$Poly;I)V"⟩
abbrev cX7_raise : ByteArray := prog_9_method_23_code
def yX7_raise : MethodName := ⟨RX7, "raise", "(LRootJudge$Poly;II)V"⟩
abbrev cX7_fulfilledBy : ByteArray := prog_9_method_24_code
def yX7_fulfilledBy : MethodName := ⟨RX7, "fulfilledBy", "(I)Z"⟩
def RX8 : String := "RootJudge$Root"
def TX8 : u_T := fun k => match k with
  | 0 => ("RootJudge$Root", "owner", "I", false)
  | 1 => ("RootJudge$Root", "fraction", "Z", false)
  | 2 => ("RootJudge$Root", "above", "J", false)
  | 3 => ("RootJudge$Root", "below", "J", false)
  | 4 => ("RootJudge$Root", "whole", "J", false)
  | 5 => ("RootJudge$Root", "part", "J", false)
  | 6 => ("RootJudge$Root", "left", "LRootJudge$Big;", true)
  | 7 => ("RootJudge$Root", "bits", "I", false)
  | 8 => ("RootJudge$Root", "leap", "I", false)
  | _ => ("RootJudge$Root", "before", "I", false)
def tyX8 : Nat → FieldType := fun k => match k with
  | 0 => .int
  | 1 => .boolean
  | 2 => .long
  | 3 => .long
  | 4 => .long
  | 5 => .long
  | 6 => .object "RootJudge$Big"
  | 7 => .int
  | 8 => .int
  | _ => .int
abbrev wsX80 : List Cond := u_ws RX8 TX8 10
theorem nmX8 : ∀ a, a < 10 → ∀ b, b < 10 → a ≠ b → (TX8 a).2.1 ≠ (TX8 b).2.1 := by decide +kernel
theorem tyX8_ok : ∀ k, k < 10 → parseFieldDescriptor (TX8 k).2.2.1 = some (tyX8 k) := by decide +kernel
abbrev cX8_init : ByteArray := prog_10_method_1_code
def yX8_init : MethodName := ⟨RX8, "<init>", "()V"⟩
abbrev cX8_start : ByteArray := prog_10_method_2_code
def yX8_start : MethodName := ⟨RX8, "start", "(LRootJudge$Big;IZ)V"⟩
abbrev cX8_setFraction : ByteArray := prog_10_method_3_code
def yX8_setFraction : MethodName := ⟨RX8, "setFraction", "(JJ)V"⟩
def RX9 : String := "RootJudge"
def TX9 : u_T := fun k => match k with
  | 0 => ("RootJudge", "signs", "I", false)
  | 1 => ("RootJudge", "fault", "I", false)
  | 2 => ("RootJudge", "place", "I", false)
  | 3 => ("RootJudge", "known", "Z", false)
  | 4 => ("RootJudge", "line", "LRootJudge$Line;", true)
  | 5 => ("RootJudge", "reader", "LRootJudge$Reader;", true)
  | 6 => ("RootJudge", "finder", "LRootJudge$Finder;", true)
  | _ => ("RootJudge", "basis", "LRootJudge$Basis;", true)
def tyX9 : Nat → FieldType := fun k => match k with
  | 0 => .int
  | 1 => .int
  | 2 => .int
  | 3 => .boolean
  | 4 => .object "RootJudge$Line"
  | 5 => .object "RootJudge$Reader"
  | 6 => .object "RootJudge$Finder"
  | _ => .object "RootJudge$Basis"
abbrev wsX90 : List Cond := u_ws RX9 TX9 8
theorem nmX9 : ∀ a, a < 8 → ∀ b, b < 8 → a ≠ b → (TX9 a).2.1 ≠ (TX9 b).2.1 := by decide +kernel
theorem tyX9_ok : ∀ k, k < 8 → parseFieldDescriptor (TX9 k).2.2.1 = some (tyX9 k) := by decide +kernel
abbrev cX9_init : ByteArray := prog_1_method_1_code
def yX9_init : MethodName := ⟨RX9, "<init>", "()V"⟩
abbrev cX9_type : ByteArray := prog_1_method_2_code
def yX9_type : MethodName := ⟨RX9, "type", "(I)I"⟩
abbrev cX9_four : ByteArray := prog_1_method_3_code
def yX9_four : MethodName := ⟨RX9, "four", "(I)I"⟩
abbrev cX9_load : ByteArray := prog_1_method_4_code
def yX9_load : MethodName := ⟨RX9, "load", "()I"⟩
abbrev cX9_count : ByteArray := prog_1_method_5_code
def yX9_count : MethodName := ⟨RX9, "count", "(I)I"⟩
abbrev cX9_atom : ByteArray := prog_1_method_6_code
def yX9_atom : MethodName := ⟨RX9, "atom", "(II)I"⟩
abbrev cX9_judge : ByteArray := prog_1_method_7_code
def yX9_judge : MethodName := ⟨RX9, "judge", "(I)I"⟩
abbrev cX9_holds : ByteArray := prog_1_method_8_code
def yX9_holds : MethodName := ⟨RX9, "holds", "(I)I"⟩
abbrev cX9_sign : ByteArray := prog_1_method_9_code
def yX9_sign : MethodName := ⟨RX9, "sign", "(II)I"⟩
abbrev cX9_root : ByteArray := prog_1_method_10_code
def yX9_root : MethodName := ⟨RX9, "root", "(II)J"⟩
abbrev cX9_times : ByteArray := prog_1_method_11_code
def yX9_times : MethodName := ⟨RX9, "times", "(II)I"⟩
abbrev cX9_exact : ByteArray := prog_1_method_12_code
def yX9_exact : MethodName := ⟨RX9, "exact", "(II)J"⟩
abbrev cX9_common : ByteArray := prog_1_method_13_code
def yX9_common : MethodName := ⟨RX9, "common", "(I)I"⟩
abbrev cX9_simple : ByteArray := prog_1_method_14_code
def yX9_simple : MethodName := ⟨RX9, "simple", "(II)J"⟩
abbrev cX9_cellOf : ByteArray := prog_1_method_15_code
def yX9_cellOf : MethodName := ⟨RX9, "cellOf", "(II)I"⟩
abbrev cX9_signAt : ByteArray := prog_1_method_16_code
def yX9_signAt : MethodName := ⟨RX9, "signAt", "(III)I"⟩
abbrev cX9_isSign : ByteArray := prog_1_method_17_code
def yX9_isSign : MethodName := ⟨RX9, "isSign", "(I)Z"⟩
abbrev cX9_isFraction : ByteArray := prog_1_method_18_code
def yX9_isFraction : MethodName := ⟨RX9, "isFraction", "(II)Z"⟩
abbrev cX9_isAtom : ByteArray := prog_1_method_19_code
def yX9_isAtom : MethodName := ⟨RX9, "isAtom", "(I)Z"⟩
abbrev cX9_isRoot : ByteArray := prog_1_method_20_code
def yX9_isRoot : MethodName := ⟨RX9, "isRoot", "(I)Z"⟩
abbrev cX9_isCell : ByteArray := prog_1_method_21_code
def yX9_isCell : MethodName := ⟨RX9, "isCell", "(I)Z"⟩
def RX10 : String := "RootJudgeModel"
def TX10 : u_T := fun k => match k with
  | 0 => ("RootJudgeModel", "text", "[I", true)
  | 1 => ("RootJudgeModel", "size", "I", false)
  | 2 => ("RootJudgeModel", "fault", "I", false)
  | 3 => ("RootJudgeModel", "faultPlace", "I", false)
  | 4 => ("RootJudgeModel", "at", "I", false)
  | 5 => ("RootJudgeModel", "read", "Z", false)
  | 6 => ("RootJudgeModel", "atoms", "I", false)
  | 7 => ("RootJudgeModel", "factor", "[J", true)
  | 8 => ("RootJudgeModel", "rel", "[I", true)
  | 9 => ("RootJudgeModel", "made", "[I", true)
  | 10 => ("RootJudgeModel", "makes", "I", false)
  | 11 => ("RootJudgeModel", "waits", "[I", true)
  | 12 => ("RootJudgeModel", "waiting", "I", false)
  | 13 => ("RootJudgeModel", "truth", "[Z", true)
  | 14 => ("RootJudgeModel", "sum", "[J", true)
  | 15 => ("RootJudgeModel", "term", "[J", true)
  | 16 => ("RootJudgeModel", "base", "[J", true)
  | 17 => ("RootJudgeModel", "product", "[J", true)
  | 18 => ("RootJudgeModel", "sumSign", "[I", true)
  | 19 => ("RootJudgeModel", "sumPlace", "[I", true)
  | 20 => ("RootJudgeModel", "timesPlace", "[I", true)
  | 21 => ("RootJudgeModel", "deep", "I", false)
  | 22 => ("RootJudgeModel", "spare", "[J", true)
  | 23 => ("RootJudgeModel", "a", "[I", true)
  | 24 => ("RootJudgeModel", "top", "I", false)
  | 25 => ("RootJudgeModel", "quotient", "I", false)
  | 26 => ("RootJudgeModel", "degree", "[I", true)
  | 27 => ("RootJudgeModel", "part", "[I", true)
  | 28 => ("RootJudgeModel", "polynomials", "I", false)
  | 29 => ("RootJudgeModel", "chainMany", "I", false)
  | 30 => ("RootJudgeModel", "chain", "[I", true)
  | 31 => ("RootJudgeModel", "moved", "[I", true)
  | 32 => ("RootJudgeModel", "movedEnd", "I", false)
  | 33 => ("RootJudgeModel", "movedAt", "I", false)
  | 34 => ("RootJudgeModel", "bases", "I", false)
  | 35 => ("RootJudgeModel", "baseOf", "[I", true)
  | 36 => ("RootJudgeModel", "factors", "I", false)
  | 37 => ("RootJudgeModel", "factorOf", "[I", true)
  | 38 => ("RootJudgeModel", "factorAtom", "[I", true)
  | 39 => ("RootJudgeModel", "factorTimes", "[I", true)
  | 40 => ("RootJudgeModel", "times2", "[I", true)
  | 41 => ("RootJudgeModel", "roots", "I", false)
  | 42 => ("RootJudgeModel", "rootBase", "[I", true)
  | 43 => ("RootJudgeModel", "above", "[J", true)
  | 44 => ("RootJudgeModel", "below", "[J", true)
  | 45 => ("RootJudgeModel", "rootOf", "[I", true)
  | 46 => ("RootJudgeModel", "half", "[I", true)
  | 47 => ("RootJudgeModel", "halfSize", "[I", true)
  | 48 => ("RootJudgeModel", "signLeft", "[I", true)
  | 49 => ("RootJudgeModel", "order", "[I", true)
  | 50 => ("RootJudgeModel", "pile", "[I", true)
  | 51 => ("RootJudgeModel", "pileSize", "[I", true)
  | 52 => ("RootJudgeModel", "rooms", "I", false)
  | 53 => ("RootJudgeModel", "signs", "[I", true)
  | _ => ("RootJudgeModel", "holding", "[Z", true)
def tyX10 : Nat → FieldType := fun k => match k with
  | 0 => .array .int
  | 1 => .int
  | 2 => .int
  | 3 => .int
  | 4 => .int
  | 5 => .boolean
  | 6 => .int
  | 7 => .array .long
  | 8 => .array .int
  | 9 => .array .int
  | 10 => .int
  | 11 => .array .int
  | 12 => .int
  | 13 => .array .boolean
  | 14 => .array .long
  | 15 => .array .long
  | 16 => .array .long
  | 17 => .array .long
  | 18 => .array .int
  | 19 => .array .int
  | 20 => .array .int
  | 21 => .int
  | 22 => .array .long
  | 23 => .array .int
  | 24 => .int
  | 25 => .int
  | 26 => .array .int
  | 27 => .array .int
  | 28 => .int
  | 29 => .int
  | 30 => .array .int
  | 31 => .array .int
  | 32 => .int
  | 33 => .int
  | 34 => .int
  | 35 => .array .int
  | 36 => .int
  | 37 => .array .int
  | 38 => .array .int
  | 39 => .array .int
  | 40 => .array .int
  | 41 => .int
  | 42 => .array .int
  | 43 => .array .long
  | 44 => .array .long
  | 45 => .array .int
  | 46 => .array .int
  | 47 => .array .int
  | 48 => .array .int
  | 49 => .array .int
  | 50 => .array .int
  | 51 => .array .int
  | 52 => .int
  | 53 => .array .int
  | _ => .array .boolean
abbrev wsX100 : List Cond := u_ws RX10 TX10 55
theorem nmX10 : ∀ a, a < 55 → ∀ b, b < 55 → a ≠ b → (TX10 a).2.1 ≠ (TX10 b).2.1 := by decide +kernel
theorem tyX10_ok : ∀ k, k < 55 → parseFieldDescriptor (TX10 k).2.2.1 = some (tyX10 k) := by decide +kernel
abbrev cX10_init : ByteArray := prog_12_method_1_code
def yX10_init : MethodName := ⟨RX10, "<init>", "()V"⟩
abbrev cX10_isSign : ByteArray := prog_12_method_2_code
def yX10_isSign : MethodName := ⟨RX10, "isSign", "(I)Z"⟩
abbrev cX10_type : ByteArray := prog_12_method_3_code
def yX10_type : MethodName := ⟨RX10, "type", "(I)I"⟩
abbrev cX10_four : ByteArray := prog_12_method_4_code
def yX10_four : MethodName := ⟨RX10, "four", "(I)I"⟩
abbrev cX10_good : ByteArray := prog_12_method_5_code
def yX10_good : MethodName := ⟨RX10, "good", "()Z"⟩
abbrev cX10_fail : ByteArray := prog_12_method_6_code
def yX10_fail : MethodName := ⟨RX10, "fail", "(II)V"⟩
abbrev cX10_peek : ByteArray := prog_12_method_7_code
def yX10_peek : MethodName := ⟨RX10, "peek", "()I"⟩
abbrev cX10_isDigit : ByteArray := prog_12_method_8_code
def yX10_isDigit : MethodName := ⟨RX10, "isDigit", "(I)Z"⟩
abbrev cX10_isToken : ByteArray := prog_12_method_9_code
def yX10_isToken : MethodName := ⟨RX10, "isToken", "(I)Z"⟩
abbrev cX10_cannot : ByteArray := prog_12_method_10_code
def yX10_cannot : MethodName := ⟨RX10, "cannot", "()V"⟩
abbrev cX10_number : ByteArray := prog_12_method_11_code
def yX10_number : MethodName := ⟨RX10, "number", "()I"⟩
abbrev cX10_look : ByteArray := prog_12_method_12_code
def yX10_look : MethodName := ⟨RX10, "look", "()V"⟩
abbrev cX10_isFine : ByteArray := prog_12_method_13_code
def yX10_isFine : MethodName := ⟨RX10, "isFine", "(J)Z"⟩
abbrev cX10_multiply : ByteArray := prog_12_method_14_code
def yX10_multiply : MethodName := ⟨RX10, "multiply", "(I)V"⟩
abbrev cX10_raise : ByteArray := prog_12_method_15_code
def yX10_raise : MethodName := ⟨RX10, "raise", "(II)V"⟩
abbrev cX10_beginSum : ByteArray := prog_12_method_16_code
def yX10_beginSum : MethodName := ⟨RX10, "beginSum", "()V"⟩
abbrev cX10_endBase : ByteArray := prog_12_method_17_code
def yX10_endBase : MethodName := ⟨RX10, "endBase", "()V"⟩
abbrev cX10_endTerm : ByteArray := prog_12_method_18_code
def yX10_endTerm : MethodName := ⟨RX10, "endTerm", "()V"⟩
abbrev cX10_readSum : ByteArray := prog_12_method_19_code
def yX10_readSum : MethodName := ⟨RX10, "readSum", "()V"⟩
abbrev cX10_takeBase : ByteArray := prog_12_method_20_code
def yX10_takeBase : MethodName := ⟨RX10, "takeBase", "(I)Z"⟩
abbrev cX10_endBracket : ByteArray := prog_12_method_21_code
def yX10_endBracket : MethodName := ⟨RX10, "endBracket", "(I)V"⟩
abbrev cX10_readAtom : ByteArray := prog_12_method_22_code
def yX10_readAtom : MethodName := ⟨RX10, "readAtom", "()V"⟩
abbrev cX10_make : ByteArray := prog_12_method_23_code
def yX10_make : MethodName := ⟨RX10, "make", "(I)V"⟩
abbrev cX10_wait1 : ByteArray := prog_12_method_24_code
def yX10_wait1 : MethodName := ⟨RX10, "wait1", "(I)V"⟩
abbrev cX10_settle : ByteArray := prog_12_method_25_code
def yX10_settle : MethodName := ⟨RX10, "settle", "(I)V"⟩
abbrev cX10_readText : ByteArray := prog_12_method_26_code
def yX10_readText : MethodName := ⟨RX10, "readText", "()V"⟩
abbrev cX10_whole : ByteArray := prog_12_method_27_code
def yX10_whole : MethodName := ⟨RX10, "whole", "(J)I"⟩
abbrev cX10_limbs : ByteArray := prog_12_method_28_code
def yX10_limbs : MethodName := ⟨RX10, "limbs", "(I)I"⟩
abbrev cX10_sgn : ByteArray := prog_12_method_29_code
def yX10_sgn : MethodName := ⟨RX10, "sgn", "(I)I"⟩
abbrev cX10_copyTo : ByteArray := prog_12_method_30_code
def yX10_copyTo : MethodName := ⟨RX10, "copyTo", "(II)V"⟩
abbrev cX10_keep : ByteArray := prog_12_method_31_code
def yX10_keep : MethodName := ⟨RX10, "keep", "(II)I"⟩
abbrev cX10_again : ByteArray := prog_12_method_32_code
def yX10_again : MethodName := ⟨RX10, "again", "(I)I"⟩
abbrev cX10_less : ByteArray := prog_12_method_33_code
def yX10_less : MethodName := ⟨RX10, "less", "(I)I"⟩
abbrev cX10_weigh : ByteArray := prog_12_method_34_code
def yX10_weigh : MethodName := ⟨RX10, "weigh", "(II)I"⟩
abbrev cX10_compare : ByteArray := prog_12_method_35_code
def yX10_compare : MethodName := ⟨RX10, "compare", "(II)I"⟩
abbrev cX10_joined : ByteArray := prog_12_method_36_code
def yX10_joined : MethodName := ⟨RX10, "joined", "(IIZZ)I"⟩
abbrev cX10_plus : ByteArray := prog_12_method_37_code
def yX10_plus : MethodName := ⟨RX10, "plus", "(II)I"⟩
abbrev cX10_minus : ByteArray := prog_12_method_38_code
def yX10_minus : MethodName := ⟨RX10, "minus", "(II)I"⟩
abbrev cX10_by : ByteArray := prog_12_method_39_code
def yX10_by : MethodName := ⟨RX10, "by", "(II)I"⟩
abbrev cX10_divide : ByteArray := prog_12_method_40_code
def yX10_divide : MethodName := ⟨RX10, "divide", "(II)I"⟩
abbrev cX10_digit : ByteArray := prog_12_method_41_code
def yX10_digit : MethodName := ⟨RX10, "digit", "(IIII)I"⟩
abbrev cX10_fitsSo : ByteArray := prog_12_method_42_code
def yX10_fitsSo : MethodName := ⟨RX10, "fitsSo", "(IIIIJ)Z"⟩
abbrev cX10_over : ByteArray := prog_12_method_43_code
def yX10_over : MethodName := ⟨RX10, "over", "(II)I"⟩
abbrev cX10_gcd : ByteArray := prog_12_method_44_code
def yX10_gcd : MethodName := ⟨RX10, "gcd", "(II)I"⟩
abbrev cX10_powerOfTwo : ByteArray := prog_12_method_45_code
def yX10_powerOfTwo : MethodName := ⟨RX10, "powerOfTwo", "(I)I"⟩
abbrev cX10_newPolynomial : ByteArray := prog_12_method_46_code
def yX10_newPolynomial : MethodName := ⟨RX10, "newPolynomial", "(I)I"⟩
abbrev cX10_at : ByteArray := prog_12_method_47_code
def yX10_at : MethodName := ⟨RX10, "at", "(II)I"⟩
abbrev cX10_set : ByteArray := prog_12_method_48_code
def yX10_set : MethodName := ⟨RX10, "set", "(III)V"⟩
abbrev cX10_clean : ByteArray := prog_12_method_49_code
def yX10_clean : MethodName := ⟨RX10, "clean", "(IZ)V"⟩
abbrev cX10_derivative : ByteArray := prog_12_method_50_code
def yX10_derivative : MethodName := ⟨RX10, "derivative", "(I)I"⟩
abbrev cX10_restOf : ByteArray := prog_12_method_51_code
def yX10_restOf : MethodName := ⟨RX10, "restOf", "(II)I"⟩
abbrev cX10_common2 : ByteArray := prog_12_method_52_code
def yX10_common2 : MethodName := ⟨RX10, "common2", "(II)I"⟩
abbrev cX10_share : ByteArray := prog_12_method_53_code
def yX10_share : MethodName := ⟨RX10, "share", "(II)I"⟩
abbrev cX10_signAt2 : ByteArray := prog_12_method_54_code
def yX10_signAt2 : MethodName := ⟨RX10, "signAt2", "(III)I"⟩
abbrev cX10_makeChain : ByteArray := prog_12_method_55_code
def yX10_makeChain : MethodName := ⟨RX10, "makeChain", "(I)V"⟩
abbrev cX10_changesAt : ByteArray := prog_12_method_56_code
def yX10_changesAt : MethodName := ⟨RX10, "changesAt", "(II)I"⟩
abbrev cX10_changesAtHalf : ByteArray := prog_12_method_57_code
def yX10_changesAtHalf : MethodName := ⟨RX10, "changesAtHalf", "(II)I"⟩
abbrev cX10_stay : ByteArray := prog_12_method_58_code
def yX10_stay : MethodName := ⟨RX10, "stay", "(I)V"⟩
abbrev cX10_giveBack : ByteArray := prog_12_method_59_code
def yX10_giveBack : MethodName := ⟨RX10, "giveBack", "(II)V"⟩
abbrev cX10_comeBack : ByteArray := prog_12_method_60_code
def yX10_comeBack : MethodName := ⟨RX10, "comeBack", "()I"⟩
abbrev cX10_polynomialOf : ByteArray := prog_12_method_61_code
def yX10_polynomialOf : MethodName := ⟨RX10, "polynomialOf", "(I)I"⟩
abbrev cX10_part1 : ByteArray := prog_12_method_62_code
def yX10_part1 : MethodName := ⟨RX10, "part1", "(I)V"⟩
abbrev cX10_join : ByteArray := prog_12_method_63_code
def yX10_join : MethodName := ⟨RX10, "join", "(I)V"⟩
abbrev cX10_findTimes : ByteArray := prog_12_method_64_code
def yX10_findTimes : MethodName := ⟨RX10, "findTimes", "()V"⟩
abbrev cX10_divisor : ByteArray := prog_12_method_65_code
def yX10_divisor : MethodName := ⟨RX10, "divisor", "(JJ)J"⟩
abbrev cX10_findRoots : ByteArray := prog_12_method_66_code
def yX10_findRoots : MethodName := ⟨RX10, "findRoots", "(I)V"⟩
abbrev cX10_plus1 : ByteArray := prog_12_method_67_code
def yX10_plus1 : MethodName := ⟨RX10, "plus1", "(II)I"⟩
abbrev cX10_addRoot : ByteArray := prog_12_method_68_code
def yX10_addRoot : MethodName := ⟨RX10, "addRoot", "(III)V"⟩
abbrev cX10_valueOf : ByteArray := prog_12_method_69_code
def yX10_valueOf : MethodName := ⟨RX10, "valueOf", "(I)J"⟩
abbrev cX10_reserve : ByteArray := prog_12_method_70_code
def yX10_reserve : MethodName := ⟨RX10, "reserve", "(I)I"⟩
abbrev cX10_restRoots : ByteArray := prog_12_method_71_code
def yX10_restRoots : MethodName := ⟨RX10, "restRoots", "(II)V"⟩
abbrev cX10_refine : ByteArray := prog_12_method_72_code
def yX10_refine : MethodName := ⟨RX10, "refine", "(I)V"⟩
abbrev cX10_against : ByteArray := prog_12_method_73_code
def yX10_against : MethodName := ⟨RX10, "against", "(IJJ)I"⟩
abbrev cX10_isBefore : ByteArray := prog_12_method_74_code
def yX10_isBefore : MethodName := ⟨RX10, "isBefore", "(II)Z"⟩
abbrev cX10_findAll : ByteArray := prog_12_method_75_code
def yX10_findAll : MethodName := ⟨RX10, "findAll", "()V"⟩
abbrev cX10_timesAt : ByteArray := prog_12_method_76_code
def yX10_timesAt : MethodName := ⟨RX10, "timesAt", "(II)I"⟩
abbrev cX10_degreeOf : ByteArray := prog_12_method_77_code
def yX10_degreeOf : MethodName := ⟨RX10, "degreeOf", "(I)I"⟩
abbrev cX10_cells : ByteArray := prog_12_method_78_code
def yX10_cells : MethodName := ⟨RX10, "cells", "()I"⟩
abbrev cX10_signAll : ByteArray := prog_12_method_79_code
def yX10_signAll : MethodName := ⟨RX10, "signAll", "()V"⟩
abbrev cX10_isSo : ByteArray := prog_12_method_80_code
def yX10_isSo : MethodName := ⟨RX10, "isSo", "(I)Z"⟩
abbrev cX10_load : ByteArray := prog_12_method_81_code
def yX10_load : MethodName := ⟨RX10, "load", "()I"⟩
abbrev cX10_holdingMany : ByteArray := prog_12_method_82_code
def yX10_holdingMany : MethodName := ⟨RX10, "holdingMany", "()I"⟩
abbrev cX10_count : ByteArray := prog_12_method_83_code
def yX10_count : MethodName := ⟨RX10, "count", "(I)I"⟩
abbrev cX10_isAtom : ByteArray := prog_12_method_84_code
def yX10_isAtom : MethodName := ⟨RX10, "isAtom", "(I)Z"⟩
abbrev cX10_isRoot : ByteArray := prog_12_method_85_code
def yX10_isRoot : MethodName := ⟨RX10, "isRoot", "(I)Z"⟩
abbrev cX10_isCell : ByteArray := prog_12_method_86_code
def yX10_isCell : MethodName := ⟨RX10, "isCell", "(I)Z"⟩
abbrev cX10_atom : ByteArray := prog_12_method_87_code
def yX10_atom : MethodName := ⟨RX10, "atom", "(II)I"⟩
abbrev cX10_judge : ByteArray := prog_12_method_88_code
def yX10_judge : MethodName := ⟨RX10, "judge", "(I)I"⟩
abbrev cX10_holds : ByteArray := prog_12_method_89_code
def yX10_holds : MethodName := ⟨RX10, "holds", "(I)I"⟩
abbrev cX10_sign : ByteArray := prog_12_method_90_code
def yX10_sign : MethodName := ⟨RX10, "sign", "(II)I"⟩
abbrev cX10_floor : ByteArray := prog_12_method_91_code
def yX10_floor : MethodName := ⟨RX10, "floor", "(JJ)J"⟩
abbrev cX10_floorOf : ByteArray := prog_12_method_92_code
def yX10_floorOf : MethodName := ⟨RX10, "floorOf", "(IJ)J"⟩
abbrev cX10_root : ByteArray := prog_12_method_93_code
def yX10_root : MethodName := ⟨RX10, "root", "(II)J"⟩
abbrev cX10_times : ByteArray := prog_12_method_94_code
def yX10_times : MethodName := ⟨RX10, "times", "(II)I"⟩
abbrev cX10_exact : ByteArray := prog_12_method_95_code
def yX10_exact : MethodName := ⟨RX10, "exact", "(II)J"⟩
abbrev cX10_common : ByteArray := prog_12_method_96_code
def yX10_common : MethodName := ⟨RX10, "common", "(I)I"⟩
abbrev cX10_simple : ByteArray := prog_12_method_97_code
def yX10_simple : MethodName := ⟨RX10, "simple", "(II)J"⟩
abbrev cX10_mostBelow : ByteArray := prog_12_method_98_code
def yX10_mostBelow : MethodName := ⟨RX10, "mostBelow", "(IJ)J"⟩
abbrev cX10_isNumber : ByteArray := prog_12_method_99_code
def yX10_isNumber : MethodName := ⟨RX10, "isNumber", "(II)Z"⟩
abbrev cX10_cellOf : ByteArray := prog_12_method_100_code
def yX10_cellOf : MethodName := ⟨RX10, "cellOf", "(II)I"⟩
abbrev cX10_signAt : ByteArray := prog_12_method_101_code
def yX10_signAt : MethodName := ⟨RX10, "signAt", "(III)I"⟩
def RJ11 : String := "java/lang/Character"
abbrev cJ11_isValidCodePoint_9a6ad : ByteArray := prog_13_method_11_code
def yJ11_isValidCodePoint_9a6ad : MethodName := ⟨RJ11, "isValidCodePoint", "(I)Z"⟩
abbrev cJ11_highSurrogate_5068e : ByteArray := prog_13_method_28_code
def yJ11_highSurrogate_5068e : MethodName := ⟨RJ11, "highSurrogate", "(I)C"⟩
abbrev cJ11_lowSurrogate_5068e : ByteArray := prog_13_method_29_code
def yJ11_lowSurrogate_5068e : MethodName := ⟨RJ11, "lowSurrogate", "(I)C"⟩
def RJ13 : String := "java/lang/Long"
abbrev cJ13_compare_74951 : ByteArray := prog_14_method_42_code
def yJ13_compare_74951 : MethodName := ⟨RJ13, "compare", "(JJ)I"⟩
def RJ9 : String := "java/lang/Math"
abbrev cJ9_floorDiv_7cf53 : ByteArray := prog_15_method_47_code
def yJ9_floorDiv_7cf53 : MethodName := ⟨RJ9, "floorDiv", "(II)I"⟩
abbrev cJ9_floorDiv_f86c9 : ByteArray := prog_15_method_49_code
def yJ9_floorDiv_f86c9 : MethodName := ⟨RJ9, "floorDiv", "(JJ)J"⟩
abbrev cJ9_floorMod_7cf53 : ByteArray := prog_15_method_50_code
def yJ9_floorMod_7cf53 : MethodName := ⟨RJ9, "floorMod", "(II)I"⟩
abbrev cJ9_floorMod_f86c9 : ByteArray := prog_15_method_52_code
def yJ9_floorMod_f86c9 : MethodName := ⟨RJ9, "floorMod", "(JJ)J"⟩
abbrev cJ9_abs_0f7a4 : ByteArray := prog_15_method_59_code
def yJ9_abs_0f7a4 : MethodName := ⟨RJ9, "abs", "(I)I"⟩
abbrev cJ9_abs_067f4 : ByteArray := prog_15_method_61_code
def yJ9_abs_067f4 : MethodName := ⟨RJ9, "abs", "(J)J"⟩
abbrev cJ9_max_7cf53 : ByteArray := prog_15_method_65_code
def yJ9_max_7cf53 : MethodName := ⟨RJ9, "max", "(II)I"⟩
abbrev cJ9_max_f86c9 : ByteArray := prog_15_method_66_code
def yJ9_max_f86c9 : MethodName := ⟨RJ9, "max", "(JJ)J"⟩
abbrev cJ9_min_7cf53 : ByteArray := prog_15_method_69_code
def yJ9_min_7cf53 : MethodName := ⟨RJ9, "min", "(II)I"⟩
def RJ0 : String := "java/lang/String"
abbrev cJ0_length_8abf5 : ByteArray := prog_16_method_54_code
def yJ0_length_8abf5 : MethodName := ⟨RJ0, "length", "()I"⟩
abbrev cJ0_indexOf_0f7a4 : ByteArray := prog_16_method_79_code
def yJ0_indexOf_0f7a4 : MethodName := ⟨RJ0, "indexOf", "(I)I"⟩
abbrev cJ0_indexOf_7cf53 : ByteArray := prog_16_method_80_code
def yJ0_indexOf_7cf53 : MethodName := ⟨RJ0, "indexOf", "(II)I"⟩
abbrev cJ0_coder_7d493 : ByteArray := prog_16_method_152_code
def yJ0_coder_7d493 : MethodName := ⟨RJ0, "coder", "()B"⟩
abbrev cJ0_isLatin1_aae02 : ByteArray := prog_16_method_154_code
def yJ0_isLatin1_aae02 : MethodName := ⟨RJ0, "isLatin1", "()Z"⟩
abbrev cJ0_checkBoundsBeginEnd_23922 : ByteArray := prog_16_method_158_code
def yJ0_checkBoundsBeginEnd_23922 : MethodName := ⟨RJ0, "checkBoundsBeginEnd", "(III)V"⟩
def RJ1 : String := "java/lang/StringLatin1"
abbrev cJ1_canEncode_9a6ad : ByteArray := prog_17_method_4_code
def yJ1_canEncode_9a6ad : MethodName := ⟨RJ1, "canEncode", "(I)Z"⟩
abbrev cJ1_indexOf_4cfef : ByteArray := prog_17_method_22_code
def yJ1_indexOf_4cfef : MethodName := ⟨RJ1, "indexOf", "([BIII)I"⟩
abbrev cJ1_indexOfChar_4cfef : ByteArray := prog_17_method_23_code
def yJ1_indexOfChar_4cfef : MethodName := ⟨RJ1, "indexOfChar", "([BIII)I"⟩
def RJ2 : String := "java/lang/StringUTF16"
abbrev cJ2_getChar_3b067 : ByteArray := prog_18_method_5_code
def yJ2_getChar_3b067 : MethodName := ⟨RJ2, "getChar", "([BI)C"⟩
abbrev cJ2_length_9d52b : ByteArray := prog_18_method_6_code
def yJ2_length_9d52b : MethodName := ⟨RJ2, "length", "([B)I"⟩
abbrev cJ2_indexOf_4cfef : ByteArray := prog_18_method_40_code
def yJ2_indexOf_4cfef : MethodName := ⟨RJ2, "indexOf", "([BIII)I"⟩
abbrev cJ2_indexOfChar_4cfef : ByteArray := prog_18_method_47_code
def yJ2_indexOfChar_4cfef : MethodName := ⟨RJ2, "indexOfChar", "([BIII)I"⟩
abbrev cJ2_indexOfCharUnsafe_4cfef : ByteArray := prog_18_method_48_code
def yJ2_indexOfCharUnsafe_4cfef : MethodName := ⟨RJ2, "indexOfCharUnsafe", "([BIII)I"⟩
abbrev cJ2_indexOfSupplementary_4cfef : ByteArray := prog_18_method_49_code
def yJ2_indexOfSupplementary_4cfef : MethodName := ⟨RJ2, "indexOfSupplementary", "([BIII)I"⟩
abbrev cJ2_checkBoundsBeginEnd_d044e : ByteArray := prog_18_method_93_code
def yJ2_checkBoundsBeginEnd_d044e : MethodName := ⟨RJ2, "checkBoundsBeginEnd", "(II[B)V"⟩
def RJ10 : String := "java/lang/System"
def RJ3 : String := "jdk/internal/util/Preconditions"
abbrev cJ3_checkFromToIndex_8c36e : ByteArray := prog_20_method_12_code
def yJ3_checkFromToIndex_8c36e : MethodName := ⟨RJ3, "checkFromToIndex", "(IIILjava/util/function/BiFunction;)I"⟩
def RL : String := "RootJudgeLaw"
abbrev cL_law : ByteArray := code
def yL_law : MethodName := ⟨RL, "law", "([I)Z"⟩
abbrev vwCl : List vw_C := [(RX0, TX0, 8), (RX1, TX1, 3), (RX2, TX2, 8), (RX3, TX3, 17), (RX4, TX4, 13), (RX5, TX5, 6), (RX6, TX6, 2), (RX7, TX7, 14), (RX8, TX8, 10), (RX9, TX9, 8), (RX10, TX10, 55)]
end
section
/-! A MACHINE OF ITS OWN: the bytecode's instructions as functions over lists. A reference .ref k is the place k of the machine's heap (a list of cells), .retAddr n a cell that was there before (the script, a String constant, its bytes). -/
abbrev rm_H : Type := List va_E
abbrev rm_L : Type := List (Nat × Value)
/-- cells made, slots made, what symbolic branches shall do, whether they do -/
abbrev rm_T : Type := Nat × Nat × List Nat × Bool
abbrev rm_N : Type := Nat × rm_L × List Value × rm_H × rm_T
def rm_get : rm_L → Nat → Option Value
  | [], _ => none
  | q :: r, i => if q.1 == i then some q.2 else rm_get r i
def rm_put1 (lv : rm_L) (i : Nat) (v : Value) : rm_L := (i, v) :: lv.filter (fun q => !(q.1 == i) && !(q.1 + 1 == i && q.2.category == 2))
def rm_put2 (lv : rm_L) (i : Nat) (v : Value) : rm_L := (i, v) :: lv.filter (fun q => !(q.1 == i) && (!(q.1 == i + 1) && !(q.1 + 1 == i && q.2.category == 2)))
/-- what is known of the numbers that are only named: (name, number, condition, whether it holds) -/
abbrev rm_F : Type := List (Nat × Int32 × Nat × Bool)
def rm_cn : ClassFile.Cond → Nat
  | .eq => 0
  | .ne => 1
  | .lt => 2
  | .ge => 3
  | .gt => 4
  | .le => 5
def rm_lf : rm_F → Nat → Int32 → Nat → Option Bool
  | [], _, _, _ => none
  | q :: r, k, y, c => if q.1 = k ∧ q.2.1 = y ∧ q.2.2.1 = c then some q.2.2.2 else rm_lf r k y c
def rm_lw : rm_F → Nat → Option Int32
  | [], _ => none
  | q :: r, k => if q.1 = k ∧ q.2.2.1 = 0 ∧ q.2.2.2 = true then some q.2.1 else rm_lw r k
/-- a number out of a named one by a mask (0), a shift (1, 2), a narrowing (3): its name -/
def rm_sym (op k : Nat) (y : Int32) : Option Nat := match op with
  | 0 => if k = 0 ∧ y = 15 then some 4 else if 10 ≤ k ∧ k < 14 ∧ y = 255 then some (k + 20) else if 20 ≤ k ∧ k < 24 ∧ y = 255 then some (k + 10) else none
  | 1 => if k = 1 then (if y = 0 then some 20 else if y = 8 then some 21 else if y = 16 then some 22 else if y = 24 then some 23 else none) else none
  | 2 => if k = 1 then (if y = 0 then some 10 else if y = 8 then some 11 else if y = 16 then some 12 else if y = 24 then some 13 else none) else none
  | 3 => if k = 1 then some 50 else if 30 ≤ k ∧ k < 34 then some (k + 30) else none
  | _ => none
def rm_fop (op : Nat) (x y : Int32) : Int32 := match op with
  | 0 => x &&& y
  | 1 => x >>> (y &&& 31)
  | 2 => (x.toUInt32 >>> (y.toUInt32 &&& Int32.toUInt32 31)).toInt32
  | _ => (x.toUInt32 % 65536).toInt32
def rm_cnd (c : ClassFile.Cond) (x y : Int32) : Bool := match c with
  | .eq => decide (x = y)
  | .ne => decide (¬ x = y)
  | .lt => decide (x < y)
  | .ge => decide (y ≤ x)
  | .gt => decide (y < x)
  | .le => decide (x ≤ y)
def rm_tgt (pc : Nat) (off : Int) : Option Nat := if 0 ≤ (pc : Int) + off then some ((pc : Int) + off).toNat else none
-- families of instructions
def rm_push (n : Nat) (v : Value) (q : rm_N) : Option rm_N := some (q.1 + n, q.2.1, v :: q.2.2.1, q.2.2.2)
def rm_load (n i : Nat) (q : rm_N) : Option rm_N := match rm_get q.2.1 i with
  | some v => some (q.1 + n, q.2.1, v :: q.2.2.1, q.2.2.2)
  | none => none
def rm_isI : Value → Bool | .int _ => true | .float _ => true | _ => false
def rm_isJ : Value → Bool | .long _ => true | _ => false
def rm_isA : Value → Bool | .ref _ => true | .retAddr _ => true | _ => false
def rm_loadT (f : Value → Bool) (n i : Nat) (q : rm_N) : Option rm_N := match rm_get q.2.1 i with
  | some v => if f v then some (q.1 + n, q.2.1, v :: q.2.2.1, q.2.2.2) else none
  | none => none
def rm_store1 (f : Value → Bool) (nL n i : Nat) (q : rm_N) : Option rm_N := match q.2.2.1 with
  | v :: r => if f v && decide (i < nL) then some (q.1 + n, rm_put1 q.2.1 i v, r, q.2.2.2) else none
  | _ => none
def rm_store2 (nL n i : Nat) (q : rm_N) : Option rm_N := match q.2.2.1 with
  | .long v :: r => if i + 1 < nL then some (q.1 + n, rm_put2 q.2.1 i (.long v), r, q.2.2.2) else none
  | _ => none
def rm_iinc (nL i : Nat) (k : Int) (q : rm_N) : Option rm_N := match rm_get q.2.1 i with
  | some (.int x) => if i < nL then some (q.1 + 3, rm_put1 q.2.1 i (.int (x + Int32.ofInt k)), q.2.2.1, q.2.2.2) else none
  | _ => none
def rm_ii (f : Int32 → Int32 → Int32) (q : rm_N) : Option rm_N := match q.2.2.1 with
  | .int y :: .int x :: r => some (q.1 + 1, q.2.1, .int (f x y) :: r, q.2.2.2)
  | _ => none
def rm_iiz (f : Int32 → Int32 → Int32) (q : rm_N) : Option rm_N := match q.2.2.1 with
  | .int y :: .int x :: r => if y = 0 then none else some (q.1 + 1, q.2.1, .int (f x y) :: r, q.2.2.2)
  | _ => none
def rm_jji (f : Int64 → Int64 → Int32) (q : rm_N) : Option rm_N := match q.2.2.1 with
  | .long y :: .long x :: r => some (q.1 + 1, q.2.1, .int (f x y) :: r, q.2.2.2)
  | _ => none
def rm_jij (f : Int64 → Int32 → Int64) (q : rm_N) : Option rm_N := match q.2.2.1 with
  | .int y :: .long x :: r => some (q.1 + 1, q.2.1, .long (f x y) :: r, q.2.2.2)
  | _ => none
def rm_i1 (f : Int32 → Value) (q : rm_N) : Option rm_N := match q.2.2.1 with
  | .int x :: r => some (q.1 + 1, q.2.1, f x :: r, q.2.2.2)
  | _ => none
def rm_j1 (f : Int64 → Value) (q : rm_N) : Option rm_N := match q.2.2.1 with
  | .long x :: r => some (q.1 + 1, q.2.1, f x :: r, q.2.2.2)
  | _ => none
def rm_dup (q : rm_N) : Option rm_N := match q.2.2.1 with
  | v :: r => if v.category = 1 then some (q.1 + 1, q.2.1, v :: v :: r, q.2.2.2) else none
  | _ => none
def rm_pop (q : rm_N) : Option rm_N := match q.2.2.1 with
  | v :: r => if v.category = 1 then some (q.1 + 1, q.2.1, r, q.2.2.2) else none
  | _ => none
def rm_goto (off : Int) (q : rm_N) : Option rm_N := match rm_tgt q.1 off with
  | some g => some (g, q.2)
  | none => none
def rm_iis (op : Nat) (q : rm_N) : Option rm_N := match q.2.2.1 with
  | .int y :: .int x :: r => some (q.1 + 1, q.2.1, .int (rm_fop op x y) :: r, q.2.2.2)
  | .int y :: .float k :: r => match rm_sym op k.toNat y with
    | some j => some (q.1 + 1, q.2.1, .float (UInt32.ofNat j) :: r, q.2.2.2)
    | none => none
  | _ => none
def rm_i1s (q : rm_N) : Option rm_N := match q.2.2.1 with
  | .int x :: r => some (q.1 + 1, q.2.1, .int (rm_fop 3 x 0) :: r, q.2.2.2)
  | .float k :: r => match rm_sym 3 k.toNat 0 with
    | some j => some (q.1 + 1, q.2.1, .float (UInt32.ofNat j) :: r, q.2.2.2)
    | none => none
  | _ => none
/-- whether a condition holds of a number or a named one -/
def rm_dec (F : rm_F) (c : ClassFile.Cond) (x : Value) (y : Int32) : Option Bool := match x with
  | .int x => some (rm_cnd c x y)
  | .float k => rm_lf F k.toNat y (rm_cn c)
  | _ => none
def rm_if1 (F : rm_F) (c : ClassFile.Cond) (off : Int) (q : rm_N) : Option rm_N := match q.2.2.1, rm_tgt q.1 off with
  | x :: r, some g => match rm_dec F c x 0 with
    | some b => some (if b then g else q.1 + 3, q.2.1, r, q.2.2.2)
    | none => none
  | _, _ => none
def rm_if2 (F : rm_F) (c : ClassFile.Cond) (off : Int) (q : rm_N) : Option rm_N := match q.2.2.1, rm_tgt q.1 off with
  | .int y :: x :: r, some g => match rm_dec F c x y with
    | some b => some (if b then g else q.1 + 3, q.2.1, r, q.2.2.2)
    | none => none
  | _, _ => none
def rm_num (F : rm_F) : Value → Option Int32
  | .int x => some x
  | .float k => rm_lw F k.toNat
  | _ => none
def rm_table (F : rm_F) (dflt lo hi : Int) (offs : List Int) (q : rm_N) : Option rm_N := match q.2.2.1 with
  | v :: r => match rm_num F v with
    | some x => if x.toInt < lo ∨ hi < x.toInt then (match rm_tgt q.1 dflt with
        | some g => some (g, q.2.1, r, q.2.2.2)
        | none => none) else (match offs[(x.toInt - lo).toNat]? with
        | some off => (match rm_tgt q.1 off with
          | some g => some (g, q.2.1, r, q.2.2.2)
          | none => none)
        | none => none)
    | none => none
  | _ => none
/-- what a link means: (index, kind, a, b, c); kind 0 a field of class a at place b (c = 0 its own, 1 a nest mate's); 1 a class a with b fields; 2 references to class a, of array type b; 3 a method b; 4 an int; 5 a long; 6 a text -/
abbrev rm_K5 : Type := Nat × Nat × Nat × Nat × Nat
def rm_lk (ks : List rm_K5) (i : Nat) : Option (Nat × Nat × Nat × Nat) := match ks with
  | [] => none
  | k :: r => if k.1 == i then some k.2 else rm_lk r i
def rm_obj (h : rm_H) (a : Nat) : Option (Nat × List Value) := match h[a]? with
  | some (.inr o) => some o
  | _ => none
def rm_getf (k : Option (Nat × Nat × Nat × Nat)) (q : rm_N) : Option rm_N := match k, q.2.2.1 with
  | some (0, ci, f, _), .ref a :: r => match rm_obj q.2.2.2.1 a with
    | some o => if o.1 = ci then (match o.2[f]? with
      | some v => some (q.1 + 3, q.2.1, v :: r, q.2.2.2)
      | none => none) else none
    | none => none
  | _, _ => none
/-- of which type a field's value must be, by the type's tag: 0 int, 1 long, 2 a reference, 3 boolean -/
def rm_fit : FieldType → Value → Bool
  | .int, .int _ => true
  | .long, .long _ => true
  | .boolean, .int x => decide (x = 0 ∨ x = 1)
  | .object _, .ref _ => true
  | .array _, .ref _ => true
  | _, _ => false
def rm_fty (T : u_T) (k : Nat) : Option FieldType := parseFieldDescriptor (T k).2.2.1
end
section
/-! THE MACHINE AGAINST THE KIT'S W: values, locals, heaps; the instructions that make no cell and read none -/
theorem rm_u32 {j : Nat} (h : j < 100) : (UInt32.ofNat j).toNat = j := by
  have h2 : j < 4294967296 := by omega
  first
    | exact UInt32.toNat_ofNat_of_lt h2
    | exact UInt32.toNat_ofNat_of_lt' h2
    | (simp; omega)
/-- the number that a name stands for -/
def rm_e (ext : Nat → Nat) (k : Nat) : Int32 := Int32.ofNat (ext (100 + k))
def rm_v (sz : Nat) (ext : Nat → Nat) : Value → Value
  | .ref k => .ref (sz + k)
  | .float k => .int (rm_e ext k.toNat)
  | .retAddr n => .ref (ext n)
  | v => v
theorem rm_v_cat (sz : Nat) (ext : Nat → Nat) (v : Value) : (rm_v sz ext v).category = v.category := by cases v <;> rfl
def rm_l (sz : Nat) (ext : Nat → Nat) (lv : rm_L) : rm_L := lv.map (fun q => (q.1, rm_v sz ext q.2))
def rm_a (sz : Nat) (a : vp_A) : vp_A := match a with
  | (n, .inr (.inr (.inr (.inr f)))) => (n, .inr (.inr (.inr (.inr (fun j => (f j).map (fun k => sz + k))))))
  | a => a
def rm_c (sz : Nat) (ext : Nat → Nat) (cA : Nat → ClassId) : va_E → va_E
  | .inl a => .inl (cA a.1, rm_a sz a.2)
  | .inr o => .inr (o.1, o.2.map (rm_v sz ext))
/-- a cell of the machine's heap; the marker .inr (.inr (.inl _)): an array of numbers of which only the length is known -/
def rm_kd (t : Nat) (d : (Nat → Int32) ⊕ (Nat → Int64) ⊕ (Nat → UInt32) ⊕ (Nat → UInt64) ⊕ (Nat → Option Nat)) : Prop := if t = 1 then ∃ f, d = .inr (.inl f) else ∃ f, d = .inl f
def rm_hv (D : va_G) (cA : Nat → ClassId) (a t n : Nat) (H : Heap) : Prop := t < 5 ∧ ∃ d, rm_kd t d ∧ va_at D vwCl (a, .inl (cA t, n, d)) H
def rm_at1 (D : va_G) (sz : Nat) (ext : Nat → Nat) (cA : Nat → ClassId) (k : Nat) (c : va_E) (H : Heap) : Prop := match c with
  | .inl (t, n, .inr (.inr (.inl _))) => rm_hv D cA (sz + k) t n H
  | c => va_at D vwCl (sz + k, rm_c sz ext cA c) H
theorem rm_at1.kept {D : va_G} {sz : Nat} {ext : Nat → Nat} {cA : Nat → ClassId} {k : Nat} {c : va_E} {H H1 : Heap} (h : rm_at1 D sz ext cA k c H) (e : H1[sz + k]? = H[sz + k]?) : rm_at1 D sz ext cA k c H1 := by
  unfold rm_at1 at h ⊢
  split at h
  · obtain ⟨h0, d, h1, h2⟩ := h
    exact ⟨h0, d, h1, h2.kept e⟩
  · exact h.kept e
/-- the machine's heap is what lies in the true heap from sz on -/
def rm_R (D : va_G) (sz : Nat) (ext : Nat → Nat) (cA : Nat → ClassId) (h : rm_H) (H : Heap) : Prop := H.size = sz + h.length ∧ ∀ (k : Nat) (c : va_E), h[k]? = some c → rm_at1 D sz ext cA k c H
/-- nothing below sz was written -/
def rm_S (sz : Nat) (H0 H : Heap) (locs : List Loc) : Prop := (∀ q : Nat, q < sz → H[q]? = H0[q]?) ∧ ∀ q ∈ locs, sz ≤ q.base
theorem rm_get_mem {lv : rm_L} {i : Nat} {v : Value} (h : rm_get lv i = some v) : (i, v) ∈ lv := by
  induction lv with
  | nil => cases h
  | cons q r ih =>
    unfold rm_get at h
    by_cases hq : q.1 == i
    · rw [if_pos hq] at h
      have e : q.1 = i := by simpa using hq
      cases h
      cases q
      cases e
      exact List.mem_cons_self
    · rw [if_neg hq] at h
      exact List.mem_cons_of_mem _ (ih h)
theorem rm_at {sz : Nat} {ext : Nat → Nat} {ls : Array Slot} {nL : Nat} {lv : rm_L} {i : Nat} {v : Value} (hl : lv_has ls nL (rm_l sz ext lv)) (h : rm_get lv i = some v) : ls[i]? = some (.val (rm_v sz ext v)) :=
  hl.2.2 (i, rm_v sz ext v) (List.mem_map.mpr ⟨(i, v), rm_get_mem h, rfl⟩)
theorem rm_l_put1 {sz : Nat} {ext : Nat → Nat} {lv : rm_L} {i : Nat} {v : Value} : (i, rm_v sz ext v) :: (rm_l sz ext lv).filter (fun q => !(q.1 == i) && !(q.1 + 1 == i && q.2.category == 2)) = rm_l sz ext (rm_put1 lv i v) := by
  unfold rm_l rm_put1
  rw [List.map_cons, List.filter_map]
  refine congrArg (fun z => _ :: List.map _ (List.filter z lv)) ?_
  funext q
  simp [Function.comp, rm_v_cat]
theorem rm_l_put2 {sz : Nat} {ext : Nat → Nat} {lv : rm_L} {i : Nat} {v : Value} : (i, rm_v sz ext v) :: (rm_l sz ext lv).filter (fun q => !(q.1 == i) && (!(q.1 == i + 1) && !(q.1 + 1 == i && q.2.category == 2))) = rm_l sz ext (rm_put2 lv i v) := by
  unfold rm_l rm_put2
  rw [List.map_cons, List.filter_map]
  refine congrArg (fun z => _ :: List.map _ (List.filter z lv)) ?_
  funext q
  simp [Function.comp, rm_v_cat]
/-- what is said of the named numbers is so; what is reckoned of them has the name that the table says -/
def rm_E (ext : Nat → Nat) (F : rm_F) : Prop := (∀ (op k : Nat) (y : Int32) (j : Nat), rm_sym op k y = some j → j < 100 ∧ rm_e ext j = rm_fop op (rm_e ext k) y) ∧ ∀ q ∈ F, (∀ cd : ClassFile.Cond, rm_cn cd = q.2.2.1 → rm_cnd cd (rm_e ext q.1) q.2.1 = q.2.2.2)
theorem rm_lf_ok {ext : Nat → Nat} {F : rm_F} (hE : rm_E ext F) {k : Nat} {y : Int32} {cd : ClassFile.Cond} {b : Bool} (h : rm_lf F k y (rm_cn cd) = some b) : rm_cnd cd (rm_e ext k) y = b := by
  have key : ∀ G : rm_F, (∀ q ∈ G, (∀ cd : ClassFile.Cond, rm_cn cd = q.2.2.1 → rm_cnd cd (rm_e ext q.1) q.2.1 = q.2.2.2)) → rm_lf G k y (rm_cn cd) = some b → rm_cnd cd (rm_e ext k) y = b := by
    intro G
    induction G with
    | nil => intro _ h; cases h
    | cons q r ih =>
      intro hG h
      unfold rm_lf at h
      split at h
      · rename_i hq
        obtain ⟨h1, h2, h3⟩ := hq
        have z := hG q List.mem_cons_self cd h3.symm
        rw [h1, h2] at z
        rw [z]
        exact Option.some.inj h
      · exact ih (fun x hx => hG x (List.mem_cons_of_mem _ hx)) h
  exact key F hE.2 h
theorem rm_lw_ok {ext : Nat → Nat} {F : rm_F} (hE : rm_E ext F) {k : Nat} {y : Int32} (h : rm_lw F k = some y) : rm_e ext k = y := by
  have key : ∀ G : rm_F, (∀ q ∈ G, (∀ cd : ClassFile.Cond, rm_cn cd = q.2.2.1 → rm_cnd cd (rm_e ext q.1) q.2.1 = q.2.2.2)) → rm_lw G k = some y → rm_e ext k = y := by
    intro G
    induction G with
    | nil => intro _ h; cases h
    | cons q r ih =>
      intro hG h
      unfold rm_lw at h
      split at h
      · rename_i hq
        obtain ⟨h1, h2, h3⟩ := hq
        have z := hG q List.mem_cons_self .eq (by rw [h2]; rfl)
        rw [h1, h3] at z
        have e := Option.some.inj h
        rw [e] at z
        simpa [rm_cnd] using z
      · exact ih (fun x hx => hG x (List.mem_cons_of_mem _ hx)) h
  exact key F hE.2 h
theorem rm_dec_ok {ext : Nat → Nat} {F : rm_F} (hE : rm_E ext F) {x : Value} {y : Int32} {cd : ClassFile.Cond} {b : Bool} (h : rm_dec F cd x y = some b) (sz : Nat) : ∃ z, rm_v sz ext x = .int z ∧ rm_cnd cd z y = b := by
  unfold rm_dec at h
  split at h
  · rename_i z; exact ⟨z, rfl, Option.some.inj h⟩
  · rename_i k; exact ⟨_, rfl, rm_lf_ok hE h⟩
  · cases h
theorem rm_num_ok {ext : Nat → Nat} {F : rm_F} (hE : rm_E ext F) {v : Value} {x : Int32} (h : rm_num F v = some x) (sz : Nat) : rm_v sz ext v = .int x := by
  unfold rm_num at h
  split at h
  · rename_i z; cases h; rfl
  · rename_i k; exact congrArg Value.int (rm_lw_ok hE h)
  · cases h
section RM
variable {p : Program} {l : Launch} {e : Env} {R : Room} {s : State} {m : MethodId} {args : Array Value} {below : List Frame} {meth : Method} {c : Code} {Q : State → Prop}
variable {cc : ByteArray} {nL sz : Nat} {ext : Nat → Nat} {cA : Nat → ClassId} {D : va_G}
/-- from this state of the machine on, the true machine comes to Q -/
def rm_K (p : Program) (l : Launch) (e : Env) (R : Room) (s : State) (m : MethodId) (args : Array Value) (below : List Frame) (meth : Method) (c : Code) (Q : State → Prop) (nL sz : Nat) (ext : Nat → Nat) (cA : Nat → ClassId) (D : va_G) (q : rm_N) : Prop :=
  ∀ (ls : Array Slot) (H : Heap) (locs : List Loc), lv_has ls nL (rm_l sz ext q.2.1) → rm_R D sz ext cA q.2.2.2.1 H → rm_S sz s.heap H locs → W p l e R s m args below meth c H locs q.2.2.2.2.1 q.2.2.2.2.2.1 Q (F0 m q.1 ls (q.2.2.1.map (rm_v sz ext)))
abbrev rm_KK (p : Program) (l : Launch) (e : Env) (R : Room) (s : State) (m : MethodId) (args : Array Value) (below : List Frame) (meth : Method) (c : Code) (Q : State → Prop) (nL sz : Nat) (ext : Nat → Nat) (cA : Nat → ClassId) (D : va_G) (i : Instr) (n : Nat) (f : rm_N → Option rm_N) : Prop :=
  ∀ (q r : rm_N), decode c.code q.1 = .ok (i, n) → f q = some r → r.2.2.2.2.2.2.2 = true → rm_K p l e R s m args below meth c Q nL sz ext cA D r → rm_K p l e R s m args below meth c Q nL sz ext cA D q
theorem rm_s_iconst (hx : p.tables.exec = Jvm.exec) {k : Int} : rm_KK p l e R s m args below meth c Q nL sz ext cA D (.iconst k) 1 (rm_push 1 (.int (Int32.ofInt k))) := by
  intro q r hd hf ho K ls H locs hl hR hS
  cases hf
  exact lv_iconst (v := Int32.ofInt k) hx rfl hd rfl (K ls H locs hl hR hS)
theorem rm_s_bipush (hx : p.tables.exec = Jvm.exec) {k : Int} : rm_KK p l e R s m args below meth c Q nL sz ext cA D (.bipush k) 2 (rm_push 2 (.int (Int8.ofInt k).toInt32)) := by
  intro q r hd hf ho K ls H locs hl hR hS
  cases hf
  exact lv_bipush (v := (Int8.ofInt k).toInt32) hx rfl hd rfl (K ls H locs hl hR hS)
theorem rm_s_sipush (hx : p.tables.exec = Jvm.exec) {k : Int} : rm_KK p l e R s m args below meth c Q nL sz ext cA D (.sipush k) 3 (rm_push 3 (.int (Int16.ofInt k).toInt32)) := by
  intro q r hd hf ho K ls H locs hl hR hS
  cases hf
  exact lv_sipush (v := (Int16.ofInt k).toInt32) hx rfl hd rfl (K ls H locs hl hR hS)
theorem rm_s_lconst (hx : p.tables.exec = Jvm.exec) {k : Fin 2} : rm_KK p l e R s m args below meth c Q nL sz ext cA D (.lconst k) 1 (rm_push 1 (.long (Int64.ofNat (k : Nat)))) := by
  intro q r hd hf ho K ls H locs hl hR hS
  cases hf
  exact lv_lconst (v := Int64.ofNat (k : Nat)) hx rfl hd rfl (K ls H locs hl hR hS)
theorem rm_loadT_ok {f : Value → Bool} {n i : Nat} {q r : rm_N} (h : rm_loadT f n i q = some r) : ∃ v, rm_get q.2.1 i = some v ∧ f v = true ∧ r = (q.1 + n, q.2.1, v :: q.2.2.1, q.2.2.2) := by
  unfold rm_loadT at h
  cases hg : rm_get q.2.1 i with
  | none => rw [hg] at h; cases h
  | some v =>
    rw [hg] at h
    by_cases hv : f v = true
    · simp only [hv, if_true] at h
      exact ⟨v, rfl, hv, (Option.some.inj h).symm⟩
    · simp only [hv] at h
      cases h
theorem rm_isI_ok {v : Value} (h : rm_isI v = true) (sz : Nat) (ext : Nat → Nat) : ∃ x, rm_v sz ext v = .int x := by cases v <;> first | exact ⟨_, rfl⟩ | cases h
theorem rm_isJ_ok {v : Value} (h : rm_isJ v = true) : ∃ x, v = .long x := by cases v <;> first | exact ⟨_, rfl⟩ | cases h
theorem rm_isA_ok {v : Value} (h : rm_isA v = true) (sz : Nat) (ext : Nat → Nat) : ∃ x, rm_v sz ext v = .ref x := by cases v <;> first | exact ⟨_, rfl⟩ | cases h
theorem rm_s_iload_n (hx : p.tables.exec = Jvm.exec) {k : Fin 4} : rm_KK p l e R s m args below meth c Q nL sz ext cA D (.iload_n k) 1 (rm_loadT rm_isI 1 (k : Nat)) := by
  intro q r hd hf ho K ls H locs hl hR hS
  obtain ⟨v, h1, h2, rfl⟩ := rm_loadT_ok hf
  obtain ⟨x, hv⟩ := rm_isI_ok h2 sz ext
  have hk := K ls H locs hl hR hS
  have ha := rm_at hl h1
  rw [hv] at ha
  simp only [List.map_cons, hv] at hk
  exact lv_iload_n hx rfl hd rfl ha hk
theorem rm_s_iload (hx : p.tables.exec = Jvm.exec) {k : Nat} : rm_KK p l e R s m args below meth c Q nL sz ext cA D (.iload k) 2 (rm_loadT rm_isI 2 k) := by
  intro q r hd hf ho K ls H locs hl hR hS
  obtain ⟨v, h1, h2, rfl⟩ := rm_loadT_ok hf
  obtain ⟨x, hv⟩ := rm_isI_ok h2 sz ext
  have hk := K ls H locs hl hR hS
  have ha := rm_at hl h1
  rw [hv] at ha
  simp only [List.map_cons, hv] at hk
  exact lv_iload hx rfl hd ha hk
theorem rm_s_lload_n (hx : p.tables.exec = Jvm.exec) {k : Fin 4} : rm_KK p l e R s m args below meth c Q nL sz ext cA D (.lload_n k) 1 (rm_loadT rm_isJ 1 (k : Nat)) := by
  intro q r hd hf ho K ls H locs hl hR hS
  obtain ⟨v, h1, h2, rfl⟩ := rm_loadT_ok hf
  obtain ⟨x, rfl⟩ := rm_isJ_ok h2
  exact lv_lload_n hx rfl hd rfl (rm_at hl h1) (K ls H locs hl hR hS)
theorem rm_s_lload (hx : p.tables.exec = Jvm.exec) {k : Nat} : rm_KK p l e R s m args below meth c Q nL sz ext cA D (.lload k) 2 (rm_loadT rm_isJ 2 k) := by
  intro q r hd hf ho K ls H locs hl hR hS
  obtain ⟨v, h1, h2, rfl⟩ := rm_loadT_ok hf
  obtain ⟨x, rfl⟩ := rm_isJ_ok h2
  exact lv_lload hx rfl hd (rm_at hl h1) (K ls H locs hl hR hS)
theorem rm_s_aload_n (hx : p.tables.exec = Jvm.exec) {k : Fin 4} : rm_KK p l e R s m args below meth c Q nL sz ext cA D (.aload_n k) 1 (rm_loadT rm_isA 1 (k : Nat)) := by
  intro q r hd hf ho K ls H locs hl hR hS
  obtain ⟨v, h1, h2, rfl⟩ := rm_loadT_ok hf
  obtain ⟨x, hv⟩ := rm_isA_ok h2 sz ext
  have hk := K ls H locs hl hR hS
  have ha := rm_at hl h1
  rw [hv] at ha
  simp only [List.map_cons, hv] at hk
  exact lv_aload_n hx rfl hd rfl ha hk
theorem rm_s_aload (hx : p.tables.exec = Jvm.exec) {k : Nat} : rm_KK p l e R s m args below meth c Q nL sz ext cA D (.aload k) 2 (rm_loadT rm_isA 2 k) := by
  intro q r hd hf ho K ls H locs hl hR hS
  obtain ⟨v, h1, h2, rfl⟩ := rm_loadT_ok hf
  obtain ⟨x, hv⟩ := rm_isA_ok h2 sz ext
  have hk := K ls H locs hl hR hS
  have ha := rm_at hl h1
  rw [hv] at ha
  simp only [List.map_cons, hv] at hk
  exact lv_aload hx rfl hd ha hk
theorem rm_store1_ok {f : Value → Bool} {nL n i : Nat} {q r : rm_N} (h : rm_store1 f nL n i q = some r) : ∃ v st, q.2.2.1 = v :: st ∧ f v = true ∧ i < nL ∧ r = (q.1 + n, rm_put1 q.2.1 i v, st, q.2.2.2) := by
  unfold rm_store1 at h
  cases hg : q.2.2.1 with
  | nil => rw [hg] at h; cases h
  | cons v st =>
    simp only [hg] at h
    split at h
    · rename_i hv
      simp only [Bool.and_eq_true, decide_eq_true_eq] at hv
      exact ⟨v, st, rfl, hv.1, hv.2, (Option.some.inj h).symm⟩
    · cases h
theorem rm_store2_ok {nL n i : Nat} {q r : rm_N} (h : rm_store2 nL n i q = some r) : ∃ v st, q.2.2.1 = .long v :: st ∧ i + 1 < nL ∧ r = (q.1 + n, rm_put2 q.2.1 i (.long v), st, q.2.2.2) := by
  unfold rm_store2 at h
  split at h
  · rename_i v st hg
    split at h
    · rename_i hv
      exact ⟨v, st, hg, hv, (Option.some.inj h).symm⟩
    · cases h
  · cases h
theorem rm_s_istore_n (hx : p.tables.exec = Jvm.exec) {k : Fin 4} : rm_KK p l e R s m args below meth c Q nL sz ext cA D (.istore_n k) 1 (rm_store1 rm_isI nL 1 (k : Nat)) := by
  intro q r hd hf ho K ls H locs hl hR hS
  obtain ⟨v, st, h1, h2, h3, rfl⟩ := rm_store1_ok hf
  obtain ⟨x, hv⟩ := rm_isI_ok h2 sz ext
  rw [h1]
  have e := rm_l_put1 (sz := sz) (ext := ext) (lv := q.2.1) (i := (k : Nat)) (v := v)
  rw [hv] at e
  simp only [List.map_cons, hv]
  exact lv_istore_n hx rfl hd rfl hl h3 e (fun ls hl => K ls H locs hl hR hS)
theorem rm_s_istore (hx : p.tables.exec = Jvm.exec) {k : Nat} : rm_KK p l e R s m args below meth c Q nL sz ext cA D (.istore k) 2 (rm_store1 rm_isI nL 2 k) := by
  intro q r hd hf ho K ls H locs hl hR hS
  obtain ⟨v, st, h1, h2, h3, rfl⟩ := rm_store1_ok hf
  obtain ⟨x, hv⟩ := rm_isI_ok h2 sz ext
  rw [h1]
  have e := rm_l_put1 (sz := sz) (ext := ext) (lv := q.2.1) (i := k) (v := v)
  rw [hv] at e
  simp only [List.map_cons, hv]
  exact lv_istore hx rfl hd hl h3 e (fun ls hl => K ls H locs hl hR hS)
theorem rm_s_astore_n (hx : p.tables.exec = Jvm.exec) {k : Fin 4} : rm_KK p l e R s m args below meth c Q nL sz ext cA D (.astore_n k) 1 (rm_store1 rm_isA nL 1 (k : Nat)) := by
  intro q r hd hf ho K ls H locs hl hR hS
  obtain ⟨v, st, h1, h2, h3, rfl⟩ := rm_store1_ok hf
  obtain ⟨x, hv⟩ := rm_isA_ok h2 sz ext
  rw [h1]
  have e := rm_l_put1 (sz := sz) (ext := ext) (lv := q.2.1) (i := (k : Nat)) (v := v)
  rw [hv] at e
  simp only [List.map_cons, hv]
  exact lv_astore_n hx rfl hd rfl hl h3 e (fun ls hl => K ls H locs hl hR hS)
theorem rm_s_astore (hx : p.tables.exec = Jvm.exec) {k : Nat} : rm_KK p l e R s m args below meth c Q nL sz ext cA D (.astore k) 2 (rm_store1 rm_isA nL 2 k) := by
  intro q r hd hf ho K ls H locs hl hR hS
  obtain ⟨v, st, h1, h2, h3, rfl⟩ := rm_store1_ok hf
  obtain ⟨x, hv⟩ := rm_isA_ok h2 sz ext
  rw [h1]
  have e := rm_l_put1 (sz := sz) (ext := ext) (lv := q.2.1) (i := k) (v := v)
  rw [hv] at e
  simp only [List.map_cons, hv]
  exact lv_astore hx rfl hd hl h3 e (fun ls hl => K ls H locs hl hR hS)
theorem rm_s_lstore_n (hx : p.tables.exec = Jvm.exec) {k : Fin 4} : rm_KK p l e R s m args below meth c Q nL sz ext cA D (.lstore_n k) 1 (rm_store2 nL 1 (k : Nat)) := by
  intro q r hd hf ho K ls H locs hl hR hS
  obtain ⟨x, st, h1, h3, rfl⟩ := rm_store2_ok hf
  rw [h1]
  exact lv_lstore_n hx rfl hd rfl hl h3 (rm_l_put2 (v := .long x)) (fun ls hl => K ls H locs hl hR hS)
theorem rm_s_lstore (hx : p.tables.exec = Jvm.exec) {k : Nat} : rm_KK p l e R s m args below meth c Q nL sz ext cA D (.lstore k) 2 (rm_store2 nL 2 k) := by
  intro q r hd hf ho K ls H locs hl hR hS
  obtain ⟨x, st, h1, h3, rfl⟩ := rm_store2_ok hf
  rw [h1]
  exact lv_lstore hx rfl hd hl h3 (rm_l_put2 (v := .long x)) (fun ls hl => K ls H locs hl hR hS)
theorem rm_l_at {sz : Nat} {ext : Nat → Nat} {lv : rm_L} {i : Nat} {v : Value} (h : rm_get lv i = some v) : ∃ k : Nat, (rm_l sz ext lv)[k]? = some (i, rm_v sz ext v) :=
  List.getElem?_of_mem (List.mem_map.mpr ⟨(i, v), rm_get_mem h, rfl⟩)
theorem rm_s_iinc (hx : p.tables.exec = Jvm.exec) {i : Nat} {k : Int} : rm_KK p l e R s m args below meth c Q nL sz ext cA D (.iinc i k) 3 (rm_iinc nL i k) := by
  intro q r hd hf ho K ls H locs hl hR hS
  unfold rm_iinc at hf
  split at hf
  · rename_i x hg
    split at hf
    · rename_i hn
      cases hf
      obtain ⟨j, hj⟩ := rm_l_at (sz := sz) (ext := ext) hg
      exact lv_iinc hx rfl hd hl hj rfl hn (rm_l_put1 (v := .int (x + Int32.ofInt k))) (fun ls hl => K ls H locs hl hR hS)
    · cases hf
  · cases hf
theorem rm_ii_ok {f : Int32 → Int32 → Int32} {q r : rm_N} (h : rm_ii f q = some r) : ∃ x y st, q.2.2.1 = .int y :: .int x :: st ∧ r = (q.1 + 1, q.2.1, .int (f x y) :: st, q.2.2.2) := by
  unfold rm_ii at h
  split at h
  · rename_i y x st hg
    exact ⟨x, y, st, hg, (Option.some.inj h).symm⟩
  · cases h
theorem rm_s_iadd (hx : p.tables.exec = Jvm.exec) : rm_KK p l e R s m args below meth c Q nL sz ext cA D .iadd 1 (rm_ii (fun x y => x + y)) := by
  intro q r hd hf ho K ls H locs hl hR hS
  obtain ⟨x, y, st, h1, rfl⟩ := rm_ii_ok hf
  rw [h1]
  exact lv_iadd hx rfl hd (K ls H locs hl hR hS)
theorem rm_s_isub (hx : p.tables.exec = Jvm.exec) : rm_KK p l e R s m args below meth c Q nL sz ext cA D .isub 1 (rm_ii (fun x y => x - y)) := by
  intro q r hd hf ho K ls H locs hl hR hS
  obtain ⟨x, y, st, h1, rfl⟩ := rm_ii_ok hf
  rw [h1]
  exact lv_isub hx rfl hd (K ls H locs hl hR hS)
theorem rm_s_imul (hx : p.tables.exec = Jvm.exec) : rm_KK p l e R s m args below meth c Q nL sz ext cA D .imul 1 (rm_ii (fun x y => x * y)) := by
  intro q r hd hf ho K ls H locs hl hR hS
  obtain ⟨x, y, st, h1, rfl⟩ := rm_ii_ok hf
  rw [h1]
  exact lv_imul hx rfl hd (K ls H locs hl hR hS)
theorem rm_iis_ok {F : rm_F} (hE : rm_E ext F) {op : Nat} {q r : rm_N} (h : rm_iis op q = some r) : ∃ x y st, q.2.2.1.map (rm_v sz ext) = .int y :: .int x :: st.map (rm_v sz ext) ∧ ∃ v, rm_v sz ext v = .int (rm_fop op x y) ∧ r = (q.1 + 1, q.2.1, v :: st, q.2.2.2) := by
  unfold rm_iis at h
  split at h
  · rename_i y x st hg
    rw [hg]
    exact ⟨x, y, st, rfl, .int (rm_fop op x y), rfl, (Option.some.inj h).symm⟩
  · rename_i y k st hg
    split at h
    · rename_i j hj
      rw [hg]
      obtain ⟨z1, z2⟩ := hE.1 _ _ _ _ hj
      refine ⟨_, y, st, rfl, .float (UInt32.ofNat j), ?_, (Option.some.inj h).symm⟩
      show Value.int (rm_e ext (UInt32.ofNat j).toNat) = _
      rw [← z2]
      congr 2
      exact rm_u32 z1
    · cases h
  · cases h
theorem rm_s_iand (hx : p.tables.exec = Jvm.exec) {F : rm_F} (hE : rm_E ext F) : rm_KK p l e R s m args below meth c Q nL sz ext cA D .iand 1 (rm_iis 0) := by
  intro q r hd hf ho K ls H locs hl hR hS
  obtain ⟨x, y, st, h1, v, hv, rfl⟩ := rm_iis_ok (sz := sz) hE hf
  have hk := K ls H locs hl hR hS
  simp only [List.map_cons, hv] at hk
  rw [h1]
  exact lv_iand hx rfl hd hk
theorem rm_s_ishr (hx : p.tables.exec = Jvm.exec) {F : rm_F} (hE : rm_E ext F) : rm_KK p l e R s m args below meth c Q nL sz ext cA D .ishr 1 (rm_iis 1) := by
  intro q r hd hf ho K ls H locs hl hR hS
  obtain ⟨x, y, st, h1, v, hv, rfl⟩ := rm_iis_ok (sz := sz) hE hf
  have hk := K ls H locs hl hR hS
  simp only [List.map_cons, hv] at hk
  rw [h1]
  exact lv_ishr hx rfl hd hk
theorem rm_s_iushr (hx : p.tables.exec = Jvm.exec) {F : rm_F} (hE : rm_E ext F) : rm_KK p l e R s m args below meth c Q nL sz ext cA D .iushr 1 (rm_iis 2) := by
  intro q r hd hf ho K ls H locs hl hR hS
  obtain ⟨x, y, st, h1, v, hv, rfl⟩ := rm_iis_ok (sz := sz) hE hf
  have hk := K ls H locs hl hR hS
  simp only [List.map_cons, hv] at hk
  rw [h1]
  exact lv_iushr hx rfl hd rfl hk
theorem rm_s_i2c (hx : p.tables.exec = Jvm.exec) {F : rm_F} (hE : rm_E ext F) : rm_KK p l e R s m args below meth c Q nL sz ext cA D .i2c 1 rm_i1s := by
  intro q r hd hf ho K ls H locs hl hR hS
  unfold rm_i1s at hf
  split at hf
  · rename_i x st hg
    cases hf
    rw [hg]
    exact lv_i2c hx rfl hd rfl (K ls H locs hl hR hS)
  · rename_i k st hg
    split at hf
    · rename_i j hj
      cases hf
      obtain ⟨z1, z2⟩ := hE.1 _ _ _ _ hj
      have hk := K ls H locs hl hR hS
      have ev : rm_v sz ext (.float (UInt32.ofNat j)) = .int (rm_fop 3 (rm_e ext k.toNat) 0) := by
        show Value.int (rm_e ext (UInt32.ofNat j).toNat) = _
        rw [← z2]
        congr 2
        exact rm_u32 z1
      simp only [List.map_cons, ev] at hk
      rw [hg]
      exact lv_i2c hx rfl hd rfl hk
    · cases hf
  · cases hf
theorem rm_s_irem (hx : p.tables.exec = Jvm.exec) : rm_KK p l e R s m args below meth c Q nL sz ext cA D .irem 1 (rm_iiz (fun x y => x - x / y * y)) := by
  intro q r hd hf ho K ls H locs hl hR hS
  unfold rm_iiz at hf
  split at hf
  · rename_i y x st h1
    split at hf
    · cases hf
    · rename_i hy
      cases hf
      rw [h1]
      exact lv_irem hx rfl hd hy (K ls H locs hl hR hS)
  · cases hf
theorem rm_s_lcmp (hx : p.tables.exec = Jvm.exec) : rm_KK p l e R s m args below meth c Q nL sz ext cA D .lcmp 1 (rm_jji lg_cmp) := by
  intro q r hd hf ho K ls H locs hl hR hS
  unfold rm_jji at hf
  split at hf
  · rename_i y x st h1
    cases hf
    rw [h1]
    exact W.lcmp hx rfl hd (K ls H locs hl hR hS)
  · cases hf
theorem rm_s_lushr (hx : p.tables.exec = Jvm.exec) : rm_KK p l e R s m args below meth c Q nL sz ext cA D .lushr 1 (rm_jij (fun x y => (x.toUInt64 >>> (y.toInt64.toUInt64 &&& Int64.toUInt64 63)).toInt64)) := by
  intro q r hd hf ho K ls H locs hl hR hS
  unfold rm_jij at hf
  split at hf
  · rename_i y x st h1
    cases hf
    rw [h1]
    exact lv_lushr hx rfl hd rfl (K ls H locs hl hR hS)
  · cases hf
theorem rm_i1_ok {f : Int32 → Value} {q r : rm_N} (h : rm_i1 f q = some r) : ∃ x st, q.2.2.1 = .int x :: st ∧ r = (q.1 + 1, q.2.1, f x :: st, q.2.2.2) := by
  unfold rm_i1 at h
  split at h
  · rename_i x st hg
    exact ⟨x, st, hg, (Option.some.inj h).symm⟩
  · cases h
theorem rm_s_i2l (hx : p.tables.exec = Jvm.exec) : rm_KK p l e R s m args below meth c Q nL sz ext cA D .i2l 1 (rm_i1 (fun x => .long x.toInt64)) := by
  intro q r hd hf ho K ls H locs hl hR hS
  obtain ⟨x, st, h1, rfl⟩ := rm_i1_ok hf
  rw [h1]
  exact lv_i2l hx rfl hd rfl (K ls H locs hl hR hS)
theorem rm_s_i2b (hx : p.tables.exec = Jvm.exec) : rm_KK p l e R s m args below meth c Q nL sz ext cA D .i2b 1 (rm_i1 (fun x => .int x.toInt8.toInt32)) := by
  intro q r hd hf ho K ls H locs hl hR hS
  obtain ⟨x, st, h1, rfl⟩ := rm_i1_ok hf
  rw [h1]
  exact lv_i2b hx rfl hd rfl (K ls H locs hl hR hS)
theorem rm_s_l2i (hx : p.tables.exec = Jvm.exec) : rm_KK p l e R s m args below meth c Q nL sz ext cA D .l2i 1 (rm_j1 (fun x => .int x.toInt32)) := by
  intro q r hd hf ho K ls H locs hl hR hS
  unfold rm_j1 at hf
  split at hf
  · rename_i x st h1
    cases hf
    rw [h1]
    exact lv_l2i hx rfl hd rfl (K ls H locs hl hR hS)
  · cases hf
theorem rm_s_dup (hx : p.tables.exec = Jvm.exec) : rm_KK p l e R s m args below meth c Q nL sz ext cA D .dup 1 rm_dup := by
  intro q r hd hf ho K ls H locs hl hR hS
  unfold rm_dup at hf
  split at hf
  · rename_i v st h1
    split at hf
    · rename_i hv
      cases hf
      rw [h1]
      exact lv_dup hx rfl hd (by rw [rm_v_cat]; exact hv) (K ls H locs hl hR hS)
    · cases hf
  · cases hf
theorem rm_s_pop (hx : p.tables.exec = Jvm.exec) : rm_KK p l e R s m args below meth c Q nL sz ext cA D .pop 1 rm_pop := by
  intro q r hd hf ho K ls H locs hl hR hS
  unfold rm_pop at hf
  split at hf
  · rename_i v st h1
    split at hf
    · rename_i hv
      cases hf
      rw [h1]
      exact lv_pop hx rfl hd (by rw [rm_v_cat]; exact hv) (K ls H locs hl hR hS)
    · cases hf
  · cases hf
theorem rm_tgt_ok {pc g : Nat} {off : Int} (h : rm_tgt pc off = some g) : (pc : Int) + off = (g : Int) := by
  unfold rm_tgt at h
  split at h
  · rename_i h0
    have := Option.some.inj h
    omega
  · cases h
theorem rm_s_goto (hx : p.tables.exec = Jvm.exec) {off : Int} : rm_KK p l e R s m args below meth c Q nL sz ext cA D (.goto off) 3 (rm_goto off) := by
  intro q r hd hf ho K ls H locs hl hR hS
  unfold rm_goto at hf
  split at hf
  · rename_i g hg
    cases hf
    exact lv_goto hx rfl hd (rm_tgt_ok hg) (K ls H locs hl hR hS)
  · cases hf
theorem rm_s_if1 (hx : p.tables.exec = Jvm.exec) {F : rm_F} (hE : rm_E ext F) {cd : ClassFile.Cond} {off : Int} : rm_KK p l e R s m args below meth c Q nL sz ext cA D (.ifCond cd off) 3 (rm_if1 F cd off) := by
  intro q r hd hf ho K ls H locs hl hR hS
  unfold rm_if1 at hf
  split at hf
  · rename_i v st g h1 hg
    split at hf
    · rename_i b hb
      cases hf
      obtain ⟨x, hv, rfl⟩ := rm_dec_ok hE hb sz
      have hk := K ls H locs hl hR hS
      dsimp only at hk
      rw [h1]
      simp only [List.map_cons, hv]
      have ht := rm_tgt_ok hg
      cases cd
      · refine lv_if_eq hx rfl hd ht (fun z => ?_) (fun z => ?_)
        · simp only [rm_cnd, z, decide_true, if_true] at hk; exact hk
        · simp only [rm_cnd, z, decide_false] at hk; exact hk
      · refine lv_if_ne hx rfl hd ht (fun z => ?_) (fun z => ?_)
        · simp only [rm_cnd, z, not_false_eq_true, decide_true, if_true] at hk; exact hk
        · simp only [rm_cnd, z, decide_false] at hk; exact hk
      · refine lv_if_lt hx rfl hd ht (fun z => ?_) (fun z => ?_)
        · simp only [rm_cnd, z, decide_true, if_true] at hk; exact hk
        · simp only [rm_cnd, z, decide_false] at hk; exact hk
      · refine lv_if_ge hx rfl hd ht (fun z => ?_) (fun z => ?_)
        · simp only [rm_cnd, z, decide_true, if_true] at hk; exact hk
        · simp only [rm_cnd, z, decide_false] at hk; exact hk
      · refine lv_if_gt hx rfl hd ht (fun z => ?_) (fun z => ?_)
        · simp only [rm_cnd, z, decide_true, if_true] at hk; exact hk
        · simp only [rm_cnd, z, decide_false] at hk; exact hk
      · refine lv_if_le hx rfl hd ht (fun z => ?_) (fun z => ?_)
        · simp only [rm_cnd, z, decide_true, if_true] at hk; exact hk
        · simp only [rm_cnd, z, decide_false] at hk; exact hk
    · cases hf
  · cases hf
theorem rm_s_if2 (hx : p.tables.exec = Jvm.exec) {F : rm_F} (hE : rm_E ext F) {cd : ClassFile.Cond} {off : Int} : rm_KK p l e R s m args below meth c Q nL sz ext cA D (.if_icmp cd off) 3 (rm_if2 F cd off) := by
  intro q r hd hf ho K ls H locs hl hR hS
  unfold rm_if2 at hf
  split at hf
  · rename_i y v st g h1 hg
    split at hf
    · rename_i b hb
      cases hf
      obtain ⟨x, hv, rfl⟩ := rm_dec_ok hE hb sz
      have hk := K ls H locs hl hR hS
      dsimp only at hk
      rw [h1]
      simp only [List.map_cons, hv]
      have ht := rm_tgt_ok hg
      cases cd
      · refine lv_icmp_eq hx rfl hd ht (fun z => ?_) (fun z => ?_)
        · simp only [rm_cnd, z, decide_true, if_true] at hk; exact hk
        · simp only [rm_cnd, z, decide_false] at hk; exact hk
      · refine lv_icmp_ne hx rfl hd ht (fun z => ?_) (fun z => ?_)
        · simp only [rm_cnd, z, not_false_eq_true, decide_true, if_true] at hk; exact hk
        · simp only [rm_cnd, z, decide_false] at hk; exact hk
      · refine lv_icmp_lt hx rfl hd ht (fun z => ?_) (fun z => ?_)
        · simp only [rm_cnd, z, decide_true, if_true] at hk; exact hk
        · simp only [rm_cnd, z, decide_false] at hk; exact hk
      · refine lv_icmp_ge hx rfl hd ht (fun z => ?_) (fun z => ?_)
        · simp only [rm_cnd, z, decide_true, if_true] at hk; exact hk
        · simp only [rm_cnd, z, decide_false] at hk; exact hk
      · refine lv_icmp_gt hx rfl hd ht (fun z => ?_) (fun z => ?_)
        · simp only [rm_cnd, z, decide_true, if_true] at hk; exact hk
        · simp only [rm_cnd, z, decide_false] at hk; exact hk
      · refine lv_icmp_le hx rfl hd ht (fun z => ?_) (fun z => ?_)
        · simp only [rm_cnd, z, decide_true, if_true] at hk; exact hk
        · simp only [rm_cnd, z, decide_false] at hk; exact hk
    · cases hf
  · cases hf
end RM
end
section
/-! THE WORDS AND THE CLASSES: what the machine's instructions need of the tables -/
def rm_tb : List Cond := lw_tbl.filter goodWord
theorem rm_tb_of {w : Cond} (i : Nat) (h : lw_tbl[i]? = some w) (g : goodWord w = true) : w ∈ rm_tb := List.mem_filter.mpr ⟨List.mem_of_getElem? h, g⟩
theorem rm_tb_good : ∀ w ∈ rm_tb, goodWord w = true := fun _ h => (List.mem_filter.mp h).2
theorem rm_tb_in : ∀ w ∈ rm_tb, w ∈ lw_tbl := fun _ h => (List.mem_filter.mp h).1
def rm_isNest : Cond → Bool
  | .fieldLinkNest .. => true
  | _ => false
def rm_nest : List Cond := lw_tbl.filter rm_isNest
theorem rm_nest_of {w : Cond} (i : Nat) (h : lw_tbl[i]? = some w) (g : rm_isNest w = true) : w ∈ rm_nest := List.mem_filter.mpr ⟨List.mem_of_getElem? h, g⟩
theorem rm_nest_warm {w : Cond} (hw : w ∈ rm_nest) {s U : State} (hW : s.WarmedH U.vm) (h : va_Nw w s) : va_Nw w U := by
  have g := (List.mem_filter.mp hw).2
  cases w <;> first | exact va_Nw.warmF hW h | cases g
theorem rm_nest_same {w : Cond} (hw : w ∈ rm_nest) {u U : State} (e : u.vm = U.vm) (h : va_Nw w u) : va_Nw w U := by
  have g := (List.mem_filter.mp hw).2
  cases w <;> first | exact va_Nw.same rfl e h | cases g
def rm_ft (ci : Nat) : Nat → FieldType := match ci with
  | 0 => tyX0
  | 1 => tyX1
  | 2 => tyX2
  | 3 => tyX3
  | 4 => tyX4
  | 5 => tyX5
  | 6 => tyX6
  | 7 => tyX7
  | 8 => tyX8
  | 9 => tyX9
  | _ => tyX10
/-- a class of the list: its words are there, its fields' types are these, their names differ, they are its own, it can be made -/
def rm_okC (ci : Nat) (q : vw_C) : Prop := (∀ w ∈ u_ws q.1 q.2.1 q.2.2, w ∈ rm_tb) ∧ (∀ k, k < q.2.2 → parseFieldDescriptor (q.2.1 k).2.2.1 = some (rm_ft ci k)) ∧ (∀ a, a < q.2.2 → ∀ b, b < q.2.2 → a ≠ b → (q.2.1 a).2.1 ≠ (q.2.1 b).2.1) ∧ (∀ k, k < q.2.2 → (q.2.1 k).1 = q.1) ∧ Cond.instantiable q.1 q.2.2 ∈ rm_tb ∧ Cond.initialized q.1 ∈ rm_tb
set_option maxRecDepth 100000 in
theorem rm_okC_0 : rm_okC 0 (RX0, TX0, 8) := ⟨by decide +kernel, tyX0_ok, nmX0, by decide +kernel, by decide +kernel, by decide +kernel⟩
set_option maxRecDepth 100000 in
theorem rm_okC_1 : rm_okC 1 (RX1, TX1, 3) := ⟨by decide +kernel, tyX1_ok, nmX1, by decide +kernel, by decide +kernel, by decide +kernel⟩
set_option maxRecDepth 100000 in
theorem rm_okC_2 : rm_okC 2 (RX2, TX2, 8) := ⟨by decide +kernel, tyX2_ok, nmX2, by decide +kernel, by decide +kernel, by decide +kernel⟩
set_option maxRecDepth 100000 in
theorem rm_okC_3 : rm_okC 3 (RX3, TX3, 17) := ⟨by decide +kernel, tyX3_ok, nmX3, by decide +kernel, by decide +kernel, by decide +kernel⟩
set_option maxRecDepth 100000 in
theorem rm_okC_4 : rm_okC 4 (RX4, TX4, 13) := ⟨by decide +kernel, tyX4_ok, nmX4, by decide +kernel, by decide +kernel, by decide +kernel⟩
set_option maxRecDepth 100000 in
theorem rm_okC_5 : rm_okC 5 (RX5, TX5, 6) := ⟨by decide +kernel, tyX5_ok, nmX5, by decide +kernel, by decide +kernel, by decide +kernel⟩
set_option maxRecDepth 100000 in
theorem rm_okC_6 : rm_okC 6 (RX6, TX6, 2) := ⟨by decide +kernel, tyX6_ok, nmX6, by decide +kernel, by decide +kernel, by decide +kernel⟩
set_option maxRecDepth 100000 in
theorem rm_okC_7 : rm_okC 7 (RX7, TX7, 14) := ⟨by decide +kernel, tyX7_ok, nmX7, by decide +kernel, by decide +kernel, by decide +kernel⟩
set_option maxRecDepth 100000 in
theorem rm_okC_8 : rm_okC 8 (RX8, TX8, 10) := ⟨by decide +kernel, tyX8_ok, nmX8, by decide +kernel, by decide +kernel, by decide +kernel⟩
set_option maxRecDepth 100000 in
theorem rm_okC_9 : rm_okC 9 (RX9, TX9, 8) := ⟨by decide +kernel, tyX9_ok, nmX9, by decide +kernel, by decide +kernel, by decide +kernel⟩
set_option maxRecDepth 100000 in
theorem rm_okC_10 : rm_okC 10 (RX10, TX10, 55) := ⟨by decide +kernel, tyX10_ok, nmX10, by decide +kernel, by decide +kernel, by decide +kernel⟩
theorem rm_okC_all : ∀ (ci : Nat) (q : vw_C), vwCl[ci]? = some q → rm_okC ci q := by
  intro ci q h
  match ci, h with
  | 0, h => cases h; exact rm_okC_0
  | 1, h => cases h; exact rm_okC_1
  | 2, h => cases h; exact rm_okC_2
  | 3, h => cases h; exact rm_okC_3
  | 4, h => cases h; exact rm_okC_4
  | 5, h => cases h; exact rm_okC_5
  | 6, h => cases h; exact rm_okC_6
  | 7, h => cases h; exact rm_okC_7
  | 8, h => cases h; exact rm_okC_8
  | 9, h => cases h; exact rm_okC_9
  | 10, h => cases h; exact rm_okC_10
  | n + 11, h => simp [vwCl] at h
/-- the types of arrays, by their tags; for references the class that they are of -/
abbrev rm_ts : List FieldType := [.int, .long, .char, .byte, .boolean, .object "RootJudge$Poly", .object "RootJudge$Big", .object "RootJudge$Root"]
abbrev rm_tys (cA : Nat → ClassId) : List (ClassId × FieldType) := [(cA 0, .int), (cA 1, .long), (cA 2, .char), (cA 3, .byte), (cA 4, .boolean), (cA 5, .object "RootJudge$Poly"), (cA 6, .object "RootJudge$Big"), (cA 7, .object "RootJudge$Root")]
def rm_tc (t : Nat) : Option Nat := match t with
  | 5 => some 6
  | 6 => some 1
  | 7 => some 8
  | _ => none
/-- the one text whose characters a first call looks for: whose constant, its place, its characters -/
def rm_sO : String := "RootJudge$Reader"
def rm_sI : Nat := 112
def rm_sT : String := "=<>"
def rm_sB : List Int32 := [61, 60, 62]
end
section
/-! INSTRUCTIONS THAT READ, WRITE AND MAKE CELLS -/
/-- what a method's start has beside its words: the tables' classes, the array types, nest mates' links, the script -/
def rm_G (sz : Nat) (ext : Nat → Nat) (U : State) (H : Heap) : Prop := vk_R rm_sO rm_sI rm_sT (ext 2) U ∧ vk_S 1 [rm_sB.length] [rm_sB] (fun _ => ext 2) (fun _ => ext 3) (fun q => sz ≤ q) U H ∧ va_Z "java/lang/String" "COMPACT_STRINGS" "Z" (.int 1) (fun q => sz ≤ q) U H
def rm_X (D : va_G) (cA : Nat → ClassId) (sz : Nat) (ext : Nat → Nat) (L : Nat) (xs : rm_F) (U : State) : Prop :=
  va_K D vwCl (rm_tys cA) U ∧ (∀ (t : Nat) (C : String), rm_ts[t]? = some (FieldType.object C) → va_AO C U) ∧ (∀ w ∈ rm_nest, va_Nw w U) ∧ (L ≠ 1000000 → ∃ ys : Nat → Int32, va_X (ext 0) L ys U U.heap ∧ ∀ j, j < 4 → ys j = rm_e ext j) ∧ (ext 0 < sz ∧ rm_G sz ext U U.heap) ∧ rm_E ext xs
/-- a link means what the tables say -/
def rm_okK (own : String) (k : rm_K5) : Prop := match k with
  | (i, 0, ci, f, 0) => ∃ (C : String) (T : u_T) (N : Nat), vwCl[ci]? = some (C, T, N) ∧ f < N ∧ Cond.fieldLink own i C (T f).2.1 (T f).2.2.1 ∈ rm_tb
  | (i, 0, ci, f, _) => ∃ (C : String) (T : u_T) (N : Nat), vwCl[ci]? = some (C, T, N) ∧ f < N ∧ Cond.fieldLinkNest own i C (T f).2.1 (T f).2.2.1 "RootJudge" ∈ rm_nest
  | (i, 1, ci, N, t) => ∃ (C : String) (T : u_T), vwCl[ci]? = some (C, T, N) ∧ Cond.classLink own i C ∈ rm_tb ∧ (5 ≤ t → rm_ts[t]? = some (FieldType.object C))
  | (i, 4, a, _, _) => Cond.constant own i (Int32.ofNat a) ∈ rm_tb
  | (i, 5, a, _, _) => Cond.constantLong own i (Int64.ofNat a) ∈ rm_tb
  | (i, 6, _, _, _) => own = rm_sO ∧ i = rm_sI
  | (i, 7, 0, _, _) => Cond.fieldLink own i "java/lang/String" "value" "[B" ∈ rm_tb
  | (i, 7, _, _, _) => Cond.fieldLink own i "java/lang/String" "coder" "B" ∈ rm_tb
  | (i, 8, _, _, _) => Cond.fieldLink own i "java/lang/String" "COMPACT_STRINGS" "Z" ∈ rm_tb
  | _ => True
theorem rm_lk_mem {ks : List rm_K5} {i : Nat} {k : Nat × Nat × Nat × Nat} (h : rm_lk ks i = some k) : (i, k) ∈ ks := by
  induction ks with
  | nil => cases h
  | cons q r ih =>
    unfold rm_lk at h
    by_cases hq : q.1 == i
    · rw [if_pos hq] at h
      have e : q.1 = i := by simpa using hq
      cases h
      cases q
      cases e
      exact List.mem_cons_self
    · rw [if_neg hq] at h
      exact List.mem_cons_of_mem _ (ih h)
def rm_in (i : Int32) (n : Nat) : Bool := !(decide (i < 0)) && decide (i.toNatClampNeg < n)
theorem rm_in_ok {i : Int32} {n : Nat} (h : rm_in i n = true) : vp_in i n := by
  unfold rm_in at h
  simp only [Bool.and_eq_true, Bool.not_eq_true', decide_eq_false_iff_not, decide_eq_true_eq] at h
  intro z
  rcases z with z | z
  · exact h.1 z
  · omega
def rm_up (t : rm_T) (a b : Nat) : rm_T := (t.1 + a, t.2.1 + b, t.2.2)
def rm_nf0 : Value → Bool
  | .float _ => false
  | _ => true
def rm_new (k : Option (Nat × Nat × Nat × Nat)) (q : rm_N) : Option rm_N := match k with
  | some (1, ci, N, _) => if ((List.range N).map (fun j => defaultValue (rm_ft ci j))).all rm_nf0 = false then none else some (q.1 + 3, q.2.1, .ref q.2.2.2.1.length :: q.2.2.1, q.2.2.2.1 ++ [.inr (ci, (List.range N).map (fun j => defaultValue (rm_ft ci j)))], rm_up q.2.2.2.2 1 N)
  | _ => none

def rm_newq (k : Option (Nat × Nat × Nat × Nat)) (q : rm_N) : Option rm_N := match k, q.2.2.1 with
  | some (1, _, _, t), .int n :: r => if decide (n < 0) || decide (1000000 < n.toNatClampNeg) || decide (t < 5) then none else some (q.1 + 3, q.2.1, .ref q.2.2.2.1.length :: r, q.2.2.2.1 ++ [.inl (t, n.toNatClampNeg, .inr (.inr (.inr (.inr (fun _ => none)))))], rm_up q.2.2.2.2 1 n.toNatClampNeg)
  | _, _ => none
def rm_z : Nat → UInt32 := fun _ => 0
def rm_newa (t : Nat) (q : rm_N) : Option rm_N := match q.2.2.1 with
  | .int n :: r => if decide (n < 0) || decide (1000000 < n.toNatClampNeg) then none else some (q.1 + 2, q.2.1, .ref q.2.2.2.1.length :: r, q.2.2.2.1 ++ [.inl (t, n.toNatClampNeg, .inr (.inr (.inl rm_z)))], rm_up q.2.2.2.2 1 n.toNatClampNeg)
  | _ => none
def rm_fin (ci f : Nat) : Bool := match vwCl[ci]? with
  | some q => (q.2.1 f).2.2.2
  | none => true
def rm_putf (ini : Bool) (oc : Nat) (k : Option (Nat × Nat × Nat × Nat)) (q : rm_N) : Option rm_N := match k, q.2.2.1 with
  | some (0, ci, f, 0), v :: .ref a :: r => match rm_obj q.2.2.2.1 a with
    | some o => if decide (o.1 = ci) && rm_fit (rm_ft ci f) v && decide (f < o.2.length) && (!(rm_fin ci f) || (ini && decide (oc = ci))) then some (q.1 + 3, q.2.1, r, q.2.2.2.1.set a (.inr (ci, o.2.set f v)), q.2.2.2.2) else none
    | none => none
  | _, _ => none
def rm_arr (h : rm_H) (a : Nat) : Option (Nat × vp_A) := match h[a]? with
  | some (.inl o) => some o
  | _ => none
def rm_alen (L : Nat) (q : rm_N) : Option rm_N := match q.2.2.1 with
  | .ref a :: r => match rm_arr q.2.2.2.1 a with
    | some o => if o.1 < 8 then some (q.1 + 1, q.2.1, .int (Int32.ofNat o.2.1) :: r, q.2.2.2) else none
    | none => none
  | .retAddr 0 :: r => if L = 1000000 then none else some (q.1 + 1, q.2.1, .int (Int32.ofNat L) :: r, q.2.2.2)
  | .retAddr 3 :: r => some (q.1 + 1, q.2.1, .int (Int32.ofNat rm_sB.length) :: r, q.2.2.2)
  | _ => none
def rm_iald (L : Nat) (q : rm_N) : Option rm_N := match q.2.2.1 with
  | .int i :: .retAddr 0 :: r => if rm_in i L && decide (i.toNatClampNeg < 4) && decide (L ≠ 1000000) then some (q.1 + 1, q.2.1, .float (UInt32.ofNat i.toNatClampNeg) :: r, q.2.2.2) else none
  | _ => none
def rm_aald (q : rm_N) : Option rm_N := match q.2.2.1 with
  | .int i :: .ref a :: r => match rm_arr q.2.2.2.1 a with
    | some (t, n, .inr (.inr (.inr (.inr f)))) => if rm_in i n && decide (5 ≤ t) && decide (t < 8) then some (q.1 + 1, q.2.1, va_rf (f i.toNatClampNeg) :: r, q.2.2.2) else none
    | _ => none
  | _ => none
/-- a number into an array of numbers: which one is forgotten -/
def rm_ist (t : Nat) (f : Value → Bool) (q : rm_N) : Option rm_N := match q.2.2.1 with
  | x :: .int i :: .ref a :: r => match rm_arr q.2.2.2.1 a with
    | some (t', n, .inr (.inr (.inl _))) => if decide (t' = t) && rm_in i n && f x then some (q.1 + 1, q.2.1, r, q.2.2.2) else none
    | _ => none
  | _ => none
def rm_aast (q : rm_N) : Option rm_N := match q.2.2.1 with
  | .ref v :: .int i :: .ref a :: r => match rm_arr q.2.2.2.1 a, rm_obj q.2.2.2.1 v with
    | some (t, n, .inr (.inr (.inr (.inr f)))), some o => if rm_in i n && decide (rm_tc t = some o.1) then some (q.1 + 1, q.2.1, r, q.2.2.2.1.set a (.inl (t, n, .inr (.inr (.inr (.inr (va_up f i.toNatClampNeg (some v))))))), q.2.2.2.2) else none
    | _, _ => none
  | _ => none
def rm_ldc (n : Nat) (k : Option (Nat × Nat × Nat × Nat)) (q : rm_N) : Option rm_N := match k with
  | some (4, a, _, _) => rm_push n (.int (Int32.ofNat a)) q
  | _ => none
def rm_ldc2 (k : Option (Nat × Nat × Nat × Nat)) (q : rm_N) : Option rm_N := match k with
  | some (5, a, _, _) => rm_push 3 (.long (Int64.ofNat a)) q
  | _ => none
def rm_ldcA (k : Option (Nat × Nat × Nat × Nat)) (q : rm_N) : Option rm_N := match k with
  | some (6, _, _, _) => rm_push 2 (.retAddr 2) q
  | _ => rm_ldc 2 k q
def rm_gets (k : Option (Nat × Nat × Nat × Nat)) (q : rm_N) : Option rm_N := match k with
  | some (8, _, _, _) => rm_push 3 (.int 1) q
  | _ => none
def rm_bald (q : rm_N) : Option rm_N := match q.2.2.1 with
  | .int i :: .retAddr 3 :: r => if rm_in i rm_sB.length then some (q.1 + 1, q.2.1, .int (rm_sB.getD i.toNatClampNeg 0) :: r, q.2.2.2) else none
  | _ => none
/-- getfield, of a cell of the heap or of the text -/
def rm_getfA (k : Option (Nat × Nat × Nat × Nat)) (q : rm_N) : Option rm_N := match k, q.2.2.1 with
  | some (7, 0, _, _), .retAddr 2 :: r => some (q.1 + 3, q.2.1, .retAddr 3 :: r, q.2.2.2)
  | some (7, _ + 1, _, _), .retAddr 2 :: r => some (q.1 + 3, q.2.1, .int 0 :: r, q.2.2.2)
  | _, _ => rm_getf k q
-- the relation
theorem rm_obj_ok {h : rm_H} {a : Nat} {o : Nat × List Value} (e : rm_obj h a = some o) : h[a]? = some (.inr o) := by
  unfold rm_obj at e
  split at e
  · rename_i o' h1; cases e; exact h1
  · cases e
theorem rm_arr_ok {h : rm_H} {a : Nat} {o : Nat × vp_A} (e : rm_arr h a = some o) : h[a]? = some (.inl o) := by
  unfold rm_arr at e
  split at e
  · rename_i o' h1; cases e; exact h1
  · cases e
theorem rm_R.set {D : va_G} {sz : Nat} {ext : Nat → Nat} {cA : Nat → ClassId} {h : rm_H} {H H1 : Heap} {a : Nat} {c0 c1 : va_E} (hR : rm_R D sz ext cA h H) (h0 : h[a]? = some c0) (h1 : rm_at1 D sz ext cA a c1 H1) (z : H1.size = H.size) (oq : ∀ q : Nat, q ≠ sz + a → H1[q]? = H[q]?) : rm_R D sz ext cA (h.set a c1) H1 := by
  refine ⟨by rw [z, hR.1, List.length_set], fun k c hk => ?_⟩
  by_cases e : k = a
  · subst e
    rw [List.getElem?_set_self (List.getElem?_eq_some_iff.mp h0).1] at hk
    cases hk
    exact h1
  · rw [List.getElem?_set_ne (Ne.symm e)] at hk
    exact (hR.2 k c hk).kept (oq _ (by show sz + k ≠ sz + a; omega))
theorem rm_R.same {D : va_G} {sz : Nat} {ext : Nat → Nat} {cA : Nat → ClassId} {h : rm_H} {H H1 : Heap} {a : Nat} {c0 : va_E} (hR : rm_R D sz ext cA h H) (h0 : h[a]? = some c0) (h1 : rm_at1 D sz ext cA a c0 H1) (z : H1.size = H.size) (oq : ∀ q : Nat, q ≠ sz + a → H1[q]? = H[q]?) : rm_R D sz ext cA h H1 := by
  refine ⟨by rw [z, hR.1], fun k c hk => ?_⟩
  by_cases e : k = a
  · subst e
    cases hk.symm.trans h0
    exact h1
  · exact (hR.2 k c hk).kept (oq _ (by show sz + k ≠ sz + a; omega))
theorem rm_R.push {D : va_G} {sz : Nat} {ext : Nat → Nat} {cA : Nat → ClassId} {h : rm_H} {H H1 : Heap} {c1 : va_E} (hR : rm_R D sz ext cA h H) (h1 : rm_at1 D sz ext cA h.length c1 H1) (z : H1.size = H.size + 1) (oq : ∀ q : Nat, q < H.size → H1[q]? = H[q]?) : rm_R D sz ext cA (h ++ [c1]) H1 := by
  refine ⟨by rw [z, hR.1, List.length_append]; rfl, fun k c hk => ?_⟩
  by_cases e : k < h.length
  · rw [List.getElem?_append_left e] at hk
    exact (hR.2 k c hk).kept (oq _ (by show sz + k < H.size; rw [hR.1]; omega))
  · rw [List.getElem?_append_right (by omega)] at hk
    have hz : k - h.length < 1 := (List.getElem?_eq_some_iff.mp hk).1
    have hz0 : k = h.length := by omega
    subst hz0
    rw [Nat.sub_self] at hk
    cases hk
    exact h1
theorem rm_S.put {sz : Nat} {H0 H H1 : Heap} {locs : List Loc} {a k : Nat} (hS : rm_S sz H0 H locs) (ha : sz ≤ a) (oq : ∀ q : Nat, q ≠ a → H1[q]? = H[q]?) : rm_S sz H0 H1 (locs ++ [⟨a, k⟩]) := by
  refine ⟨fun q hq => (oq q (by omega)).trans (hS.1 q hq), fun q hq => ?_⟩
  rcases List.mem_append.mp hq with h | h
  · exact hS.2 q h
  · rw [List.mem_singleton.mp h]; exact ha
theorem rm_S.new {sz : Nat} {H0 H H1 : Heap} {locs : List Loc} (hS : rm_S sz H0 H locs) (hz : sz ≤ H.size) (oq : ∀ q : Nat, q < H.size → H1[q]? = H[q]?) : rm_S sz H0 H1 locs :=
  ⟨fun q hq => (oq q (by omega)).trans (hS.1 q hq), hS.2⟩
section RMH
variable {p : Program} {l : Launch} {e : Env} {R : Room} {s : State} {m : MethodId} {args : Array Value} {below : List Frame} {meth : Method} {c : Code} {Q : State → Prop}
variable {nL sz : Nat} {ext : Nat → Nat} {cA : Nat → ClassId} {D : va_G} {own : String} {L : Nat} {xs : rm_F} {ks : List rm_K5}
abbrev rm_KR (p : Program) (l : Launch) (e : Env) (R : Room) (s : State) (m : MethodId) (args : Array Value) (below : List Frame) (meth : Method) (c : Code) (Q : State → Prop) (nL sz : Nat) (ext : Nat → Nat) (cA : Nat → ClassId) (D : va_G) (i : Instr) (n : Nat) (f : rm_N → Option rm_N) : Prop :=
  ∀ (q r : rm_N), decode c.code q.1 = .ok (i, n) → f q = some r → r.2.2.2.2.1 ≤ R.cells → r.2.2.2.2.2.1 ≤ R.slots → rm_K p l e R s m args below meth c Q nL sz ext cA D r → rm_K p l e R s m args below meth c Q nL sz ext cA D q
theorem rm_s_getf (hx : p.tables.exec = Jvm.exec) (hts : ∀ w ∈ rm_tb, w.before args s = true) (hX : rm_X D cA sz ext L xs s) (hown : s.vm.findClass own = some m.cls) (hks : ∀ k ∈ ks, rm_okK own k) {i : Nat} : rm_KR p l e R s m args below meth c Q nL sz ext cA D (.getfield i) 3 (rm_getf (rm_lk ks i)) := by
  intro q r hd hf _ _ K ls H locs hl hR hS
  unfold rm_getf at hf
  split at hf
  · rename_i ci f cf a st hk hst
    have hok := hks _ (rm_lk_mem hk)
    split at hf
    · rename_i o ho
      split at hf
      · rename_i hci
        split at hf
        · rename_i v hv
          cases hf
          obtain ⟨ci', fs⟩ := o
          have hci : ci' = ci := hci
          subst hci
          have hk0 := rm_obj_ok ho
          have hat := hR.2 _ _ hk0
          have hP : va_P D vwCl [(sz + a, rm_c sz ext cA (.inr (ci', fs)))] H := fun j x hj => by
            cases j with
            | zero => cases hj; exact hat
            | succ j => simp at hj
          have hv' : (fs.map (rm_v sz ext))[f]? = some (rm_v sz ext v) := by rw [List.getElem?_map]; show Option.map _ _ = _; rw [show fs[f]? = some v from hv]; rfl
          have hkk := K ls H locs hl hR hS
          rw [hst]
          cases cf with
          | zero =>
            obtain ⟨C, T, N, h1, h2, h3⟩ := hok
            obtain ⟨g1, g2, g3, g4, g5, g6⟩ := rm_okC_all _ _ h1
            exact va_get (D := D) (cl := vwCl) (ci := ci') (C := C) (T := T) (N := N) hx rfl hts g1 hown hX.1 hP 0 rfl h1 f h2 (hts _ h3) (fun x hxx => by have z : (T f).1 = C := g4 f h2; rw [z] at hxx; exact hxx) hv' hd hkk
          | succ cf =>
            obtain ⟨C, T, N, h1, h2, h3⟩ := hok
            obtain ⟨g1, g2, g3, g4, g5, g6⟩ := rm_okC_all _ _ h1
            exact va_getN (D := D) (cl := vwCl) (ci := ci') (C := C) (T := T) (N := N) hx rfl hts g1 hown hX.1 hP 0 rfl h1 f h2 (va_Nw.use rfl (hX.2.2.1 _ h3)) (fun x hxx => by have z : (T f).1 = C := g4 f h2; rw [z] at hxx; exact hxx) hv' hd hkk
        · cases hf
      · cases hf
    · cases hf
  · cases hf
theorem rm_hq {sz : Nat} {H0 H : Heap} {locs : List Loc} (hS : rm_S sz H0 H locs) : ∀ a : Nat, a < H0.size → ¬ (fun q => sz ≤ q) a → H[a]? = H0[a]? := fun a _ h => hS.1 a (Nat.lt_of_not_le h)
theorem rm_s_getfA (hx : p.tables.exec = Jvm.exec) (hts : ∀ w ∈ rm_tb, w.before args s = true) (hX : rm_X D cA sz ext L xs s) (hown : s.vm.findClass own = some m.cls) (hks : ∀ k ∈ ks, rm_okK own k) {i : Nat} : rm_KR p l e R s m args below meth c Q nL sz ext cA D (.getfield i) 3 (rm_getfA (rm_lk ks i)) := by
  intro q r hd hf h1 h2 K
  unfold rm_getfA at hf
  split at hf
  · rename_i u1 u2 st hk hst
    have hok := hks _ (rm_lk_mem hk)
    cases hf
    intro ls H locs hl hR hS
    obtain ⟨-, -, hv, -⟩ := hX.2.2.2.2.1.2.2.1.1 0 (by decide)
    obtain ⟨cf, k9, fi, f, cell, g1, g2, g3, g4, g5, g6⟩ := hv.kept (rm_hq hS)
    have hk9 := K ls H locs hl hR hS
    rw [hst]
    exact W.getf hx rfl hown (hts _ hok) g1 g2 g3 g4 (v := .ref (ext 3)) g5 rfl rfl hd hk9
  · rename_i u0 u1 u2 st hk hst
    have hok := hks _ (rm_lk_mem hk)
    cases hf
    intro ls H locs hl hR hS
    obtain ⟨-, hv, -, -⟩ := hX.2.2.2.2.1.2.2.1.1 0 (by decide)
    obtain ⟨cf, k9, fi, f, cell, g1, g2, g3, g4, g5, g6⟩ := hv.kept (rm_hq hS)
    have hk9 := K ls H locs hl hR hS
    rw [hst]
    exact W.getf hx rfl hown (hts _ hok) g1 g2 g3 g4 (v := .int 0) g5 rfl rfl hd hk9
  · exact rm_s_getf hx hts hX hown hks q r hd hf h1 h2 K
theorem rm_s_gets (hx : p.tables.exec = Jvm.exec) (hts : ∀ w ∈ rm_tb, w.before args s = true) (hX : rm_X D cA sz ext L xs s) (hown : s.vm.findClass own = some m.cls) (hks : ∀ k ∈ ks, rm_okK own k) {i : Nat} : rm_KR p l e R s m args below meth c Q nL sz ext cA D (.getstatic i) 3 (rm_gets (rm_lk ks i)) := by
  intro q r hd hf _ _ K ls H locs hl hR hS
  unfold rm_gets at hf
  split at hf
  · rename_i u1 u2 u3 hk
    have hok := hks _ (rm_lk_mem hk)
    cases hf
    obtain ⟨cf, kf, fi, f, a, cell, g1, g2, g3, g4, g5, g6, g7, g8⟩ := hX.2.2.2.2.1.2.2.2.kept (rm_hq hS)
    exact W.gets hx rfl hown (hts _ hok) g1 g2 g3 g4 g5 (fun e => by rw [e] at g6; cases g6) g7 rfl hd (K ls H locs hl hR hS)
  · cases hf
theorem rm_s_bald (hx : p.tables.exec = Jvm.exec) (hX : rm_X D cA sz ext L xs s) : rm_KR p l e R s m args below meth c Q nL sz ext cA D .baload 1 rm_bald := by
  intro q r hd hf _ _ K ls H locs hl hR hS
  unfold rm_bald at hf
  split at hf
  · rename_i i st hst
    split at hf
    · rename_i hi
      cases hf
      obtain ⟨-, -, -, hv⟩ := hX.2.2.2.2.1.2.2.1.1 0 (by decide)
      obtain ⟨cell, g1, g2, g3, g4, g5, g6, g7⟩ := hv.kept (rm_hq hS)
      have hin := rm_in_ok hi
      have hlt : i.toNatClampNeg < rm_sB.length := Nat.not_le.mp fun z => hin (Or.inr z)
      have hk := K ls H locs hl hR hS
      rw [hst]
      exact W.bald (v := .int (rm_sB.getD i.toNatClampNeg 0)) hx rfl g1 g2 g3 (fun z => hin (z.imp id (fun z => Nat.le_trans (by exact g4) z))) (g6 _ hlt) rfl rfl hd hk
    · cases hf
  · cases hf
theorem rm_s_ldc (hx : p.tables.exec = Jvm.exec) (hts : ∀ w ∈ rm_tb, w.before args s = true) (hown : s.vm.findClass own = some m.cls) (hks : ∀ k ∈ ks, rm_okK own k) {i : Nat} : rm_KR p l e R s m args below meth c Q nL sz ext cA D (.ldc i) 2 (rm_ldc 2 (rm_lk ks i)) := by
  intro q r hd hf _ _ K ls H locs hl hR hS
  unfold rm_ldc at hf
  split at hf
  · rename_i a b d hk
    have hok := hks _ (rm_lk_mem hk)
    cases hf
    exact lv_ldc hx rfl hown (hts _ hok) hd (K ls H locs hl hR hS)
  · cases hf
theorem rm_s_ldcw (hx : p.tables.exec = Jvm.exec) (hts : ∀ w ∈ rm_tb, w.before args s = true) (hown : s.vm.findClass own = some m.cls) (hks : ∀ k ∈ ks, rm_okK own k) {i : Nat} : rm_KR p l e R s m args below meth c Q nL sz ext cA D (.ldc_w i) 3 (rm_ldc 3 (rm_lk ks i)) := by
  intro q r hd hf _ _ K ls H locs hl hR hS
  unfold rm_ldc at hf
  split at hf
  · rename_i a b d hk
    have hok := hks _ (rm_lk_mem hk)
    cases hf
    exact lv_ldcw hx rfl hown (hts _ hok) hd (K ls H locs hl hR hS)
  · cases hf
theorem rm_s_ldc2 (hx : p.tables.exec = Jvm.exec) (hts : ∀ w ∈ rm_tb, w.before args s = true) (hown : s.vm.findClass own = some m.cls) (hks : ∀ k ∈ ks, rm_okK own k) {i : Nat} : rm_KR p l e R s m args below meth c Q nL sz ext cA D (.ldc2_w i) 3 (rm_ldc2 (rm_lk ks i)) := by
  intro q r hd hf _ _ K ls H locs hl hR hS
  unfold rm_ldc2 at hf
  split at hf
  · rename_i a b d hk
    have hok := hks _ (rm_lk_mem hk)
    cases hf
    exact lv_ldc2 hx rfl hown (hts _ hok) hd (K ls H locs hl hR hS)
  · cases hf
theorem rm_s_ldcA (hx : p.tables.exec = Jvm.exec) (hts : ∀ w ∈ rm_tb, w.before args s = true) (hX : rm_X D cA sz ext L xs s) (hown : s.vm.findClass own = some m.cls) (hks : ∀ k ∈ ks, rm_okK own k) {i : Nat} : rm_KR p l e R s m args below meth c Q nL sz ext cA D (.ldc i) 2 (rm_ldcA (rm_lk ks i)) := by
  intro q r hd hf h1 h2 K
  unfold rm_ldcA at hf
  split at hf
  · rename_i u1 u2 u3 hk
    obtain ⟨rfl, rfl⟩ := hks _ (rm_lk_mem hk)
    cases hf
    intro ls H locs hl hR hS
    exact va_ldcS hx rfl hown hX.2.2.2.2.1.2.1 hd (K ls H locs hl hR hS)
  · exact rm_s_ldc hx hts hown hks q r hd hf h1 h2 K
end RMH
end
section
/-! PUTFIELD, NEW, ARRAYS -/
theorem rm_v_default (sz : Nat) (ext : Nat → Nat) (ty : FieldType) (h : rm_nf0 (defaultValue ty) = true) : rm_v sz ext (defaultValue ty) = defaultValue ty := by cases ty <;> first | rfl | cases h
theorem rm_fit_ok {ty : FieldType} {v : Value} (h : rm_fit ty v = true) (sz : Nat) (ext : Nat → Nat) : narrow ty (rm_v sz ext v) = rm_v sz ext v ∧ fits ty (rm_v sz ext v) = true := by
  unfold rm_fit at h
  split at h
  · exact ⟨rfl, rfl⟩
  · exact ⟨rfl, rfl⟩
  · rename_i x
    simp only [decide_eq_true_eq] at h
    rcases h with rfl | rfl
    · exact ⟨rfl, rfl⟩
    · exact ⟨rfl, rfl⟩
  · exact ⟨rfl, rfl⟩
  · exact ⟨rfl, rfl⟩
  · cases h
theorem rm_map_set {sz : Nat} {ext : Nat → Nat} (fs : List Value) (k : Nat) (v : Value) : (fs.set k v).map (rm_v sz ext) = (fs.map (rm_v sz ext)).set k (rm_v sz ext v) := List.map_set
section RMP
variable {p : Program} {l : Launch} {e : Env} {R : Room} {s : State} {m : MethodId} {args : Array Value} {below : List Frame} {meth : Method} {c : Code} {Q : State → Prop}
variable {nL sz : Nat} {ext : Nat → Nat} {cA : Nat → ClassId} {D : va_G} {own : String} {L : Nat} {xs : rm_F} {ks : List rm_K5}
theorem rm_s_putf (hx : p.tables.exec = Jvm.exec) (hts : ∀ w ∈ rm_tb, w.before args s = true) (hX : rm_X D cA sz ext L xs s) (hown : s.vm.findClass own = some m.cls) (hks : ∀ k ∈ ks, rm_okK own k) {ini : Bool} {oc : Nat} (hini : ini = true → meth.name = "<init>" ∧ ∃ q, vwCl[oc]? = some q ∧ q.1 = own) {i : Nat} : rm_KR p l e R s m args below meth c Q nL sz ext cA D (.putfield i) 3 (rm_putf ini oc (rm_lk ks i)) := by
  intro q r hd hf _ _ K ls H locs hl hR hS
  unfold rm_putf at hf
  split at hf
  · rename_i ci f v a st hk hst
    have hok := hks _ (rm_lk_mem hk)
    split at hf
    · rename_i o ho
      split at hf
      · rename_i hcond
        cases hf
        simp only [Bool.and_eq_true, decide_eq_true_eq, Bool.or_eq_true, Bool.not_eq_true'] at hcond
        obtain ⟨⟨⟨hci, hfit⟩, hlen⟩, hfin⟩ := hcond
        obtain ⟨ci', fs⟩ := o
        have hci : ci' = ci := hci
        subst hci
        have hk0 := rm_obj_ok ho
        have hat := hR.2 _ _ hk0
        obtain ⟨C, T, N, h1, h2, h3⟩ := hok
        obtain ⟨g1, g2, g3, g4, g5, g6⟩ := rm_okC_all _ _ h1
        have z4 : (T f).1 = C := g4 f h2
        have g2f : parseFieldDescriptor (T f).2.2.1 = some (rm_ft ci' f) := g2 f h2
        have hap := va_apart (own := own) (args := args) (s := s) hts g1 (rm_ft ci') g2 g3 hX.1 h1
        obtain ⟨r0, e1, cell, q1, q2, q3, q4⟩ := hat
        have hr : r0 = (C, T, N) := Option.some.inj (e1.symm.trans h1)
        subst hr
        obtain ⟨hSl, hfc, kC, hkC, hkind⟩ := hX.1.1 ci' _ h1
        obtain ⟨cf, kf, fi, fd, hi, hsl⟩ := hSl f h2
        have hst2 := (u_facts hfc hkC (u_lays hts g1 h2) hi).1
        obtain ⟨n1, n2⟩ := rm_fit_ok hfit sz ext
        have h6 := u_fits hfc hkC hkind (u_lays hts g1 h2) hi g2f n1 n2
        have hlt : fd.slot < cell.slots.size := by rw [hsl]; exact k2_hasslot (q4 f h2)
        have hi2 : s.fieldFound? C (T f).2.1 (T f).2.2.1 = some (cf, kf, fi, fd) := by
          have hi9 := hi
          dsimp only at hi9
          rw [z4] at hi9
          exact hi9
        have hff : hasFlag fd.accessFlags Acc.final = false ∨ (m.cls = cf ∧ meth.name = "<init>") := by
          have hlay := hts _ (g1 _ (u_in_lay h2))
          unfold u_lay at hlay
          have efin : rm_fin ci' f = (T f).2.2.2 := by unfold rm_fin; rw [h1]
          rw [efin] at hfin
          cases hb : (T f).2.2.2 with
          | false =>
            rw [if_neg (by rw [hb]; decide)] at hlay
            exact Or.inl (u_store hfc hkC hkind hlay hi g2f n1 n2).1
          | true =>
            rcases hfin with hfin | ⟨hfin, hoc⟩
            · rw [hb] at hfin; cases hfin
            · obtain ⟨w1, qq, w2, w3⟩ := hini hfin
              rw [hoc, h1] at w2
              cases w2
              rw [if_pos hb] at hlay
              obtain ⟨_, _, c', _, _, _, -, -, hf', -, -, -, hown2, -⟩ := Cond.laysFinal_spec hlay
              have e1 : c' = cf := by have := hi.symm.trans hf'; simp at this; exact this.1.symm
              have w3 : C = own := w3
              have z5 : (T f).1 = own := z4.trans w3
              dsimp only at hown2
              rw [z5] at hown2
              exact Or.inr ⟨by rw [← e1]; exact Option.some.inj (hown.symm.trans hown2), w1⟩
        have ha : sz + a < H.size := (Array.getElem?_eq_some_iff.mp q1).1
        rw [hst]
        refine W.putf hx rfl hown (hts _ h3) hi2 hst2 hff q1 (by rw [q3]; exact fun z => by cases z) hlt h6.1 (by rw [q2, q3]; exact h6.2) rfl rfl hd ?_
        refine K ls _ _ hl ?_ ?_
        · refine hR.set hk0 ?_ (by simp) (fun j hj => by simp [Array.getElem?_setIfInBounds, Ne.symm hj])
          refine ⟨_, h1, t_OB.to (V := updV (vp_V (fs.map (rm_v sz ext))) f (rm_v sz ext v)) ⟨cell.setSlot fd.slot (rm_v sz ext v), by simp [Array.getElem?_setIfInBounds, ha], q2, q3, ?_⟩ (fun j _ => ?_)⟩
          · rw [hsl]
            exact t_set q4 hap h2 _
          · rw [rm_map_set]
            exact vp_updV_set (by rw [List.length_map]; exact hlen) _ j
        · exact hS.put (Nat.le_add_right sz a) (fun j hj => by simp [Array.getElem?_setIfInBounds, Ne.symm hj])
      · cases hf
    · cases hf
  · cases hf
theorem rm_s_new (hx : p.tables.exec = Jvm.exec) (hts : ∀ w ∈ rm_tb, w.before args s = true) (hX : rm_X D cA sz ext L xs s) (hown : s.vm.findClass own = some m.cls) (hks : ∀ k ∈ ks, rm_okK own k) {i : Nat} : rm_KR p l e R s m args below meth c Q nL sz ext cA D (.new i) 3 (rm_new (rm_lk ks i)) := by
  intro q r hd hf hc1 hc2 K ls H locs hl hR hS
  unfold rm_new at hf
  split at hf
  · rename_i ci N z hk
    have hok := hks _ (rm_lk_mem hk)
    split at hf
    · cases hf
    rename_i hnf
    cases hf
    obtain ⟨C, T, h1, h3, -⟩ := hok
    obtain ⟨g1, g2, g3, g4, g5, g6⟩ := rm_okC_all _ _ h1
    have hKn := hX.1.1 ci _ h1
    refine W.newcK hx rfl hown (hts _ h3) (hts _ g5) (hts _ g6) rfl hd hc1 hc2 hKn.2.1 hR.1 fun H1 kC hkC e1 z1 o1 => ?_
    have hk2 := K ls H1 locs hl
    refine hk2 ?_ (hS.new (by rw [hR.1]; omega) (fun x hx9 => o1 x (by rw [← hR.1]; exact hx9)))
    refine hR.push ⟨_, h1, (u_born (rm_ft ci) hts g1 hKn hkC e1 g2).to (fun j hj => ?_)⟩ (by rw [z1, hR.1]) (fun x hx9 => o1 x (by rw [← hR.1]; exact hx9))
    have hj : j < N := hj
    have hnf : ((List.range N).map (fun j => defaultValue (rm_ft ci j))).all rm_nf0 = true := by simpa using hnf
    have hd9 := List.all_eq_true.mp hnf (defaultValue (rm_ft ci j)) (List.mem_map.mpr ⟨j, List.mem_range.mpr hj, rfl⟩)
    simp [vp_V, hj, rm_v_default _ _ _ hd9]
  · cases hf
theorem rm_tys_at {cA : Nat → ClassId} {t : Nat} {ty : FieldType} (h : rm_ts[t]? = some ty) : (rm_tys cA)[t]? = some (cA t, ty) := by
  match t, h with
  | 0, h => cases h; rfl
  | 1, h => cases h; rfl
  | 2, h => cases h; rfl
  | 3, h => cases h; rfl
  | 4, h => cases h; rfl
  | 5, h => cases h; rfl
  | 6, h => cases h; rfl
  | 7, h => cases h; rfl
  | n + 8, h => simp [rm_ts] at h
theorem rm_newa_s (hx : p.tables.exec = Jvm.exec) (hts : ∀ w ∈ rm_tb, w.before args s = true) (hX : rm_X D cA sz ext L xs s) {at9 : ArrayType} {t : Nat} {ty : FieldType} {d : (Nat → Int32) ⊕ (Nat → Int64) ⊕ (Nat → UInt32) ⊕ (Nat → UInt64) ⊕ (Nat → Option Nat)} (ht5 : t < 5) (hkd : rm_kd t d) (ht : rm_ts[t]? = some ty) (hty : newarray.typeOf at9 = ty) (hno : ∀ C, ty ≠ .object C) (hb : componentBytes ty ≤ 8) (hw : Cond.arrayClass ty ∈ rm_tb)
    (hd0 : ∀ (N : Nat) (a : ClassId), vp_cell a (N, d) = arrV a N (fun _ => defaultValue ty)) : rm_KR p l e R s m args below meth c Q nL sz ext cA D (.newarray at9) 2 (rm_newa t) := by
  intro q r hd hf hc1 hc2 K ls H locs hl hR hS
  unfold rm_newa at hf
  split at hf
  · rename_i n st hst
    split at hf
    · cases hf
    · rename_i hn
      cases hf
      simp only [Bool.or_eq_true, decide_eq_true_eq, not_or] at hn
      subst hty
      rw [hst]
      refine va_newaK hx rfl (hts _ hw) rfl hd rfl hn.1 rfl (Nat.le_trans (Nat.mul_le_mul_left _ hb) (by omega)) hc1 hc2 hR.1 fun H1 a9 e1 z1 o1 hAr hNm => ?_
      have hRA := (hX.1.2 t _ (rm_tys_at ht)).2
      have ha9 : a9 = cA t := by
        cases at9 <;> exact Option.some.inj (hNm.symm.trans hRA)
      subst ha9
      have hk2 := K ls H1 locs hl
      refine hk2 ?_ (hS.new (by rw [hR.1]; omega) (fun x hx9 => o1 x (by rw [← hR.1]; exact hx9)))
      refine hR.push ?_ (by rw [z1, hR.1]) (fun x hx9 => o1 x (by rw [← hR.1]; exact hx9))
      refine ⟨ht5, d, hkd, ?_⟩
      show H1[sz + _]? = some (vp_cell (cA t) (_, d))
      rw [hd0]
      exact e1
  · cases hf
theorem rm_s_newq (hx : p.tables.exec = Jvm.exec) (hts : ∀ w ∈ rm_tb, w.before args s = true) (hX : rm_X D cA sz ext L xs s) (hown : s.vm.findClass own = some m.cls) (hks : ∀ k ∈ ks, rm_okK own k) {i : Nat} : rm_KR p l e R s m args below meth c Q nL sz ext cA D (.anewarray i) 3 (rm_newq (rm_lk ks i)) := by
  intro q r hd hf hc1 hc2 K ls H locs hl hR hS
  unfold rm_newq at hf
  split at hf
  · rename_i z z2 t n st hk hst
    have hok := hks _ (rm_lk_mem hk)
    split at hf
    · cases hf
    · rename_i hn
      cases hf
      simp only [Bool.or_eq_true, decide_eq_true_eq, not_or] at hn
      obtain ⟨C, T, -, h3, h1⟩ := hok
      have h1 := h1 (by omega)
      have hn := hn.1
      rw [hst]
      refine W.anew hx rfl hown (hts _ h3) (va_AO.use (hX.2.1 t C h1)) rfl hd rfl hn.1 (by omega) hc1 hc2 fun a9 kA comp f1 f2 f3 f4 => ?_
      obtain ⟨kA', comp', k1, k2, k3, k4⟩ := (hX.1.2 t _ (rm_tys_at h1)).2
      have ha9 : a9 = cA t := Option.some.inj (f1.symm.trans k4)
      subst ha9
      rw [hR.1]
      have hk2 := K ls (H.push { cls := cA t, slots := Array.replicate n.toNatClampNeg .null, vm := .none }) locs hl
      have o1 : ∀ x : Nat, x < H.size → (H.push ({ cls := cA t, slots := Array.replicate n.toNatClampNeg .null, vm := .none } : Cell))[x]? = H[x]? := fun x hx9 => by rw [Array.getElem?_push, if_neg (Nat.ne_of_lt hx9)]
      refine hk2 ?_ (hS.new (by rw [hR.1]; omega) o1)
      refine hR.push ?_ (by simp) o1
      have e9 : (H.push ({ cls := cA t, slots := Array.replicate n.toNatClampNeg .null, vm := .none } : Cell))[H.size]? = some (vp_cell (cA t) (rm_a sz (n.toNatClampNeg, .inr (.inr (.inr (.inr (fun _ => none))))))) := by
        rw [Array.getElem?_push_size, arrV_new]
        rfl
      rw [hR.1] at e9
      exact e9
  · cases hf
end RMP
end
section
/-! READS AND WRITES OF ARRAYS -/
section RMQ
variable {p : Program} {l : Launch} {e : Env} {R : Room} {s : State} {m : MethodId} {args : Array Value} {below : List Frame} {meth : Method} {c : Code} {Q : State → Prop}
variable {nL sz : Nat} {ext : Nat → Nat} {cA : Nat → ClassId} {D : va_G} {own : String} {L : Nat} {xs : rm_F} {ks : List rm_K5}
theorem rm_oneO {D : va_G} {sz : Nat} {ext : Nat → Nat} {cA : Nat → ClassId} {h : rm_H} {H : Heap} {a : Nat} {o : Nat × List Value} (hR : rm_R D sz ext cA h H) (h0 : h[a]? = some (.inr o)) : va_P D vwCl [(sz + a, rm_c sz ext cA (.inr o))] H := fun j y hj => by
  cases j with
  | zero => cases hj; exact hR.2 _ _ h0
  | succ j => simp at hj
theorem rm_oneP {D : va_G} {H : Heap} {x : Nat × va_E} (h : va_at D vwCl x H) : va_P D vwCl [x] H := fun j y hj => by
  cases j with
  | zero => cases hj; exact h
  | succ j => simp at hj
theorem rm_ts_lt {t : Nat} (h : t < 8) : ∃ ty, rm_ts[t]? = some ty := ⟨_, List.getElem?_eq_getElem (by show t < 8; exact h)⟩
theorem rm_s_alen (hx : p.tables.exec = Jvm.exec) (hX : rm_X D cA sz ext L xs s) : rm_KR p l e R s m args below meth c Q nL sz ext cA D .arraylength 1 (rm_alen L) := by
  intro q r hd hf _ _ K ls H locs hl hR hS
  unfold rm_alen at hf
  split at hf
  · rename_i a st hst
    split at hf
    · rename_i o ho
      split at hf
      · rename_i ht
        cases hf
        obtain ⟨t, n, d⟩ := o
        obtain ⟨ty, hty⟩ := rm_ts_lt ht
        have hk := K ls H locs hl hR hS
        have h0 := hR.2 _ _ (rm_arr_ok ho)
        rw [hst]
        obtain d | d | d | d | d := d
        · have h1 : va_at D vwCl (sz + a, rm_c sz ext cA (.inl (t, n, .inl d))) H := h0
          exact va_alen (D := D) (cl := vwCl) hx rfl hX.1 (rm_oneP h1) 0 t rfl (rm_tys_at hty) rfl hd hk
        · have h1 : va_at D vwCl (sz + a, rm_c sz ext cA (.inl (t, n, .inr (.inl d)))) H := h0
          exact va_alen (D := D) (cl := vwCl) hx rfl hX.1 (rm_oneP h1) 0 t rfl (rm_tys_at hty) rfl hd hk
        · obtain ⟨-, d9, -, h9⟩ := h0
          exact va_alen (D := D) (cl := vwCl) hx rfl hX.1 (rm_oneP h9) 0 t rfl (rm_tys_at hty) rfl hd hk
        · have h1 : va_at D vwCl (sz + a, rm_c sz ext cA (.inl (t, n, .inr (.inr (.inr (.inl d)))))) H := h0
          exact va_alen (D := D) (cl := vwCl) hx rfl hX.1 (rm_oneP h1) 0 t rfl (rm_tys_at hty) rfl hd hk
        · have h1 : va_at D vwCl (sz + a, rm_c sz ext cA (.inl (t, n, .inr (.inr (.inr (.inr d)))))) H := h0
          exact va_alen (D := D) (cl := vwCl) hx rfl hX.1 (rm_oneP h1) 0 t rfl (rm_tys_at hty) rfl hd hk
      · cases hf
    · cases hf
  · rename_i st hst
    split at hf
    · cases hf
    · rename_i hL
      cases hf
      obtain ⟨ys, ⟨scr, h1, h2, h3, h4, h5⟩, -⟩ := hX.2.2.2.1 hL
      have hk := K ls H locs hl hR hS
      rw [hst]
      exact W.alen (n := Int32.ofNat L) hx rfl (by rw [hS.1 _ hX.2.2.2.2.1.1]; exact h1) h2 (by rw [h4] <;> rfl) rfl rfl hd hk
  · rename_i st hst
    cases hf
    obtain ⟨-, -, -, hv⟩ := hX.2.2.2.2.1.2.2.1.1 0 (by decide)
    obtain ⟨cell, g1, g2, g3, g4, g5, g6, g7⟩ := hv.kept (rm_hq hS)
    have hk := K ls H locs hl hR hS
    rw [hst]
    exact W.alen (n := Int32.ofNat rm_sB.length) hx rfl g1 g2 g5 rfl rfl hd hk
  · cases hf
theorem rm_s_iald (hx : p.tables.exec = Jvm.exec) (hX : rm_X D cA sz ext L xs s) : rm_KR p l e R s m args below meth c Q nL sz ext cA D .iaload 1 (rm_iald L) := by
  intro q r hd hf _ _ K ls H locs hl hR hS
  unfold rm_iald at hf
  split at hf
  · rename_i i st hst
    split at hf
    · rename_i hi
      cases hf
      simp only [Bool.and_eq_true, decide_eq_true_eq] at hi
      obtain ⟨ys, ⟨scr, h1, h2, h3, h4, h5⟩, h6⟩ := hX.2.2.2.1 hi.2
      have hk := K ls H locs hl hR hS
      have hin := rm_in_ok hi.1.1
      have hlt : i.toNatClampNeg < L := Nat.not_le.mp fun z => hin (Or.inr z)
      have ev : rm_v sz ext (.float (UInt32.ofNat i.toNatClampNeg)) = .int (ys i.toNatClampNeg) := by
        show Value.int (rm_e ext (UInt32.ofNat i.toNatClampNeg).toNat) = _
        rw [rm_u32 (by omega), h6 _ hi.1.2]
      simp only [List.map_cons, ev] at hk
      rw [hst]
      exact W.iald (v := .int (ys i.toNatClampNeg)) hx rfl (by rw [hS.1 _ hX.2.2.2.2.1.1]; exact h1) h2 h3 (by rw [h4]; exact hin) (h5 _ hlt) rfl rfl hd hk
    · cases hf
  · cases hf
theorem rm_rf_map (sz : Nat) (ext : Nat → Nat) (x : Option Nat) : rm_v sz ext (va_rf x) = va_rf (x.map (fun k => sz + k)) := by cases x <;> rfl
theorem rm_s_aald (hx : p.tables.exec = Jvm.exec) (hX : rm_X D cA sz ext L xs s) : rm_KR p l e R s m args below meth c Q nL sz ext cA D .aaload 1 rm_aald := by
  intro q r hd hf _ _ K ls H locs hl hR hS
  unfold rm_aald at hf
  split at hf
  · rename_i i a st hst
    split at hf
    · rename_i t n f ho
      split at hf
      · rename_i hi
        cases hf
        simp only [Bool.and_eq_true, decide_eq_true_eq] at hi
        have hk := K ls H locs hl hR hS
        simp only [List.map_cons, rm_rf_map] at hk
        rw [hst]
        have hobj : ∃ C, rm_ts[t]? = some (.object C) := by
          match t, hi.1.2, hi.2 with
          | 5, _, _ => exact ⟨_, rfl⟩
          | 6, _, _ => exact ⟨_, rfl⟩
          | 7, _, _ => exact ⟨_, rfl⟩
        obtain ⟨C, hC⟩ := hobj
        have h9 : va_at D vwCl (sz + a, rm_c sz ext cA (.inl (t, n, .inr (.inr (.inr (.inr f)))))) H := hR.2 _ _ (rm_arr_ok ho)
        exact va_aldq (D := D) (cl := vwCl) (f := fun j => (f j).map (fun k => sz + k)) hx rfl hX.1 (rm_oneP h9) 0 t rfl (rm_tys_at hC) (rm_in_ok hi.1.1) hd hk
      · cases hf
    · cases hf
  · cases hf
theorem rm_s_iast (hx : p.tables.exec = Jvm.exec) (hX : rm_X D cA sz ext L xs s) : rm_KR p l e R s m args below meth c Q nL sz ext cA D .iastore 1 (rm_ist 0 rm_isI) := by
  intro q r hd hf _ _ K ls H locs hl hR hS
  unfold rm_ist at hf
  split at hf
  · rename_i v i a st hst
    split at hf
    · rename_i t n z9 ho
      split at hf
      · rename_i hi
        cases hf
        simp only [Bool.and_eq_true, decide_eq_true_eq] at hi
        obtain ⟨⟨rfl, hin⟩, hfx⟩ := hi
        have h0 := rm_arr_ok ho
        obtain ⟨ht5, d, hkd, hat⟩ := hR.2 _ _ h0
        obtain ⟨f, rfl⟩ : ∃ f, d = .inl (f) := hkd
        obtain ⟨x, hv⟩ := rm_isI_ok hfx sz ext
        rw [hst]
        simp only [List.map_cons, hv]
        refine W.iast hx rfl hat ((hX.1.2 0 _ rfl).1 n (fun j => .int (f j))) (fun z => by cases z) (by show ¬ (i < 0 ∨ (arrV _ _ _).slots.size ≤ _); rw [arrV_size]; exact rm_in_ok hin) rfl rfl hd fun H1 e1 z1 o1 => ?_
        refine K ls H1 _ hl (hR.same h0 ⟨ht5, .inl (upd f i.toNatClampNeg x), ⟨_, rfl⟩, ?_⟩ z1 o1) (hS.put (Nat.le_add_right sz a) o1)
        show H1[sz + a]? = some (vp_cell _ _)
        rw [e1]
        show some ((vp_cell (cA 0) (n, .inl (f))).setSlot _ _) = some (vp_cell (cA 0) (n, .inl (upd f i.toNatClampNeg x)))
        rw [vp_cell_i, vp_cell_i, arrV_store]
        congr 2
        funext z
        by_cases hq : z = i.toNatClampNeg
        · subst hq
          simp [updV, upd]
          try rfl
        · simp [updV, upd, hq]
      · cases hf
    · cases hf
  · cases hf
theorem rm_s_cast (hx : p.tables.exec = Jvm.exec) (hX : rm_X D cA sz ext L xs s) : rm_KR p l e R s m args below meth c Q nL sz ext cA D .castore 1 (rm_ist 2 rm_isI) := by
  intro q r hd hf _ _ K ls H locs hl hR hS
  unfold rm_ist at hf
  split at hf
  · rename_i v i a st hst
    split at hf
    · rename_i t n z9 ho
      split at hf
      · rename_i hi
        cases hf
        simp only [Bool.and_eq_true, decide_eq_true_eq] at hi
        obtain ⟨⟨rfl, hin⟩, hfx⟩ := hi
        have h0 := rm_arr_ok ho
        obtain ⟨ht5, d, hkd, hat⟩ := hR.2 _ _ h0
        obtain ⟨f, rfl⟩ : ∃ f, d = .inl (f) := hkd
        obtain ⟨x, hv⟩ := rm_isI_ok hfx sz ext
        rw [hst]
        simp only [List.map_cons, hv]
        refine W.cast hx rfl hat ((hX.1.2 2 _ rfl).1 n (fun j => .int (f j))) (fun z => by cases z) (by show ¬ (i < 0 ∨ (arrV _ _ _).slots.size ≤ _); rw [arrV_size]; exact rm_in_ok hin) rfl rfl hd fun H1 e1 z1 o1 => ?_
        refine K ls H1 _ hl (hR.same h0 ⟨ht5, .inl (upd f i.toNatClampNeg (vp_nar .char x)), ⟨_, rfl⟩, ?_⟩ z1 o1) (hS.put (Nat.le_add_right sz a) o1)
        show H1[sz + a]? = some (vp_cell _ _)
        rw [e1]
        show some ((vp_cell (cA 2) (n, .inl (f))).setSlot _ _) = some (vp_cell (cA 2) (n, .inl (upd f i.toNatClampNeg (vp_nar .char x))))
        rw [vp_cell_i, vp_cell_i, arrV_store]
        congr 2
        funext z
        by_cases hq : z = i.toNatClampNeg
        · subst hq
          simp [updV, upd, vp_nar]
          try rfl
        · simp [updV, upd, hq]
      · cases hf
    · cases hf
  · cases hf
theorem rm_s_last (hx : p.tables.exec = Jvm.exec) (hX : rm_X D cA sz ext L xs s) : rm_KR p l e R s m args below meth c Q nL sz ext cA D .lastore 1 (rm_ist 1 rm_isJ) := by
  intro q r hd hf _ _ K ls H locs hl hR hS
  unfold rm_ist at hf
  split at hf
  · rename_i v i a st hst
    split at hf
    · rename_i t n z9 ho
      split at hf
      · rename_i hi
        cases hf
        simp only [Bool.and_eq_true, decide_eq_true_eq] at hi
        obtain ⟨⟨rfl, hin⟩, hfx⟩ := hi
        have h0 := rm_arr_ok ho
        obtain ⟨ht5, d, hkd, hat⟩ := hR.2 _ _ h0
        obtain ⟨f, rfl⟩ : ∃ f, d = .inr (.inl (f)) := hkd
        obtain ⟨x, rfl⟩ := rm_isJ_ok hfx
        have hv : rm_v sz ext (.long x) = .long x := rfl
        rw [hst]
        simp only [List.map_cons, hv]
        refine W.last hx rfl hat ((hX.1.2 1 _ rfl).1 n (fun j => .long (f j))) (fun z => by cases z) (by show ¬ (i < 0 ∨ (arrV _ _ _).slots.size ≤ _); rw [arrV_size]; exact rm_in_ok hin) rfl rfl hd fun H1 e1 z1 o1 => ?_
        refine K ls H1 _ hl (hR.same h0 ⟨ht5, .inr (.inl (vp_updL f i.toNatClampNeg x)), ⟨_, rfl⟩, ?_⟩ z1 o1) (hS.put (Nat.le_add_right sz a) o1)
        show H1[sz + a]? = some (vp_cell _ _)
        rw [e1]
        show some ((vp_cell (cA 1) (n, .inr (.inl (f)))).setSlot _ _) = some (vp_cell (cA 1) (n, .inr (.inl (vp_updL f i.toNatClampNeg x))))
        rw [vp_cell_l, vp_cell_l, arrV_store]
        congr 2
        funext z
        by_cases hq : z = i.toNatClampNeg
        · subst hq
          simp [updV, vp_updL]
          try rfl
        · simp [updV, vp_updL, hq]
      · cases hf
    · cases hf
  · cases hf
theorem rm_s_aast (hx : p.tables.exec = Jvm.exec) (hX : rm_X D cA sz ext L xs s) : rm_KR p l e R s m args below meth c Q nL sz ext cA D .aastore 1 rm_aast := by
  intro q r hd hf _ _ K ls H locs hl hR hS
  unfold rm_aast at hf
  split at hf
  · rename_i v i a st hst
    split at hf
    · rename_i t n f o ho hv
      split at hf
      · rename_i hi
        cases hf
        simp only [Bool.and_eq_true, decide_eq_true_eq] at hi
        obtain ⟨ci, fs⟩ := o
        have h0 := rm_arr_ok ho
        obtain ⟨q9, hq9, cellV, g1, g2, g3, -⟩ := hR.2 _ _ (rm_obj_ok hv)
        have hin := rm_in_ok hi.1
        have hlt : i.toNatClampNeg < n := Nat.not_le.mp fun z => hin (Or.inr z)
        have hneg : ¬ i < 0 := fun z => hin (Or.inl z)
        have hcls := (hX.1.1 ci q9 hq9).2
        have hrt : rm_ts[t]? = some (.object q9.1) := by
          have h2 := hi.2
          unfold rm_tc at h2
          split at h2 <;> first | (cases h2; cases hq9; rfl) | cases h2
        obtain ⟨kA, comp, k1, k2, k3, -⟩ := (hX.1.2 t _ (rm_tys_at hrt)).2
        have hcomp : comp = D.1 ci := Option.some.inj (k3.symm.trans hcls.1)
        subst hcomp
        have hcls2 := hcls
        obtain ⟨kC, hkC, -⟩ := hcls.2
        rw [hst]
        refine W.aast hx rfl (hR.2 _ _ h0) (fun z h => by cases h) (fun h => by cases h) k1 k2 rfl hkC ⟨hneg, by show _ < (arrV _ _ _).slots.size; rw [arrV_size]; exact hlt⟩ g1 (fun z h => by rw [g3] at h; cases h) (by rw [g2]; exact hkC) (by rw [g2]; exact va_assign hcls2) rfl rfl hd fun H1 e1 z1 o1 => ?_
        refine K ls H1 _ hl (hR.set h0 ?_ z1 o1) (hS.put (Nat.le_add_right sz a) o1)
        show H1[sz + a]? = some (vp_cell _ _)
        rw [e1]
        show some ((vp_cell (cA t) (n, .inr (.inr (.inr (.inr (fun j => (f j).map (fun k => sz + k))))))).setSlot _ _) = some (vp_cell (cA t) (n, .inr (.inr (.inr (.inr (fun j => (va_up f i.toNatClampNeg (some v) j).map (fun k => sz + k)))))))
        rw [vp_cell_q, vp_cell_q, arrV_store]
        congr 2
        funext z
        by_cases hq : z = i.toNatClampNeg
        · subst hq
          simp [updV, va_up, va_rf]
        · simp [updV, va_up, hq]
      · cases hf
    · cases hf
  · cases hf
end RMQ
end
section
/-! THE DISPATCHER -/
def rm_is (n k : Nat) (f : rm_N → Option rm_N) : Option (rm_N → Option rm_N) := if n = k then some f else none
theorem rm_is_ok {n k : Nat} {f g : rm_N → Option rm_N} (h : rm_is n k f = some g) : n = k ∧ f = g := by
  unfold rm_is at h
  split at h
  · rename_i e; exact ⟨e, Option.some.inj h⟩
  · cases h
def rm_op (nL : Nat) (ini : Bool) (oc : Nat) (ks : List rm_K5) (L : Nat) (xs : rm_F) (i : Instr) (n : Nat) : Option (rm_N → Option rm_N) := match i with
  | .iconst k => rm_is n 1 (rm_push 1 (.int (Int32.ofInt k)))
  | .bipush k => rm_is n 2 (rm_push 2 (.int (Int8.ofInt k).toInt32))
  | .sipush k => rm_is n 3 (rm_push 3 (.int (Int16.ofInt k).toInt32))
  | .lconst k => rm_is n 1 (rm_push 1 (.long (Int64.ofNat (k : Nat))))
  | .iload_n k => rm_is n 1 (rm_loadT rm_isI 1 (k : Nat))
  | .iload k => rm_is n 2 (rm_loadT rm_isI 2 k)
  | .lload_n k => rm_is n 1 (rm_loadT rm_isJ 1 (k : Nat))
  | .lload k => rm_is n 2 (rm_loadT rm_isJ 2 k)
  | .aload_n k => rm_is n 1 (rm_loadT rm_isA 1 (k : Nat))
  | .aload k => rm_is n 2 (rm_loadT rm_isA 2 k)
  | .istore_n k => rm_is n 1 (rm_store1 rm_isI nL 1 (k : Nat))
  | .istore k => rm_is n 2 (rm_store1 rm_isI nL 2 k)
  | .astore_n k => rm_is n 1 (rm_store1 rm_isA nL 1 (k : Nat))
  | .astore k => rm_is n 2 (rm_store1 rm_isA nL 2 k)
  | .lstore_n k => rm_is n 1 (rm_store2 nL 1 (k : Nat))
  | .lstore k => rm_is n 2 (rm_store2 nL 2 k)
  | .iinc j k => rm_is n 3 (rm_iinc nL j k)
  | .iadd => rm_is n 1 (rm_ii (fun x y => x + y))
  | .isub => rm_is n 1 (rm_ii (fun x y => x - y))
  | .imul => rm_is n 1 (rm_ii (fun x y => x * y))
  | .iand => rm_is n 1 (rm_iis 0)
  | .ishr => rm_is n 1 (rm_iis 1)
  | .iushr => rm_is n 1 (rm_iis 2)
  | .irem => rm_is n 1 (rm_iiz (fun x y => x - x / y * y))
  | .lcmp => rm_is n 1 (rm_jji lg_cmp)
  | .lushr => rm_is n 1 (rm_jij (fun x y => (x.toUInt64 >>> (y.toInt64.toUInt64 &&& Int64.toUInt64 63)).toInt64))
  | .i2l => rm_is n 1 (rm_i1 (fun x => .long x.toInt64))
  | .i2c => rm_is n 1 (rm_i1s)
  | .i2b => rm_is n 1 (rm_i1 (fun x => .int x.toInt8.toInt32))
  | .l2i => rm_is n 1 (rm_j1 (fun x => .int x.toInt32))
  | .dup => rm_is n 1 (rm_dup)
  | .pop => rm_is n 1 (rm_pop)
  | .goto off => rm_is n 3 (rm_goto off)
  | .ifCond cd off => rm_is n 3 (rm_if1 xs cd off)
  | .if_icmp cd off => rm_is n 3 (rm_if2 xs cd off)
  | .getfield k => rm_is n 3 (rm_getfA (rm_lk ks k))
  | .putfield k => rm_is n 3 (rm_putf ini oc (rm_lk ks k))
  | .new k => rm_is n 3 (rm_new (rm_lk ks k))
  | .anewarray k => rm_is n 3 (rm_newq (rm_lk ks k))
  | .newarray .int => rm_is n 2 (rm_newa 0)
  | .newarray .long => rm_is n 2 (rm_newa 1)
  | .newarray .char => rm_is n 2 (rm_newa 2)
  | .newarray .byte => rm_is n 2 (rm_newa 3)
  | .newarray .boolean => rm_is n 2 (rm_newa 4)
  | .arraylength => rm_is n 1 (rm_alen L)
  | .iaload => rm_is n 1 (rm_iald L)
  | .aaload => rm_is n 1 (rm_aald)
  | .iastore => rm_is n 1 (rm_ist 0 rm_isI)
  | .castore => rm_is n 1 (rm_ist 2 rm_isI)
  | .lastore => rm_is n 1 (rm_ist 1 rm_isJ)
  | .aastore => rm_is n 1 (rm_aast)
  | .ldc k => rm_is n 2 (rm_ldcA (rm_lk ks k))
  | .getstatic k => rm_is n 3 (rm_gets (rm_lk ks k))
  | .baload => rm_is n 1 (rm_bald)
  | .ldc_w k => rm_is n 3 (rm_ldc 3 (rm_lk ks k))
  | .ldc2_w k => rm_is n 3 (rm_ldc2 (rm_lk ks k))
  | .tableswitch d lo hi offs => some (rm_table xs d lo hi offs.toList)
  | _ => none
section RMO
variable {p : Program} {l : Launch} {e : Env} {R : Room} {s : State} {m : MethodId} {args : Array Value} {below : List Frame} {meth : Method} {c : Code} {Q : State → Prop}
variable {nL sz : Nat} {ext : Nat → Nat} {cA : Nat → ClassId} {D : va_G} {own : String} {L : Nat} {xs : rm_F} {ks : List rm_K5}
abbrev rm_KA (p : Program) (l : Launch) (e : Env) (R : Room) (s : State) (m : MethodId) (args : Array Value) (below : List Frame) (meth : Method) (c : Code) (Q : State → Prop) (nL sz : Nat) (ext : Nat → Nat) (cA : Nat → ClassId) (D : va_G) (i : Instr) (n : Nat) (f : rm_N → Option rm_N) : Prop :=
  ∀ (q r : rm_N), decode c.code q.1 = .ok (i, n) → f q = some r → r.2.2.2.2.2.2.2 = true → r.2.2.2.2.1 ≤ R.cells → r.2.2.2.2.2.1 ≤ R.slots → rm_K p l e R s m args below meth c Q nL sz ext cA D r → rm_K p l e R s m args below meth c Q nL sz ext cA D q
theorem rm_KK.toA {i : Instr} {n k : Nat} {f g : rm_N → Option rm_N} (h : rm_KK p l e R s m args below meth c Q nL sz ext cA D i k f) (z : rm_is n k f = some g) : rm_KA p l e R s m args below meth c Q nL sz ext cA D i n g := by
  obtain ⟨rfl, rfl⟩ := rm_is_ok z
  exact fun q r h1 h2 h3 _ _ h4 => h q r h1 h2 h3 h4
theorem rm_KR.toA {i : Instr} {n k : Nat} {f g : rm_N → Option rm_N} (h : rm_KR p l e R s m args below meth c Q nL sz ext cA D i k f) (z : rm_is n k f = some g) : rm_KA p l e R s m args below meth c Q nL sz ext cA D i n g := by
  obtain ⟨rfl, rfl⟩ := rm_is_ok z
  exact fun q r h1 h2 _ h5 h6 h4 => h q r h1 h2 h5 h6 h4
theorem rm_s_table (hx : p.tables.exec = Jvm.exec) {F : rm_F} (hE : rm_E ext F) {d lo hi : Int} {offs : Array Int} {n : Nat} : rm_KA p l e R s m args below meth c Q nL sz ext cA D (.tableswitch d lo hi offs) n (rm_table F d lo hi offs.toList) := by
  intro q r hd hf ho _ _ K ls H locs hl hR hS
  unfold rm_table at hf
  split at hf
  · rename_i v st hst
    split at hf
    · rename_i x hx9
      have hv := rm_num_ok hE hx9 sz
      rw [hst]
      simp only [List.map_cons, hv]
      split at hf
      · rename_i hlo
        split at hf
        · rename_i g hg
          cases hf
          exact lv_tableOut hx rfl hd hlo (rm_tgt_ok hg) (K ls H locs hl hR hS)
        · cases hf
      · rename_i hlo
        split at hf
        · rename_i off hoff
          split at hf
          · rename_i g hg
            cases hf
            exact lv_tableIn hx rfl hd (fun z => hlo (Or.inl z)) (fun z => hlo (Or.inr z)) (by rw [← Array.getElem?_toList]; exact hoff) (rm_tgt_ok hg) (K ls H locs hl hR hS)
          · cases hf
        · cases hf
    · cases hf
  · cases hf
theorem rm_op_s (hx : p.tables.exec = Jvm.exec) (hts : ∀ w ∈ rm_tb, w.before args s = true) (hX : rm_X D cA sz ext L xs s) (hown : s.vm.findClass own = some m.cls) (hks : ∀ k ∈ ks, rm_okK own k) {ini : Bool} {oc : Nat} (hini : ini = true → meth.name = "<init>" ∧ ∃ q, vwCl[oc]? = some q ∧ q.1 = own) {i : Instr} {n : Nat} {g : rm_N → Option rm_N} (h : rm_op nL ini oc ks L xs i n = some g) : rm_KA p l e R s m args below meth c Q nL sz ext cA D i n g := by
  unfold rm_op at h
  split at h
  · exact rm_KK.toA (rm_s_iconst hx) h
  · exact rm_KK.toA (rm_s_bipush hx) h
  · exact rm_KK.toA (rm_s_sipush hx) h
  · exact rm_KK.toA (rm_s_lconst hx) h
  · exact rm_KK.toA (rm_s_iload_n hx) h
  · exact rm_KK.toA (rm_s_iload hx) h
  · exact rm_KK.toA (rm_s_lload_n hx) h
  · exact rm_KK.toA (rm_s_lload hx) h
  · exact rm_KK.toA (rm_s_aload_n hx) h
  · exact rm_KK.toA (rm_s_aload hx) h
  · exact rm_KK.toA (rm_s_istore_n hx) h
  · exact rm_KK.toA (rm_s_istore hx) h
  · exact rm_KK.toA (rm_s_astore_n hx) h
  · exact rm_KK.toA (rm_s_astore hx) h
  · exact rm_KK.toA (rm_s_lstore_n hx) h
  · exact rm_KK.toA (rm_s_lstore hx) h
  · exact rm_KK.toA (rm_s_iinc hx) h
  · exact rm_KK.toA (rm_s_iadd hx) h
  · exact rm_KK.toA (rm_s_isub hx) h
  · exact rm_KK.toA (rm_s_imul hx) h
  · exact rm_KK.toA (rm_s_iand hx hX.2.2.2.2.2) h
  · exact rm_KK.toA (rm_s_ishr hx hX.2.2.2.2.2) h
  · exact rm_KK.toA (rm_s_iushr hx hX.2.2.2.2.2) h
  · exact rm_KK.toA (rm_s_irem hx) h
  · exact rm_KK.toA (rm_s_lcmp hx) h
  · exact rm_KK.toA (rm_s_lushr hx) h
  · exact rm_KK.toA (rm_s_i2l hx) h
  · exact rm_KK.toA (rm_s_i2c hx hX.2.2.2.2.2) h
  · exact rm_KK.toA (rm_s_i2b hx) h
  · exact rm_KK.toA (rm_s_l2i hx) h
  · exact rm_KK.toA (rm_s_dup hx) h
  · exact rm_KK.toA (rm_s_pop hx) h
  · exact rm_KK.toA (rm_s_goto hx) h
  · exact rm_KK.toA (rm_s_if1 hx hX.2.2.2.2.2) h
  · exact rm_KK.toA (rm_s_if2 hx hX.2.2.2.2.2) h
  · exact rm_KR.toA (rm_s_getfA hx hts hX hown hks) h
  · exact rm_KR.toA (rm_s_putf hx hts hX hown hks hini) h
  · exact rm_KR.toA (rm_s_new hx hts hX hown hks) h
  · exact rm_KR.toA (rm_s_newq hx hts hX hown hks) h
  · exact rm_KR.toA (rm_newa_s (t := 0) (ty := .int) (d := .inl (fun _ => 0)) hx hts hX (by decide) ⟨_, rfl⟩ rfl rfl (fun _ z => by cases z) (by decide) (by decide +kernel) (fun _ _ => rfl)) h
  · exact rm_KR.toA (rm_newa_s (t := 1) (ty := .long) (d := .inr (.inl (fun _ => 0))) hx hts hX (by decide) ⟨_, rfl⟩ rfl rfl (fun _ z => by cases z) (by decide) (by decide +kernel) (fun _ _ => rfl)) h
  · exact rm_KR.toA (rm_newa_s (t := 2) (ty := .char) (d := .inl (fun _ => 0)) hx hts hX (by decide) ⟨_, rfl⟩ rfl rfl (fun _ z => by cases z) (by decide) (by decide +kernel) (fun _ _ => rfl)) h
  · exact rm_KR.toA (rm_newa_s (t := 3) (ty := .byte) (d := .inl (fun _ => 0)) hx hts hX (by decide) ⟨_, rfl⟩ rfl rfl (fun _ z => by cases z) (by decide) (by decide +kernel) (fun _ _ => rfl)) h
  · exact rm_KR.toA (rm_newa_s (t := 4) (ty := .boolean) (d := .inl (fun _ => 0)) hx hts hX (by decide) ⟨_, rfl⟩ rfl rfl (fun _ z => by cases z) (by decide) (by decide +kernel) (fun _ _ => rfl)) h
  · exact rm_KR.toA (rm_s_alen hx hX) h
  · exact rm_KR.toA (rm_s_iald hx hX) h
  · exact rm_KR.toA (rm_s_aald hx hX) h
  · exact rm_KR.toA (rm_s_iast hx hX) h
  · exact rm_KR.toA (rm_s_cast hx hX) h
  · exact rm_KR.toA (rm_s_last hx hX) h
  · exact rm_KR.toA (rm_s_aast hx hX) h
  · exact rm_KR.toA (rm_s_ldcA hx hts hX hown hks) h
  · exact rm_KR.toA (rm_s_gets hx hts hX hown hks) h
  · exact rm_KR.toA (rm_s_bald hx hX) h
  · exact rm_KR.toA (rm_s_ldcw hx hts hown hks) h
  · exact rm_KR.toA (rm_s_ldc2 hx hts hown hks) h
  · cases h; exact rm_s_table hx hX.2.2.2.2.2
  · cases h
end RMO
end
section
/-! CALLS, THE LOOP, METHODS -/
/-- a method: its instructions, its links, its locals, what it answers (0 nothing, 1 int, 2 boolean, 3 long, 4 a reference), whether it is a constructor, of which class -/
abbrev rm_M : Type := List (Nat × Instr × Nat) × List rm_K5 × Nat × Nat × Bool × Nat
abbrev rm_Re : Type := Option Value × rm_H × rm_T
abbrev rm_Y : Type := MethodName × ByteArray × Nat × Option FieldType
noncomputable def rm_find (cs : List (Nat × Instr × Nat)) (pc : Nat) : Option (Instr × Nat) := List.rec (motive := fun _ => Option (Instr × Nat)) none (fun q _ ih => cond (Nat.beq q.1 pc) (some q.2) ih) cs
theorem rm_find_mem {cs : List (Nat × Instr × Nat)} {pc : Nat} {k : Instr × Nat} (h : rm_find cs pc = some k) : (pc, k) ∈ cs := by
  induction cs with
  | nil => cases h
  | cons q r ih =>
    have h : cond (Nat.beq q.1 pc) (some q.2) (rm_find r pc) = some k := h
    cases hq : Nat.beq q.1 pc with
    | true =>
      rw [hq] at h
      have e : q.1 = pc := Nat.eq_of_beq_eq_true hq
      have h : some q.2 = some k := h
      cases h
      cases q
      cases e
      exact List.mem_cons_self
    | false =>
      rw [hq] at h
      exact List.mem_cons_of_mem _ (ih h)
def rm_ret (rt : Nat) (i : Instr) (n : Nat) (q : rm_N) : Option rm_Re := match i, q.2.2.1 with
  | .return_, [] => if n = 1 ∧ rt = 0 then some (none, q.2.2.2) else none
  | .ireturn, [.int v] => if n = 1 ∧ (rt = 1 ∨ (rt = 2 ∧ (v = 0 ∨ v = 1)) ∨ (rt = 5 ∧ v = 0)) then some (some (.int v), q.2.2.2) else none
  | .lreturn, [.long v] => if n = 1 ∧ rt = 3 then some (some (.long v), q.2.2.2) else none
  | .areturn, [.ref a] => if n = 1 ∧ rt = 4 then some (some (.ref a), q.2.2.2) else none
  | _, _ => none
def rm_ck : Instr → Option (Nat × Nat)
  | .invokestatic k => some (0, k)
  | .invokevirtual k => some (1, k)
  | .invokespecial k => some (2, k)
  | _ => none
def rm_cs (r : List Value) : Nat := (r.map fun v => v.category).sum
def rm_aft (q : rm_N) (rest : List Value) (res : rm_Re) : rm_N := (q.1 + 3, q.2.1, res.1.toList ++ rest, res.2.1, q.2.2.2.2.1 + res.2.2.1, q.2.2.2.2.2.1 + res.2.2.2.1, res.2.2.2.2)
def rm_invS (call : Nat → List Value → rm_H → List Nat → Option rm_Re) (mi na : Nat) (q : rm_N) : Option rm_N :=
  if na ≤ q.2.2.1.length ∧ rm_cs (q.2.2.1.drop na) ≤ 8 then match call mi (q.2.2.1.take na).reverse q.2.2.2.1 q.2.2.2.2.2.2.1 with
    | some res => some (rm_aft q (q.2.2.1.drop na) res)
    | none => none
  else none
def rm_isObj (h : rm_H) (oc a : Nat) : Bool := match rm_obj h a with
  | some o => decide (o.1 = oc)
  | none => false
def rm_invR (call : Nat → List Value → rm_H → List Nat → Option rm_Re) (chk : Nat → Bool) (mi na : Nat) (q : rm_N) : Option rm_N := match q.2.2.1.drop na with
  | .ref a :: rest => if rm_cs rest ≤ 8 ∧ chk a = true then match call mi (.ref a :: (q.2.2.1.take na).reverse) q.2.2.2.1 q.2.2.2.2.2.2.1 with
      | some res => some (rm_aft q rest res)
      | none => none
    else none
  | _ => none
/-- a method of the text -/
def rm_invF (call : Nat → List Value → rm_H → List Nat → Option rm_Re) (mi na : Nat) (q : rm_N) : Option rm_N := match q.2.2.1.drop na with
  | .retAddr 2 :: rest => if rm_cs rest ≤ 8 then match call mi (.retAddr 2 :: (q.2.2.1.take na).reverse) q.2.2.2.1 q.2.2.2.2.2.2.1 with
      | some res => some (rm_aft q rest res)
      | none => none
    else none
  | _ => none
def rm_nr : Value → Bool
  | .ref _ => false
  | _ => true
def rm_shv (k : Nat) : Value → Value
  | .ref j => .ref (k + j)
  | v => v
def rm_sh (k : Nat) : va_E → va_E
  | .inl a => .inl (a.1, rm_a k a.2)
  | .inr o => .inr (o.1, o.2.map (rm_shv k))
/-- a constructor on the newest cell: it runs in a heap of its own, and what it made is laid behind what was there -/
def rm_invI (call : Nat → List Value → rm_H → List Nat → Option rm_Re) (mi na : Nat) (q : rm_N) : Option rm_N := match q.2.2.1.drop na with
  | .ref a :: rest => match rm_obj q.2.2.2.1 a with
    | some o => if rm_cs rest ≤ 8 ∧ a + 1 = q.2.2.2.1.length ∧ (q.2.2.1.take na).all rm_nr = true ∧ o.2.all rm_nr = true then match call mi (.ref 0 :: (q.2.2.1.take na).reverse) [.inr o] q.2.2.2.2.2.2.1 with
        | some (none, h', t') => some (q.1 + 3, q.2.1, rest, q.2.2.2.1.take a ++ h'.map (rm_sh a), q.2.2.2.2.1 + t'.1, q.2.2.2.2.2.1 + t'.2.1, t'.2.2)
        | _ => none
      else none
    | none => none
  | _ => none
def rm_invO (q : rm_N) : Option rm_N := match q.2.2.1 with
  | .ref _ :: rest => if rm_cs rest ≤ 8 then some (q.1 + 3, q.2.1, rest, q.2.2.2) else none
  | _ => none
def rm_inv (call : Nat → List Value → rm_H → List Nat → Option rm_Re) (P : Nat → rm_M) (kd n : Nat) (k : Option (Nat × Nat × Nat × Nat)) (q : rm_N) : Option rm_N := match n, kd, k with
  | 3, 0, some (3, mi, na, 0) => rm_invS call mi na q
  | 3, 1, some (3, mi, na, 1) => rm_invR call (rm_isObj q.2.2.2.1 (P mi).2.2.2.2.2) mi na q
  | 3, 1, some (3, mi, na, 4) => rm_invF call mi na q
  | 3, 2, some (3, mi, na, 2) => rm_invI call mi na q
  | 3, 2, some (3, _, _, 3) => rm_invO q
  | _, _, _ => none
/-- with all symbolic branches as they should be, so far -/
def rm_t1 (q : rm_N) : rm_N := (q.1, q.2.1, q.2.2.1, q.2.2.2.1, q.2.2.2.2.1, q.2.2.2.2.2.1, q.2.2.2.2.2.2.1, true)
def rm_tk (b : Bool) (q : rm_N) : rm_N := (q.1, q.2.1, q.2.2.1, q.2.2.2.1, q.2.2.2.2.1, q.2.2.2.2.2.1, q.2.2.2.2.2.2.1, q.2.2.2.2.2.2.2 && b)
def rm_ge (q r : rm_N) : Bool := Nat.ble q.2.2.2.2.1 r.2.2.2.2.1 && Nat.ble q.2.2.2.2.2.1 r.2.2.2.2.2.1
def rm_one1 (call : Nat → List Value → rm_H → List Nat → Option rm_Re) (P : Nat → rm_M) (M : rm_M) (L : Nat) (xs : rm_F) (i : Instr) (n : Nat) (q : rm_N) : Option rm_N := match rm_ck i with
  | some kk => rm_inv call P kk.1 n (rm_lk M.2.1 kk.2) q
  | none => match rm_op M.2.2.1 M.2.2.2.2.1 M.2.2.2.2.2 M.2.1 L xs i n with
    | some g => g q
    | none => none
noncomputable def rm_fl {α β : Type} (l : List α) : (List α → β) → β := List.rec (motive := fun _ => (List α → β) → β) (fun k => k []) (fun x _ ih k => ih (fun ys => k (x :: ys))) l
def rm_fn {β : Type} (n : Nat) (k : Nat → β) : β := match n with
  | 0 => k 0
  | m + 1 => k (m + 1)
theorem rm_fl_eq {α β : Type} (l : List α) : ∀ k : List α → β, rm_fl l k = k l := by
  induction l with
  | nil => intro k; rfl
  | cons x l ih => intro k; exact ih (fun ys => k (x :: ys))
theorem rm_fn_eq {β : Type} (n : Nat) (k : Nat → β) : rm_fn n k = k n := by cases n <;> rfl
def rm_mod : Instr → Bool
  | .putfield _ | .new _ | .newarray _ | .anewarray _ | .iastore | .lastore | .castore | .aastore | .invokespecial _ => true
  | _ => false
noncomputable def rm_force {β : Type} (b : Bool) (r : rm_N) (k : rm_N → β) : β := match r with
  | (pc, lv, st, h, uc, us, orc, ok) => rm_fn pc (fun pc => rm_fl lv (fun lv => rm_fl st (fun st => rm_fn uc (fun uc => rm_fn us (fun us => rm_fl orc (fun orc => match b with
    | true => rm_fl h (fun h => k (pc, lv, st, h, uc, us, orc, ok))
    | false => k (pc, lv, st, h, uc, us, orc, ok)))))))
theorem rm_force_eq {β : Type} (b : Bool) (r : rm_N) (k : rm_N → β) : rm_force b r k = k r := by
  obtain ⟨pc, lv, st, h, uc, us, orc, ok⟩ := r
  unfold rm_force
  simp only [rm_fn_eq, rm_fl_eq]
  cases b <;> rfl
noncomputable def rm_body (call : Nat → List Value → rm_H → List Nat → Option rm_Re) (P : Nat → rm_M) (M : rm_M) (L : Nat) (xs : rm_F) (q : rm_N) (ih : rm_N → Option rm_Re) : Option rm_Re := match rm_find M.1 q.1 with
    | none => none
    | some ii => match rm_ret M.2.2.2.1 ii.1 ii.2 q with
      | some res => some res
      | none => match rm_one1 call P M L xs ii.1 ii.2 (rm_t1 q) with
        | some r => cond (rm_ge q r) (rm_force (rm_mod ii.1) (rm_tk q.2.2.2.2.2.2.2 r) ih) none
        | none => none
noncomputable def rm_loop (call : Nat → List Value → rm_H → List Nat → Option rm_Re) (P : Nat → rm_M) (M : rm_M) (L : Nat) (xs : rm_F) (f : Nat) : rm_N → Option rm_Re := Nat.rec (motive := fun _ => rm_N → Option rm_Re) (fun _ => none) (fun _ ih q => rm_body call P M L xs q ih) f
noncomputable def rm_meth (P : Nat → rm_M) (L : Nat) (xs : rm_F) (d : Nat) : Nat → List Value → rm_H → List Nat → Option rm_Re := Nat.rec (motive := fun _ => Nat → List Value → rm_H → List Nat → Option rm_Re) (fun _ _ _ _ => none) (fun _ ih mi av h orc => if (lg_sl av).length ≤ (P mi).2.2.1 then rm_loop ih P (P mi) L xs 3000 (0, lv_args 0 av, [], h, 0, 0, orc, true) else none) d
-- what must hold of the tables
def rm_okN (mt : Nat → rm_Y) (nM mi na : Nat) : Prop := mi < nM ∧ Cond.code (mt mi).1 (mt mi).2.1 (mt mi).2.2.1 (mt mi).2.2.2 ∈ rm_tb ∧ Cond.initialized (mt mi).1.cls ∈ rm_tb ∧ ((mt mi).1.cls ≠ "java/lang/invoke/MethodHandle" ∧ (mt mi).1.cls ≠ "java/lang/invoke/VarHandle" ∧ (parseMethodDescriptor (mt mi).1.desc).map (fun d => d.parameters.length) = some na) ∧ (mt mi).2.2.1 ≤ 45
def rm_okM (mt : Nat → rm_Y) (P : Nat → rm_M) (nM : Nat) (own : String) (k : rm_K5) : Prop := match k with
  | (i, 3, mi, na, 0) => Cond.methodLink own i (mt mi).1 ∈ rm_tb ∧ Cond.static (mt mi).1 ∈ rm_tb ∧ rm_okN mt nM mi na
  | (i, 3, mi, na, 1) => Cond.methodLink own i (mt mi).1 ∈ rm_tb ∧ Cond.instanceMethod (mt mi).1 ∈ rm_tb ∧ Cond.selects (mt mi).1.cls (mt mi).1 (mt mi).1 ∈ rm_tb ∧ (∃ q, vwCl[(P mi).2.2.2.2.2]? = some q ∧ q.1 = (mt mi).1.cls) ∧ rm_okN mt nM mi na
  | (i, 3, mi, na, 2) => Cond.methodLink own i (mt mi).1 ∈ rm_tb ∧ Cond.instanceMethod (mt mi).1 ∈ rm_tb ∧ (mt mi).1.name = "<init>" ∧ (mt mi).2.2.2 = none ∧ rm_okN mt nM mi na
  | (i, 3, mi, na, 4) => Cond.methodLink own i (mt mi).1 ∈ rm_tb ∧ Cond.instanceMethod (mt mi).1 ∈ rm_tb ∧ Cond.selects (mt mi).1.cls (mt mi).1 (mt mi).1 ∈ rm_tb ∧ (mt mi).1.cls = "java/lang/String" ∧ rm_okN mt nM mi na
  | (i, 3, _, _, _) => Cond.methodLink own i objectInit ∈ rm_tb ∧ Cond.instanceMethod objectInit ∈ rm_tb ∧ Cond.code objectInit ⟨#[0xb1]⟩ 1 none ∈ rm_tb
  | _ => True
def rm_rm (d mc ms : Nat) : Room := { frames := d + 1, cells := mc, slots := ms, locals := 64 * (d + 1) }
def rm_Pc (D : va_G) (cA : Nat → ClassId) (sz : Nat) (ext : Nat → Nat) (L : Nat) (xs : rm_F) (av : List Value) (h : rm_H) : Array Value → State → Prop := va_Pc (av.map (rm_v sz ext)) (fun U => rm_R D sz ext cA h U.heap ∧ rm_X D cA sz ext L xs U)
def rm_Qc (D : va_G) (cA : Nat → ClassId) (sz : Nat) (ext : Nat → Nat) (res : rm_Re) : Array Value → State → Outcome → State → Prop := fun _ st oc t => oc = .returned (res.1.map (rm_v sz ext)) ∧ rm_R D sz ext cA res.2.1 t.heap ∧ ∀ q : Nat, q < sz → t.heap[q]? = st.heap[q]?
def rm_Mt (l : Launch) (D : va_G) (cA : Nat → ClassId) (sz : Nat) (ext : Nat → Nat) (L : Nat) (xs : rm_F) (mt : Nat → rm_Y) (d mi : Nat) (av : List Value) (h : rm_H) (res : rm_Re) : Prop :=
  Met l (mt mi).1 (Cond.code (mt mi).1 (mt mi).2.1 (mt mi).2.2.1 (mt mi).2.2.2 :: rm_tb) (rm_rm d res.2.2.1 res.2.2.2.1) (rm_Pc D cA sz ext L xs av h) (rm_Qc D cA sz ext res) res.2.2.1 res.2.2.2.1 (fun a => sz ≤ a)
theorem rm_X.same {D : va_G} {cA : Nat → ClassId} {sz : Nat} {ext : Nat → Nat} {L : Nat} {xs : rm_F} {u U : State} (hX : rm_X D cA sz ext L xs u) (e1 : u.vm = U.vm) (e2 : U.heap = u.heap) : rm_X D cA sz ext L xs U := by
  obtain ⟨h1, h2, h3, h4, ⟨h5, k1, k2, k3⟩, h7⟩ := hX
  have hal : u.vm.Alike U.vm := by rw [e1]; exact Vm.Alike.refl _
  exact ⟨h1.moved hal, fun t C h => (h2 t C h).moved hal, fun w hw => rm_nest_same hw e1 (h3 w hw), fun hL => by obtain ⟨ys, g4, g6⟩ := h4 hL; exact ⟨ys, (g4.moved hal).kept (by rw [e2]), g6⟩, ⟨h5, k1.same e1.symm, (k2.moved hal).kept (fun a _ _ => by rw [e2]), (k3.moved hal).kept (fun a _ _ => by rw [e2])⟩, h7⟩
theorem rm_X.go {D : va_G} {cA : Nat → ClassId} {sz : Nat} {ext : Nat → Nat} {L : Nat} {xs : rm_F} {s U : State} (hX : rm_X D cA sz ext L xs s) (hW : s.WarmedH U.vm) (e2 : ∀ q : Nat, q < sz → U.heap[q]? = s.heap[q]?) : rm_X D cA sz ext L xs U := by
  obtain ⟨h1, h2, h3, h4, ⟨h5, k1, k2, k3⟩, h7⟩ := hX
  exact ⟨h1.moved hW.alike, fun t C h => (h2 t C h).moved hW.alike, fun w hw => rm_nest_warm hw hW (h3 w hw), fun hL => by obtain ⟨ys, g4, g6⟩ := h4 hL; exact ⟨ys, (g4.moved hW.alike).kept (e2 _ h5), g6⟩, ⟨h5, k1.warm hW, (k2.moved hW.alike).kept (fun a _ h => e2 a (Nat.lt_of_not_le h)), (k3.moved hW.alike).kept (fun a _ h => e2 a (Nat.lt_of_not_le h))⟩, h7⟩
theorem rm_blind {D : va_G} {cA : Nat → ClassId} {sz : Nat} {ext : Nat → Nat} {L : Nat} {xs : rm_F} {av : List Value} {h : rm_H} : FrameBlind (rm_Pc D cA sz ext L xs av h) := fun a U g mk q => ⟨q.1, q.2.1, rm_X.same (U := U.calling g mk a) q.2.2 rfl rfl⟩
theorem rm_good {mt : Nat → rm_Y} {mi : Nat} (h : Cond.code (mt mi).1 (mt mi).2.1 (mt mi).2.2.1 (mt mi).2.2.2 ∈ rm_tb) : GoodIn rm_tb (Cond.code (mt mi).1 (mt mi).2.1 (mt mi).2.2.1 (mt mi).2.2.2 :: rm_tb) := by
  intro w hw
  have hw : w ∈ rm_tb := by
    rcases List.mem_cons.mp hw with rfl | hw
    · exact h
    · exact hw
  exact ⟨hw, good_of_word (rm_tb_good w hw)⟩
theorem rm_cs_map (sz : Nat) (ext : Nat → Nat) (r : List Value) : ((r.map (rm_v sz ext)).map fun v => v.category).sum = rm_cs r := by
  unfold rm_cs
  rw [List.map_map]
  congr 2
  funext v
  exact rm_v_cat sz ext v
section RMC
variable {p : Program} {l : Launch} {e : Env} {R : Room} {s : State} {m : MethodId} {args : Array Value} {below : List Frame} {meth : Method} {c : Code} {Q : State → Prop}
variable {nL sz : Nat} {ext : Nat → Nat} {cA : Nat → ClassId} {D : va_G} {own : String} {L : Nat} {xs : rm_F} {ks : List rm_K5} {mt : Nat → rm_Y} {P : Nat → rm_M} {nM d : Nat}
theorem rm_call {H : Heap} {locs : List Loc} {cells slots mc ms pc : Nat} {ls : Array Slot} {st0 rest : List Value} {a : Array Value} {res : rm_Re} (hr : va_Run p l e R s m args below meth c H locs cells slots mc ms (F0 m pc ls st0) rest (rm_Qc D cA sz ext res a) (fun a => sz ≤ a)) (hS : rm_S sz s.heap H locs)
    (kk : ∀ (H1 : Heap) (locs1 : List Loc), rm_R D sz ext cA res.2.1 H1 → rm_S sz s.heap H1 locs1 → W p l e R s m args below meth c H1 locs1 (cells + mc) (slots + ms) Q (F0 m (pc + 3) ls ((res.1.map (rm_v sz ext)).toList ++ rest))) : W p l e R s m args below meth c H locs cells slots Q (F0 m pc ls st0) := by
  intro T hT X
  obtain ⟨v, st₀, t, T', L9, h0, X', hL, e1, e2, ⟨hv, hR1, hk⟩, st⟩ := hr T hT X
  cases hv
  obtain ⟨t2, a1, b1⟩ := kk T'.heap (locs ++ L9) (by rw [e1]; exact hR1) ⟨fun q hq => by rw [e1, hk q hq, h0]; exact hS.1 q hq, fun q hq => by
    rcases List.mem_append.mp hq with h | h
    · exact hS.2 q h
    · exact hL q h⟩ T' rfl X'
  exact ⟨t2, st t2 a1, b1⟩
theorem rm_toList (sz : Nat) (ext : Nat → Nat) (v : Option Value) (r : List Value) : (v.toList ++ r).map (rm_v sz ext) = (v.map (rm_v sz ext)).toList ++ r.map (rm_v sz ext) := by
  rw [List.map_append]
  cases v <;> rfl
theorem rm_invS_s (hx : p.tables.exec = Jvm.exec) (hml : c.maxLocals = nL) (hts : ∀ w ∈ rm_tb, w.before args s = true) (hX : rm_X D cA sz ext L xs s) (hown : s.vm.findClass own = some m.cls) (hfr : d + 2 ≤ R.frames) (hlo : 64 * (d + 2) ≤ R.locals) {call : Nat → List Value → rm_H → List Nat → Option rm_Re}
    (Hcall : ∀ (z mi : Nat) (av : List Value) (h : rm_H) (orc : List Nat) (res : rm_Re), call mi av h orc = some res → res.2.2.2.2.2 = true → mi < nM → rm_Mt l D cA z ext L xs mt d mi av h res) {i mi na : Nat} (hok : rm_okM mt P nM own (i, 3, mi, na, 0)) : rm_KA p l e R s m args below meth c Q nL sz ext cA D (.invokestatic i) 3 (rm_invS call mi na) := by
  intro q r hd hf ho hc1 hc2 K ls H locs hl hR hS
  unfold rm_invS at hf
  split at hf
  · rename_i hn
    split at hf
    · rename_i res hres
      cases hf
      obtain ⟨k1, k2, n1, n2, n3, n4, n5⟩ := hok
      have hM := Hcall sz _ _ _ _ _ hres ho n1
      have est : q.2.2.1.map (rm_v sz ext) = (((q.2.2.1.take na).reverse).map (rm_v sz ext)).reverse ++ (q.2.2.1.drop na).map (rm_v sz ext) := by
        rw [List.map_reverse, List.reverse_reverse, ← List.map_append, List.take_append_drop]
      refine rm_call (va_runS (As := ((q.2.2.1.take na).reverse).map (rm_v sz ext)) (rest := (q.2.2.1.drop na).map (rm_v sz ext)) (n := na) (Ts := rm_tb) ⟨hx, rfl, hml, hown, hts⟩ hM (va_cwS na hts (fun w hw => ?_) rfl rfl rfl n4 ⟨by show d + 1 + 1 ≤ _; omega, by show 8 + (_ + 11) + 64 * (d + 1) ≤ _; omega⟩) ⟨rm_blind, fun U hU hW => ⟨rfl, by rw [hU]; exact hR, hX.go hW (fun z hz => by rw [hU]; exact hS.1 z hz)⟩⟩ rfl ?_ hl.1 est (lv_room ?_) hd ⟨hc1, hc2⟩) hS ?_
      · unfold va_wsS at hw
        rcases List.mem_append.mp hw with hw | hw
        · simp only [List.mem_cons, List.not_mem_nil, or_false] at hw
          rcases hw with rfl | rfl | rfl
          · exact ⟨k1, good_of_word (rm_tb_good _ k1)⟩
          · exact ⟨k2, good_of_word (rm_tb_good _ k2)⟩
          · exact ⟨n3, good_of_word (rm_tb_good _ n3)⟩
        · exact rm_good n2 w hw
      · rw [List.length_map, List.length_reverse, List.length_take]; omega
      · rw [rm_cs_map]; exact hn.2
      · intro H1 locs1 h1 h2
        have hk := K ls H1 locs1 hl h1 h2
        unfold rm_aft at hk
        dsimp only at hk
        rw [rm_toList] at hk
        exact hk
    · cases hf
  · cases hf
theorem rm_invV_s (hx : p.tables.exec = Jvm.exec) (hml : c.maxLocals = nL) (hts : ∀ w ∈ rm_tb, w.before args s = true) (hX : rm_X D cA sz ext L xs s) (hown : s.vm.findClass own = some m.cls) (hfr : d + 2 ≤ R.frames) (hlo : 64 * (d + 2) ≤ R.locals) {call : Nat → List Value → rm_H → List Nat → Option rm_Re}
    (Hcall : ∀ (z mi : Nat) (av : List Value) (h : rm_H) (orc : List Nat) (res : rm_Re), call mi av h orc = some res → res.2.2.2.2.2 = true → mi < nM → rm_Mt l D cA z ext L xs mt d mi av h res) {i mi na : Nat} (hok : rm_okM mt P nM own (i, 3, mi, na, 1)) : rm_KA p l e R s m args below meth c Q nL sz ext cA D (.invokevirtual i) 3 (fun q => rm_invR call (rm_isObj q.2.2.2.1 (P mi).2.2.2.2.2) mi na q) := by
  intro q r hd hf ho hc1 hc2 K ls H locs hl hR hS
  unfold rm_invR at hf
  dsimp only at hf
  split at hf
  · rename_i a rest hst
    split at hf
    · rename_i hn
      split at hf
      · rename_i res hres
        cases hf
        obtain ⟨k1, k2, k3, ⟨vq, k4, k5⟩, n1, n2, n3, n4, n5⟩ := hok
        have hM := Hcall sz _ _ _ _ _ hres ho n1
        have hlen : (q.2.2.1.take na).length = na := by
          have : (q.2.2.1.drop na).length ≠ 0 := by rw [hst]; simp
          rw [List.length_drop] at this
          rw [List.length_take]; omega
        have est : q.2.2.1.map (rm_v sz ext) = (((q.2.2.1.take na).reverse).map (rm_v sz ext)).reverse ++ .ref (sz + a) :: rest.map (rm_v sz ext) := by
          have e0 : q.2.2.1 = q.2.2.1.take na ++ .ref a :: rest := by rw [← hst, List.take_append_drop]
          rw [List.map_reverse, List.reverse_reverse]
          conv => lhs; rw [e0]
          rw [List.map_append]; rfl
        have hobj : ∃ o, rm_obj q.2.2.2.1 a = some o ∧ o.1 = (P mi).2.2.2.2.2 := by
          have z := hn.2
          unfold rm_isObj at z
          split at z
          · rename_i o ho9; exact ⟨o, ho9, by simpa using z⟩
          · cases z
        obtain ⟨o, ho1, ho2⟩ := hobj
        obtain ⟨ci, fs⟩ := o
        have ho2 : ci = (P mi).2.2.2.2.2 := ho2
        subst ho2
        refine rm_call (va_runV (As := ((q.2.2.1.take na).reverse).map (rm_v sz ext)) (rest := rest.map (rm_v sz ext)) (n := na) (Ts := rm_tb) (C := (mt mi).1.cls) (b := sz + a) ⟨hx, rfl, hml, hown, hts⟩ hM (cwV na hts (fun w hw => ?_) rfl rfl rfl ⟨rfl, n4⟩ ⟨by show d + 1 + 1 ≤ _; omega, by show 8 + (_ + 11) + 64 * (d + 1) ≤ _; omega⟩) ⟨rm_blind, ?_, fun U hU hW => ⟨rfl, by rw [hU]; exact hR, hX.go hW (fun z hz => by rw [hU]; exact hS.1 z hz)⟩⟩ rfl ?_ hl.1 est (lv_room ?_) hd ⟨hc1, hc2⟩) hS ?_
        · unfold wsV at hw
          rcases List.mem_append.mp hw with hw | hw
          · simp only [List.mem_cons, List.not_mem_nil, or_false] at hw
            rcases hw with rfl | rfl | rfl | rfl
            · exact ⟨k1, good_of_word (rm_tb_good _ k1)⟩
            · exact ⟨k2, good_of_word (rm_tb_good _ k2)⟩
            · exact ⟨k3, good_of_word (rm_tb_good _ k3)⟩
            · exact ⟨n3, good_of_word (rm_tb_good _ n3)⟩
          · exact rm_good n2 w hw
        · rw [← k5]
          exact va_recv hX.1 (rm_oneO hR (rm_obj_ok ho1)) (q0 := 0) k4 rfl
        · rw [List.length_map, List.length_reverse]; exact hlen
        · rw [rm_cs_map]; exact hn.1
        · intro H1 locs1 h1 h2
          have hk := K ls H1 locs1 hl h1 h2
          unfold rm_aft at hk
          dsimp only at hk
          rw [rm_toList] at hk
          exact hk
      · cases hf
    · cases hf
  · cases hf
theorem rm_invF_s (hx : p.tables.exec = Jvm.exec) (hml : c.maxLocals = nL) (hts : ∀ w ∈ rm_tb, w.before args s = true) (hX : rm_X D cA sz ext L xs s) (hown : s.vm.findClass own = some m.cls) (hfr : d + 2 ≤ R.frames) (hlo : 64 * (d + 2) ≤ R.locals) {call : Nat → List Value → rm_H → List Nat → Option rm_Re}
    (Hcall : ∀ (z mi : Nat) (av : List Value) (h : rm_H) (orc : List Nat) (res : rm_Re), call mi av h orc = some res → res.2.2.2.2.2 = true → mi < nM → rm_Mt l D cA z ext L xs mt d mi av h res) {i mi na : Nat} (hok : rm_okM mt P nM own (i, 3, mi, na, 4)) : rm_KA p l e R s m args below meth c Q nL sz ext cA D (.invokevirtual i) 3 (rm_invF call mi na) := by
  intro q r hd hf ho hc1 hc2 K ls H locs hl hR hS
  unfold rm_invF at hf
  split at hf
  · rename_i rest hst
    split at hf
    · rename_i hn
      split at hf
      · rename_i res hres
        cases hf
        obtain ⟨k1, k2, k3, k5, n1, n2, n3, n4, n5⟩ := hok
        have hM := Hcall sz _ _ _ _ _ hres ho n1
        have hlen : (q.2.2.1.take na).length = na := by
          have : (q.2.2.1.drop na).length ≠ 0 := by rw [hst]; simp
          rw [List.length_drop] at this
          rw [List.length_take]; omega
        have est : q.2.2.1.map (rm_v sz ext) = (((q.2.2.1.take na).reverse).map (rm_v sz ext)).reverse ++ .ref (ext 2) :: rest.map (rm_v sz ext) := by
          have e0 : q.2.2.1 = q.2.2.1.take na ++ .retAddr 2 :: rest := by rw [← hst, List.take_append_drop]
          rw [List.map_reverse, List.reverse_reverse]
          conv => lhs; rw [e0]
          rw [List.map_append]; rfl
        refine rm_call (va_runV (As := ((q.2.2.1.take na).reverse).map (rm_v sz ext)) (rest := rest.map (rm_v sz ext)) (n := na) (Ts := rm_tb) (C := (mt mi).1.cls) (b := ext 2) ⟨hx, rfl, hml, hown, hts⟩ hM (cwV na hts (fun w hw => ?_) rfl rfl rfl ⟨rfl, n4⟩ ⟨by show d + 1 + 1 ≤ _; omega, by show 8 + (_ + 11) + 64 * (d + 1) ≤ _; omega⟩) ⟨rm_blind, ?_, fun U hU hW => ⟨rfl, by rw [hU]; exact hR, hX.go hW (fun z hz => by rw [hU]; exact hS.1 z hz)⟩⟩ rfl ?_ hl.1 est (lv_room ?_) hd ⟨hc1, hc2⟩) hS ?_
        · unfold wsV at hw
          rcases List.mem_append.mp hw with hw | hw
          · simp only [List.mem_cons, List.not_mem_nil, or_false] at hw
            rcases hw with rfl | rfl | rfl | rfl
            · exact ⟨k1, good_of_word (rm_tb_good _ k1)⟩
            · exact ⟨k2, good_of_word (rm_tb_good _ k2)⟩
            · exact ⟨k3, good_of_word (rm_tb_good _ k3)⟩
            · exact ⟨n3, good_of_word (rm_tb_good _ n3)⟩
          · exact rm_good n2 w hw
        · rw [k5]
          obtain ⟨hv, -⟩ := hX.2.2.2.2.1.2.2.1.1 0 (by decide)
          obtain ⟨cell, g1, g2, g3, -⟩ := hv.kept (rm_hq hS)
          exact ⟨cell, g1, g2, g3⟩
        · rw [List.length_map, List.length_reverse]; exact hlen
        · rw [rm_cs_map]; exact hn
        · intro H1 locs1 h1 h2
          have hk := K ls H1 locs1 hl h1 h2
          unfold rm_aft at hk
          dsimp only at hk
          rw [rm_toList] at hk
          exact hk
      · cases hf
    · cases hf
  · cases hf
theorem rm_nr_v {v : Value} (h : rm_nr v = true) (z : Nat) : rm_v (sz + z) ext v = rm_v sz ext v := by cases v <;> first | rfl | cases h
theorem rm_nr_map {vs : List Value} (h : vs.all rm_nr = true) (z : Nat) : vs.map (rm_v (sz + z) ext) = vs.map (rm_v sz ext) :=
  List.map_congr_left (fun v hv => rm_nr_v (List.all_eq_true.mp h v hv) z)
theorem rm_sh_c (z : Nat) (x : va_E) : rm_c sz ext cA (rm_sh z x) = rm_c (sz + z) ext cA x := by
  cases x with
  | inl a =>
    obtain ⟨t, n, d⟩ := a
    obtain d | d | d | d | d := d
    · rfl
    · rfl
    · rfl
    · rfl
    · show Sum.inl (cA t, n, _) = Sum.inl (cA t, n, _)
      congr 7
      funext j
      show ((d j).map (fun k => z + k)).map (fun k => sz + k) = (d j).map (fun k => sz + z + k)
      cases d j with
      | none => rfl
      | some k => exact congrArg some (Nat.add_assoc sz z k).symm
  | inr o =>
    obtain ⟨ci, fs⟩ := o
    show Sum.inr (ci, (fs.map (rm_shv z)).map (rm_v sz ext)) = Sum.inr (ci, fs.map (rm_v (sz + z) ext))
    rw [List.map_map]
    congr 3
    funext v
    cases v <;> first | rfl | exact congrArg Value.ref (Nat.add_assoc sz z _).symm
theorem rm_sh_at {H : Heap} (z k : Nat) (x : va_E) (h : rm_at1 D (sz + z) ext cA k x H) : rm_at1 D sz ext cA (z + k) (rm_sh z x) H := by
  have ea : sz + z + k = sz + (z + k) := Nat.add_assoc sz z k
  cases x with
  | inl a =>
    obtain ⟨t, n, d⟩ := a
    obtain d | d | d | d | d := d
    · have h : va_at D vwCl (sz + z + k, rm_c (sz + z) ext cA (.inl (t, n, .inl d))) H := h
      rw [ea, ← rm_sh_c] at h
      exact h
    · have h : va_at D vwCl (sz + z + k, rm_c (sz + z) ext cA (.inl (t, n, .inr (.inl d)))) H := h
      rw [ea, ← rm_sh_c] at h
      exact h
    · have h : rm_hv D cA (sz + z + k) t n H := h
      rw [ea] at h
      exact h
    · have h : va_at D vwCl (sz + z + k, rm_c (sz + z) ext cA (.inl (t, n, .inr (.inr (.inr (.inl d)))))) H := h
      rw [ea, ← rm_sh_c] at h
      exact h
    · have h : va_at D vwCl (sz + z + k, rm_c (sz + z) ext cA (.inl (t, n, .inr (.inr (.inr (.inr d)))))) H := h
      rw [ea, ← rm_sh_c] at h
      exact h
  | inr o =>
    have h : va_at D vwCl (sz + z + k, rm_c (sz + z) ext cA (.inr o)) H := h
    rw [ea, ← rm_sh_c] at h
    exact h
theorem rm_invI_s (hx : p.tables.exec = Jvm.exec) (hml : c.maxLocals = nL) (hts : ∀ w ∈ rm_tb, w.before args s = true) (hX : rm_X D cA sz ext L xs s) (hown : s.vm.findClass own = some m.cls) (hfr : d + 2 ≤ R.frames) (hlo : 64 * (d + 2) ≤ R.locals) {call : Nat → List Value → rm_H → List Nat → Option rm_Re}
    (Hcall : ∀ (z mi : Nat) (av : List Value) (h : rm_H) (orc : List Nat) (res : rm_Re), call mi av h orc = some res → res.2.2.2.2.2 = true → mi < nM → rm_Mt l D cA z ext L xs mt d mi av h res) {i mi na : Nat} (hok : rm_okM mt P nM own (i, 3, mi, na, 2)) : rm_KA p l e R s m args below meth c Q nL sz ext cA D (.invokespecial i) 3 (rm_invI call mi na) := by
  intro q r hd hf ho hc1 hc2 K ls H locs hl hR hS
  unfold rm_invI at hf
  split at hf
  · rename_i a rest hst
    split at hf
    · rename_i o hobj
      split at hf
      · rename_i hn
        split at hf
        · rename_i h' t' hres
          cases hf
          obtain ⟨k1, k2, k3, k4, n1, n2, n3, n4, n5⟩ := hok
          have hM := Hcall (sz + a) _ _ _ _ _ hres ho n1
          have hlen : (q.2.2.1.take na).length = na := by
            have : (q.2.2.1.drop na).length ≠ 0 := by rw [hst]; simp
            rw [List.length_drop] at this
            rw [List.length_take]; omega
          have hnr : ((q.2.2.1.take na).reverse).all rm_nr = true := by rw [List.all_reverse]; exact hn.2.2.1
          have est : q.2.2.1.map (rm_v sz ext) = (((q.2.2.1.take na).reverse).map (rm_v (sz + a) ext)).reverse ++ .ref (sz + a) :: rest.map (rm_v sz ext) := by
            have e0 : q.2.2.1 = q.2.2.1.take na ++ .ref a :: rest := by rw [← hst, List.take_append_drop]
            rw [rm_nr_map hnr, List.map_reverse, List.reverse_reverse]
            conv => lhs; rw [e0]
            rw [List.map_append]; rfl
          have h0 := rm_obj_ok hobj
          have hn1 : a + 1 = List.length q.2.2.2.1 := hn.2.1
          have hR1 : rm_R D (sz + a) ext cA [.inr o] H := by
            refine ⟨by rw [hR.1, ← hn1]; show sz + _ = sz + a + 1; omega, fun k x hk => ?_⟩
            cases k with
            | succ k => simp at hk
            | zero =>
              cases hk
              have z : va_at D vwCl (sz + a, .inr (o.1, o.2.map (rm_v sz ext))) H := hR.2 _ _ h0
              show va_at D vwCl (sz + a, .inr (o.1, o.2.map (rm_v (sz + a) ext))) H
              rw [rm_nr_map hn.2.2.2]
              exact z
          have hX1 : ∀ U : State, U.heap = H → s.WarmedH U.vm → rm_X D cA (sz + a) ext L xs U := fun U hU hW => by
            have z := hX.go hW (fun z hz => by rw [hU]; exact hS.1 z hz)
            exact ⟨z.1, z.2.1, z.2.2.1, z.2.2.2.1, ⟨Nat.lt_of_lt_of_le z.2.2.2.2.1.1 (Nat.le_add_right sz a), z.2.2.2.2.1.2.1, z.2.2.2.2.1.2.2.1.narrow (fun q hq => Nat.le_trans (Nat.le_add_right sz a) hq), z.2.2.2.2.1.2.2.2.narrow (fun q hq => Nat.le_trans (Nat.le_add_right sz a) hq)⟩, z.2.2.2.2.2⟩
          unfold rm_Mt at hM
          have hg := rm_good n2
          rw [k4] at hM hg
          have hrun := va_runI (p := p) (l := l) (e := e) (R := R) (s := s) (m := m) (args := args) (below := below) (meth := meth) (c := c) (H := H) (locs := locs) (cells := q.2.2.2.2.1) (slots := q.2.2.2.2.2.1) (g := F0 m q.1 ls (q.2.2.1.map (rm_v sz ext))) (As := ((q.2.2.1.take na).reverse).map (rm_v (sz + a) ext)) (rest := rest.map (rm_v sz ext)) (n := na) (Ts := rm_tb) (b := sz + a) ⟨hx, rfl, hml, hown, hts⟩ hM (cwI na hts hg rfl rfl rfl (hts _ n3) (hts _ k1) (hts _ k2) k3 n4 ⟨by show d + 1 + 1 ≤ _; omega, by show 8 + (_ + 11) + 64 * (d + 1) ≤ _; omega⟩) ⟨rm_blind, fun U hU hW => ⟨rfl, by rw [hU]; exact hR1, hX1 U hU hW⟩⟩ rfl (by rw [List.length_map, List.length_reverse]; exact hlen) hl.1 est (lv_room (by rw [rm_cs_map]; exact hn.1)) hd ⟨hc1, hc2⟩
          intro T hT X
          obtain ⟨v, st₀, t, T', L9, g0, X', hL, e1, e2, ⟨hv, hR2, hk⟩, st⟩ := hrun T hT X
          cases hv
          have hRn : rm_R D sz ext cA (q.2.2.2.1.take a ++ h'.map (rm_sh a)) T'.heap := by
            have hla : (q.2.2.2.1.take a).length = a := by rw [List.length_take, ← hn1]; omega
            refine ⟨by rw [e1, hR2.1, List.length_append, List.length_map, hla]; show sz + a + h'.length = _; omega, fun k x hkx => ?_⟩
            by_cases hka : k < a
            · rw [List.getElem?_append_left (by omega), List.getElem?_take_of_lt hka] at hkx
              refine (hR.2 k x hkx).kept ?_
              show T'.heap[sz + k]? = H[sz + k]?
              rw [e1, hk (sz + k) (by omega), g0]
            · rw [List.getElem?_append_right (by omega), hla, List.getElem?_map] at hkx
              cases hy : h'[k - a]? with
              | none => rw [hy] at hkx; cases hkx
              | some y =>
                rw [hy] at hkx
                cases hkx
                have z := rm_sh_at a (k - a) y (hR2.2 (k - a) y hy)
                have ez : a + (k - a) = k := Nat.add_sub_cancel' (Nat.le_of_not_lt hka)
                rw [ez] at z
                rw [e1]
                exact z
          obtain ⟨t2, a1, b1⟩ := K ls T'.heap (locs ++ L9) hl hRn ⟨fun z hz => by rw [e1, hk z (by omega), g0]; exact hS.1 z hz, fun z hz => by
            rcases List.mem_append.mp hz with h9 | h9
            · exact hS.2 z h9
            · exact Nat.le_trans (Nat.le_add_right sz a) (hL z h9)⟩ T' rfl X'
          exact ⟨t2, st t2 a1, b1⟩
        · cases hf
      · cases hf
    · cases hf
  · cases hf
theorem rm_invO_s (hx : p.tables.exec = Jvm.exec) (hml : c.maxLocals = nL) (hts : ∀ w ∈ rm_tb, w.before args s = true) (hown : s.vm.findClass own = some m.cls) (hfr : d + 2 ≤ R.frames) (hlo : 64 * (d + 2) ≤ R.locals) {i mi na : Nat} (hok : rm_okM mt P nM own (i, 3, mi, na, 3)) : rm_KA p l e R s m args below meth c Q nL sz ext cA D (.invokespecial i) 3 rm_invO := by
  intro q r hd hf ho hc1 hc2 K ls H locs hl hR hS
  unfold rm_invO at hf
  split at hf
  · rename_i a rest hst
    split at hf
    · rename_i hn
      cases hf
      obtain ⟨k1, k2, k3⟩ := hok
      have hk := K ls H locs hl hR hS
      rw [hst]
      refine W.objInit hx rfl hown (hts _ k1) (hts _ k2) (hts _ k3) rfl (by rw [hml]; exact hl.1) rfl hd (by omega) ?_ hk
      show 2 * 0 + _ + 12 ≤ _
      rw [rm_cs_map]
      omega
    · cases hf
  · cases hf
end RMC
end
section
/-! THE LOOP AND THE METHODS ARE SOUND -/
def rm_rt (rt : Nat) (ret : Option FieldType) : Prop := match rt with
  | 0 => ret = none
  | 1 => ret = some .int
  | 2 => ret = some .boolean
  | 3 => ret = some .long
  | 4 => ∃ n, ret = some (.object n)
  | 5 => ret = some .byte
  | _ => False
/-- a method of the table is as the claim's tables have it -/
def rm_okP (mt : Nat → rm_Y) (P : Nat → rm_M) (nM mi : Nat) : Prop :=
  (∀ q ∈ (P mi).1, decode (mt mi).2.1 q.1 = .ok (q.2.1, q.2.2)) ∧ (∀ k ∈ (P mi).2.1, rm_okK (mt mi).1.cls k ∧ rm_okM mt P nM (mt mi).1.cls k) ∧ (P mi).2.2.1 = (mt mi).2.2.1 ∧ rm_rt (P mi).2.2.2.1 (mt mi).2.2.2 ∧ ((P mi).2.2.2.2.1 = true → (mt mi).1.name = "<init>" ∧ ∃ q, vwCl[(P mi).2.2.2.2.2]? = some q ∧ q.1 = (mt mi).1.cls) ∧ plainFor (mt mi).1 = true
section RML
variable {p : Program} {l : Launch} {e : Env} {R : Room} {s : State} {m : MethodId} {args : Array Value} {below : List Frame} {meth : Method} {c : Code} {Q : State → Prop}
variable {sz : Nat} {ext : Nat → Nat} {cA : Nat → ClassId} {D : va_G} {own : String} {L : Nat} {xs : rm_F} {mt : Nat → rm_Y} {P : Nat → rm_M} {nM d : Nat} {M : rm_M}
theorem rm_one_s (hx : p.tables.exec = Jvm.exec) (hml : c.maxLocals = M.2.2.1) (hts : ∀ w ∈ rm_tb, w.before args s = true) (hX : rm_X D cA sz ext L xs s) (hown : s.vm.findClass own = some m.cls) (hks : ∀ k ∈ M.2.1, rm_okK own k ∧ rm_okM mt P nM own k) (hini : M.2.2.2.2.1 = true → meth.name = "<init>" ∧ ∃ q, vwCl[M.2.2.2.2.2]? = some q ∧ q.1 = own) (hfr : d + 2 ≤ R.frames) (hlo : 64 * (d + 2) ≤ R.locals) {call : Nat → List Value → rm_H → List Nat → Option rm_Re}
    (Hcall : ∀ (z mi : Nat) (av : List Value) (h : rm_H) (orc : List Nat) (res : rm_Re), call mi av h orc = some res → res.2.2.2.2.2 = true → mi < nM → rm_Mt l D cA z ext L xs mt d mi av h res) {i : Instr} {n : Nat} : rm_KA p l e R s m args below meth c Q M.2.2.1 sz ext cA D i n (rm_one1 call P M L xs i n) := by
  intro q r hd hf ho hc1 hc2 K
  unfold rm_one1 at hf
  split at hf
  · rename_i kk hkk
    unfold rm_inv at hf
    split at hf
    · rename_i mi na hk1 hk2
      have hok := (hks _ (rm_lk_mem hk2)).2
      cases i <;> first | (cases hkk; done) | skip
      all_goals (cases hkk; first | (cases hk1; done) | skip)
      exact rm_invS_s hx hml hts hX hown hfr hlo Hcall hok q r hd hf ho hc1 hc2 K
    · rename_i mi na hk1 hk2
      have hok := (hks _ (rm_lk_mem hk2)).2
      cases i <;> first | (cases hkk; done) | skip
      all_goals (cases hkk; first | (cases hk1; done) | skip)
      exact rm_invV_s hx hml hts hX hown hfr hlo Hcall hok q r hd hf ho hc1 hc2 K
    · rename_i mi na hk1 hk2
      have hok := (hks _ (rm_lk_mem hk2)).2
      cases i <;> first | (cases hkk; done) | skip
      all_goals (cases hkk; first | (cases hk1; done) | skip)
      exact rm_invF_s hx hml hts hX hown hfr hlo Hcall hok q r hd hf ho hc1 hc2 K
    · rename_i mi na hk1 hk2
      have hok := (hks _ (rm_lk_mem hk2)).2
      cases i <;> first | (cases hkk; done) | skip
      all_goals (cases hkk; first | (cases hk1; done) | skip)
      exact rm_invI_s hx hml hts hX hown hfr hlo Hcall hok q r hd hf ho hc1 hc2 K
    · rename_i mi na hk1 hk2
      have hok := (hks _ (rm_lk_mem hk2)).2
      cases i <;> first | (cases hkk; done) | skip
      all_goals (cases hkk; first | (cases hk1; done) | skip)
      exact rm_invO_s hx hml hts hown hfr hlo hok q r hd hf ho hc1 hc2 K
    · cases hf
  · split at hf
    · rename_i g hg
      exact rm_op_s hx hts hX hown (fun k hk => (hks k hk).1) hini hg q r hd hf ho hc1 hc2 K
    · cases hf
theorem rm_loop_s (hx : p.tables.exec = Jvm.exec) (hml : c.maxLocals = M.2.2.1) (hts : ∀ w ∈ rm_tb, w.before args s = true) (hX : rm_X D cA sz ext L xs s) (hown : s.vm.findClass own = some m.cls) (hks : ∀ k ∈ M.2.1, rm_okK own k ∧ rm_okM mt P nM own k) (hini : M.2.2.2.2.1 = true → meth.name = "<init>" ∧ ∃ q, vwCl[M.2.2.2.2.2]? = some q ∧ q.1 = own) (hfr : d + 2 ≤ R.frames) (hlo : 64 * (d + 2) ≤ R.locals) (hdec : ∀ q ∈ M.1, decode c.code q.1 = .ok (q.2.1, q.2.2)) {call : Nat → List Value → rm_H → List Nat → Option rm_Re}
    (Hcall : ∀ (z mi : Nat) (av : List Value) (h : rm_H) (orc : List Nat) (res : rm_Re), call mi av h orc = some res → res.2.2.2.2.2 = true → mi < nM → rm_Mt l D cA z ext L xs mt d mi av h res) {res : rm_Re} (hok : res.2.2.2.2.2 = true) (hc1 : res.2.2.1 ≤ R.cells) (hc2 : res.2.2.2.1 ≤ R.slots)
    (hEnd : ∀ (q : rm_N) (i : Instr) (n : Nat), (q.1, i, n) ∈ M.1 → rm_ret M.2.2.2.1 i n q = some res → rm_K p l e R s m args below meth c Q M.2.2.1 sz ext cA D q) :
    ∀ (f : Nat) (q : rm_N), rm_loop call P M L xs f q = some res → q.2.2.2.2.2.2.2 = true ∧ q.2.2.2.2.1 ≤ res.2.2.1 ∧ q.2.2.2.2.2.1 ≤ res.2.2.2.1 ∧ rm_K p l e R s m args below meth c Q M.2.2.1 sz ext cA D q := by
  intro f
  induction f with
  | zero => intro q h; cases h
  | succ f ih =>
    intro q h
    have h : rm_body call P M L xs q (rm_loop call P M L xs f) = some res := h
    unfold rm_body at h
    split at h
    · cases h
    · rename_i ii hii
      have hmem := rm_find_mem hii
      split at h
      · rename_i res' hres
        cases h
        have hK := hEnd q ii.1 ii.2 hmem hres
        have e2 : res.2 = q.2.2.2 := by
          unfold rm_ret at hres
          split at hres
          all_goals first | (cases hres; done) | skip
          all_goals (split at hres; first | (cases hres; rfl) | cases hres)
          all_goals cases hres
        rw [e2] at hok
        refine ⟨hok, ?_, ?_, hK⟩
        · rw [e2]; exact Nat.le_refl _
        · rw [e2]; exact Nat.le_refl _
      · split at h
        · rename_i r hr
          cases hge : rm_ge q r with
          | true =>
            rw [hge] at h
            have h : rm_force (rm_mod ii.1) (rm_tk q.2.2.2.2.2.2.2 r) (rm_loop call P M L xs f) = some res := h
            rw [rm_force_eq] at h
            obtain ⟨g1, g2, g3, g4⟩ := ih _ h
            have g1 : (r.2.2.2.2.2.2.2 && q.2.2.2.2.2.2.2) = true := g1
            simp only [Bool.and_eq_true] at g1
            unfold rm_ge at hge
            simp only [Bool.and_eq_true] at hge
            have z1 := Nat.le_of_ble_eq_true hge.1
            have z2 := Nat.le_of_ble_eq_true hge.2
            have g2 : r.2.2.2.2.1 ≤ res.2.2.1 := g2
            have g3 : r.2.2.2.2.2.1 ≤ res.2.2.2.1 := g3
            have hK : rm_K p l e R s m args below meth c Q M.2.2.1 sz ext cA D r := g4
            have hd : decode c.code (rm_t1 q).1 = .ok (ii.1, ii.2) := hdec (q.1, ii) hmem
            exact ⟨g1.2, Nat.le_trans z1 g2, Nat.le_trans z2 g3, rm_one_s (M := M) (call := call) hx hml hts hX hown hks hini hfr hlo Hcall (rm_t1 q) r hd hr g1.1 (Nat.le_trans g2 hc1) (Nat.le_trans g3 hc2) hK⟩
          | false => rw [hge] at h; cases h
        · cases h
end RML
theorem rm_lv_args (sz : Nat) (ext : Nat → Nat) (av : List Value) : ∀ i, lv_args i (av.map (rm_v sz ext)) = rm_l sz ext (lv_args i av) := by
  induction av with
  | nil => intro i; rfl
  | cons v r ih =>
    intro i
    show (i, rm_v sz ext v) :: lv_args (if (rm_v sz ext v).category = 2 then i + 2 else i + 1) (r.map (rm_v sz ext)) = (i, rm_v sz ext v) :: rm_l sz ext (lv_args (if v.category = 2 then i + 2 else i + 1) r)
    rw [rm_v_cat, ih]
theorem rm_sl_len (sz : Nat) (ext : Nat → Nat) (av : List Value) : (lg_sl (av.map (rm_v sz ext))).length = (lg_sl av).length := by
  induction av with
  | nil => rfl
  | cons v r ih =>
    unfold lg_sl at ih ⊢
    rw [List.map_cons, List.flatMap_cons, List.flatMap_cons, List.length_append, List.length_append, ih, rm_v_cat]
    split <;> rfl
theorem rm_ret_s {p : Program} {l : Launch} {e : Env} {R : Room} {s : State} {m : MethodId} {args : Array Value} {below : List Frame} {meth : Method} {c : Code} {sz : Nat} {ext : Nat → Nat} {cA : Nat → ClassId} {D : va_G} {rt : Nat} {ret : Option FieldType} (p4 : rm_rt rt ret) (hx : p.tables.exec = Jvm.exec) (hret : meth.sig.returnType = ret) (hlocks : meth.locks = false) {i : Instr} {n : Nat} {q : rm_N} {res : rm_Re} (hre : rm_ret rt i n q = some res) (hd : decode c.code q.1 = .ok (i, n)) {ls : Array Slot} {H : Heap} {locs : List Loc} (hR : rm_R D sz ext cA q.2.2.2.1 H) (hS : rm_S sz s.heap H locs) :
    W p l e R s m args below meth c H locs q.2.2.2.2.1 q.2.2.2.2.2.1 (MQ below (rm_Qc D cA sz ext res) args s res.2.2.1 res.2.2.2.1 (fun a => sz ≤ a)) (F0 m q.1 ls (q.2.2.1.map (rm_v sz ext))) := by
  unfold rm_ret at hre
  split at hre
  · rename_i hst
    split at hre
    · rename_i hrt
      obtain ⟨rfl, rfl⟩ := hrt
      cases hre
      rw [hst]
      have p4 : ret = none := p4
      rw [p4] at hret
      exact W.vret hx rfl hret (fun t ht hW => ⟨rfl, by rw [ht]; exact hR, fun z hz => by rw [ht]; exact hS.1 z hz⟩) hS.2 hd
    · cases hre
  · rename_i v hst
    split at hre
    · rename_i hrt
      obtain ⟨rfl, hrt⟩ := hrt
      cases hre
      rw [hst]
      rcases hrt with rfl | ⟨rfl, hv⟩ | ⟨rfl, rfl⟩
      · have p4 : ret = some .int := p4
        rw [p4] at hret
        exact W.iret hx rfl hret (fun t ht hW => ⟨rfl, by rw [ht]; exact hR, fun z hz => by rw [ht]; exact hS.1 z hz⟩) hS.2 hd
      · have p4 : ret = some .boolean := p4
        rw [p4] at hret
        refine W.zret hx rfl hret ?_ (fun t ht hW => ⟨rfl, by rw [ht]; exact hR, fun z hz => by rw [ht]; exact hS.1 z hz⟩) hS.2 hd
        rcases hv with rfl | rfl <;> rfl
      · have p4 : ret = some .byte := p4
        rw [p4] at hret
        exact W.zret hx rfl hret rfl (fun t ht hW => ⟨rfl, by rw [ht]; exact hR, fun z hz => by rw [ht]; exact hS.1 z hz⟩) hS.2 hd
    · cases hre
  · rename_i v hst
    split at hre
    · rename_i hrt
      obtain ⟨rfl, rfl⟩ := hrt
      cases hre
      rw [hst]
      have p4 : ret = some .long := p4
      rw [p4] at hret
      exact W.lret hx rfl hret (fun t ht hW => ⟨rfl, by rw [ht]; exact hR, fun z hz => by rw [ht]; exact hS.1 z hz⟩) hS.2 hd
    · cases hre
  · rename_i v hst
    split at hre
    · rename_i hrt
      obtain ⟨rfl, rfl⟩ := hrt
      cases hre
      rw [hst]
      obtain ⟨nm, p4⟩ : ∃ nm, ret = some (.object nm) := p4
      rw [p4] at hret
      exact W.aret hx rfl hret (Or.inl ⟨nm, rfl⟩) (Or.inr ⟨_, rfl⟩) (fun t ht hW => ⟨rfl, by rw [ht]; exact hR, fun z hz => by rw [ht]; exact hS.1 z hz⟩) hS.2 hd
    · cases hre
  · cases hre
end
section
set_option maxHeartbeats 400000 in
theorem rm_meth_s {l : Launch} {ext : Nat → Nat} {cA : Nat → ClassId} {D : va_G} {L : Nat} {xs : rm_F} {mt : Nat → rm_Y} {P : Nat → rm_M} {nM : Nat} (hP : ∀ mi, mi < nM → rm_okP mt P nM mi) :
    ∀ (d sz mi : Nat) (av : List Value) (h : rm_H) (orc : List Nat) (res : rm_Re), rm_meth P L xs d mi av h orc = some res → res.2.2.2.2.2 = true → mi < nM → rm_Mt l D cA sz ext L xs mt d mi av h res := by
  intro d
  induction d with
  | zero => intro sz mi av h orc res hr; cases hr
  | succ d ih =>
    intro sz mi av h orc res hr hok hmi
    have hr : (if (lg_sl av).length ≤ (P mi).2.2.1 then rm_loop (rm_meth P L xs d) P (P mi) L xs 3000 (0, lv_args 0 av, [], h, 0, 0, orc, true) else none) = some res := hr
    split at hr
    · rename_i hlen
      obtain ⟨p1, p2, p3, p4, p5, p6⟩ := hP mi hmi
      unfold rm_Mt
      refine va_MetF (cc := (mt mi).2.1) (maxL := (mt mi).2.2.1) (ret := (mt mi).2.2.2) p6 rfl ?_
      intro p e s m args below meth c s₁ B hml hv
      obtain ⟨rfl, hR, hX⟩ := hv
      have hx := B.exec
      have hb := B.bytes
      have hret := B.returns
      have hts0 := atoms_spec (ws := Cond.code (mt mi).1 (mt mi).2.1 (mt mi).2.2.1 (mt mi).2.2.2 :: rm_tb) B.pre
      have hts : ∀ w ∈ rm_tb, w.before ((av.map (rm_v sz ext)).toArray) s = true := fun w hw => hts0 w (List.mem_cons_of_mem _ hw)
      have hown : s.vm.findClass (mt mi).1.cls = some m.cls := findClass_of_methodNamed B.named
      have hlocks := B.notSynchronized
      have hname : meth.name = (mt mi).1.name := (name_of_methodNamed B.named B.method).1
      have key := rm_loop_s (p := p) (l := l) (e := e) (R := (headSpec (Cond.code (mt mi).1 (mt mi).2.1 (mt mi).2.2.1 (mt mi).2.2.2 :: rm_tb) (rm_rm (d + 1) res.2.2.1 res.2.2.2.1)).room) (s := s) (m := m) (args := (av.map (rm_v sz ext)).toArray) (below := below) (meth := meth) (c := c) (Q := MQ below (rm_Qc D cA sz ext res) (av.map (rm_v sz ext)).toArray s res.2.2.1 res.2.2.2.1 (fun a => sz ≤ a)) (sz := sz) (ext := ext) (cA := cA) (D := D) (own := (mt mi).1.cls) (L := L) (xs := xs) (mt := mt) (P := P) (nM := nM) (d := d) (M := P mi)
        hx (by rw [hml, p3]) hts hX hown p2 (fun z => ⟨hname.trans (p5 z).1, (p5 z).2⟩) (Nat.le_refl _) (Nat.le_refl _) (by rw [hb]; exact p1) (call := rm_meth P L xs d) ih (res := res) hok (Nat.le_refl _) (Nat.le_refl _) ?_ 3000 _ hr
      · have hl := lv_entry (av.map (rm_v sz ext)) (n := (mt mi).2.2.1) (by rw [rm_sl_len, ← p3]; exact hlen)
        rw [lg_entry_eq]
        rw [rm_lv_args] at hl
        rw [← p3] at hl ⊢
        exact key.2.2.2 _ s.heap [] hl hR ⟨fun _ _ => rfl, fun _ h => by cases h⟩
      · intro q i n hmem hre ls H locs hl hR' hS
        have hd : decode c.code q.1 = .ok (i, n) := by rw [hb]; exact p1 (q.1, i, n) hmem
        exact rm_ret_s p4 hx hret hlocks hre hd hR' hS
    · cases hr
end
section
/-! A RUN UP TO A PLACE; HEAPS THAT ARE ALIKE -/
noncomputable def rm_tbody (call : Nat → List Value → rm_H → List Nat → Option rm_Re) (P : Nat → rm_M) (M : rm_M) (L : Nat) (xs : rm_F) (stop : Nat) (q : rm_N) (ih : rm_N → Option rm_N) : Option rm_N := cond (Nat.beq q.1 stop) (some q) (match rm_find M.1 q.1 with
    | none => none
    | some ii => match rm_one1 call P M L xs ii.1 ii.2 (rm_t1 q) with
        | some r => cond (rm_ge q r) (rm_force (rm_mod ii.1) (rm_tk q.2.2.2.2.2.2.2 r) ih) none
        | none => none)
noncomputable def rm_till (call : Nat → List Value → rm_H → List Nat → Option rm_Re) (P : Nat → rm_M) (M : rm_M) (L : Nat) (xs : rm_F) (stop f : Nat) : rm_N → Option rm_N := Nat.rec (motive := fun _ => rm_N → Option rm_N) (fun _ => none) (fun _ ih q => rm_tbody call P M L xs stop q ih) f
section RMT
variable {p : Program} {l : Launch} {e : Env} {R : Room} {s : State} {m : MethodId} {args : Array Value} {below : List Frame} {meth : Method} {c : Code} {Q : State → Prop}
variable {sz : Nat} {ext : Nat → Nat} {cA : Nat → ClassId} {D : va_G} {own : String} {L : Nat} {xs : rm_F} {mt : Nat → rm_Y} {P : Nat → rm_M} {nM d : Nat} {M : rm_M}
theorem rm_till_s (hx : p.tables.exec = Jvm.exec) (hml : c.maxLocals = M.2.2.1) (hts : ∀ w ∈ rm_tb, w.before args s = true) (hX : rm_X D cA sz ext L xs s) (hown : s.vm.findClass own = some m.cls) (hks : ∀ k ∈ M.2.1, rm_okK own k ∧ rm_okM mt P nM own k) (hini : M.2.2.2.2.1 = true → meth.name = "<init>" ∧ ∃ q, vwCl[M.2.2.2.2.2]? = some q ∧ q.1 = own) (hfr : d + 2 ≤ R.frames) (hlo : 64 * (d + 2) ≤ R.locals) (hdec : ∀ q ∈ M.1, decode c.code q.1 = .ok (q.2.1, q.2.2)) {call : Nat → List Value → rm_H → List Nat → Option rm_Re}
    (Hcall : ∀ (z mi : Nat) (av : List Value) (h : rm_H) (orc : List Nat) (res : rm_Re), call mi av h orc = some res → res.2.2.2.2.2 = true → mi < nM → rm_Mt l D cA z ext L xs mt d mi av h res) {stop : Nat} {q' : rm_N} (hok : q'.2.2.2.2.2.2.2 = true) (hc1 : q'.2.2.2.2.1 ≤ R.cells) (hc2 : q'.2.2.2.2.2.1 ≤ R.slots)
    (hEnd : rm_K p l e R s m args below meth c Q M.2.2.1 sz ext cA D q') :
    ∀ (f : Nat) (q : rm_N), rm_till call P M L xs stop f q = some q' → q.2.2.2.2.2.2.2 = true ∧ q.2.2.2.2.1 ≤ q'.2.2.2.2.1 ∧ q.2.2.2.2.2.1 ≤ q'.2.2.2.2.2.1 ∧ rm_K p l e R s m args below meth c Q M.2.2.1 sz ext cA D q := by
  intro f
  induction f with
  | zero => intro q h; cases h
  | succ f ih =>
    intro q h
    have h : rm_tbody call P M L xs stop q (rm_till call P M L xs stop f) = some q' := h
    unfold rm_tbody at h
    cases hb : Nat.beq q.1 stop with
    | true =>
      rw [hb] at h
      have h : some q = some q' := h
      cases h
      exact ⟨hok, Nat.le_refl _, Nat.le_refl _, hEnd⟩
    | false =>
      rw [hb] at h
      dsimp only [cond_false] at h
      split at h
      · cases h
      · rename_i ii hii
        have hmem := rm_find_mem hii
        split at h
        · rename_i r hr
          cases hge : rm_ge q r with
          | true =>
            rw [hge] at h
            have h : rm_force (rm_mod ii.1) (rm_tk q.2.2.2.2.2.2.2 r) (rm_till call P M L xs stop f) = some q' := h
            rw [rm_force_eq] at h
            obtain ⟨g1, g2, g3, g4⟩ := ih _ h
            have g1 : (r.2.2.2.2.2.2.2 && q.2.2.2.2.2.2.2) = true := g1
            simp only [Bool.and_eq_true] at g1
            unfold rm_ge at hge
            simp only [Bool.and_eq_true] at hge
            have z1 := Nat.le_of_ble_eq_true hge.1
            have z2 := Nat.le_of_ble_eq_true hge.2
            have g2 : r.2.2.2.2.1 ≤ q'.2.2.2.2.1 := g2
            have g3 : r.2.2.2.2.2.1 ≤ q'.2.2.2.2.2.1 := g3
            have hK : rm_K p l e R s m args below meth c Q M.2.2.1 sz ext cA D r := g4
            have hd : decode c.code (rm_t1 q).1 = .ok (ii.1, ii.2) := hdec (q.1, ii) hmem
            exact ⟨g1.2, Nat.le_trans z1 g2, Nat.le_trans z2 g3, rm_one_s (M := M) (call := call) hx hml hts hX hown hks hini hfr hlo Hcall (rm_t1 q) r hd hr g1.1 (Nat.le_trans g2 hc1) (Nat.le_trans g3 hc2) hK⟩
          | false => rw [hge] at h; cases h
        · cases h
end RMT
def rm_simc (x y : va_E) : Bool := match x, y with
  | .inr o, .inr o' => decide (o = o')
  | .inl (t, n, .inr (.inr (.inl _))), .inl (t', n', .inr (.inr (.inl _))) => decide (t = t') && decide (n = n')
  | .inl (t, n, .inr (.inr (.inr (.inr f)))), .inl (t', n', .inr (.inr (.inr (.inr f')))) => decide (t = t') && decide (n = n') && (List.range n).all (fun j => decide (f j = f' j))
  | _, _ => false
def rm_simh : rm_H → rm_H → Bool
  | [], [] => true
  | x :: h, y :: h' => rm_simc x y && rm_simh h h'
  | _, _ => false
theorem rm_arrV_congr {cA : ClassId} {n : Nat} {f g : Nat → Value} (h : ∀ j, j < n → f j = g j) : arrV cA n f = arrV cA n g := by
  unfold arrV
  congr 2
  funext j
  exact h j.1 j.2
theorem rm_simc_s {D : va_G} {sz : Nat} {ext : Nat → Nat} {cA : Nat → ClassId} {H : Heap} {k : Nat} {x y : va_E} (h : rm_simc x y = true) (hx : rm_at1 D sz ext cA k x H) : rm_at1 D sz ext cA k y H := by
  unfold rm_simc at h
  split at h
  · have e := of_decide_eq_true h
    cases e
    exact hx
  · simp only [Bool.and_eq_true, decide_eq_true_eq] at h
    obtain ⟨rfl, rfl⟩ := h
    exact hx
  · rename_i t n f t' n' f'
    simp only [Bool.and_eq_true, decide_eq_true_eq] at h
    obtain ⟨⟨rfl, rfl⟩, h3⟩ := h
    have hx : H[sz + k]? = some (vp_cell (cA t) (n, .inr (.inr (.inr (.inr (fun j => (f j).map (fun k => sz + k))))))) := hx
    show H[sz + k]? = some (vp_cell (cA t) (n, .inr (.inr (.inr (.inr (fun j => (f' j).map (fun k => sz + k)))))))
    rw [hx, vp_cell_q, vp_cell_q]
    congr 1
    refine rm_arrV_congr (fun j hj => ?_)
    have z := of_decide_eq_true (List.all_eq_true.mp h3 j (List.mem_range.mpr hj))
    rw [z]
  · cases h
theorem rm_simh_s {h h' : rm_H} (e : rm_simh h h' = true) : h.length = h'.length ∧ ∀ (k : Nat) (y : va_E), h'[k]? = some y → ∃ x, h[k]? = some x ∧ rm_simc x y = true := by
  induction h generalizing h' with
  | nil =>
    cases h' with
    | nil => exact ⟨rfl, fun k y hk => by simp at hk⟩
    | cons y r => cases e
  | cons x h ih =>
    cases h' with
    | nil => cases e
    | cons y r =>
      have e : (rm_simc x y && rm_simh h r) = true := e
      simp only [Bool.and_eq_true] at e
      obtain ⟨g1, g2⟩ := ih e.2
      refine ⟨congrArg Nat.succ g1, fun k z hk => ?_⟩
      cases k with
      | zero => cases hk; exact ⟨x, rfl, e.1⟩
      | succ k => exact g2 k z hk
theorem rm_R.sim {D : va_G} {sz : Nat} {ext : Nat → Nat} {cA : Nat → ClassId} {h h' : rm_H} {H : Heap} (hR : rm_R D sz ext cA h H) (e : rm_simh h h' = true) : rm_R D sz ext cA h' H := by
  obtain ⟨g1, g2⟩ := rm_simh_s e
  refine ⟨by rw [hR.1, g1], fun k y hk => ?_⟩
  obtain ⟨x, h1, h2⟩ := g2 k y hk
  exact rm_simc_s h2 (hR.2 k x h1)
end
