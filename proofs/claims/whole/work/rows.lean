section
-- ===== PART A: goes FIRST, ahead of the names: the tables' words, and 'selects' of the private methods out of them =====
/-- a private method of a class that the tables say can be made, by its rows of tables_1 -/
def lw_okq (q : MethodName × Nat) : Prop := (q.1.cls ≠ "java/lang/invoke/MethodHandle" ∧ q.1.cls ≠ "java/lang/invoke/VarHandle") ∧ Cond.instantiable q.1.cls q.2 ∈ tables_1 ∧ Cond.privateMethod q.1 ∈ tables_1 ∧ Cond.instanceMethod q.1 ∈ tables_1
theorem lw_p0 : lw_okq (⟨"FourInks$Tape", "takeWord", "()V"⟩, 6) := ⟨⟨by decide +kernel, by decide +kernel⟩, List.mem_of_getElem? (i := 37) (by decide +kernel), List.mem_of_getElem? (i := 545) (by decide +kernel), List.mem_of_getElem? (i := 546) (by decide +kernel)⟩
theorem lw_p1 : lw_okq (⟨"FourInks$Tape", "takeNumber", "()V"⟩, 6) := ⟨⟨by decide +kernel, by decide +kernel⟩, List.mem_of_getElem? (i := 37) (by decide +kernel), List.mem_of_getElem? (i := 552) (by decide +kernel), List.mem_of_getElem? (i := 553) (by decide +kernel)⟩
theorem lw_p2 : lw_okq (⟨"FourInks$Tape", "takeSign", "(I)V"⟩, 6) := ⟨⟨by decide +kernel, by decide +kernel⟩, List.mem_of_getElem? (i := 37) (by decide +kernel), List.mem_of_getElem? (i := 556) (by decide +kernel), List.mem_of_getElem? (i := 557) (by decide +kernel)⟩
theorem lw_p3 : lw_okq (⟨"FourInks$JobText", "takeClause", "()V"⟩, 6) := ⟨⟨by decide +kernel, by decide +kernel⟩, List.mem_of_getElem? (i := 31) (by decide +kernel), List.mem_of_getElem? (i := 560) (by decide +kernel), List.mem_of_getElem? (i := 561) (by decide +kernel)⟩
theorem lw_p4 : lw_okq (⟨"FourInks$Tape", "spells", "(Ljava/lang/String;I)Z"⟩, 6) := ⟨⟨by decide +kernel, by decide +kernel⟩, List.mem_of_getElem? (i := 37) (by decide +kernel), List.mem_of_getElem? (i := 579) (by decide +kernel), List.mem_of_getElem? (i := 580) (by decide +kernel)⟩
theorem lw_p5 : lw_okq (⟨"FourInks$JobText", "takeSheet", "()V"⟩, 6) := ⟨⟨by decide +kernel, by decide +kernel⟩, List.mem_of_getElem? (i := 31) (by decide +kernel), List.mem_of_getElem? (i := 621) (by decide +kernel), List.mem_of_getElem? (i := 622) (by decide +kernel)⟩
theorem lw_p6 : lw_okq (⟨"FourInks$JobText", "refuseTwice", "(I)V"⟩, 6) := ⟨⟨by decide +kernel, by decide +kernel⟩, List.mem_of_getElem? (i := 31) (by decide +kernel), List.mem_of_getElem? (i := 625) (by decide +kernel), List.mem_of_getElem? (i := 626) (by decide +kernel)⟩
theorem lw_p7 : lw_okq (⟨"FourInks$JobText", "refuse", "(I)V"⟩, 6) := ⟨⟨by decide +kernel, by decide +kernel⟩, List.mem_of_getElem? (i := 31) (by decide +kernel), List.mem_of_getElem? (i := 629) (by decide +kernel), List.mem_of_getElem? (i := 630) (by decide +kernel)⟩
theorem lw_p8 : lw_okq (⟨"FourInks$JobText", "number", "(II)I"⟩, 6) := ⟨⟨by decide +kernel, by decide +kernel⟩, List.mem_of_getElem? (i := 31) (by decide +kernel), List.mem_of_getElem? (i := 633) (by decide +kernel), List.mem_of_getElem? (i := 634) (by decide +kernel)⟩
theorem lw_p9 : lw_okq (⟨"FourInks$JobText", "numberHere", "(II)I"⟩, 6) := ⟨⟨by decide +kernel, by decide +kernel⟩, List.mem_of_getElem? (i := 31) (by decide +kernel), List.mem_of_getElem? (i := 637) (by decide +kernel), List.mem_of_getElem? (i := 638) (by decide +kernel)⟩
theorem lw_p10 : lw_okq (⟨"FourInks$JobText", "onlyNumber", "(II)I"⟩, 6) := ⟨⟨by decide +kernel, by decide +kernel⟩, List.mem_of_getElem? (i := 31) (by decide +kernel), List.mem_of_getElem? (i := 641) (by decide +kernel), List.mem_of_getElem? (i := 642) (by decide +kernel)⟩
theorem lw_p11 : lw_okq (⟨"FourInks$JobText", "takeMark", "()V"⟩, 6) := ⟨⟨by decide +kernel, by decide +kernel⟩, List.mem_of_getElem? (i := 31) (by decide +kernel), List.mem_of_getElem? (i := 645) (by decide +kernel), List.mem_of_getElem? (i := 646) (by decide +kernel)⟩
theorem lw_p12 : lw_okq (⟨"FourInks$JobText", "takeScrew", "()V"⟩, 6) := ⟨⟨by decide +kernel, by decide +kernel⟩, List.mem_of_getElem? (i := 31) (by decide +kernel), List.mem_of_getElem? (i := 649) (by decide +kernel), List.mem_of_getElem? (i := 650) (by decide +kernel)⟩
theorem lw_p13 : lw_okq (⟨"FourInks$JobText", "ink", "()I"⟩, 6) := ⟨⟨by decide +kernel, by decide +kernel⟩, List.mem_of_getElem? (i := 31) (by decide +kernel), List.mem_of_getElem? (i := 653) (by decide +kernel), List.mem_of_getElem? (i := 654) (by decide +kernel)⟩
theorem lw_p14 : lw_okq (⟨"FourInks$JobText", "signedNumber", "(I)I"⟩, 6) := ⟨⟨by decide +kernel, by decide +kernel⟩, List.mem_of_getElem? (i := 31) (by decide +kernel), List.mem_of_getElem? (i := 661) (by decide +kernel), List.mem_of_getElem? (i := 662) (by decide +kernel)⟩
theorem lw_p15 : lw_okq (⟨"FourInks$JobText", "takeBox", "()V"⟩, 6) := ⟨⟨by decide +kernel, by decide +kernel⟩, List.mem_of_getElem? (i := 31) (by decide +kernel), List.mem_of_getElem? (i := 669) (by decide +kernel), List.mem_of_getElem? (i := 670) (by decide +kernel)⟩
def lw_privs_1 : List (MethodName × Nat) := [(⟨"FourInks$Tape", "takeWord", "()V"⟩, 6), (⟨"FourInks$Tape", "takeNumber", "()V"⟩, 6), (⟨"FourInks$Tape", "takeSign", "(I)V"⟩, 6), (⟨"FourInks$JobText", "takeClause", "()V"⟩, 6), (⟨"FourInks$Tape", "spells", "(Ljava/lang/String;I)Z"⟩, 6), (⟨"FourInks$JobText", "takeSheet", "()V"⟩, 6), (⟨"FourInks$JobText", "refuseTwice", "(I)V"⟩, 6), (⟨"FourInks$JobText", "refuse", "(I)V"⟩, 6), (⟨"FourInks$JobText", "number", "(II)I"⟩, 6), (⟨"FourInks$JobText", "numberHere", "(II)I"⟩, 6), (⟨"FourInks$JobText", "onlyNumber", "(II)I"⟩, 6), (⟨"FourInks$JobText", "takeMark", "()V"⟩, 6), (⟨"FourInks$JobText", "takeScrew", "()V"⟩, 6), (⟨"FourInks$JobText", "ink", "()I"⟩, 6), (⟨"FourInks$JobText", "signedNumber", "(I)I"⟩, 6), (⟨"FourInks$JobText", "takeBox", "()V"⟩, 6)]
theorem lw_r1 : ∀ q ∈ lw_privs_1, lw_okq q := List.forall_mem_cons.mpr ⟨lw_p0, List.forall_mem_cons.mpr ⟨lw_p1, List.forall_mem_cons.mpr ⟨lw_p2, List.forall_mem_cons.mpr ⟨lw_p3, List.forall_mem_cons.mpr ⟨lw_p4, List.forall_mem_cons.mpr ⟨lw_p5, List.forall_mem_cons.mpr ⟨lw_p6, List.forall_mem_cons.mpr ⟨lw_p7, List.forall_mem_cons.mpr ⟨lw_p8, List.forall_mem_cons.mpr ⟨lw_p9, List.forall_mem_cons.mpr ⟨lw_p10, List.forall_mem_cons.mpr ⟨lw_p11, List.forall_mem_cons.mpr ⟨lw_p12, List.forall_mem_cons.mpr ⟨lw_p13, List.forall_mem_cons.mpr ⟨lw_p14, List.forall_mem_cons.mpr ⟨lw_p15, fun _ h => absurd h List.not_mem_nil⟩⟩⟩⟩⟩⟩⟩⟩⟩⟩⟩⟩⟩⟩⟩⟩
theorem lw_p16 : lw_okq (⟨"FourInks$JobText", "takeScreen", "()V"⟩, 6) := ⟨⟨by decide +kernel, by decide +kernel⟩, List.mem_of_getElem? (i := 31) (by decide +kernel), List.mem_of_getElem? (i := 678) (by decide +kernel), List.mem_of_getElem? (i := 679) (by decide +kernel)⟩
theorem lw_p17 : lw_okq (⟨"FourInks$JobText", "takeLies", "()V"⟩, 6) := ⟨⟨by decide +kernel, by decide +kernel⟩, List.mem_of_getElem? (i := 31) (by decide +kernel), List.mem_of_getElem? (i := 686) (by decide +kernel), List.mem_of_getElem? (i := 687) (by decide +kernel)⟩
theorem lw_p18 : lw_okq (⟨"FourInks$JobText", "takeSemicolon", "()V"⟩, 6) := ⟨⟨by decide +kernel, by decide +kernel⟩, List.mem_of_getElem? (i := 31) (by decide +kernel), List.mem_of_getElem? (i := 690) (by decide +kernel), List.mem_of_getElem? (i := 691) (by decide +kernel)⟩
theorem lw_p19 : lw_okq (⟨"FourInks$Readings", "timesRight", "(I)I"⟩, 12) := ⟨⟨by decide +kernel, by decide +kernel⟩, List.mem_of_getElem? (i := 234) (by decide +kernel), List.mem_of_getElem? (i := 792) (by decide +kernel), List.mem_of_getElem? (i := 793) (by decide +kernel)⟩
theorem lw_p20 : lw_okq (⟨"FourInks$Fit", "gather", "(LFourInks$Job;LFourInks$Readings;II)V"⟩, 12) := ⟨⟨by decide +kernel, by decide +kernel⟩, List.mem_of_getElem? (i := 280) (by decide +kernel), List.mem_of_getElem? (i := 805) (by decide +kernel), List.mem_of_getElem? (i := 806) (by decide +kernel)⟩
theorem lw_p21 : lw_okq (⟨"FourInks$Readings", "lastRight", "(II)I"⟩, 12) := ⟨⟨by decide +kernel, by decide +kernel⟩, List.mem_of_getElem? (i := 234) (by decide +kernel), List.mem_of_getElem? (i := 821) (by decide +kernel), List.mem_of_getElem? (i := 822) (by decide +kernel)⟩
theorem lw_p22 : lw_okq (⟨"FourInks$Fit", "boundShifts", "(III)V"⟩, 12) := ⟨⟨by decide +kernel, by decide +kernel⟩, List.mem_of_getElem? (i := 280) (by decide +kernel), List.mem_of_getElem? (i := 829) (by decide +kernel), List.mem_of_getElem? (i := 830) (by decide +kernel)⟩
theorem lw_p23 : lw_okq (⟨"FourInks$Fit", "takeIn", "(II)V"⟩, 12) := ⟨⟨by decide +kernel, by decide +kernel⟩, List.mem_of_getElem? (i := 280) (by decide +kernel), List.mem_of_getElem? (i := 841) (by decide +kernel), List.mem_of_getElem? (i := 842) (by decide +kernel)⟩
theorem lw_p24 : lw_okq (⟨"FourInks$Fit", "widen", "(III)V"⟩, 12) := ⟨⟨by decide +kernel, by decide +kernel⟩, List.mem_of_getElem? (i := 280) (by decide +kernel), List.mem_of_getElem? (i := 845) (by decide +kernel), List.mem_of_getElem? (i := 846) (by decide +kernel)⟩
theorem lw_p25 : lw_okq (⟨"FourInks$Mending", "beginRows", "(I)I"⟩, 7) := ⟨⟨by decide +kernel, by decide +kernel⟩, List.mem_of_getElem? (i := 326) (by decide +kernel), List.mem_of_getElem? (i := 871) (by decide +kernel), List.mem_of_getElem? (i := 872) (by decide +kernel)⟩
theorem lw_p26 : lw_okq (⟨"FourInks$Mending", "badOfRow", "(LFourInks$Job;I)I"⟩, 7) := ⟨⟨by decide +kernel, by decide +kernel⟩, List.mem_of_getElem? (i := 326) (by decide +kernel), List.mem_of_getElem? (i := 875) (by decide +kernel), List.mem_of_getElem? (i := 876) (by decide +kernel)⟩
theorem lw_p27 : lw_okq (⟨"FourInks$Mending", "badOf", "(LFourInks$Job;III)I"⟩, 7) := ⟨⟨by decide +kernel, by decide +kernel⟩, List.mem_of_getElem? (i := 326) (by decide +kernel), List.mem_of_getElem? (i := 880) (by decide +kernel), List.mem_of_getElem? (i := 881) (by decide +kernel)⟩
theorem lw_p28 : lw_okq (⟨"FourInks$Mending", "turnsOfRow", "()I"⟩, 7) := ⟨⟨by decide +kernel, by decide +kernel⟩, List.mem_of_getElem? (i := 326) (by decide +kernel), List.mem_of_getElem? (i := 890) (by decide +kernel), List.mem_of_getElem? (i := 891) (by decide +kernel)⟩
theorem lw_p29 : lw_okq (⟨"FourInks$Mending", "nextRow", "(I)V"⟩, 7) := ⟨⟨by decide +kernel, by decide +kernel⟩, List.mem_of_getElem? (i := 326) (by decide +kernel), List.mem_of_getElem? (i := 897) (by decide +kernel), List.mem_of_getElem? (i := 898) (by decide +kernel)⟩
theorem lw_p30 : lw_okq (⟨"FourInks$Board", "invert", "()V"⟩, 1) := ⟨⟨by decide +kernel, by decide +kernel⟩, List.mem_of_getElem? (i := 77) (by decide +kernel), List.mem_of_getElem? (i := 925) (by decide +kernel), List.mem_of_getElem? (i := 926) (by decide +kernel)⟩
theorem lw_p31 : lw_okq (⟨"FourInks$Board", "growOnce", "()V"⟩, 1) := ⟨⟨by decide +kernel, by decide +kernel⟩, List.mem_of_getElem? (i := 77) (by decide +kernel), List.mem_of_getElem? (i := 931) (by decide +kernel), List.mem_of_getElem? (i := 932) (by decide +kernel)⟩
def lw_privs_2 : List (MethodName × Nat) := [(⟨"FourInks$JobText", "takeScreen", "()V"⟩, 6), (⟨"FourInks$JobText", "takeLies", "()V"⟩, 6), (⟨"FourInks$JobText", "takeSemicolon", "()V"⟩, 6), (⟨"FourInks$Readings", "timesRight", "(I)I"⟩, 12), (⟨"FourInks$Fit", "gather", "(LFourInks$Job;LFourInks$Readings;II)V"⟩, 12), (⟨"FourInks$Readings", "lastRight", "(II)I"⟩, 12), (⟨"FourInks$Fit", "boundShifts", "(III)V"⟩, 12), (⟨"FourInks$Fit", "takeIn", "(II)V"⟩, 12), (⟨"FourInks$Fit", "widen", "(III)V"⟩, 12), (⟨"FourInks$Mending", "beginRows", "(I)I"⟩, 7), (⟨"FourInks$Mending", "badOfRow", "(LFourInks$Job;I)I"⟩, 7), (⟨"FourInks$Mending", "badOf", "(LFourInks$Job;III)I"⟩, 7), (⟨"FourInks$Mending", "turnsOfRow", "()I"⟩, 7), (⟨"FourInks$Mending", "nextRow", "(I)V"⟩, 7), (⟨"FourInks$Board", "invert", "()V"⟩, 1), (⟨"FourInks$Board", "growOnce", "()V"⟩, 1)]
theorem lw_r2 : ∀ q ∈ lw_privs_2, lw_okq q := List.forall_mem_cons.mpr ⟨lw_p16, List.forall_mem_cons.mpr ⟨lw_p17, List.forall_mem_cons.mpr ⟨lw_p18, List.forall_mem_cons.mpr ⟨lw_p19, List.forall_mem_cons.mpr ⟨lw_p20, List.forall_mem_cons.mpr ⟨lw_p21, List.forall_mem_cons.mpr ⟨lw_p22, List.forall_mem_cons.mpr ⟨lw_p23, List.forall_mem_cons.mpr ⟨lw_p24, List.forall_mem_cons.mpr ⟨lw_p25, List.forall_mem_cons.mpr ⟨lw_p26, List.forall_mem_cons.mpr ⟨lw_p27, List.forall_mem_cons.mpr ⟨lw_p28, List.forall_mem_cons.mpr ⟨lw_p29, List.forall_mem_cons.mpr ⟨lw_p30, List.forall_mem_cons.mpr ⟨lw_p31, fun _ h => absurd h List.not_mem_nil⟩⟩⟩⟩⟩⟩⟩⟩⟩⟩⟩⟩⟩⟩⟩⟩
theorem lw_p32 : lw_okq (⟨"FourInks$Board", "moveAcross", "(I)V"⟩, 1) := ⟨⟨by decide +kernel, by decide +kernel⟩, List.mem_of_getElem? (i := 77) (by decide +kernel), List.mem_of_getElem? (i := 965) (by decide +kernel), List.mem_of_getElem? (i := 966) (by decide +kernel)⟩
theorem lw_p33 : lw_okq (⟨"FourInks$Board", "moveUpOnce", "()V"⟩, 1) := ⟨⟨by decide +kernel, by decide +kernel⟩, List.mem_of_getElem? (i := 77) (by decide +kernel), List.mem_of_getElem? (i := 969) (by decide +kernel), List.mem_of_getElem? (i := 970) (by decide +kernel)⟩
theorem lw_p34 : lw_okq (⟨"FourInks$Board", "moveDownOnce", "()V"⟩, 1) := ⟨⟨by decide +kernel, by decide +kernel⟩, List.mem_of_getElem? (i := 77) (by decide +kernel), List.mem_of_getElem? (i := 973) (by decide +kernel), List.mem_of_getElem? (i := 974) (by decide +kernel)⟩
theorem lw_p35 : lw_okq (⟨"FourInks", "markUnlike", "(II)V"⟩, 15) := ⟨⟨by decide +kernel, by decide +kernel⟩, List.mem_of_getElem? (i := 23) (by decide +kernel), List.mem_of_getElem? (i := 1034) (by decide +kernel), List.mem_of_getElem? (i := 1035) (by decide +kernel)⟩
theorem lw_p36 : lw_okq (⟨"FourInks", "causesOf", "(II)I"⟩, 15) := ⟨⟨by decide +kernel, by decide +kernel⟩, List.mem_of_getElem? (i := 23) (by decide +kernel), List.mem_of_getElem? (i := 1053) (by decide +kernel), List.mem_of_getElem? (i := 1054) (by decide +kernel)⟩
theorem lw_p37 : lw_okq (⟨"FourInks", "breadthOf", "(III)I"⟩, 15) := ⟨⟨by decide +kernel, by decide +kernel⟩, List.mem_of_getElem? (i := 23) (by decide +kernel), List.mem_of_getElem? (i := 1057) (by decide +kernel), List.mem_of_getElem? (i := 1058) (by decide +kernel)⟩
theorem lw_p38 : lw_okq (⟨"FourInks", "isJump", "(II)Z"⟩, 15) := ⟨⟨by decide +kernel, by decide +kernel⟩, List.mem_of_getElem? (i := 23) (by decide +kernel), List.mem_of_getElem? (i := 1063) (by decide +kernel), List.mem_of_getElem? (i := 1064) (by decide +kernel)⟩
theorem lw_p39 : lw_okq (⟨"FourInks", "isDrift", "(II)Z"⟩, 15) := ⟨⟨by decide +kernel, by decide +kernel⟩, List.mem_of_getElem? (i := 23) (by decide +kernel), List.mem_of_getElem? (i := 1067) (by decide +kernel), List.mem_of_getElem? (i := 1068) (by decide +kernel)⟩
theorem lw_p40 : lw_okq (⟨"FourInks$Halts", "costBehind", "(III)J"⟩, 4) := ⟨⟨by decide +kernel, by decide +kernel⟩, List.mem_of_getElem? (i := 409) (by decide +kernel), List.mem_of_getElem? (i := 1094) (by decide +kernel), List.mem_of_getElem? (i := 1095) (by decide +kernel)⟩
theorem lw_p41 : lw_okq (⟨"FourInks$Tissue", "lightest", "(II)I"⟩, 7) := ⟨⟨by decide +kernel, by decide +kernel⟩, List.mem_of_getElem? (i := 430) (by decide +kernel), List.mem_of_getElem? (i := 1123) (by decide +kernel), List.mem_of_getElem? (i := 1124) (by decide +kernel)⟩
theorem lw_p42 : lw_okq (⟨"FourInks$Tissue", "weight", "(III)I"⟩, 7) := ⟨⟨by decide +kernel, by decide +kernel⟩, List.mem_of_getElem? (i := 430) (by decide +kernel), List.mem_of_getElem? (i := 1127) (by decide +kernel), List.mem_of_getElem? (i := 1128) (by decide +kernel)⟩
theorem lw_p43 : lw_okq (⟨"FourInks$Tissue", "takeLayers", "()V"⟩, 7) := ⟨⟨by decide +kernel, by decide +kernel⟩, List.mem_of_getElem? (i := 430) (by decide +kernel), List.mem_of_getElem? (i := 1132) (by decide +kernel), List.mem_of_getElem? (i := 1133) (by decide +kernel)⟩
theorem lw_p44 : lw_okq (⟨"FourInks$Screens", "squaresFrom", "(III)I"⟩, 4) := ⟨⟨by decide +kernel, by decide +kernel⟩, List.mem_of_getElem? (i := 90) (by decide +kernel), List.mem_of_getElem? (i := 1149) (by decide +kernel), List.mem_of_getElem? (i := 1150) (by decide +kernel)⟩
theorem lw_p45 : lw_okq (⟨"FourInks$Screens", "leastBeat", "(IIII)I"⟩, 4) := ⟨⟨by decide +kernel, by decide +kernel⟩, List.mem_of_getElem? (i := 90) (by decide +kernel), List.mem_of_getElem? (i := 1162) (by decide +kernel), List.mem_of_getElem? (i := 1163) (by decide +kernel)⟩
theorem lw_p46 : lw_okq (⟨"FourInks$Screens", "set", "(IIII)V"⟩, 4) := ⟨⟨by decide +kernel, by decide +kernel⟩, List.mem_of_getElem? (i := 90) (by decide +kernel), List.mem_of_getElem? (i := 1167) (by decide +kernel), List.mem_of_getElem? (i := 1168) (by decide +kernel)⟩
theorem lw_p47 : lw_okq (⟨"FourInks", "findOrder", "()I"⟩, 15) := ⟨⟨by decide +kernel, by decide +kernel⟩, List.mem_of_getElem? (i := 23) (by decide +kernel), List.mem_of_getElem? (i := 1175) (by decide +kernel), List.mem_of_getElem? (i := 1176) (by decide +kernel)⟩
def lw_privs_3 : List (MethodName × Nat) := [(⟨"FourInks$Board", "moveAcross", "(I)V"⟩, 1), (⟨"FourInks$Board", "moveUpOnce", "()V"⟩, 1), (⟨"FourInks$Board", "moveDownOnce", "()V"⟩, 1), (⟨"FourInks", "markUnlike", "(II)V"⟩, 15), (⟨"FourInks", "causesOf", "(II)I"⟩, 15), (⟨"FourInks", "breadthOf", "(III)I"⟩, 15), (⟨"FourInks", "isJump", "(II)Z"⟩, 15), (⟨"FourInks", "isDrift", "(II)Z"⟩, 15), (⟨"FourInks$Halts", "costBehind", "(III)J"⟩, 4), (⟨"FourInks$Tissue", "lightest", "(II)I"⟩, 7), (⟨"FourInks$Tissue", "weight", "(III)I"⟩, 7), (⟨"FourInks$Tissue", "takeLayers", "()V"⟩, 7), (⟨"FourInks$Screens", "squaresFrom", "(III)I"⟩, 4), (⟨"FourInks$Screens", "leastBeat", "(IIII)I"⟩, 4), (⟨"FourInks$Screens", "set", "(IIII)V"⟩, 4), (⟨"FourInks", "findOrder", "()I"⟩, 15)]
theorem lw_r3 : ∀ q ∈ lw_privs_3, lw_okq q := List.forall_mem_cons.mpr ⟨lw_p32, List.forall_mem_cons.mpr ⟨lw_p33, List.forall_mem_cons.mpr ⟨lw_p34, List.forall_mem_cons.mpr ⟨lw_p35, List.forall_mem_cons.mpr ⟨lw_p36, List.forall_mem_cons.mpr ⟨lw_p37, List.forall_mem_cons.mpr ⟨lw_p38, List.forall_mem_cons.mpr ⟨lw_p39, List.forall_mem_cons.mpr ⟨lw_p40, List.forall_mem_cons.mpr ⟨lw_p41, List.forall_mem_cons.mpr ⟨lw_p42, List.forall_mem_cons.mpr ⟨lw_p43, List.forall_mem_cons.mpr ⟨lw_p44, List.forall_mem_cons.mpr ⟨lw_p45, List.forall_mem_cons.mpr ⟨lw_p46, List.forall_mem_cons.mpr ⟨lw_p47, fun _ h => absurd h List.not_mem_nil⟩⟩⟩⟩⟩⟩⟩⟩⟩⟩⟩⟩⟩⟩⟩⟩
theorem lw_p48 : lw_okq (⟨"FourInks", "sumOf", "(IIII)I"⟩, 15) := ⟨⟨by decide +kernel, by decide +kernel⟩, List.mem_of_getElem? (i := 23) (by decide +kernel), List.mem_of_getElem? (i := 1179) (by decide +kernel), List.mem_of_getElem? (i := 1180) (by decide +kernel)⟩
theorem lw_p49 : lw_okq (⟨"FourInksModel", "begin", "()V"⟩, 59) := ⟨⟨by decide +kernel, by decide +kernel⟩, List.mem_of_getElem? (i := 1191) (by decide +kernel), List.mem_of_getElem? (i := 1197) (by decide +kernel), List.mem_of_getElem? (i := 1198) (by decide +kernel)⟩
theorem lw_p50 : lw_okq (⟨"FourInksModel", "settle", "()V"⟩, 59) := ⟨⟨by decide +kernel, by decide +kernel⟩, List.mem_of_getElem? (i := 1191) (by decide +kernel), List.mem_of_getElem? (i := 1201) (by decide +kernel), List.mem_of_getElem? (i := 1202) (by decide +kernel)⟩
theorem lw_p51 : lw_okq (⟨"FourInksModel", "start", "()V"⟩, 59) := ⟨⟨by decide +kernel, by decide +kernel⟩, List.mem_of_getElem? (i := 1191) (by decide +kernel), List.mem_of_getElem? (i := 1402) (by decide +kernel), List.mem_of_getElem? (i := 1403) (by decide +kernel)⟩
theorem lw_p52 : lw_okq (⟨"FourInksModel", "scan", "()V"⟩, 59) := ⟨⟨by decide +kernel, by decide +kernel⟩, List.mem_of_getElem? (i := 1191) (by decide +kernel), List.mem_of_getElem? (i := 1406) (by decide +kernel), List.mem_of_getElem? (i := 1407) (by decide +kernel)⟩
theorem lw_p53 : lw_okq (⟨"FourInksModel", "byteAt", "(I)I"⟩, 59) := ⟨⟨by decide +kernel, by decide +kernel⟩, List.mem_of_getElem? (i := 1191) (by decide +kernel), List.mem_of_getElem? (i := 1410) (by decide +kernel), List.mem_of_getElem? (i := 1411) (by decide +kernel)⟩
theorem lw_p54 : lw_okq (⟨"FourInksModel", "keyAt", "(II)I"⟩, 59) := ⟨⟨by decide +kernel, by decide +kernel⟩, List.mem_of_getElem? (i := 1191) (by decide +kernel), List.mem_of_getElem? (i := 1417) (by decide +kernel), List.mem_of_getElem? (i := 1418) (by decide +kernel)⟩
theorem lw_p55 : lw_okq (⟨"FourInksModel", "readClause", "()Z"⟩, 59) := ⟨⟨by decide +kernel, by decide +kernel⟩, List.mem_of_getElem? (i := 1191) (by decide +kernel), List.mem_of_getElem? (i := 1427) (by decide +kernel), List.mem_of_getElem? (i := 1428) (by decide +kernel)⟩
theorem lw_p56 : lw_okq (⟨"FourInksModel", "readSheet", "()Z"⟩, 59) := ⟨⟨by decide +kernel, by decide +kernel⟩, List.mem_of_getElem? (i := 1191) (by decide +kernel), List.mem_of_getElem? (i := 1431) (by decide +kernel), List.mem_of_getElem? (i := 1432) (by decide +kernel)⟩
theorem lw_p57 : lw_okq (⟨"FourInksModel", "isAgain", "(I)Z"⟩, 59) := ⟨⟨by decide +kernel, by decide +kernel⟩, List.mem_of_getElem? (i := 1191) (by decide +kernel), List.mem_of_getElem? (i := 1435) (by decide +kernel), List.mem_of_getElem? (i := 1436) (by decide +kernel)⟩
theorem lw_p58 : lw_okq (⟨"FourInksModel", "fails", "(I)Z"⟩, 59) := ⟨⟨by decide +kernel, by decide +kernel⟩, List.mem_of_getElem? (i := 1191) (by decide +kernel), List.mem_of_getElem? (i := 1439) (by decide +kernel), List.mem_of_getElem? (i := 1440) (by decide +kernel)⟩
theorem lw_p59 : lw_okq (⟨"FourInksModel", "readNumber", "(II)Z"⟩, 59) := ⟨⟨by decide +kernel, by decide +kernel⟩, List.mem_of_getElem? (i := 1191) (by decide +kernel), List.mem_of_getElem? (i := 1443) (by decide +kernel), List.mem_of_getElem? (i := 1444) (by decide +kernel)⟩
theorem lw_p60 : lw_okq (⟨"FourInksModel", "readMark", "()Z"⟩, 59) := ⟨⟨by decide +kernel, by decide +kernel⟩, List.mem_of_getElem? (i := 1191) (by decide +kernel), List.mem_of_getElem? (i := 1450) (by decide +kernel), List.mem_of_getElem? (i := 1451) (by decide +kernel)⟩
theorem lw_p61 : lw_okq (⟨"FourInksModel", "readOne", "(III)Z"⟩, 59) := ⟨⟨by decide +kernel, by decide +kernel⟩, List.mem_of_getElem? (i := 1191) (by decide +kernel), List.mem_of_getElem? (i := 1454) (by decide +kernel), List.mem_of_getElem? (i := 1455) (by decide +kernel)⟩
theorem lw_p62 : lw_okq (⟨"FourInksModel", "readScrew", "()Z"⟩, 59) := ⟨⟨by decide +kernel, by decide +kernel⟩, List.mem_of_getElem? (i := 1191) (by decide +kernel), List.mem_of_getElem? (i := 1458) (by decide +kernel), List.mem_of_getElem? (i := 1459) (by decide +kernel)⟩
theorem lw_p63 : lw_okq (⟨"FourInksModel", "isInk", "()Z"⟩, 59) := ⟨⟨by decide +kernel, by decide +kernel⟩, List.mem_of_getElem? (i := 1191) (by decide +kernel), List.mem_of_getElem? (i := 1462) (by decide +kernel), List.mem_of_getElem? (i := 1463) (by decide +kernel)⟩
def lw_privs_4 : List (MethodName × Nat) := [(⟨"FourInks", "sumOf", "(IIII)I"⟩, 15), (⟨"FourInksModel", "begin", "()V"⟩, 59), (⟨"FourInksModel", "settle", "()V"⟩, 59), (⟨"FourInksModel", "start", "()V"⟩, 59), (⟨"FourInksModel", "scan", "()V"⟩, 59), (⟨"FourInksModel", "byteAt", "(I)I"⟩, 59), (⟨"FourInksModel", "keyAt", "(II)I"⟩, 59), (⟨"FourInksModel", "readClause", "()Z"⟩, 59), (⟨"FourInksModel", "readSheet", "()Z"⟩, 59), (⟨"FourInksModel", "isAgain", "(I)Z"⟩, 59), (⟨"FourInksModel", "fails", "(I)Z"⟩, 59), (⟨"FourInksModel", "readNumber", "(II)Z"⟩, 59), (⟨"FourInksModel", "readMark", "()Z"⟩, 59), (⟨"FourInksModel", "readOne", "(III)Z"⟩, 59), (⟨"FourInksModel", "readScrew", "()Z"⟩, 59), (⟨"FourInksModel", "isInk", "()Z"⟩, 59)]
theorem lw_r4 : ∀ q ∈ lw_privs_4, lw_okq q := List.forall_mem_cons.mpr ⟨lw_p48, List.forall_mem_cons.mpr ⟨lw_p49, List.forall_mem_cons.mpr ⟨lw_p50, List.forall_mem_cons.mpr ⟨lw_p51, List.forall_mem_cons.mpr ⟨lw_p52, List.forall_mem_cons.mpr ⟨lw_p53, List.forall_mem_cons.mpr ⟨lw_p54, List.forall_mem_cons.mpr ⟨lw_p55, List.forall_mem_cons.mpr ⟨lw_p56, List.forall_mem_cons.mpr ⟨lw_p57, List.forall_mem_cons.mpr ⟨lw_p58, List.forall_mem_cons.mpr ⟨lw_p59, List.forall_mem_cons.mpr ⟨lw_p60, List.forall_mem_cons.mpr ⟨lw_p61, List.forall_mem_cons.mpr ⟨lw_p62, List.forall_mem_cons.mpr ⟨lw_p63, fun _ h => absurd h List.not_mem_nil⟩⟩⟩⟩⟩⟩⟩⟩⟩⟩⟩⟩⟩⟩⟩⟩
theorem lw_p64 : lw_okq (⟨"FourInksModel", "readSigned", "(I)Z"⟩, 59) := ⟨⟨by decide +kernel, by decide +kernel⟩, List.mem_of_getElem? (i := 1191) (by decide +kernel), List.mem_of_getElem? (i := 1466) (by decide +kernel), List.mem_of_getElem? (i := 1467) (by decide +kernel)⟩
theorem lw_p65 : lw_okq (⟨"FourInksModel", "readBox", "()Z"⟩, 59) := ⟨⟨by decide +kernel, by decide +kernel⟩, List.mem_of_getElem? (i := 1191) (by decide +kernel), List.mem_of_getElem? (i := 1470) (by decide +kernel), List.mem_of_getElem? (i := 1471) (by decide +kernel)⟩
theorem lw_p66 : lw_okq (⟨"FourInksModel", "readScreen", "()Z"⟩, 59) := ⟨⟨by decide +kernel, by decide +kernel⟩, List.mem_of_getElem? (i := 1191) (by decide +kernel), List.mem_of_getElem? (i := 1475) (by decide +kernel), List.mem_of_getElem? (i := 1476) (by decide +kernel)⟩
theorem lw_p67 : lw_okq (⟨"FourInksModel", "readLies", "()Z"⟩, 59) := ⟨⟨by decide +kernel, by decide +kernel⟩, List.mem_of_getElem? (i := 1191) (by decide +kernel), List.mem_of_getElem? (i := 1479) (by decide +kernel), List.mem_of_getElem? (i := 1480) (by decide +kernel)⟩
theorem lw_p68 : lw_okq (⟨"FourInksModel", "makeFits", "(II)V"⟩, 59) := ⟨⟨by decide +kernel, by decide +kernel⟩, List.mem_of_getElem? (i := 1191) (by decide +kernel), List.mem_of_getElem? (i := 1519) (by decide +kernel), List.mem_of_getElem? (i := 1520) (by decide +kernel)⟩
theorem lw_p69 : lw_okq (⟨"FourInksModel", "ask", "(II)V"⟩, 59) := ⟨⟨by decide +kernel, by decide +kernel⟩, List.mem_of_getElem? (i := 1191) (by decide +kernel), List.mem_of_getElem? (i := 1523) (by decide +kernel), List.mem_of_getElem? (i := 1524) (by decide +kernel)⟩
theorem lw_p70 : lw_okq (⟨"FourInksModel", "isFit", "(IIII)Z"⟩, 59) := ⟨⟨by decide +kernel, by decide +kernel⟩, List.mem_of_getElem? (i := 1191) (by decide +kernel), List.mem_of_getElem? (i := 1527) (by decide +kernel), List.mem_of_getElem? (i := 1528) (by decide +kernel)⟩
theorem lw_p71 : lw_okq (⟨"FourInksModel", "note", "(II)V"⟩, 59) := ⟨⟨by decide +kernel, by decide +kernel⟩, List.mem_of_getElem? (i := 1191) (by decide +kernel), List.mem_of_getElem? (i := 1534) (by decide +kernel), List.mem_of_getElem? (i := 1535) (by decide +kernel)⟩
theorem lw_p72 : lw_okq (⟨"FourInksModel", "badOf", "(IIII)I"⟩, 59) := ⟨⟨by decide +kernel, by decide +kernel⟩, List.mem_of_getElem? (i := 1191) (by decide +kernel), List.mem_of_getElem? (i := 1546) (by decide +kernel), List.mem_of_getElem? (i := 1547) (by decide +kernel)⟩
theorem lw_p73 : lw_okq (⟨"FourInksModel", "spreadTo", "(III)V"⟩, 59) := ⟨⟨by decide +kernel, by decide +kernel⟩, List.mem_of_getElem? (i := 1191) (by decide +kernel), List.mem_of_getElem? (i := 1562) (by decide +kernel), List.mem_of_getElem? (i := 1563) (by decide +kernel)⟩
theorem lw_p74 : lw_okq (⟨"FourInksModel", "look", "(IIIIII)I"⟩, 59) := ⟨⟨by decide +kernel, by decide +kernel⟩, List.mem_of_getElem? (i := 1191) (by decide +kernel), List.mem_of_getElem? (i := 1574) (by decide +kernel), List.mem_of_getElem? (i := 1575) (by decide +kernel)⟩
theorem lw_p75 : lw_okq (⟨"FourInksModel", "carry", "(III)V"⟩, 59) := ⟨⟨by decide +kernel, by decide +kernel⟩, List.mem_of_getElem? (i := 1191) (by decide +kernel), List.mem_of_getElem? (i := 1578) (by decide +kernel), List.mem_of_getElem? (i := 1579) (by decide +kernel)⟩
theorem lw_p76 : lw_okq (⟨"FourInksModel", "worstOf", "(IIIII)I"⟩, 59) := ⟨⟨by decide +kernel, by decide +kernel⟩, List.mem_of_getElem? (i := 1191) (by decide +kernel), List.mem_of_getElem? (i := 1592) (by decide +kernel), List.mem_of_getElem? (i := 1593) (by decide +kernel)⟩
theorem lw_p77 : lw_okq (⟨"FourInksModel", "heldRow", "(III)I"⟩, 59) := ⟨⟨by decide +kernel, by decide +kernel⟩, List.mem_of_getElem? (i := 1191) (by decide +kernel), List.mem_of_getElem? (i := 1612) (by decide +kernel), List.mem_of_getElem? (i := 1613) (by decide +kernel)⟩
theorem lw_p78 : lw_okq (⟨"FourInksModel", "isLevel", "(IIII)Z"⟩, 59) := ⟨⟨by decide +kernel, by decide +kernel⟩, List.mem_of_getElem? (i := 1191) (by decide +kernel), List.mem_of_getElem? (i := 1620) (by decide +kernel), List.mem_of_getElem? (i := 1621) (by decide +kernel)⟩
theorem lw_p79 : lw_okq (⟨"FourInksModel", "makeMeans", "(IIIII)J"⟩, 59) := ⟨⟨by decide +kernel, by decide +kernel⟩, List.mem_of_getElem? (i := 1191) (by decide +kernel), List.mem_of_getElem? (i := 1632) (by decide +kernel), List.mem_of_getElem? (i := 1633) (by decide +kernel)⟩
def lw_privs_5 : List (MethodName × Nat) := [(⟨"FourInksModel", "readSigned", "(I)Z"⟩, 59), (⟨"FourInksModel", "readBox", "()Z"⟩, 59), (⟨"FourInksModel", "readScreen", "()Z"⟩, 59), (⟨"FourInksModel", "readLies", "()Z"⟩, 59), (⟨"FourInksModel", "makeFits", "(II)V"⟩, 59), (⟨"FourInksModel", "ask", "(II)V"⟩, 59), (⟨"FourInksModel", "isFit", "(IIII)Z"⟩, 59), (⟨"FourInksModel", "note", "(II)V"⟩, 59), (⟨"FourInksModel", "badOf", "(IIII)I"⟩, 59), (⟨"FourInksModel", "spreadTo", "(III)V"⟩, 59), (⟨"FourInksModel", "look", "(IIIIII)I"⟩, 59), (⟨"FourInksModel", "carry", "(III)V"⟩, 59), (⟨"FourInksModel", "worstOf", "(IIIII)I"⟩, 59), (⟨"FourInksModel", "heldRow", "(III)I"⟩, 59), (⟨"FourInksModel", "isLevel", "(IIII)Z"⟩, 59), (⟨"FourInksModel", "makeMeans", "(IIIII)J"⟩, 59)]
theorem lw_r5 : ∀ q ∈ lw_privs_5, lw_okq q := List.forall_mem_cons.mpr ⟨lw_p64, List.forall_mem_cons.mpr ⟨lw_p65, List.forall_mem_cons.mpr ⟨lw_p66, List.forall_mem_cons.mpr ⟨lw_p67, List.forall_mem_cons.mpr ⟨lw_p68, List.forall_mem_cons.mpr ⟨lw_p69, List.forall_mem_cons.mpr ⟨lw_p70, List.forall_mem_cons.mpr ⟨lw_p71, List.forall_mem_cons.mpr ⟨lw_p72, List.forall_mem_cons.mpr ⟨lw_p73, List.forall_mem_cons.mpr ⟨lw_p74, List.forall_mem_cons.mpr ⟨lw_p75, List.forall_mem_cons.mpr ⟨lw_p76, List.forall_mem_cons.mpr ⟨lw_p77, List.forall_mem_cons.mpr ⟨lw_p78, List.forall_mem_cons.mpr ⟨lw_p79, fun _ h => absurd h List.not_mem_nil⟩⟩⟩⟩⟩⟩⟩⟩⟩⟩⟩⟩⟩⟩⟩⟩
theorem lw_p80 : lw_okq (⟨"FourInksModel", "goOn", "(IJIII)J"⟩, 59) := ⟨⟨by decide +kernel, by decide +kernel⟩, List.mem_of_getElem? (i := 1191) (by decide +kernel), List.mem_of_getElem? (i := 1637) (by decide +kernel), List.mem_of_getElem? (i := 1638) (by decide +kernel)⟩
theorem lw_p81 : lw_okq (⟨"FourInksModel", "beatOf", "(II)I"⟩, 59) := ⟨⟨by decide +kernel, by decide +kernel⟩, List.mem_of_getElem? (i := 1191) (by decide +kernel), List.mem_of_getElem? (i := 1658) (by decide +kernel), List.mem_of_getElem? (i := 1659) (by decide +kernel)⟩
theorem lw_p82 : lw_okq (⟨"FourInksModel", "sumOf", "(I)I"⟩, 59) := ⟨⟨by decide +kernel, by decide +kernel⟩, List.mem_of_getElem? (i := 1191) (by decide +kernel), List.mem_of_getElem? (i := 1673) (by decide +kernel), List.mem_of_getElem? (i := 1674) (by decide +kernel)⟩
def lw_privs_6 : List (MethodName × Nat) := [(⟨"FourInksModel", "goOn", "(IJIII)J"⟩, 59), (⟨"FourInksModel", "beatOf", "(II)I"⟩, 59), (⟨"FourInksModel", "sumOf", "(I)I"⟩, 59)]
theorem lw_r6 : ∀ q ∈ lw_privs_6, lw_okq q := List.forall_mem_cons.mpr ⟨lw_p80, List.forall_mem_cons.mpr ⟨lw_p81, List.forall_mem_cons.mpr ⟨lw_p82, fun _ h => absurd h List.not_mem_nil⟩⟩⟩
def lw_privs : List (MethodName × Nat) := lw_privs_1 ++ (lw_privs_2 ++ (lw_privs_3 ++ (lw_privs_4 ++ (lw_privs_5 ++ (lw_privs_6)))))
def lw_tbl : List Cond := k2_sels lw_privs ++ tables_1
theorem lw_privs_ok : ∀ q ∈ lw_privs, lw_okq q := by
  show ∀ q ∈ lw_privs_1 ++ (lw_privs_2 ++ (lw_privs_3 ++ (lw_privs_4 ++ (lw_privs_5 ++ (lw_privs_6))))), lw_okq q
  exact List.forall_mem_append.mpr ⟨lw_r1, List.forall_mem_append.mpr ⟨lw_r2, List.forall_mem_append.mpr ⟨lw_r3, List.forall_mem_append.mpr ⟨lw_r4, List.forall_mem_append.mpr ⟨lw_r5, lw_r6⟩⟩⟩⟩⟩
end
section
def RX0 : String := "FourInks$Board"
def TX0 : u_T := fun k => match k with
  | _ => ("FourInks$Board", "words", "[J", true)
def tyX0 : Nat → FieldType := fun k => match k with
  | _ => .array .long
abbrev wsX00 : List Cond := u_ws RX0 TX0 1
theorem nmX0 : ∀ a, a < 1 → ∀ b, b < 1 → a ≠ b → (TX0 a).2.1 ≠ (TX0 b).2.1 := by decide +kernel
theorem tyX0_ok : ∀ k, k < 1 → parseFieldDescriptor (TX0 k).2.2.1 = some (tyX0 k) := by decide +kernel
def RX1 : String := "FourInks$Fit"
def TX1 : u_T := fun k => match k with
  | 0 => ("FourInks$Fit", "size", "I", false)
  | 1 => ("FourInks$Fit", "x", "[I", true)
  | 2 => ("FourInks$Fit", "y", "[I", true)
  | 3 => ("FourInks$Fit", "across", "[I", true)
  | 4 => ("FourInks$Fit", "up", "[I", true)
  | 5 => ("FourInks$Fit", "leastA", "I", false)
  | 6 => ("FourInks$Fit", "greatestA", "I", false)
  | 7 => ("FourInks$Fit", "leastB", "I", false)
  | 8 => ("FourInks$Fit", "greatestB", "I", false)
  | 9 => ("FourInks$Fit", "slips", "I", false)
  | 10 => ("FourInks$Fit", "least", "[I", true)
  | _ => ("FourInks$Fit", "greatest", "[I", true)
def tyX1 : Nat → FieldType := fun k => match k with
  | 0 => .int
  | 1 => .array .int
  | 2 => .array .int
  | 3 => .array .int
  | 4 => .array .int
  | 5 => .int
  | 6 => .int
  | 7 => .int
  | 8 => .int
  | 9 => .int
  | 10 => .array .int
  | _ => .array .int
abbrev wsX10 : List Cond := u_ws RX1 TX1 12
theorem nmX1 : ∀ a, a < 12 → ∀ b, b < 12 → a ≠ b → (TX1 a).2.1 ≠ (TX1 b).2.1 := by decide +kernel
theorem tyX1_ok : ∀ k, k < 12 → parseFieldDescriptor (TX1 k).2.2.1 = some (tyX1 k) := by decide +kernel
def RX2 : String := "FourInks$Halts"
def TX2 : u_T := fun k => match k with
  | 0 => ("FourInks$Halts", "behind", "[J", true)
  | 1 => ("FourInks$Halts", "least", "[J", true)
  | 2 => ("FourInks$Halts", "going", "J", false)
  | _ => ("FourInks$Halts", "halting", "J", false)
def tyX2 : Nat → FieldType := fun k => match k with
  | 0 => .array .long
  | 1 => .array .long
  | 2 => .long
  | _ => .long
abbrev wsX20 : List Cond := u_ws RX2 TX2 4
theorem nmX2 : ∀ a, a < 4 → ∀ b, b < 4 → a ≠ b → (TX2 a).2.1 ≠ (TX2 b).2.1 := by decide +kernel
theorem tyX2_ok : ∀ k, k < 4 → parseFieldDescriptor (TX2 k).2.2.1 = some (tyX2 k) := by decide +kernel
def RX3 : String := "FourInks$Job"
def TX3 : u_T := fun k => match k with
  | 0 => ("FourInks$Job", "clauses", "I", false)
  | 1 => ("FourInks$Job", "width", "I", false)
  | 2 => ("FourInks$Job", "height", "I", false)
  | 3 => ("FourInks$Job", "marks", "I", false)
  | 4 => ("FourInks$Job", "markX", "[I", true)
  | 5 => ("FourInks$Job", "markY", "[I", true)
  | 6 => ("FourInks$Job", "slack", "I", false)
  | 7 => ("FourInks$Job", "screws", "[I", true)
  | 8 => ("FourInks$Job", "screwNumbers", "[I", true)
  | 9 => ("FourInks$Job", "turns", "I", false)
  | 10 => ("FourInks$Job", "boxes", "I", false)
  | 11 => ("FourInks$Job", "shapes", "[LFourInks$Board;", true)
  | 12 => ("FourInks$Job", "white", "I", false)
  | 13 => ("FourInks$Job", "ove\x72", "I", false)
  | 14 => ("FourInks$Job", "screens", "LFourInks$Screens;", true)
  | _ => ("FourInks$Job", "lies", "[I", true)
def tyX3 : Nat → FieldType := fun k => match k with
  | 0 => .int
  | 1 => .int
  | 2 => .int
  | 3 => .int
  | 4 => .array .int
  | 5 => .array .int
  | 6 => .int
  | 7 => .array .int
  | 8 => .array .int
  | 9 => .int
  | 10 => .int
  | 11 => .array (.object "FourInks$Board")
  | 12 => .int
  | 13 => .int
  | 14 => .object "FourInks$Screens"
  | _ => .array .int
abbrev wsX30 : List Cond := u_ws RX3 TX3 16
theorem nmX3 : ∀ a, a < 16 → ∀ b, b < 16 → a ≠ b → (TX3 a).2.1 ≠ (TX3 b).2.1 := by decide +kernel
theorem tyX3_ok : ∀ k, k < 16 → parseFieldDescriptor (TX3 k).2.2.1 = some (tyX3 k) := by decide +kernel
def RX4 : String := "FourInks$JobText"
def TX4 : u_T := fun k => match k with
  | 0 => ("FourInks$JobText", "tape", "LFourInks$Tape;", true)
  | 1 => ("FourInks$JobText", "clausesTold", "I", false)
  | 2 => ("FourInks$JobText", "pairsTold", "I", false)
  | 3 => ("FourInks$JobText", "draft", "LFourInks$Job;", false)
  | 4 => ("FourInks$JobText", "fault", "I", false)
  | _ => ("FourInks$JobText", "place", "I", false)
def tyX4 : Nat → FieldType := fun k => match k with
  | 0 => .object "FourInks$Tape"
  | 1 => .int
  | 2 => .int
  | 3 => .object "FourInks$Job"
  | 4 => .int
  | _ => .int
abbrev wsX40 : List Cond := u_ws RX4 TX4 6
theorem nmX4 : ∀ a, a < 6 → ∀ b, b < 6 → a ≠ b → (TX4 a).2.1 ≠ (TX4 b).2.1 := by decide +kernel
theorem tyX4_ok : ∀ k, k < 6 → parseFieldDescriptor (TX4 k).2.2.1 = some (tyX4 k) := by decide +kernel
def RX5 : String := "FourInks$Meeting"
def TX5 : u_T := fun k => match k with
  | 0 => ("FourInks$Meeting", "whitePrice", "I", false)
  | 1 => ("FourInks$Meeting", "overPrice", "I", false)
  | 2 => ("FourInks$Meeting", "wanted", "[J", true)
  | 3 => ("FourInks$Meeting", "common", "[J", true)
  | 4 => ("FourInks$Meeting", "first", "LFourInks$Board;", true)
  | 5 => ("FourInks$Meeting", "second", "LFourInks$Board;", true)
  | 6 => ("FourInks$Meeting", "slipped", "LFourInks$Board;", true)
  | 7 => ("FourInks$Meeting", "whiteCells", "I", false)
  | 8 => ("FourInks$Meeting", "overCells", "I", false)
  | 9 => ("FourInks$Meeting", "isFound", "Z", false)
  | 10 => ("FourInks$Meeting", "bestOne", "I", false)
  | _ => ("FourInks$Meeting", "bestTwo", "I", false)
def tyX5 : Nat → FieldType := fun k => match k with
  | 0 => .int
  | 1 => .int
  | 2 => .array .long
  | 3 => .array .long
  | 4 => .object "FourInks$Board"
  | 5 => .object "FourInks$Board"
  | 6 => .object "FourInks$Board"
  | 7 => .int
  | 8 => .int
  | 9 => .boolean
  | 10 => .int
  | _ => .int
abbrev wsX50 : List Cond := u_ws RX5 TX5 12
theorem nmX5 : ∀ a, a < 12 → ∀ b, b < 12 → a ≠ b → (TX5 a).2.1 ≠ (TX5 b).2.1 := by decide +kernel
theorem tyX5_ok : ∀ k, k < 12 → parseFieldDescriptor (TX5 k).2.2.1 = some (tyX5 k) := by decide +kernel
def RX6 : String := "FourInks$Mending"
def TX6 : u_T := fun k => match k with
  | 0 => ("FourInks$Mending", "a", "I", false)
  | 1 => ("FourInks$Mending", "b", "I", false)
  | 2 => ("FourInks$Mending", "\x72", "I", false)
  | 3 => ("FourInks$Mending", "s", "I", false)
  | 4 => ("FourInks$Mending", "row", "[I", true)
  | 5 => ("FourInks$Mending", "screws", "I", false)
  | _ => ("FourInks$Mending", "bestRow", "[I", true)
def tyX6 : Nat → FieldType := fun k => match k with
  | 0 => .int
  | 1 => .int
  | 2 => .int
  | 3 => .int
  | 4 => .array .int
  | 5 => .int
  | _ => .array .int
abbrev wsX60 : List Cond := u_ws RX6 TX6 7
theorem nmX6 : ∀ a, a < 7 → ∀ b, b < 7 → a ≠ b → (TX6 a).2.1 ≠ (TX6 b).2.1 := by decide +kernel
theorem tyX6_ok : ∀ k, k < 7 → parseFieldDescriptor (TX6 k).2.2.1 = some (tyX6 k) := by decide +kernel
def RX7 : String := "FourInks$Readings"
def TX7 : u_T := fun k => match k with
  | 0 => ("FourInks$Readings", "size", "I", false)
  | 1 => ("FourInks$Readings", "rights", "I", false)
  | 2 => ("FourInks$Readings", "latest", "I", false)
  | 3 => ("FourInks$Readings", "step", "[I", true)
  | 4 => ("FourInks$Readings", "ink", "[I", true)
  | 5 => ("FourInks$Readings", "mark", "[I", true)
  | 6 => ("FourInks$Readings", "across", "[I", true)
  | 7 => ("FourInks$Readings", "up", "[I", true)
  | 8 => ("FourInks$Readings", "rightOf", "[I", true)
  | 9 => ("FourInks$Readings", "rightStep", "[I", true)
  | 10 => ("FourInks$Readings", "rightAcross", "[I", true)
  | _ => ("FourInks$Readings", "rightUp", "[I", true)
def tyX7 : Nat → FieldType := fun k => match k with
  | 0 => .int
  | 1 => .int
  | 2 => .int
  | 3 => .array .int
  | 4 => .array .int
  | 5 => .array .int
  | 6 => .array .int
  | 7 => .array .int
  | 8 => .array .int
  | 9 => .array .int
  | 10 => .array .int
  | _ => .array .int
abbrev wsX70 : List Cond := u_ws RX7 TX7 12
theorem nmX7 : ∀ a, a < 12 → ∀ b, b < 12 → a ≠ b → (TX7 a).2.1 ≠ (TX7 b).2.1 := by decide +kernel
theorem tyX7_ok : ∀ k, k < 12 → parseFieldDescriptor (TX7 k).2.2.1 = some (tyX7 k) := by decide +kernel
def RX8 : String := "FourInks$Screens"
def TX8 : u_T := fun k => match k with
  | 0 => ("FourInks$Screens", "size", "I", false)
  | 1 => ("FourInks$Screens", "p", "[I", true)
  | 2 => ("FourInks$Screens", "q", "[I", true)
  | _ => ("FourInks$Screens", "setting", "[I", true)
def tyX8 : Nat → FieldType := fun k => match k with
  | 0 => .int
  | 1 => .array .int
  | 2 => .array .int
  | _ => .array .int
abbrev wsX80 : List Cond := u_ws RX8 TX8 4
theorem nmX8 : ∀ a, a < 4 → ∀ b, b < 4 → a ≠ b → (TX8 a).2.1 ≠ (TX8 b).2.1 := by decide +kernel
theorem tyX8_ok : ∀ k, k < 4 → parseFieldDescriptor (TX8 k).2.2.1 = some (tyX8 k) := by decide +kernel
def RX9 : String := "FourInks$Tape"
def TX9 : u_T := fun k => match k with
  | 0 => ("FourInks$Tape", "bytes", "[B", true)
  | 1 => ("FourInks$Tape", "at", "I", false)
  | 2 => ("FourInks$Tape", "length", "I", false)
  | 3 => ("FourInks$Tape", "kind", "I", false)
  | 4 => ("FourInks$Tape", "start", "I", false)
  | _ => ("FourInks$Tape", "value", "I", false)
def tyX9 : Nat → FieldType := fun k => match k with
  | 0 => .array .byte
  | 1 => .int
  | 2 => .int
  | 3 => .int
  | 4 => .int
  | _ => .int
abbrev wsX90 : List Cond := u_ws RX9 TX9 6
theorem nmX9 : ∀ a, a < 6 → ∀ b, b < 6 → a ≠ b → (TX9 a).2.1 ≠ (TX9 b).2.1 := by decide +kernel
theorem tyX9_ok : ∀ k, k < 6 → parseFieldDescriptor (TX9 k).2.2.1 = some (tyX9 k) := by decide +kernel
def RX10 : String := "FourInks$Tissue"
def TX10 : u_T := fun k => match k with
  | 0 => ("FourInks$Tissue", "greys", "[I", true)
  | 1 => ("FourInks$Tissue", "fewest", "[I", true)
  | 2 => ("FourInks$Tissue", "most", "[I", true)
  | 3 => ("FourInks$Tissue", "weights", "[[I", true)
  | 4 => ("FourInks$Tissue", "zones", "I", false)
  | 5 => ("FourInks$Tissue", "layers", "[I", true)
  | _ => ("FourInks$Tissue", "layersInAll", "I", false)
def tyX10 : Nat → FieldType := fun k => match k with
  | 0 => .array .int
  | 1 => .array .int
  | 2 => .array .int
  | 3 => .array (.array .int)
  | 4 => .int
  | 5 => .array .int
  | _ => .int
abbrev wsX100 : List Cond := u_ws RX10 TX10 7
theorem nmX10 : ∀ a, a < 7 → ∀ b, b < 7 → a ≠ b → (TX10 a).2.1 ≠ (TX10 b).2.1 := by decide +kernel
theorem tyX10_ok : ∀ k, k < 7 → parseFieldDescriptor (TX10 k).2.2.1 = some (tyX10 k) := by decide +kernel
def RX11 : String := "FourInks"
def TX11 : u_T := fun k => match k with
  | 0 => ("FourInks", "text", "LFourInks$JobText;", true)
  | 1 => ("FourInks", "tape", "LFourInks$Tape;", true)
  | 2 => ("FourInks", "job", "LFourInks$Job;", false)
  | 3 => ("FourInks", "readings", "LFourInks$Readings;", true)
  | 4 => ("FourInks", "fit", "LFourInks$Fit;", true)
  | 5 => ("FourInks", "mending", "LFourInks$Mending;", true)
  | 6 => ("FourInks", "meeting", "LFourInks$Meeting;", true)
  | 7 => ("FourInks", "proof", "[LFourInks$Board;", true)
  | 8 => ("FourInks", "signed", "Z", false)
  | 9 => ("FourInks", "moved", "LFourInks$Board;", true)
  | 10 => ("FourInks", "marked", "LFourInks$Board;", true)
  | 11 => ("FourInks", "run", "[I", true)
  | 12 => ("FourInks", "halts", "LFourInks$Halts;", true)
  | 13 => ("FourInks", "bed", "LFourInks$Tissue;", true)
  | _ => ("FourInks", "bestOrde\x72", "[I", true)
def tyX11 : Nat → FieldType := fun k => match k with
  | 0 => .object "FourInks$JobText"
  | 1 => .object "FourInks$Tape"
  | 2 => .object "FourInks$Job"
  | 3 => .object "FourInks$Readings"
  | 4 => .object "FourInks$Fit"
  | 5 => .object "FourInks$Mending"
  | 6 => .object "FourInks$Meeting"
  | 7 => .array (.object "FourInks$Board")
  | 8 => .boolean
  | 9 => .object "FourInks$Board"
  | 10 => .object "FourInks$Board"
  | 11 => .array .int
  | 12 => .object "FourInks$Halts"
  | 13 => .object "FourInks$Tissue"
  | _ => .array .int
abbrev wsX110 : List Cond := u_ws RX11 TX11 15
theorem nmX11 : ∀ a, a < 15 → ∀ b, b < 15 → a ≠ b → (TX11 a).2.1 ≠ (TX11 b).2.1 := by decide +kernel
theorem tyX11_ok : ∀ k, k < 15 → parseFieldDescriptor (TX11 k).2.2.1 = some (tyX11 k) := by decide +kernel
def RX12 : String := "FourInksModel"
def TX12 : u_T := fun k => match k with
  | 0 => ("FourInksModel", "tape", "[B", true)
  | 1 => ("FourInksModel", "taped", "I", false)
  | 2 => ("FourInksModel", "size", "I", false)
  | 3 => ("FourInksModel", "sort", "I", false)
  | 4 => ("FourInksModel", "key", "I", false)
  | 5 => ("FourInksModel", "at", "I", false)
  | 6 => ("FourInksModel", "end", "I", false)
  | 7 => ("FourInksModel", "numbe\x72", "I", false)
  | 8 => ("FourInksModel", "faultKind", "I", false)
  | 9 => ("FourInksModel", "faultPlace", "I", false)
  | 10 => ("FourInksModel", "got", "I", false)
  | 11 => ("FourInksModel", "num", "[I", true)
  | 12 => ("FourInksModel", "markX", "[I", true)
  | 13 => ("FourInksModel", "markY", "[I", true)
  | 14 => ("FourInksModel", "screwMany", "[I", true)
  | 15 => ("FourInksModel", "screws", "[I", true)
  | 16 => ("FourInksModel", "shapes", "[I", true)
  | 17 => ("FourInksModel", "screenP", "[I", true)
  | 18 => ("FourInksModel", "screenQ", "[I", true)
  | 19 => ("FourInksModel", "lies", "[I", true)
  | 20 => ("FourInksModel", "clauses", "I", false)
  | 21 => ("FourInksModel", "met", "I", false)
  | 22 => ("FourInksModel", "paired", "I", false)
  | 23 => ("FourInksModel", "readMany", "I", false)
  | 24 => ("FourInksModel", "rightMany", "I", false)
  | 25 => ("FourInksModel", "lastTold", "I", false)
  | 26 => ("FourInksModel", "rdTold", "[I", true)
  | 27 => ("FourInksModel", "rdInk", "[I", true)
  | 28 => ("FourInksModel", "rdMark", "[I", true)
  | 29 => ("FourInksModel", "rdAcross", "[I", true)
  | 30 => ("FourInksModel", "rdUp", "[I", true)
  | 31 => ("FourInksModel", "rTold", "[I", true)
  | 32 => ("FourInksModel", "rOf", "[I", true)
  | 33 => ("FourInksModel", "rAcross", "[I", true)
  | 34 => ("FourInksModel", "rUp", "[I", true)
  | 35 => ("FourInksModel", "askedMany", "I", false)
  | 36 => ("FourInksModel", "askedX", "[I", true)
  | 37 => ("FourInksModel", "askedY", "[I", true)
  | 38 => ("FourInksModel", "askedAcross", "[I", true)
  | 39 => ("FourInksModel", "askedUp", "[I", true)
  | 40 => ("FourInksModel", "fitMany", "I", false)
  | 41 => ("FourInksModel", "fitLeast", "[I", true)
  | 42 => ("FourInksModel", "fitMost", "[I", true)
  | 43 => ("FourInksModel", "turnMany", "I", false)
  | 44 => ("FourInksModel", "turned", "[I", true)
  | 45 => ("FourInksModel", "work", "[I", true)
  | 46 => ("FourInksModel", "whiteCells", "I", false)
  | 47 => ("FourInksModel", "overCells", "I", false)
  | 48 => ("FourInksModel", "hasSpread", "Z", false)
  | 49 => ("FourInksModel", "spreadK", "I", false)
  | 50 => ("FourInksModel", "spreadL", "I", false)
  | 51 => ("FourInksModel", "hasProof", "Z", false)
  | 52 => ("FourInksModel", "proof", "[I", true)
  | 53 => ("FourInksModel", "row", "[I", true)
  | 54 => ("FourInksModel", "mean", "[J", true)
  | 55 => ("FourInksModel", "layerMany", "I", false)
  | 56 => ("FourInksModel", "laye\x72", "[I", true)
  | 57 => ("FourInksModel", "behind", "[I", true)
  | _ => ("FourInksModel", "chosen", "[I", true)
def tyX12 : Nat → FieldType := fun k => match k with
  | 0 => .array .byte
  | 1 => .int
  | 2 => .int
  | 3 => .int
  | 4 => .int
  | 5 => .int
  | 6 => .int
  | 7 => .int
  | 8 => .int
  | 9 => .int
  | 10 => .int
  | 11 => .array .int
  | 12 => .array .int
  | 13 => .array .int
  | 14 => .array .int
  | 15 => .array .int
  | 16 => .array .int
  | 17 => .array .int
  | 18 => .array .int
  | 19 => .array .int
  | 20 => .int
  | 21 => .int
  | 22 => .int
  | 23 => .int
  | 24 => .int
  | 25 => .int
  | 26 => .array .int
  | 27 => .array .int
  | 28 => .array .int
  | 29 => .array .int
  | 30 => .array .int
  | 31 => .array .int
  | 32 => .array .int
  | 33 => .array .int
  | 34 => .array .int
  | 35 => .int
  | 36 => .array .int
  | 37 => .array .int
  | 38 => .array .int
  | 39 => .array .int
  | 40 => .int
  | 41 => .array .int
  | 42 => .array .int
  | 43 => .int
  | 44 => .array .int
  | 45 => .array .int
  | 46 => .int
  | 47 => .int
  | 48 => .boolean
  | 49 => .int
  | 50 => .int
  | 51 => .boolean
  | 52 => .array .int
  | 53 => .array .int
  | 54 => .array .long
  | 55 => .int
  | 56 => .array .int
  | 57 => .array .int
  | _ => .array .int
abbrev wsX120 : List Cond := u_ws RX12 TX12 59
theorem nmX12 : ∀ a, a < 59 → ∀ b, b < 59 → a ≠ b → (TX12 a).2.1 ≠ (TX12 b).2.1 := by decide +kernel
theorem tyX12_ok : ∀ k, k < 59 → parseFieldDescriptor (TX12 k).2.2.1 = some (tyX12 k) := by decide +kernel
def RJ13 : String := "java/lang/Long"
def RJ9 : String := "java/lang/Math"
def RJ0 : String := "java/lang/String"
def RJ1 : String := "java/lang/StringLatin1"
def RJ10 : String := "java/lang/System"
def RJ7 : String := "java/util/Arrays"
def RJ3 : String := "jdk/internal/util/Preconditions"
def RLw : String := "FourInksLaw"
def clsL : List vw_C := [(RX0, TX0, 1), (RX1, TX1, 12), (RX2, TX2, 4), (RX3, TX3, 16), (RX4, TX4, 6), (RX5, TX5, 12), (RX6, TX6, 7), (RX7, TX7, 12), (RX8, TX8, 4), (RX9, TX9, 6), (RX10, TX10, 7), (RX11, TX11, 15), (RX12, TX12, 59)]
theorem goodIn_r {big : List Cond} (ws : List Cond) (ps : List Nat) (hp : ws = ps.filterMap (fun i => big[i]?)) (h : ws.all goodWord = true) : GoodIn big ws := by
  intro w hw
  have h1 := List.all_eq_true.mp h w hw
  rw [hp] at hw
  obtain ⟨i, -, hi⟩ := List.mem_filterMap.mp hw
  have hm : w ∈ big := by first | exact List.mem_of_getElem? hi | exact List.getElem?_mem hi
  exact ⟨hm, good_of_word h1⟩
def tgL : List (List Nat) := [[2], [0, 2, 2, 2, 2, 0, 0, 0, 0, 0, 2, 2], [2, 2, 1, 1], [0, 0, 0, 0, 2, 2, 0, 2, 2, 0, 0, 2, 0, 0, 2, 2], [2, 0, 0, 2, 0, 0], [0, 0, 2, 2, 2, 2, 2, 0, 0, 0, 0, 0], [0, 0, 0, 0, 2, 0, 2], [0, 0, 0, 2, 2, 2, 2, 2, 2, 2, 2, 2], [0, 2, 2, 2], [2, 0, 0, 0, 0, 0], [2, 2, 2, 2, 0, 2, 0], [2, 2, 2, 2, 2, 2, 2, 2, 0, 2, 2, 2, 2, 2, 2], [2, 0, 0, 0, 0, 0, 0, 0, 0, 0, 0, 2, 2, 2, 2, 2, 2, 2, 2, 2, 0, 0, 0, 0, 0, 0, 2, 2, 2, 2, 2, 2, 2, 2, 2, 0, 2, 2, 2, 2, 0, 2, 2, 0, 2, 2, 0, 0, 0, 0, 0, 0, 2, 2, 2, 0, 2, 2, 2]]
def SH : List (Nat × Nat) := [(11, 0), (4, 0), (9, 0), (102, 900), (3, 0), (100, 8), (100, 8), (100, 4), (100, 36), (103, 4), (0, 0), (101, 4), (0, 0), (101, 4), (0, 0), (101, 4), (0, 0), (101, 4), (8, 0), (100, 8), (100, 8), (100, 4), (100, 16), (3, 0), (100, 8), (100, 8), (100, 4), (100, 36), (103, 4), (0, 0), (101, 4), (0, 0), (101, 4), (0, 0), (101, 4), (0, 0), (101, 4), (8, 0), (100, 8), (100, 8), (100, 4), (100, 16), (7, 0), (100, 24), (100, 24), (100, 24), (100, 24), (100, 24), (100, 20), (100, 20), (100, 20), (100, 20), (1, 0), (100, 24), (100, 24), (100, 24), (100, 24), (100, 4), (100, 4), (6, 0), (100, 3), (100, 3), (5, 0), (101, 4), (101, 4), (0, 0), (101, 4), (0, 0), (101, 4), (0, 0), (101, 4), (103, 4), (0, 0), (101, 4), (0, 0), (101, 4), (0, 0), (101, 4), (0, 0), (101, 4), (0, 0), (101, 4), (0, 0), (101, 4), (100, 24), (2, 0), (101, 7), (101, 7), (10, 0), (100, 20), (100, 20), (100, 20), (104, 21), (100, 10), (100, 10), (100, 10), (100, 10), (100, 10), (100, 10), (100, 10), (100, 10), (100, 10), (100, 10), (100, 10), (100, 10), (100, 10), (100, 10), (100, 10), (100, 10), (100, 10), (100, 10), (100, 10), (100, 10), (100, 10), (100, 20), (100, 4), (12, 0), (102, 900), (100, 18), (100, 16), (100, 16), (100, 8), (100, 72), (100, 128), (100, 16), (100, 16), (100, 32), (100, 24), (100, 24), (100, 24), (100, 24), (100, 24), (100, 20), (100, 20), (100, 20), (100, 20), (100, 24), (100, 24), (100, 24), (100, 24), (100, 4), (100, 4), (100, 3), (100, 64), (100, 64), (100, 24), (101, 14), (100, 20), (100, 210), (100, 4)]
def TBG : List Cond := lw_tbl.filter goodWord
theorem tbg {w : Cond} (i : Nat) (h : lw_tbl[i]? = some w) (hg : goodWord w = true) : w ∈ TBG := List.mem_filter.mpr ⟨List.mem_of_getElem? h, hg⟩
theorem tbg_good {w : Cond} (h : w ∈ TBG) : goodWord w = true := (List.mem_filter.mp h).2
theorem tbg_tbl {w : Cond} (h : w ∈ TBG) : w ∈ lw_tbl := (List.mem_filter.mp h).1
theorem tbg_all {ws : List Cond} (ps : List Nat) (hp : ws = ps.filterMap (fun i => lw_tbl[i]?)) (h : ws.all goodWord = true) : ∀ w ∈ ws, w ∈ TBG := fun w hw => List.mem_filter.mpr ⟨(goodIn_r ws ps hp h w hw).1, List.all_eq_true.mp h w hw⟩
theorem inT0 : ∀ w ∈ u_ws RX0 TX0 1, w ∈ TBG := tbg_all [167] (by decide +kernel) (by decide +kernel)
theorem inT1 : ∀ w ∈ u_ws RX1 TX1 12, w ∈ TBG := tbg_all [383, 385, 387, 389, 391, 393, 395, 397, 399, 401, 403, 405] (by decide +kernel) (by decide +kernel)
theorem inT2 : ∀ w ∈ u_ws RX2 TX2 4, w ∈ TBG := tbg_all [503, 505, 507, 509] (by decide +kernel) (by decide +kernel)
theorem inT3 : ∀ w ∈ u_ws RX3 TX3 16, w ∈ TBG := tbg_all [258, 260, 262, 264, 266, 268, 270, 272, 274, 276, 278, 280, 282, 284, 286, 288] (by decide +kernel) (by decide +kernel)
theorem inT4 : ∀ w ∈ u_ws RX4 TX4 6, w ∈ TBG := tbg_all [301, 303, 305, 307, 309, 311] (by decide +kernel) (by decide +kernel)
theorem inT5 : ∀ w ∈ u_ws RX5 TX5 12, w ∈ TBG := tbg_all [463, 465, 467, 469, 471, 473, 475, 477, 479, 481, 483, 485] (by decide +kernel) (by decide +kernel)
theorem inT6 : ∀ w ∈ u_ws RX6 TX6 7, w ∈ TBG := tbg_all [423, 425, 427, 429, 431, 433, 435] (by decide +kernel) (by decide +kernel)
theorem inT7 : ∀ w ∈ u_ws RX7 TX7 12, w ∈ TBG := tbg_all [337, 339, 341, 343, 345, 347, 349, 351, 353, 355, 357, 359] (by decide +kernel) (by decide +kernel)
theorem inT8 : ∀ w ∈ u_ws RX8 TX8 4, w ∈ TBG := tbg_all [186, 188, 190, 192] (by decide +kernel) (by decide +kernel)
theorem inT9 : ∀ w ∈ u_ws RX9 TX9 6, w ∈ TBG := tbg_all [135, 137, 139, 141, 143, 145] (by decide +kernel) (by decide +kernel)
theorem inT10 : ∀ w ∈ u_ws RX10 TX10 7, w ∈ TBG := tbg_all [531, 533, 535, 537, 539, 541, 543] (by decide +kernel) (by decide +kernel)
theorem inT11 : ∀ w ∈ u_ws RX11 TX11 15, w ∈ TBG := tbg_all [561, 563, 565, 567, 569, 571, 573, 575, 577, 579, 581, 583, 585, 587, 589] (by decide +kernel) (by decide +kernel)
theorem inT12 : ∀ w ∈ u_ws RX12 TX12 59, w ∈ TBG := tbg_all [1349, 1351, 1353, 1355, 1357, 1359, 1361, 1363, 1365, 1367, 1369, 1371, 1373, 1375, 1377, 1379, 1381, 1383, 1385, 1387, 1389, 1391, 1393, 1395, 1397, 1399, 1401, 1403, 1405, 1407, 1409, 1411, 1413, 1415, 1417, 1419, 1421, 1423, 1425, 1427, 1429, 1431, 1433, 1435, 1437, 1439, 1441, 1443, 1445, 1447, 1449, 1451, 1453, 1455, 1457, 1459, 1461, 1463, 1465] (by decide +kernel) (by decide +kernel)
end
section
/-! THE ENGINE: an abstract heap of numbered cells (their shapes are the list SH), and a judgement over it for a method's code -/
abbrev AH : Type := Nat × (Nat → Nat → Int32) × (Nat → Nat → Int64) × (Nat → Nat → Nat)
abbrev GH : Type := Nat × va_G × (Nat → ClassId) × (Nat → Nat) × (Nat → Nat)
abbrev MI : Type := MethodName × ByteArray × Nat × Option FieldType × Nat × Nat × Nat
def gI (h : AH) (r k : Nat) : Int32 := h.2.1 r k
def gL (h : AH) (r k : Nat) : Int64 := h.2.2.1 r k
def gF (h : AH) (r k : Nat) : Nat := h.2.2.2 r k
def up2 {α : Type} (f : Nat → Nat → α) (r k : Nat) (v : α) : Nat → Nat → α := fun r2 k2 => if r2 = r ∧ k2 = k then v else f r2 k2
def up1 {α : Type} (f : Nat → Nat → α) (r : Nat) (g : Nat → α) : Nat → Nat → α := fun r2 => if r2 = r then g else f r2
def sI (h : AH) (r k : Nat) (v : Int32) : AH := (h.1, up2 h.2.1 r k v, h.2.2.1, h.2.2.2)
def sL (h : AH) (r k : Nat) (v : Int64) : AH := (h.1, h.2.1, up2 h.2.2.1 r k v, h.2.2.2)
def sF (h : AH) (r k : Nat) (v : Nat) : AH := (h.1, h.2.1, h.2.2.1, up2 h.2.2.2 r k v)
def rI (h : AH) (r : Nat) (g : Nat → Int32) : AH := (h.1, up1 h.2.1 r g, h.2.2.1, h.2.2.2)
def rL (h : AH) (r : Nat) (g : Nat → Int64) : AH := (h.1, h.2.1, up1 h.2.2.1 r g, h.2.2.2)
def kd (i : Nat) : Nat := (SH.getD i (99, 0)).1
def ln (i : Nat) : Nat := (SH.getD i (99, 0)).2
def ro (G : GH) (i : Nat) : Option Nat := if i < 1000 then some (G.1 + i) else if i < 2000 then some (G.2.2.2.1 (i - 1000)) else none
def tv (G : GH) : Value → Value
  | .ref i => va_rf (ro G i)
  | v => v
def fv (G : GH) (h : AH) (i k t : Nat) : Value := match t with
  | 0 => .int (gI h i k)
  | 1 => .long (gL h i k)
  | _ => va_rf (ro G (gF h i k))
def ent (G : GH) (h : AH) (i : Nat) : va_E :=
  if kd i < 100 then .inr (kd i, (tgL.getD (kd i) []).mapIdx (fun k t => fv G h i k t))
  else .inl (G.2.2.1 (kd i - 100), ln i, if kd i = 101 then .inr (.inl (gL h i)) else if kd i < 103 then .inl (gI h i) else .inr (.inr (.inr (.inr (fun j => ro G (gF h i j))))))
def cellsOf (G : GH) (h : AH) : va_W := (List.range h.1).map (fun i => (G.1 + i, ent G h i))
def AM (G : GH) : Nat → Prop := fun q => G.1 ≤ q
def tyL (G : GH) : List (ClassId × FieldType) := [(G.2.2.1 0, .int), (G.2.2.1 1, .long), (G.2.2.1 2, .byte), (G.2.2.1 3, .object "FourInks$Board"), (G.2.2.1 4, .array .int)]
theorem cells_at (G : GH) (h : AH) {i : Nat} (hi : i < h.1) : (cellsOf G h)[i]? = some (G.1 + i, ent G h i) := by
  simp [cellsOf, hi]
theorem cells_spec {G : GH} {h : AH} {i : Nat} {q : Nat × va_E} (hq : (cellsOf G h)[i]? = some q) : i < h.1 ∧ q = (G.1 + i, ent G h i) := by
  have hl : i < (cellsOf G h).length := (List.getElem?_eq_some_iff.mp hq).1
  have hi : i < h.1 := by simpa [cellsOf] using hl
  rw [cells_at G h hi] at hq
  exact ⟨hi, (Option.some.inj hq).symm⟩
theorem cells_set (G : GH) {h h2 : AH} (hn : h2.1 = h.1) (r : Nat) {e : va_E} (he : ent G h2 r = e) (ho : ∀ i, i ≠ r → ent G h2 i = ent G h i) : (cellsOf G h).set r (G.1 + r, e) = cellsOf G h2 := by
  apply List.ext_getElem?
  intro i
  by_cases hi : i < h.1
  · rw [cells_at G h2 (by omega)]
    by_cases hr : r = i
    · subst hr
      rw [List.getElem?_set_self (by simpa [cellsOf] using hi), he]
    · rw [List.getElem?_set_ne hr, cells_at G h hi, ho i (Ne.symm hr)]
  · rw [List.getElem?_eq_none (by simp [cellsOf]; omega), List.getElem?_eq_none (by simp [cellsOf]; omega)]
theorem cells_D (G : GH) (h : AH) : va_D (AM G) (cellsOf G h) := by
  refine ⟨fun i j p q hp hq e => ?_, fun k q hq => ?_⟩
  · obtain ⟨-, rfl⟩ := cells_spec hp
    obtain ⟨-, rfl⟩ := cells_spec hq
    have e2 : G.1 + i = G.1 + j := e
    omega
  · obtain ⟨-, rfl⟩ := cells_spec hq
    exact Nat.le_add_right _ _
theorem cells_push (G : GH) {h h2 : AH} (hn : h2.1 = h.1 + 1) {e : va_E} (he : ent G h2 h.1 = e) (ho : ∀ i, i < h.1 → ent G h2 i = ent G h i) : cellsOf G h ++ [(G.1 + h.1, e)] = cellsOf G h2 := by
  unfold cellsOf
  rw [hn, List.range_succ, List.map_append]
  congr 1
  · apply List.map_congr_left
    intro i hi
    rw [ho i (List.mem_range.mp hi)]
  · simp [he]
theorem tv_cat (G : GH) (v : Value) : (tv G v).category = v.category := by
  cases v <;> try rfl
  rename_i a
  simp only [tv]
  cases ro G a <;> rfl
theorem tv_cats (G : GH) (l : List Value) : ((l.map (tv G)).map fun v => v.category).sum = (l.map fun v => v.category).sum := by
  rw [List.map_map]
  congr 1
  apply List.map_congr_left
  intro v _
  exact tv_cat G v
/-- the words on a private member of a nest mate -/
def isNest : Cond → Bool
  | .methodLinkNest .. => true
  | _ => false
def NWL : List Cond := lw_tbl.filter isNest
def strL : List (String × Nat × String) := [("FourInks$JobText", 59, "sheet   slack   turns   white   over    mark    screw   box     screen  lies    "), ("FourInks$JobText", 171, "blue    red     yellow  black   "), ("FourInksModel", 127, "blue red yellow black sheet mark slack screw turns box white over screen lies ")]
def strB (i : Nat) : List Int32 := ((strL.getD i ("", 0, "")).2.2.toList.map (fun ch => Int32.ofNat ch.toNat))
def strBL : List (List Int32) := [strB 0, strB 1, strB 2]
def Cs (G : GH) (s : State) : Prop :=
  va_K G.2.1 clsL (tyL G) s ∧ (∀ w ∈ NWL, va_Nw w s) ∧ (∀ (i : Nat) (q : String × Nat × String), strL[i]? = some q → vk_R q.1 q.2.1 q.2.2 (G.2.2.2.1 i) s) ∧ va_AO "FourInks$Board" s
def St (G : GH) (s : State) (H : Heap) : Prop :=
  vk_S 3 [80, 32, 78] strBL G.2.2.2.1 G.2.2.2.2 (AM G) s H ∧ va_Z "java/lang/String" "COMPACT_STRINGS" "Z" (.int 1) (AM G) s H ∧ va_Zq "jdk/internal/util/Preconditions" "SIOOBE_FORMATTER" "Ljava/util/function/BiFunction;" (AM G) s H
theorem nest_form {w : Cond} (h : w ∈ NWL) : ∃ (a : String) (i : Nat) (x : MethodName) (b : String), w = .methodLinkNest a i x b := by
  have h1 := (List.mem_filter.mp h).2
  cases w <;> first | exact ⟨_, _, _, _, rfl⟩ | (simp [isNest] at h1; done)
theorem Cs.warm {G : GH} {s U : State} (hW : s.WarmedH U.vm) (h : Cs G s) : Cs G U := by
  refine ⟨va_K.moved hW.alike h.1, fun w hw => ?_, fun i q hq => vk_R.warm hW (h.2.2.1 i q hq), va_AO.moved hW.alike h.2.2.2⟩
  obtain ⟨a, i, x, b, rfl⟩ := nest_form hw
  exact va_Nw.warmM hW (h.2.1 _ hw)
theorem Cs.same {G : GH} {u U : State} (hv : U.vm = u.vm) (h : Cs G u) : Cs G U := by
  have hal : u.vm.Alike U.vm := by rw [hv]; exact Vm.Alike.refl u.vm
  refine ⟨va_K.moved hal h.1, fun w hw => ?_, fun i q hq => vk_R.same hv (h.2.2.1 i q hq), va_AO.moved hal h.2.2.2⟩
  obtain ⟨a, i, x, b, rfl⟩ := nest_form hw
  exact va_Nw.same rfl hv.symm (h.2.1 _ hw)
theorem St.moved {G : GH} {u U : State} {H : Heap} (hvm : u.vm.Alike U.vm) (h : St G u H) : St G U H :=
  ⟨vk_S.moved hvm h.1, va_Z.moved hvm h.2.1, va_Zq.moved hvm h.2.2⟩
theorem St.kept {G : GH} {U : State} {H H1 : Heap} (h : St G U H) (hq : ∀ a : Nat, a < H.size → ¬ AM G a → H1[a]? = H[a]?) : St G U H1 :=
  ⟨vk_S.kept h.1 hq, va_Z.kept h.2.1 hq, va_Zq.kept h.2.2 hq⟩
def wsM (M : MI) : List Cond := .code M.1 M.2.1 M.2.2.1 M.2.2.2.1 :: TBG
def rmM (M : MI) : Room := { frames := M.2.2.2.2.1, cells := M.2.2.2.2.2.1, slots := M.2.2.2.2.2.2, locals := 38 * M.2.2.2.2.1 }
/-- the world at a state -/
def Wd (G : GH) (h : AH) (U : State) : Prop :=
  U.heap.size = G.1 + h.1 ∧ h.1 ≤ 1000 ∧ va_P G.2.1 clsL (cellsOf G h) U.heap ∧ Cs G U ∧ St G U U.heap
def PcM (G : GH) (as : List Value) (h : AH) : Array Value → State → Prop := fun v U => v = (as.map (tv G)).toArray ∧ Wd G h U
def QcM (G : GH) (P : Option Value → AH → Prop) : Array Value → State → Outcome → State → Prop := fun _ st oc t =>
  (∃ (v : Option Value) (h2 : AH), oc = .returned (v.map (tv G)) ∧ P v h2 ∧ Wd G h2 t) ∧ va_F (AM G) st t
/-- a call of M with these arguments over this heap comes back, with P of its answer and of the heap then -/
def Call (M : MI) (as : List Value) (h : AH) (P : Option Value → AH → Prop) : Prop :=
  ∀ (l : Launch) (G : GH), Met l M.1 (wsM M) (rmM M) (PcM G as h) (QcM G P) M.2.2.2.2.2.1 M.2.2.2.2.2.2 (AM G)
def Cx (M : MI) (G : GH) (p : Program) (Rm : Room) (s : State) (m : MethodId) (args : Array Value) (meth : Method) (c : Code) : Prop :=
  p.tables.exec = Jvm.exec ∧ c.code = M.2.1 ∧ meth.sig.returnType = M.2.2.2.1 ∧ c.maxLocals = M.2.2.1 ∧ s.vm.findClass M.1.cls = some m.cls ∧ (∀ w ∈ TBG, w.before args s = true) ∧ meth.locks = false ∧ meth.name = M.1.name ∧ M.2.2.2.2.1 ≤ Rm.frames ∧ 38 * M.2.2.2.2.1 ≤ Rm.locals ∧ Cs G s ∧ St G s s.heap ∧ G.1 ≤ s.heap.size
def Hp (G : GH) (h : AH) (s : State) (H : Heap) (locs : List Loc) : Prop :=
  H.size = G.1 + h.1 ∧ h.1 ≤ 1000 ∧ va_P G.2.1 clsL (cellsOf G h) H ∧ va_S (AM G) s.heap H locs
def RetI (M : MI) (pc : Nat) (v : Option Value) : Prop :=
  (v = none ∧ M.2.2.2.1 = none ∧ decode M.2.1 pc = .ok (.return_, 1)) ∨
  (∃ (x : Int32) (ty : FieldType), v = some (.int x) ∧ M.2.2.2.1 = some ty ∧ narrow ty (.int x) = .int x ∧ decode M.2.1 pc = .ok (.ireturn, 1)) ∨
  (∃ x : Int64, v = some (.long x) ∧ M.2.2.2.1 = some .long ∧ decode M.2.1 pc = .ok (.lreturn, 1)) ∨
  (∃ (i : Nat) (ty : FieldType), v = some (.ref i) ∧ M.2.2.2.1 = some ty ∧ ((∃ n, ty = .object n) ∨ ∃ t, ty = .array t) ∧ decode M.2.1 pc = .ok (.areturn, 1))
/-- what M's code does from pc on, with these locals, this operand stack, this heap: it comes to its return with P; kc cells of ks slots may still be made -/
def Rr (M : MI) (kc ks pc : Nat) (ls : List (Nat × Value)) (st : List Value) (h : AH) (P : Option Value → AH → Prop) : Prop :=
  ∀ (G : GH) (p : Program) (l : Launch) (e : Env) (Rm : Room) (s : State) (m : MethodId) (args : Array Value) (below : List Frame) (meth : Method) (c : Code) (H : Heap) (locs : List Loc) (cells slots : Nat) (Q : State → Prop) (la : Array Slot),
    Cx M G p Rm s m args meth c → Hp G h s H locs → cells + kc ≤ Rm.cells → slots + ks ≤ Rm.slots →
    (∀ (v : Option Value) (h2 : AH) (H2 : Heap) (locs2 : List Loc) (la2 : Array Slot) (pc2 : Nat), P v h2 → Hp G h2 s H2 locs2 → RetI M pc2 v → W p l e Rm s m args below meth c H2 locs2 (cells + kc) (slots + ks) Q (F0 m pc2 la2 (v.toList.map (tv G)))) →
    lv_has la M.2.2.1 (ls.map (fun q => (q.1, tv G q.2))) →
    W p l e Rm s m args below meth c H locs cells slots Q (F0 m pc la (st.map (tv G)))
theorem W.lret2 {p : Program} {l : Launch} {e : Env} {R : Room} {s : State} {m : MethodId} {args : Array Value} {below : List Frame} {meth : Method} {c : Code} {H : Heap} {locs : List Loc} {cells slots : Nat} {cc : ByteArray} {Qc : Array Value → State → Outcome → State → Prop} {free : Addr → Prop} {v : Int64} (hexec : p.tables.exec = Jvm.exec) (hb : c.code = cc) (hr : meth.sig.returnType = some .long)
    (hq : ∀ t : State, t.heap = H → s.WarmedH t.vm → Qc args s (.returned (some (.long v))) t) (hf : ∀ q ∈ locs, free q.base)
    {pc : Nat} {ls : Array Slot} (hdg : decode cc pc = .ok (.lreturn, 1)) (hlocks : meth.locks = false) : W p l e R s m args below meth c H locs cells slots (MQ below Qc args s cells slots free) (F0 m pc ls [.long v]) := by
  first
    | exact W.lret hexec hb hr hq hf hdg
    | exact W.lret hexec hb hr hq hf hdg hlocks
theorem sl_len (G : GH) : ∀ as : List Value, (lg_sl (as.map (tv G))).length = (lg_sl as).length
  | [] => rfl
  | a :: t => by
    have ih := sl_len G t
    simp only [lg_sl, List.map_cons, List.flatMap_cons, List.length_append, tv_cat] at ih ⊢
    rw [ih]
    congr 1
    split <;> rfl
theorem Call.ofR {M : MI} {as : List Value} {h : AH} {P : Option Value → AH → Prop} (hy : plainName M.1.cls = true) (hlen : (lg_sl as).length ≤ M.2.2.1) (hR : Rr M M.2.2.2.2.2.1 M.2.2.2.2.2.2 0 (lv_args 0 as) [] h P) : Call M as h P := by
  intro l G
  refine Met.ofW (cc := M.2.1) (maxL := M.2.2.1) (ret := M.2.2.2.1) hy rfl ?_
  intro p e s m args below meth c s₁ B hml hv
  obtain ⟨rfl, hsz, h1000, hP, hC, hSt⟩ := hv
  have hts := atoms_spec (ws := wsM M) B.pre
  have hown : s.vm.findClass M.1.cls = some m.cls := findClass_of_methodNamed B.named
  have hlocks := B.notSynchronized
  have hnm : meth.name = M.1.name := (name_of_methodNamed B.named B.method).1
  have hcx : Cx M G p (headSpec (wsM M) (rmM M)).room s m (as.map (tv G)).toArray meth c := ⟨B.exec, B.bytes, B.returns, hml, hown, fun w hw => hts w (List.mem_cons_of_mem _ hw), hlocks, hnm, Nat.le_refl _, Nat.le_refl _, hC, hSt, by omega⟩
  have hsl : (lg_sl (as.map (tv G))).length = (lg_sl as).length := sl_len G as
  have hargs : ∀ (as : List Value) (i : Nat), lv_args i (as.map (tv G)) = (lv_args i as).map (fun q => (q.1, tv G q.2)) := by
    intro as
    induction as with
    | nil => intro i; rfl
    | cons a t ih =>
      intro i
      simp only [List.map_cons, lv_args, tv_cat, ih]
  have hl := lv_entry (as.map (tv G)) (n := M.2.2.1) (by rw [hsl]; exact hlen)
  rw [lg_entry_eq]
  rw [hargs] at hl
  refine hR G p l e _ s m _ below meth c s.heap [] 0 0 _ _ hcx ⟨hsz, h1000, hP, va_S.rf⟩ (by rw [Nat.zero_add]; exact Nat.le_refl _) (by rw [Nat.zero_add]; exact Nat.le_refl _) ?_ hl
  intro v h2 H2 locs2 la2 pc2 hPv hH hret
  rw [Nat.zero_add, Nat.zero_add]
  have hend : ∀ t : State, t.heap = H2 → s.WarmedH t.vm → QcM G P (as.map (tv G)).toArray s (.returned (v.map (tv G))) t := fun t ht hW =>
    ⟨⟨v, h2, rfl, hPv, by rw [ht]; exact hH.1, hH.2.1, by rw [ht]; exact hH.2.2.1, hC.warm hW, by rw [ht]; exact (hSt.moved hW.alike).kept hH.2.2.2.2.1⟩, hH.2.2.2.F ht⟩
  rcases hret with ⟨rfl, hr, hd⟩ | ⟨x, ty, rfl, hr, hn, hd⟩ | ⟨x, rfl, hr, hd⟩ | ⟨i, ty, rfl, hr, hty, hd⟩
  · exact W.vret B.exec B.bytes (B.returns.trans hr) hend hH.2.2.2.2.2 hd hlocks
  · exact W.zret B.exec B.bytes (B.returns.trans hr) hn hend hH.2.2.2.2.2 hd hlocks
  · exact W.lret2 B.exec B.bytes (B.returns.trans hr) hend hH.2.2.2.2.2 hd hlocks
  · refine W.aret (v := va_rf (ro G i)) B.exec B.bytes (B.returns.trans hr) hty ?_ hend hH.2.2.2.2.2 hd hlocks
    cases ro G i with
    | none => exact Or.inl rfl
    | some a => exact Or.inr ⟨a, rfl⟩
end
section
theorem str_at {G : GH} {s : State} {j : Nat} {o tx : String} {i : Nat} (h : Cs G s) (hj : strL[j]? = some (o, i, tx)) : vk_R o i tx (G.2.2.2.1 j) s := h.2.2.1 j _ hj
theorem str_ro (G : GH) {j : Nat} {q : String × Nat × String} (hj : strL[j]? = some q) : tv G (.ref (1000 + j)) = .ref (G.2.2.2.1 j) := by
  have hl : j < 3 := (List.getElem?_eq_some_iff.mp hj).1
  simp only [tv, ro]
  rw [if_neg (by omega), if_pos (by omega), show 1000 + j - 1000 = j by omega]
  rfl
theorem ref_str {p : Program} {l : Launch} {e : Env} {R : Room} {s : State} {m : MethodId} {args : Array Value} {below : List Frame} {meth : Method} {c : Code} {H : Heap} {locs : List Loc} {cells slots pc : Nat} {Q : State → Prop} {la : Array Slot} {st : List Value} {G : GH} {j : Nat} {q : String × Nat × String} (hj : strL[j]? = some q) (k : W p l e R s m args below meth c H locs cells slots Q (F0 m pc la ((Value.ref (1000 + j) :: st).map (tv G)))) : W p l e R s m args below meth c H locs cells slots Q (F0 m pc la (.ref (G.2.2.2.1 j) :: st.map (tv G))) := by
  rw [List.map_cons, str_ro G hj] at k
  exact k
section RULES
variable {M : MI} {kc ks pc : Nat} {ls : List (Nat × Value)} {st : List Value} {h : AH} {P : Option Value → AH → Prop}
theorem R_iadd {x y : Int32} (hd : decode M.2.1 pc = .ok (.iadd, 1))  (k : Rr M kc ks (pc + 1) ls (.int (x + y) :: st) h P) : Rr M kc ks pc ls (.int y :: .int x :: st) h P :=
  fun G p l e Rm s m args below meth c H locs cells slots Q la C hp h1 h2 hr hl => lv_iadd C.1 C.2.1 hd (k G p l e Rm s m args below meth c H locs cells slots Q la C hp h1 h2 hr hl)
theorem R_isub {x y : Int32} (hd : decode M.2.1 pc = .ok (.isub, 1))  (k : Rr M kc ks (pc + 1) ls (.int (x - y) :: st) h P) : Rr M kc ks pc ls (.int y :: .int x :: st) h P :=
  fun G p l e Rm s m args below meth c H locs cells slots Q la C hp h1 h2 hr hl => lv_isub C.1 C.2.1 hd (k G p l e Rm s m args below meth c H locs cells slots Q la C hp h1 h2 hr hl)
theorem R_imul {x y : Int32} (hd : decode M.2.1 pc = .ok (.imul, 1))  (k : Rr M kc ks (pc + 1) ls (.int (x * y) :: st) h P) : Rr M kc ks pc ls (.int y :: .int x :: st) h P :=
  fun G p l e Rm s m args below meth c H locs cells slots Q la C hp h1 h2 hr hl => lv_imul C.1 C.2.1 hd (k G p l e Rm s m args below meth c H locs cells slots Q la C hp h1 h2 hr hl)
theorem R_iand {x y : Int32} (hd : decode M.2.1 pc = .ok (.iand, 1))  (k : Rr M kc ks (pc + 1) ls (.int (x &&& y) :: st) h P) : Rr M kc ks pc ls (.int y :: .int x :: st) h P :=
  fun G p l e Rm s m args below meth c H locs cells slots Q la C hp h1 h2 hr hl => lv_iand C.1 C.2.1 hd (k G p l e Rm s m args below meth c H locs cells slots Q la C hp h1 h2 hr hl)
theorem R_ior {x y : Int32} (hd : decode M.2.1 pc = .ok (.ior, 1))  (k : Rr M kc ks (pc + 1) ls (.int (x ||| y) :: st) h P) : Rr M kc ks pc ls (.int y :: .int x :: st) h P :=
  fun G p l e Rm s m args below meth c H locs cells slots Q la C hp h1 h2 hr hl => lv_ior C.1 C.2.1 hd (k G p l e Rm s m args below meth c H locs cells slots Q la C hp h1 h2 hr hl)
theorem R_ixor {x y : Int32} (hd : decode M.2.1 pc = .ok (.ixor, 1))  (k : Rr M kc ks (pc + 1) ls (.int (x ^^^ y) :: st) h P) : Rr M kc ks pc ls (.int y :: .int x :: st) h P :=
  fun G p l e Rm s m args below meth c H locs cells slots Q la C hp h1 h2 hr hl => lv_ixor C.1 C.2.1 hd (k G p l e Rm s m args below meth c H locs cells slots Q la C hp h1 h2 hr hl)
theorem R_ishl {x y : Int32} (hd : decode M.2.1 pc = .ok (.ishl, 1))  (k : Rr M kc ks (pc + 1) ls (.int (x <<< (y &&& 31)) :: st) h P) : Rr M kc ks pc ls (.int y :: .int x :: st) h P :=
  fun G p l e Rm s m args below meth c H locs cells slots Q la C hp h1 h2 hr hl => lv_ishl C.1 C.2.1 hd (k G p l e Rm s m args below meth c H locs cells slots Q la C hp h1 h2 hr hl)
theorem R_ishr {x y : Int32} (hd : decode M.2.1 pc = .ok (.ishr, 1))  (k : Rr M kc ks (pc + 1) ls (.int (x >>> (y &&& 31)) :: st) h P) : Rr M kc ks pc ls (.int y :: .int x :: st) h P :=
  fun G p l e Rm s m args below meth c H locs cells slots Q la C hp h1 h2 hr hl => lv_ishr C.1 C.2.1 hd (k G p l e Rm s m args below meth c H locs cells slots Q la C hp h1 h2 hr hl)
theorem R_idiv {x y : Int32} (hd : decode M.2.1 pc = .ok (.idiv, 1)) (hne : ¬ y = 0) (k : Rr M kc ks (pc + 1) ls (.int (x / y) :: st) h P) : Rr M kc ks pc ls (.int y :: .int x :: st) h P :=
  fun G p l e Rm s m args below meth c H locs cells slots Q la C hp h1 h2 hr hl => lv_idiv C.1 C.2.1 hd hne (k G p l e Rm s m args below meth c H locs cells slots Q la C hp h1 h2 hr hl)
theorem R_irem {x y : Int32} (hd : decode M.2.1 pc = .ok (.irem, 1)) (hne : ¬ y = 0) (k : Rr M kc ks (pc + 1) ls (.int (x % y) :: st) h P) : Rr M kc ks pc ls (.int y :: .int x :: st) h P :=
  fun G p l e Rm s m args below meth c H locs cells slots Q la C hp h1 h2 hr hl => lv_irem C.1 C.2.1 hd hne (by rw [irem_eq_mod]; exact k G p l e Rm s m args below meth c H locs cells slots Q la C hp h1 h2 hr hl)
theorem R_ineg {x : Int32} (hd : decode M.2.1 pc = .ok (.ineg, 1))  (k : Rr M kc ks (pc + 1) ls (.int (-x) :: st) h P) : Rr M kc ks pc ls (.int x :: st) h P :=
  fun G p l e Rm s m args below meth c H locs cells slots Q la C hp h1 h2 hr hl => lv_ineg C.1 C.2.1 hd (k G p l e Rm s m args below meth c H locs cells slots Q la C hp h1 h2 hr hl)
theorem R_ladd {x y : Int64} (hd : decode M.2.1 pc = .ok (.ladd, 1))  (k : Rr M kc ks (pc + 1) ls (.long (x + y) :: st) h P) : Rr M kc ks pc ls (.long y :: .long x :: st) h P :=
  fun G p l e Rm s m args below meth c H locs cells slots Q la C hp h1 h2 hr hl => lv_ladd C.1 C.2.1 hd (k G p l e Rm s m args below meth c H locs cells slots Q la C hp h1 h2 hr hl)
theorem R_lsub {x y : Int64} (hd : decode M.2.1 pc = .ok (.lsub, 1))  (k : Rr M kc ks (pc + 1) ls (.long (x - y) :: st) h P) : Rr M kc ks pc ls (.long y :: .long x :: st) h P :=
  fun G p l e Rm s m args below meth c H locs cells slots Q la C hp h1 h2 hr hl => lv_lsub C.1 C.2.1 hd (k G p l e Rm s m args below meth c H locs cells slots Q la C hp h1 h2 hr hl)
theorem R_lmul {x y : Int64} (hd : decode M.2.1 pc = .ok (.lmul, 1))  (k : Rr M kc ks (pc + 1) ls (.long (x * y) :: st) h P) : Rr M kc ks pc ls (.long y :: .long x :: st) h P :=
  fun G p l e Rm s m args below meth c H locs cells slots Q la C hp h1 h2 hr hl => lv_lmul C.1 C.2.1 hd (k G p l e Rm s m args below meth c H locs cells slots Q la C hp h1 h2 hr hl)
theorem R_land {x y : Int64} (hd : decode M.2.1 pc = .ok (.land, 1))  (k : Rr M kc ks (pc + 1) ls (.long (x &&& y) :: st) h P) : Rr M kc ks pc ls (.long y :: .long x :: st) h P :=
  fun G p l e Rm s m args below meth c H locs cells slots Q la C hp h1 h2 hr hl => lv_land C.1 C.2.1 hd (k G p l e Rm s m args below meth c H locs cells slots Q la C hp h1 h2 hr hl)
theorem R_lor {x y : Int64} (hd : decode M.2.1 pc = .ok (.lor, 1))  (k : Rr M kc ks (pc + 1) ls (.long (x ||| y) :: st) h P) : Rr M kc ks pc ls (.long y :: .long x :: st) h P :=
  fun G p l e Rm s m args below meth c H locs cells slots Q la C hp h1 h2 hr hl => lv_lor C.1 C.2.1 hd (k G p l e Rm s m args below meth c H locs cells slots Q la C hp h1 h2 hr hl)
theorem R_lxor {x y : Int64} (hd : decode M.2.1 pc = .ok (.lxor, 1))  (k : Rr M kc ks (pc + 1) ls (.long (x ^^^ y) :: st) h P) : Rr M kc ks pc ls (.long y :: .long x :: st) h P :=
  fun G p l e Rm s m args below meth c H locs cells slots Q la C hp h1 h2 hr hl => lv_lxor C.1 C.2.1 hd (k G p l e Rm s m args below meth c H locs cells slots Q la C hp h1 h2 hr hl)
theorem R_i2l {x : Int32} (hd : decode M.2.1 pc = .ok (.i2l, 1))  (k : Rr M kc ks (pc + 1) ls (.long x.toInt64 :: st) h P) : Rr M kc ks pc ls (.int x :: st) h P :=
  fun G p l e Rm s m args below meth c H locs cells slots Q la C hp h1 h2 hr hl => lv_i2l C.1 C.2.1 hd rfl (k G p l e Rm s m args below meth c H locs cells slots Q la C hp h1 h2 hr hl)
theorem R_l2i {x : Int64} (hd : decode M.2.1 pc = .ok (.l2i, 1))  (k : Rr M kc ks (pc + 1) ls (.int x.toInt32 :: st) h P) : Rr M kc ks pc ls (.long x :: st) h P :=
  fun G p l e Rm s m args below meth c H locs cells slots Q la C hp h1 h2 hr hl => lv_l2i C.1 C.2.1 hd rfl (k G p l e Rm s m args below meth c H locs cells slots Q la C hp h1 h2 hr hl)
theorem R_i2b {x : Int32} (hd : decode M.2.1 pc = .ok (.i2b, 1))  (k : Rr M kc ks (pc + 1) ls (.int x.toInt8.toInt32 :: st) h P) : Rr M kc ks pc ls (.int x :: st) h P :=
  fun G p l e Rm s m args below meth c H locs cells slots Q la C hp h1 h2 hr hl => lv_i2b C.1 C.2.1 hd rfl (k G p l e Rm s m args below meth c H locs cells slots Q la C hp h1 h2 hr hl)
def iushr (x y : Int32) : Int32 := (x.toUInt32 >>> (y.toUInt32 &&& Int32.toUInt32 31)).toInt32
def lushr (x : Int64) (y : Int32) : Int64 := (x.toUInt64 >>> (y.toInt64.toUInt64 &&& Int64.toUInt64 63)).toInt64
def lshl (x : Int64) (y : Int32) : Int64 := x <<< (y.toInt64 &&& 63)
theorem R_iushr {x y : Int32} (hd : decode M.2.1 pc = .ok (.iushr, 1))  (k : Rr M kc ks (pc + 1) ls (.int (iushr x y) :: st) h P) : Rr M kc ks pc ls (.int y :: .int x :: st) h P :=
  fun G p l e Rm s m args below meth c H locs cells slots Q la C hp h1 h2 hr hl => lv_iushr C.1 C.2.1 hd rfl (k G p l e Rm s m args below meth c H locs cells slots Q la C hp h1 h2 hr hl)
theorem R_lushr {x : Int64} {y : Int32} (hd : decode M.2.1 pc = .ok (.lushr, 1))  (k : Rr M kc ks (pc + 1) ls (.long (lushr x y) :: st) h P) : Rr M kc ks pc ls (.int y :: .long x :: st) h P :=
  fun G p l e Rm s m args below meth c H locs cells slots Q la C hp h1 h2 hr hl => lv_lushr C.1 C.2.1 hd rfl (k G p l e Rm s m args below meth c H locs cells slots Q la C hp h1 h2 hr hl)
theorem R_lshl {x : Int64} {y : Int32} (hd : decode M.2.1 pc = .ok (.lshl, 1))  (k : Rr M kc ks (pc + 1) ls (.long (lshl x y) :: st) h P) : Rr M kc ks pc ls (.int y :: .long x :: st) h P :=
  fun G p l e Rm s m args below meth c H locs cells slots Q la C hp h1 h2 hr hl => lv_lshl C.1 C.2.1 hd rfl (k G p l e Rm s m args below meth c H locs cells slots Q la C hp h1 h2 hr hl)
theorem R_lcmp {x y : Int64} (hd : decode M.2.1 pc = .ok (.lcmp, 1))  (k : Rr M kc ks (pc + 1) ls (.int (lg_cmp x y) :: st) h P) : Rr M kc ks pc ls (.long y :: .long x :: st) h P :=
  fun G p l e Rm s m args below meth c H locs cells slots Q la C hp h1 h2 hr hl => W.lcmp C.1 C.2.1 hd (k G p l e Rm s m args below meth c H locs cells slots Q la C hp h1 h2 hr hl)
theorem R_iconst {n : Int} {v : Int32} (hd : decode M.2.1 pc = .ok (.iconst n, 1)) (hv : Int32.ofInt n = v) (k : Rr M kc ks (pc + 1) ls (.int v :: st) h P) : Rr M kc ks pc ls (st) h P :=
  fun G p l e Rm s m args below meth c H locs cells slots Q la C hp h1 h2 hr hl => lv_iconst C.1 C.2.1 hd hv (k G p l e Rm s m args below meth c H locs cells slots Q la C hp h1 h2 hr hl)
theorem R_bipush {n : Int} {v : Int32} (hd : decode M.2.1 pc = .ok (.bipush n, 2)) (hv : (Int8.ofInt n).toInt32 = v) (k : Rr M kc ks (pc + 2) ls (.int v :: st) h P) : Rr M kc ks pc ls (st) h P :=
  fun G p l e Rm s m args below meth c H locs cells slots Q la C hp h1 h2 hr hl => lv_bipush C.1 C.2.1 hd hv (k G p l e Rm s m args below meth c H locs cells slots Q la C hp h1 h2 hr hl)
theorem R_sipush {n : Int} {v : Int32} (hd : decode M.2.1 pc = .ok (.sipush n, 3)) (hv : (Int16.ofInt n).toInt32 = v) (k : Rr M kc ks (pc + 3) ls (.int v :: st) h P) : Rr M kc ks pc ls (st) h P :=
  fun G p l e Rm s m args below meth c H locs cells slots Q la C hp h1 h2 hr hl => lv_sipush C.1 C.2.1 hd hv (k G p l e Rm s m args below meth c H locs cells slots Q la C hp h1 h2 hr hl)
theorem R_lconst {n : Fin 2} {v : Int64} (hd : decode M.2.1 pc = .ok (.lconst n, 1)) (hv : Int64.ofNat (n : Nat) = v) (k : Rr M kc ks (pc + 1) ls (.long v :: st) h P) : Rr M kc ks pc ls (st) h P :=
  fun G p l e Rm s m args below meth c H locs cells slots Q la C hp h1 h2 hr hl => lv_lconst C.1 C.2.1 hd hv (k G p l e Rm s m args below meth c H locs cells slots Q la C hp h1 h2 hr hl)
theorem R_ldc {i : Nat} {v : Int32} (hd : decode M.2.1 pc = .ok (.ldc i, 2)) (hw : Cond.constant M.1.cls i v ∈ TBG) (k : Rr M kc ks (pc + 2) ls (.int v :: st) h P) : Rr M kc ks pc ls (st) h P :=
  fun G p l e Rm s m args below meth c H locs cells slots Q la C hp h1 h2 hr hl => lv_ldc C.1 C.2.1 C.2.2.2.2.1 (C.2.2.2.2.2.1 _ hw) hd (k G p l e Rm s m args below meth c H locs cells slots Q la C hp h1 h2 hr hl)
theorem R_ldcw {i : Nat} {v : Int32} (hd : decode M.2.1 pc = .ok (.ldc_w i, 3)) (hw : Cond.constant M.1.cls i v ∈ TBG) (k : Rr M kc ks (pc + 3) ls (.int v :: st) h P) : Rr M kc ks pc ls (st) h P :=
  fun G p l e Rm s m args below meth c H locs cells slots Q la C hp h1 h2 hr hl => lv_ldcw C.1 C.2.1 C.2.2.2.2.1 (C.2.2.2.2.2.1 _ hw) hd (k G p l e Rm s m args below meth c H locs cells slots Q la C hp h1 h2 hr hl)
theorem R_ldc2 {i : Nat} {v : Int64} (hd : decode M.2.1 pc = .ok (.ldc2_w i, 3)) (hw : Cond.constantLong M.1.cls i v ∈ TBG) (k : Rr M kc ks (pc + 3) ls (.long v :: st) h P) : Rr M kc ks pc ls (st) h P :=
  fun G p l e Rm s m args below meth c H locs cells slots Q la C hp h1 h2 hr hl => lv_ldc2 C.1 C.2.1 C.2.2.2.2.1 (C.2.2.2.2.2.1 _ hw) hd (k G p l e Rm s m args below meth c H locs cells slots Q la C hp h1 h2 hr hl)
theorem R_ldcS {i : Nat} {tx : String} (j : Nat) (hd : decode M.2.1 pc = .ok (.ldc i, 2)) (hj : strL[j]? = some (M.1.cls, i, tx)) (k : Rr M kc ks (pc + 2) ls (.ref (1000 + j) :: st) h P) : Rr M kc ks pc ls (st) h P :=
  fun G p l e Rm s m args below meth c H locs cells slots Q la C hp h1 h2 hr hl => va_ldcS C.1 C.2.1 C.2.2.2.2.1 (str_at C.2.2.2.2.2.2.2.2.2.2.1 hj) hd (ref_str hj (k G p l e Rm s m args below meth c H locs cells slots Q la C hp h1 h2 hr hl))
theorem R_iload_n {j : Fin 4} {i : Nat} {x : Int32} (hd : decode M.2.1 pc = .ok (.iload_n j, 1)) (hi : (j : Nat) = i) (q : Nat) (hq : ls[q]? = some (i, .int x)) (k : Rr M kc ks (pc + 1) ls (.int x :: st) h P) : Rr M kc ks pc ls (st) h P :=
  fun G p l e Rm s m args below meth c H locs cells slots Q la C hp h1 h2 hr hl => lv_iload_n C.1 C.2.1 hd hi (lv_at hl q (by rw [List.getElem?_map, hq]; rfl)) (k G p l e Rm s m args below meth c H locs cells slots Q la C hp h1 h2 hr hl)
theorem R_iload {i : Nat} {x : Int32} (hd : decode M.2.1 pc = .ok (.iload i, 2)) (q : Nat) (hq : ls[q]? = some (i, .int x)) (k : Rr M kc ks (pc + 2) ls (.int x :: st) h P) : Rr M kc ks pc ls (st) h P :=
  fun G p l e Rm s m args below meth c H locs cells slots Q la C hp h1 h2 hr hl => lv_iload C.1 C.2.1 hd (lv_at hl q (by rw [List.getElem?_map, hq]; rfl)) (k G p l e Rm s m args below meth c H locs cells slots Q la C hp h1 h2 hr hl)
theorem R_lload_n {j : Fin 4} {i : Nat} {x : Int64} (hd : decode M.2.1 pc = .ok (.lload_n j, 1)) (hi : (j : Nat) = i) (q : Nat) (hq : ls[q]? = some (i, .long x)) (k : Rr M kc ks (pc + 1) ls (.long x :: st) h P) : Rr M kc ks pc ls (st) h P :=
  fun G p l e Rm s m args below meth c H locs cells slots Q la C hp h1 h2 hr hl => lv_lload_n C.1 C.2.1 hd hi (lv_at hl q (by rw [List.getElem?_map, hq]; rfl)) (k G p l e Rm s m args below meth c H locs cells slots Q la C hp h1 h2 hr hl)
theorem R_lload {i : Nat} {x : Int64} (hd : decode M.2.1 pc = .ok (.lload i, 2)) (q : Nat) (hq : ls[q]? = some (i, .long x)) (k : Rr M kc ks (pc + 2) ls (.long x :: st) h P) : Rr M kc ks pc ls (st) h P :=
  fun G p l e Rm s m args below meth c H locs cells slots Q la C hp h1 h2 hr hl => lv_lload C.1 C.2.1 hd (lv_at hl q (by rw [List.getElem?_map, hq]; rfl)) (k G p l e Rm s m args below meth c H locs cells slots Q la C hp h1 h2 hr hl)
theorem R_aload_n {j : Fin 4} {i r : Nat} (hd : decode M.2.1 pc = .ok (.aload_n j, 1)) (hi : (j : Nat) = i) (q : Nat) (hq : ls[q]? = some (i, .ref r)) (k : Rr M kc ks (pc + 1) ls (.ref r :: st) h P) : Rr M kc ks pc ls st h P := by
  intro G p l e Rm s m args below meth c H locs cells slots Q la C hp h1 h2 hr hl
  have h9 := k G p l e Rm s m args below meth c H locs cells slots Q la C hp h1 h2 hr hl
  have hat := lv_at (i := i) (v := va_rf (ro G r)) hl q (by rw [List.getElem?_map, hq]; rfl)
  rw [List.map_cons] at h9
  change W p l e Rm s m args below meth c H locs cells slots Q (F0 m (pc + 1) la (va_rf (ro G r) :: st.map (tv G))) at h9
  cases hro : ro G r with
  | none => rw [hro] at h9 hat; exact lv_aload_nN C.1 C.2.1 hd hi hat h9
  | some a => rw [hro] at h9 hat; exact lv_aload_n C.1 C.2.1 hd hi hat h9
theorem R_aload {i r : Nat} (hd : decode M.2.1 pc = .ok (.aload i, 2)) (q : Nat) (hq : ls[q]? = some (i, .ref r)) (k : Rr M kc ks (pc + 2) ls (.ref r :: st) h P) : Rr M kc ks pc ls st h P := by
  intro G p l e Rm s m args below meth c H locs cells slots Q la C hp h1 h2 hr hl
  have h9 := k G p l e Rm s m args below meth c H locs cells slots Q la C hp h1 h2 hr hl
  have hat := lv_at (i := i) (v := va_rf (ro G r)) hl q (by rw [List.getElem?_map, hq]; rfl)
  rw [List.map_cons] at h9
  change W p l e Rm s m args below meth c H locs cells slots Q (F0 m (pc + 2) la (va_rf (ro G r) :: st.map (tv G))) at h9
  cases hro : ro G r with
  | none => rw [hro] at h9 hat; exact lv_aloadN C.1 C.2.1 hd hat h9
  | some a => rw [hro] at h9 hat; exact lv_aload C.1 C.2.1 hd hat h9
theorem rl_fm1 (G : GH) (i : Nat) (v : Value) : ((i, tv G v) :: (ls.map (fun q => (q.1, tv G q.2))).filter (fun q => !(q.1 == i) && !(q.1 + 1 == i && q.2.category == 2))) = ((i, v) :: ls.filter (fun q => !(q.1 == i) && !(q.1 + 1 == i && q.2.category == 2))).map (fun q => (q.1, tv G q.2)) := by
  rw [List.map_cons, List.filter_map]
  congr 2
  apply List.filter_congr
  intro q _
  simp [tv_cat]
theorem rl_fm2 (G : GH) (i : Nat) (v : Value) : ((i, tv G v) :: (ls.map (fun q => (q.1, tv G q.2))).filter (fun q => !(q.1 == i) && (!(q.1 == i + 1) && !(q.1 + 1 == i && q.2.category == 2)))) = ((i, v) :: ls.filter (fun q => !(q.1 == i) && (!(q.1 == i + 1) && !(q.1 + 1 == i && q.2.category == 2)))).map (fun q => (q.1, tv G q.2)) := by
  rw [List.map_cons, List.filter_map]
  congr 2
  apply List.filter_congr
  intro q _
  simp [tv_cat]
theorem R_istore_n {j : Fin 4} {i : Nat} {x : Int32} {ls2 : List (Nat × Value)} (hd : decode M.2.1 pc = .ok (.istore_n j, 1)) (hi : (j : Nat) = i) (hn : i < M.2.2.1) (he : (i, .int x) :: ls.filter (fun q => !(q.1 == i) && !(q.1 + 1 == i && q.2.category == 2)) = ls2) (k : Rr M kc ks (pc + 1) ls2 st h P) : Rr M kc ks pc ls (.int x :: st) h P := by
  intro G p l e Rm s m args below meth c H locs cells slots Q la C hp h1 h2 hr hl
  refine lv_istore_n C.1 C.2.1 hd hi hl hn (rl_fm1 G i (.int x)) (fun la2 hl2 => ?_)
  rw [he] at hl2
  exact k G p l e Rm s m args below meth c H locs cells slots Q la2 C hp h1 h2 hr hl2
theorem R_istore {i : Nat} {x : Int32} {ls2 : List (Nat × Value)} (hd : decode M.2.1 pc = .ok (.istore i, 2)) (hn : i < M.2.2.1) (he : (i, .int x) :: ls.filter (fun q => !(q.1 == i) && !(q.1 + 1 == i && q.2.category == 2)) = ls2) (k : Rr M kc ks (pc + 2) ls2 st h P) : Rr M kc ks pc ls (.int x :: st) h P := by
  intro G p l e Rm s m args below meth c H locs cells slots Q la C hp h1 h2 hr hl
  refine lv_istore C.1 C.2.1 hd hl hn (rl_fm1 G i (.int x)) (fun la2 hl2 => ?_)
  rw [he] at hl2
  exact k G p l e Rm s m args below meth c H locs cells slots Q la2 C hp h1 h2 hr hl2
theorem R_lstore_n {j : Fin 4} {i : Nat} {x : Int64} {ls2 : List (Nat × Value)} (hd : decode M.2.1 pc = .ok (.lstore_n j, 1)) (hi : (j : Nat) = i) (hn : i + 1 < M.2.2.1) (he : (i, .long x) :: ls.filter (fun q => !(q.1 == i) && (!(q.1 == i + 1) && !(q.1 + 1 == i && q.2.category == 2))) = ls2) (k : Rr M kc ks (pc + 1) ls2 st h P) : Rr M kc ks pc ls (.long x :: st) h P := by
  intro G p l e Rm s m args below meth c H locs cells slots Q la C hp h1 h2 hr hl
  refine lv_lstore_n C.1 C.2.1 hd hi hl hn (rl_fm2 G i (.long x)) (fun la2 hl2 => ?_)
  rw [he] at hl2
  exact k G p l e Rm s m args below meth c H locs cells slots Q la2 C hp h1 h2 hr hl2
theorem R_lstore {i : Nat} {x : Int64} {ls2 : List (Nat × Value)} (hd : decode M.2.1 pc = .ok (.lstore i, 2)) (hn : i + 1 < M.2.2.1) (he : (i, .long x) :: ls.filter (fun q => !(q.1 == i) && (!(q.1 == i + 1) && !(q.1 + 1 == i && q.2.category == 2))) = ls2) (k : Rr M kc ks (pc + 2) ls2 st h P) : Rr M kc ks pc ls (.long x :: st) h P := by
  intro G p l e Rm s m args below meth c H locs cells slots Q la C hp h1 h2 hr hl
  refine lv_lstore C.1 C.2.1 hd hl hn (rl_fm2 G i (.long x)) (fun la2 hl2 => ?_)
  rw [he] at hl2
  exact k G p l e Rm s m args below meth c H locs cells slots Q la2 C hp h1 h2 hr hl2
theorem R_astore_n {j : Fin 4} {i r : Nat} {ls2 : List (Nat × Value)} (hd : decode M.2.1 pc = .ok (.astore_n j, 1)) (hi : (j : Nat) = i) (hn : i < M.2.2.1) (he : (i, .ref r) :: ls.filter (fun q => !(q.1 == i) && !(q.1 + 1 == i && q.2.category == 2)) = ls2) (k : Rr M kc ks (pc + 1) ls2 st h P) : Rr M kc ks pc ls (.ref r :: st) h P := by
  intro G p l e Rm s m args below meth c H locs cells slots Q la C hp h1 h2 hr hl
  have h9 := rl_fm1 (ls := ls) G i (.ref r)
  rw [he] at h9
  change W p l e Rm s m args below meth c H locs cells slots Q (F0 m pc la (va_rf (ro G r) :: st.map (tv G)))
  change (i, va_rf (ro G r)) :: _ = _ at h9
  cases hro : ro G r with
  | none => rw [hro] at h9; exact lv_astore_nN C.1 C.2.1 hd hi hl hn h9 (fun la2 hl2 => k G p l e Rm s m args below meth c H locs cells slots Q la2 C hp h1 h2 hr hl2)
  | some a => rw [hro] at h9; exact lv_astore_n C.1 C.2.1 hd hi hl hn h9 (fun la2 hl2 => k G p l e Rm s m args below meth c H locs cells slots Q la2 C hp h1 h2 hr hl2)
theorem R_astore {i r : Nat} {ls2 : List (Nat × Value)} (hd : decode M.2.1 pc = .ok (.astore i, 2)) (hn : i < M.2.2.1) (he : (i, .ref r) :: ls.filter (fun q => !(q.1 == i) && !(q.1 + 1 == i && q.2.category == 2)) = ls2) (k : Rr M kc ks (pc + 2) ls2 st h P) : Rr M kc ks pc ls (.ref r :: st) h P := by
  intro G p l e Rm s m args below meth c H locs cells slots Q la C hp h1 h2 hr hl
  have h9 := rl_fm1 (ls := ls) G i (.ref r)
  rw [he] at h9
  change W p l e Rm s m args below meth c H locs cells slots Q (F0 m pc la (va_rf (ro G r) :: st.map (tv G)))
  change (i, va_rf (ro G r)) :: _ = _ at h9
  cases hro : ro G r with
  | none => rw [hro] at h9; exact lv_astoreN C.1 C.2.1 hd hl hn h9 (fun la2 hl2 => k G p l e Rm s m args below meth c H locs cells slots Q la2 C hp h1 h2 hr hl2)
  | some a => rw [hro] at h9; exact lv_astore C.1 C.2.1 hd hl hn h9 (fun la2 hl2 => k G p l e Rm s m args below meth c H locs cells slots Q la2 C hp h1 h2 hr hl2)
theorem R_iinc {i : Nat} {n : Int} {x v : Int32} {ls2 : List (Nat × Value)} (hd : decode M.2.1 pc = .ok (.iinc i n, 3)) (q : Nat) (hq : ls[q]? = some (i, .int x)) (hv : x + Int32.ofInt n = v) (hn : i < M.2.2.1) (he : (i, .int v) :: ls.filter (fun q => !(q.1 == i) && !(q.1 + 1 == i && q.2.category == 2)) = ls2) (k : Rr M kc ks (pc + 3) ls2 st h P) : Rr M kc ks pc ls st h P := by
  intro G p l e Rm s m args below meth c H locs cells slots Q la C hp h1 h2 hr hl
  refine lv_iinc C.1 C.2.1 hd hl (k := q) (x := x) (by rw [List.getElem?_map, hq]; rfl) hv hn (rl_fm1 G i (.int v)) (fun la2 hl2 => ?_)
  rw [he] at hl2
  exact k G p l e Rm s m args below meth c H locs cells slots Q la2 C hp h1 h2 hr hl2
theorem R_dup {v : Value} (hd : decode M.2.1 pc = .ok (.dup, 1)) (hc : v.category = 1) (k : Rr M kc ks (pc + 1) ls (v :: v :: st) h P) : Rr M kc ks pc ls (v :: st) h P :=
  fun G p l e Rm s m args below meth c H locs cells slots Q la C hp h1 h2 hr hl => lv_dup C.1 C.2.1 hd (by rw [tv_cat]; exact hc) (k G p l e Rm s m args below meth c H locs cells slots Q la C hp h1 h2 hr hl)
theorem R_pop {v : Value} (hd : decode M.2.1 pc = .ok (.pop, 1)) (hc : v.category = 1) (k : Rr M kc ks (pc + 1) ls st h P) : Rr M kc ks pc ls (v :: st) h P :=
  fun G p l e Rm s m args below meth c H locs cells slots Q la C hp h1 h2 hr hl => lv_pop C.1 C.2.1 hd (by rw [tv_cat]; exact hc) (k G p l e Rm s m args below meth c H locs cells slots Q la C hp h1 h2 hr hl)
theorem R_dup2 {v w : Value} (hd : decode M.2.1 pc = .ok (.dup2, 1)) (hc : v.category = 1) (hc2 : w.category = 1) (k : Rr M kc ks (pc + 1) ls (v :: w :: v :: w :: st) h P) : Rr M kc ks pc ls (v :: w :: st) h P :=
  fun G p l e Rm s m args below meth c H locs cells slots Q la C hp h1 h2 hr hl => lv_dup2_11 C.1 C.2.1 hd (by rw [tv_cat]; exact hc) (by rw [tv_cat]; exact hc2) (k G p l e Rm s m args below meth c H locs cells slots Q la C hp h1 h2 hr hl)
theorem R_if_eq {x : Int32} {off : Int} {tgt : Nat} (hd : decode M.2.1 pc = .ok (.ifCond .eq off, 3)) (ht : (pc : Int) + off = (tgt : Int)) (kt : x = 0 → Rr M kc ks tgt ls st h P) (kf : ¬ x = 0 → Rr M kc ks (pc + 3) ls st h P) : Rr M kc ks pc ls (.int x :: st) h P :=
  fun G p l e Rm s m args below meth c H locs cells slots Q la C hp h1 h2 hr hl => lv_if_eq C.1 C.2.1 hd ht (fun z => kt z G p l e Rm s m args below meth c H locs cells slots Q la C hp h1 h2 hr hl) (fun z => kf z G p l e Rm s m args below meth c H locs cells slots Q la C hp h1 h2 hr hl)
theorem R_if_ne {x : Int32} {off : Int} {tgt : Nat} (hd : decode M.2.1 pc = .ok (.ifCond .ne off, 3)) (ht : (pc : Int) + off = (tgt : Int)) (kt : ¬ x = 0 → Rr M kc ks tgt ls st h P) (kf : x = 0 → Rr M kc ks (pc + 3) ls st h P) : Rr M kc ks pc ls (.int x :: st) h P :=
  fun G p l e Rm s m args below meth c H locs cells slots Q la C hp h1 h2 hr hl => lv_if_ne C.1 C.2.1 hd ht (fun z => kt z G p l e Rm s m args below meth c H locs cells slots Q la C hp h1 h2 hr hl) (fun z => kf z G p l e Rm s m args below meth c H locs cells slots Q la C hp h1 h2 hr hl)
theorem R_if_lt {x : Int32} {off : Int} {tgt : Nat} (hd : decode M.2.1 pc = .ok (.ifCond .lt off, 3)) (ht : (pc : Int) + off = (tgt : Int)) (kt : x < 0 → Rr M kc ks tgt ls st h P) (kf : ¬ x < 0 → Rr M kc ks (pc + 3) ls st h P) : Rr M kc ks pc ls (.int x :: st) h P :=
  fun G p l e Rm s m args below meth c H locs cells slots Q la C hp h1 h2 hr hl => lv_if_lt C.1 C.2.1 hd ht (fun z => kt z G p l e Rm s m args below meth c H locs cells slots Q la C hp h1 h2 hr hl) (fun z => kf z G p l e Rm s m args below meth c H locs cells slots Q la C hp h1 h2 hr hl)
theorem R_if_ge {x : Int32} {off : Int} {tgt : Nat} (hd : decode M.2.1 pc = .ok (.ifCond .ge off, 3)) (ht : (pc : Int) + off = (tgt : Int)) (kt : 0 ≤ x → Rr M kc ks tgt ls st h P) (kf : ¬ 0 ≤ x → Rr M kc ks (pc + 3) ls st h P) : Rr M kc ks pc ls (.int x :: st) h P :=
  fun G p l e Rm s m args below meth c H locs cells slots Q la C hp h1 h2 hr hl => lv_if_ge C.1 C.2.1 hd ht (fun z => kt z G p l e Rm s m args below meth c H locs cells slots Q la C hp h1 h2 hr hl) (fun z => kf z G p l e Rm s m args below meth c H locs cells slots Q la C hp h1 h2 hr hl)
theorem R_if_gt {x : Int32} {off : Int} {tgt : Nat} (hd : decode M.2.1 pc = .ok (.ifCond .gt off, 3)) (ht : (pc : Int) + off = (tgt : Int)) (kt : 0 < x → Rr M kc ks tgt ls st h P) (kf : ¬ 0 < x → Rr M kc ks (pc + 3) ls st h P) : Rr M kc ks pc ls (.int x :: st) h P :=
  fun G p l e Rm s m args below meth c H locs cells slots Q la C hp h1 h2 hr hl => lv_if_gt C.1 C.2.1 hd ht (fun z => kt z G p l e Rm s m args below meth c H locs cells slots Q la C hp h1 h2 hr hl) (fun z => kf z G p l e Rm s m args below meth c H locs cells slots Q la C hp h1 h2 hr hl)
theorem R_if_le {x : Int32} {off : Int} {tgt : Nat} (hd : decode M.2.1 pc = .ok (.ifCond .le off, 3)) (ht : (pc : Int) + off = (tgt : Int)) (kt : x ≤ 0 → Rr M kc ks tgt ls st h P) (kf : ¬ x ≤ 0 → Rr M kc ks (pc + 3) ls st h P) : Rr M kc ks pc ls (.int x :: st) h P :=
  fun G p l e Rm s m args below meth c H locs cells slots Q la C hp h1 h2 hr hl => lv_if_le C.1 C.2.1 hd ht (fun z => kt z G p l e Rm s m args below meth c H locs cells slots Q la C hp h1 h2 hr hl) (fun z => kf z G p l e Rm s m args below meth c H locs cells slots Q la C hp h1 h2 hr hl)
theorem R_icmp_eq {x y : Int32} {off : Int} {tgt : Nat} (hd : decode M.2.1 pc = .ok (.if_icmp .eq off, 3)) (ht : (pc : Int) + off = (tgt : Int)) (kt : x = y → Rr M kc ks tgt ls st h P) (kf : ¬ x = y → Rr M kc ks (pc + 3) ls st h P) : Rr M kc ks pc ls (.int y :: .int x :: st) h P :=
  fun G p l e Rm s m args below meth c H locs cells slots Q la C hp h1 h2 hr hl => lv_icmp_eq C.1 C.2.1 hd ht (fun z => kt z G p l e Rm s m args below meth c H locs cells slots Q la C hp h1 h2 hr hl) (fun z => kf z G p l e Rm s m args below meth c H locs cells slots Q la C hp h1 h2 hr hl)
theorem R_icmp_ne {x y : Int32} {off : Int} {tgt : Nat} (hd : decode M.2.1 pc = .ok (.if_icmp .ne off, 3)) (ht : (pc : Int) + off = (tgt : Int)) (kt : ¬ x = y → Rr M kc ks tgt ls st h P) (kf : x = y → Rr M kc ks (pc + 3) ls st h P) : Rr M kc ks pc ls (.int y :: .int x :: st) h P :=
  fun G p l e Rm s m args below meth c H locs cells slots Q la C hp h1 h2 hr hl => lv_icmp_ne C.1 C.2.1 hd ht (fun z => kt z G p l e Rm s m args below meth c H locs cells slots Q la C hp h1 h2 hr hl) (fun z => kf z G p l e Rm s m args below meth c H locs cells slots Q la C hp h1 h2 hr hl)
theorem R_icmp_lt {x y : Int32} {off : Int} {tgt : Nat} (hd : decode M.2.1 pc = .ok (.if_icmp .lt off, 3)) (ht : (pc : Int) + off = (tgt : Int)) (kt : x < y → Rr M kc ks tgt ls st h P) (kf : ¬ x < y → Rr M kc ks (pc + 3) ls st h P) : Rr M kc ks pc ls (.int y :: .int x :: st) h P :=
  fun G p l e Rm s m args below meth c H locs cells slots Q la C hp h1 h2 hr hl => lv_icmp_lt C.1 C.2.1 hd ht (fun z => kt z G p l e Rm s m args below meth c H locs cells slots Q la C hp h1 h2 hr hl) (fun z => kf z G p l e Rm s m args below meth c H locs cells slots Q la C hp h1 h2 hr hl)
theorem R_icmp_ge {x y : Int32} {off : Int} {tgt : Nat} (hd : decode M.2.1 pc = .ok (.if_icmp .ge off, 3)) (ht : (pc : Int) + off = (tgt : Int)) (kt : y ≤ x → Rr M kc ks tgt ls st h P) (kf : ¬ y ≤ x → Rr M kc ks (pc + 3) ls st h P) : Rr M kc ks pc ls (.int y :: .int x :: st) h P :=
  fun G p l e Rm s m args below meth c H locs cells slots Q la C hp h1 h2 hr hl => lv_icmp_ge C.1 C.2.1 hd ht (fun z => kt z G p l e Rm s m args below meth c H locs cells slots Q la C hp h1 h2 hr hl) (fun z => kf z G p l e Rm s m args below meth c H locs cells slots Q la C hp h1 h2 hr hl)
theorem R_icmp_gt {x y : Int32} {off : Int} {tgt : Nat} (hd : decode M.2.1 pc = .ok (.if_icmp .gt off, 3)) (ht : (pc : Int) + off = (tgt : Int)) (kt : y < x → Rr M kc ks tgt ls st h P) (kf : ¬ y < x → Rr M kc ks (pc + 3) ls st h P) : Rr M kc ks pc ls (.int y :: .int x :: st) h P :=
  fun G p l e Rm s m args below meth c H locs cells slots Q la C hp h1 h2 hr hl => lv_icmp_gt C.1 C.2.1 hd ht (fun z => kt z G p l e Rm s m args below meth c H locs cells slots Q la C hp h1 h2 hr hl) (fun z => kf z G p l e Rm s m args below meth c H locs cells slots Q la C hp h1 h2 hr hl)
theorem R_icmp_le {x y : Int32} {off : Int} {tgt : Nat} (hd : decode M.2.1 pc = .ok (.if_icmp .le off, 3)) (ht : (pc : Int) + off = (tgt : Int)) (kt : x ≤ y → Rr M kc ks tgt ls st h P) (kf : ¬ x ≤ y → Rr M kc ks (pc + 3) ls st h P) : Rr M kc ks pc ls (.int y :: .int x :: st) h P :=
  fun G p l e Rm s m args below meth c H locs cells slots Q la C hp h1 h2 hr hl => lv_icmp_le C.1 C.2.1 hd ht (fun z => kt z G p l e Rm s m args below meth c H locs cells slots Q la C hp h1 h2 hr hl) (fun z => kf z G p l e Rm s m args below meth c H locs cells slots Q la C hp h1 h2 hr hl)
theorem R_goto {off : Int} {tgt : Nat} (hd : decode M.2.1 pc = .ok (.goto off, 3)) (ht : (pc : Int) + off = (tgt : Int)) (k : Rr M kc ks tgt ls st h P) : Rr M kc ks pc ls st h P :=
  fun G p l e Rm s m args below meth c H locs cells slots Q la C hp h1 h2 hr hl => lv_goto C.1 C.2.1 hd ht (k G p l e Rm s m args below meth c H locs cells slots Q la C hp h1 h2 hr hl)
theorem R_tableOut {dflt lo hi : Int} {offs : Array Int} {len : Nat} {x : Int32} {tgt : Nat} (hd : decode M.2.1 pc = .ok (.tableswitch dflt lo hi offs, len)) (hx : x.toInt < lo ∨ hi < x.toInt) (ht : (pc : Int) + dflt = (tgt : Int)) (k : Rr M kc ks tgt ls st h P) : Rr M kc ks pc ls (.int x :: st) h P :=
  fun G p l e Rm s m args below meth c H locs cells slots Q la C hp h1 h2 hr hl => lv_tableOut C.1 C.2.1 hd hx ht (k G p l e Rm s m args below meth c H locs cells slots Q la C hp h1 h2 hr hl)
theorem R_tableIn {dflt lo hi : Int} {offs : Array Int} {len : Nat} {x : Int32} {off : Int} {tgt : Nat} (hd : decode M.2.1 pc = .ok (.tableswitch dflt lo hi offs, len)) (hx1 : ¬ x.toInt < lo) (hx2 : ¬ hi < x.toInt) (ho : offs[(x.toInt - lo).toNat]? = some off) (ht : (pc : Int) + off = (tgt : Int)) (k : Rr M kc ks tgt ls st h P) : Rr M kc ks pc ls (.int x :: st) h P :=
  fun G p l e Rm s m args below meth c H locs cells slots Q la C hp h1 h2 hr hl => lv_tableIn C.1 C.2.1 hd hx1 hx2 ho ht (k G p l e Rm s m args below meth c H locs cells slots Q la C hp h1 h2 hr hl)
theorem R_lookup {dflt : Int} {ps : Array (Int × Int)} {len : Nat} {x : Int32} {off : Int} {tgt : Nat} (hd : decode M.2.1 pc = .ok (.lookupswitch dflt ps, len)) (hp : (ps.toList.zip (ps.toList.drop 1)).all (fun (a, next) => a.1 < next.1) = true) (ho : Op.lookupswitch.offset ps.toList dflt x.toInt = off) (ht : (pc : Int) + off = (tgt : Int)) (k : Rr M kc ks tgt ls st h P) : Rr M kc ks pc ls (.int x :: st) h P :=
  fun G p l e Rm s m args below meth c H locs cells slots Q la C hp9 h1 h2 hr hl => lv_lookup C.1 C.2.1 hd hp ho ht (k G p l e Rm s m args below meth c H locs cells slots Q la C hp9 h1 h2 hr hl)
theorem R_sub (ps : List Nat) {ls2 : List (Nat × Value)} (he : lv_pick ls ps = ls2) (k : Rr M kc ks pc ls2 st h P) : Rr M kc ks pc ls st h P := by
  intro G p l e Rm s m args below meth c H locs cells slots Q la C hp h1 h2 hr hl
  refine k G p l e Rm s m args below meth c H locs cells slots Q la C hp h1 h2 hr (lv_sub hl ps ?_)
  rw [← he]
  unfold lv_pick
  rw [List.map_filterMap]
  congr 1
  funext j
  rw [List.getElem?_map]
theorem R_ret (hd : decode M.2.1 pc = .ok (.return_, 1)) (hty : M.2.2.2.1 = none) (k : P none h) : Rr M kc ks pc ls [] h P :=
  fun G p l e Rm s m args below meth c H locs cells slots Q la C hp h1 h2 hr hl => W.widen (Nat.le_add_right _ _) (Nat.le_add_right _ _) (hr none h H locs la pc k hp (Or.inl ⟨rfl, hty, hd⟩))
theorem R_iret {x : Int32} {ty : FieldType} (hd : decode M.2.1 pc = .ok (.ireturn, 1)) (hty : M.2.2.2.1 = some ty) (hn : narrow ty (.int x) = .int x) (k : P (some (.int x)) h) : Rr M kc ks pc ls [.int x] h P :=
  fun G p l e Rm s m args below meth c H locs cells slots Q la C hp h1 h2 hr hl => W.widen (Nat.le_add_right _ _) (Nat.le_add_right _ _) (hr (some (.int x)) h H locs la pc k hp (Or.inr (Or.inl ⟨x, ty, rfl, hty, hn, hd⟩)))
theorem R_lret {x : Int64} (hd : decode M.2.1 pc = .ok (.lreturn, 1)) (hty : M.2.2.2.1 = some .long) (k : P (some (.long x)) h) : Rr M kc ks pc ls [.long x] h P :=
  fun G p l e Rm s m args below meth c H locs cells slots Q la C hp h1 h2 hr hl => W.widen (Nat.le_add_right _ _) (Nat.le_add_right _ _) (hr (some (.long x)) h H locs la pc k hp (Or.inr (Or.inr (Or.inl ⟨x, rfl, hty, hd⟩))))
theorem R_aret {i : Nat} {ty : FieldType} (hd : decode M.2.1 pc = .ok (.areturn, 1)) (hty : M.2.2.2.1 = some ty) (ht : (∃ n, ty = .object n) ∨ ∃ t, ty = .array t) (k : P (some (.ref i)) h) : Rr M kc ks pc ls [.ref i] h P :=
  fun G p l e Rm s m args below meth c H locs cells slots Q la C hp h1 h2 hr hl => W.widen (Nat.le_add_right _ _) (Nat.le_add_right _ _) (hr (some (.ref i)) h H locs la pc k hp (Or.inr (Or.inr (Or.inr ⟨i, ty, rfl, hty, ht, hd⟩))))
end RULES
end
section
def isO (h : AH) (ci r : Nat) : Prop := r < h.1 ∧ kd r = ci
theorem tv_ref (G : GH) {r : Nat} (hr : r < 1000) : tv G (.ref r) = .ref (G.1 + r) := by
  simp only [tv, ro]
  rw [if_pos hr]
  rfl
theorem up2_at {α : Type} (f : Nat → Nat → α) (r k : Nat) (v : α) : up2 f r k v r k = v := if_pos ⟨rfl, rfl⟩
theorem up2_r {α : Type} (f : Nat → Nat → α) {r r2 : Nat} (k : Nat) (v : α) (h : r2 ≠ r) : up2 f r k v r2 = f r2 := by
  funext k2
  exact if_neg (fun q => h q.1)
theorem up2_k {α : Type} (f : Nat → Nat → α) (r : Nat) {k k2 : Nat} (v : α) (h : k2 ≠ k) : up2 f r k v r k2 = f r k2 := if_neg (fun q => h q.2)
/-- a class's table: the words of its fields are there, their names differ, their types are known -/
def ClsOK (ci : Nat) (C : String) (T : u_T) (N : Nat) : Prop :=
  clsL[ci]? = some (C, T, N) ∧ (∀ w ∈ u_ws C T N, w ∈ TBG) ∧ (∃ ty0 : Nat → FieldType, ∀ k, k < N → parseFieldDescriptor (T k).2.2.1 = some (ty0 k)) ∧ (∀ a, a < N → ∀ b, b < N → a ≠ b → (T a).2.1 ≠ (T b).2.1)
theorem ClsOK.lt {ci : Nat} {C : String} {T : u_T} {N : Nat} (h : ClsOK ci C T N) : ci < 13 := (List.getElem?_eq_some_iff.mp h.1).1
theorem ok0 : ClsOK 0 RX0 TX0 1 := ⟨rfl, inT0, ⟨_, tyX0_ok⟩, nmX0⟩
theorem ok1 : ClsOK 1 RX1 TX1 12 := ⟨rfl, inT1, ⟨_, tyX1_ok⟩, nmX1⟩
theorem ok2 : ClsOK 2 RX2 TX2 4 := ⟨rfl, inT2, ⟨_, tyX2_ok⟩, nmX2⟩
theorem ok3 : ClsOK 3 RX3 TX3 16 := ⟨rfl, inT3, ⟨_, tyX3_ok⟩, nmX3⟩
theorem ok4 : ClsOK 4 RX4 TX4 6 := ⟨rfl, inT4, ⟨_, tyX4_ok⟩, nmX4⟩
theorem ok5 : ClsOK 5 RX5 TX5 12 := ⟨rfl, inT5, ⟨_, tyX5_ok⟩, nmX5⟩
theorem ok6 : ClsOK 6 RX6 TX6 7 := ⟨rfl, inT6, ⟨_, tyX6_ok⟩, nmX6⟩
theorem ok7 : ClsOK 7 RX7 TX7 12 := ⟨rfl, inT7, ⟨_, tyX7_ok⟩, nmX7⟩
theorem ok8 : ClsOK 8 RX8 TX8 4 := ⟨rfl, inT8, ⟨_, tyX8_ok⟩, nmX8⟩
theorem ok9 : ClsOK 9 RX9 TX9 6 := ⟨rfl, inT9, ⟨_, tyX9_ok⟩, nmX9⟩
theorem ok10 : ClsOK 10 RX10 TX10 7 := ⟨rfl, inT10, ⟨_, tyX10_ok⟩, nmX10⟩
theorem ok11 : ClsOK 11 RX11 TX11 15 := ⟨rfl, inT11, ⟨_, tyX11_ok⟩, nmX11⟩
theorem ok12 : ClsOK 12 RX12 TX12 59 := ⟨rfl, inT12, ⟨_, tyX12_ok⟩, nmX12⟩
theorem ent_obj (G : GH) (h : AH) {r ci : Nat} (hk : kd r = ci) (hc : ci < 100) : ent G h r = .inr (ci, (tgL.getD ci []).mapIdx (fun k t => fv G h r k t)) := by
  unfold ent
  rw [if_pos (by rw [hk]; exact hc), hk]
theorem ent_sI (G : GH) (h : AH) {r ci k : Nat} {x : Int32} (hk : kd r = ci) (hc : ci < 100) (ht : (tgL.getD ci [])[k]? = some 0) : ent G (sI h r k x) r = .inr (ci, ((tgL.getD ci []).mapIdx (fun k t => fv G h r k t)).set k (.int x)) := by
  rw [ent_obj G _ hk hc]
  congr 2
  apply List.ext_getElem?
  intro j
  rw [List.getElem?_mapIdx]
  by_cases e : k = j
  · subst e
    have hl : k < (tgL.getD ci []).length := (List.getElem?_eq_some_iff.mp ht).1
    rw [List.getElem?_set_self (by simpa using hl), ht]
    simp [fv, gI, sI, up2_at]
  · rw [List.getElem?_set_ne e, List.getElem?_mapIdx]
    congr 1
    funext t
    match t with
    | 0 => simp [fv, gI, sI, up2_k _ _ _ (Ne.symm e)]
    | 1 => rfl
    | t + 2 => rfl
theorem ent_sL (G : GH) (h : AH) {r ci k : Nat} {x : Int64} (hk : kd r = ci) (hc : ci < 100) (ht : (tgL.getD ci [])[k]? = some 1) : ent G (sL h r k x) r = .inr (ci, ((tgL.getD ci []).mapIdx (fun k t => fv G h r k t)).set k (.long x)) := by
  rw [ent_obj G _ hk hc]
  congr 2
  apply List.ext_getElem?
  intro j
  rw [List.getElem?_mapIdx]
  by_cases e : k = j
  · subst e
    have hl : k < (tgL.getD ci []).length := (List.getElem?_eq_some_iff.mp ht).1
    rw [List.getElem?_set_self (by simpa using hl), ht]
    simp [fv, gL, sL, up2_at]
  · rw [List.getElem?_set_ne e, List.getElem?_mapIdx]
    congr 1
    funext t
    match t with
    | 0 => rfl
    | 1 => simp [fv, gL, sL, up2_k _ _ _ (Ne.symm e)]
    | t + 2 => rfl
theorem ent_sF (G : GH) (h : AH) {r ci k x : Nat} (hk : kd r = ci) (hc : ci < 100) (ht : (tgL.getD ci [])[k]? = some 2) : ent G (sF h r k x) r = .inr (ci, ((tgL.getD ci []).mapIdx (fun k t => fv G h r k t)).set k (va_rf (ro G x))) := by
  rw [ent_obj G _ hk hc]
  congr 2
  apply List.ext_getElem?
  intro j
  rw [List.getElem?_mapIdx]
  by_cases e : k = j
  · subst e
    have hl : k < (tgL.getD ci []).length := (List.getElem?_eq_some_iff.mp ht).1
    rw [List.getElem?_set_self (by simpa using hl), ht]
    simp [fv, gF, sF, up2_at]
  · rw [List.getElem?_set_ne e, List.getElem?_mapIdx]
    congr 1
    funext t
    match t with
    | 0 => rfl
    | 1 => rfl
    | t + 2 => simp [fv, gF, sF, up2_k _ _ _ (Ne.symm e)]
theorem ent_congr (G : GH) {h h2 : AH} {i : Nat} (h1 : h2.2.1 i = h.2.1 i) (h3 : h2.2.2.1 i = h.2.2.1 i) (h4 : h2.2.2.2 i = h.2.2.2 i) : ent G h2 i = ent G h i := by
  have e1 : gI h2 i = gI h i := h1
  have e2 : gL h2 i = gL h i := h3
  have e3 : gF h2 i = gF h i := h4
  unfold ent
  rw [e1, e2]
  have e4 : ∀ k t, fv G h2 i k t = fv G h i k t := by
    intro k t
    unfold fv
    rw [e1, e2, e3]
  simp only [e4, e3]
section VALZ
variable {p : Program} {l : Launch} {e : Env} {R : Room} {s : State} {m : MethodId} {args : Array Value} {below : List Frame} {meth : Method} {c : Code} {H : Heap} {locs : List Loc} {cells slots : Nat} {Q : State → Prop}
variable {cc : ByteArray} {pc : Nat} {ls : Array Slot} {rest : List Value} {D : va_G} {cl : List vw_C} {A : Nat → Prop} {a : Nat} {tys : List (ClassId × FieldType)} {ws : va_W} {H0 : Heap}
theorem va_put_sz (hexec : p.tables.exec = Jvm.exec) (hb : c.code = cc) {own ref C : String} {T : u_T} {N ci index : Nat} {Ts : List Cond} (hts : ∀ w ∈ Ts, w.before args s = true) (hin : ∀ w ∈ u_ws C T N, w ∈ Ts) (ty0 : Nat → FieldType) (hty : ∀ k, k < N → parseFieldDescriptor (T k).2.2.1 = some (ty0 k)) (hnm : ∀ a, a < N → ∀ b, b < N → a ≠ b → (T a).2.1 ≠ (T b).2.1) (hown : s.vm.findClass own = some m.cls) (hK : va_K D cl tys s) (hP : va_P D cl ws H) (hD : va_D A ws) (hS0 : va_S A H0 H locs) (q0 : Nat) {fs : List Value} (he : ws[q0]? = some (a, .inr (ci, fs))) (hc : cl[ci]? = some (C, T, N)) (k : Nat) (hk : k < N) (hlink : (Cond.fieldLink own index ref (T k).2.1 (T k).2.2.1).before args s = true) (hsame : ∀ x, s.fieldFound? (T k).1 (T k).2.1 (T k).2.2.1 = some x → s.fieldFound? ref (T k).2.1 (T k).2.2.1 = some x) (hfin : (T k).2.2.2 = false) {ty : FieldType} {v : Value} (hd : parseFieldDescriptor (T k).2.2.1 = some ty) (hn : narrow ty v = v) (hfit : fits ty v = true) (hl : k < fs.length)
    (hdg : decode cc pc = .ok (.putfield index, 3)) (kk : ∀ (H1 : Heap) (locs1 : List Loc), va_P D cl (ws.set q0 (a, .inr (ci, fs.set k v))) H1 → H1.size = H.size → va_S A H0 H1 locs1 → W p l e R s m args below meth c H1 locs1 cells slots Q (F0 m (pc + 3) ls rest)) : W p l e R s m args below meth c H locs cells slots Q (F0 m pc ls (v :: .ref a :: rest)) := by
  have hap := va_apart (own := own) hts hin ty0 hty hnm hK hc
  obtain ⟨r, h1, cell, q1, q2, q3, q4⟩ := hP q0 _ he
  have hr : r = (C, T, N) := Option.some.inj (h1.symm.trans hc)
  subst hr
  obtain ⟨hS, hfc, kC, hkC, hkind⟩ := hK.1 ci _ hc
  obtain ⟨cf, kf, fi, f, hi, hsl⟩ := hS k hk
  have hlay := hts _ (hin _ (u_in_lay hk))
  unfold u_lay at hlay
  rw [if_neg (by rw [hfin]; decide)] at hlay
  have hst := (u_facts hfc hkC (u_lays hts hin hk) hi).1
  have h6 := u_store hfc hkC hkind hlay hi hd hn hfit
  refine W.putK hexec hb (f := f) ⟨hown, hlink, ⟨_, _, _, hsame _ hi⟩, hst⟩ (by rw [q2]; exact h6) q1 q3 (by rw [hsl]; exact k2_hasslot (q4 k hk)) rfl rfl hdg fun H' e1 e2 e3 => ?_
  rw [hsl] at e1 ⊢
  exact kk H' _ (hP.set hD he ⟨_, hc, t_OB.to (V := updV (vp_V fs) k v) ⟨_, e1, q2, q3, t_set q4 hap hk v⟩ (fun j _ => vp_updV_set hl v j)⟩ e3) e2 (hS0.put e2 e3 (hD.2 q0 _ he))
theorem va_putF_sz (hexec : p.tables.exec = Jvm.exec) (hb : c.code = cc) {own ref C : String} {T : u_T} {N ci index : Nat} {Ts : List Cond} (hts : ∀ w ∈ Ts, w.before args s = true) (hin : ∀ w ∈ u_ws C T N, w ∈ Ts) (ty0 : Nat → FieldType) (hty : ∀ k, k < N → parseFieldDescriptor (T k).2.2.1 = some (ty0 k)) (hnm : ∀ a, a < N → ∀ b, b < N → a ≠ b → (T a).2.1 ≠ (T b).2.1) (hown : s.vm.findClass own = some m.cls) (hK : va_K D cl tys s) (hP : va_P D cl ws H) (hD : va_D A ws) (hS0 : va_S A H0 H locs) (q0 : Nat) {fs : List Value} (he : ws[q0]? = some (a, .inr (ci, fs))) (hc : cl[ci]? = some (C, T, N)) (k : Nat) (hk : k < N) (hlink : (Cond.fieldLink own index ref (T k).2.1 (T k).2.2.1).before args s = true) (hsame : ∀ x, s.fieldFound? (T k).1 (T k).2.1 (T k).2.2.1 = some x → s.fieldFound? ref (T k).2.1 (T k).2.2.1 = some x) (hfin : (T k).2.2.2 = true) (hin2 : meth.name = "<init>") (hdecl : (T k).1 = own) {ty : FieldType} {v : Value} (hd : parseFieldDescriptor (T k).2.2.1 = some ty) (hn : narrow ty v = v) (hfit : fits ty v = true) (hl : k < fs.length)
    (hdg : decode cc pc = .ok (.putfield index, 3)) (kk : ∀ (H1 : Heap) (locs1 : List Loc), va_P D cl (ws.set q0 (a, .inr (ci, fs.set k v))) H1 → H1.size = H.size → va_S A H0 H1 locs1 → W p l e R s m args below meth c H1 locs1 cells slots Q (F0 m (pc + 3) ls rest)) : W p l e R s m args below meth c H locs cells slots Q (F0 m pc ls (v :: .ref a :: rest)) := by
  have hap := va_apart (own := own) hts hin ty0 hty hnm hK hc
  obtain ⟨r, h1, cell, q1, q2, q3, q4⟩ := hP q0 _ he
  have hr : r = (C, T, N) := Option.some.inj (h1.symm.trans hc)
  subst hr
  obtain ⟨hS, hfc, kC, hkC, hkind⟩ := hK.1 ci _ hc
  obtain ⟨cf, kf, fi, f, hi, hsl⟩ := hS k hk
  have hlay := hts _ (hin _ (u_in_lay hk))
  unfold u_lay at hlay
  rw [if_pos hfin] at hlay
  have hst := (u_facts hfc hkC (u_lays hts hin hk) hi).1
  have hcf : m.cls = cf := by
    obtain ⟨_, _, c', _, _, _, -, -, hf', -, -, -, hown2, -⟩ := Cond.laysFinal_spec hlay
    have e1 : c' = cf := by have := hi.symm.trans hf'; simp at this; exact this.1.symm
    rw [hdecl] at hown2
    rw [← e1]; exact Option.some.inj (hown.symm.trans hown2)
  have h6 := u_fits hfc hkC hkind (Or.inr hlay) hi hd hn hfit
  refine W.putFinK hexec hb hown hlink (hsame _ hi) hst hcf hin2 (by rw [q2]; exact h6) q1 q3 (by rw [hsl]; exact k2_hasslot (q4 k hk)) rfl rfl hdg fun H' e1 e2 e3 => ?_
  rw [hsl] at e1 ⊢
  exact kk H' _ (hP.set hD he ⟨_, hc, t_OB.to (V := updV (vp_V fs) k v) ⟨_, e1, q2, q3, t_set q4 hap hk v⟩ (fun j _ => vp_updV_set hl v j)⟩ e3) e2 (hS0.put e2 e3 (hD.2 q0 _ he))
end VALZ
section HRULES
variable {M : MI} {kc ks pc : Nat} {ls : List (Nat × Value)} {st : List Value} {h : AH} {P : Option Value → AH → Prop} {C : String} {T : u_T} {N : Nat}
theorem R_get {i r : Nat} {n dd : String} {fin : Bool} (ci k t : Nat) (F : ClsOK ci C T N) (hk : k < N) (hT : T k = (C, n, dd, fin)) (ht : (tgL.getD ci [])[k]? = some t) (hd : decode M.2.1 pc = .ok (.getfield i, 3)) (hw : Cond.fieldLink M.1.cls i C n dd ∈ TBG) (ho : isO h ci r)
    {v : Value} (hv : ∀ G : GH, tv G v = fv G h r k t) (kk : Rr M kc ks (pc + 3) ls (v :: st) h P) : Rr M kc ks pc ls (.ref r :: st) h P := by
  intro G p l e Rm s m args below meth c H locs cells slots Q la X hp h1 h2 hr hl
  have hr0 : r < 1000 := Nat.lt_of_lt_of_le ho.1 hp.2.1
  rw [List.map_cons, tv_ref G hr0]
  have he := cells_at G h ho.1
  rw [ent_obj G h ho.2 (Nat.lt_trans F.lt (by decide))] at he
  refine va_get (D := G.2.1) (v := fv G h r k t) X.1 X.2.1 X.2.2.2.2.2.1 F.2.1 X.2.2.2.2.1 X.2.2.2.2.2.2.2.2.2.2.1.1 hp.2.2.1 r he F.1 k hk (ref := C) (by rw [hT]; exact X.2.2.2.2.2.1 _ hw) (fun x hx => by rw [hT] at hx ⊢; exact hx) (by rw [List.getElem?_mapIdx, ht]; rfl) hd ?_
  have h9 := kk G p l e Rm s m args below meth c H locs cells slots Q la X hp h1 h2 hr hl
  rw [List.map_cons, hv G] at h9
  exact h9
theorem R_getI {i r : Nat} {n dd : String} {fin : Bool} (ci k : Nat) (F : ClsOK ci C T N) (hk : k < N) (hT : T k = (C, n, dd, fin)) (ht : (tgL.getD ci [])[k]? = some 0) (hd : decode M.2.1 pc = .ok (.getfield i, 3)) (hw : Cond.fieldLink M.1.cls i C n dd ∈ TBG) (ho : isO h ci r)
    (kk : Rr M kc ks (pc + 3) ls (.int (gI h r k) :: st) h P) : Rr M kc ks pc ls (.ref r :: st) h P := R_get ci k 0 F hk hT ht hd hw ho (fun _ => rfl) kk
theorem R_getL {i r : Nat} {n dd : String} {fin : Bool} (ci k : Nat) (F : ClsOK ci C T N) (hk : k < N) (hT : T k = (C, n, dd, fin)) (ht : (tgL.getD ci [])[k]? = some 1) (hd : decode M.2.1 pc = .ok (.getfield i, 3)) (hw : Cond.fieldLink M.1.cls i C n dd ∈ TBG) (ho : isO h ci r)
    (kk : Rr M kc ks (pc + 3) ls (.long (gL h r k) :: st) h P) : Rr M kc ks pc ls (.ref r :: st) h P := R_get ci k 1 F hk hT ht hd hw ho (fun _ => rfl) kk
theorem R_getF {i r : Nat} {n dd : String} {fin : Bool} (ci k : Nat) (F : ClsOK ci C T N) (hk : k < N) (hT : T k = (C, n, dd, fin)) (ht : (tgL.getD ci [])[k]? = some 2) (hd : decode M.2.1 pc = .ok (.getfield i, 3)) (hw : Cond.fieldLink M.1.cls i C n dd ∈ TBG) (ho : isO h ci r)
    (kk : Rr M kc ks (pc + 3) ls (.ref (gF h r k) :: st) h P) : Rr M kc ks pc ls (.ref r :: st) h P := R_get ci k 2 F hk hT ht hd hw ho (fun _ => rfl) kk
theorem R_put {i r : Nat} {n dd : String} {fin : Bool} {h2 : AH} {v : Value} {ty : FieldType} (ci k : Nat) (F : ClsOK ci C T N) (hk : k < N) (hT : T k = (C, n, dd, fin)) (hl0 : k < (tgL.getD ci []).length) (hd : decode M.2.1 pc = .ok (.putfield i, 3)) (hw : Cond.fieldLink M.1.cls i C n dd ∈ TBG) (hfin : fin = false ∨ (M.1.name = "<init>" ∧ C = M.1.cls)) (ho : isO h ci r)
    (hty : parseFieldDescriptor dd = some ty) (hn : ∀ G : GH, narrow ty (tv G v) = tv G v) (hft : ∀ G : GH, fits ty (tv G v) = true) (hn2 : h2.1 = h.1) (he2 : ∀ G : GH, ent G h2 r = .inr (ci, ((tgL.getD ci []).mapIdx (fun k t => fv G h r k t)).set k (tv G v))) (ho2 : ∀ (G : GH) (i : Nat), i ≠ r → ent G h2 i = ent G h i)
    (kk : Rr M kc ks (pc + 3) ls st h2 P) : Rr M kc ks pc ls (v :: .ref r :: st) h P := by
  intro G p l e Rm s m args below meth c H locs cells slots Q la X hp h1 h3 hr hl
  have hr0 : r < 1000 := Nat.lt_of_lt_of_le ho.1 hp.2.1
  rw [List.map_cons, List.map_cons, tv_ref G hr0]
  have he := cells_at G h ho.1
  rw [ent_obj G h ho.2 (Nat.lt_trans F.lt (by decide))] at he
  obtain ⟨ty0, hty0⟩ := F.2.2.1
  have hgo : ∀ (H1 : Heap) (locs1 : List Loc), va_P G.2.1 clsL ((cellsOf G h).set r (G.1 + r, .inr (ci, ((tgL.getD ci []).mapIdx (fun k t => fv G h r k t)).set k (tv G v)))) H1 → H1.size = H.size → va_S (AM G) s.heap H1 locs1 → W p l e Rm s m args below meth c H1 locs1 cells slots Q (F0 m (pc + 3) la (st.map (tv G))) := by
    intro H1 locs1 q1 q2 q3
    rw [cells_set G hn2 r (he2 G) (ho2 G)] at q1
    exact kk G p l e Rm s m args below meth c H1 locs1 cells slots Q la X ⟨by rw [q2, hn2]; exact hp.1, by rw [hn2]; exact hp.2.1, q1, q3⟩ h1 h3 hr hl
  cases fin with
  | false =>
    refine va_put_sz (D := G.2.1) X.1 X.2.1 X.2.2.2.2.2.1 F.2.1 ty0 hty0 F.2.2.2 X.2.2.2.2.1 X.2.2.2.2.2.2.2.2.2.2.1.1 hp.2.2.1 (cells_D G h) hp.2.2.2 r he F.1 k hk (ref := C) (by rw [hT]; exact X.2.2.2.2.2.1 _ hw) (fun x hx => by rw [hT] at hx ⊢; exact hx) (by rw [hT]) (ty := ty) (by rw [hT]; exact hty) (hn G) (hft G) (by rw [List.length_mapIdx]; exact hl0) hd hgo
  | true =>
    have hf : M.1.name = "<init>" ∧ C = M.1.cls := hfin.resolve_left (by decide)
    refine va_putF_sz (D := G.2.1) X.1 X.2.1 X.2.2.2.2.2.1 F.2.1 ty0 hty0 F.2.2.2 X.2.2.2.2.1 X.2.2.2.2.2.2.2.2.2.2.1.1 hp.2.2.1 (cells_D G h) hp.2.2.2 r he F.1 k hk (ref := C) (by rw [hT]; exact X.2.2.2.2.2.1 _ hw) (fun x hx => by rw [hT] at hx ⊢; exact hx) (by rw [hT]) (by rw [X.2.2.2.2.2.2.2.1]; exact hf.1) (by rw [hT]; exact hf.2) (ty := ty) (by rw [hT]; exact hty) (hn G) (hft G) (by rw [List.length_mapIdx]; exact hl0) hd hgo
theorem R_putI {i r : Nat} {n dd : String} {fin : Bool} {x : Int32} {ty : FieldType} (ci k : Nat) (F : ClsOK ci C T N) (hk : k < N) (hT : T k = (C, n, dd, fin)) (ht : (tgL.getD ci [])[k]? = some 0) (hd : decode M.2.1 pc = .ok (.putfield i, 3)) (hw : Cond.fieldLink M.1.cls i C n dd ∈ TBG) (hfin : fin = false ∨ (M.1.name = "<init>" ∧ C = M.1.cls)) (ho : isO h ci r)
    (hty : parseFieldDescriptor dd = some ty) (hn : narrow ty (.int x) = .int x) (hft : fits ty (.int x) = true)
    (kk : Rr M kc ks (pc + 3) ls st (sI h r k x) P) : Rr M kc ks pc ls (.int x :: .ref r :: st) h P :=
  R_put (v := .int x) (h2 := sI h r k x) ci k F hk hT (List.getElem?_eq_some_iff.mp ht).1 hd hw hfin ho hty (fun _ => hn) (fun _ => hft) rfl (fun G => ent_sI G h ho.2 (Nat.lt_trans F.lt (by decide)) ht) (fun G i hi => ent_congr G (up2_r _ _ _ hi) rfl rfl) kk
theorem R_putL {i r : Nat} {n dd : String} {fin : Bool} {x : Int64} {ty : FieldType} (ci k : Nat) (F : ClsOK ci C T N) (hk : k < N) (hT : T k = (C, n, dd, fin)) (ht : (tgL.getD ci [])[k]? = some 1) (hd : decode M.2.1 pc = .ok (.putfield i, 3)) (hw : Cond.fieldLink M.1.cls i C n dd ∈ TBG) (hfin : fin = false ∨ (M.1.name = "<init>" ∧ C = M.1.cls)) (ho : isO h ci r)
    (hty : parseFieldDescriptor dd = some ty) (hn : narrow ty (.long x) = .long x) (hft : fits ty (.long x) = true)
    (kk : Rr M kc ks (pc + 3) ls st (sL h r k x) P) : Rr M kc ks pc ls (.long x :: .ref r :: st) h P :=
  R_put (v := .long x) (h2 := sL h r k x) ci k F hk hT (List.getElem?_eq_some_iff.mp ht).1 hd hw hfin ho hty (fun _ => hn) (fun _ => hft) rfl (fun G => ent_sL G h ho.2 (Nat.lt_trans F.lt (by decide)) ht) (fun G i hi => ent_congr G rfl (up2_r _ _ _ hi) rfl) kk
theorem R_putF {i r x : Nat} {n dd : String} {fin : Bool} {ty : FieldType} (ci k : Nat) (F : ClsOK ci C T N) (hk : k < N) (hT : T k = (C, n, dd, fin)) (ht : (tgL.getD ci [])[k]? = some 2) (hd : decode M.2.1 pc = .ok (.putfield i, 3)) (hw : Cond.fieldLink M.1.cls i C n dd ∈ TBG) (hfin : fin = false ∨ (M.1.name = "<init>" ∧ C = M.1.cls)) (ho : isO h ci r)
    (hty : parseFieldDescriptor dd = some ty) (hrf : (∃ n, ty = .object n) ∨ ∃ t, ty = .array t)
    (kk : Rr M kc ks (pc + 3) ls st (sF h r k x) P) : Rr M kc ks pc ls (.ref x :: .ref r :: st) h P :=
  R_put (v := .ref x) (h2 := sF h r k x) ci k F hk hT (List.getElem?_eq_some_iff.mp ht).1 hd hw hfin ho hty (fun G => by rcases hrf with ⟨_, rfl⟩ | ⟨_, rfl⟩ <;> simp only [tv] <;> cases ro G x <;> rfl) (fun G => by rcases hrf with ⟨_, rfl⟩ | ⟨_, rfl⟩ <;> simp only [tv] <;> cases ro G x <;> rfl) rfl (fun G => ent_sF G h ho.2 (Nat.lt_trans F.lt (by decide)) ht) (fun G i hi => ent_congr G rfl rfl (up2_r _ _ _ hi)) kk
end HRULES
end
section
def isA (h : AH) (t r : Nat) : Prop := r < h.1 ∧ kd r = 100 + t
theorem ent_arr (G : GH) (h : AH) {r t : Nat} (hk : kd r = 100 + t) : ent G h r = .inl (G.2.2.1 t, ln r, if t = 1 then .inr (.inl (gL h r)) else if t < 3 then .inl (gI h r) else .inr (.inr (.inr (.inr (fun j => ro G (gF h r j)))))) := by
  unfold ent
  rw [if_neg (by omega), hk, show 100 + t - 100 = t by omega]
  congr 3
  by_cases e : t = 1
  · subst e; rfl
  · rw [if_neg (by omega), if_neg e]
    by_cases e2 : t < 3
    · rw [if_pos (by omega), if_pos e2]
    · rw [if_neg (by omega), if_neg e2]
theorem gI_sI (h : AH) (r k : Nat) (x : Int32) : gI (sI h r k x) r = upd (gI h r) k x := by
  funext j
  simp [gI, sI, up2, upd]
theorem gL_sL (h : AH) (r k : Nat) (x : Int64) : gL (sL h r k x) r = vp_updL (gL h r) k x := by
  funext j
  simp [gL, sL, up2, vp_updL]
section ARULES
variable {M : MI} {kc ks pc : Nat} {ls : List (Nat × Value)} {st : List Value} {h : AH} {P : Option Value → AH → Prop}
theorem R_iaload {r : Nat} {i : Int32} (hd : decode M.2.1 pc = .ok (.iaload, 1)) (ho : isA h 0 r) (hi : vp_in i (ln r)) (kk : Rr M kc ks (pc + 1) ls (.int (gI h r i.toNatClampNeg) :: st) h P) : Rr M kc ks pc ls (.int i :: .ref r :: st) h P := by
  intro G p l e Rm s m args below meth c H locs cells slots Q la X hp h1 h2 hr hl
  have hr0 : r < 1000 := Nat.lt_of_lt_of_le ho.1 hp.2.1
  rw [List.map_cons, List.map_cons, tv_ref G hr0]
  have he := cells_at G h ho.1
  rw [ent_arr G h ho.2] at he
  exact va_iald (D := G.2.1) X.1 X.2.1 X.2.2.2.2.2.2.2.2.2.2.1.1 hp.2.2.1 r 0 he rfl hi hd (kk G p l e Rm s m args below meth c H locs cells slots Q la X hp h1 h2 hr hl)
theorem R_baload {r : Nat} {i : Int32} (hd : decode M.2.1 pc = .ok (.baload, 1)) (ho : isA h 2 r) (hi : vp_in i (ln r)) (kk : Rr M kc ks (pc + 1) ls (.int (gI h r i.toNatClampNeg) :: st) h P) : Rr M kc ks pc ls (.int i :: .ref r :: st) h P := by
  intro G p l e Rm s m args below meth c H locs cells slots Q la X hp h1 h2 hr hl
  have hr0 : r < 1000 := Nat.lt_of_lt_of_le ho.1 hp.2.1
  rw [List.map_cons, List.map_cons, tv_ref G hr0]
  have he := cells_at G h ho.1
  rw [ent_arr G h ho.2] at he
  exact va_bald (D := G.2.1) X.1 X.2.1 X.2.2.2.2.2.2.2.2.2.2.1.1 hp.2.2.1 r 2 he rfl hi hd (kk G p l e Rm s m args below meth c H locs cells slots Q la X hp h1 h2 hr hl)
theorem R_laload {r : Nat} {i : Int32} (hd : decode M.2.1 pc = .ok (.laload, 1)) (ho : isA h 1 r) (hi : vp_in i (ln r)) (kk : Rr M kc ks (pc + 1) ls (.long (gL h r i.toNatClampNeg) :: st) h P) : Rr M kc ks pc ls (.int i :: .ref r :: st) h P := by
  intro G p l e Rm s m args below meth c H locs cells slots Q la X hp h1 h2 hr hl
  have hr0 : r < 1000 := Nat.lt_of_lt_of_le ho.1 hp.2.1
  rw [List.map_cons, List.map_cons, tv_ref G hr0]
  have he := cells_at G h ho.1
  rw [ent_arr G h ho.2] at he
  exact va_lald (D := G.2.1) X.1 X.2.1 X.2.2.2.2.2.2.2.2.2.2.1.1 hp.2.2.1 r 1 he rfl hi hd (kk G p l e Rm s m args below meth c H locs cells slots Q la X hp h1 h2 hr hl)
theorem R_aaload {r t : Nat} {i : Int32} (ht : t = 3 ∨ t = 4) (hd : decode M.2.1 pc = .ok (.aaload, 1)) (ho : isA h t r) (hi : vp_in i (ln r)) (kk : Rr M kc ks (pc + 1) ls (.ref (gF h r i.toNatClampNeg) :: st) h P) : Rr M kc ks pc ls (.int i :: .ref r :: st) h P := by
  intro G p l e Rm s m args below meth c H locs cells slots Q la X hp h1 h2 hr hl
  have hr0 : r < 1000 := Nat.lt_of_lt_of_le ho.1 hp.2.1
  rw [List.map_cons, List.map_cons, tv_ref G hr0]
  have he := cells_at G h ho.1
  rw [ent_arr G h ho.2] at he
  have hlt : i.toNatClampNeg < ln r := Nat.not_le.mp fun q => hi (Or.inr q)
  have h9 := kk G p l e Rm s m args below meth c H locs cells slots Q la X hp h1 h2 hr hl
  have hP := hp.2.2.1 r _ he
  have hK := X.2.2.2.2.2.2.2.2.2.2.1.1
  rcases ht with rfl | rfl
  · exact va_aldq (D := G.2.1) X.1 X.2.1 hK hp.2.2.1 r 3 he rfl hi hd h9
  · exact W.aald (v := va_rf (ro G (gF h r i.toNatClampNeg))) (ty := .array .int) X.1 X.2.1 hP ((hK.2 4 _ rfl).1 (ln r) (fun j => va_rf (ro G (gF h r j)))) rfl (fun q => by cases q) (by show ¬ (i < 0 ∨ (arrV _ _ _).slots.size ≤ _); rw [arrV_size]; exact hi) (by show (arrV _ _ _).slots[_]? = _; rw [arrV_read _ _ hlt]) rfl rfl hd h9
theorem R_alen {r t : Nat} {v : Int32} (ht : t < 5) (hd : decode M.2.1 pc = .ok (.arraylength, 1)) (ho : isA h t r) (hv : Int32.ofNat (ln r) = v) (kk : Rr M kc ks (pc + 1) ls (.int v :: st) h P) : Rr M kc ks pc ls (.ref r :: st) h P := by
  intro G p l e Rm s m args below meth c H locs cells slots Q la X hp h1 h2 hr hl
  have hr0 : r < 1000 := Nat.lt_of_lt_of_le ho.1 hp.2.1
  rw [List.map_cons, tv_ref G hr0]
  have he := cells_at G h ho.1
  rw [ent_arr G h ho.2] at he
  obtain ⟨ty, hty⟩ : ∃ ty, (tyL G)[t]? = some (G.2.2.1 t, ty) := by
    rcases (show t = 0 ∨ t = 1 ∨ t = 2 ∨ t = 3 ∨ t = 4 by omega) with rfl | rfl | rfl | rfl | rfl <;> exact ⟨_, rfl⟩
  exact va_alen (D := G.2.1) X.1 X.2.1 X.2.2.2.2.2.2.2.2.2.2.1.1 hp.2.2.1 r t he hty hv hd (kk G p l e Rm s m args below meth c H locs cells slots Q la X hp h1 h2 hr hl)
/-- an array's cell behind a store: the world of the new heap -/
theorem put_arr {G : GH} {h h2 : AH} {r : Nat} {s : State} {H H1 : Heap} {locs : List Loc} {k : Nat} {e2 : va_E} (hp : Hp G h s H locs) (hr : r < h.1) (hn : h2.1 = h.1) (he2 : ent G h2 r = e2) (ho : ∀ i, i ≠ r → ent G h2 i = ent G h i) (hc : va_at G.2.1 clsL (G.1 + r, e2) H1) (hz : H1.size = H.size) (oq : ∀ q : Nat, q ≠ G.1 + r → H1[q]? = H[q]?) : Hp G h2 s H1 (locs ++ [⟨G.1 + r, k⟩]) := by
  have he := cells_at G h hr
  refine ⟨by rw [hz, hn]; exact hp.1, by rw [hn]; exact hp.2.1, ?_, hp.2.2.2.put hz oq (Nat.le_add_right _ _)⟩
  rw [← cells_set G hn r he2 ho]
  exact hp.2.2.1.set (cells_D G h) he hc oq
theorem R_iastore {r : Nat} {i x : Int32} (hd : decode M.2.1 pc = .ok (.iastore, 1)) (ho : isA h 0 r) (hi : vp_in i (ln r)) (kk : Rr M kc ks (pc + 1) ls st (sI h r i.toNatClampNeg x) P) : Rr M kc ks pc ls (.int x :: .int i :: .ref r :: st) h P := by
  intro G p l e Rm s m args below meth c H locs cells slots Q la X hp h1 h2 hr hl
  have hr0 : r < 1000 := Nat.lt_of_lt_of_le ho.1 hp.2.1
  rw [List.map_cons, List.map_cons, List.map_cons, tv_ref G hr0]
  have he := cells_at G h ho.1
  rw [ent_arr G h ho.2] at he
  have hP := hp.2.2.1 r _ he
  have hK := X.2.2.2.2.2.2.2.2.2.2.1.1
  refine W.iast X.1 X.2.1 hP ((hK.2 0 _ rfl).1 (ln r) (fun j => .int (gI h r j))) (fun q => by cases q) (by show ¬ (i < 0 ∨ (arrV _ _ _).slots.size ≤ _); rw [arrV_size]; exact hi) rfl rfl hd fun H1 e1 z oq => ?_
  refine kk G p l e Rm s m args below meth c H1 _ cells slots Q la X (put_arr hp ho.1 rfl (ent_arr G _ ho.2) (fun i hi => ent_congr G (up2_r _ _ _ hi) rfl rfl) ?_ z oq) h1 h2 hr hl
  show H1[G.1 + r]? = some (vp_cell _ _)
  rw [e1]
  show some ((vp_cell (G.2.2.1 0) (ln r, .inl (gI h r))).setSlot i.toNatClampNeg (.int x)) = some (vp_cell (G.2.2.1 0) (ln r, .inl (gI (sI h r i.toNatClampNeg x) r)))
  rw [gI_sI, vp_cell_i, vp_cell_i, arrV_store]
  congr 2
  funext q
  by_cases hq : q = i.toNatClampNeg
  · subst hq
    simp [updV, upd]
  · simp [updV, upd, hq]
theorem R_bastore {r : Nat} {i x : Int32} (hd : decode M.2.1 pc = .ok (.bastore, 1)) (ho : isA h 2 r) (hi : vp_in i (ln r)) (kk : Rr M kc ks (pc + 1) ls st (sI h r i.toNatClampNeg x.toInt8.toInt32) P) : Rr M kc ks pc ls (.int x :: .int i :: .ref r :: st) h P := by
  intro G p l e Rm s m args below meth c H locs cells slots Q la X hp h1 h2 hr hl
  have hr0 : r < 1000 := Nat.lt_of_lt_of_le ho.1 hp.2.1
  rw [List.map_cons, List.map_cons, List.map_cons, tv_ref G hr0]
  have he := cells_at G h ho.1
  rw [ent_arr G h ho.2] at he
  have hP := hp.2.2.1 r _ he
  have hK := X.2.2.2.2.2.2.2.2.2.2.1.1
  refine W.bast X.1 X.2.1 hP ((hK.2 2 _ rfl).1 (ln r) (fun j => .int (gI h r j))) (fun q => by cases q) (by show ¬ (i < 0 ∨ (arrV _ _ _).slots.size ≤ _); rw [arrV_size]; exact hi) rfl rfl hd fun H1 e1 z oq => ?_
  refine kk G p l e Rm s m args below meth c H1 _ cells slots Q la X (put_arr hp ho.1 rfl (ent_arr G _ ho.2) (fun i hi => ent_congr G (up2_r _ _ _ hi) rfl rfl) ?_ z oq) h1 h2 hr hl
  show H1[G.1 + r]? = some (vp_cell _ _)
  rw [e1]
  show _ = some (vp_cell (G.2.2.1 2) (ln r, .inl (gI (sI h r i.toNatClampNeg x.toInt8.toInt32) r)))
  rw [gI_sI, vp_cell_i]
  show some ((vp_cell (G.2.2.1 2) (ln r, .inl (gI h r))).setSlot i.toNatClampNeg _) = _
  rw [vp_cell_i, arrV_store]
  congr 2
  funext q
  by_cases hq : q = i.toNatClampNeg
  · subst hq
    simp [updV, upd]
    try rfl
  · simp [updV, upd, hq]
theorem R_lastore {r : Nat} {i : Int32} {x : Int64} (hd : decode M.2.1 pc = .ok (.lastore, 1)) (ho : isA h 1 r) (hi : vp_in i (ln r)) (kk : Rr M kc ks (pc + 1) ls st (sL h r i.toNatClampNeg x) P) : Rr M kc ks pc ls (.long x :: .int i :: .ref r :: st) h P := by
  intro G p l e Rm s m args below meth c H locs cells slots Q la X hp h1 h2 hr hl
  have hr0 : r < 1000 := Nat.lt_of_lt_of_le ho.1 hp.2.1
  rw [List.map_cons, List.map_cons, List.map_cons, tv_ref G hr0]
  have he := cells_at G h ho.1
  rw [ent_arr G h ho.2] at he
  have hP := hp.2.2.1 r _ he
  have hK := X.2.2.2.2.2.2.2.2.2.2.1.1
  refine W.last X.1 X.2.1 hP ((hK.2 1 _ rfl).1 (ln r) (fun j => .long (gL h r j))) (fun q => by cases q) (by show ¬ (i < 0 ∨ (arrV _ _ _).slots.size ≤ _); rw [arrV_size]; exact hi) rfl rfl hd fun H1 e1 z oq => ?_
  refine kk G p l e Rm s m args below meth c H1 _ cells slots Q la X (put_arr hp ho.1 rfl (ent_arr G _ ho.2) (fun i hi => ent_congr G rfl (up2_r _ _ _ hi) rfl) ?_ z oq) h1 h2 hr hl
  show H1[G.1 + r]? = some (vp_cell _ _)
  rw [e1]
  show some ((vp_cell (G.2.2.1 1) (ln r, .inr (.inl (gL h r)))).setSlot i.toNatClampNeg (.long x)) = some (vp_cell (G.2.2.1 1) (ln r, .inr (.inl (gL (sL h r i.toNatClampNeg x) r))))
  rw [gL_sL, vp_cell_l, vp_cell_l, arrV_store]
  congr 2
  funext q
  by_cases hq : q = i.toNatClampNeg
  · subst hq
    simp [updV, vp_updL]
  · simp [updV, vp_updL, hq]
end ARULES
end
section
def OkB (N : MI) (n : Nat) : Prop :=
  Cond.code N.1 N.2.1 N.2.2.1 N.2.2.2.1 ∈ TBG ∧ Cond.initialized N.1.cls ∈ TBG ∧ (N.1.cls ≠ "java/lang/invoke/MethodHandle" ∧ N.1.cls ≠ "java/lang/invoke/VarHandle" ∧ (parseMethodDescriptor N.1.desc).map (fun d => d.parameters.length) = some n) ∧ N.2.2.1 ≤ 19
def OkV (N : MI) (n : Nat) : Prop := OkB N n ∧ Cond.instanceMethod N.1 ∈ TBG ∧ Cond.selects N.1.cls N.1 N.1 ∈ TBG
def OkS (N : MI) (n : Nat) : Prop := OkB N n ∧ Cond.static N.1 ∈ TBG
def OkI (N : MI) (n : Nat) : Prop := OkB N n ∧ Cond.instanceMethod N.1 ∈ TBG ∧ N.1.name = "<init>" ∧ N.2.2.2.1 = none
theorem tb_good {ws : List Cond} (h : ∀ w ∈ ws, w ∈ TBG) : GoodIn TBG ws := fun w hw => ⟨h w hw, good_of_word (tbg_good (h w hw))⟩
theorem ws_tb {N : MI} {n : Nat} (h : OkB N n) : ∀ w ∈ wsM N, w ∈ TBG := fun w hw => by
  rcases List.mem_cons.mp hw with rfl | hw
  · exact h.1
  · exact hw
theorem pc_blind (G : GH) (as : List Value) (h : AH) : FrameBlind (PcM G as h) := fun a U g mk q => by
  obtain ⟨q0, q1, q2, q3, q4, q5⟩ := q
  exact ⟨q0, q1, q2, q3, Cs.same (u := U) (U := U.calling g mk a) rfl q4, St.moved (u := U) (U := U.calling g mk a) (Vm.Alike.refl U.vm) q5⟩
theorem pc_now {G : GH} {as : List Value} {h : AH} {s : State} {H : Heap} {locs : List Loc} (hC : Cs G s) (hS : St G s s.heap) (hp : Hp G h s H locs) : ∀ U : State, U.heap = H → s.WarmedH U.vm → PcM G as h (as.map (tv G)).toArray U := fun U hU hW =>
  ⟨rfl, by rw [hU]; exact hp.1, hp.2.1, by rw [hU]; exact hp.2.2.1, hC.warm hW, by rw [hU]; exact (hS.moved hW.alike).kept hp.2.2.2.2.1⟩
section CBACK
variable {p : Program} {l : Launch} {e : Env} {R : Room} {s : State} {m : MethodId} {args : Array Value} {below : List Frame} {meth : Method} {c : Code} {H : Heap} {locs : List Loc} {cells slots : Nat} {Q : State → Prop}
theorem run_back {G : GH} {P : Option Value → AH → Prop} {a : Array Value} {mc ms pc : Nat} {la : Array Slot} {st0 rst : List Value} (hr : va_Run p l e R s m args below meth c H locs cells slots mc ms (F0 m pc la st0) rst (QcM G P a) (AM G)) (hS : va_S (AM G) s.heap H locs)
    (kk : ∀ (v : Option Value) (h2 : AH) (H1 : Heap) (locs1 : List Loc), P v h2 → Hp G h2 s H1 locs1 → W p l e R s m args below meth c H1 locs1 (cells + mc) (slots + ms) Q (F0 m (pc + 3) la ((v.map (tv G)).toList ++ rst))) : W p l e R s m args below meth c H locs cells slots Q (F0 m pc la st0) := by
  intro T hT X
  obtain ⟨v, st₀, t, T', L, h0, X', hL, e1, e2, ⟨⟨v2, h2, hv, hp, hw1, hw2, hw3, hw4, hw5⟩, hz, hk⟩, st⟩ := hr T hT X
  have hv2 : v = v2.map (tv G) := by injection hv
  subst hv2
  rw [h0] at hz hk
  obtain ⟨t2, a1, b1⟩ := kk v2 h2 T'.heap (locs ++ L) hp ⟨by rw [e1]; exact hw1, hw2, by rw [e1]; exact hw3,
    ⟨Nat.le_trans hS.1 (by rw [e1]; exact hz), fun q h1 h2 => by rw [e1, hk q (Nat.lt_of_lt_of_le h1 hS.1) h2]; exact hS.2.1 q h1 h2, fun q hq => by
      rcases List.mem_append.mp hq with h | h
      · exact hS.2.2 q h
      · exact hL q h⟩⟩ T' rfl X'
  exact ⟨t2, st t2 a1, b1⟩
end CBACK
section COPYZ
variable {p : Program} {l : Launch} {e : Env} {R : Room} {s : State} {m : MethodId} {args : Array Value} {below : List Frame} {meth : Method} {c : Code} {H : Heap} {locs : List Loc} {cells slots : Nat} {Q : State → Prop}
variable {pc : Nat} {ls : Array Slot} {rest : List Value} {D : va_G} {cl : List vw_C} {A : Nat → Prop} {a : Nat} {tys : List (ClassId × FieldType)} {ws : va_W} {H0 : Heap}
theorem va_copyi_sz {cc : ByteArray} (hexec : p.tables.exec = Jvm.exec) (hb : c.code = cc) (hml : c.maxLocals = ls.size) {own : String} {index : Nat} (hown : s.vm.findClass own = some m.cls) (hlink : (Cond.methodLink own index arraycopyName).before args s = true) (hnat : (Cond.native arraycopyName).before args s = true) (hstat : (Cond.static arraycopyName).before args s = true) (hini : (Cond.initialized "java/lang/System").before args s = true)
    (hK : va_K D cl tys s) (hP : va_P D cl ws H) (hD : va_D A ws) (hS : va_S A H0 H locs) (q0 q1 t0 t1 : Nat) {a0 : Nat} {c0 c1 : ClassId} {n0 n1 : Nat} {f g : Nat → Int32} {ty : FieldType} (ha0 : ws[q0]? = some (a0, .inl (c0, n0, .inl f))) (ha1 : ws[q1]? = some (a, .inl (c1, n1, .inl g))) (ht0 : tys[t0]? = some (c0, ty)) (ht1 : tys[t1]? = some (c1, ty)) (hprim : refKind ty = false)
    {sp dp n : Int32} (h1 : ¬ sp < 0) (h2 : ¬ dp < 0) (h3 : ¬ n < 0) (h4 : sp.toNatClampNeg + n.toNatClampNeg ≤ n0) (h5 : dp.toNatClampNeg + n.toNatClampNeg ≤ n1) (hfit : ∀ i, i < n.toNatClampNeg → fits ty (.int (f (sp.toNatClampNeg + i))) = true)
    (hframes : 1 ≤ R.frames) (hlocals : (rest.map fun v => v.category).sum + (nativeFrameWords "java/lang/System" "arraycopy" 5 + 11) ≤ R.locals) (hdg : decode cc pc = .ok (.invokestatic index, 3))
    (kk : ∀ (H1 : Heap) (locs1 : List Loc), va_P D cl (ws.set q1 (a, .inl (c1, n1, .inl (va_cpy f g sp.toNatClampNeg dp.toNatClampNeg n.toNatClampNeg)))) H1 → H1.size = H.size → va_S A H0 H1 locs1 → W p l e R s m args below meth c H1 locs1 cells slots Q (F0 m (pc + 3) ls rest)) : W p l e R s m args below meth c H locs cells slots Q (F0 m pc ls (.int n :: .int dp :: .ref a :: .int sp :: .ref a0 :: rest)) := by
  have nn : ∀ z : Int32, ¬ z < 0 → z.toInt = (z.toNatClampNeg : Int) := by
    intro z hz
    have hz0 : (0 : Int) ≤ z.toInt := by
      have := Int32.not_lt.mp hz
      simpa using Int32.le_iff_toInt_le.mp this
    show z.toInt = ((z.toInt.toNat : Nat) : Int)
    omega
  intro T hT X
  have hc0 : H[a0]? = some (vp_cell c0 (n0, .inl f)) := hP q0 _ ha0
  have hc1 : H[a]? = some (vp_cell c1 (n1, .inl g)) := hP q1 _ ha1
  obtain ⟨-, k0, hk0, cm0, hkk0⟩ := (hK.2 t0 _ ht0).1 n0 (fun j => .int (f j))
  obtain ⟨-, k1, hk1, cm1, hkk1⟩ := (hK.2 t1 _ ht1).1 n1 (fun j => .int (g j))
  obtain ⟨vm', X', step⟩ := X.arraycopy hexec hown hlink hnat hstat hini (src := a0) (dst := a) (cs := vp_cell c0 (n0, .inl f)) (cd := vp_cell c1 (n1, .inl g)) (srcPos := sp) (destPos := dp) (n := n) (by rw [hT]; exact hc0) (by rw [hT]; exact hc1)
    (fun _ h => by cases h) (fun _ h => by cases h) (fun h => by cases h) (fun h => by cases h) hk0 hk1 hkk0 hkk1 (by simp [hprim]) h1 h2 h3
    (by rw [nn sp h1, nn n h3]; show ¬ _ > ((arrV c0 n0 (fun j => .int (f j))).slots.size : Int); rw [arrV_size]; omega)
    (by rw [nn dp h2, nn n h3]; show ¬ _ > ((arrV c1 n1 (fun j => .int (g j))).slots.size : Int); rw [arrV_size]; omega)
    (fun vm₁ _ i hi => by
      have e : (vp_cell c0 (n0, .inl f)).slots.getD (sp.toNatClampNeg + i) .null = .int (f (sp.toNatClampNeg + i)) := by
        show (arrV c0 n0 (fun j => .int (f j))).slots.getD _ _ = _
        rw [Array.getD_eq_getD_getElem?, arrV_read _ _ (by omega)]
        rfl
      refine ⟨?_, ?_⟩
      · rw [e]
        exact hfit i hi
      · rw [e]
        exact trivial)
    (g := F0 m pc ls (.int n :: .int dp :: .ref a :: .int sp :: .ref a0 :: rest)) rfl (by rw [hml]) (rest := rest) rfl (by rw [hb]; exact hdg) hframes (by show 2 * 0 + _ + _ ≤ _; omega)
  have e1 : copied (vp_cell c0 (n0, .inl f)) (vp_cell c1 (n1, .inl g)) sp dp n = vp_cell c1 (n1, .inl (va_cpy f g sp.toNatClampNeg dp.toNatClampNeg n.toNatClampNeg)) := va_copied (fun z => .int z) c0 c1 f g h4
  rw [e1] at X' step
  have hl : a < H.size := (Array.getElem?_eq_some_iff.mp hc1).1
  have hheap : ((T.setVm vm').setCell a (vp_cell c1 (n1, .inl (va_cpy f g sp.toNatClampNeg dp.toNatClampNeg n.toNatClampNeg)))).heap = H.setIfInBounds a (vp_cell c1 (n1, .inl (va_cpy f g sp.toNatClampNeg dp.toNatClampNeg n.toNatClampNeg))) := by rw [← hT]; rfl
  have oq : ∀ q : Nat, q ≠ a → (H.setIfInBounds a (vp_cell c1 (n1, .inl (va_cpy f g sp.toNatClampNeg dp.toNatClampNeg n.toNatClampNeg))))[q]? = H[q]? := fun q hq => by simp [Array.getElem?_setIfInBounds, Ne.symm hq]
  obtain ⟨t, a1, b1⟩ := kk _ _ (hP.set hD ha1 (show (H.setIfInBounds a _)[a]? = some _ by simp [Array.getElem?_setIfInBounds, hl]) oq) (by simp) ⟨by simp; exact hS.1, fun q g1 g2 => by
      rw [oq q (fun e => g2 (by rw [e]; exact hD.2 q1 _ ha1))]
      exact hS.2.1 q g1 g2, fun q hq => by
      rcases List.mem_append.mp hq with h | h
      · exact hS.2.2 q h
      · obtain ⟨z, -, hz⟩ := List.mem_map.mp h
        rw [← hz]
        exact hD.2 q1 _ ha1⟩ _ hheap X'
  exact ⟨t, step t a1, b1⟩
theorem va_copyl_sz {cc : ByteArray} (hexec : p.tables.exec = Jvm.exec) (hb : c.code = cc) (hml : c.maxLocals = ls.size) {own : String} {index : Nat} (hown : s.vm.findClass own = some m.cls) (hlink : (Cond.methodLink own index arraycopyName).before args s = true) (hnat : (Cond.native arraycopyName).before args s = true) (hstat : (Cond.static arraycopyName).before args s = true) (hini : (Cond.initialized "java/lang/System").before args s = true)
    (hK : va_K D cl tys s) (hP : va_P D cl ws H) (hD : va_D A ws) (hS : va_S A H0 H locs) (q0 q1 t0 t1 : Nat) {a0 : Nat} {c0 c1 : ClassId} {n0 n1 : Nat} {f g : Nat → Int64} {ty : FieldType} (ha0 : ws[q0]? = some (a0, .inl (c0, n0, .inr (.inl f)))) (ha1 : ws[q1]? = some (a, .inl (c1, n1, .inr (.inl g)))) (ht0 : tys[t0]? = some (c0, ty)) (ht1 : tys[t1]? = some (c1, ty)) (hprim : refKind ty = false)
    {sp dp n : Int32} (h1 : ¬ sp < 0) (h2 : ¬ dp < 0) (h3 : ¬ n < 0) (h4 : sp.toNatClampNeg + n.toNatClampNeg ≤ n0) (h5 : dp.toNatClampNeg + n.toNatClampNeg ≤ n1) (hfit : ∀ i, i < n.toNatClampNeg → fits ty (.long (f (sp.toNatClampNeg + i))) = true)
    (hframes : 1 ≤ R.frames) (hlocals : (rest.map fun v => v.category).sum + (nativeFrameWords "java/lang/System" "arraycopy" 5 + 11) ≤ R.locals) (hdg : decode cc pc = .ok (.invokestatic index, 3))
    (kk : ∀ (H1 : Heap) (locs1 : List Loc), va_P D cl (ws.set q1 (a, .inl (c1, n1, .inr (.inl (va_cpy f g sp.toNatClampNeg dp.toNatClampNeg n.toNatClampNeg))))) H1 → H1.size = H.size → va_S A H0 H1 locs1 → W p l e R s m args below meth c H1 locs1 cells slots Q (F0 m (pc + 3) ls rest)) : W p l e R s m args below meth c H locs cells slots Q (F0 m pc ls (.int n :: .int dp :: .ref a :: .int sp :: .ref a0 :: rest)) := by
  have nn : ∀ z : Int32, ¬ z < 0 → z.toInt = (z.toNatClampNeg : Int) := by
    intro z hz
    have hz0 : (0 : Int) ≤ z.toInt := by
      have := Int32.not_lt.mp hz
      simpa using Int32.le_iff_toInt_le.mp this
    show z.toInt = ((z.toInt.toNat : Nat) : Int)
    omega
  intro T hT X
  have hc0 : H[a0]? = some (vp_cell c0 (n0, .inr (.inl f))) := hP q0 _ ha0
  have hc1 : H[a]? = some (vp_cell c1 (n1, .inr (.inl g))) := hP q1 _ ha1
  obtain ⟨-, k0, hk0, cm0, hkk0⟩ := (hK.2 t0 _ ht0).1 n0 (fun j => .long (f j))
  obtain ⟨-, k1, hk1, cm1, hkk1⟩ := (hK.2 t1 _ ht1).1 n1 (fun j => .long (g j))
  obtain ⟨vm', X', step⟩ := X.arraycopy hexec hown hlink hnat hstat hini (src := a0) (dst := a) (cs := vp_cell c0 (n0, .inr (.inl f))) (cd := vp_cell c1 (n1, .inr (.inl g))) (srcPos := sp) (destPos := dp) (n := n) (by rw [hT]; exact hc0) (by rw [hT]; exact hc1)
    (fun _ h => by cases h) (fun _ h => by cases h) (fun h => by cases h) (fun h => by cases h) hk0 hk1 hkk0 hkk1 (by simp [hprim]) h1 h2 h3
    (by rw [nn sp h1, nn n h3]; show ¬ _ > ((arrV c0 n0 (fun j => .long (f j))).slots.size : Int); rw [arrV_size]; omega)
    (by rw [nn dp h2, nn n h3]; show ¬ _ > ((arrV c1 n1 (fun j => .long (g j))).slots.size : Int); rw [arrV_size]; omega)
    (fun vm₁ _ i hi => by
      have e : (vp_cell c0 (n0, .inr (.inl f))).slots.getD (sp.toNatClampNeg + i) .null = .long (f (sp.toNatClampNeg + i)) := by
        show (arrV c0 n0 (fun j => .long (f j))).slots.getD _ _ = _
        rw [Array.getD_eq_getD_getElem?, arrV_read _ _ (by omega)]
        rfl
      refine ⟨?_, ?_⟩
      · rw [e]
        exact hfit i hi
      · rw [e]
        exact trivial)
    (g := F0 m pc ls (.int n :: .int dp :: .ref a :: .int sp :: .ref a0 :: rest)) rfl (by rw [hml]) (rest := rest) rfl (by rw [hb]; exact hdg) hframes (by show 2 * 0 + _ + _ ≤ _; omega)
  have e1 : copied (vp_cell c0 (n0, .inr (.inl f))) (vp_cell c1 (n1, .inr (.inl g))) sp dp n = vp_cell c1 (n1, .inr (.inl (va_cpy f g sp.toNatClampNeg dp.toNatClampNeg n.toNatClampNeg))) := va_copied (fun z => .long z) c0 c1 f g h4
  rw [e1] at X' step
  have hl : a < H.size := (Array.getElem?_eq_some_iff.mp hc1).1
  have hheap : ((T.setVm vm').setCell a (vp_cell c1 (n1, .inr (.inl (va_cpy f g sp.toNatClampNeg dp.toNatClampNeg n.toNatClampNeg))))).heap = H.setIfInBounds a (vp_cell c1 (n1, .inr (.inl (va_cpy f g sp.toNatClampNeg dp.toNatClampNeg n.toNatClampNeg)))) := by rw [← hT]; rfl
  have oq : ∀ q : Nat, q ≠ a → (H.setIfInBounds a (vp_cell c1 (n1, .inr (.inl (va_cpy f g sp.toNatClampNeg dp.toNatClampNeg n.toNatClampNeg)))))[q]? = H[q]? := fun q hq => by simp [Array.getElem?_setIfInBounds, Ne.symm hq]
  obtain ⟨t, a1, b1⟩ := kk _ _ (hP.set hD ha1 (show (H.setIfInBounds a _)[a]? = some _ by simp [Array.getElem?_setIfInBounds, hl]) oq) (by simp) ⟨by simp; exact hS.1, fun q g1 g2 => by
      rw [oq q (fun e => g2 (by rw [e]; exact hD.2 q1 _ ha1))]
      exact hS.2.1 q g1 g2, fun q hq => by
      rcases List.mem_append.mp hq with h | h
      · exact hS.2.2 q h
      · obtain ⟨z, -, hz⟩ := List.mem_map.mp h
        rw [← hz]
        exact hD.2 q1 _ ha1⟩ _ hheap X'
  exact ⟨t, step t a1, b1⟩
end COPYZ
section CRULES
variable {M N : MI} {kc ks pc : Nat} {ls : List (Nat × Value)} {st : List Value} {h : AH} {P : Option Value → AH → Prop}
theorem room_ok {Rm : Room} (hrk : N.2.2.2.2.1 + 1 ≤ M.2.2.2.2.1) (hmx : N.2.2.1 ≤ 19) (h1 : M.2.2.2.2.1 ≤ Rm.frames) (h2 : 38 * M.2.2.2.2.1 ≤ Rm.locals) : (rmM N).frames + 1 ≤ Rm.frames ∧ 8 + (N.2.2.1 + 11) + (rmM N).locals ≤ Rm.locals := by
  unfold rmM
  dsimp only
  omega
theorem call_go {kc2 ks2 : Nat} {rest : List Value} {G : GH} {p : Program} {l : Launch} {e : Env} {Rm : Room} {s : State} {m : MethodId} {args : Array Value} {below : List Frame} {meth : Method} {c : Code} {H : Heap} {locs : List Loc} {cells slots : Nat} {Q : State → Prop} {la : Array Slot} {a : Array Value} {st0 : List Value}
    (hkc : N.2.2.2.2.2.1 + kc2 = kc) (hks : N.2.2.2.2.2.2 + ks2 = ks)
    (X : Cx M G p Rm s m args meth c) (hp : Hp G h s H locs) (h1 : cells + kc ≤ Rm.cells) (h2 : slots + ks ≤ Rm.slots)
    (hr : ∀ (v : Option Value) (h2 : AH) (H2 : Heap) (locs2 : List Loc) (la2 : Array Slot) (pc2 : Nat), P v h2 → Hp G h2 s H2 locs2 → RetI M pc2 v → W p l e Rm s m args below meth c H2 locs2 (cells + kc) (slots + ks) Q (F0 m pc2 la2 (v.toList.map (tv G))))
    (hl : lv_has la M.2.2.1 (ls.map (fun q => (q.1, tv G q.2))))
    (hrun : va_Run p l e Rm s m args below meth c H locs cells slots N.2.2.2.2.2.1 N.2.2.2.2.2.2 (F0 m pc la st0) (rest.map (tv G)) (QcM G (fun v h2 => Rr M kc2 ks2 (pc + 3) ls (v.toList ++ rest) h2 P) a) (AM G)) :
    W p l e Rm s m args below meth c H locs cells slots Q (F0 m pc la st0) := by
  refine run_back hrun hp.2.2.2 fun v h9 H1 locs1 hR hp1 => ?_
  have e1 : cells + N.2.2.2.2.2.1 + kc2 = cells + kc := by omega
  have e2 : slots + N.2.2.2.2.2.2 + ks2 = slots + ks := by omega
  have h9 := hR G p l e Rm s m args below meth c H1 locs1 (cells + N.2.2.2.2.2.1) (slots + N.2.2.2.2.2.2) Q la X hp1 (by omega) (by omega) (by rw [e1, e2]; exact hr) hl
  rw [List.map_append] at h9
  cases v with
  | none => exact h9
  | some v => exact h9
theorem R_callV {i r n ci kc2 ks2 : Nat} {as rest : List Value} {T : u_T} {nf : Nat} (hd : decode M.2.1 pc = .ok (.invokevirtual i, 3)) (hw : Cond.methodLink M.1.cls i N.1 ∈ TBG) (ok : OkV N n) (hrk : N.2.2.2.2.1 + 1 ≤ M.2.2.2.2.1) (hn : as.length = n) (hs : st = as.reverse ++ .ref r :: rest) (hrest : (rest.map fun v => v.category).sum ≤ 8) (hkc : N.2.2.2.2.2.1 + kc2 = kc) (hks : N.2.2.2.2.2.2 + ks2 = ks) (ho : isO h ci r) (F : ClsOK ci N.1.cls T nf)
    (hc : Call N (.ref r :: as) h (fun v h2 => Rr M kc2 ks2 (pc + 3) ls (v.toList ++ rest) h2 P)) : Rr M kc ks pc ls st h P := by
  intro G p l e Rm s m args below meth c H locs cells slots Q la X hp h1 h2 hr hl
  have hr0 : r < 1000 := Nat.lt_of_lt_of_le ho.1 hp.2.1
  have he := cells_at G h ho.1
  rw [ent_obj G h ho.2 (Nat.lt_trans F.lt (by decide))] at he
  have hst : st.map (tv G) = (as.map (tv G)).reverse ++ .ref (G.1 + r) :: rest.map (tv G) := by
    rw [hs, List.map_append, List.map_cons, tv_ref G hr0, List.map_reverse]
  rw [hst]
  have hT : GoodIn TBG (wsV M.1.cls i N.1.cls N.1 (wsM N)) := tb_good (fun w hw2 => by
    rcases List.mem_append.mp hw2 with h | h
    · simp only [List.mem_cons, List.not_mem_nil, or_false] at h
      rcases h with rfl | rfl | rfl | rfl
      · exact hw
      · exact ok.2.1
      · exact ok.2.2
      · exact ok.1.2.1
    · exact ws_tb ok.1 w h)
  have hargs : (Value.ref (G.1 + r) :: as.map (tv G)) = (Value.ref r :: as).map (tv G) := by rw [List.map_cons, tv_ref G hr0]
  refine call_go (N := N) hkc hks X hp h1 h2 hr hl (va_runV (As := as.map (tv G)) ⟨X.1, X.2.1, X.2.2.2.1, X.2.2.2.2.1, X.2.2.2.2.2.1⟩ (hc l G) (cwV n X.2.2.2.2.2.1 hT rfl rfl rfl ⟨rfl, ok.1.2.2.1⟩ (room_ok hrk ok.1.2.2.2 X.2.2.2.2.2.2.2.2.1 X.2.2.2.2.2.2.2.2.2.1)) ⟨pc_blind G _ h, va_recv X.2.2.2.2.2.2.2.2.2.2.1.1 hp.2.2.1 F.1 he, ?_⟩ rfl (by rw [List.length_map]; exact hn) hl.1 rfl (lv_room (by rw [tv_cats]; exact hrest)) hd ⟨by omega, by omega⟩)
  rw [hargs]
  exact pc_now X.2.2.2.2.2.2.2.2.2.2.1 X.2.2.2.2.2.2.2.2.2.2.2.1 hp
theorem R_callS {i n kc2 ks2 : Nat} {as rest : List Value} (hd : decode M.2.1 pc = .ok (.invokestatic i, 3)) (hw : Cond.methodLink M.1.cls i N.1 ∈ TBG) (ok : OkS N n) (hrk : N.2.2.2.2.1 + 1 ≤ M.2.2.2.2.1) (hn : as.length = n) (hs : st = as.reverse ++ rest) (hrest : (rest.map fun v => v.category).sum ≤ 8) (hkc : N.2.2.2.2.2.1 + kc2 = kc) (hks : N.2.2.2.2.2.2 + ks2 = ks)
    (hc : Call N as h (fun v h2 => Rr M kc2 ks2 (pc + 3) ls (v.toList ++ rest) h2 P)) : Rr M kc ks pc ls st h P := by
  intro G p l e Rm s m args below meth c H locs cells slots Q la X hp h1 h2 hr hl
  have hst : st.map (tv G) = (as.map (tv G)).reverse ++ rest.map (tv G) := by
    rw [hs, List.map_append, List.map_reverse]
  rw [hst]
  exact call_go (N := N) hkc hks X hp h1 h2 hr hl (va_runS (As := as.map (tv G)) ⟨X.1, X.2.1, X.2.2.2.1, X.2.2.2.2.1, X.2.2.2.2.2.1⟩ (hc l G) ⟨callB_of n X.2.2.2.2.2.1 (tb_good (ws_tb ok.1)) rfl rfl rfl (X.2.2.2.2.2.1 _ ok.1.2.1) (X.2.2.2.2.2.1 _ hw) ok.1.2.2.1 (room_ok hrk ok.1.2.2.2 X.2.2.2.2.2.2.2.2.1 X.2.2.2.2.2.2.2.2.2.1), X.2.2.2.2.2.1 _ ok.2⟩ ⟨pc_blind G _ h, pc_now X.2.2.2.2.2.2.2.2.2.2.1 X.2.2.2.2.2.2.2.2.2.2.2.1 hp⟩ rfl (by rw [List.length_map]; exact hn) hl.1 rfl (lv_room (by rw [tv_cats]; exact hrest)) hd ⟨by omega, by omega⟩)
theorem R_callSN {i n kc2 ks2 : Nat} {as rest : List Value} {host : String} (hd : decode M.2.1 pc = .ok (.invokestatic i, 3)) (hw : Cond.methodLinkNest M.1.cls i N.1 host ∈ NWL) (ok : OkS N n) (hrk : N.2.2.2.2.1 + 1 ≤ M.2.2.2.2.1) (hn : as.length = n) (hs : st = as.reverse ++ rest) (hrest : (rest.map fun v => v.category).sum ≤ 8) (hkc : N.2.2.2.2.2.1 + kc2 = kc) (hks : N.2.2.2.2.2.2 + ks2 = ks)
    (hc : Call N as h (fun v h2 => Rr M kc2 ks2 (pc + 3) ls (v.toList ++ rest) h2 P)) : Rr M kc ks pc ls st h P := by
  intro G p l e Rm s m args below meth c H locs cells slots Q la X hp h1 h2 hr hl
  have hst : st.map (tv G) = (as.map (tv G)).reverse ++ rest.map (tv G) := by
    rw [hs, List.map_append, List.map_reverse]
  rw [hst]
  exact call_go (N := N) hkc hks X hp h1 h2 hr hl (va_runSN (As := as.map (tv G)) ⟨X.1, X.2.1, X.2.2.2.1, X.2.2.2.2.1, X.2.2.2.2.2.1⟩ (hc l G) ⟨va_cnB n X.2.2.2.2.2.1 (tb_good (ws_tb ok.1)) rfl rfl rfl (X.2.2.2.2.2.2.2.2.2.2.1.2.1 _ hw) (X.2.2.2.2.2.1 _ ok.1.2.1) ok.1.2.2.1 (room_ok hrk ok.1.2.2.2 X.2.2.2.2.2.2.2.2.1 X.2.2.2.2.2.2.2.2.2.1), X.2.2.2.2.2.1 _ ok.2, trivial⟩ ⟨pc_blind G _ h, pc_now X.2.2.2.2.2.2.2.2.2.2.1 X.2.2.2.2.2.2.2.2.2.2.2.1 hp⟩ rfl (by rw [List.length_map]; exact hn) hl.1 rfl (lv_room (by rw [tv_cats]; exact hrest)) hd ⟨by omega, by omega⟩)
theorem R_callI {i r n kc2 ks2 : Nat} {as rest : List Value} (hd : decode M.2.1 pc = .ok (.invokespecial i, 3)) (hw : Cond.methodLink M.1.cls i N.1 ∈ TBG) (ok : OkI N n) (hrk : N.2.2.2.2.1 + 1 ≤ M.2.2.2.2.1) (hn : as.length = n) (hs : st = as.reverse ++ .ref r :: rest) (hrest : (rest.map fun v => v.category).sum ≤ 8) (hkc : N.2.2.2.2.2.1 + kc2 = kc) (hks : N.2.2.2.2.2.2 + ks2 = ks) (hr9 : r < h.1)
    (hc : Call N (.ref r :: as) h (fun v h2 => Rr M kc2 ks2 (pc + 3) ls (v.toList ++ rest) h2 P)) : Rr M kc ks pc ls st h P := by
  intro G p l e Rm s m args below meth c H locs cells slots Q la X hp h1 h2 hr hl
  have hr0 : r < 1000 := Nat.lt_of_lt_of_le hr9 hp.2.1
  have hst : st.map (tv G) = (as.map (tv G)).reverse ++ .ref (G.1 + r) :: rest.map (tv G) := by
    rw [hs, List.map_append, List.map_cons, tv_ref G hr0, List.map_reverse]
  rw [hst]
  have hargs : (Value.ref (G.1 + r) :: as.map (tv G)) = (Value.ref r :: as).map (tv G) := by rw [List.map_cons, tv_ref G hr0]
  refine call_go (N := N) hkc hks X hp h1 h2 hr hl (va_runI (As := as.map (tv G)) ⟨X.1, X.2.1, X.2.2.2.1, X.2.2.2.2.1, X.2.2.2.2.2.1⟩ (hc l G) ⟨callB_of n X.2.2.2.2.2.1 (tb_good (ws_tb ok.1)) (by rw [← ok.2.2.2]; rfl) rfl rfl (X.2.2.2.2.2.1 _ ok.1.2.1) (X.2.2.2.2.2.1 _ hw) ok.1.2.2.1 (room_ok hrk ok.1.2.2.2 X.2.2.2.2.2.2.2.2.1 X.2.2.2.2.2.2.2.2.2.1), ok.2.2.1, X.2.2.2.2.2.1 _ ok.2.1⟩ ⟨pc_blind G _ h, ?_⟩ rfl (by rw [List.length_map]; exact hn) hl.1 rfl (lv_room (by rw [tv_cats]; exact hrest)) hd ⟨by omega, by omega⟩)
  rw [hargs]
  exact pc_now X.2.2.2.2.2.2.2.2.2.2.1 X.2.2.2.2.2.2.2.2.2.2.2.1 hp
theorem R_callIN {i r n kc2 ks2 : Nat} {as rest : List Value} {host : String} (hd : decode M.2.1 pc = .ok (.invokespecial i, 3)) (hw : Cond.methodLinkNest M.1.cls i N.1 host ∈ NWL) (ok : OkI N n) (hrk : N.2.2.2.2.1 + 1 ≤ M.2.2.2.2.1) (hn : as.length = n) (hs : st = as.reverse ++ .ref r :: rest) (hrest : (rest.map fun v => v.category).sum ≤ 8) (hkc : N.2.2.2.2.2.1 + kc2 = kc) (hks : N.2.2.2.2.2.2 + ks2 = ks) (hr9 : r < h.1)
    (hc : Call N (.ref r :: as) h (fun v h2 => Rr M kc2 ks2 (pc + 3) ls (v.toList ++ rest) h2 P)) : Rr M kc ks pc ls st h P := by
  intro G p l e Rm s m args below meth c H locs cells slots Q la X hp h1 h2 hr hl
  have hr0 : r < 1000 := Nat.lt_of_lt_of_le hr9 hp.2.1
  have hst : st.map (tv G) = (as.map (tv G)).reverse ++ .ref (G.1 + r) :: rest.map (tv G) := by
    rw [hs, List.map_append, List.map_cons, tv_ref G hr0, List.map_reverse]
  rw [hst]
  have hargs : (Value.ref (G.1 + r) :: as.map (tv G)) = (Value.ref r :: as).map (tv G) := by rw [List.map_cons, tv_ref G hr0]
  refine call_go (N := N) hkc hks X hp h1 h2 hr hl (va_runIN (As := as.map (tv G)) ⟨X.1, X.2.1, X.2.2.2.1, X.2.2.2.2.1, X.2.2.2.2.2.1⟩ (hc l G) ⟨va_cnB n X.2.2.2.2.2.1 (tb_good (ws_tb ok.1)) (by rw [← ok.2.2.2]; rfl) rfl rfl (X.2.2.2.2.2.2.2.2.2.2.1.2.1 _ hw) (X.2.2.2.2.2.1 _ ok.1.2.1) ok.1.2.2.1 (room_ok hrk ok.1.2.2.2 X.2.2.2.2.2.2.2.2.1 X.2.2.2.2.2.2.2.2.2.1), ok.2.2.1, X.2.2.2.2.2.1 _ ok.2.1⟩ ⟨pc_blind G _ h, ?_⟩ rfl (by rw [List.length_map]; exact hn) hl.1 rfl (lv_room (by rw [tv_cats]; exact hrest)) hd ⟨by omega, by omega⟩)
  rw [hargs]
  exact pc_now X.2.2.2.2.2.2.2.2.2.2.1 X.2.2.2.2.2.2.2.2.2.2.2.1 hp
theorem R_callStr {i n j kc2 ks2 : Nat} {as rest : List Value} (hd : decode M.2.1 pc = .ok (.invokevirtual i, 3)) (hw : Cond.methodLink M.1.cls i N.1 ∈ TBG) (ok : OkV N n) (hcl : N.1.cls = "java/lang/String") (hrk : N.2.2.2.2.1 + 1 ≤ M.2.2.2.2.1) (hn : as.length = n) (hs : st = as.reverse ++ .ref (1000 + j) :: rest) (hrest : (rest.map fun v => v.category).sum ≤ 8) (hkc : N.2.2.2.2.2.1 + kc2 = kc) (hks : N.2.2.2.2.2.2 + ks2 = ks) (hj : j < 3)
    (hc : Call N (.ref (1000 + j) :: as) h (fun v h2 => Rr M kc2 ks2 (pc + 3) ls (v.toList ++ rest) h2 P)) : Rr M kc ks pc ls st h P := by
  intro G p l e Rm s m args below meth c H locs cells slots Q la X hp h1 h2 hr hl
  have hjs : tv G (.ref (1000 + j)) = .ref (G.2.2.2.1 j) := str_ro G (q := strL[j]'hj) (List.getElem?_eq_getElem hj)
  have hst : st.map (tv G) = (as.map (tv G)).reverse ++ .ref (G.2.2.2.1 j) :: rest.map (tv G) := by
    rw [hs, List.map_append, List.map_cons, hjs, List.map_reverse]
  rw [hst]
  have hT : GoodIn TBG (wsV M.1.cls i N.1.cls N.1 (wsM N)) := tb_good (fun w hw2 => by
    rcases List.mem_append.mp hw2 with h | h
    · simp only [List.mem_cons, List.not_mem_nil, or_false] at h
      rcases h with rfl | rfl | rfl | rfl
      · exact hw
      · exact ok.2.1
      · exact ok.2.2
      · exact ok.1.2.1
    · exact ws_tb ok.1 w h)
  have hargs : (Value.ref (G.2.2.2.1 j) :: as.map (tv G)) = (Value.ref (1000 + j) :: as).map (tv G) := by rw [List.map_cons, hjs]
  refine call_go (N := N) hkc hks X hp h1 h2 hr hl (va_runV (As := as.map (tv G)) ⟨X.1, X.2.1, X.2.2.2.1, X.2.2.2.2.1, X.2.2.2.2.2.1⟩ (hc l G) (cwV n X.2.2.2.2.2.1 hT rfl rfl rfl ⟨rfl, ok.1.2.2.1⟩ (room_ok hrk ok.1.2.2.2 X.2.2.2.2.2.2.2.2.1 X.2.2.2.2.2.2.2.2.2.1)) ⟨pc_blind G _ h, ?_, ?_⟩ rfl (by rw [List.length_map]; exact hn) hl.1 rfl (lv_room (by rw [tv_cats]; exact hrest)) hd ⟨by omega, by omega⟩)
  · rw [hcl]
    exact vk_recv X.2.2.2.2.2.2.2.2.2.2.2.1.1 hj hp.2.2.2
  · rw [hargs]
    exact pc_now X.2.2.2.2.2.2.2.2.2.2.1 X.2.2.2.2.2.2.2.2.2.2.2.1 hp
theorem R_objInit {i r : Nat} (hd : decode M.2.1 pc = .ok (.invokespecial i, 3)) (hw : Cond.methodLink M.1.cls i Lib.objectInit ∈ TBG) (hw2 : Cond.instanceMethod Lib.objectInit ∈ TBG) (hw3 : Cond.code Lib.objectInit ⟨#[0xb1]⟩ 1 none ∈ TBG) (hrk : 1 ≤ M.2.2.2.2.1) (hrest : (st.map fun v => v.category).sum ≤ 8) (hr9 : r < h.1)
    (kk : Rr M kc ks (pc + 3) ls st h P) : Rr M kc ks pc ls (.ref r :: st) h P := by
  intro G p l e Rm s m args below meth c H locs cells slots Q la X hp h1 h2 hr hl
  have hr0 : r < 1000 := Nat.lt_of_lt_of_le hr9 hp.2.1
  rw [List.map_cons, tv_ref G hr0]
  have q1 := X.2.2.2.2.2.2.2.2.1
  have q2 := X.2.2.2.2.2.2.2.2.2.1
  refine W.objInit X.1 X.2.1 X.2.2.2.2.1 (X.2.2.2.2.2.1 _ hw) (X.2.2.2.2.2.1 _ hw2) (X.2.2.2.2.2.1 _ hw3) rfl (by rw [X.2.2.2.1]; exact hl.1) rfl hd (by omega) ?_ ?_
  · have q3 := lv_room (m := m) (pc := pc) (ls := la) (rest := Value.ref (G.1 + r) :: st.map (tv G)) (st := st.map (tv G)) (by rw [tv_cats]; exact hrest)
    omega
  · exact kk G p l e Rm s m args below meth c H locs cells slots Q la X hp h1 h2 hr hl
theorem R_copyI {i r r2 : Nat} {sp dp n : Int32} (hd : decode M.2.1 pc = .ok (.invokestatic i, 3)) (hw : Cond.methodLink M.1.cls i arraycopyName ∈ TBG) (hw2 : Cond.native arraycopyName ∈ TBG) (hw3 : Cond.static arraycopyName ∈ TBG) (hw4 : Cond.initialized "java/lang/System" ∈ TBG) (hrk : 1 ≤ M.2.2.2.2.1) (hst : st = [])
    (ho : isA h 0 r) (ho2 : isA h 0 r2) (g1 : ¬ sp < 0) (g2 : ¬ dp < 0) (g3 : ¬ n < 0) (g4 : sp.toNatClampNeg + n.toNatClampNeg ≤ ln r) (g5 : dp.toNatClampNeg + n.toNatClampNeg ≤ ln r2)
    (kk : Rr M kc ks (pc + 3) ls st (rI h r2 (va_cpy (gI h r) (gI h r2) sp.toNatClampNeg dp.toNatClampNeg n.toNatClampNeg)) P) : Rr M kc ks pc ls (.int n :: .int dp :: .ref r2 :: .int sp :: .ref r :: st) h P := by
  subst hst
  intro G p l e Rm s m args below meth c H locs cells slots Q la X hp h1 h2 hr hl
  have hr0 : r < 1000 := Nat.lt_of_lt_of_le ho.1 hp.2.1
  have hr2 : r2 < 1000 := Nat.lt_of_lt_of_le ho2.1 hp.2.1
  show W p l e Rm s m args below meth c H locs cells slots Q (F0 m pc la (.int n :: .int dp :: tv G (.ref r2) :: .int sp :: tv G (.ref r) :: []))
  rw [tv_ref G hr0, tv_ref G hr2]
  have he := cells_at G h ho.1
  rw [ent_arr G h ho.2] at he
  have he2 := cells_at G h ho2.1
  rw [ent_arr G h ho2.2] at he2
  have q1 := X.2.2.2.2.2.2.2.2.1
  have q2 := X.2.2.2.2.2.2.2.2.2.1
  refine va_copyi_sz (D := G.2.1) (A := AM G) (H0 := s.heap) X.1 X.2.1 (by rw [X.2.2.2.1]; exact hl.1.symm) X.2.2.2.2.1 (X.2.2.2.2.2.1 _ hw) (X.2.2.2.2.2.1 _ hw2) (X.2.2.2.2.2.1 _ hw3) (X.2.2.2.2.2.1 _ hw4) X.2.2.2.2.2.2.2.2.2.2.1.1 hp.2.2.1 (cells_D G h) hp.2.2.2 r r2 0 0 he he2 rfl rfl rfl g1 g2 g3 g4 g5 (fun _ _ => rfl) (by omega) (by show 0 + (nativeFrameWords "java/lang/System" "arraycopy" 5 + 11) ≤ _; rw [show nativeFrameWords "java/lang/System" "arraycopy" 5 = 7 by decide]; omega) hd fun H1 locs1 w1 w2 w3 => ?_
  refine kk G p l e Rm s m args below meth c H1 locs1 cells slots Q la X ⟨w2.trans hp.1, hp.2.1, ?_, w3⟩ h1 h2 hr hl
  rw [← cells_set G (h := h) (h2 := rI h r2 (va_cpy (gI h r) (gI h r2) sp.toNatClampNeg dp.toNatClampNeg n.toNatClampNeg)) rfl r2 (ent_arr G _ ho2.2) (fun i hi => ent_congr G (by simp [rI, up1, hi]) rfl rfl)]
  have e9 : gI (rI h r2 (va_cpy (gI h r) (gI h r2) sp.toNatClampNeg dp.toNatClampNeg n.toNatClampNeg)) r2 = va_cpy (gI h r) (gI h r2) sp.toNatClampNeg dp.toNatClampNeg n.toNatClampNeg := by funext j; simp [gI, rI, up1]
  rw [e9]
  exact w1
theorem R_copyL {i r r2 : Nat} {sp dp n : Int32} (hd : decode M.2.1 pc = .ok (.invokestatic i, 3)) (hw : Cond.methodLink M.1.cls i arraycopyName ∈ TBG) (hw2 : Cond.native arraycopyName ∈ TBG) (hw3 : Cond.static arraycopyName ∈ TBG) (hw4 : Cond.initialized "java/lang/System" ∈ TBG) (hrk : 1 ≤ M.2.2.2.2.1) (hst : st = [])
    (ho : isA h 1 r) (ho2 : isA h 1 r2) (g1 : ¬ sp < 0) (g2 : ¬ dp < 0) (g3 : ¬ n < 0) (g4 : sp.toNatClampNeg + n.toNatClampNeg ≤ ln r) (g5 : dp.toNatClampNeg + n.toNatClampNeg ≤ ln r2)
    (kk : Rr M kc ks (pc + 3) ls st (rL h r2 (va_cpy (gL h r) (gL h r2) sp.toNatClampNeg dp.toNatClampNeg n.toNatClampNeg)) P) : Rr M kc ks pc ls (.int n :: .int dp :: .ref r2 :: .int sp :: .ref r :: st) h P := by
  subst hst
  intro G p l e Rm s m args below meth c H locs cells slots Q la X hp h1 h2 hr hl
  have hr0 : r < 1000 := Nat.lt_of_lt_of_le ho.1 hp.2.1
  have hr2 : r2 < 1000 := Nat.lt_of_lt_of_le ho2.1 hp.2.1
  show W p l e Rm s m args below meth c H locs cells slots Q (F0 m pc la (.int n :: .int dp :: tv G (.ref r2) :: .int sp :: tv G (.ref r) :: []))
  rw [tv_ref G hr0, tv_ref G hr2]
  have he := cells_at G h ho.1
  rw [ent_arr G h ho.2] at he
  have he2 := cells_at G h ho2.1
  rw [ent_arr G h ho2.2] at he2
  have q1 := X.2.2.2.2.2.2.2.2.1
  have q2 := X.2.2.2.2.2.2.2.2.2.1
  refine va_copyl_sz (D := G.2.1) (A := AM G) (H0 := s.heap) X.1 X.2.1 (by rw [X.2.2.2.1]; exact hl.1.symm) X.2.2.2.2.1 (X.2.2.2.2.2.1 _ hw) (X.2.2.2.2.2.1 _ hw2) (X.2.2.2.2.2.1 _ hw3) (X.2.2.2.2.2.1 _ hw4) X.2.2.2.2.2.2.2.2.2.2.1.1 hp.2.2.1 (cells_D G h) hp.2.2.2 r r2 1 1 he he2 rfl rfl rfl g1 g2 g3 g4 g5 (fun _ _ => rfl) (by omega) (by show 0 + (nativeFrameWords "java/lang/System" "arraycopy" 5 + 11) ≤ _; rw [show nativeFrameWords "java/lang/System" "arraycopy" 5 = 7 by decide]; omega) hd fun H1 locs1 w1 w2 w3 => ?_
  refine kk G p l e Rm s m args below meth c H1 locs1 cells slots Q la X ⟨w2.trans hp.1, hp.2.1, ?_, w3⟩ h1 h2 hr hl
  rw [← cells_set G (h := h) (h2 := rL h r2 (va_cpy (gL h r) (gL h r2) sp.toNatClampNeg dp.toNatClampNeg n.toNatClampNeg)) rfl r2 (ent_arr G _ ho2.2) (fun i hi => ent_congr G rfl (by simp [rL, up1, hi]) rfl)]
  have e9 : gL (rL h r2 (va_cpy (gL h r) (gL h r2) sp.toNatClampNeg dp.toNatClampNeg n.toNatClampNeg)) r2 = va_cpy (gL h r) (gL h r2) sp.toNatClampNeg dp.toNatClampNeg n.toNatClampNeg := by funext j; simp [gL, rL, up1]
  rw [e9]
  exact w1
end CRULES
end
section
theorem Call.mono {N : MI} {as : List Value} {h : AH} {P P2 : Option Value → AH → Prop} (hc : Call N as h P) (hm : ∀ v h2, P v h2 → P2 v h2) : Call N as h P2 := by
  intro l G
  refine MetFree.mono (hc l G) (fun _ _ q => q) (fun _ _ _ _ _ q => q) ?_
  intro a s o t _ q
  obtain ⟨⟨⟨v, h2, h3, h4, h5⟩, h6⟩, h7⟩ := q
  exact ⟨⟨⟨v, h2, h3, hm v h2 h4, h5⟩, h6⟩, h7⟩
theorem Rr.mono {M : MI} {kc ks pc : Nat} {ls : List (Nat × Value)} {st : List Value} {h : AH} {P P2 : Option Value → AH → Prop} (hc : Rr M kc ks pc ls st h P) (hm : ∀ v h2, P v h2 → P2 v h2) : Rr M kc ks pc ls st h P2 :=
  fun G p l e Rm s m args below meth c H locs cells slots Q la X hp h1 h2 hr hl => hc G p l e Rm s m args below meth c H locs cells slots Q la X hp h1 h2 (fun v h9 H2 locs2 la2 pc2 hv => hr v h9 H2 locs2 la2 pc2 (hm v h9 hv)) hl
end
section
section MRULES
variable {M : MI} {kc ks pc : Nat} {ls : List (Nat × Value)} {st : List Value} {h : AH} {P : Option Value → AH → Prop}
theorem R_topi {x : Int32} (k : ∀ y : Int32, y = x → Rr M kc ks pc ls (.int y :: st) h P) : Rr M kc ks pc ls (.int x :: st) h P := k x rfl
theorem R_topl {x : Int64} (k : ∀ y : Int64, y = x → Rr M kc ks pc ls (.long y :: st) h P) : Rr M kc ks pc ls (.long x :: st) h P := k x rfl
end MRULES
theorem nb_n {x : Int32} (h : x = 0 ∨ x = 1) : narrow .boolean (.int x) = .int x := by rcases h with rfl | rfl <;> rfl
theorem nb_f {x : Int32} (h : x = 0 ∨ x = 1) : fits .boolean (.int x) = true := by rcases h with rfl | rfl <;> rfl
end
section
theorem tg0 {w : Cond} (i : Nat) (h : (k2_sels lw_privs)[i]? = some w) (hg : goodWord w = true) : w ∈ TBG := List.mem_filter.mpr ⟨List.mem_append_left _ (List.mem_of_getElem? h), hg⟩
theorem tg1 {w : Cond} (i : Nat) (h : tables_1_1[i]? = some w) (hg : goodWord w = true) : w ∈ TBG := List.mem_filter.mpr ⟨List.mem_append_right _ (List.mem_append_left _ (List.mem_of_getElem? h)), hg⟩
theorem tg2 {w : Cond} (i : Nat) (h : tables_1_2[i]? = some w) (hg : goodWord w = true) : w ∈ TBG := List.mem_filter.mpr ⟨List.mem_append_right _ (List.mem_append_right _ (List.mem_append_left _ (List.mem_of_getElem? h))), hg⟩
theorem tg3 {w : Cond} (i : Nat) (h : tables_1_3[i]? = some w) (hg : goodWord w = true) : w ∈ TBG := List.mem_filter.mpr ⟨List.mem_append_right _ (List.mem_append_right _ (List.mem_append_right _ (List.mem_append_left _ (List.mem_of_getElem? h)))), hg⟩
theorem tg4 {w : Cond} (i : Nat) (h : tables_1_4[i]? = some w) (hg : goodWord w = true) : w ∈ TBG := List.mem_filter.mpr ⟨List.mem_append_right _ (List.mem_append_right _ (List.mem_append_right _ (List.mem_append_right _ (List.mem_append_left _ (List.mem_of_getElem? h))))), hg⟩
theorem tg5 {w : Cond} (i : Nat) (h : tables_1_5[i]? = some w) (hg : goodWord w = true) : w ∈ TBG := List.mem_filter.mpr ⟨List.mem_append_right _ (List.mem_append_right _ (List.mem_append_right _ (List.mem_append_right _ (List.mem_append_right _ (List.mem_append_left _ (List.mem_of_getElem? h)))))), hg⟩
theorem tg6 {w : Cond} (i : Nat) (h : tables_1_6[i]? = some w) (hg : goodWord w = true) : w ∈ TBG := List.mem_filter.mpr ⟨List.mem_append_right _ (List.mem_append_right _ (List.mem_append_right _ (List.mem_append_right _ (List.mem_append_right _ (List.mem_append_right _ (List.mem_append_left _ (List.mem_of_getElem? h))))))), hg⟩
theorem tg7 {w : Cond} (i : Nat) (h : tables_1_7[i]? = some w) (hg : goodWord w = true) : w ∈ TBG := List.mem_filter.mpr ⟨List.mem_append_right _ (List.mem_append_right _ (List.mem_append_right _ (List.mem_append_right _ (List.mem_append_right _ (List.mem_append_right _ (List.mem_append_right _ (List.mem_append_left _ (List.mem_of_getElem? h)))))))), hg⟩
theorem tg8 {w : Cond} (i : Nat) (h : tables_1_8[i]? = some w) (hg : goodWord w = true) : w ∈ TBG := List.mem_filter.mpr ⟨List.mem_append_right _ (List.mem_append_right _ (List.mem_append_right _ (List.mem_append_right _ (List.mem_append_right _ (List.mem_append_right _ (List.mem_append_right _ (List.mem_append_right _ (List.mem_of_getElem? h)))))))), hg⟩
abbrev cX11_init : ByteArray := prog_1_method_1_code
def yX11_init : MethodName := ⟨RX11, "<init>", "()V"⟩
def mX11_init : MI := (yX11_init, cX11_init, 1, none, 5, 115, 1958)
theorem oX11_init : OkI mX11_init 0 := ⟨⟨(tg1 26 rfl rfl), (tg1 1 (by decide +kernel) rfl), by decide +kernel, by decide +kernel⟩, (tg1 25 (by decide +kernel) rfl), rfl, rfl⟩
abbrev cX4_init : ByteArray := prog_6_method_1_code
def yX4_init : MethodName := ⟨RX4, "<init>", "()V"⟩
def mX4_init : MI := (yX4_init, cX4_init, 1, none, 4, 21, 1042)
theorem oX4_init : OkI mX4_init 0 := ⟨⟨(tg1 34 rfl rfl), (tg1 2 (by decide +kernel) rfl), by decide +kernel, by decide +kernel⟩, (tg1 33 (by decide +kernel) rfl), rfl, rfl⟩
abbrev cX9_init : ByteArray := prog_11_method_1_code
def yX9_init : MethodName := ⟨RX9, "<init>", "()V"⟩
def mX9_init : MI := (yX9_init, cX9_init, 1, none, 1, 1, 900)
theorem oX9_init : OkI mX9_init 0 := ⟨⟨(tg1 40 rfl rfl), (tg1 3 (by decide +kernel) rfl), by decide +kernel, by decide +kernel⟩, (tg1 39 (by decide +kernel) rfl), rfl, rfl⟩
abbrev cX3_init : ByteArray := prog_5_method_1_code
def yX3_init : MethodName := ⟨RX3, "<init>", "()V"⟩
def mX3_init : MI := (yX3_init, cX3_init, 1, none, 3, 18, 120)
theorem oX3_init : OkI mX3_init 0 := ⟨⟨(tg1 70 rfl rfl), (tg1 4 (by decide +kernel) rfl), by decide +kernel, by decide +kernel⟩, (tg1 69 (by decide +kernel) rfl), rfl, rfl⟩
abbrev cX0_emptyShapes : ByteArray := prog_2_method_2_code
def yX0_emptyShapes : MethodName := ⟨RX0, "emptyShapes", "()[LFourInks$Board;"⟩
def mX0_emptyShapes : MI := (yX0_emptyShapes, cX0_emptyShapes, 2, (some (.array (.object "FourInks$Board"))), 2, 9, 24)
theorem oX0_emptyShapes : OkS mX0_emptyShapes 0 := ⟨⟨(tg1 74 rfl rfl), (tg1 5 (by decide +kernel) rfl), by decide +kernel, by decide +kernel⟩, (tg1 73 (by decide +kernel) rfl)⟩
abbrev cX0_init : ByteArray := prog_2_method_1_code
def yX0_init : MethodName := ⟨RX0, "<init>", "()V"⟩
def mX0_init : MI := (yX0_init, cX0_init, 1, none, 1, 1, 4)
theorem oX0_init : OkI mX0_init 0 := ⟨⟨(tg1 80 rfl rfl), (tg1 5 (by decide +kernel) rfl), by decide +kernel, by decide +kernel⟩, (tg1 79 (by decide +kernel) rfl), rfl, rfl⟩
abbrev cX8_init : ByteArray := prog_10_method_1_code
def yX8_init : MethodName := ⟨RX8, "<init>", "()V"⟩
def mX8_init : MI := (yX8_init, cX8_init, 1, none, 1, 3, 20)
theorem oX8_init : OkI mX8_init 0 := ⟨⟨(tg1 93 rfl rfl), (tg1 6 (by decide +kernel) rfl), by decide +kernel, by decide +kernel⟩, (tg1 92 (by decide +kernel) rfl), rfl, rfl⟩
abbrev cX3_forget : ByteArray := prog_5_method_2_code
def yX3_forget : MethodName := ⟨RX3, "forget", "()V"⟩
def mX3_forget : MI := (yX3_forget, cX3_forget, 2, none, 2, 0, 0)
theorem oX3_forget : OkV mX3_forget 0 := ⟨⟨(tg1 115 rfl rfl), (tg1 4 (by decide +kernel) rfl), by decide +kernel, by decide +kernel⟩, (tg1 113 (by decide +kernel) rfl), (tg1 114 (by decide +kernel) rfl)⟩
abbrev cJ7_fill_53178 : ByteArray := prog_21_method_103_code
def yJ7_fill_53178 : MethodName := ⟨RJ7, "fill", "([II)V"⟩
def mJ7_fill_53178 : MI := (yJ7_fill_53178, cJ7_fill_53178, 4, none, 0, 0, 0)
theorem oJ7_fill_53178 : OkS mJ7_fill_53178 2 := ⟨⟨(tg1 118 rfl rfl), (tg1 7 (by decide +kernel) rfl), by decide +kernel, by decide +kernel⟩, (tg1 117 (by decide +kernel) rfl)⟩
abbrev cX0_clear : ByteArray := prog_2_method_4_code
def yX0_clear : MethodName := ⟨RX0, "clea\x72", "()V"⟩
def mX0_clear : MI := (yX0_clear, cX0_clear, 1, none, 1, 0, 0)
theorem oX0_clear : OkV mX0_clear 0 := ⟨⟨(tg1 122 rfl rfl), (tg1 5 (by decide +kernel) rfl), by decide +kernel, by decide +kernel⟩, (tg1 120 (by decide +kernel) rfl), (tg1 121 (by decide +kernel) rfl)⟩
abbrev cJ7_fill_d0a16 : ByteArray := prog_21_method_101_code
def yJ7_fill_d0a16 : MethodName := ⟨RJ7, "fill", "([JJ)V"⟩
def mJ7_fill_d0a16 : MI := (yJ7_fill_d0a16, cJ7_fill_d0a16, 5, none, 0, 0, 0)
theorem oJ7_fill_d0a16 : OkS mJ7_fill_d0a16 2 := ⟨⟨(tg1 125 rfl rfl), (tg1 7 (by decide +kernel) rfl), by decide +kernel, by decide +kernel⟩, (tg1 124 (by decide +kernel) rfl)⟩
abbrev cX7_init : ByteArray := prog_9_method_1_code
def yX7_init : MethodName := ⟨RX7, "<init>", "()V"⟩
def mX7_init : MI := (yX7_init, cX7_init, 1, none, 1, 9, 200)
theorem oX7_init : OkI mX7_init 0 := ⟨⟨(tg1 237 rfl rfl), (tg1 8 (by decide +kernel) rfl), by decide +kernel, by decide +kernel⟩, (tg1 236 (by decide +kernel) rfl), rfl, rfl⟩
abbrev cX1_init : ByteArray := prog_3_method_1_code
def yX1_init : MethodName := ⟨RX1, "<init>", "()V"⟩
def mX1_init : MI := (yX1_init, cX1_init, 1, none, 1, 6, 104)
theorem oX1_init : OkI mX1_init 0 := ⟨⟨(tg2 43 rfl rfl), (tg1 9 (by decide +kernel) rfl), by decide +kernel, by decide +kernel⟩, (tg2 42 (by decide +kernel) rfl), rfl, rfl⟩
abbrev cX6_init : ByteArray := prog_8_method_1_code
def yX6_init : MethodName := ⟨RX6, "<init>", "()V"⟩
def mX6_init : MI := (yX6_init, cX6_init, 1, none, 1, 2, 6)
theorem oX6_init : OkI mX6_init 0 := ⟨⟨(tg2 89 rfl rfl), (tg1 10 (by decide +kernel) rfl), by decide +kernel, by decide +kernel⟩, (tg2 88 (by decide +kernel) rfl), rfl, rfl⟩
abbrev cX5_init : ByteArray := prog_7_method_1_code
def yX5_init : MethodName := ⟨RX5, "<init>", "()V"⟩
def mX5_init : MI := (yX5_init, cX5_init, 1, none, 2, 8, 23)
theorem oX5_init : OkI mX5_init 0 := ⟨⟨(tg2 119 rfl rfl), (tg1 11 (by decide +kernel) rfl), by decide +kernel, by decide +kernel⟩, (tg2 118 (by decide +kernel) rfl), rfl, rfl⟩
abbrev cX2_init : ByteArray := prog_4_method_1_code
def yX2_init : MethodName := ⟨RX2, "<init>", "()V"⟩
def mX2_init : MI := (yX2_init, cX2_init, 1, none, 1, 2, 14)
theorem oX2_init : OkI mX2_init 0 := ⟨⟨(tg2 172 rfl rfl), (tg1 12 (by decide +kernel) rfl), by decide +kernel, by decide +kernel⟩, (tg2 171 (by decide +kernel) rfl), rfl, rfl⟩
abbrev cX10_init : ByteArray := prog_12_method_1_code
def yX10_init : MethodName := ⟨RX10, "<init>", "()V"⟩
def mX10_init : MI := (yX10_init, cX10_init, 1, none, 1, 26, 311)
theorem oX10_init : OkI mX10_init 0 := ⟨⟨(tg2 193 rfl rfl), (tg1 13 (by decide +kernel) rfl), by decide +kernel, by decide +kernel⟩, (tg2 192 (by decide +kernel) rfl), rfl, rfl⟩
abbrev cX11_feed : ByteArray := prog_1_method_2_code
def yX11_feed : MethodName := ⟨RX11, "feed", "(IIIII)I"⟩
def mX11_feed : MI := (yX11_feed, cX11_feed, 6, (some .int), 1, 0, 0)
theorem oX11_feed : OkV mX11_feed 5 := ⟨⟨(tg3 32 rfl rfl), (tg1 1 (by decide +kernel) rfl), by decide +kernel, by decide +kernel⟩, (tg3 30 (by decide +kernel) rfl), (tg3 31 (by decide +kernel) rfl)⟩
abbrev cX9_put : ByteArray := prog_11_method_2_code
def yX9_put : MethodName := ⟨RX9, "put", "(I)V"⟩
def mX9_put : MI := (yX9_put, cX9_put, 3, none, 0, 0, 0)
theorem oX9_put : OkV mX9_put 1 := ⟨⟨(tg3 36 rfl rfl), (tg1 3 (by decide +kernel) rfl), by decide +kernel, by decide +kernel⟩, (tg3 34 (by decide +kernel) rfl), (tg3 35 (by decide +kernel) rfl)⟩
abbrev cX11_end : ByteArray := prog_1_method_3_code
def yX11_end : MethodName := ⟨RX11, "end", "(I)I"⟩
def mX11_end : MI := (yX11_end, cX11_end, 2, (some .int), 0, 0, 0)
theorem oX11_end : OkV mX11_end 1 := ⟨⟨(tg3 40 rfl rfl), (tg1 1 (by decide +kernel) rfl), by decide +kernel, by decide +kernel⟩, (tg3 38 (by decide +kernel) rfl), (tg3 39 (by decide +kernel) rfl)⟩
abbrev cX11_job : ByteArray := prog_1_method_4_code
def yX11_job : MethodName := ⟨RX11, "job", "()I"⟩
def mX11_job : MI := (yX11_job, cX11_job, 3, (some .int), 11, 0, 0)
theorem oX11_job : OkV mX11_job 0 := ⟨⟨(tg3 44 rfl rfl), (tg1 1 (by decide +kernel) rfl), by decide +kernel, by decide +kernel⟩, (tg3 42 (by decide +kernel) rfl), (tg3 43 (by decide +kernel) rfl)⟩
abbrev cX4_isJob : ByteArray := prog_6_method_2_code
def yX4_isJob : MethodName := ⟨RX4, "isJob", "()Z"⟩
def mX4_isJob : MI := (yX4_isJob, cX4_isJob, 2, (some .boolean), 10, 0, 0)
theorem oX4_isJob : OkV mX4_isJob 0 := ⟨⟨(tg3 48 rfl rfl), (tg1 2 (by decide +kernel) rfl), by decide +kernel, by decide +kernel⟩, (tg3 46 (by decide +kernel) rfl), (tg3 47 (by decide +kernel) rfl)⟩
abbrev cX9_rewind : ByteArray := prog_11_method_3_code
def yX9_rewind : MethodName := ⟨RX9, "rewind", "()V"⟩
def mX9_rewind : MI := (yX9_rewind, cX9_rewind, 1, none, 0, 0, 0)
theorem oX9_rewind : OkV mX9_rewind 0 := ⟨⟨(tg3 53 rfl rfl), (tg1 3 (by decide +kernel) rfl), by decide +kernel, by decide +kernel⟩, (tg3 51 (by decide +kernel) rfl), (tg3 52 (by decide +kernel) rfl)⟩
abbrev cX9_next : ByteArray := prog_11_method_4_code
def yX9_next : MethodName := ⟨RX9, "next", "()V"⟩
def mX9_next : MI := (yX9_next, cX9_next, 1, none, 2, 0, 0)
theorem oX9_next : OkV mX9_next 0 := ⟨⟨(tg3 57 rfl rfl), (tg1 3 (by decide +kernel) rfl), by decide +kernel, by decide +kernel⟩, (tg3 55 (by decide +kernel) rfl), (tg3 56 (by decide +kernel) rfl)⟩
abbrev cX9_isBlank : ByteArray := prog_11_method_5_code
def yX9_isBlank : MethodName := ⟨RX9, "isBlank", "(I)Z"⟩
def mX9_isBlank : MI := (yX9_isBlank, cX9_isBlank, 1, (some .boolean), 0, 0, 0)
theorem oX9_isBlank : OkS mX9_isBlank 1 := ⟨⟨(tg3 60 rfl rfl), (tg1 3 (by decide +kernel) rfl), by decide +kernel, by decide +kernel⟩, (tg3 59 (by decide +kernel) rfl)⟩
abbrev cX9_isLetter : ByteArray := prog_11_method_6_code
def yX9_isLetter : MethodName := ⟨RX9, "isLette\x72", "(I)Z"⟩
def mX9_isLetter : MI := (yX9_isLetter, cX9_isLetter, 1, (some .boolean), 0, 0, 0)
theorem oX9_isLetter : OkS mX9_isLetter 1 := ⟨⟨(tg3 63 rfl rfl), (tg1 3 (by decide +kernel) rfl), by decide +kernel, by decide +kernel⟩, (tg3 62 (by decide +kernel) rfl)⟩
abbrev cX9_takeWord : ByteArray := prog_11_method_8_code
def yX9_takeWord : MethodName := ⟨RX9, "takeWord", "()V"⟩
def mX9_takeWord : MI := (yX9_takeWord, cX9_takeWord, 1, none, 1, 0, 0)
theorem oX9_takeWord : OkV mX9_takeWord 0 := ⟨⟨(tg3 67 rfl rfl), (tg1 3 (by decide +kernel) rfl), by decide +kernel, by decide +kernel⟩, (tg3 66 (by decide +kernel) rfl), (tg0 0 (by decide +kernel) rfl)⟩
abbrev cX9_isDigit : ByteArray := prog_11_method_7_code
def yX9_isDigit : MethodName := ⟨RX9, "isDigit", "(I)Z"⟩
def mX9_isDigit : MI := (yX9_isDigit, cX9_isDigit, 1, (some .boolean), 0, 0, 0)
theorem oX9_isDigit : OkS mX9_isDigit 1 := ⟨⟨(tg3 70 rfl rfl), (tg1 3 (by decide +kernel) rfl), by decide +kernel, by decide +kernel⟩, (tg3 69 (by decide +kernel) rfl)⟩
abbrev cX9_takeNumber : ByteArray := prog_11_method_9_code
def yX9_takeNumber : MethodName := ⟨RX9, "takeNumbe\x72", "()V"⟩
def mX9_takeNumber : MI := (yX9_takeNumber, cX9_takeNumber, 1, none, 1, 0, 0)
theorem oX9_takeNumber : OkV mX9_takeNumber 0 := ⟨⟨(tg3 74 rfl rfl), (tg1 3 (by decide +kernel) rfl), by decide +kernel, by decide +kernel⟩, (tg3 73 (by decide +kernel) rfl), (tg0 1 (by decide +kernel) rfl)⟩
abbrev cX9_takeSign : ByteArray := prog_11_method_10_code
def yX9_takeSign : MethodName := ⟨RX9, "takeSign", "(I)V"⟩
def mX9_takeSign : MI := (yX9_takeSign, cX9_takeSign, 2, none, 0, 0, 0)
theorem oX9_takeSign : OkV mX9_takeSign 1 := ⟨⟨(tg3 78 rfl rfl), (tg1 3 (by decide +kernel) rfl), by decide +kernel, by decide +kernel⟩, (tg3 77 (by decide +kernel) rfl), (tg0 2 (by decide +kernel) rfl)⟩
abbrev cX4_takeClause : ByteArray := prog_6_method_4_code
def yX4_takeClause : MethodName := ⟨RX4, "takeClause", "()V"⟩
def mX4_takeClause : MI := (yX4_takeClause, cX4_takeClause, 1, none, 9, 0, 0)
theorem oX4_takeClause : OkV mX4_takeClause 0 := ⟨⟨(tg3 82 rfl rfl), (tg1 2 (by decide +kernel) rfl), by decide +kernel, by decide +kernel⟩, (tg3 81 (by decide +kernel) rfl), (tg0 3 (by decide +kernel) rfl)⟩
abbrev cX9_wordIn : ByteArray := prog_11_method_11_code
def yX9_wordIn : MethodName := ⟨RX9, "wordIn", "(Ljava/lang/String;)I"⟩
def mX9_wordIn : MI := (yX9_wordIn, cX9_wordIn, 3, (some .int), 6, 0, 0)
theorem oX9_wordIn : OkV mX9_wordIn 1 := ⟨⟨(tg3 87 rfl rfl), (tg1 3 (by decide +kernel) rfl), by decide +kernel, by decide +kernel⟩, (tg3 85 (by decide +kernel) rfl), (tg3 86 (by decide +kernel) rfl)⟩
abbrev cJ0_length_8abf5 : ByteArray := prog_17_method_54_code
def yJ0_length_8abf5 : MethodName := ⟨RJ0, "length", "()I"⟩
def mJ0_length_8abf5 : MI := (yJ0_length_8abf5, cJ0_length_8abf5, 1, (some .int), 1, 0, 0)
theorem oJ0_length_8abf5 : OkV mJ0_length_8abf5 0 := ⟨⟨(tg3 91 rfl rfl), (tg1 15 (by decide +kernel) rfl), by decide +kernel, by decide +kernel⟩, (tg3 89 (by decide +kernel) rfl), (tg3 90 (by decide +kernel) rfl)⟩
abbrev cJ0_coder_7d493 : ByteArray := prog_17_method_152_code
def yJ0_coder_7d493 : MethodName := ⟨RJ0, "code\x72", "()B"⟩
def mJ0_coder_7d493 : MI := (yJ0_coder_7d493, cJ0_coder_7d493, 1, (some .byte), 0, 0, 0)
theorem oJ0_coder_7d493 : OkV mJ0_coder_7d493 0 := ⟨⟨(tg3 95 rfl rfl), (tg1 15 (by decide +kernel) rfl), by decide +kernel, by decide +kernel⟩, (tg3 93 (by decide +kernel) rfl), (tg3 94 (by decide +kernel) rfl)⟩
abbrev cX9_spells : ByteArray := prog_11_method_12_code
def yX9_spells : MethodName := ⟨RX9, "spells", "(Ljava/lang/String;I)Z"⟩
def mX9_spells : MI := (yX9_spells, cX9_spells, 5, (some .boolean), 5, 0, 0)
theorem oX9_spells : OkV mX9_spells 2 := ⟨⟨(tg3 101 rfl rfl), (tg1 3 (by decide +kernel) rfl), by decide +kernel, by decide +kernel⟩, (tg3 100 (by decide +kernel) rfl), (tg0 4 (by decide +kernel) rfl)⟩
abbrev cJ0_charAt_5068e : ByteArray := prog_17_method_56_code
def yJ0_charAt_5068e : MethodName := ⟨RJ0, "charAt", "(I)C"⟩
def mJ0_charAt_5068e : MI := (yJ0_charAt_5068e, cJ0_charAt_5068e, 2, (some .char), 4, 0, 0)
theorem oJ0_charAt_5068e : OkV mJ0_charAt_5068e 1 := ⟨⟨(tg3 105 rfl rfl), (tg1 15 (by decide +kernel) rfl), by decide +kernel, by decide +kernel⟩, (tg3 103 (by decide +kernel) rfl), (tg3 104 (by decide +kernel) rfl)⟩
abbrev cJ0_isLatin1_aae02 : ByteArray := prog_17_method_154_code
def yJ0_isLatin1_aae02 : MethodName := ⟨RJ0, "isLatin1", "()Z"⟩
def mJ0_isLatin1_aae02 : MI := (yJ0_isLatin1_aae02, cJ0_isLatin1_aae02, 1, (some .boolean), 0, 0, 0)
theorem oJ0_isLatin1_aae02 : OkV mJ0_isLatin1_aae02 0 := ⟨⟨(tg3 109 rfl rfl), (tg1 15 (by decide +kernel) rfl), by decide +kernel, by decide +kernel⟩, (tg3 107 (by decide +kernel) rfl), (tg3 108 (by decide +kernel) rfl)⟩
abbrev cJ1_charAt_3b067 : ByteArray := prog_18_method_2_code
def yJ1_charAt_3b067 : MethodName := ⟨RJ1, "charAt", "([BI)C"⟩
def mJ1_charAt_3b067 : MI := (yJ1_charAt_3b067, cJ1_charAt_3b067, 2, (some .char), 2, 0, 0)
theorem oJ1_charAt_3b067 : OkS mJ1_charAt_3b067 2 := ⟨⟨(tg3 112 rfl rfl), (tg1 16 (by decide +kernel) rfl), by decide +kernel, by decide +kernel⟩, (tg3 111 (by decide +kernel) rfl)⟩
abbrev cJ0_checkIndex_df160 : ByteArray := prog_17_method_155_code
def yJ0_checkIndex_df160 : MethodName := ⟨RJ0, "checkIndex", "(II)V"⟩
def mJ0_checkIndex_df160 : MI := (yJ0_checkIndex_df160, cJ0_checkIndex_df160, 2, none, 1, 0, 0)
theorem oJ0_checkIndex_df160 : OkS mJ0_checkIndex_df160 2 := ⟨⟨(tg3 115 rfl rfl), (tg1 15 (by decide +kernel) rfl), by decide +kernel, by decide +kernel⟩, (tg3 114 (by decide +kernel) rfl)⟩
abbrev cJ3_checkIndex_8e157 : ByteArray := prog_22_method_11_code
def yJ3_checkIndex_8e157 : MethodName := ⟨RJ3, "checkIndex", "(IILjava/util/function/BiFunction;)I"⟩
def mJ3_checkIndex_8e157 : MI := (yJ3_checkIndex_8e157, cJ3_checkIndex_8e157, 3, (some .int), 0, 0, 0)
theorem oJ3_checkIndex_8e157 : OkS mJ3_checkIndex_8e157 3 := ⟨⟨(tg3 120 rfl rfl), (tg1 17 (by decide +kernel) rfl), by decide +kernel, by decide +kernel⟩, (tg3 119 (by decide +kernel) rfl)⟩
abbrev cX4_takeSheet : ByteArray := prog_6_method_8_code
def yX4_takeSheet : MethodName := ⟨RX4, "takeSheet", "()V"⟩
def mX4_takeSheet : MI := (yX4_takeSheet, cX4_takeSheet, 1, none, 4, 0, 0)
theorem oX4_takeSheet : OkV mX4_takeSheet 0 := ⟨⟨(tg3 143 rfl rfl), (tg1 2 (by decide +kernel) rfl), by decide +kernel, by decide +kernel⟩, (tg3 142 (by decide +kernel) rfl), (tg0 5 (by decide +kernel) rfl)⟩
abbrev cX4_refuseTwice : ByteArray := prog_6_method_6_code
def yX4_refuseTwice : MethodName := ⟨RX4, "refuseTwice", "(I)V"⟩
def mX4_refuseTwice : MI := (yX4_refuseTwice, cX4_refuseTwice, 2, none, 1, 0, 0)
theorem oX4_refuseTwice : OkV mX4_refuseTwice 1 := ⟨⟨(tg3 147 rfl rfl), (tg1 2 (by decide +kernel) rfl), by decide +kernel, by decide +kernel⟩, (tg3 146 (by decide +kernel) rfl), (tg0 6 (by decide +kernel) rfl)⟩
abbrev cX4_refuse : ByteArray := prog_6_method_3_code
def yX4_refuse : MethodName := ⟨RX4, "refuse", "(I)V"⟩
def mX4_refuse : MI := (yX4_refuse, cX4_refuse, 2, none, 0, 0, 0)
theorem oX4_refuse : OkV mX4_refuse 1 := ⟨⟨(tg3 151 rfl rfl), (tg1 2 (by decide +kernel) rfl), by decide +kernel, by decide +kernel⟩, (tg3 150 (by decide +kernel) rfl), (tg0 7 (by decide +kernel) rfl)⟩
abbrev cX4_number : ByteArray := prog_6_method_15_code
def yX4_number : MethodName := ⟨RX4, "numbe\x72", "(II)I"⟩
def mX4_number : MI := (yX4_number, cX4_number, 3, (some .int), 3, 0, 0)
theorem oX4_number : OkV mX4_number 2 := ⟨⟨(tg3 155 rfl rfl), (tg1 2 (by decide +kernel) rfl), by decide +kernel, by decide +kernel⟩, (tg3 154 (by decide +kernel) rfl), (tg0 8 (by decide +kernel) rfl)⟩
abbrev cX4_numberHere : ByteArray := prog_6_method_17_code
def yX4_numberHere : MethodName := ⟨RX4, "numberHere", "(II)I"⟩
def mX4_numberHere : MI := (yX4_numberHere, cX4_numberHere, 3, (some .int), 1, 0, 0)
theorem oX4_numberHere : OkV mX4_numberHere 2 := ⟨⟨(tg3 159 rfl rfl), (tg1 2 (by decide +kernel) rfl), by decide +kernel, by decide +kernel⟩, (tg3 158 (by decide +kernel) rfl), (tg0 9 (by decide +kernel) rfl)⟩
abbrev cX4_onlyNumber : ByteArray := prog_6_method_7_code
def yX4_onlyNumber : MethodName := ⟨RX4, "onlyNumbe\x72", "(II)I"⟩
def mX4_onlyNumber : MI := (yX4_onlyNumber, cX4_onlyNumber, 3, (some .int), 4, 0, 0)
theorem oX4_onlyNumber : OkV mX4_onlyNumber 2 := ⟨⟨(tg3 163 rfl rfl), (tg1 2 (by decide +kernel) rfl), by decide +kernel, by decide +kernel⟩, (tg3 162 (by decide +kernel) rfl), (tg0 10 (by decide +kernel) rfl)⟩
abbrev cX4_takeMark : ByteArray := prog_6_method_9_code
def yX4_takeMark : MethodName := ⟨RX4, "takeMark", "()V"⟩
def mX4_takeMark : MI := (yX4_takeMark, cX4_takeMark, 1, none, 4, 0, 0)
theorem oX4_takeMark : OkV mX4_takeMark 0 := ⟨⟨(tg3 167 rfl rfl), (tg1 2 (by decide +kernel) rfl), by decide +kernel, by decide +kernel⟩, (tg3 166 (by decide +kernel) rfl), (tg0 11 (by decide +kernel) rfl)⟩
abbrev cX4_takeScrew : ByteArray := prog_6_method_10_code
def yX4_takeScrew : MethodName := ⟨RX4, "takeScrew", "()V"⟩
def mX4_takeScrew : MI := (yX4_takeScrew, cX4_takeScrew, 3, none, 8, 0, 0)
theorem oX4_takeScrew : OkV mX4_takeScrew 0 := ⟨⟨(tg3 171 rfl rfl), (tg1 2 (by decide +kernel) rfl), by decide +kernel, by decide +kernel⟩, (tg3 170 (by decide +kernel) rfl), (tg0 12 (by decide +kernel) rfl)⟩
abbrev cX4_ink : ByteArray := prog_6_method_14_code
def yX4_ink : MethodName := ⟨RX4, "ink", "()I"⟩
def mX4_ink : MI := (yX4_ink, cX4_ink, 2, (some .int), 7, 0, 0)
theorem oX4_ink : OkV mX4_ink 0 := ⟨⟨(tg3 175 rfl rfl), (tg1 2 (by decide +kernel) rfl), by decide +kernel, by decide +kernel⟩, (tg3 174 (by decide +kernel) rfl), (tg0 13 (by decide +kernel) rfl)⟩
abbrev cX11_isInk : ByteArray := prog_1_method_40_code
def yX11_isInk : MethodName := ⟨RX11, "isInk", "(I)Z"⟩
def mX11_isInk : MI := (yX11_isInk, cX11_isInk, 1, (some .boolean), 0, 0, 0)
theorem oX11_isInk : OkS mX11_isInk 1 := ⟨⟨(tg3 179 rfl rfl), (tg1 1 (by decide +kernel) rfl), by decide +kernel, by decide +kernel⟩, (tg3 178 (by decide +kernel) rfl)⟩
abbrev cX4_signedNumber : ByteArray := prog_6_method_16_code
def yX4_signedNumber : MethodName := ⟨RX4, "signedNumbe\x72", "(I)I"⟩
def mX4_signedNumber : MI := (yX4_signedNumber, cX4_signedNumber, 4, (some .int), 3, 0, 0)
theorem oX4_signedNumber : OkV mX4_signedNumber 1 := ⟨⟨(tg3 183 rfl rfl), (tg1 2 (by decide +kernel) rfl), by decide +kernel, by decide +kernel⟩, (tg3 182 (by decide +kernel) rfl), (tg0 14 (by decide +kernel) rfl)⟩
abbrev cX3_putScrewNumber : ByteArray := prog_5_method_7_code
def yX3_putScrewNumber : MethodName := ⟨RX3, "putScrewNumbe\x72", "(IIII)V"⟩
def mX3_putScrewNumber : MI := (yX3_putScrewNumber, cX3_putScrewNumber, 6, none, 0, 0, 0)
theorem oX3_putScrewNumber : OkV mX3_putScrewNumber 4 := ⟨⟨(tg3 187 rfl rfl), (tg1 4 (by decide +kernel) rfl), by decide +kernel, by decide +kernel⟩, (tg3 185 (by decide +kernel) rfl), (tg3 186 (by decide +kernel) rfl)⟩
abbrev cX4_takeBox : ByteArray := prog_6_method_11_code
def yX4_takeBox : MethodName := ⟨RX4, "takeBox", "()V"⟩
def mX4_takeBox : MI := (yX4_takeBox, cX4_takeBox, 6, none, 8, 0, 0)
theorem oX4_takeBox : OkV mX4_takeBox 0 := ⟨⟨(tg3 191 rfl rfl), (tg1 2 (by decide +kernel) rfl), by decide +kernel, by decide +kernel⟩, (tg3 190 (by decide +kernel) rfl), (tg0 15 (by decide +kernel) rfl)⟩
abbrev cX0_addBox : ByteArray := prog_2_method_9_code
def yX0_addBox : MethodName := ⟨RX0, "addBox", "(IIII)V"⟩
def mX0_addBox : MI := (yX0_addBox, cX0_addBox, 7, none, 0, 0, 0)
theorem oX0_addBox : OkV mX0_addBox 4 := ⟨⟨(tg3 195 rfl rfl), (tg1 5 (by decide +kernel) rfl), by decide +kernel, by decide +kernel⟩, (tg3 193 (by decide +kernel) rfl), (tg3 194 (by decide +kernel) rfl)⟩
abbrev cX4_takeScreen : ByteArray := prog_6_method_12_code
def yX4_takeScreen : MethodName := ⟨RX4, "takeScreen", "()V"⟩
def mX4_takeScreen : MI := (yX4_takeScreen, cX4_takeScreen, 3, none, 4, 0, 0)
theorem oX4_takeScreen : OkV mX4_takeScreen 0 := ⟨⟨(tg3 200 rfl rfl), (tg1 2 (by decide +kernel) rfl), by decide +kernel, by decide +kernel⟩, (tg3 199 (by decide +kernel) rfl), (tg0 16 (by decide +kernel) rfl)⟩
abbrev cX8_put : ByteArray := prog_10_method_3_code
def yX8_put : MethodName := ⟨RX8, "put", "(II)V"⟩
def mX8_put : MI := (yX8_put, cX8_put, 3, none, 0, 0, 0)
theorem oX8_put : OkV mX8_put 2 := ⟨⟨(tg3 204 rfl rfl), (tg1 6 (by decide +kernel) rfl), by decide +kernel, by decide +kernel⟩, (tg3 202 (by decide +kernel) rfl), (tg3 203 (by decide +kernel) rfl)⟩
abbrev cX4_takeLies : ByteArray := prog_6_method_13_code
def yX4_takeLies : MethodName := ⟨RX4, "takeLies", "()V"⟩
def mX4_takeLies : MI := (yX4_takeLies, cX4_takeLies, 4, none, 8, 0, 0)
theorem oX4_takeLies : OkV mX4_takeLies 0 := ⟨⟨(tg3 208 rfl rfl), (tg1 2 (by decide +kernel) rfl), by decide +kernel, by decide +kernel⟩, (tg3 207 (by decide +kernel) rfl), (tg0 17 (by decide +kernel) rfl)⟩
abbrev cX4_takeSemicolon : ByteArray := prog_6_method_5_code
def yX4_takeSemicolon : MethodName := ⟨RX4, "takeSemicolon", "()V"⟩
def mX4_takeSemicolon : MI := (yX4_takeSemicolon, cX4_takeSemicolon, 1, none, 3, 0, 0)
theorem oX4_takeSemicolon : OkV mX4_takeSemicolon 0 := ⟨⟨(tg3 212 rfl rfl), (tg1 2 (by decide +kernel) rfl), by decide +kernel, by decide +kernel⟩, (tg3 211 (by decide +kernel) rfl), (tg0 18 (by decide +kernel) rfl)⟩
abbrev cX7_forget : ByteArray := prog_9_method_3_code
def yX7_forget : MethodName := ⟨RX7, "forget", "()V"⟩
def mX7_forget : MI := (yX7_forget, cX7_forget, 1, none, 0, 0, 0)
theorem oX7_forget : OkV mX7_forget 0 := ⟨⟨(tg3 216 rfl rfl), (tg1 8 (by decide +kernel) rfl), by decide +kernel, by decide +kernel⟩, (tg3 214 (by decide +kernel) rfl), (tg3 215 (by decide +kernel) rfl)⟩
abbrev cX6_forget : ByteArray := prog_8_method_2_code
def yX6_forget : MethodName := ⟨RX6, "forget", "()V"⟩
def mX6_forget : MI := (yX6_forget, cX6_forget, 1, none, 0, 0, 0)
theorem oX6_forget : OkV mX6_forget 0 := ⟨⟨(tg3 220 rfl rfl), (tg1 10 (by decide +kernel) rfl), by decide +kernel, by decide +kernel⟩, (tg3 218 (by decide +kernel) rfl), (tg3 219 (by decide +kernel) rfl)⟩
abbrev cX5_forget : ByteArray := prog_7_method_2_code
def yX5_forget : MethodName := ⟨RX5, "forget", "()V"⟩
def mX5_forget : MI := (yX5_forget, cX5_forget, 1, none, 0, 0, 0)
theorem oX5_forget : OkV mX5_forget 0 := ⟨⟨(tg3 224 rfl rfl), (tg1 11 (by decide +kernel) rfl), by decide +kernel, by decide +kernel⟩, (tg3 222 (by decide +kernel) rfl), (tg3 223 (by decide +kernel) rfl)⟩
abbrev cX10_forget : ByteArray := prog_12_method_2_code
def yX10_forget : MethodName := ⟨RX10, "forget", "()V"⟩
def mX10_forget : MI := (yX10_forget, cX10_forget, 1, none, 0, 0, 0)
theorem oX10_forget : OkV mX10_forget 0 := ⟨⟨(tg3 228 rfl rfl), (tg1 13 (by decide +kernel) rfl), by decide +kernel, by decide +kernel⟩, (tg3 226 (by decide +kernel) rfl), (tg3 227 (by decide +kernel) rfl)⟩
abbrev cX11_fault : ByteArray := prog_1_method_5_code
def yX11_fault : MethodName := ⟨RX11, "fault", "(I)I"⟩
def mX11_fault : MI := (yX11_fault, cX11_fault, 2, (some .int), 0, 0, 0)
theorem oX11_fault : OkV mX11_fault 1 := ⟨⟨(tg3 232 rfl rfl), (tg1 1 (by decide +kernel) rfl), by decide +kernel, by decide +kernel⟩, (tg3 230 (by decide +kernel) rfl), (tg3 231 (by decide +kernel) rfl)⟩
abbrev cX11_told : ByteArray := prog_1_method_6_code
def yX11_told : MethodName := ⟨RX11, "told", "(I)I"⟩
def mX11_told : MI := (yX11_told, cX11_told, 2, (some .int), 2, 0, 0)
theorem oX11_told : OkV mX11_told 1 := ⟨⟨(tg3 236 rfl rfl), (tg1 1 (by decide +kernel) rfl), by decide +kernel, by decide +kernel⟩, (tg3 234 (by decide +kernel) rfl), (tg3 235 (by decide +kernel) rfl)⟩
abbrev cX3_plainNumber : ByteArray := prog_5_method_3_code
def yX3_plainNumber : MethodName := ⟨RX3, "plainNumbe\x72", "(I)I"⟩
def mX3_plainNumber : MI := (yX3_plainNumber, cX3_plainNumber, 2, (some .int), 0, 0, 0)
theorem oX3_plainNumber : OkV mX3_plainNumber 1 := ⟨⟨(tg4 0 rfl rfl), (tg1 4 (by decide +kernel) rfl), by decide +kernel, by decide +kernel⟩, (tg3 238 (by decide +kernel) rfl), (tg3 239 (by decide +kernel) rfl)⟩
abbrev cX3_stays : ByteArray := prog_5_method_5_code
def yX3_stays : MethodName := ⟨RX3, "stays", "(I)I"⟩
def mX3_stays : MI := (yX3_stays, cX3_stays, 3, (some .int), 0, 0, 0)
theorem oX3_stays : OkV mX3_stays 1 := ⟨⟨(tg4 4 rfl rfl), (tg1 4 (by decide +kernel) rfl), by decide +kernel, by decide +kernel⟩, (tg4 2 (by decide +kernel) rfl), (tg4 3 (by decide +kernel) rfl)⟩
abbrev cX3_markNumber : ByteArray := prog_5_method_4_code
def yX3_markNumber : MethodName := ⟨RX3, "markNumbe\x72", "(IZ)I"⟩
def mX3_markNumber : MI := (yX3_markNumber, cX3_markNumber, 3, (some .int), 0, 0, 0)
theorem oX3_markNumber : OkV mX3_markNumber 2 := ⟨⟨(tg4 8 rfl rfl), (tg1 4 (by decide +kernel) rfl), by decide +kernel, by decide +kernel⟩, (tg4 6 (by decide +kernel) rfl), (tg4 7 (by decide +kernel) rfl)⟩
abbrev cX8_stepOf : ByteArray := prog_10_method_4_code
def yX8_stepOf : MethodName := ⟨RX8, "stepOf", "(IZ)I"⟩
def mX8_stepOf : MI := (yX8_stepOf, cX8_stepOf, 3, (some .int), 1, 0, 0)
theorem oX8_stepOf : OkV mX8_stepOf 2 := ⟨⟨(tg4 12 rfl rfl), (tg1 6 (by decide +kernel) rfl), by decide +kernel, by decide +kernel⟩, (tg4 10 (by decide +kernel) rfl), (tg4 11 (by decide +kernel) rfl)⟩
abbrev cX8_isScreen : ByteArray := prog_10_method_2_code
def yX8_isScreen : MethodName := ⟨RX8, "isScreen", "(I)Z"⟩
def mX8_isScreen : MI := (yX8_isScreen, cX8_isScreen, 2, (some .boolean), 0, 0, 0)
theorem oX8_isScreen : OkV mX8_isScreen 1 := ⟨⟨(tg4 16 rfl rfl), (tg1 6 (by decide +kernel) rfl), by decide +kernel, by decide +kernel⟩, (tg4 14 (by decide +kernel) rfl), (tg4 15 (by decide +kernel) rfl)⟩
abbrev cX11_screw : ByteArray := prog_1_method_7_code
def yX11_screw : MethodName := ⟨RX11, "screw", "(III)I"⟩
def mX11_screw : MI := (yX11_screw, cX11_screw, 4, (some .int), 1, 0, 0)
theorem oX11_screw : OkV mX11_screw 3 := ⟨⟨(tg4 20 rfl rfl), (tg1 1 (by decide +kernel) rfl), by decide +kernel, by decide +kernel⟩, (tg4 18 (by decide +kernel) rfl), (tg4 19 (by decide +kernel) rfl)⟩
abbrev cX3_screwNumber : ByteArray := prog_5_method_6_code
def yX3_screwNumber : MethodName := ⟨RX3, "screwNumbe\x72", "(III)I"⟩
def mX3_screwNumber : MI := (yX3_screwNumber, cX3_screwNumber, 5, (some .int), 0, 0, 0)
theorem oX3_screwNumber : OkV mX3_screwNumber 3 := ⟨⟨(tg4 25 rfl rfl), (tg1 4 (by decide +kernel) rfl), by decide +kernel, by decide +kernel⟩, (tg4 23 (by decide +kernel) rfl), (tg4 24 (by decide +kernel) rfl)⟩
abbrev cX11_shift : ByteArray := prog_1_method_8_code
def yX11_shift : MethodName := ⟨RX11, "shift", "(IIIIIII)I"⟩
def mX11_shift : MI := (yX11_shift, cX11_shift, 8, (some .int), 2, 0, 0)
theorem oX11_shift : OkV mX11_shift 7 := ⟨⟨(tg4 29 rfl rfl), (tg1 1 (by decide +kernel) rfl), by decide +kernel, by decide +kernel⟩, (tg4 27 (by decide +kernel) rfl), (tg4 28 (by decide +kernel) rfl)⟩
abbrev cX11_isSlip : ByteArray := prog_1_method_42_code
def yX11_isSlip : MethodName := ⟨RX11, "isSlip", "(IIII)Z"⟩
def mX11_isSlip : MI := (yX11_isSlip, cX11_isSlip, 4, (some .boolean), 1, 0, 0)
theorem oX11_isSlip : OkS mX11_isSlip 4 := ⟨⟨(tg4 32 rfl rfl), (tg1 1 (by decide +kernel) rfl), by decide +kernel, by decide +kernel⟩, (tg4 31 (by decide +kernel) rfl)⟩
abbrev cX11_isWithinNine : ByteArray := prog_1_method_43_code
def yX11_isWithinNine : MethodName := ⟨RX11, "isWithinNine", "(I)Z"⟩
def mX11_isWithinNine : MI := (yX11_isWithinNine, cX11_isWithinNine, 1, (some .boolean), 0, 0, 0)
theorem oX11_isWithinNine : OkS mX11_isWithinNine 1 := ⟨⟨(tg4 35 rfl rfl), (tg1 1 (by decide +kernel) rfl), by decide +kernel, by decide +kernel⟩, (tg4 34 (by decide +kernel) rfl)⟩
abbrev cX11_isPlace : ByteArray := prog_1_method_44_code
def yX11_isPlace : MethodName := ⟨RX11, "isPlace", "(I)Z"⟩
def mX11_isPlace : MI := (yX11_isPlace, cX11_isPlace, 1, (some .boolean), 0, 0, 0)
theorem oX11_isPlace : OkS mX11_isPlace 1 := ⟨⟨(tg4 38 rfl rfl), (tg1 1 (by decide +kernel) rfl), by decide +kernel, by decide +kernel⟩, (tg4 37 (by decide +kernel) rfl)⟩
abbrev cX11_turnedAcross : ByteArray := prog_1_method_48_code
def yX11_turnedAcross : MethodName := ⟨RX11, "turnedAcross", "(IIII)I"⟩
def mX11_turnedAcross : MI := (yX11_turnedAcross, cX11_turnedAcross, 4, (some .int), 0, 0, 0)
theorem oX11_turnedAcross : OkS mX11_turnedAcross 4 := ⟨⟨(tg4 41 rfl rfl), (tg1 1 (by decide +kernel) rfl), by decide +kernel, by decide +kernel⟩, (tg4 40 (by decide +kernel) rfl)⟩
abbrev cX11_turnedUp : ByteArray := prog_1_method_49_code
def yX11_turnedUp : MethodName := ⟨RX11, "turnedUp", "(IIII)I"⟩
def mX11_turnedUp : MI := (yX11_turnedUp, cX11_turnedUp, 4, (some .int), 0, 0, 0)
theorem oX11_turnedUp : OkS mX11_turnedUp 4 := ⟨⟨(tg4 44 rfl rfl), (tg1 1 (by decide +kernel) rfl), by decide +kernel, by decide +kernel⟩, (tg4 43 (by decide +kernel) rfl)⟩
abbrev cX11_read : ByteArray := prog_1_method_9_code
def yX11_read : MethodName := ⟨RX11, "read", "(IIIII)I"⟩
def mX11_read : MI := (yX11_read, cX11_read, 6, (some .int), 2, 0, 0)
theorem oX11_read : OkV mX11_read 5 := ⟨⟨(tg4 48 rfl rfl), (tg1 1 (by decide +kernel) rfl), by decide +kernel, by decide +kernel⟩, (tg4 46 (by decide +kernel) rfl), (tg4 47 (by decide +kernel) rfl)⟩
abbrev cX7_mayTell : ByteArray := prog_9_method_4_code
def yX7_mayTell : MethodName := ⟨RX7, "mayTell", "(III)Z"⟩
def mX7_mayTell : MI := (yX7_mayTell, cX7_mayTell, 4, (some .boolean), 1, 0, 0)
theorem oX7_mayTell : OkV mX7_mayTell 3 := ⟨⟨(tg4 52 rfl rfl), (tg1 8 (by decide +kernel) rfl), by decide +kernel, by decide +kernel⟩, (tg4 50 (by decide +kernel) rfl), (tg4 51 (by decide +kernel) rfl)⟩
abbrev cX7_isStep : ByteArray := prog_9_method_2_code
def yX7_isStep : MethodName := ⟨RX7, "isStep", "(I)Z"⟩
def mX7_isStep : MI := (yX7_isStep, cX7_isStep, 1, (some .boolean), 0, 0, 0)
theorem oX7_isStep : OkS mX7_isStep 1 := ⟨⟨(tg4 55 rfl rfl), (tg1 8 (by decide +kernel) rfl), by decide +kernel, by decide +kernel⟩, (tg4 54 (by decide +kernel) rfl)⟩
abbrev cX7_isShiftSeen : ByteArray := prog_9_method_5_code
def yX7_isShiftSeen : MethodName := ⟨RX7, "isShiftSeen", "(I)Z"⟩
def mX7_isShiftSeen : MI := (yX7_isShiftSeen, cX7_isShiftSeen, 1, (some .boolean), 0, 0, 0)
theorem oX7_isShiftSeen : OkS mX7_isShiftSeen 1 := ⟨⟨(tg4 58 rfl rfl), (tg1 8 (by decide +kernel) rfl), by decide +kernel, by decide +kernel⟩, (tg4 57 (by decide +kernel) rfl)⟩
abbrev cX7_put : ByteArray := prog_9_method_6_code
def yX7_put : MethodName := ⟨RX7, "put", "(IIIII)I"⟩
def mX7_put : MI := (yX7_put, cX7_put, 6, (some .int), 0, 0, 0)
theorem oX7_put : OkV mX7_put 5 := ⟨⟨(tg4 62 rfl rfl), (tg1 8 (by decide +kernel) rfl), by decide +kernel, by decide +kernel⟩, (tg4 60 (by decide +kernel) rfl), (tg4 61 (by decide +kernel) rfl)⟩
abbrev cX11_right : ByteArray := prog_1_method_10_code
def yX11_right : MethodName := ⟨RX11, "right", "(IIII)I"⟩
def mX11_right : MI := (yX11_right, cX11_right, 5, (some .int), 2, 0, 0)
theorem oX11_right : OkV mX11_right 4 := ⟨⟨(tg4 66 rfl rfl), (tg1 1 (by decide +kernel) rfl), by decide +kernel, by decide +kernel⟩, (tg4 64 (by decide +kernel) rfl), (tg4 65 (by decide +kernel) rfl)⟩
abbrev cX7_putRight : ByteArray := prog_9_method_7_code
def yX7_putRight : MethodName := ⟨RX7, "putRight", "(IIII)I"⟩
def mX7_putRight : MI := (yX7_putRight, cX7_putRight, 5, (some .int), 1, 0, 0)
theorem oX7_putRight : OkV mX7_putRight 4 := ⟨⟨(tg4 70 rfl rfl), (tg1 8 (by decide +kernel) rfl), by decide +kernel, by decide +kernel⟩, (tg4 68 (by decide +kernel) rfl), (tg4 69 (by decide +kernel) rfl)⟩
abbrev cX7_timesRight : ByteArray := prog_9_method_8_code
def yX7_timesRight : MethodName := ⟨RX7, "timesRight", "(I)I"⟩
def mX7_timesRight : MI := (yX7_timesRight, cX7_timesRight, 4, (some .int), 0, 0, 0)
theorem oX7_timesRight : OkV mX7_timesRight 1 := ⟨⟨(tg4 74 rfl rfl), (tg1 8 (by decide +kernel) rfl), by decide +kernel, by decide +kernel⟩, (tg4 73 (by decide +kernel) rfl), (tg0 19 (by decide +kernel) rfl)⟩
abbrev cX11_fit : ByteArray := prog_1_method_11_code
def yX11_fit : MethodName := ⟨RX11, "fit", "(III)I"⟩
def mX11_fit : MI := (yX11_fit, cX11_fit, 6, (some .int), 4, 0, 0)
theorem oX11_fit : OkV mX11_fit 3 := ⟨⟨(tg4 78 rfl rfl), (tg1 1 (by decide +kernel) rfl), by decide +kernel, by decide +kernel⟩, (tg4 76 (by decide +kernel) rfl), (tg4 77 (by decide +kernel) rfl)⟩
abbrev cX1_find : ByteArray := prog_3_method_2_code
def yX1_find : MethodName := ⟨RX1, "find", "(LFourInks$Job;LFourInks$Readings;II)V"⟩
def mX1_find : MI := (yX1_find, cX1_find, 7, none, 3, 0, 0)
theorem oX1_find : OkV mX1_find 4 := ⟨⟨(tg4 83 rfl rfl), (tg1 9 (by decide +kernel) rfl), by decide +kernel, by decide +kernel⟩, (tg4 81 (by decide +kernel) rfl), (tg4 82 (by decide +kernel) rfl)⟩
abbrev cX1_gather : ByteArray := prog_3_method_3_code
def yX1_gather : MethodName := ⟨RX1, "gathe\x72", "(LFourInks$Job;LFourInks$Readings;II)V"⟩
def mX1_gather : MI := (yX1_gather, cX1_gather, 7, none, 2, 0, 0)
theorem oX1_gather : OkV mX1_gather 4 := ⟨⟨(tg4 87 rfl rfl), (tg1 9 (by decide +kernel) rfl), by decide +kernel, by decide +kernel⟩, (tg4 86 (by decide +kernel) rfl), (tg0 20 (by decide +kernel) rfl)⟩
abbrev cX7_markOf : ByteArray := prog_9_method_10_code
def yX7_markOf : MethodName := ⟨RX7, "markOf", "(I)I"⟩
def mX7_markOf : MI := (yX7_markOf, cX7_markOf, 2, (some .int), 0, 0, 0)
theorem oX7_markOf : OkV mX7_markOf 1 := ⟨⟨(tg4 91 rfl rfl), (tg1 8 (by decide +kernel) rfl), by decide +kernel, by decide +kernel⟩, (tg4 89 (by decide +kernel) rfl), (tg4 90 (by decide +kernel) rfl)⟩
abbrev cX7_isKnown : ByteArray := prog_9_method_9_code
def yX7_isKnown : MethodName := ⟨RX7, "isKnown", "(III)Z"⟩
def mX7_isKnown : MI := (yX7_isKnown, cX7_isKnown, 4, (some .boolean), 0, 0, 0)
theorem oX7_isKnown : OkV mX7_isKnown 3 := ⟨⟨(tg4 95 rfl rfl), (tg1 8 (by decide +kernel) rfl), by decide +kernel, by decide +kernel⟩, (tg4 93 (by decide +kernel) rfl), (tg4 94 (by decide +kernel) rfl)⟩
abbrev cX7_acrossKnown : ByteArray := prog_9_method_11_code
def yX7_acrossKnown : MethodName := ⟨RX7, "acrossKnown", "(II)I"⟩
def mX7_acrossKnown : MI := (yX7_acrossKnown, cX7_acrossKnown, 4, (some .int), 1, 0, 0)
theorem oX7_acrossKnown : OkV mX7_acrossKnown 2 := ⟨⟨(tg4 99 rfl rfl), (tg1 8 (by decide +kernel) rfl), by decide +kernel, by decide +kernel⟩, (tg4 97 (by decide +kernel) rfl), (tg4 98 (by decide +kernel) rfl)⟩
abbrev cX7_lastRight : ByteArray := prog_9_method_13_code
def yX7_lastRight : MethodName := ⟨RX7, "lastRight", "(II)I"⟩
def mX7_lastRight : MI := (yX7_lastRight, cX7_lastRight, 5, (some .int), 0, 0, 0)
theorem oX7_lastRight : OkV mX7_lastRight 2 := ⟨⟨(tg4 103 rfl rfl), (tg1 8 (by decide +kernel) rfl), by decide +kernel, by decide +kernel⟩, (tg4 102 (by decide +kernel) rfl), (tg0 21 (by decide +kernel) rfl)⟩
abbrev cX7_upKnown : ByteArray := prog_9_method_12_code
def yX7_upKnown : MethodName := ⟨RX7, "upKnown", "(II)I"⟩
def mX7_upKnown : MI := (yX7_upKnown, cX7_upKnown, 4, (some .int), 1, 0, 0)
theorem oX7_upKnown : OkV mX7_upKnown 2 := ⟨⟨(tg4 107 rfl rfl), (tg1 8 (by decide +kernel) rfl), by decide +kernel, by decide +kernel⟩, (tg4 105 (by decide +kernel) rfl), (tg4 106 (by decide +kernel) rfl)⟩
abbrev cX1_boundShifts : ByteArray := prog_3_method_4_code
def yX1_boundShifts : MethodName := ⟨RX1, "boundShifts", "(III)V"⟩
def mX1_boundShifts : MI := (yX1_boundShifts, cX1_boundShifts, 7, none, 1, 0, 0)
theorem oX1_boundShifts : OkV mX1_boundShifts 3 := ⟨⟨(tg4 111 rfl rfl), (tg1 9 (by decide +kernel) rfl), by decide +kernel, by decide +kernel⟩, (tg4 110 (by decide +kernel) rfl), (tg0 22 (by decide +kernel) rfl)⟩
abbrev cJ9_max_7cf53 : ByteArray := prog_16_method_65_code
def yJ9_max_7cf53 : MethodName := ⟨RJ9, "max", "(II)I"⟩
def mJ9_max_7cf53 : MI := (yJ9_max_7cf53, cJ9_max_7cf53, 2, (some .int), 0, 0, 0)
theorem oJ9_max_7cf53 : OkS mJ9_max_7cf53 2 := ⟨⟨(tg4 116 rfl rfl), (tg1 19 (by decide +kernel) rfl), by decide +kernel, by decide +kernel⟩, (tg4 115 (by decide +kernel) rfl)⟩
abbrev cJ9_min_7cf53 : ByteArray := prog_16_method_69_code
def yJ9_min_7cf53 : MethodName := ⟨RJ9, "min", "(II)I"⟩
def mJ9_min_7cf53 : MI := (yJ9_min_7cf53, cJ9_min_7cf53, 2, (some .int), 0, 0, 0)
theorem oJ9_min_7cf53 : OkS mJ9_min_7cf53 2 := ⟨⟨(tg4 119 rfl rfl), (tg1 19 (by decide +kernel) rfl), by decide +kernel, by decide +kernel⟩, (tg4 118 (by decide +kernel) rfl)⟩
abbrev cX1_takeIn : ByteArray := prog_3_method_5_code
def yX1_takeIn : MethodName := ⟨RX1, "takeIn", "(II)V"⟩
def mX1_takeIn : MI := (yX1_takeIn, cX1_takeIn, 3, none, 2, 0, 0)
theorem oX1_takeIn : OkV mX1_takeIn 2 := ⟨⟨(tg4 123 rfl rfl), (tg1 9 (by decide +kernel) rfl), by decide +kernel, by decide +kernel⟩, (tg4 122 (by decide +kernel) rfl), (tg0 23 (by decide +kernel) rfl)⟩
abbrev cX1_widen : ByteArray := prog_3_method_6_code
def yX1_widen : MethodName := ⟨RX1, "widen", "(III)V"⟩
def mX1_widen : MI := (yX1_widen, cX1_widen, 4, none, 1, 0, 0)
theorem oX1_widen : OkV mX1_widen 3 := ⟨⟨(tg4 127 rfl rfl), (tg1 9 (by decide +kernel) rfl), by decide +kernel, by decide +kernel⟩, (tg4 126 (by decide +kernel) rfl), (tg0 24 (by decide +kernel) rfl)⟩
abbrev cX11_sure : ByteArray := prog_1_method_12_code
def yX11_sure : MethodName := ⟨RX11, "sure", "(II)I"⟩
def mX11_sure : MI := (yX11_sure, cX11_sure, 3, (some .int), 4, 0, 0)
theorem oX11_sure : OkV mX11_sure 2 := ⟨⟨(tg4 131 rfl rfl), (tg1 1 (by decide +kernel) rfl), by decide +kernel, by decide +kernel⟩, (tg4 129 (by decide +kernel) rfl), (tg4 130 (by decide +kernel) rfl)⟩
abbrev cX1_sureBits : ByteArray := prog_3_method_7_code
def yX1_sureBits : MethodName := ⟨RX1, "sureBits", "()I"⟩
def mX1_sureBits : MI := (yX1_sureBits, cX1_sureBits, 3, (some .int), 0, 0, 0)
theorem oX1_sureBits : OkV mX1_sureBits 0 := ⟨⟨(tg4 135 rfl rfl), (tg1 9 (by decide +kernel) rfl), by decide +kernel, by decide +kernel⟩, (tg4 133 (by decide +kernel) rfl), (tg4 134 (by decide +kernel) rfl)⟩
abbrev cX11_mend : ByteArray := prog_1_method_13_code
def yX11_mend : MethodName := ⟨RX11, "mend", "(IIIII)I"⟩
def mX11_mend : MI := (yX11_mend, cX11_mend, 6, (some .int), 4, 0, 0)
theorem oX11_mend : OkV mX11_mend 5 := ⟨⟨(tg4 139 rfl rfl), (tg1 1 (by decide +kernel) rfl), by decide +kernel, by decide +kernel⟩, (tg4 137 (by decide +kernel) rfl), (tg4 138 (by decide +kernel) rfl)⟩
abbrev cX6_begin : ByteArray := prog_8_method_3_code
def yX6_begin : MethodName := ⟨RX6, "begin", "(IIII)V"⟩
def mX6_begin : MI := (yX6_begin, cX6_begin, 5, none, 0, 0, 0)
theorem oX6_begin : OkV mX6_begin 4 := ⟨⟨(tg4 143 rfl rfl), (tg1 10 (by decide +kernel) rfl), by decide +kernel, by decide +kernel⟩, (tg4 141 (by decide +kernel) rfl), (tg4 142 (by decide +kernel) rfl)⟩
abbrev cX6_find : ByteArray := prog_8_method_4_code
def yX6_find : MethodName := ⟨RX6, "find", "(LFourInks$Job;I)I"⟩
def mX6_find : MI := (yX6_find, cX6_find, 9, (some .int), 3, 0, 0)
theorem oX6_find : OkV mX6_find 2 := ⟨⟨(tg4 147 rfl rfl), (tg1 10 (by decide +kernel) rfl), by decide +kernel, by decide +kernel⟩, (tg4 145 (by decide +kernel) rfl), (tg4 146 (by decide +kernel) rfl)⟩
abbrev cX6_beginRows : ByteArray := prog_8_method_5_code
def yX6_beginRows : MethodName := ⟨RX6, "beginRows", "(I)I"⟩
def mX6_beginRows : MI := (yX6_beginRows, cX6_beginRows, 4, (some .int), 0, 0, 0)
theorem oX6_beginRows : OkV mX6_beginRows 1 := ⟨⟨(tg4 153 rfl rfl), (tg1 10 (by decide +kernel) rfl), by decide +kernel, by decide +kernel⟩, (tg4 152 (by decide +kernel) rfl), (tg0 25 (by decide +kernel) rfl)⟩
abbrev cX6_badOfRow : ByteArray := prog_8_method_8_code
def yX6_badOfRow : MethodName := ⟨RX6, "badOfRow", "(LFourInks$Job;I)I"⟩
def mX6_badOfRow : MI := (yX6_badOfRow, cX6_badOfRow, 7, (some .int), 2, 0, 0)
theorem oX6_badOfRow : OkV mX6_badOfRow 2 := ⟨⟨(tg4 157 rfl rfl), (tg1 10 (by decide +kernel) rfl), by decide +kernel, by decide +kernel⟩, (tg4 156 (by decide +kernel) rfl), (tg0 26 (by decide +kernel) rfl)⟩
abbrev cX6_badOf : ByteArray := prog_8_method_9_code
def yX6_badOf : MethodName := ⟨RX6, "badOf", "(LFourInks$Job;III)I"⟩
def mX6_badOf : MI := (yX6_badOf, cX6_badOf, 9, (some .int), 1, 0, 0)
theorem oX6_badOf : OkV mX6_badOf 4 := ⟨⟨(tg4 162 rfl rfl), (tg1 10 (by decide +kernel) rfl), by decide +kernel, by decide +kernel⟩, (tg4 161 (by decide +kernel) rfl), (tg0 27 (by decide +kernel) rfl)⟩
abbrev cJ9_abs_0f7a4 : ByteArray := prog_16_method_59_code
def yJ9_abs_0f7a4 : MethodName := ⟨RJ9, "abs", "(I)I"⟩
def mJ9_abs_0f7a4 : MI := (yJ9_abs_0f7a4, cJ9_abs_0f7a4, 1, (some .int), 0, 0, 0)
theorem oJ9_abs_0f7a4 : OkS mJ9_abs_0f7a4 1 := ⟨⟨(tg4 166 rfl rfl), (tg1 19 (by decide +kernel) rfl), by decide +kernel, by decide +kernel⟩, (tg4 165 (by decide +kernel) rfl)⟩
abbrev cX6_turnsOfRow : ByteArray := prog_8_method_7_code
def yX6_turnsOfRow : MethodName := ⟨RX6, "turnsOfRow", "()I"⟩
def mX6_turnsOfRow : MI := (yX6_turnsOfRow, cX6_turnsOfRow, 3, (some .int), 1, 0, 0)
theorem oX6_turnsOfRow : OkV mX6_turnsOfRow 0 := ⟨⟨(tg4 172 rfl rfl), (tg1 10 (by decide +kernel) rfl), by decide +kernel, by decide +kernel⟩, (tg4 171 (by decide +kernel) rfl), (tg0 28 (by decide +kernel) rfl)⟩
abbrev cX6_nextRow : ByteArray := prog_8_method_6_code
def yX6_nextRow : MethodName := ⟨RX6, "nextRow", "(I)V"⟩
def mX6_nextRow : MI := (yX6_nextRow, cX6_nextRow, 3, none, 0, 0, 0)
theorem oX6_nextRow : OkV mX6_nextRow 1 := ⟨⟨(tg4 179 rfl rfl), (tg1 10 (by decide +kernel) rfl), by decide +kernel, by decide +kernel⟩, (tg4 178 (by decide +kernel) rfl), (tg0 29 (by decide +kernel) rfl)⟩
abbrev cX11_turned : ByteArray := prog_1_method_14_code
def yX11_turned : MethodName := ⟨RX11, "turned", "(I)I"⟩
def mX11_turned : MI := (yX11_turned, cX11_turned, 2, (some .int), 0, 0, 0)
theorem oX11_turned : OkV mX11_turned 1 := ⟨⟨(tg4 183 rfl rfl), (tg1 1 (by decide +kernel) rfl), by decide +kernel, by decide +kernel⟩, (tg4 181 (by decide +kernel) rfl), (tg4 182 (by decide +kernel) rfl)⟩
abbrev cX11_pulled : ByteArray := prog_1_method_15_code
def yX11_pulled : MethodName := ⟨RX11, "pulled", "(II)I"⟩
def mX11_pulled : MI := (yX11_pulled, cX11_pulled, 3, (some .int), 1, 0, 0)
theorem oX11_pulled : OkV mX11_pulled 2 := ⟨⟨(tg4 187 rfl rfl), (tg1 1 (by decide +kernel) rfl), by decide +kernel, by decide +kernel⟩, (tg4 185 (by decide +kernel) rfl), (tg4 186 (by decide +kernel) rfl)⟩
abbrev cX11_shape : ByteArray := prog_1_method_16_code
def yX11_shape : MethodName := ⟨RX11, "shape", "(III)I"⟩
def mX11_shape : MI := (yX11_shape, cX11_shape, 4, (some .int), 2, 0, 0)
theorem oX11_shape : OkV mX11_shape 3 := ⟨⟨(tg4 191 rfl rfl), (tg1 1 (by decide +kernel) rfl), by decide +kernel, by decide +kernel⟩, (tg4 189 (by decide +kernel) rfl), (tg4 190 (by decide +kernel) rfl)⟩
abbrev cX11_isSpread : ByteArray := prog_1_method_45_code
def yX11_isSpread : MethodName := ⟨RX11, "isSpread", "(I)Z"⟩
def mX11_isSpread : MI := (yX11_isSpread, cX11_isSpread, 1, (some .boolean), 0, 0, 0)
theorem oX11_isSpread : OkS mX11_isSpread 1 := ⟨⟨(tg4 194 rfl rfl), (tg1 1 (by decide +kernel) rfl), by decide +kernel, by decide +kernel⟩, (tg4 193 (by decide +kernel) rfl)⟩
abbrev cX0_copy : ByteArray := prog_2_method_5_code
def yX0_copy : MethodName := ⟨RX0, "copy", "(LFourInks$Board;)V"⟩
def mX0_copy : MI := (yX0_copy, cX0_copy, 2, none, 1, 0, 0)
theorem oX0_copy : OkV mX0_copy 1 := ⟨⟨(tg4 198 rfl rfl), (tg1 5 (by decide +kernel) rfl), by decide +kernel, by decide +kernel⟩, (tg4 196 (by decide +kernel) rfl), (tg4 197 (by decide +kernel) rfl)⟩
abbrev cX0_grow : ByteArray := prog_2_method_11_code
def yX0_grow : MethodName := ⟨RX0, "grow", "(I)V"⟩
def mX0_grow : MI := (yX0_grow, cX0_grow, 3, none, 1, 0, 0)
theorem oX0_grow : OkV mX0_grow 1 := ⟨⟨(tg4 203 rfl rfl), (tg1 5 (by decide +kernel) rfl), by decide +kernel, by decide +kernel⟩, (tg4 201 (by decide +kernel) rfl), (tg4 202 (by decide +kernel) rfl)⟩
abbrev cX0_invert : ByteArray := prog_2_method_12_code
def yX0_invert : MethodName := ⟨RX0, "invert", "()V"⟩
def mX0_invert : MI := (yX0_invert, cX0_invert, 2, none, 0, 0, 0)
theorem oX0_invert : OkV mX0_invert 0 := ⟨⟨(tg4 207 rfl rfl), (tg1 5 (by decide +kernel) rfl), by decide +kernel, by decide +kernel⟩, (tg4 206 (by decide +kernel) rfl), (tg0 30 (by decide +kernel) rfl)⟩
abbrev cX0_growOnce : ByteArray := prog_2_method_13_code
def yX0_growOnce : MethodName := ⟨RX0, "growOnce", "()V"⟩
def mX0_growOnce : MI := (yX0_growOnce, cX0_growOnce, 14, none, 0, 0, 0)
theorem oX0_growOnce : OkV mX0_growOnce 0 := ⟨⟨(tg4 213 rfl rfl), (tg1 5 (by decide +kernel) rfl), by decide +kernel, by decide +kernel⟩, (tg4 212 (by decide +kernel) rfl), (tg0 31 (by decide +kernel) rfl)⟩
abbrev cX0_row : ByteArray := prog_2_method_10_code
def yX0_row : MethodName := ⟨RX0, "row", "(I)I"⟩
def mX0_row : MI := (yX0_row, cX0_row, 2, (some .int), 0, 0, 0)
theorem oX0_row : OkV mX0_row 1 := ⟨⟨(tg4 219 rfl rfl), (tg1 5 (by decide +kernel) rfl), by decide +kernel, by decide +kernel⟩, (tg4 217 (by decide +kernel) rfl), (tg4 218 (by decide +kernel) rfl)⟩
abbrev cX11_seen : ByteArray := prog_1_method_17_code
def yX11_seen : MethodName := ⟨RX11, "seen", "(IIIIIII)I"⟩
def mX11_seen : MI := (yX11_seen, cX11_seen, 9, (some .int), 3, 0, 0)
theorem oX11_seen : OkV mX11_seen 7 := ⟨⟨(tg4 223 rfl rfl), (tg1 1 (by decide +kernel) rfl), by decide +kernel, by decide +kernel⟩, (tg4 221 (by decide +kernel) rfl), (tg4 222 (by decide +kernel) rfl)⟩
abbrev cX11_areUnlikeInks : ByteArray := prog_1_method_41_code
def yX11_areUnlikeInks : MethodName := ⟨RX11, "areUnlikeInks", "(II)Z"⟩
def mX11_areUnlikeInks : MI := (yX11_areUnlikeInks, cX11_areUnlikeInks, 2, (some .boolean), 1, 0, 0)
theorem oX11_areUnlikeInks : OkS mX11_areUnlikeInks 2 := ⟨⟨(tg4 226 rfl rfl), (tg1 1 (by decide +kernel) rfl), by decide +kernel, by decide +kernel⟩, (tg4 225 (by decide +kernel) rfl)⟩
abbrev cX0_isShift : ByteArray := prog_2_method_3_code
def yX0_isShift : MethodName := ⟨RX0, "isShift", "(I)Z"⟩
def mX0_isShift : MI := (yX0_isShift, cX0_isShift, 1, (some .boolean), 0, 0, 0)
theorem oX0_isShift : OkS mX0_isShift 1 := ⟨⟨(tg4 229 rfl rfl), (tg1 5 (by decide +kernel) rfl), by decide +kernel, by decide +kernel⟩, (tg4 228 (by decide +kernel) rfl)⟩
abbrev cX5_lay : ByteArray := prog_7_method_3_code
def yX5_lay : MethodName := ⟨RX5, "lay", "(LFourInks$Job;IIII)V"⟩
def mX5_lay : MI := (yX5_lay, cX5_lay, 7, none, 2, 0, 0)
theorem oX5_lay : OkV mX5_lay 5 := ⟨⟨(tg4 233 rfl rfl), (tg1 11 (by decide +kernel) rfl), by decide +kernel, by decide +kernel⟩, (tg4 231 (by decide +kernel) rfl), (tg4 232 (by decide +kernel) rfl)⟩
abbrev cX5_slip : ByteArray := prog_7_method_4_code
def yX5_slip : MethodName := ⟨RX5, "slip", "(II)I"⟩
def mX5_slip : MI := (yX5_slip, cX5_slip, 8, (some .int), 2, 0, 0)
theorem oX5_slip : OkV mX5_slip 2 := ⟨⟨(tg4 239 rfl rfl), (tg1 11 (by decide +kernel) rfl), by decide +kernel, by decide +kernel⟩, (tg4 237 (by decide +kernel) rfl), (tg4 238 (by decide +kernel) rfl)⟩
abbrev cX0_move : ByteArray := prog_2_method_14_code
def yX0_move : MethodName := ⟨RX0, "move", "(II)V"⟩
def mX0_move : MI := (yX0_move, cX0_move, 4, none, 1, 0, 0)
theorem oX0_move : OkV mX0_move 2 := ⟨⟨(tg5 3 rfl rfl), (tg1 5 (by decide +kernel) rfl), by decide +kernel, by decide +kernel⟩, (tg5 1 (by decide +kernel) rfl), (tg5 2 (by decide +kernel) rfl)⟩
abbrev cX0_moveAcross : ByteArray := prog_2_method_15_code
def yX0_moveAcross : MethodName := ⟨RX0, "moveAcross", "(I)V"⟩
def mX0_moveAcross : MI := (yX0_moveAcross, cX0_moveAcross, 4, none, 0, 0, 0)
theorem oX0_moveAcross : OkV mX0_moveAcross 1 := ⟨⟨(tg5 7 rfl rfl), (tg1 5 (by decide +kernel) rfl), by decide +kernel, by decide +kernel⟩, (tg5 6 (by decide +kernel) rfl), (tg0 32 (by decide +kernel) rfl)⟩
abbrev cX0_moveUpOnce : ByteArray := prog_2_method_16_code
def yX0_moveUpOnce : MethodName := ⟨RX0, "moveUpOnce", "()V"⟩
def mX0_moveUpOnce : MI := (yX0_moveUpOnce, cX0_moveUpOnce, 2, none, 0, 0, 0)
theorem oX0_moveUpOnce : OkV mX0_moveUpOnce 0 := ⟨⟨(tg5 11 rfl rfl), (tg1 5 (by decide +kernel) rfl), by decide +kernel, by decide +kernel⟩, (tg5 10 (by decide +kernel) rfl), (tg0 33 (by decide +kernel) rfl)⟩
abbrev cX0_moveDownOnce : ByteArray := prog_2_method_17_code
def yX0_moveDownOnce : MethodName := ⟨RX0, "moveDownOnce", "()V"⟩
def mX0_moveDownOnce : MI := (yX0_moveDownOnce, cX0_moveDownOnce, 2, none, 0, 0, 0)
theorem oX0_moveDownOnce : OkV mX0_moveDownOnce 0 := ⟨⟨(tg5 15 rfl rfl), (tg1 5 (by decide +kernel) rfl), by decide +kernel, by decide +kernel⟩, (tg5 14 (by decide +kernel) rfl), (tg0 34 (by decide +kernel) rfl)⟩
abbrev cJ13_bitCount_95d88 : ByteArray := prog_15_method_50_code
def yJ13_bitCount_95d88 : MethodName := ⟨RJ13, "bitCount", "(J)I"⟩
def mJ13_bitCount_95d88 : MI := (yJ13_bitCount_95d88, cJ13_bitCount_95d88, 2, (some .int), 0, 0, 0)
theorem oJ13_bitCount_95d88 : OkS mJ13_bitCount_95d88 1 := ⟨⟨(tg5 19 rfl rfl), (tg1 21 (by decide +kernel) rfl), by decide +kernel, by decide +kernel⟩, (tg5 18 (by decide +kernel) rfl)⟩
abbrev cX11_worst : ByteArray := prog_1_method_18_code
def yX11_worst : MethodName := ⟨RX11, "worst", "(IIIII)I"⟩
def mX11_worst : MI := (yX11_worst, cX11_worst, 6, (some .int), 4, 0, 0)
theorem oX11_worst : OkV mX11_worst 5 := ⟨⟨(tg5 26 rfl rfl), (tg1 1 (by decide +kernel) rfl), by decide +kernel, by decide +kernel⟩, (tg5 24 (by decide +kernel) rfl), (tg5 25 (by decide +kernel) rfl)⟩
abbrev cX11_isReach : ByteArray := prog_1_method_46_code
def yX11_isReach : MethodName := ⟨RX11, "isReach", "(I)Z"⟩
def mX11_isReach : MI := (yX11_isReach, cX11_isReach, 1, (some .boolean), 0, 0, 0)
theorem oX11_isReach : OkS mX11_isReach 1 := ⟨⟨(tg5 29 rfl rfl), (tg1 1 (by decide +kernel) rfl), by decide +kernel, by decide +kernel⟩, (tg5 28 (by decide +kernel) rfl)⟩
abbrev cX5_worstWithin : ByteArray := prog_7_method_5_code
def yX5_worstWithin : MethodName := ⟨RX5, "worstWithin", "(I)I"⟩
def mX5_worstWithin : MI := (yX5_worstWithin, cX5_worstWithin, 5, (some .int), 3, 0, 0)
theorem oX5_worstWithin : OkV mX5_worstWithin 1 := ⟨⟨(tg5 33 rfl rfl), (tg1 11 (by decide +kernel) rfl), by decide +kernel, by decide +kernel⟩, (tg5 31 (by decide +kernel) rfl), (tg5 32 (by decide +kernel) rfl)⟩
abbrev cX11_best : ByteArray := prog_1_method_19_code
def yX11_best : MethodName := ⟨RX11, "best", "(III)I"⟩
def mX11_best : MI := (yX11_best, cX11_best, 4, (some .int), 5, 0, 0)
theorem oX11_best : OkV mX11_best 3 := ⟨⟨(tg5 39 rfl rfl), (tg1 1 (by decide +kernel) rfl), by decide +kernel, by decide +kernel⟩, (tg5 37 (by decide +kernel) rfl), (tg5 38 (by decide +kernel) rfl)⟩
abbrev cX5_findBest : ByteArray := prog_7_method_6_code
def yX5_findBest : MethodName := ⟨RX5, "findBest", "(LFourInks$Job;III)I"⟩
def mX5_findBest : MI := (yX5_findBest, cX5_findBest, 11, (some .int), 4, 0, 0)
theorem oX5_findBest : OkV mX5_findBest 4 := ⟨⟨(tg5 43 rfl rfl), (tg1 11 (by decide +kernel) rfl), by decide +kernel, by decide +kernel⟩, (tg5 41 (by decide +kernel) rfl), (tg5 42 (by decide +kernel) rfl)⟩
abbrev cX11_spread : ByteArray := prog_1_method_20_code
def yX11_spread : MethodName := ⟨RX11, "spread", "(I)I"⟩
def mX11_spread : MI := (yX11_spread, cX11_spread, 2, (some .int), 0, 0, 0)
theorem oX11_spread : OkV mX11_spread 1 := ⟨⟨(tg5 51 rfl rfl), (tg1 1 (by decide +kernel) rfl), by decide +kernel, by decide +kernel⟩, (tg5 49 (by decide +kernel) rfl), (tg5 50 (by decide +kernel) rfl)⟩
abbrev cX11_sign : ByteArray := prog_1_method_21_code
def yX11_sign : MethodName := ⟨RX11, "sign", "()I"⟩
def mX11_sign : MI := (yX11_sign, cX11_sign, 2, (some .int), 2, 0, 0)
theorem oX11_sign : OkV mX11_sign 0 := ⟨⟨(tg5 55 rfl rfl), (tg1 1 (by decide +kernel) rfl), by decide +kernel, by decide +kernel⟩, (tg5 53 (by decide +kernel) rfl), (tg5 54 (by decide +kernel) rfl)⟩
abbrev cX0_add : ByteArray := prog_2_method_6_code
def yX0_add : MethodName := ⟨RX0, "add", "(LFourInks$Board;)V"⟩
def mX0_add : MI := (yX0_add, cX0_add, 3, none, 0, 0, 0)
theorem oX0_add : OkV mX0_add 1 := ⟨⟨(tg5 60 rfl rfl), (tg1 5 (by decide +kernel) rfl), by decide +kernel, by decide +kernel⟩, (tg5 58 (by decide +kernel) rfl), (tg5 59 (by decide +kernel) rfl)⟩
abbrev cX0_cells : ByteArray := prog_2_method_8_code
def yX0_cells : MethodName := ⟨RX0, "cells", "()I"⟩
def mX0_cells : MI := (yX0_cells, cX0_cells, 3, (some .int), 1, 0, 0)
theorem oX0_cells : OkV mX0_cells 0 := ⟨⟨(tg5 64 rfl rfl), (tg1 5 (by decide +kernel) rfl), by decide +kernel, by decide +kernel⟩, (tg5 62 (by decide +kernel) rfl), (tg5 63 (by decide +kernel) rfl)⟩
abbrev cX11_held : ByteArray := prog_1_method_22_code
def yX11_held : MethodName := ⟨RX11, "held", "(IIII)I"⟩
def mX11_held : MI := (yX11_held, cX11_held, 5, (some .int), 3, 0, 0)
theorem oX11_held : OkV mX11_held 4 := ⟨⟨(tg5 69 rfl rfl), (tg1 1 (by decide +kernel) rfl), by decide +kernel, by decide +kernel⟩, (tg5 67 (by decide +kernel) rfl), (tg5 68 (by decide +kernel) rfl)⟩
abbrev cX11_isShiftCode : ByteArray := prog_1_method_47_code
def yX11_isShiftCode : MethodName := ⟨RX11, "isShiftCode", "(I)Z"⟩
def mX11_isShiftCode : MI := (yX11_isShiftCode, cX11_isShiftCode, 1, (some .boolean), 0, 0, 0)
theorem oX11_isShiftCode : OkS mX11_isShiftCode 1 := ⟨⟨(tg5 72 rfl rfl), (tg1 1 (by decide +kernel) rfl), by decide +kernel, by decide +kernel⟩, (tg5 71 (by decide +kernel) rfl)⟩
abbrev cX11_markUnlike : ByteArray := prog_1_method_23_code
def yX11_markUnlike : MethodName := ⟨RX11, "markUnlike", "(II)V"⟩
def mX11_markUnlike : MI := (yX11_markUnlike, cX11_markUnlike, 3, none, 2, 0, 0)
theorem oX11_markUnlike : OkV mX11_markUnlike 2 := ⟨⟨(tg5 76 rfl rfl), (tg1 1 (by decide +kernel) rfl), by decide +kernel, by decide +kernel⟩, (tg5 75 (by decide +kernel) rfl), (tg0 35 (by decide +kernel) rfl)⟩
abbrev cX0_addUnlike : ByteArray := prog_2_method_7_code
def yX0_addUnlike : MethodName := ⟨RX0, "addUnlike", "(LFourInks$Board;LFourInks$Board;)V"⟩
def mX0_addUnlike : MI := (yX0_addUnlike, cX0_addUnlike, 4, none, 0, 0, 0)
theorem oX0_addUnlike : OkV mX0_addUnlike 2 := ⟨⟨(tg5 81 rfl rfl), (tg1 5 (by decide +kernel) rfl), by decide +kernel, by decide +kernel⟩, (tg5 79 (by decide +kernel) rfl), (tg5 80 (by decide +kernel) rfl)⟩
abbrev cX11_causes : ByteArray := prog_1_method_24_code
def yX11_causes : MethodName := ⟨RX11, "causes", "(I)I"⟩
def mX11_causes : MI := (yX11_causes, cX11_causes, 3, (some .int), 4, 0, 0)
theorem oX11_causes : OkV mX11_causes 1 := ⟨⟨(tg5 85 rfl rfl), (tg1 1 (by decide +kernel) rfl), by decide +kernel, by decide +kernel⟩, (tg5 83 (by decide +kernel) rfl), (tg5 84 (by decide +kernel) rfl)⟩
abbrev cX9_takeRow : ByteArray := prog_11_method_13_code
def yX9_takeRow : MethodName := ⟨RX9, "takeRow", "([IIZ)I"⟩
def mX9_takeRow : MI := (yX9_takeRow, cX9_takeRow, 7, (some .int), 3, 0, 0)
theorem oX9_takeRow : OkV mX9_takeRow 3 := ⟨⟨(tg5 89 rfl rfl), (tg1 3 (by decide +kernel) rfl), by decide +kernel, by decide +kernel⟩, (tg5 87 (by decide +kernel) rfl), (tg5 88 (by decide +kernel) rfl)⟩
abbrev cX11_causesOf : ByteArray := prog_1_method_25_code
def yX11_causesOf : MethodName := ⟨RX11, "causesOf", "(II)I"⟩
def mX11_causesOf : MI := (yX11_causesOf, cX11_causesOf, 4, (some .int), 3, 0, 0)
theorem oX11_causesOf : OkV mX11_causesOf 2 := ⟨⟨(tg5 95 rfl rfl), (tg1 1 (by decide +kernel) rfl), by decide +kernel, by decide +kernel⟩, (tg5 94 (by decide +kernel) rfl), (tg0 36 (by decide +kernel) rfl)⟩
abbrev cX11_breadthOf : ByteArray := prog_1_method_28_code
def yX11_breadthOf : MethodName := ⟨RX11, "breadthOf", "(III)I"⟩
def mX11_breadthOf : MI := (yX11_breadthOf, cX11_breadthOf, 8, (some .int), 1, 0, 0)
theorem oX11_breadthOf : OkV mX11_breadthOf 3 := ⟨⟨(tg5 99 rfl rfl), (tg1 1 (by decide +kernel) rfl), by decide +kernel, by decide +kernel⟩, (tg5 98 (by decide +kernel) rfl), (tg0 37 (by decide +kernel) rfl)⟩
abbrev cX11_isJump : ByteArray := prog_1_method_26_code
def yX11_isJump : MethodName := ⟨RX11, "isJump", "(II)Z"⟩
def mX11_isJump : MI := (yX11_isJump, cX11_isJump, 4, (some .boolean), 2, 0, 0)
theorem oX11_isJump : OkV mX11_isJump 2 := ⟨⟨(tg5 105 rfl rfl), (tg1 1 (by decide +kernel) rfl), by decide +kernel, by decide +kernel⟩, (tg5 104 (by decide +kernel) rfl), (tg0 38 (by decide +kernel) rfl)⟩
abbrev cX11_isDrift : ByteArray := prog_1_method_27_code
def yX11_isDrift : MethodName := ⟨RX11, "isDrift", "(II)Z"⟩
def mX11_isDrift : MI := (yX11_isDrift, cX11_isDrift, 4, (some .boolean), 2, 0, 0)
theorem oX11_isDrift : OkV mX11_isDrift 2 := ⟨⟨(tg5 109 rfl rfl), (tg1 1 (by decide +kernel) rfl), by decide +kernel, by decide +kernel⟩, (tg5 108 (by decide +kernel) rfl), (tg0 39 (by decide +kernel) rfl)⟩
abbrev cX11_cost : ByteArray := prog_1_method_29_code
def yX11_cost : MethodName := ⟨RX11, "cost", "(IIIIII)J"⟩
def mX11_cost : MI := (yX11_cost, cX11_cost, 7, (some .long), 3, 0, 0)
theorem oX11_cost : OkV mX11_cost 6 := ⟨⟨(tg5 113 rfl rfl), (tg1 1 (by decide +kernel) rfl), by decide +kernel, by decide +kernel⟩, (tg5 111 (by decide +kernel) rfl), (tg5 112 (by decide +kernel) rfl)⟩
abbrev cX2_areBounds : ByteArray := prog_4_method_2_code
def yX2_areBounds : MethodName := ⟨RX2, "areBounds", "(IIII)Z"⟩
def mX2_areBounds : MI := (yX2_areBounds, cX2_areBounds, 4, (some .boolean), 1, 0, 0)
theorem oX2_areBounds : OkS mX2_areBounds 4 := ⟨⟨(tg5 116 rfl rfl), (tg1 12 (by decide +kernel) rfl), by decide +kernel, by decide +kernel⟩, (tg5 115 (by decide +kernel) rfl)⟩
abbrev cX2_isPrice : ByteArray := prog_4_method_3_code
def yX2_isPrice : MethodName := ⟨RX2, "isPrice", "(I)Z"⟩
def mX2_isPrice : MI := (yX2_isPrice, cX2_isPrice, 1, (some .boolean), 0, 0, 0)
theorem oX2_isPrice : OkS mX2_isPrice 1 := ⟨⟨(tg5 119 rfl rfl), (tg1 12 (by decide +kernel) rfl), by decide +kernel, by decide +kernel⟩, (tg5 118 (by decide +kernel) rfl)⟩
abbrev cX2_areChances : ByteArray := prog_4_method_4_code
def yX2_areChances : MethodName := ⟨RX2, "areChances", "(II)Z"⟩
def mX2_areChances : MI := (yX2_areChances, cX2_areChances, 2, (some .boolean), 1, 0, 0)
theorem oX2_areChances : OkS mX2_areChances 2 := ⟨⟨(tg5 122 rfl rfl), (tg1 12 (by decide +kernel) rfl), by decide +kernel, by decide +kernel⟩, (tg5 121 (by decide +kernel) rfl)⟩
abbrev cX2_isChance : ByteArray := prog_4_method_5_code
def yX2_isChance : MethodName := ⟨RX2, "isChance", "(I)Z"⟩
def mX2_isChance : MI := (yX2_isChance, cX2_isChance, 1, (some .boolean), 0, 0, 0)
theorem oX2_isChance : OkS mX2_isChance 1 := ⟨⟨(tg5 125 rfl rfl), (tg1 12 (by decide +kernel) rfl), by decide +kernel, by decide +kernel⟩, (tg5 124 (by decide +kernel) rfl)⟩
abbrev cX2_weigh : ByteArray := prog_4_method_6_code
def yX2_weigh : MethodName := ⟨RX2, "weigh", "(IIIIII)V"⟩
def mX2_weigh : MI := (yX2_weigh, cX2_weigh, 13, none, 2, 0, 0)
theorem oX2_weigh : OkV mX2_weigh 6 := ⟨⟨(tg5 130 rfl rfl), (tg1 12 (by decide +kernel) rfl), by decide +kernel, by decide +kernel⟩, (tg5 128 (by decide +kernel) rfl), (tg5 129 (by decide +kernel) rfl)⟩
abbrev cX2_costBehind : ByteArray := prog_4_method_7_code
def yX2_costBehind : MethodName := ⟨RX2, "costBehind", "(III)J"⟩
def mX2_costBehind : MI := (yX2_costBehind, cX2_costBehind, 6, (some .long), 1, 0, 0)
theorem oX2_costBehind : OkV mX2_costBehind 3 := ⟨⟨(tg5 136 rfl rfl), (tg1 12 (by decide +kernel) rfl), by decide +kernel, by decide +kernel⟩, (tg5 135 (by decide +kernel) rfl), (tg0 40 (by decide +kernel) rfl)⟩
abbrev cJ9_min_f86c9 : ByteArray := prog_16_method_70_code
def yJ9_min_f86c9 : MethodName := ⟨RJ9, "min", "(JJ)J"⟩
def mJ9_min_f86c9 : MI := (yJ9_min_f86c9, cJ9_min_f86c9, 4, (some .long), 0, 0, 0)
theorem oJ9_min_f86c9 : OkS mJ9_min_f86c9 2 := ⟨⟨(tg5 141 rfl rfl), (tg1 19 (by decide +kernel) rfl), by decide +kernel, by decide +kernel⟩, (tg5 140 (by decide +kernel) rfl)⟩
abbrev cX11_halt : ByteArray := prog_1_method_30_code
def yX11_halt : MethodName := ⟨RX11, "halt", "(IIIIII)I"⟩
def mX11_halt : MI := (yX11_halt, cX11_halt, 7, (some .int), 3, 0, 0)
theorem oX11_halt : OkV mX11_halt 6 := ⟨⟨(tg5 147 rfl rfl), (tg1 1 (by decide +kernel) rfl), by decide +kernel, by decide +kernel⟩, (tg5 145 (by decide +kernel) rfl), (tg5 146 (by decide +kernel) rfl)⟩
abbrev cX11_tissue : ByteArray := prog_1_method_31_code
def yX11_tissue : MethodName := ⟨RX11, "tissue", "(III)I"⟩
def mX11_tissue : MI := (yX11_tissue, cX11_tissue, 5, (some .int), 5, 0, 0)
theorem oX11_tissue : OkV mX11_tissue 3 := ⟨⟨(tg5 151 rfl rfl), (tg1 1 (by decide +kernel) rfl), by decide +kernel, by decide +kernel⟩, (tg5 149 (by decide +kernel) rfl), (tg5 150 (by decide +kernel) rfl)⟩
abbrev cX10_bound : ByteArray := prog_12_method_3_code
def yX10_bound : MethodName := ⟨RX10, "bound", "(IIII)Z"⟩
def mX10_bound : MI := (yX10_bound, cX10_bound, 9, (some .boolean), 1, 0, 0)
theorem oX10_bound : OkV mX10_bound 4 := ⟨⟨(tg5 155 rfl rfl), (tg1 13 (by decide +kernel) rfl), by decide +kernel, by decide +kernel⟩, (tg5 153 (by decide +kernel) rfl), (tg5 154 (by decide +kernel) rfl)⟩
abbrev cX10_find : ByteArray := prog_12_method_4_code
def yX10_find : MethodName := ⟨RX10, "find", "(I)I"⟩
def mX10_find : MI := (yX10_find, cX10_find, 5, (some .int), 4, 0, 0)
theorem oX10_find : OkV mX10_find 1 := ⟨⟨(tg5 160 rfl rfl), (tg1 13 (by decide +kernel) rfl), by decide +kernel, by decide +kernel⟩, (tg5 158 (by decide +kernel) rfl), (tg5 159 (by decide +kernel) rfl)⟩
abbrev cX10_lightest : ByteArray := prog_12_method_6_code
def yX10_lightest : MethodName := ⟨RX10, "lightest", "(II)I"⟩
def mX10_lightest : MI := (yX10_lightest, cX10_lightest, 5, (some .int), 2, 0, 0)
theorem oX10_lightest : OkV mX10_lightest 2 := ⟨⟨(tg5 165 rfl rfl), (tg1 13 (by decide +kernel) rfl), by decide +kernel, by decide +kernel⟩, (tg5 164 (by decide +kernel) rfl), (tg0 41 (by decide +kernel) rfl)⟩
abbrev cX10_weight : ByteArray := prog_12_method_5_code
def yX10_weight : MethodName := ⟨RX10, "weight", "(III)I"⟩
def mX10_weight : MI := (yX10_weight, cX10_weight, 4, (some .int), 1, 0, 0)
theorem oX10_weight : OkV mX10_weight 3 := ⟨⟨(tg5 169 rfl rfl), (tg1 13 (by decide +kernel) rfl), by decide +kernel, by decide +kernel⟩, (tg5 168 (by decide +kernel) rfl), (tg0 42 (by decide +kernel) rfl)⟩
abbrev cX10_takeLayers : ByteArray := prog_12_method_7_code
def yX10_takeLayers : MethodName := ⟨RX10, "takeLayers", "()V"⟩
def mX10_takeLayers : MI := (yX10_takeLayers, cX10_takeLayers, 3, none, 3, 0, 0)
theorem oX10_takeLayers : OkV mX10_takeLayers 0 := ⟨⟨(tg5 174 rfl rfl), (tg1 13 (by decide +kernel) rfl), by decide +kernel, by decide +kernel⟩, (tg5 173 (by decide +kernel) rfl), (tg0 43 (by decide +kernel) rfl)⟩
abbrev cX11_layers : ByteArray := prog_1_method_32_code
def yX11_layers : MethodName := ⟨RX11, "layers", "(I)I"⟩
def mX11_layers : MI := (yX11_layers, cX11_layers, 2, (some .int), 0, 0, 0)
theorem oX11_layers : OkV mX11_layers 1 := ⟨⟨(tg5 178 rfl rfl), (tg1 1 (by decide +kernel) rfl), by decide +kernel, by decide +kernel⟩, (tg5 176 (by decide +kernel) rfl), (tg5 177 (by decide +kernel) rfl)⟩
abbrev cX11_beat : ByteArray := prog_1_method_33_code
def yX11_beat : MethodName := ⟨RX11, "beat", "(II)I"⟩
def mX11_beat : MI := (yX11_beat, cX11_beat, 4, (some .int), 2, 0, 0)
theorem oX11_beat : OkV mX11_beat 2 := ⟨⟨(tg5 182 rfl rfl), (tg1 1 (by decide +kernel) rfl), by decide +kernel, by decide +kernel⟩, (tg5 180 (by decide +kernel) rfl), (tg5 181 (by decide +kernel) rfl)⟩
abbrev cX8_beatOf : ByteArray := prog_10_method_5_code
def yX8_beatOf : MethodName := ⟨RX8, "beatOf", "(II)I"⟩
def mX8_beatOf : MI := (yX8_beatOf, cX8_beatOf, 5, (some .int), 1, 0, 0)
theorem oX8_beatOf : OkV mX8_beatOf 2 := ⟨⟨(tg5 187 rfl rfl), (tg1 6 (by decide +kernel) rfl), by decide +kernel, by decide +kernel⟩, (tg5 185 (by decide +kernel) rfl), (tg5 186 (by decide +kernel) rfl)⟩
abbrev cX8_squaresFrom : ByteArray := prog_10_method_6_code
def yX8_squaresFrom : MethodName := ⟨RX8, "squaresFrom", "(III)I"⟩
def mX8_squaresFrom : MI := (yX8_squaresFrom, cX8_squaresFrom, 6, (some .int), 0, 0, 0)
theorem oX8_squaresFrom : OkV mX8_squaresFrom 3 := ⟨⟨(tg5 191 rfl rfl), (tg1 6 (by decide +kernel) rfl), by decide +kernel, by decide +kernel⟩, (tg5 190 (by decide +kernel) rfl), (tg0 44 (by decide +kernel) rfl)⟩
abbrev cX11_setting : ByteArray := prog_1_method_34_code
def yX11_setting : MethodName := ⟨RX11, "setting", "(I)I"⟩
def mX11_setting : MI := (yX11_setting, cX11_setting, 3, (some .int), 4, 0, 0)
theorem oX11_setting : OkV mX11_setting 1 := ⟨⟨(tg5 196 rfl rfl), (tg1 1 (by decide +kernel) rfl), by decide +kernel, by decide +kernel⟩, (tg5 194 (by decide +kernel) rfl), (tg5 195 (by decide +kernel) rfl)⟩
abbrev cX8_findSetting : ByteArray := prog_10_method_7_code
def yX8_findSetting : MethodName := ⟨RX8, "findSetting", "()I"⟩
def mX8_findSetting : MI := (yX8_findSetting, cX8_findSetting, 7, (some .int), 3, 0, 0)
theorem oX8_findSetting : OkV mX8_findSetting 0 := ⟨⟨(tg5 200 rfl rfl), (tg1 6 (by decide +kernel) rfl), by decide +kernel, by decide +kernel⟩, (tg5 198 (by decide +kernel) rfl), (tg5 199 (by decide +kernel) rfl)⟩
abbrev cX8_leastBeat : ByteArray := prog_10_method_8_code
def yX8_leastBeat : MethodName := ⟨RX8, "leastBeat", "(IIII)I"⟩
def mX8_leastBeat : MI := (yX8_leastBeat, cX8_leastBeat, 7, (some .int), 2, 0, 0)
theorem oX8_leastBeat : OkV mX8_leastBeat 4 := ⟨⟨(tg5 204 rfl rfl), (tg1 6 (by decide +kernel) rfl), by decide +kernel, by decide +kernel⟩, (tg5 203 (by decide +kernel) rfl), (tg0 45 (by decide +kernel) rfl)⟩
abbrev cX8_set : ByteArray := prog_10_method_9_code
def yX8_set : MethodName := ⟨RX8, "set", "(IIII)V"⟩
def mX8_set : MI := (yX8_set, cX8_set, 5, none, 0, 0, 0)
theorem oX8_set : OkV mX8_set 4 := ⟨⟨(tg5 209 rfl rfl), (tg1 6 (by decide +kernel) rfl), by decide +kernel, by decide +kernel⟩, (tg5 208 (by decide +kernel) rfl), (tg0 46 (by decide +kernel) rfl)⟩
abbrev cX11_order : ByteArray := prog_1_method_35_code
def yX11_order : MethodName := ⟨RX11, "orde\x72", "(I)I"⟩
def mX11_order : MI := (yX11_order, cX11_order, 3, (some .int), 4, 0, 0)
theorem oX11_order : OkV mX11_order 1 := ⟨⟨(tg5 213 rfl rfl), (tg1 1 (by decide +kernel) rfl), by decide +kernel, by decide +kernel⟩, (tg5 211 (by decide +kernel) rfl), (tg5 212 (by decide +kernel) rfl)⟩
abbrev cX11_findOrder : ByteArray := prog_1_method_36_code
def yX11_findOrder : MethodName := ⟨RX11, "findOrde\x72", "()I"⟩
def mX11_findOrder : MI := (yX11_findOrder, cX11_findOrder, 7, (some .int), 3, 0, 0)
theorem oX11_findOrder : OkV mX11_findOrder 0 := ⟨⟨(tg5 217 rfl rfl), (tg1 1 (by decide +kernel) rfl), by decide +kernel, by decide +kernel⟩, (tg5 216 (by decide +kernel) rfl), (tg0 47 (by decide +kernel) rfl)⟩
abbrev cX11_sumOf : ByteArray := prog_1_method_38_code
def yX11_sumOf : MethodName := ⟨RX11, "sumOf", "(IIII)I"⟩
def mX11_sumOf : MI := (yX11_sumOf, cX11_sumOf, 5, (some .int), 2, 0, 0)
theorem oX11_sumOf : OkV mX11_sumOf 4 := ⟨⟨(tg5 221 rfl rfl), (tg1 1 (by decide +kernel) rfl), by decide +kernel, by decide +kernel⟩, (tg5 220 (by decide +kernel) rfl), (tg0 48 (by decide +kernel) rfl)⟩
abbrev cX11_sum : ByteArray := prog_1_method_37_code
def yX11_sum : MethodName := ⟨RX11, "sum", "(I)I"⟩
def mX11_sum : MI := (yX11_sum, cX11_sum, 2, (some .int), 3, 0, 0)
theorem oX11_sum : OkV mX11_sum 1 := ⟨⟨(tg5 225 rfl rfl), (tg1 1 (by decide +kernel) rfl), by decide +kernel, by decide +kernel⟩, (tg5 223 (by decide +kernel) rfl), (tg5 224 (by decide +kernel) rfl)⟩
abbrev cX11_count : ByteArray := prog_1_method_39_code
def yX11_count : MethodName := ⟨RX11, "count", "(I)I"⟩
def mX11_count : MI := (yX11_count, cX11_count, 2, (some .int), 0, 0, 0)
theorem oX11_count : OkV mX11_count 1 := ⟨⟨(tg5 229 rfl rfl), (tg1 1 (by decide +kernel) rfl), by decide +kernel, by decide +kernel⟩, (tg5 227 (by decide +kernel) rfl), (tg5 228 (by decide +kernel) rfl)⟩
abbrev cX12_init : ByteArray := prog_14_method_1_code
def yX12_init : MethodName := ⟨RX12, "<init>", "()V"⟩
def mX12_init : MI := (yX12_init, cX12_init, 1, none, 2, 33, 1929)
theorem oX12_init : OkI mX12_init 0 := ⟨⟨(tg5 234 rfl rfl), (tg1 14 (by decide +kernel) rfl), by decide +kernel, by decide +kernel⟩, (tg5 233 (by decide +kernel) rfl), rfl, rfl⟩
abbrev cX12_begin : ByteArray := prog_14_method_16_code
def yX12_begin : MethodName := ⟨RX12, "begin", "()V"⟩
def mX12_begin : MI := (yX12_begin, cX12_begin, 2, none, 0, 0, 0)
theorem oX12_begin : OkV mX12_begin 0 := ⟨⟨(tg5 239 rfl rfl), (tg1 14 (by decide +kernel) rfl), by decide +kernel, by decide +kernel⟩, (tg5 238 (by decide +kernel) rfl), (tg0 49 (by decide +kernel) rfl)⟩
abbrev cX12_settle : ByteArray := prog_14_method_18_code
def yX12_settle : MethodName := ⟨RX12, "settle", "()V"⟩
def mX12_settle : MI := (yX12_settle, cX12_settle, 1, none, 1, 0, 0)
theorem oX12_settle : OkV mX12_settle 0 := ⟨⟨(tg6 3 rfl rfl), (tg1 14 (by decide +kernel) rfl), by decide +kernel, by decide +kernel⟩, (tg6 2 (by decide +kernel) rfl), (tg0 50 (by decide +kernel) rfl)⟩
abbrev cX12_comes : ByteArray := prog_14_method_17_code
def yX12_comes : MethodName := ⟨RX12, "comes", "([II)V"⟩
def mX12_comes : MI := (yX12_comes, cX12_comes, 3, none, 0, 0, 0)
theorem oX12_comes : OkS mX12_comes 2 := ⟨⟨(tg6 6 rfl rfl), (tg1 14 (by decide +kernel) rfl), by decide +kernel, by decide +kernel⟩, (tg6 5 (by decide +kernel) rfl)⟩
abbrev cX12_feed : ByteArray := prog_14_method_4_code
def yX12_feed : MethodName := ⟨RX12, "feed", "(IIIII)I"⟩
def mX12_feed : MI := (yX12_feed, cX12_feed, 9, (some .int), 0, 0, 0)
theorem oX12_feed : OkV mX12_feed 5 := ⟨⟨(tg6 188 rfl rfl), (tg1 14 (by decide +kernel) rfl), by decide +kernel, by decide +kernel⟩, (tg6 186 (by decide +kernel) rfl), (tg6 187 (by decide +kernel) rfl)⟩
abbrev cX12_end : ByteArray := prog_14_method_5_code
def yX12_end : MethodName := ⟨RX12, "end", "(I)I"⟩
def mX12_end : MI := (yX12_end, cX12_end, 2, (some .int), 0, 0, 0)
theorem oX12_end : OkV mX12_end 1 := ⟨⟨(tg6 192 rfl rfl), (tg1 14 (by decide +kernel) rfl), by decide +kernel, by decide +kernel⟩, (tg6 190 (by decide +kernel) rfl), (tg6 191 (by decide +kernel) rfl)⟩
abbrev cX12_fault : ByteArray := prog_14_method_15_code
def yX12_fault : MethodName := ⟨RX12, "fault", "(I)I"⟩
def mX12_fault : MI := (yX12_fault, cX12_fault, 2, (some .int), 0, 0, 0)
theorem oX12_fault : OkV mX12_fault 1 := ⟨⟨(tg6 196 rfl rfl), (tg1 14 (by decide +kernel) rfl), by decide +kernel, by decide +kernel⟩, (tg6 194 (by decide +kernel) rfl), (tg6 195 (by decide +kernel) rfl)⟩
abbrev cX12_job : ByteArray := prog_14_method_29_code
def yX12_job : MethodName := ⟨RX12, "job", "()I"⟩
def mX12_job : MI := (yX12_job, cX12_job, 2, (some .int), 11, 0, 0)
theorem oX12_job : OkV mX12_job 0 := ⟨⟨(tg6 200 rfl rfl), (tg1 14 (by decide +kernel) rfl), by decide +kernel, by decide +kernel⟩, (tg6 198 (by decide +kernel) rfl), (tg6 199 (by decide +kernel) rfl)⟩
abbrev cX12_start : ByteArray := prog_14_method_11_code
def yX12_start : MethodName := ⟨RX12, "start", "()V"⟩
def mX12_start : MI := (yX12_start, cX12_start, 1, none, 7, 0, 0)
theorem oX12_start : OkV mX12_start 0 := ⟨⟨(tg6 204 rfl rfl), (tg1 14 (by decide +kernel) rfl), by decide +kernel, by decide +kernel⟩, (tg6 203 (by decide +kernel) rfl), (tg0 51 (by decide +kernel) rfl)⟩
abbrev cX12_scan : ByteArray := prog_14_method_10_code
def yX12_scan : MethodName := ⟨RX12, "scan", "()V"⟩
def mX12_scan : MI := (yX12_scan, cX12_scan, 4, none, 6, 0, 0)
theorem oX12_scan : OkV mX12_scan 0 := ⟨⟨(tg6 208 rfl rfl), (tg1 14 (by decide +kernel) rfl), by decide +kernel, by decide +kernel⟩, (tg6 207 (by decide +kernel) rfl), (tg0 52 (by decide +kernel) rfl)⟩
abbrev cX12_byteAt : ByteArray := prog_14_method_6_code
def yX12_byteAt : MethodName := ⟨RX12, "byteAt", "(I)I"⟩
def mX12_byteAt : MI := (yX12_byteAt, cX12_byteAt, 2, (some .int), 0, 0, 0)
theorem oX12_byteAt : OkV mX12_byteAt 1 := ⟨⟨(tg6 212 rfl rfl), (tg1 14 (by decide +kernel) rfl), by decide +kernel, by decide +kernel⟩, (tg6 211 (by decide +kernel) rfl), (tg0 53 (by decide +kernel) rfl)⟩
abbrev cX12_isSmall : ByteArray := prog_14_method_7_code
def yX12_isSmall : MethodName := ⟨RX12, "isSmall", "(I)Z"⟩
def mX12_isSmall : MI := (yX12_isSmall, cX12_isSmall, 1, (some .boolean), 0, 0, 0)
theorem oX12_isSmall : OkS mX12_isSmall 1 := ⟨⟨(tg6 215 rfl rfl), (tg1 14 (by decide +kernel) rfl), by decide +kernel, by decide +kernel⟩, (tg6 214 (by decide +kernel) rfl)⟩
abbrev cX12_keyAt : ByteArray := prog_14_method_9_code
def yX12_keyAt : MethodName := ⟨RX12, "keyAt", "(II)I"⟩
def mX12_keyAt : MI := (yX12_keyAt, cX12_keyAt, 8, (some .int), 5, 0, 0)
theorem oX12_keyAt : OkV mX12_keyAt 2 := ⟨⟨(tg6 219 rfl rfl), (tg1 14 (by decide +kernel) rfl), by decide +kernel, by decide +kernel⟩, (tg6 218 (by decide +kernel) rfl), (tg0 54 (by decide +kernel) rfl)⟩
abbrev cX12_isDigit : ByteArray := prog_14_method_8_code
def yX12_isDigit : MethodName := ⟨RX12, "isDigit", "(I)Z"⟩
def mX12_isDigit : MI := (yX12_isDigit, cX12_isDigit, 1, (some .boolean), 0, 0, 0)
theorem oX12_isDigit : OkS mX12_isDigit 1 := ⟨⟨(tg6 225 rfl rfl), (tg1 14 (by decide +kernel) rfl), by decide +kernel, by decide +kernel⟩, (tg6 224 (by decide +kernel) rfl)⟩
abbrev cX12_readClause : ByteArray := prog_14_method_28_code
def yX12_readClause : MethodName := ⟨RX12, "readClause", "()Z"⟩
def mX12_readClause : MI := (yX12_readClause, cX12_readClause, 2, (some .boolean), 10, 0, 0)
theorem oX12_readClause : OkV mX12_readClause 0 := ⟨⟨(tg6 229 rfl rfl), (tg1 14 (by decide +kernel) rfl), by decide +kernel, by decide +kernel⟩, (tg6 228 (by decide +kernel) rfl), (tg0 55 (by decide +kernel) rfl)⟩
abbrev cX12_readSheet : ByteArray := prog_14_method_20_code
def yX12_readSheet : MethodName := ⟨RX12, "readSheet", "()Z"⟩
def mX12_readSheet : MI := (yX12_readSheet, cX12_readSheet, 1, (some .boolean), 8, 0, 0)
theorem oX12_readSheet : OkV mX12_readSheet 0 := ⟨⟨(tg6 233 rfl rfl), (tg1 14 (by decide +kernel) rfl), by decide +kernel, by decide +kernel⟩, (tg6 232 (by decide +kernel) rfl), (tg0 56 (by decide +kernel) rfl)⟩
abbrev cX12_isAgain : ByteArray := prog_14_method_19_code
def yX12_isAgain : MethodName := ⟨RX12, "isAgain", "(I)Z"⟩
def mX12_isAgain : MI := (yX12_isAgain, cX12_isAgain, 3, (some .boolean), 0, 0, 0)
theorem oX12_isAgain : OkV mX12_isAgain 1 := ⟨⟨(tg6 237 rfl rfl), (tg1 14 (by decide +kernel) rfl), by decide +kernel, by decide +kernel⟩, (tg6 236 (by decide +kernel) rfl), (tg0 57 (by decide +kernel) rfl)⟩
abbrev cX12_fails : ByteArray := prog_14_method_12_code
def yX12_fails : MethodName := ⟨RX12, "fails", "(I)Z"⟩
def mX12_fails : MI := (yX12_fails, cX12_fails, 2, (some .boolean), 0, 0, 0)
theorem oX12_fails : OkV mX12_fails 1 := ⟨⟨(tg7 1 rfl rfl), (tg1 14 (by decide +kernel) rfl), by decide +kernel, by decide +kernel⟩, (tg7 0 (by decide +kernel) rfl), (tg0 58 (by decide +kernel) rfl)⟩
abbrev cX12_readNumber : ByteArray := prog_14_method_13_code
def yX12_readNumber : MethodName := ⟨RX12, "readNumbe\x72", "(II)Z"⟩
def mX12_readNumber : MI := (yX12_readNumber, cX12_readNumber, 3, (some .boolean), 7, 0, 0)
theorem oX12_readNumber : OkV mX12_readNumber 2 := ⟨⟨(tg7 5 rfl rfl), (tg1 14 (by decide +kernel) rfl), by decide +kernel, by decide +kernel⟩, (tg7 4 (by decide +kernel) rfl), (tg0 59 (by decide +kernel) rfl)⟩
abbrev cX12_in : ByteArray := prog_14_method_2_code
def yX12_in : MethodName := ⟨RX12, "in", "(III)Z"⟩
def mX12_in : MI := (yX12_in, cX12_in, 3, (some .boolean), 0, 0, 0)
theorem oX12_in : OkS mX12_in 3 := ⟨⟨(tg7 8 rfl rfl), (tg1 14 (by decide +kernel) rfl), by decide +kernel, by decide +kernel⟩, (tg7 7 (by decide +kernel) rfl)⟩
abbrev cX12_readMark : ByteArray := prog_14_method_21_code
def yX12_readMark : MethodName := ⟨RX12, "readMark", "()Z"⟩
def mX12_readMark : MI := (yX12_readMark, cX12_readMark, 2, (some .boolean), 8, 0, 0)
theorem oX12_readMark : OkV mX12_readMark 0 := ⟨⟨(tg7 12 rfl rfl), (tg1 14 (by decide +kernel) rfl), by decide +kernel, by decide +kernel⟩, (tg7 11 (by decide +kernel) rfl), (tg0 60 (by decide +kernel) rfl)⟩
abbrev cX12_readOne : ByteArray := prog_14_method_22_code
def yX12_readOne : MethodName := ⟨RX12, "readOne", "(III)Z"⟩
def mX12_readOne : MI := (yX12_readOne, cX12_readOne, 4, (some .boolean), 8, 0, 0)
theorem oX12_readOne : OkV mX12_readOne 3 := ⟨⟨(tg7 16 rfl rfl), (tg1 14 (by decide +kernel) rfl), by decide +kernel, by decide +kernel⟩, (tg7 15 (by decide +kernel) rfl), (tg0 61 (by decide +kernel) rfl)⟩
abbrev cX12_readScrew : ByteArray := prog_14_method_24_code
def yX12_readScrew : MethodName := ⟨RX12, "readScrew", "()Z"⟩
def mX12_readScrew : MI := (yX12_readScrew, cX12_readScrew, 4, (some .boolean), 9, 0, 0)
theorem oX12_readScrew : OkV mX12_readScrew 0 := ⟨⟨(tg7 20 rfl rfl), (tg1 14 (by decide +kernel) rfl), by decide +kernel, by decide +kernel⟩, (tg7 19 (by decide +kernel) rfl), (tg0 62 (by decide +kernel) rfl)⟩
abbrev cX12_isInk : ByteArray := prog_14_method_23_code
def yX12_isInk : MethodName := ⟨RX12, "isInk", "()Z"⟩
def mX12_isInk : MI := (yX12_isInk, cX12_isInk, 1, (some .boolean), 1, 0, 0)
theorem oX12_isInk : OkV mX12_isInk 0 := ⟨⟨(tg7 24 rfl rfl), (tg1 14 (by decide +kernel) rfl), by decide +kernel, by decide +kernel⟩, (tg7 23 (by decide +kernel) rfl), (tg0 63 (by decide +kernel) rfl)⟩
abbrev cX12_readSigned : ByteArray := prog_14_method_14_code
def yX12_readSigned : MethodName := ⟨RX12, "readSigned", "(I)Z"⟩
def mX12_readSigned : MI := (yX12_readSigned, cX12_readSigned, 3, (some .boolean), 8, 0, 0)
theorem oX12_readSigned : OkV mX12_readSigned 1 := ⟨⟨(tg7 28 rfl rfl), (tg1 14 (by decide +kernel) rfl), by decide +kernel, by decide +kernel⟩, (tg7 27 (by decide +kernel) rfl), (tg0 64 (by decide +kernel) rfl)⟩
abbrev cX12_readBox : ByteArray := prog_14_method_25_code
def yX12_readBox : MethodName := ⟨RX12, "readBox", "()Z"⟩
def mX12_readBox : MI := (yX12_readBox, cX12_readBox, 6, (some .boolean), 8, 0, 0)
theorem oX12_readBox : OkV mX12_readBox 0 := ⟨⟨(tg7 32 rfl rfl), (tg1 14 (by decide +kernel) rfl), by decide +kernel, by decide +kernel⟩, (tg7 31 (by decide +kernel) rfl), (tg0 65 (by decide +kernel) rfl)⟩
abbrev cX12_readScreen : ByteArray := prog_14_method_26_code
def yX12_readScreen : MethodName := ⟨RX12, "readScreen", "()Z"⟩
def mX12_readScreen : MI := (yX12_readScreen, cX12_readScreen, 2, (some .boolean), 8, 0, 0)
theorem oX12_readScreen : OkV mX12_readScreen 0 := ⟨⟨(tg7 37 rfl rfl), (tg1 14 (by decide +kernel) rfl), by decide +kernel, by decide +kernel⟩, (tg7 36 (by decide +kernel) rfl), (tg0 66 (by decide +kernel) rfl)⟩
abbrev cX12_readLies : ByteArray := prog_14_method_27_code
def yX12_readLies : MethodName := ⟨RX12, "readLies", "()Z"⟩
def mX12_readLies : MI := (yX12_readLies, cX12_readLies, 3, (some .boolean), 8, 0, 0)
theorem oX12_readLies : OkV mX12_readLies 0 := ⟨⟨(tg7 41 rfl rfl), (tg1 14 (by decide +kernel) rfl), by decide +kernel, by decide +kernel⟩, (tg7 40 (by decide +kernel) rfl), (tg0 67 (by decide +kernel) rfl)⟩
abbrev cX12_told : ByteArray := prog_14_method_30_code
def yX12_told : MethodName := ⟨RX12, "told", "(I)I"⟩
def mX12_told : MI := (yX12_told, cX12_told, 3, (some .int), 1, 0, 0)
theorem oX12_told : OkV mX12_told 1 := ⟨⟨(tg7 45 rfl rfl), (tg1 14 (by decide +kernel) rfl), by decide +kernel, by decide +kernel⟩, (tg7 43 (by decide +kernel) rfl), (tg7 44 (by decide +kernel) rfl)⟩
abbrev cX12_screw : ByteArray := prog_14_method_32_code
def yX12_screw : MethodName := ⟨RX12, "screw", "(III)I"⟩
def mX12_screw : MI := (yX12_screw, cX12_screw, 4, (some .int), 2, 0, 0)
theorem oX12_screw : OkV mX12_screw 3 := ⟨⟨(tg7 49 rfl rfl), (tg1 14 (by decide +kernel) rfl), by decide +kernel, by decide +kernel⟩, (tg7 47 (by decide +kernel) rfl), (tg7 48 (by decide +kernel) rfl)⟩
abbrev cX12_isInkNumber : ByteArray := prog_14_method_31_code
def yX12_isInkNumber : MethodName := ⟨RX12, "isInkNumbe\x72", "(I)Z"⟩
def mX12_isInkNumber : MI := (yX12_isInkNumber, cX12_isInkNumber, 1, (some .boolean), 1, 0, 0)
theorem oX12_isInkNumber : OkS mX12_isInkNumber 1 := ⟨⟨(tg7 52 rfl rfl), (tg1 14 (by decide +kernel) rfl), by decide +kernel, by decide +kernel⟩, (tg7 51 (by decide +kernel) rfl)⟩
abbrev cX12_shift : ByteArray := prog_14_method_36_code
def yX12_shift : MethodName := ⟨RX12, "shift", "(IIIIIII)I"⟩
def mX12_shift : MI := (yX12_shift, cX12_shift, 8, (some .int), 2, 0, 0)
theorem oX12_shift : OkV mX12_shift 7 := ⟨⟨(tg7 56 rfl rfl), (tg1 14 (by decide +kernel) rfl), by decide +kernel, by decide +kernel⟩, (tg7 54 (by decide +kernel) rfl), (tg7 55 (by decide +kernel) rfl)⟩
abbrev cX12_isSlip : ByteArray := prog_14_method_33_code
def yX12_isSlip : MethodName := ⟨RX12, "isSlip", "(IIII)Z"⟩
def mX12_isSlip : MI := (yX12_isSlip, cX12_isSlip, 4, (some .boolean), 1, 0, 0)
theorem oX12_isSlip : OkS mX12_isSlip 4 := ⟨⟨(tg7 59 rfl rfl), (tg1 14 (by decide +kernel) rfl), by decide +kernel, by decide +kernel⟩, (tg7 58 (by decide +kernel) rfl)⟩
abbrev cX12_acrossAt : ByteArray := prog_14_method_34_code
def yX12_acrossAt : MethodName := ⟨RX12, "acrossAt", "(IIIII)I"⟩
def mX12_acrossAt : MI := (yX12_acrossAt, cX12_acrossAt, 5, (some .int), 0, 0, 0)
theorem oX12_acrossAt : OkS mX12_acrossAt 5 := ⟨⟨(tg7 62 rfl rfl), (tg1 14 (by decide +kernel) rfl), by decide +kernel, by decide +kernel⟩, (tg7 61 (by decide +kernel) rfl)⟩
abbrev cX12_upAt : ByteArray := prog_14_method_35_code
def yX12_upAt : MethodName := ⟨RX12, "upAt", "(IIIII)I"⟩
def mX12_upAt : MI := (yX12_upAt, cX12_upAt, 5, (some .int), 0, 0, 0)
theorem oX12_upAt : OkS mX12_upAt 5 := ⟨⟨(tg7 65 rfl rfl), (tg1 14 (by decide +kernel) rfl), by decide +kernel, by decide +kernel⟩, (tg7 64 (by decide +kernel) rfl)⟩
abbrev cX12_read : ByteArray := prog_14_method_37_code
def yX12_read : MethodName := ⟨RX12, "read", "(IIIII)I"⟩
def mX12_read : MI := (yX12_read, cX12_read, 6, (some .int), 2, 0, 0)
theorem oX12_read : OkV mX12_read 5 := ⟨⟨(tg7 69 rfl rfl), (tg1 14 (by decide +kernel) rfl), by decide +kernel, by decide +kernel⟩, (tg7 67 (by decide +kernel) rfl), (tg7 68 (by decide +kernel) rfl)⟩
abbrev cX12_right : ByteArray := prog_14_method_38_code
def yX12_right : MethodName := ⟨RX12, "right", "(IIII)I"⟩
def mX12_right : MI := (yX12_right, cX12_right, 7, (some .int), 1, 0, 0)
theorem oX12_right : OkV mX12_right 4 := ⟨⟨(tg7 73 rfl rfl), (tg1 14 (by decide +kernel) rfl), by decide +kernel, by decide +kernel⟩, (tg7 71 (by decide +kernel) rfl), (tg7 72 (by decide +kernel) rfl)⟩
abbrev cX12_fit : ByteArray := prog_14_method_43_code
def yX12_fit : MethodName := ⟨RX12, "fit", "(III)I"⟩
def mX12_fit : MI := (yX12_fit, cX12_fit, 4, (some .int), 3, 0, 0)
theorem oX12_fit : OkV mX12_fit 3 := ⟨⟨(tg7 77 rfl rfl), (tg1 14 (by decide +kernel) rfl), by decide +kernel, by decide +kernel⟩, (tg7 75 (by decide +kernel) rfl), (tg7 76 (by decide +kernel) rfl)⟩
abbrev cX12_makeFits : ByteArray := prog_14_method_42_code
def yX12_makeFits : MethodName := ⟨RX12, "makeFits", "(II)V"⟩
def mX12_makeFits : MI := (yX12_makeFits, cX12_makeFits, 7, none, 2, 0, 0)
theorem oX12_makeFits : OkV mX12_makeFits 2 := ⟨⟨(tg7 81 rfl rfl), (tg1 14 (by decide +kernel) rfl), by decide +kernel, by decide +kernel⟩, (tg7 80 (by decide +kernel) rfl), (tg0 68 (by decide +kernel) rfl)⟩
abbrev cX12_ask : ByteArray := prog_14_method_39_code
def yX12_ask : MethodName := ⟨RX12, "ask", "(II)V"⟩
def mX12_ask : MI := (yX12_ask, cX12_ask, 5, none, 0, 0, 0)
theorem oX12_ask : OkV mX12_ask 2 := ⟨⟨(tg7 85 rfl rfl), (tg1 14 (by decide +kernel) rfl), by decide +kernel, by decide +kernel⟩, (tg7 84 (by decide +kernel) rfl), (tg0 69 (by decide +kernel) rfl)⟩
abbrev cX12_isFit : ByteArray := prog_14_method_40_code
def yX12_isFit : MethodName := ⟨RX12, "isFit", "(IIII)Z"⟩
def mX12_isFit : MI := (yX12_isFit, cX12_isFit, 6, (some .boolean), 1, 0, 0)
theorem oX12_isFit : OkV mX12_isFit 4 := ⟨⟨(tg7 89 rfl rfl), (tg1 14 (by decide +kernel) rfl), by decide +kernel, by decide +kernel⟩, (tg7 88 (by decide +kernel) rfl), (tg0 70 (by decide +kernel) rfl)⟩
abbrev cX12_plain : ByteArray := prog_14_method_3_code
def yX12_plain : MethodName := ⟨RX12, "plain", "(I)I"⟩
def mX12_plain : MI := (yX12_plain, cX12_plain, 1, (some .int), 0, 0, 0)
theorem oX12_plain : OkS mX12_plain 1 := ⟨⟨(tg7 92 rfl rfl), (tg1 14 (by decide +kernel) rfl), by decide +kernel, by decide +kernel⟩, (tg7 91 (by decide +kernel) rfl)⟩
abbrev cX12_note : ByteArray := prog_14_method_41_code
def yX12_note : MethodName := ⟨RX12, "note", "(II)V"⟩
def mX12_note : MI := (yX12_note, cX12_note, 3, none, 0, 0, 0)
theorem oX12_note : OkV mX12_note 2 := ⟨⟨(tg7 96 rfl rfl), (tg1 14 (by decide +kernel) rfl), by decide +kernel, by decide +kernel⟩, (tg7 95 (by decide +kernel) rfl), (tg0 71 (by decide +kernel) rfl)⟩
abbrev cX12_sure : ByteArray := prog_14_method_44_code
def yX12_sure : MethodName := ⟨RX12, "sure", "(II)I"⟩
def mX12_sure : MI := (yX12_sure, cX12_sure, 5, (some .int), 3, 0, 0)
theorem oX12_sure : OkV mX12_sure 2 := ⟨⟨(tg7 100 rfl rfl), (tg1 14 (by decide +kernel) rfl), by decide +kernel, by decide +kernel⟩, (tg7 98 (by decide +kernel) rfl), (tg7 99 (by decide +kernel) rfl)⟩
abbrev cX12_mend : ByteArray := prog_14_method_46_code
def yX12_mend : MethodName := ⟨RX12, "mend", "(IIIII)I"⟩
def mX12_mend : MI := (yX12_mend, cX12_mend, 19, (some .int), 2, 0, 0)
theorem oX12_mend : OkV mX12_mend 5 := ⟨⟨(tg7 104 rfl rfl), (tg1 14 (by decide +kernel) rfl), by decide +kernel, by decide +kernel⟩, (tg7 102 (by decide +kernel) rfl), (tg7 103 (by decide +kernel) rfl)⟩
abbrev cX12_badOf : ByteArray := prog_14_method_45_code
def yX12_badOf : MethodName := ⟨RX12, "badOf", "(IIII)I"⟩
def mX12_badOf : MI := (yX12_badOf, cX12_badOf, 9, (some .int), 1, 0, 0)
theorem oX12_badOf : OkV mX12_badOf 4 := ⟨⟨(tg7 108 rfl rfl), (tg1 14 (by decide +kernel) rfl), by decide +kernel, by decide +kernel⟩, (tg7 107 (by decide +kernel) rfl), (tg0 72 (by decide +kernel) rfl)⟩
abbrev cX12_turned : ByteArray := prog_14_method_47_code
def yX12_turned : MethodName := ⟨RX12, "turned", "(I)I"⟩
def mX12_turned : MI := (yX12_turned, cX12_turned, 2, (some .int), 1, 0, 0)
theorem oX12_turned : OkV mX12_turned 1 := ⟨⟨(tg7 112 rfl rfl), (tg1 14 (by decide +kernel) rfl), by decide +kernel, by decide +kernel⟩, (tg7 110 (by decide +kernel) rfl), (tg7 111 (by decide +kernel) rfl)⟩
abbrev cX12_pulled : ByteArray := prog_14_method_48_code
def yX12_pulled : MethodName := ⟨RX12, "pulled", "(II)I"⟩
def mX12_pulled : MI := (yX12_pulled, cX12_pulled, 3, (some .int), 1, 0, 0)
theorem oX12_pulled : OkV mX12_pulled 2 := ⟨⟨(tg7 116 rfl rfl), (tg1 14 (by decide +kernel) rfl), by decide +kernel, by decide +kernel⟩, (tg7 114 (by decide +kernel) rfl), (tg7 115 (by decide +kernel) rfl)⟩
abbrev cX12_shape : ByteArray := prog_14_method_53_code
def yX12_shape : MethodName := ⟨RX12, "shape", "(III)I"⟩
def mX12_shape : MI := (yX12_shape, cX12_shape, 4, (some .int), 2, 0, 0)
theorem oX12_shape : OkV mX12_shape 3 := ⟨⟨(tg7 120 rfl rfl), (tg1 14 (by decide +kernel) rfl), by decide +kernel, by decide +kernel⟩, (tg7 118 (by decide +kernel) rfl), (tg7 119 (by decide +kernel) rfl)⟩
abbrev cX12_spreadTo : ByteArray := prog_14_method_49_code
def yX12_spreadTo : MethodName := ⟨RX12, "spreadTo", "(III)V"⟩
def mX12_spreadTo : MI := (yX12_spreadTo, cX12_spreadTo, 11, none, 1, 0, 0)
theorem oX12_spreadTo : OkV mX12_spreadTo 3 := ⟨⟨(tg7 124 rfl rfl), (tg1 14 (by decide +kernel) rfl), by decide +kernel, by decide +kernel⟩, (tg7 123 (by decide +kernel) rfl), (tg0 73 (by decide +kernel) rfl)⟩
abbrev cX12_seen : ByteArray := prog_14_method_56_code
def yX12_seen : MethodName := ⟨RX12, "seen", "(IIIIIII)I"⟩
def mX12_seen : MI := (yX12_seen, cX12_seen, 9, (some .int), 3, 0, 0)
theorem oX12_seen : OkV mX12_seen 7 := ⟨⟨(tg7 129 rfl rfl), (tg1 14 (by decide +kernel) rfl), by decide +kernel, by decide +kernel⟩, (tg7 127 (by decide +kernel) rfl), (tg7 128 (by decide +kernel) rfl)⟩
abbrev cX12_isPair : ByteArray := prog_14_method_54_code
def yX12_isPair : MethodName := ⟨RX12, "isPai\x72", "(II)Z"⟩
def mX12_isPair : MI := (yX12_isPair, cX12_isPair, 2, (some .boolean), 2, 0, 0)
theorem oX12_isPair : OkS mX12_isPair 2 := ⟨⟨(tg7 132 rfl rfl), (tg1 14 (by decide +kernel) rfl), by decide +kernel, by decide +kernel⟩, (tg7 131 (by decide +kernel) rfl)⟩
abbrev cX12_look : ByteArray := prog_14_method_55_code
def yX12_look : MethodName := ⟨RX12, "look", "(IIIIII)I"⟩
def mX12_look : MI := (yX12_look, cX12_look, 10, (some .int), 2, 0, 0)
theorem oX12_look : OkV mX12_look 6 := ⟨⟨(tg7 136 rfl rfl), (tg1 14 (by decide +kernel) rfl), by decide +kernel, by decide +kernel⟩, (tg7 135 (by decide +kernel) rfl), (tg0 74 (by decide +kernel) rfl)⟩
abbrev cX12_carry : ByteArray := prog_14_method_51_code
def yX12_carry : MethodName := ⟨RX12, "carry", "(III)V"⟩
def mX12_carry : MI := (yX12_carry, cX12_carry, 5, none, 1, 0, 0)
theorem oX12_carry : OkV mX12_carry 3 := ⟨⟨(tg7 140 rfl rfl), (tg1 14 (by decide +kernel) rfl), by decide +kernel, by decide +kernel⟩, (tg7 139 (by decide +kernel) rfl), (tg0 75 (by decide +kernel) rfl)⟩
abbrev cX12_shiftedRow : ByteArray := prog_14_method_50_code
def yX12_shiftedRow : MethodName := ⟨RX12, "shiftedRow", "(II)I"⟩
def mX12_shiftedRow : MI := (yX12_shiftedRow, cX12_shiftedRow, 2, (some .int), 0, 0, 0)
theorem oX12_shiftedRow : OkS mX12_shiftedRow 2 := ⟨⟨(tg7 143 rfl rfl), (tg1 14 (by decide +kernel) rfl), by decide +kernel, by decide +kernel⟩, (tg7 142 (by decide +kernel) rfl)⟩
abbrev cX12_bits : ByteArray := prog_14_method_52_code
def yX12_bits : MethodName := ⟨RX12, "bits", "(I)I"⟩
def mX12_bits : MI := (yX12_bits, cX12_bits, 3, (some .int), 0, 0, 0)
theorem oX12_bits : OkS mX12_bits 1 := ⟨⟨(tg7 146 rfl rfl), (tg1 14 (by decide +kernel) rfl), by decide +kernel, by decide +kernel⟩, (tg7 145 (by decide +kernel) rfl)⟩
abbrev cX12_worst : ByteArray := prog_14_method_58_code
def yX12_worst : MethodName := ⟨RX12, "worst", "(IIIII)I"⟩
def mX12_worst : MI := (yX12_worst, cX12_worst, 6, (some .int), 4, 0, 0)
theorem oX12_worst : OkV mX12_worst 5 := ⟨⟨(tg7 150 rfl rfl), (tg1 14 (by decide +kernel) rfl), by decide +kernel, by decide +kernel⟩, (tg7 148 (by decide +kernel) rfl), (tg7 149 (by decide +kernel) rfl)⟩
abbrev cX12_worstOf : ByteArray := prog_14_method_57_code
def yX12_worstOf : MethodName := ⟨RX12, "worstOf", "(IIIII)I"⟩
def mX12_worstOf : MI := (yX12_worstOf, cX12_worstOf, 10, (some .int), 3, 0, 0)
theorem oX12_worstOf : OkV mX12_worstOf 5 := ⟨⟨(tg7 154 rfl rfl), (tg1 14 (by decide +kernel) rfl), by decide +kernel, by decide +kernel⟩, (tg7 153 (by decide +kernel) rfl), (tg0 76 (by decide +kernel) rfl)⟩
abbrev cX12_best : ByteArray := prog_14_method_59_code
def yX12_best : MethodName := ⟨RX12, "best", "(III)I"⟩
def mX12_best : MI := (yX12_best, cX12_best, 9, (some .int), 4, 0, 0)
theorem oX12_best : OkV mX12_best 3 := ⟨⟨(tg7 158 rfl rfl), (tg1 14 (by decide +kernel) rfl), by decide +kernel, by decide +kernel⟩, (tg7 156 (by decide +kernel) rfl), (tg7 157 (by decide +kernel) rfl)⟩
abbrev cX12_spread : ByteArray := prog_14_method_60_code
def yX12_spread : MethodName := ⟨RX12, "spread", "(I)I"⟩
def mX12_spread : MI := (yX12_spread, cX12_spread, 2, (some .int), 0, 0, 0)
theorem oX12_spread : OkV mX12_spread 1 := ⟨⟨(tg7 162 rfl rfl), (tg1 14 (by decide +kernel) rfl), by decide +kernel, by decide +kernel⟩, (tg7 160 (by decide +kernel) rfl), (tg7 161 (by decide +kernel) rfl)⟩
abbrev cX12_sign : ByteArray := prog_14_method_61_code
def yX12_sign : MethodName := ⟨RX12, "sign", "()I"⟩
def mX12_sign : MI := (yX12_sign, cX12_sign, 3, (some .int), 1, 0, 0)
theorem oX12_sign : OkV mX12_sign 0 := ⟨⟨(tg7 166 rfl rfl), (tg1 14 (by decide +kernel) rfl), by decide +kernel, by decide +kernel⟩, (tg7 164 (by decide +kernel) rfl), (tg7 165 (by decide +kernel) rfl)⟩
abbrev cX12_held : ByteArray := prog_14_method_63_code
def yX12_held : MethodName := ⟨RX12, "held", "(IIII)I"⟩
def mX12_held : MI := (yX12_held, cX12_held, 8, (some .int), 2, 0, 0)
theorem oX12_held : OkV mX12_held 4 := ⟨⟨(tg7 170 rfl rfl), (tg1 14 (by decide +kernel) rfl), by decide +kernel, by decide +kernel⟩, (tg7 168 (by decide +kernel) rfl), (tg7 169 (by decide +kernel) rfl)⟩
abbrev cX12_heldRow : ByteArray := prog_14_method_62_code
def yX12_heldRow : MethodName := ⟨RX12, "heldRow", "(III)I"⟩
def mX12_heldRow : MI := (yX12_heldRow, cX12_heldRow, 5, (some .int), 1, 0, 0)
theorem oX12_heldRow : OkV mX12_heldRow 3 := ⟨⟨(tg7 174 rfl rfl), (tg1 14 (by decide +kernel) rfl), by decide +kernel, by decide +kernel⟩, (tg7 173 (by decide +kernel) rfl), (tg0 77 (by decide +kernel) rfl)⟩
abbrev cX12_causes : ByteArray := prog_14_method_65_code
def yX12_causes : MethodName := ⟨RX12, "causes", "(I)I"⟩
def mX12_causes : MI := (yX12_causes, cX12_causes, 5, (some .int), 8, 0, 0)
theorem oX12_causes : OkV mX12_causes 1 := ⟨⟨(tg7 178 rfl rfl), (tg1 14 (by decide +kernel) rfl), by decide +kernel, by decide +kernel⟩, (tg7 176 (by decide +kernel) rfl), (tg7 177 (by decide +kernel) rfl)⟩
abbrev cX12_isLevel : ByteArray := prog_14_method_64_code
def yX12_isLevel : MethodName := ⟨RX12, "isLevel", "(IIII)Z"⟩
def mX12_isLevel : MI := (yX12_isLevel, cX12_isLevel, 9, (some .boolean), 0, 0, 0)
theorem oX12_isLevel : OkV mX12_isLevel 4 := ⟨⟨(tg7 182 rfl rfl), (tg1 14 (by decide +kernel) rfl), by decide +kernel, by decide +kernel⟩, (tg7 181 (by decide +kernel) rfl), (tg0 78 (by decide +kernel) rfl)⟩
abbrev cX12_cost : ByteArray := prog_14_method_69_code
def yX12_cost : MethodName := ⟨RX12, "cost", "(IIIIII)J"⟩
def mX12_cost : MI := (yX12_cost, cX12_cost, 13, (some .long), 2, 0, 0)
theorem oX12_cost : OkV mX12_cost 6 := ⟨⟨(tg7 186 rfl rfl), (tg1 14 (by decide +kernel) rfl), by decide +kernel, by decide +kernel⟩, (tg7 184 (by decide +kernel) rfl), (tg7 185 (by decide +kernel) rfl)⟩
abbrev cX12_isHalting : ByteArray := prog_14_method_66_code
def yX12_isHalting : MethodName := ⟨RX12, "isHalting", "(IIIIII)Z"⟩
def mX12_isHalting : MI := (yX12_isHalting, cX12_isHalting, 6, (some .boolean), 1, 0, 0)
theorem oX12_isHalting : OkS mX12_isHalting 6 := ⟨⟨(tg7 189 rfl rfl), (tg1 14 (by decide +kernel) rfl), by decide +kernel, by decide +kernel⟩, (tg7 188 (by decide +kernel) rfl)⟩
abbrev cX12_makeMeans : ByteArray := prog_14_method_68_code
def yX12_makeMeans : MethodName := ⟨RX12, "makeMeans", "(IIIII)J"⟩
def mX12_makeMeans : MI := (yX12_makeMeans, cX12_makeMeans, 14, (some .long), 1, 0, 0)
theorem oX12_makeMeans : OkV mX12_makeMeans 5 := ⟨⟨(tg7 194 rfl rfl), (tg1 14 (by decide +kernel) rfl), by decide +kernel, by decide +kernel⟩, (tg7 193 (by decide +kernel) rfl), (tg0 79 (by decide +kernel) rfl)⟩
abbrev cX12_goOn : ByteArray := prog_14_method_67_code
def yX12_goOn : MethodName := ⟨RX12, "goOn", "(IJIII)J"⟩
def mX12_goOn : MI := (yX12_goOn, cX12_goOn, 7, (some .long), 0, 0, 0)
theorem oX12_goOn : OkV mX12_goOn 5 := ⟨⟨(tg7 199 rfl rfl), (tg1 14 (by decide +kernel) rfl), by decide +kernel, by decide +kernel⟩, (tg7 198 (by decide +kernel) rfl), (tg0 80 (by decide +kernel) rfl)⟩
abbrev cX12_halt : ByteArray := prog_14_method_70_code
def yX12_halt : MethodName := ⟨RX12, "halt", "(IIIIII)I"⟩
def mX12_halt : MI := (yX12_halt, cX12_halt, 9, (some .int), 2, 0, 0)
theorem oX12_halt : OkV mX12_halt 6 := ⟨⟨(tg7 203 rfl rfl), (tg1 14 (by decide +kernel) rfl), by decide +kernel, by decide +kernel⟩, (tg7 201 (by decide +kernel) rfl), (tg7 202 (by decide +kernel) rfl)⟩
abbrev cX12_tissue : ByteArray := prog_14_method_71_code
def yX12_tissue : MethodName := ⟨RX12, "tissue", "(III)I"⟩
def mX12_tissue : MI := (yX12_tissue, cX12_tissue, 11, (some .int), 8, 0, 0)
theorem oX12_tissue : OkV mX12_tissue 3 := ⟨⟨(tg7 207 rfl rfl), (tg1 14 (by decide +kernel) rfl), by decide +kernel, by decide +kernel⟩, (tg7 205 (by decide +kernel) rfl), (tg7 206 (by decide +kernel) rfl)⟩
abbrev cX12_layers : ByteArray := prog_14_method_72_code
def yX12_layers : MethodName := ⟨RX12, "layers", "(I)I"⟩
def mX12_layers : MI := (yX12_layers, cX12_layers, 4, (some .int), 1, 0, 0)
theorem oX12_layers : OkV mX12_layers 1 := ⟨⟨(tg7 212 rfl rfl), (tg1 14 (by decide +kernel) rfl), by decide +kernel, by decide +kernel⟩, (tg7 210 (by decide +kernel) rfl), (tg7 211 (by decide +kernel) rfl)⟩
abbrev cX12_beat : ByteArray := prog_14_method_75_code
def yX12_beat : MethodName := ⟨RX12, "beat", "(II)I"⟩
def mX12_beat : MI := (yX12_beat, cX12_beat, 3, (some .int), 2, 0, 0)
theorem oX12_beat : OkV mX12_beat 2 := ⟨⟨(tg7 216 rfl rfl), (tg1 14 (by decide +kernel) rfl), by decide +kernel, by decide +kernel⟩, (tg7 214 (by decide +kernel) rfl), (tg7 215 (by decide +kernel) rfl)⟩
abbrev cX12_beatOf : ByteArray := prog_14_method_74_code
def yX12_beatOf : MethodName := ⟨RX12, "beatOf", "(II)I"⟩
def mX12_beatOf : MI := (yX12_beatOf, cX12_beatOf, 9, (some .int), 1, 0, 0)
theorem oX12_beatOf : OkV mX12_beatOf 2 := ⟨⟨(tg7 220 rfl rfl), (tg1 14 (by decide +kernel) rfl), by decide +kernel, by decide +kernel⟩, (tg7 219 (by decide +kernel) rfl), (tg0 81 (by decide +kernel) rfl)⟩
abbrev cX12_square : ByteArray := prog_14_method_73_code
def yX12_square : MethodName := ⟨RX12, "square", "(II)I"⟩
def mX12_square : MI := (yX12_square, cX12_square, 2, (some .int), 0, 0, 0)
theorem oX12_square : OkS mX12_square 2 := ⟨⟨(tg7 223 rfl rfl), (tg1 14 (by decide +kernel) rfl), by decide +kernel, by decide +kernel⟩, (tg7 222 (by decide +kernel) rfl)⟩
abbrev cX12_setting : ByteArray := prog_14_method_76_code
def yX12_setting : MethodName := ⟨RX12, "setting", "(I)I"⟩
def mX12_setting : MI := (yX12_setting, cX12_setting, 12, (some .int), 2, 0, 0)
theorem oX12_setting : OkV mX12_setting 1 := ⟨⟨(tg7 227 rfl rfl), (tg1 14 (by decide +kernel) rfl), by decide +kernel, by decide +kernel⟩, (tg7 225 (by decide +kernel) rfl), (tg7 226 (by decide +kernel) rfl)⟩
abbrev cX12_order : ByteArray := prog_14_method_78_code
def yX12_order : MethodName := ⟨RX12, "orde\x72", "(I)I"⟩
def mX12_order : MI := (yX12_order, cX12_order, 6, (some .int), 2, 0, 0)
theorem oX12_order : OkV mX12_order 1 := ⟨⟨(tg7 231 rfl rfl), (tg1 14 (by decide +kernel) rfl), by decide +kernel, by decide +kernel⟩, (tg7 229 (by decide +kernel) rfl), (tg7 230 (by decide +kernel) rfl)⟩
abbrev cX12_sumOf : ByteArray := prog_14_method_77_code
def yX12_sumOf : MethodName := ⟨RX12, "sumOf", "(I)I"⟩
def mX12_sumOf : MI := (yX12_sumOf, cX12_sumOf, 8, (some .int), 1, 0, 0)
theorem oX12_sumOf : OkV mX12_sumOf 1 := ⟨⟨(tg7 235 rfl rfl), (tg1 14 (by decide +kernel) rfl), by decide +kernel, by decide +kernel⟩, (tg7 234 (by decide +kernel) rfl), (tg0 82 (by decide +kernel) rfl)⟩
abbrev cX12_sum : ByteArray := prog_14_method_79_code
def yX12_sum : MethodName := ⟨RX12, "sum", "(I)I"⟩
def mX12_sum : MI := (yX12_sum, cX12_sum, 3, (some .int), 2, 0, 0)
theorem oX12_sum : OkV mX12_sum 1 := ⟨⟨(tg7 239 rfl rfl), (tg1 14 (by decide +kernel) rfl), by decide +kernel, by decide +kernel⟩, (tg7 237 (by decide +kernel) rfl), (tg7 238 (by decide +kernel) rfl)⟩
abbrev cX12_count : ByteArray := prog_14_method_80_code
def yX12_count : MethodName := ⟨RX12, "count", "(I)I"⟩
def mX12_count : MI := (yX12_count, cX12_count, 2, (some .int), 0, 0, 0)
theorem oX12_count : OkV mX12_count 1 := ⟨⟨(tg8 3 rfl rfl), (tg1 14 (by decide +kernel) rfl), by decide +kernel, by decide +kernel⟩, (tg8 1 (by decide +kernel) rfl), (tg8 2 (by decide +kernel) rfl)⟩
end
section
section FRULES
variable {M : MI} {kc ks pc : Nat} {ls : List (Nat × Value)} {st : List Value} {h : AH} {P : Option Value → AH → Prop}
theorem G0_0 {i r : Nat} (hd : decode M.2.1 pc = .ok (.getfield i, 3)) (hw : Cond.fieldLink M.1.cls i RX0 "words" "[J" ∈ TBG) (ho : isO h 0 r) (kk : Rr M kc ks (pc + 3) ls (.ref (gF h r 0) :: st) h P) : Rr M kc ks pc ls (.ref r :: st) h P := R_getF 0 0 ok0 (by decide) rfl rfl hd hw ho kk
theorem S0_0 {i r x : Nat} (hd : decode M.2.1 pc = .ok (.putfield i, 3)) (hw : Cond.fieldLink M.1.cls i RX0 "words" "[J" ∈ TBG) (hi : M.1.name = "<init>" ∧ RX0 = M.1.cls) (ho : isO h 0 r) (kk : Rr M kc ks (pc + 3) ls st (sF h r 0 x) P) : Rr M kc ks pc ls (.ref x :: .ref r :: st) h P := R_putF (ty := (.array .long)) 0 0 ok0 (by decide) rfl rfl hd hw (Or.inr hi) ho (by decide +kernel) (Or.inr ⟨_, rfl⟩) kk
theorem G1_0 {i r : Nat} (hd : decode M.2.1 pc = .ok (.getfield i, 3)) (hw : Cond.fieldLink M.1.cls i RX1 "size" "I" ∈ TBG) (ho : isO h 1 r) (kk : Rr M kc ks (pc + 3) ls (.int (gI h r 0) :: st) h P) : Rr M kc ks pc ls (.ref r :: st) h P := R_getI 1 0 ok1 (by decide) rfl rfl hd hw ho kk
theorem S1_0 {i r : Nat} {x : Int32} (hd : decode M.2.1 pc = .ok (.putfield i, 3)) (hw : Cond.fieldLink M.1.cls i RX1 "size" "I" ∈ TBG) (ho : isO h 1 r) (kk : Rr M kc ks (pc + 3) ls st (sI h r 0 x) P) : Rr M kc ks pc ls (.int x :: .ref r :: st) h P := R_putI (ty := .int) 1 0 ok1 (by decide) rfl rfl hd hw (Or.inl rfl) ho (by decide +kernel) rfl rfl kk
theorem G1_1 {i r : Nat} (hd : decode M.2.1 pc = .ok (.getfield i, 3)) (hw : Cond.fieldLink M.1.cls i RX1 "x" "[I" ∈ TBG) (ho : isO h 1 r) (kk : Rr M kc ks (pc + 3) ls (.ref (gF h r 1) :: st) h P) : Rr M kc ks pc ls (.ref r :: st) h P := R_getF 1 1 ok1 (by decide) rfl rfl hd hw ho kk
theorem S1_1 {i r x : Nat} (hd : decode M.2.1 pc = .ok (.putfield i, 3)) (hw : Cond.fieldLink M.1.cls i RX1 "x" "[I" ∈ TBG) (hi : M.1.name = "<init>" ∧ RX1 = M.1.cls) (ho : isO h 1 r) (kk : Rr M kc ks (pc + 3) ls st (sF h r 1 x) P) : Rr M kc ks pc ls (.ref x :: .ref r :: st) h P := R_putF (ty := (.array .int)) 1 1 ok1 (by decide) rfl rfl hd hw (Or.inr hi) ho (by decide +kernel) (Or.inr ⟨_, rfl⟩) kk
theorem G1_2 {i r : Nat} (hd : decode M.2.1 pc = .ok (.getfield i, 3)) (hw : Cond.fieldLink M.1.cls i RX1 "y" "[I" ∈ TBG) (ho : isO h 1 r) (kk : Rr M kc ks (pc + 3) ls (.ref (gF h r 2) :: st) h P) : Rr M kc ks pc ls (.ref r :: st) h P := R_getF 1 2 ok1 (by decide) rfl rfl hd hw ho kk
theorem S1_2 {i r x : Nat} (hd : decode M.2.1 pc = .ok (.putfield i, 3)) (hw : Cond.fieldLink M.1.cls i RX1 "y" "[I" ∈ TBG) (hi : M.1.name = "<init>" ∧ RX1 = M.1.cls) (ho : isO h 1 r) (kk : Rr M kc ks (pc + 3) ls st (sF h r 2 x) P) : Rr M kc ks pc ls (.ref x :: .ref r :: st) h P := R_putF (ty := (.array .int)) 1 2 ok1 (by decide) rfl rfl hd hw (Or.inr hi) ho (by decide +kernel) (Or.inr ⟨_, rfl⟩) kk
theorem G1_3 {i r : Nat} (hd : decode M.2.1 pc = .ok (.getfield i, 3)) (hw : Cond.fieldLink M.1.cls i RX1 "across" "[I" ∈ TBG) (ho : isO h 1 r) (kk : Rr M kc ks (pc + 3) ls (.ref (gF h r 3) :: st) h P) : Rr M kc ks pc ls (.ref r :: st) h P := R_getF 1 3 ok1 (by decide) rfl rfl hd hw ho kk
theorem S1_3 {i r x : Nat} (hd : decode M.2.1 pc = .ok (.putfield i, 3)) (hw : Cond.fieldLink M.1.cls i RX1 "across" "[I" ∈ TBG) (hi : M.1.name = "<init>" ∧ RX1 = M.1.cls) (ho : isO h 1 r) (kk : Rr M kc ks (pc + 3) ls st (sF h r 3 x) P) : Rr M kc ks pc ls (.ref x :: .ref r :: st) h P := R_putF (ty := (.array .int)) 1 3 ok1 (by decide) rfl rfl hd hw (Or.inr hi) ho (by decide +kernel) (Or.inr ⟨_, rfl⟩) kk
theorem G1_4 {i r : Nat} (hd : decode M.2.1 pc = .ok (.getfield i, 3)) (hw : Cond.fieldLink M.1.cls i RX1 "up" "[I" ∈ TBG) (ho : isO h 1 r) (kk : Rr M kc ks (pc + 3) ls (.ref (gF h r 4) :: st) h P) : Rr M kc ks pc ls (.ref r :: st) h P := R_getF 1 4 ok1 (by decide) rfl rfl hd hw ho kk
theorem S1_4 {i r x : Nat} (hd : decode M.2.1 pc = .ok (.putfield i, 3)) (hw : Cond.fieldLink M.1.cls i RX1 "up" "[I" ∈ TBG) (hi : M.1.name = "<init>" ∧ RX1 = M.1.cls) (ho : isO h 1 r) (kk : Rr M kc ks (pc + 3) ls st (sF h r 4 x) P) : Rr M kc ks pc ls (.ref x :: .ref r :: st) h P := R_putF (ty := (.array .int)) 1 4 ok1 (by decide) rfl rfl hd hw (Or.inr hi) ho (by decide +kernel) (Or.inr ⟨_, rfl⟩) kk
theorem G1_5 {i r : Nat} (hd : decode M.2.1 pc = .ok (.getfield i, 3)) (hw : Cond.fieldLink M.1.cls i RX1 "leastA" "I" ∈ TBG) (ho : isO h 1 r) (kk : Rr M kc ks (pc + 3) ls (.int (gI h r 5) :: st) h P) : Rr M kc ks pc ls (.ref r :: st) h P := R_getI 1 5 ok1 (by decide) rfl rfl hd hw ho kk
theorem S1_5 {i r : Nat} {x : Int32} (hd : decode M.2.1 pc = .ok (.putfield i, 3)) (hw : Cond.fieldLink M.1.cls i RX1 "leastA" "I" ∈ TBG) (ho : isO h 1 r) (kk : Rr M kc ks (pc + 3) ls st (sI h r 5 x) P) : Rr M kc ks pc ls (.int x :: .ref r :: st) h P := R_putI (ty := .int) 1 5 ok1 (by decide) rfl rfl hd hw (Or.inl rfl) ho (by decide +kernel) rfl rfl kk
theorem G1_6 {i r : Nat} (hd : decode M.2.1 pc = .ok (.getfield i, 3)) (hw : Cond.fieldLink M.1.cls i RX1 "greatestA" "I" ∈ TBG) (ho : isO h 1 r) (kk : Rr M kc ks (pc + 3) ls (.int (gI h r 6) :: st) h P) : Rr M kc ks pc ls (.ref r :: st) h P := R_getI 1 6 ok1 (by decide) rfl rfl hd hw ho kk
theorem S1_6 {i r : Nat} {x : Int32} (hd : decode M.2.1 pc = .ok (.putfield i, 3)) (hw : Cond.fieldLink M.1.cls i RX1 "greatestA" "I" ∈ TBG) (ho : isO h 1 r) (kk : Rr M kc ks (pc + 3) ls st (sI h r 6 x) P) : Rr M kc ks pc ls (.int x :: .ref r :: st) h P := R_putI (ty := .int) 1 6 ok1 (by decide) rfl rfl hd hw (Or.inl rfl) ho (by decide +kernel) rfl rfl kk
theorem G1_7 {i r : Nat} (hd : decode M.2.1 pc = .ok (.getfield i, 3)) (hw : Cond.fieldLink M.1.cls i RX1 "leastB" "I" ∈ TBG) (ho : isO h 1 r) (kk : Rr M kc ks (pc + 3) ls (.int (gI h r 7) :: st) h P) : Rr M kc ks pc ls (.ref r :: st) h P := R_getI 1 7 ok1 (by decide) rfl rfl hd hw ho kk
theorem S1_7 {i r : Nat} {x : Int32} (hd : decode M.2.1 pc = .ok (.putfield i, 3)) (hw : Cond.fieldLink M.1.cls i RX1 "leastB" "I" ∈ TBG) (ho : isO h 1 r) (kk : Rr M kc ks (pc + 3) ls st (sI h r 7 x) P) : Rr M kc ks pc ls (.int x :: .ref r :: st) h P := R_putI (ty := .int) 1 7 ok1 (by decide) rfl rfl hd hw (Or.inl rfl) ho (by decide +kernel) rfl rfl kk
theorem G1_8 {i r : Nat} (hd : decode M.2.1 pc = .ok (.getfield i, 3)) (hw : Cond.fieldLink M.1.cls i RX1 "greatestB" "I" ∈ TBG) (ho : isO h 1 r) (kk : Rr M kc ks (pc + 3) ls (.int (gI h r 8) :: st) h P) : Rr M kc ks pc ls (.ref r :: st) h P := R_getI 1 8 ok1 (by decide) rfl rfl hd hw ho kk
theorem S1_8 {i r : Nat} {x : Int32} (hd : decode M.2.1 pc = .ok (.putfield i, 3)) (hw : Cond.fieldLink M.1.cls i RX1 "greatestB" "I" ∈ TBG) (ho : isO h 1 r) (kk : Rr M kc ks (pc + 3) ls st (sI h r 8 x) P) : Rr M kc ks pc ls (.int x :: .ref r :: st) h P := R_putI (ty := .int) 1 8 ok1 (by decide) rfl rfl hd hw (Or.inl rfl) ho (by decide +kernel) rfl rfl kk
theorem G1_9 {i r : Nat} (hd : decode M.2.1 pc = .ok (.getfield i, 3)) (hw : Cond.fieldLink M.1.cls i RX1 "slips" "I" ∈ TBG) (ho : isO h 1 r) (kk : Rr M kc ks (pc + 3) ls (.int (gI h r 9) :: st) h P) : Rr M kc ks pc ls (.ref r :: st) h P := R_getI 1 9 ok1 (by decide) rfl rfl hd hw ho kk
theorem S1_9 {i r : Nat} {x : Int32} (hd : decode M.2.1 pc = .ok (.putfield i, 3)) (hw : Cond.fieldLink M.1.cls i RX1 "slips" "I" ∈ TBG) (ho : isO h 1 r) (kk : Rr M kc ks (pc + 3) ls st (sI h r 9 x) P) : Rr M kc ks pc ls (.int x :: .ref r :: st) h P := R_putI (ty := .int) 1 9 ok1 (by decide) rfl rfl hd hw (Or.inl rfl) ho (by decide +kernel) rfl rfl kk
theorem G1_10 {i r : Nat} (hd : decode M.2.1 pc = .ok (.getfield i, 3)) (hw : Cond.fieldLink M.1.cls i RX1 "least" "[I" ∈ TBG) (ho : isO h 1 r) (kk : Rr M kc ks (pc + 3) ls (.ref (gF h r 10) :: st) h P) : Rr M kc ks pc ls (.ref r :: st) h P := R_getF 1 10 ok1 (by decide) rfl rfl hd hw ho kk
theorem S1_10 {i r x : Nat} (hd : decode M.2.1 pc = .ok (.putfield i, 3)) (hw : Cond.fieldLink M.1.cls i RX1 "least" "[I" ∈ TBG) (hi : M.1.name = "<init>" ∧ RX1 = M.1.cls) (ho : isO h 1 r) (kk : Rr M kc ks (pc + 3) ls st (sF h r 10 x) P) : Rr M kc ks pc ls (.ref x :: .ref r :: st) h P := R_putF (ty := (.array .int)) 1 10 ok1 (by decide) rfl rfl hd hw (Or.inr hi) ho (by decide +kernel) (Or.inr ⟨_, rfl⟩) kk
theorem G1_11 {i r : Nat} (hd : decode M.2.1 pc = .ok (.getfield i, 3)) (hw : Cond.fieldLink M.1.cls i RX1 "greatest" "[I" ∈ TBG) (ho : isO h 1 r) (kk : Rr M kc ks (pc + 3) ls (.ref (gF h r 11) :: st) h P) : Rr M kc ks pc ls (.ref r :: st) h P := R_getF 1 11 ok1 (by decide) rfl rfl hd hw ho kk
theorem S1_11 {i r x : Nat} (hd : decode M.2.1 pc = .ok (.putfield i, 3)) (hw : Cond.fieldLink M.1.cls i RX1 "greatest" "[I" ∈ TBG) (hi : M.1.name = "<init>" ∧ RX1 = M.1.cls) (ho : isO h 1 r) (kk : Rr M kc ks (pc + 3) ls st (sF h r 11 x) P) : Rr M kc ks pc ls (.ref x :: .ref r :: st) h P := R_putF (ty := (.array .int)) 1 11 ok1 (by decide) rfl rfl hd hw (Or.inr hi) ho (by decide +kernel) (Or.inr ⟨_, rfl⟩) kk
theorem G2_0 {i r : Nat} (hd : decode M.2.1 pc = .ok (.getfield i, 3)) (hw : Cond.fieldLink M.1.cls i RX2 "behind" "[J" ∈ TBG) (ho : isO h 2 r) (kk : Rr M kc ks (pc + 3) ls (.ref (gF h r 0) :: st) h P) : Rr M kc ks pc ls (.ref r :: st) h P := R_getF 2 0 ok2 (by decide) rfl rfl hd hw ho kk
theorem S2_0 {i r x : Nat} (hd : decode M.2.1 pc = .ok (.putfield i, 3)) (hw : Cond.fieldLink M.1.cls i RX2 "behind" "[J" ∈ TBG) (hi : M.1.name = "<init>" ∧ RX2 = M.1.cls) (ho : isO h 2 r) (kk : Rr M kc ks (pc + 3) ls st (sF h r 0 x) P) : Rr M kc ks pc ls (.ref x :: .ref r :: st) h P := R_putF (ty := (.array .long)) 2 0 ok2 (by decide) rfl rfl hd hw (Or.inr hi) ho (by decide +kernel) (Or.inr ⟨_, rfl⟩) kk
theorem G2_1 {i r : Nat} (hd : decode M.2.1 pc = .ok (.getfield i, 3)) (hw : Cond.fieldLink M.1.cls i RX2 "least" "[J" ∈ TBG) (ho : isO h 2 r) (kk : Rr M kc ks (pc + 3) ls (.ref (gF h r 1) :: st) h P) : Rr M kc ks pc ls (.ref r :: st) h P := R_getF 2 1 ok2 (by decide) rfl rfl hd hw ho kk
theorem S2_1 {i r x : Nat} (hd : decode M.2.1 pc = .ok (.putfield i, 3)) (hw : Cond.fieldLink M.1.cls i RX2 "least" "[J" ∈ TBG) (hi : M.1.name = "<init>" ∧ RX2 = M.1.cls) (ho : isO h 2 r) (kk : Rr M kc ks (pc + 3) ls st (sF h r 1 x) P) : Rr M kc ks pc ls (.ref x :: .ref r :: st) h P := R_putF (ty := (.array .long)) 2 1 ok2 (by decide) rfl rfl hd hw (Or.inr hi) ho (by decide +kernel) (Or.inr ⟨_, rfl⟩) kk
theorem G2_2 {i r : Nat} (hd : decode M.2.1 pc = .ok (.getfield i, 3)) (hw : Cond.fieldLink M.1.cls i RX2 "going" "J" ∈ TBG) (ho : isO h 2 r) (kk : Rr M kc ks (pc + 3) ls (.long (gL h r 2) :: st) h P) : Rr M kc ks pc ls (.ref r :: st) h P := R_getL 2 2 ok2 (by decide) rfl rfl hd hw ho kk
theorem S2_2 {i r : Nat} {x : Int64} (hd : decode M.2.1 pc = .ok (.putfield i, 3)) (hw : Cond.fieldLink M.1.cls i RX2 "going" "J" ∈ TBG) (ho : isO h 2 r) (kk : Rr M kc ks (pc + 3) ls st (sL h r 2 x) P) : Rr M kc ks pc ls (.long x :: .ref r :: st) h P := R_putL (ty := .long) 2 2 ok2 (by decide) rfl rfl hd hw (Or.inl rfl) ho (by decide +kernel) rfl rfl kk
theorem G2_3 {i r : Nat} (hd : decode M.2.1 pc = .ok (.getfield i, 3)) (hw : Cond.fieldLink M.1.cls i RX2 "halting" "J" ∈ TBG) (ho : isO h 2 r) (kk : Rr M kc ks (pc + 3) ls (.long (gL h r 3) :: st) h P) : Rr M kc ks pc ls (.ref r :: st) h P := R_getL 2 3 ok2 (by decide) rfl rfl hd hw ho kk
theorem S2_3 {i r : Nat} {x : Int64} (hd : decode M.2.1 pc = .ok (.putfield i, 3)) (hw : Cond.fieldLink M.1.cls i RX2 "halting" "J" ∈ TBG) (ho : isO h 2 r) (kk : Rr M kc ks (pc + 3) ls st (sL h r 3 x) P) : Rr M kc ks pc ls (.long x :: .ref r :: st) h P := R_putL (ty := .long) 2 3 ok2 (by decide) rfl rfl hd hw (Or.inl rfl) ho (by decide +kernel) rfl rfl kk
theorem G3_0 {i r : Nat} (hd : decode M.2.1 pc = .ok (.getfield i, 3)) (hw : Cond.fieldLink M.1.cls i RX3 "clauses" "I" ∈ TBG) (ho : isO h 3 r) (kk : Rr M kc ks (pc + 3) ls (.int (gI h r 0) :: st) h P) : Rr M kc ks pc ls (.ref r :: st) h P := R_getI 3 0 ok3 (by decide) rfl rfl hd hw ho kk
theorem S3_0 {i r : Nat} {x : Int32} (hd : decode M.2.1 pc = .ok (.putfield i, 3)) (hw : Cond.fieldLink M.1.cls i RX3 "clauses" "I" ∈ TBG) (ho : isO h 3 r) (kk : Rr M kc ks (pc + 3) ls st (sI h r 0 x) P) : Rr M kc ks pc ls (.int x :: .ref r :: st) h P := R_putI (ty := .int) 3 0 ok3 (by decide) rfl rfl hd hw (Or.inl rfl) ho (by decide +kernel) rfl rfl kk
theorem G3_1 {i r : Nat} (hd : decode M.2.1 pc = .ok (.getfield i, 3)) (hw : Cond.fieldLink M.1.cls i RX3 "width" "I" ∈ TBG) (ho : isO h 3 r) (kk : Rr M kc ks (pc + 3) ls (.int (gI h r 1) :: st) h P) : Rr M kc ks pc ls (.ref r :: st) h P := R_getI 3 1 ok3 (by decide) rfl rfl hd hw ho kk
theorem S3_1 {i r : Nat} {x : Int32} (hd : decode M.2.1 pc = .ok (.putfield i, 3)) (hw : Cond.fieldLink M.1.cls i RX3 "width" "I" ∈ TBG) (ho : isO h 3 r) (kk : Rr M kc ks (pc + 3) ls st (sI h r 1 x) P) : Rr M kc ks pc ls (.int x :: .ref r :: st) h P := R_putI (ty := .int) 3 1 ok3 (by decide) rfl rfl hd hw (Or.inl rfl) ho (by decide +kernel) rfl rfl kk
theorem G3_2 {i r : Nat} (hd : decode M.2.1 pc = .ok (.getfield i, 3)) (hw : Cond.fieldLink M.1.cls i RX3 "height" "I" ∈ TBG) (ho : isO h 3 r) (kk : Rr M kc ks (pc + 3) ls (.int (gI h r 2) :: st) h P) : Rr M kc ks pc ls (.ref r :: st) h P := R_getI 3 2 ok3 (by decide) rfl rfl hd hw ho kk
theorem S3_2 {i r : Nat} {x : Int32} (hd : decode M.2.1 pc = .ok (.putfield i, 3)) (hw : Cond.fieldLink M.1.cls i RX3 "height" "I" ∈ TBG) (ho : isO h 3 r) (kk : Rr M kc ks (pc + 3) ls st (sI h r 2 x) P) : Rr M kc ks pc ls (.int x :: .ref r :: st) h P := R_putI (ty := .int) 3 2 ok3 (by decide) rfl rfl hd hw (Or.inl rfl) ho (by decide +kernel) rfl rfl kk
theorem G3_3 {i r : Nat} (hd : decode M.2.1 pc = .ok (.getfield i, 3)) (hw : Cond.fieldLink M.1.cls i RX3 "marks" "I" ∈ TBG) (ho : isO h 3 r) (kk : Rr M kc ks (pc + 3) ls (.int (gI h r 3) :: st) h P) : Rr M kc ks pc ls (.ref r :: st) h P := R_getI 3 3 ok3 (by decide) rfl rfl hd hw ho kk
theorem S3_3 {i r : Nat} {x : Int32} (hd : decode M.2.1 pc = .ok (.putfield i, 3)) (hw : Cond.fieldLink M.1.cls i RX3 "marks" "I" ∈ TBG) (ho : isO h 3 r) (kk : Rr M kc ks (pc + 3) ls st (sI h r 3 x) P) : Rr M kc ks pc ls (.int x :: .ref r :: st) h P := R_putI (ty := .int) 3 3 ok3 (by decide) rfl rfl hd hw (Or.inl rfl) ho (by decide +kernel) rfl rfl kk
theorem G3_4 {i r : Nat} (hd : decode M.2.1 pc = .ok (.getfield i, 3)) (hw : Cond.fieldLink M.1.cls i RX3 "markX" "[I" ∈ TBG) (ho : isO h 3 r) (kk : Rr M kc ks (pc + 3) ls (.ref (gF h r 4) :: st) h P) : Rr M kc ks pc ls (.ref r :: st) h P := R_getF 3 4 ok3 (by decide) rfl rfl hd hw ho kk
theorem S3_4 {i r x : Nat} (hd : decode M.2.1 pc = .ok (.putfield i, 3)) (hw : Cond.fieldLink M.1.cls i RX3 "markX" "[I" ∈ TBG) (hi : M.1.name = "<init>" ∧ RX3 = M.1.cls) (ho : isO h 3 r) (kk : Rr M kc ks (pc + 3) ls st (sF h r 4 x) P) : Rr M kc ks pc ls (.ref x :: .ref r :: st) h P := R_putF (ty := (.array .int)) 3 4 ok3 (by decide) rfl rfl hd hw (Or.inr hi) ho (by decide +kernel) (Or.inr ⟨_, rfl⟩) kk
theorem G3_5 {i r : Nat} (hd : decode M.2.1 pc = .ok (.getfield i, 3)) (hw : Cond.fieldLink M.1.cls i RX3 "markY" "[I" ∈ TBG) (ho : isO h 3 r) (kk : Rr M kc ks (pc + 3) ls (.ref (gF h r 5) :: st) h P) : Rr M kc ks pc ls (.ref r :: st) h P := R_getF 3 5 ok3 (by decide) rfl rfl hd hw ho kk
theorem S3_5 {i r x : Nat} (hd : decode M.2.1 pc = .ok (.putfield i, 3)) (hw : Cond.fieldLink M.1.cls i RX3 "markY" "[I" ∈ TBG) (hi : M.1.name = "<init>" ∧ RX3 = M.1.cls) (ho : isO h 3 r) (kk : Rr M kc ks (pc + 3) ls st (sF h r 5 x) P) : Rr M kc ks pc ls (.ref x :: .ref r :: st) h P := R_putF (ty := (.array .int)) 3 5 ok3 (by decide) rfl rfl hd hw (Or.inr hi) ho (by decide +kernel) (Or.inr ⟨_, rfl⟩) kk
theorem G3_6 {i r : Nat} (hd : decode M.2.1 pc = .ok (.getfield i, 3)) (hw : Cond.fieldLink M.1.cls i RX3 "slack" "I" ∈ TBG) (ho : isO h 3 r) (kk : Rr M kc ks (pc + 3) ls (.int (gI h r 6) :: st) h P) : Rr M kc ks pc ls (.ref r :: st) h P := R_getI 3 6 ok3 (by decide) rfl rfl hd hw ho kk
theorem S3_6 {i r : Nat} {x : Int32} (hd : decode M.2.1 pc = .ok (.putfield i, 3)) (hw : Cond.fieldLink M.1.cls i RX3 "slack" "I" ∈ TBG) (ho : isO h 3 r) (kk : Rr M kc ks (pc + 3) ls st (sI h r 6 x) P) : Rr M kc ks pc ls (.int x :: .ref r :: st) h P := R_putI (ty := .int) 3 6 ok3 (by decide) rfl rfl hd hw (Or.inl rfl) ho (by decide +kernel) rfl rfl kk
theorem G3_7 {i r : Nat} (hd : decode M.2.1 pc = .ok (.getfield i, 3)) (hw : Cond.fieldLink M.1.cls i RX3 "screws" "[I" ∈ TBG) (ho : isO h 3 r) (kk : Rr M kc ks (pc + 3) ls (.ref (gF h r 7) :: st) h P) : Rr M kc ks pc ls (.ref r :: st) h P := R_getF 3 7 ok3 (by decide) rfl rfl hd hw ho kk
theorem S3_7 {i r x : Nat} (hd : decode M.2.1 pc = .ok (.putfield i, 3)) (hw : Cond.fieldLink M.1.cls i RX3 "screws" "[I" ∈ TBG) (hi : M.1.name = "<init>" ∧ RX3 = M.1.cls) (ho : isO h 3 r) (kk : Rr M kc ks (pc + 3) ls st (sF h r 7 x) P) : Rr M kc ks pc ls (.ref x :: .ref r :: st) h P := R_putF (ty := (.array .int)) 3 7 ok3 (by decide) rfl rfl hd hw (Or.inr hi) ho (by decide +kernel) (Or.inr ⟨_, rfl⟩) kk
theorem G3_8 {i r : Nat} (hd : decode M.2.1 pc = .ok (.getfield i, 3)) (hw : Cond.fieldLink M.1.cls i RX3 "screwNumbers" "[I" ∈ TBG) (ho : isO h 3 r) (kk : Rr M kc ks (pc + 3) ls (.ref (gF h r 8) :: st) h P) : Rr M kc ks pc ls (.ref r :: st) h P := R_getF 3 8 ok3 (by decide) rfl rfl hd hw ho kk
theorem S3_8 {i r x : Nat} (hd : decode M.2.1 pc = .ok (.putfield i, 3)) (hw : Cond.fieldLink M.1.cls i RX3 "screwNumbers" "[I" ∈ TBG) (hi : M.1.name = "<init>" ∧ RX3 = M.1.cls) (ho : isO h 3 r) (kk : Rr M kc ks (pc + 3) ls st (sF h r 8 x) P) : Rr M kc ks pc ls (.ref x :: .ref r :: st) h P := R_putF (ty := (.array .int)) 3 8 ok3 (by decide) rfl rfl hd hw (Or.inr hi) ho (by decide +kernel) (Or.inr ⟨_, rfl⟩) kk
theorem G3_9 {i r : Nat} (hd : decode M.2.1 pc = .ok (.getfield i, 3)) (hw : Cond.fieldLink M.1.cls i RX3 "turns" "I" ∈ TBG) (ho : isO h 3 r) (kk : Rr M kc ks (pc + 3) ls (.int (gI h r 9) :: st) h P) : Rr M kc ks pc ls (.ref r :: st) h P := R_getI 3 9 ok3 (by decide) rfl rfl hd hw ho kk
theorem S3_9 {i r : Nat} {x : Int32} (hd : decode M.2.1 pc = .ok (.putfield i, 3)) (hw : Cond.fieldLink M.1.cls i RX3 "turns" "I" ∈ TBG) (ho : isO h 3 r) (kk : Rr M kc ks (pc + 3) ls st (sI h r 9 x) P) : Rr M kc ks pc ls (.int x :: .ref r :: st) h P := R_putI (ty := .int) 3 9 ok3 (by decide) rfl rfl hd hw (Or.inl rfl) ho (by decide +kernel) rfl rfl kk
theorem G3_10 {i r : Nat} (hd : decode M.2.1 pc = .ok (.getfield i, 3)) (hw : Cond.fieldLink M.1.cls i RX3 "boxes" "I" ∈ TBG) (ho : isO h 3 r) (kk : Rr M kc ks (pc + 3) ls (.int (gI h r 10) :: st) h P) : Rr M kc ks pc ls (.ref r :: st) h P := R_getI 3 10 ok3 (by decide) rfl rfl hd hw ho kk
theorem S3_10 {i r : Nat} {x : Int32} (hd : decode M.2.1 pc = .ok (.putfield i, 3)) (hw : Cond.fieldLink M.1.cls i RX3 "boxes" "I" ∈ TBG) (ho : isO h 3 r) (kk : Rr M kc ks (pc + 3) ls st (sI h r 10 x) P) : Rr M kc ks pc ls (.int x :: .ref r :: st) h P := R_putI (ty := .int) 3 10 ok3 (by decide) rfl rfl hd hw (Or.inl rfl) ho (by decide +kernel) rfl rfl kk
theorem G3_11 {i r : Nat} (hd : decode M.2.1 pc = .ok (.getfield i, 3)) (hw : Cond.fieldLink M.1.cls i RX3 "shapes" "[LFourInks$Board;" ∈ TBG) (ho : isO h 3 r) (kk : Rr M kc ks (pc + 3) ls (.ref (gF h r 11) :: st) h P) : Rr M kc ks pc ls (.ref r :: st) h P := R_getF 3 11 ok3 (by decide) rfl rfl hd hw ho kk
theorem S3_11 {i r x : Nat} (hd : decode M.2.1 pc = .ok (.putfield i, 3)) (hw : Cond.fieldLink M.1.cls i RX3 "shapes" "[LFourInks$Board;" ∈ TBG) (hi : M.1.name = "<init>" ∧ RX3 = M.1.cls) (ho : isO h 3 r) (kk : Rr M kc ks (pc + 3) ls st (sF h r 11 x) P) : Rr M kc ks pc ls (.ref x :: .ref r :: st) h P := R_putF (ty := (.array (.object "FourInks$Board"))) 3 11 ok3 (by decide) rfl rfl hd hw (Or.inr hi) ho (by decide +kernel) (Or.inr ⟨_, rfl⟩) kk
theorem G3_12 {i r : Nat} (hd : decode M.2.1 pc = .ok (.getfield i, 3)) (hw : Cond.fieldLink M.1.cls i RX3 "white" "I" ∈ TBG) (ho : isO h 3 r) (kk : Rr M kc ks (pc + 3) ls (.int (gI h r 12) :: st) h P) : Rr M kc ks pc ls (.ref r :: st) h P := R_getI 3 12 ok3 (by decide) rfl rfl hd hw ho kk
theorem S3_12 {i r : Nat} {x : Int32} (hd : decode M.2.1 pc = .ok (.putfield i, 3)) (hw : Cond.fieldLink M.1.cls i RX3 "white" "I" ∈ TBG) (ho : isO h 3 r) (kk : Rr M kc ks (pc + 3) ls st (sI h r 12 x) P) : Rr M kc ks pc ls (.int x :: .ref r :: st) h P := R_putI (ty := .int) 3 12 ok3 (by decide) rfl rfl hd hw (Or.inl rfl) ho (by decide +kernel) rfl rfl kk
theorem G3_13 {i r : Nat} (hd : decode M.2.1 pc = .ok (.getfield i, 3)) (hw : Cond.fieldLink M.1.cls i RX3 "ove\x72" "I" ∈ TBG) (ho : isO h 3 r) (kk : Rr M kc ks (pc + 3) ls (.int (gI h r 13) :: st) h P) : Rr M kc ks pc ls (.ref r :: st) h P := R_getI 3 13 ok3 (by decide) rfl rfl hd hw ho kk
theorem S3_13 {i r : Nat} {x : Int32} (hd : decode M.2.1 pc = .ok (.putfield i, 3)) (hw : Cond.fieldLink M.1.cls i RX3 "ove\x72" "I" ∈ TBG) (ho : isO h 3 r) (kk : Rr M kc ks (pc + 3) ls st (sI h r 13 x) P) : Rr M kc ks pc ls (.int x :: .ref r :: st) h P := R_putI (ty := .int) 3 13 ok3 (by decide) rfl rfl hd hw (Or.inl rfl) ho (by decide +kernel) rfl rfl kk
theorem G3_14 {i r : Nat} (hd : decode M.2.1 pc = .ok (.getfield i, 3)) (hw : Cond.fieldLink M.1.cls i RX3 "screens" "LFourInks$Screens;" ∈ TBG) (ho : isO h 3 r) (kk : Rr M kc ks (pc + 3) ls (.ref (gF h r 14) :: st) h P) : Rr M kc ks pc ls (.ref r :: st) h P := R_getF 3 14 ok3 (by decide) rfl rfl hd hw ho kk
theorem S3_14 {i r x : Nat} (hd : decode M.2.1 pc = .ok (.putfield i, 3)) (hw : Cond.fieldLink M.1.cls i RX3 "screens" "LFourInks$Screens;" ∈ TBG) (hi : M.1.name = "<init>" ∧ RX3 = M.1.cls) (ho : isO h 3 r) (kk : Rr M kc ks (pc + 3) ls st (sF h r 14 x) P) : Rr M kc ks pc ls (.ref x :: .ref r :: st) h P := R_putF (ty := (.object "FourInks$Screens")) 3 14 ok3 (by decide) rfl rfl hd hw (Or.inr hi) ho (by decide +kernel) (Or.inl ⟨_, rfl⟩) kk
theorem G3_15 {i r : Nat} (hd : decode M.2.1 pc = .ok (.getfield i, 3)) (hw : Cond.fieldLink M.1.cls i RX3 "lies" "[I" ∈ TBG) (ho : isO h 3 r) (kk : Rr M kc ks (pc + 3) ls (.ref (gF h r 15) :: st) h P) : Rr M kc ks pc ls (.ref r :: st) h P := R_getF 3 15 ok3 (by decide) rfl rfl hd hw ho kk
theorem S3_15 {i r x : Nat} (hd : decode M.2.1 pc = .ok (.putfield i, 3)) (hw : Cond.fieldLink M.1.cls i RX3 "lies" "[I" ∈ TBG) (hi : M.1.name = "<init>" ∧ RX3 = M.1.cls) (ho : isO h 3 r) (kk : Rr M kc ks (pc + 3) ls st (sF h r 15 x) P) : Rr M kc ks pc ls (.ref x :: .ref r :: st) h P := R_putF (ty := (.array .int)) 3 15 ok3 (by decide) rfl rfl hd hw (Or.inr hi) ho (by decide +kernel) (Or.inr ⟨_, rfl⟩) kk
theorem G4_0 {i r : Nat} (hd : decode M.2.1 pc = .ok (.getfield i, 3)) (hw : Cond.fieldLink M.1.cls i RX4 "tape" "LFourInks$Tape;" ∈ TBG) (ho : isO h 4 r) (kk : Rr M kc ks (pc + 3) ls (.ref (gF h r 0) :: st) h P) : Rr M kc ks pc ls (.ref r :: st) h P := R_getF 4 0 ok4 (by decide) rfl rfl hd hw ho kk
theorem S4_0 {i r x : Nat} (hd : decode M.2.1 pc = .ok (.putfield i, 3)) (hw : Cond.fieldLink M.1.cls i RX4 "tape" "LFourInks$Tape;" ∈ TBG) (hi : M.1.name = "<init>" ∧ RX4 = M.1.cls) (ho : isO h 4 r) (kk : Rr M kc ks (pc + 3) ls st (sF h r 0 x) P) : Rr M kc ks pc ls (.ref x :: .ref r :: st) h P := R_putF (ty := (.object "FourInks$Tape")) 4 0 ok4 (by decide) rfl rfl hd hw (Or.inr hi) ho (by decide +kernel) (Or.inl ⟨_, rfl⟩) kk
theorem G4_1 {i r : Nat} (hd : decode M.2.1 pc = .ok (.getfield i, 3)) (hw : Cond.fieldLink M.1.cls i RX4 "clausesTold" "I" ∈ TBG) (ho : isO h 4 r) (kk : Rr M kc ks (pc + 3) ls (.int (gI h r 1) :: st) h P) : Rr M kc ks pc ls (.ref r :: st) h P := R_getI 4 1 ok4 (by decide) rfl rfl hd hw ho kk
theorem S4_1 {i r : Nat} {x : Int32} (hd : decode M.2.1 pc = .ok (.putfield i, 3)) (hw : Cond.fieldLink M.1.cls i RX4 "clausesTold" "I" ∈ TBG) (ho : isO h 4 r) (kk : Rr M kc ks (pc + 3) ls st (sI h r 1 x) P) : Rr M kc ks pc ls (.int x :: .ref r :: st) h P := R_putI (ty := .int) 4 1 ok4 (by decide) rfl rfl hd hw (Or.inl rfl) ho (by decide +kernel) rfl rfl kk
theorem G4_2 {i r : Nat} (hd : decode M.2.1 pc = .ok (.getfield i, 3)) (hw : Cond.fieldLink M.1.cls i RX4 "pairsTold" "I" ∈ TBG) (ho : isO h 4 r) (kk : Rr M kc ks (pc + 3) ls (.int (gI h r 2) :: st) h P) : Rr M kc ks pc ls (.ref r :: st) h P := R_getI 4 2 ok4 (by decide) rfl rfl hd hw ho kk
theorem S4_2 {i r : Nat} {x : Int32} (hd : decode M.2.1 pc = .ok (.putfield i, 3)) (hw : Cond.fieldLink M.1.cls i RX4 "pairsTold" "I" ∈ TBG) (ho : isO h 4 r) (kk : Rr M kc ks (pc + 3) ls st (sI h r 2 x) P) : Rr M kc ks pc ls (.int x :: .ref r :: st) h P := R_putI (ty := .int) 4 2 ok4 (by decide) rfl rfl hd hw (Or.inl rfl) ho (by decide +kernel) rfl rfl kk
theorem G4_3 {i r : Nat} (hd : decode M.2.1 pc = .ok (.getfield i, 3)) (hw : Cond.fieldLink M.1.cls i RX4 "draft" "LFourInks$Job;" ∈ TBG) (ho : isO h 4 r) (kk : Rr M kc ks (pc + 3) ls (.ref (gF h r 3) :: st) h P) : Rr M kc ks pc ls (.ref r :: st) h P := R_getF 4 3 ok4 (by decide) rfl rfl hd hw ho kk
theorem S4_3 {i r x : Nat} (hd : decode M.2.1 pc = .ok (.putfield i, 3)) (hw : Cond.fieldLink M.1.cls i RX4 "draft" "LFourInks$Job;" ∈ TBG) (ho : isO h 4 r) (kk : Rr M kc ks (pc + 3) ls st (sF h r 3 x) P) : Rr M kc ks pc ls (.ref x :: .ref r :: st) h P := R_putF (ty := (.object "FourInks$Job")) 4 3 ok4 (by decide) rfl rfl hd hw (Or.inl rfl) ho (by decide +kernel) (Or.inl ⟨_, rfl⟩) kk
theorem G4_4 {i r : Nat} (hd : decode M.2.1 pc = .ok (.getfield i, 3)) (hw : Cond.fieldLink M.1.cls i RX4 "fault" "I" ∈ TBG) (ho : isO h 4 r) (kk : Rr M kc ks (pc + 3) ls (.int (gI h r 4) :: st) h P) : Rr M kc ks pc ls (.ref r :: st) h P := R_getI 4 4 ok4 (by decide) rfl rfl hd hw ho kk
theorem S4_4 {i r : Nat} {x : Int32} (hd : decode M.2.1 pc = .ok (.putfield i, 3)) (hw : Cond.fieldLink M.1.cls i RX4 "fault" "I" ∈ TBG) (ho : isO h 4 r) (kk : Rr M kc ks (pc + 3) ls st (sI h r 4 x) P) : Rr M kc ks pc ls (.int x :: .ref r :: st) h P := R_putI (ty := .int) 4 4 ok4 (by decide) rfl rfl hd hw (Or.inl rfl) ho (by decide +kernel) rfl rfl kk
theorem G4_5 {i r : Nat} (hd : decode M.2.1 pc = .ok (.getfield i, 3)) (hw : Cond.fieldLink M.1.cls i RX4 "place" "I" ∈ TBG) (ho : isO h 4 r) (kk : Rr M kc ks (pc + 3) ls (.int (gI h r 5) :: st) h P) : Rr M kc ks pc ls (.ref r :: st) h P := R_getI 4 5 ok4 (by decide) rfl rfl hd hw ho kk
theorem S4_5 {i r : Nat} {x : Int32} (hd : decode M.2.1 pc = .ok (.putfield i, 3)) (hw : Cond.fieldLink M.1.cls i RX4 "place" "I" ∈ TBG) (ho : isO h 4 r) (kk : Rr M kc ks (pc + 3) ls st (sI h r 5 x) P) : Rr M kc ks pc ls (.int x :: .ref r :: st) h P := R_putI (ty := .int) 4 5 ok4 (by decide) rfl rfl hd hw (Or.inl rfl) ho (by decide +kernel) rfl rfl kk
theorem G5_0 {i r : Nat} (hd : decode M.2.1 pc = .ok (.getfield i, 3)) (hw : Cond.fieldLink M.1.cls i RX5 "whitePrice" "I" ∈ TBG) (ho : isO h 5 r) (kk : Rr M kc ks (pc + 3) ls (.int (gI h r 0) :: st) h P) : Rr M kc ks pc ls (.ref r :: st) h P := R_getI 5 0 ok5 (by decide) rfl rfl hd hw ho kk
theorem S5_0 {i r : Nat} {x : Int32} (hd : decode M.2.1 pc = .ok (.putfield i, 3)) (hw : Cond.fieldLink M.1.cls i RX5 "whitePrice" "I" ∈ TBG) (ho : isO h 5 r) (kk : Rr M kc ks (pc + 3) ls st (sI h r 0 x) P) : Rr M kc ks pc ls (.int x :: .ref r :: st) h P := R_putI (ty := .int) 5 0 ok5 (by decide) rfl rfl hd hw (Or.inl rfl) ho (by decide +kernel) rfl rfl kk
theorem G5_1 {i r : Nat} (hd : decode M.2.1 pc = .ok (.getfield i, 3)) (hw : Cond.fieldLink M.1.cls i RX5 "overPrice" "I" ∈ TBG) (ho : isO h 5 r) (kk : Rr M kc ks (pc + 3) ls (.int (gI h r 1) :: st) h P) : Rr M kc ks pc ls (.ref r :: st) h P := R_getI 5 1 ok5 (by decide) rfl rfl hd hw ho kk
theorem S5_1 {i r : Nat} {x : Int32} (hd : decode M.2.1 pc = .ok (.putfield i, 3)) (hw : Cond.fieldLink M.1.cls i RX5 "overPrice" "I" ∈ TBG) (ho : isO h 5 r) (kk : Rr M kc ks (pc + 3) ls st (sI h r 1 x) P) : Rr M kc ks pc ls (.int x :: .ref r :: st) h P := R_putI (ty := .int) 5 1 ok5 (by decide) rfl rfl hd hw (Or.inl rfl) ho (by decide +kernel) rfl rfl kk
theorem G5_2 {i r : Nat} (hd : decode M.2.1 pc = .ok (.getfield i, 3)) (hw : Cond.fieldLink M.1.cls i RX5 "wanted" "[J" ∈ TBG) (ho : isO h 5 r) (kk : Rr M kc ks (pc + 3) ls (.ref (gF h r 2) :: st) h P) : Rr M kc ks pc ls (.ref r :: st) h P := R_getF 5 2 ok5 (by decide) rfl rfl hd hw ho kk
theorem S5_2 {i r x : Nat} (hd : decode M.2.1 pc = .ok (.putfield i, 3)) (hw : Cond.fieldLink M.1.cls i RX5 "wanted" "[J" ∈ TBG) (hi : M.1.name = "<init>" ∧ RX5 = M.1.cls) (ho : isO h 5 r) (kk : Rr M kc ks (pc + 3) ls st (sF h r 2 x) P) : Rr M kc ks pc ls (.ref x :: .ref r :: st) h P := R_putF (ty := (.array .long)) 5 2 ok5 (by decide) rfl rfl hd hw (Or.inr hi) ho (by decide +kernel) (Or.inr ⟨_, rfl⟩) kk
theorem G5_3 {i r : Nat} (hd : decode M.2.1 pc = .ok (.getfield i, 3)) (hw : Cond.fieldLink M.1.cls i RX5 "common" "[J" ∈ TBG) (ho : isO h 5 r) (kk : Rr M kc ks (pc + 3) ls (.ref (gF h r 3) :: st) h P) : Rr M kc ks pc ls (.ref r :: st) h P := R_getF 5 3 ok5 (by decide) rfl rfl hd hw ho kk
theorem S5_3 {i r x : Nat} (hd : decode M.2.1 pc = .ok (.putfield i, 3)) (hw : Cond.fieldLink M.1.cls i RX5 "common" "[J" ∈ TBG) (hi : M.1.name = "<init>" ∧ RX5 = M.1.cls) (ho : isO h 5 r) (kk : Rr M kc ks (pc + 3) ls st (sF h r 3 x) P) : Rr M kc ks pc ls (.ref x :: .ref r :: st) h P := R_putF (ty := (.array .long)) 5 3 ok5 (by decide) rfl rfl hd hw (Or.inr hi) ho (by decide +kernel) (Or.inr ⟨_, rfl⟩) kk
theorem G5_4 {i r : Nat} (hd : decode M.2.1 pc = .ok (.getfield i, 3)) (hw : Cond.fieldLink M.1.cls i RX5 "first" "LFourInks$Board;" ∈ TBG) (ho : isO h 5 r) (kk : Rr M kc ks (pc + 3) ls (.ref (gF h r 4) :: st) h P) : Rr M kc ks pc ls (.ref r :: st) h P := R_getF 5 4 ok5 (by decide) rfl rfl hd hw ho kk
theorem S5_4 {i r x : Nat} (hd : decode M.2.1 pc = .ok (.putfield i, 3)) (hw : Cond.fieldLink M.1.cls i RX5 "first" "LFourInks$Board;" ∈ TBG) (hi : M.1.name = "<init>" ∧ RX5 = M.1.cls) (ho : isO h 5 r) (kk : Rr M kc ks (pc + 3) ls st (sF h r 4 x) P) : Rr M kc ks pc ls (.ref x :: .ref r :: st) h P := R_putF (ty := (.object "FourInks$Board")) 5 4 ok5 (by decide) rfl rfl hd hw (Or.inr hi) ho (by decide +kernel) (Or.inl ⟨_, rfl⟩) kk
theorem G5_5 {i r : Nat} (hd : decode M.2.1 pc = .ok (.getfield i, 3)) (hw : Cond.fieldLink M.1.cls i RX5 "second" "LFourInks$Board;" ∈ TBG) (ho : isO h 5 r) (kk : Rr M kc ks (pc + 3) ls (.ref (gF h r 5) :: st) h P) : Rr M kc ks pc ls (.ref r :: st) h P := R_getF 5 5 ok5 (by decide) rfl rfl hd hw ho kk
theorem S5_5 {i r x : Nat} (hd : decode M.2.1 pc = .ok (.putfield i, 3)) (hw : Cond.fieldLink M.1.cls i RX5 "second" "LFourInks$Board;" ∈ TBG) (hi : M.1.name = "<init>" ∧ RX5 = M.1.cls) (ho : isO h 5 r) (kk : Rr M kc ks (pc + 3) ls st (sF h r 5 x) P) : Rr M kc ks pc ls (.ref x :: .ref r :: st) h P := R_putF (ty := (.object "FourInks$Board")) 5 5 ok5 (by decide) rfl rfl hd hw (Or.inr hi) ho (by decide +kernel) (Or.inl ⟨_, rfl⟩) kk
theorem G5_6 {i r : Nat} (hd : decode M.2.1 pc = .ok (.getfield i, 3)) (hw : Cond.fieldLink M.1.cls i RX5 "slipped" "LFourInks$Board;" ∈ TBG) (ho : isO h 5 r) (kk : Rr M kc ks (pc + 3) ls (.ref (gF h r 6) :: st) h P) : Rr M kc ks pc ls (.ref r :: st) h P := R_getF 5 6 ok5 (by decide) rfl rfl hd hw ho kk
theorem S5_6 {i r x : Nat} (hd : decode M.2.1 pc = .ok (.putfield i, 3)) (hw : Cond.fieldLink M.1.cls i RX5 "slipped" "LFourInks$Board;" ∈ TBG) (hi : M.1.name = "<init>" ∧ RX5 = M.1.cls) (ho : isO h 5 r) (kk : Rr M kc ks (pc + 3) ls st (sF h r 6 x) P) : Rr M kc ks pc ls (.ref x :: .ref r :: st) h P := R_putF (ty := (.object "FourInks$Board")) 5 6 ok5 (by decide) rfl rfl hd hw (Or.inr hi) ho (by decide +kernel) (Or.inl ⟨_, rfl⟩) kk
theorem G5_7 {i r : Nat} (hd : decode M.2.1 pc = .ok (.getfield i, 3)) (hw : Cond.fieldLink M.1.cls i RX5 "whiteCells" "I" ∈ TBG) (ho : isO h 5 r) (kk : Rr M kc ks (pc + 3) ls (.int (gI h r 7) :: st) h P) : Rr M kc ks pc ls (.ref r :: st) h P := R_getI 5 7 ok5 (by decide) rfl rfl hd hw ho kk
theorem S5_7 {i r : Nat} {x : Int32} (hd : decode M.2.1 pc = .ok (.putfield i, 3)) (hw : Cond.fieldLink M.1.cls i RX5 "whiteCells" "I" ∈ TBG) (ho : isO h 5 r) (kk : Rr M kc ks (pc + 3) ls st (sI h r 7 x) P) : Rr M kc ks pc ls (.int x :: .ref r :: st) h P := R_putI (ty := .int) 5 7 ok5 (by decide) rfl rfl hd hw (Or.inl rfl) ho (by decide +kernel) rfl rfl kk
theorem G5_8 {i r : Nat} (hd : decode M.2.1 pc = .ok (.getfield i, 3)) (hw : Cond.fieldLink M.1.cls i RX5 "overCells" "I" ∈ TBG) (ho : isO h 5 r) (kk : Rr M kc ks (pc + 3) ls (.int (gI h r 8) :: st) h P) : Rr M kc ks pc ls (.ref r :: st) h P := R_getI 5 8 ok5 (by decide) rfl rfl hd hw ho kk
theorem S5_8 {i r : Nat} {x : Int32} (hd : decode M.2.1 pc = .ok (.putfield i, 3)) (hw : Cond.fieldLink M.1.cls i RX5 "overCells" "I" ∈ TBG) (ho : isO h 5 r) (kk : Rr M kc ks (pc + 3) ls st (sI h r 8 x) P) : Rr M kc ks pc ls (.int x :: .ref r :: st) h P := R_putI (ty := .int) 5 8 ok5 (by decide) rfl rfl hd hw (Or.inl rfl) ho (by decide +kernel) rfl rfl kk
theorem G5_9 {i r : Nat} (hd : decode M.2.1 pc = .ok (.getfield i, 3)) (hw : Cond.fieldLink M.1.cls i RX5 "isFound" "Z" ∈ TBG) (ho : isO h 5 r) (kk : Rr M kc ks (pc + 3) ls (.int (gI h r 9) :: st) h P) : Rr M kc ks pc ls (.ref r :: st) h P := R_getI 5 9 ok5 (by decide) rfl rfl hd hw ho kk
theorem S5_9 {i r : Nat} {x : Int32} (hd : decode M.2.1 pc = .ok (.putfield i, 3)) (hw : Cond.fieldLink M.1.cls i RX5 "isFound" "Z" ∈ TBG) (ho : isO h 5 r) (hn : narrow .boolean (.int x) = .int x) (hft : fits .boolean (.int x) = true) (kk : Rr M kc ks (pc + 3) ls st (sI h r 9 x) P) : Rr M kc ks pc ls (.int x :: .ref r :: st) h P := R_putI (ty := .boolean) 5 9 ok5 (by decide) rfl rfl hd hw (Or.inl rfl) ho (by decide +kernel) hn hft kk
theorem G5_10 {i r : Nat} (hd : decode M.2.1 pc = .ok (.getfield i, 3)) (hw : Cond.fieldLink M.1.cls i RX5 "bestOne" "I" ∈ TBG) (ho : isO h 5 r) (kk : Rr M kc ks (pc + 3) ls (.int (gI h r 10) :: st) h P) : Rr M kc ks pc ls (.ref r :: st) h P := R_getI 5 10 ok5 (by decide) rfl rfl hd hw ho kk
theorem S5_10 {i r : Nat} {x : Int32} (hd : decode M.2.1 pc = .ok (.putfield i, 3)) (hw : Cond.fieldLink M.1.cls i RX5 "bestOne" "I" ∈ TBG) (ho : isO h 5 r) (kk : Rr M kc ks (pc + 3) ls st (sI h r 10 x) P) : Rr M kc ks pc ls (.int x :: .ref r :: st) h P := R_putI (ty := .int) 5 10 ok5 (by decide) rfl rfl hd hw (Or.inl rfl) ho (by decide +kernel) rfl rfl kk
theorem G5_11 {i r : Nat} (hd : decode M.2.1 pc = .ok (.getfield i, 3)) (hw : Cond.fieldLink M.1.cls i RX5 "bestTwo" "I" ∈ TBG) (ho : isO h 5 r) (kk : Rr M kc ks (pc + 3) ls (.int (gI h r 11) :: st) h P) : Rr M kc ks pc ls (.ref r :: st) h P := R_getI 5 11 ok5 (by decide) rfl rfl hd hw ho kk
theorem S5_11 {i r : Nat} {x : Int32} (hd : decode M.2.1 pc = .ok (.putfield i, 3)) (hw : Cond.fieldLink M.1.cls i RX5 "bestTwo" "I" ∈ TBG) (ho : isO h 5 r) (kk : Rr M kc ks (pc + 3) ls st (sI h r 11 x) P) : Rr M kc ks pc ls (.int x :: .ref r :: st) h P := R_putI (ty := .int) 5 11 ok5 (by decide) rfl rfl hd hw (Or.inl rfl) ho (by decide +kernel) rfl rfl kk
theorem G6_0 {i r : Nat} (hd : decode M.2.1 pc = .ok (.getfield i, 3)) (hw : Cond.fieldLink M.1.cls i RX6 "a" "I" ∈ TBG) (ho : isO h 6 r) (kk : Rr M kc ks (pc + 3) ls (.int (gI h r 0) :: st) h P) : Rr M kc ks pc ls (.ref r :: st) h P := R_getI 6 0 ok6 (by decide) rfl rfl hd hw ho kk
theorem S6_0 {i r : Nat} {x : Int32} (hd : decode M.2.1 pc = .ok (.putfield i, 3)) (hw : Cond.fieldLink M.1.cls i RX6 "a" "I" ∈ TBG) (ho : isO h 6 r) (kk : Rr M kc ks (pc + 3) ls st (sI h r 0 x) P) : Rr M kc ks pc ls (.int x :: .ref r :: st) h P := R_putI (ty := .int) 6 0 ok6 (by decide) rfl rfl hd hw (Or.inl rfl) ho (by decide +kernel) rfl rfl kk
theorem G6_1 {i r : Nat} (hd : decode M.2.1 pc = .ok (.getfield i, 3)) (hw : Cond.fieldLink M.1.cls i RX6 "b" "I" ∈ TBG) (ho : isO h 6 r) (kk : Rr M kc ks (pc + 3) ls (.int (gI h r 1) :: st) h P) : Rr M kc ks pc ls (.ref r :: st) h P := R_getI 6 1 ok6 (by decide) rfl rfl hd hw ho kk
theorem S6_1 {i r : Nat} {x : Int32} (hd : decode M.2.1 pc = .ok (.putfield i, 3)) (hw : Cond.fieldLink M.1.cls i RX6 "b" "I" ∈ TBG) (ho : isO h 6 r) (kk : Rr M kc ks (pc + 3) ls st (sI h r 1 x) P) : Rr M kc ks pc ls (.int x :: .ref r :: st) h P := R_putI (ty := .int) 6 1 ok6 (by decide) rfl rfl hd hw (Or.inl rfl) ho (by decide +kernel) rfl rfl kk
theorem G6_2 {i r : Nat} (hd : decode M.2.1 pc = .ok (.getfield i, 3)) (hw : Cond.fieldLink M.1.cls i RX6 "\x72" "I" ∈ TBG) (ho : isO h 6 r) (kk : Rr M kc ks (pc + 3) ls (.int (gI h r 2) :: st) h P) : Rr M kc ks pc ls (.ref r :: st) h P := R_getI 6 2 ok6 (by decide) rfl rfl hd hw ho kk
theorem S6_2 {i r : Nat} {x : Int32} (hd : decode M.2.1 pc = .ok (.putfield i, 3)) (hw : Cond.fieldLink M.1.cls i RX6 "\x72" "I" ∈ TBG) (ho : isO h 6 r) (kk : Rr M kc ks (pc + 3) ls st (sI h r 2 x) P) : Rr M kc ks pc ls (.int x :: .ref r :: st) h P := R_putI (ty := .int) 6 2 ok6 (by decide) rfl rfl hd hw (Or.inl rfl) ho (by decide +kernel) rfl rfl kk
theorem G6_3 {i r : Nat} (hd : decode M.2.1 pc = .ok (.getfield i, 3)) (hw : Cond.fieldLink M.1.cls i RX6 "s" "I" ∈ TBG) (ho : isO h 6 r) (kk : Rr M kc ks (pc + 3) ls (.int (gI h r 3) :: st) h P) : Rr M kc ks pc ls (.ref r :: st) h P := R_getI 6 3 ok6 (by decide) rfl rfl hd hw ho kk
theorem S6_3 {i r : Nat} {x : Int32} (hd : decode M.2.1 pc = .ok (.putfield i, 3)) (hw : Cond.fieldLink M.1.cls i RX6 "s" "I" ∈ TBG) (ho : isO h 6 r) (kk : Rr M kc ks (pc + 3) ls st (sI h r 3 x) P) : Rr M kc ks pc ls (.int x :: .ref r :: st) h P := R_putI (ty := .int) 6 3 ok6 (by decide) rfl rfl hd hw (Or.inl rfl) ho (by decide +kernel) rfl rfl kk
theorem G6_4 {i r : Nat} (hd : decode M.2.1 pc = .ok (.getfield i, 3)) (hw : Cond.fieldLink M.1.cls i RX6 "row" "[I" ∈ TBG) (ho : isO h 6 r) (kk : Rr M kc ks (pc + 3) ls (.ref (gF h r 4) :: st) h P) : Rr M kc ks pc ls (.ref r :: st) h P := R_getF 6 4 ok6 (by decide) rfl rfl hd hw ho kk
theorem S6_4 {i r x : Nat} (hd : decode M.2.1 pc = .ok (.putfield i, 3)) (hw : Cond.fieldLink M.1.cls i RX6 "row" "[I" ∈ TBG) (hi : M.1.name = "<init>" ∧ RX6 = M.1.cls) (ho : isO h 6 r) (kk : Rr M kc ks (pc + 3) ls st (sF h r 4 x) P) : Rr M kc ks pc ls (.ref x :: .ref r :: st) h P := R_putF (ty := (.array .int)) 6 4 ok6 (by decide) rfl rfl hd hw (Or.inr hi) ho (by decide +kernel) (Or.inr ⟨_, rfl⟩) kk
theorem G6_5 {i r : Nat} (hd : decode M.2.1 pc = .ok (.getfield i, 3)) (hw : Cond.fieldLink M.1.cls i RX6 "screws" "I" ∈ TBG) (ho : isO h 6 r) (kk : Rr M kc ks (pc + 3) ls (.int (gI h r 5) :: st) h P) : Rr M kc ks pc ls (.ref r :: st) h P := R_getI 6 5 ok6 (by decide) rfl rfl hd hw ho kk
theorem S6_5 {i r : Nat} {x : Int32} (hd : decode M.2.1 pc = .ok (.putfield i, 3)) (hw : Cond.fieldLink M.1.cls i RX6 "screws" "I" ∈ TBG) (ho : isO h 6 r) (kk : Rr M kc ks (pc + 3) ls st (sI h r 5 x) P) : Rr M kc ks pc ls (.int x :: .ref r :: st) h P := R_putI (ty := .int) 6 5 ok6 (by decide) rfl rfl hd hw (Or.inl rfl) ho (by decide +kernel) rfl rfl kk
theorem G6_6 {i r : Nat} (hd : decode M.2.1 pc = .ok (.getfield i, 3)) (hw : Cond.fieldLink M.1.cls i RX6 "bestRow" "[I" ∈ TBG) (ho : isO h 6 r) (kk : Rr M kc ks (pc + 3) ls (.ref (gF h r 6) :: st) h P) : Rr M kc ks pc ls (.ref r :: st) h P := R_getF 6 6 ok6 (by decide) rfl rfl hd hw ho kk
theorem S6_6 {i r x : Nat} (hd : decode M.2.1 pc = .ok (.putfield i, 3)) (hw : Cond.fieldLink M.1.cls i RX6 "bestRow" "[I" ∈ TBG) (hi : M.1.name = "<init>" ∧ RX6 = M.1.cls) (ho : isO h 6 r) (kk : Rr M kc ks (pc + 3) ls st (sF h r 6 x) P) : Rr M kc ks pc ls (.ref x :: .ref r :: st) h P := R_putF (ty := (.array .int)) 6 6 ok6 (by decide) rfl rfl hd hw (Or.inr hi) ho (by decide +kernel) (Or.inr ⟨_, rfl⟩) kk
theorem G7_0 {i r : Nat} (hd : decode M.2.1 pc = .ok (.getfield i, 3)) (hw : Cond.fieldLink M.1.cls i RX7 "size" "I" ∈ TBG) (ho : isO h 7 r) (kk : Rr M kc ks (pc + 3) ls (.int (gI h r 0) :: st) h P) : Rr M kc ks pc ls (.ref r :: st) h P := R_getI 7 0 ok7 (by decide) rfl rfl hd hw ho kk
theorem S7_0 {i r : Nat} {x : Int32} (hd : decode M.2.1 pc = .ok (.putfield i, 3)) (hw : Cond.fieldLink M.1.cls i RX7 "size" "I" ∈ TBG) (ho : isO h 7 r) (kk : Rr M kc ks (pc + 3) ls st (sI h r 0 x) P) : Rr M kc ks pc ls (.int x :: .ref r :: st) h P := R_putI (ty := .int) 7 0 ok7 (by decide) rfl rfl hd hw (Or.inl rfl) ho (by decide +kernel) rfl rfl kk
theorem G7_1 {i r : Nat} (hd : decode M.2.1 pc = .ok (.getfield i, 3)) (hw : Cond.fieldLink M.1.cls i RX7 "rights" "I" ∈ TBG) (ho : isO h 7 r) (kk : Rr M kc ks (pc + 3) ls (.int (gI h r 1) :: st) h P) : Rr M kc ks pc ls (.ref r :: st) h P := R_getI 7 1 ok7 (by decide) rfl rfl hd hw ho kk
theorem S7_1 {i r : Nat} {x : Int32} (hd : decode M.2.1 pc = .ok (.putfield i, 3)) (hw : Cond.fieldLink M.1.cls i RX7 "rights" "I" ∈ TBG) (ho : isO h 7 r) (kk : Rr M kc ks (pc + 3) ls st (sI h r 1 x) P) : Rr M kc ks pc ls (.int x :: .ref r :: st) h P := R_putI (ty := .int) 7 1 ok7 (by decide) rfl rfl hd hw (Or.inl rfl) ho (by decide +kernel) rfl rfl kk
theorem G7_2 {i r : Nat} (hd : decode M.2.1 pc = .ok (.getfield i, 3)) (hw : Cond.fieldLink M.1.cls i RX7 "latest" "I" ∈ TBG) (ho : isO h 7 r) (kk : Rr M kc ks (pc + 3) ls (.int (gI h r 2) :: st) h P) : Rr M kc ks pc ls (.ref r :: st) h P := R_getI 7 2 ok7 (by decide) rfl rfl hd hw ho kk
theorem S7_2 {i r : Nat} {x : Int32} (hd : decode M.2.1 pc = .ok (.putfield i, 3)) (hw : Cond.fieldLink M.1.cls i RX7 "latest" "I" ∈ TBG) (ho : isO h 7 r) (kk : Rr M kc ks (pc + 3) ls st (sI h r 2 x) P) : Rr M kc ks pc ls (.int x :: .ref r :: st) h P := R_putI (ty := .int) 7 2 ok7 (by decide) rfl rfl hd hw (Or.inl rfl) ho (by decide +kernel) rfl rfl kk
theorem G7_3 {i r : Nat} (hd : decode M.2.1 pc = .ok (.getfield i, 3)) (hw : Cond.fieldLink M.1.cls i RX7 "step" "[I" ∈ TBG) (ho : isO h 7 r) (kk : Rr M kc ks (pc + 3) ls (.ref (gF h r 3) :: st) h P) : Rr M kc ks pc ls (.ref r :: st) h P := R_getF 7 3 ok7 (by decide) rfl rfl hd hw ho kk
theorem S7_3 {i r x : Nat} (hd : decode M.2.1 pc = .ok (.putfield i, 3)) (hw : Cond.fieldLink M.1.cls i RX7 "step" "[I" ∈ TBG) (hi : M.1.name = "<init>" ∧ RX7 = M.1.cls) (ho : isO h 7 r) (kk : Rr M kc ks (pc + 3) ls st (sF h r 3 x) P) : Rr M kc ks pc ls (.ref x :: .ref r :: st) h P := R_putF (ty := (.array .int)) 7 3 ok7 (by decide) rfl rfl hd hw (Or.inr hi) ho (by decide +kernel) (Or.inr ⟨_, rfl⟩) kk
theorem G7_4 {i r : Nat} (hd : decode M.2.1 pc = .ok (.getfield i, 3)) (hw : Cond.fieldLink M.1.cls i RX7 "ink" "[I" ∈ TBG) (ho : isO h 7 r) (kk : Rr M kc ks (pc + 3) ls (.ref (gF h r 4) :: st) h P) : Rr M kc ks pc ls (.ref r :: st) h P := R_getF 7 4 ok7 (by decide) rfl rfl hd hw ho kk
theorem S7_4 {i r x : Nat} (hd : decode M.2.1 pc = .ok (.putfield i, 3)) (hw : Cond.fieldLink M.1.cls i RX7 "ink" "[I" ∈ TBG) (hi : M.1.name = "<init>" ∧ RX7 = M.1.cls) (ho : isO h 7 r) (kk : Rr M kc ks (pc + 3) ls st (sF h r 4 x) P) : Rr M kc ks pc ls (.ref x :: .ref r :: st) h P := R_putF (ty := (.array .int)) 7 4 ok7 (by decide) rfl rfl hd hw (Or.inr hi) ho (by decide +kernel) (Or.inr ⟨_, rfl⟩) kk
theorem G7_5 {i r : Nat} (hd : decode M.2.1 pc = .ok (.getfield i, 3)) (hw : Cond.fieldLink M.1.cls i RX7 "mark" "[I" ∈ TBG) (ho : isO h 7 r) (kk : Rr M kc ks (pc + 3) ls (.ref (gF h r 5) :: st) h P) : Rr M kc ks pc ls (.ref r :: st) h P := R_getF 7 5 ok7 (by decide) rfl rfl hd hw ho kk
theorem S7_5 {i r x : Nat} (hd : decode M.2.1 pc = .ok (.putfield i, 3)) (hw : Cond.fieldLink M.1.cls i RX7 "mark" "[I" ∈ TBG) (hi : M.1.name = "<init>" ∧ RX7 = M.1.cls) (ho : isO h 7 r) (kk : Rr M kc ks (pc + 3) ls st (sF h r 5 x) P) : Rr M kc ks pc ls (.ref x :: .ref r :: st) h P := R_putF (ty := (.array .int)) 7 5 ok7 (by decide) rfl rfl hd hw (Or.inr hi) ho (by decide +kernel) (Or.inr ⟨_, rfl⟩) kk
theorem G7_6 {i r : Nat} (hd : decode M.2.1 pc = .ok (.getfield i, 3)) (hw : Cond.fieldLink M.1.cls i RX7 "across" "[I" ∈ TBG) (ho : isO h 7 r) (kk : Rr M kc ks (pc + 3) ls (.ref (gF h r 6) :: st) h P) : Rr M kc ks pc ls (.ref r :: st) h P := R_getF 7 6 ok7 (by decide) rfl rfl hd hw ho kk
theorem S7_6 {i r x : Nat} (hd : decode M.2.1 pc = .ok (.putfield i, 3)) (hw : Cond.fieldLink M.1.cls i RX7 "across" "[I" ∈ TBG) (hi : M.1.name = "<init>" ∧ RX7 = M.1.cls) (ho : isO h 7 r) (kk : Rr M kc ks (pc + 3) ls st (sF h r 6 x) P) : Rr M kc ks pc ls (.ref x :: .ref r :: st) h P := R_putF (ty := (.array .int)) 7 6 ok7 (by decide) rfl rfl hd hw (Or.inr hi) ho (by decide +kernel) (Or.inr ⟨_, rfl⟩) kk
theorem G7_7 {i r : Nat} (hd : decode M.2.1 pc = .ok (.getfield i, 3)) (hw : Cond.fieldLink M.1.cls i RX7 "up" "[I" ∈ TBG) (ho : isO h 7 r) (kk : Rr M kc ks (pc + 3) ls (.ref (gF h r 7) :: st) h P) : Rr M kc ks pc ls (.ref r :: st) h P := R_getF 7 7 ok7 (by decide) rfl rfl hd hw ho kk
theorem S7_7 {i r x : Nat} (hd : decode M.2.1 pc = .ok (.putfield i, 3)) (hw : Cond.fieldLink M.1.cls i RX7 "up" "[I" ∈ TBG) (hi : M.1.name = "<init>" ∧ RX7 = M.1.cls) (ho : isO h 7 r) (kk : Rr M kc ks (pc + 3) ls st (sF h r 7 x) P) : Rr M kc ks pc ls (.ref x :: .ref r :: st) h P := R_putF (ty := (.array .int)) 7 7 ok7 (by decide) rfl rfl hd hw (Or.inr hi) ho (by decide +kernel) (Or.inr ⟨_, rfl⟩) kk
theorem G7_8 {i r : Nat} (hd : decode M.2.1 pc = .ok (.getfield i, 3)) (hw : Cond.fieldLink M.1.cls i RX7 "rightOf" "[I" ∈ TBG) (ho : isO h 7 r) (kk : Rr M kc ks (pc + 3) ls (.ref (gF h r 8) :: st) h P) : Rr M kc ks pc ls (.ref r :: st) h P := R_getF 7 8 ok7 (by decide) rfl rfl hd hw ho kk
theorem S7_8 {i r x : Nat} (hd : decode M.2.1 pc = .ok (.putfield i, 3)) (hw : Cond.fieldLink M.1.cls i RX7 "rightOf" "[I" ∈ TBG) (hi : M.1.name = "<init>" ∧ RX7 = M.1.cls) (ho : isO h 7 r) (kk : Rr M kc ks (pc + 3) ls st (sF h r 8 x) P) : Rr M kc ks pc ls (.ref x :: .ref r :: st) h P := R_putF (ty := (.array .int)) 7 8 ok7 (by decide) rfl rfl hd hw (Or.inr hi) ho (by decide +kernel) (Or.inr ⟨_, rfl⟩) kk
theorem G7_9 {i r : Nat} (hd : decode M.2.1 pc = .ok (.getfield i, 3)) (hw : Cond.fieldLink M.1.cls i RX7 "rightStep" "[I" ∈ TBG) (ho : isO h 7 r) (kk : Rr M kc ks (pc + 3) ls (.ref (gF h r 9) :: st) h P) : Rr M kc ks pc ls (.ref r :: st) h P := R_getF 7 9 ok7 (by decide) rfl rfl hd hw ho kk
theorem S7_9 {i r x : Nat} (hd : decode M.2.1 pc = .ok (.putfield i, 3)) (hw : Cond.fieldLink M.1.cls i RX7 "rightStep" "[I" ∈ TBG) (hi : M.1.name = "<init>" ∧ RX7 = M.1.cls) (ho : isO h 7 r) (kk : Rr M kc ks (pc + 3) ls st (sF h r 9 x) P) : Rr M kc ks pc ls (.ref x :: .ref r :: st) h P := R_putF (ty := (.array .int)) 7 9 ok7 (by decide) rfl rfl hd hw (Or.inr hi) ho (by decide +kernel) (Or.inr ⟨_, rfl⟩) kk
theorem G7_10 {i r : Nat} (hd : decode M.2.1 pc = .ok (.getfield i, 3)) (hw : Cond.fieldLink M.1.cls i RX7 "rightAcross" "[I" ∈ TBG) (ho : isO h 7 r) (kk : Rr M kc ks (pc + 3) ls (.ref (gF h r 10) :: st) h P) : Rr M kc ks pc ls (.ref r :: st) h P := R_getF 7 10 ok7 (by decide) rfl rfl hd hw ho kk
theorem S7_10 {i r x : Nat} (hd : decode M.2.1 pc = .ok (.putfield i, 3)) (hw : Cond.fieldLink M.1.cls i RX7 "rightAcross" "[I" ∈ TBG) (hi : M.1.name = "<init>" ∧ RX7 = M.1.cls) (ho : isO h 7 r) (kk : Rr M kc ks (pc + 3) ls st (sF h r 10 x) P) : Rr M kc ks pc ls (.ref x :: .ref r :: st) h P := R_putF (ty := (.array .int)) 7 10 ok7 (by decide) rfl rfl hd hw (Or.inr hi) ho (by decide +kernel) (Or.inr ⟨_, rfl⟩) kk
theorem G7_11 {i r : Nat} (hd : decode M.2.1 pc = .ok (.getfield i, 3)) (hw : Cond.fieldLink M.1.cls i RX7 "rightUp" "[I" ∈ TBG) (ho : isO h 7 r) (kk : Rr M kc ks (pc + 3) ls (.ref (gF h r 11) :: st) h P) : Rr M kc ks pc ls (.ref r :: st) h P := R_getF 7 11 ok7 (by decide) rfl rfl hd hw ho kk
theorem S7_11 {i r x : Nat} (hd : decode M.2.1 pc = .ok (.putfield i, 3)) (hw : Cond.fieldLink M.1.cls i RX7 "rightUp" "[I" ∈ TBG) (hi : M.1.name = "<init>" ∧ RX7 = M.1.cls) (ho : isO h 7 r) (kk : Rr M kc ks (pc + 3) ls st (sF h r 11 x) P) : Rr M kc ks pc ls (.ref x :: .ref r :: st) h P := R_putF (ty := (.array .int)) 7 11 ok7 (by decide) rfl rfl hd hw (Or.inr hi) ho (by decide +kernel) (Or.inr ⟨_, rfl⟩) kk
theorem G8_0 {i r : Nat} (hd : decode M.2.1 pc = .ok (.getfield i, 3)) (hw : Cond.fieldLink M.1.cls i RX8 "size" "I" ∈ TBG) (ho : isO h 8 r) (kk : Rr M kc ks (pc + 3) ls (.int (gI h r 0) :: st) h P) : Rr M kc ks pc ls (.ref r :: st) h P := R_getI 8 0 ok8 (by decide) rfl rfl hd hw ho kk
theorem S8_0 {i r : Nat} {x : Int32} (hd : decode M.2.1 pc = .ok (.putfield i, 3)) (hw : Cond.fieldLink M.1.cls i RX8 "size" "I" ∈ TBG) (ho : isO h 8 r) (kk : Rr M kc ks (pc + 3) ls st (sI h r 0 x) P) : Rr M kc ks pc ls (.int x :: .ref r :: st) h P := R_putI (ty := .int) 8 0 ok8 (by decide) rfl rfl hd hw (Or.inl rfl) ho (by decide +kernel) rfl rfl kk
theorem G8_1 {i r : Nat} (hd : decode M.2.1 pc = .ok (.getfield i, 3)) (hw : Cond.fieldLink M.1.cls i RX8 "p" "[I" ∈ TBG) (ho : isO h 8 r) (kk : Rr M kc ks (pc + 3) ls (.ref (gF h r 1) :: st) h P) : Rr M kc ks pc ls (.ref r :: st) h P := R_getF 8 1 ok8 (by decide) rfl rfl hd hw ho kk
theorem S8_1 {i r x : Nat} (hd : decode M.2.1 pc = .ok (.putfield i, 3)) (hw : Cond.fieldLink M.1.cls i RX8 "p" "[I" ∈ TBG) (hi : M.1.name = "<init>" ∧ RX8 = M.1.cls) (ho : isO h 8 r) (kk : Rr M kc ks (pc + 3) ls st (sF h r 1 x) P) : Rr M kc ks pc ls (.ref x :: .ref r :: st) h P := R_putF (ty := (.array .int)) 8 1 ok8 (by decide) rfl rfl hd hw (Or.inr hi) ho (by decide +kernel) (Or.inr ⟨_, rfl⟩) kk
theorem G8_2 {i r : Nat} (hd : decode M.2.1 pc = .ok (.getfield i, 3)) (hw : Cond.fieldLink M.1.cls i RX8 "q" "[I" ∈ TBG) (ho : isO h 8 r) (kk : Rr M kc ks (pc + 3) ls (.ref (gF h r 2) :: st) h P) : Rr M kc ks pc ls (.ref r :: st) h P := R_getF 8 2 ok8 (by decide) rfl rfl hd hw ho kk
theorem S8_2 {i r x : Nat} (hd : decode M.2.1 pc = .ok (.putfield i, 3)) (hw : Cond.fieldLink M.1.cls i RX8 "q" "[I" ∈ TBG) (hi : M.1.name = "<init>" ∧ RX8 = M.1.cls) (ho : isO h 8 r) (kk : Rr M kc ks (pc + 3) ls st (sF h r 2 x) P) : Rr M kc ks pc ls (.ref x :: .ref r :: st) h P := R_putF (ty := (.array .int)) 8 2 ok8 (by decide) rfl rfl hd hw (Or.inr hi) ho (by decide +kernel) (Or.inr ⟨_, rfl⟩) kk
theorem G8_3 {i r : Nat} (hd : decode M.2.1 pc = .ok (.getfield i, 3)) (hw : Cond.fieldLink M.1.cls i RX8 "setting" "[I" ∈ TBG) (ho : isO h 8 r) (kk : Rr M kc ks (pc + 3) ls (.ref (gF h r 3) :: st) h P) : Rr M kc ks pc ls (.ref r :: st) h P := R_getF 8 3 ok8 (by decide) rfl rfl hd hw ho kk
theorem S8_3 {i r x : Nat} (hd : decode M.2.1 pc = .ok (.putfield i, 3)) (hw : Cond.fieldLink M.1.cls i RX8 "setting" "[I" ∈ TBG) (hi : M.1.name = "<init>" ∧ RX8 = M.1.cls) (ho : isO h 8 r) (kk : Rr M kc ks (pc + 3) ls st (sF h r 3 x) P) : Rr M kc ks pc ls (.ref x :: .ref r :: st) h P := R_putF (ty := (.array .int)) 8 3 ok8 (by decide) rfl rfl hd hw (Or.inr hi) ho (by decide +kernel) (Or.inr ⟨_, rfl⟩) kk
theorem G9_0 {i r : Nat} (hd : decode M.2.1 pc = .ok (.getfield i, 3)) (hw : Cond.fieldLink M.1.cls i RX9 "bytes" "[B" ∈ TBG) (ho : isO h 9 r) (kk : Rr M kc ks (pc + 3) ls (.ref (gF h r 0) :: st) h P) : Rr M kc ks pc ls (.ref r :: st) h P := R_getF 9 0 ok9 (by decide) rfl rfl hd hw ho kk
theorem S9_0 {i r x : Nat} (hd : decode M.2.1 pc = .ok (.putfield i, 3)) (hw : Cond.fieldLink M.1.cls i RX9 "bytes" "[B" ∈ TBG) (hi : M.1.name = "<init>" ∧ RX9 = M.1.cls) (ho : isO h 9 r) (kk : Rr M kc ks (pc + 3) ls st (sF h r 0 x) P) : Rr M kc ks pc ls (.ref x :: .ref r :: st) h P := R_putF (ty := (.array .byte)) 9 0 ok9 (by decide) rfl rfl hd hw (Or.inr hi) ho (by decide +kernel) (Or.inr ⟨_, rfl⟩) kk
theorem G9_1 {i r : Nat} (hd : decode M.2.1 pc = .ok (.getfield i, 3)) (hw : Cond.fieldLink M.1.cls i RX9 "at" "I" ∈ TBG) (ho : isO h 9 r) (kk : Rr M kc ks (pc + 3) ls (.int (gI h r 1) :: st) h P) : Rr M kc ks pc ls (.ref r :: st) h P := R_getI 9 1 ok9 (by decide) rfl rfl hd hw ho kk
theorem S9_1 {i r : Nat} {x : Int32} (hd : decode M.2.1 pc = .ok (.putfield i, 3)) (hw : Cond.fieldLink M.1.cls i RX9 "at" "I" ∈ TBG) (ho : isO h 9 r) (kk : Rr M kc ks (pc + 3) ls st (sI h r 1 x) P) : Rr M kc ks pc ls (.int x :: .ref r :: st) h P := R_putI (ty := .int) 9 1 ok9 (by decide) rfl rfl hd hw (Or.inl rfl) ho (by decide +kernel) rfl rfl kk
theorem G9_2 {i r : Nat} (hd : decode M.2.1 pc = .ok (.getfield i, 3)) (hw : Cond.fieldLink M.1.cls i RX9 "length" "I" ∈ TBG) (ho : isO h 9 r) (kk : Rr M kc ks (pc + 3) ls (.int (gI h r 2) :: st) h P) : Rr M kc ks pc ls (.ref r :: st) h P := R_getI 9 2 ok9 (by decide) rfl rfl hd hw ho kk
theorem S9_2 {i r : Nat} {x : Int32} (hd : decode M.2.1 pc = .ok (.putfield i, 3)) (hw : Cond.fieldLink M.1.cls i RX9 "length" "I" ∈ TBG) (ho : isO h 9 r) (kk : Rr M kc ks (pc + 3) ls st (sI h r 2 x) P) : Rr M kc ks pc ls (.int x :: .ref r :: st) h P := R_putI (ty := .int) 9 2 ok9 (by decide) rfl rfl hd hw (Or.inl rfl) ho (by decide +kernel) rfl rfl kk
theorem G9_3 {i r : Nat} (hd : decode M.2.1 pc = .ok (.getfield i, 3)) (hw : Cond.fieldLink M.1.cls i RX9 "kind" "I" ∈ TBG) (ho : isO h 9 r) (kk : Rr M kc ks (pc + 3) ls (.int (gI h r 3) :: st) h P) : Rr M kc ks pc ls (.ref r :: st) h P := R_getI 9 3 ok9 (by decide) rfl rfl hd hw ho kk
theorem S9_3 {i r : Nat} {x : Int32} (hd : decode M.2.1 pc = .ok (.putfield i, 3)) (hw : Cond.fieldLink M.1.cls i RX9 "kind" "I" ∈ TBG) (ho : isO h 9 r) (kk : Rr M kc ks (pc + 3) ls st (sI h r 3 x) P) : Rr M kc ks pc ls (.int x :: .ref r :: st) h P := R_putI (ty := .int) 9 3 ok9 (by decide) rfl rfl hd hw (Or.inl rfl) ho (by decide +kernel) rfl rfl kk
theorem G9_4 {i r : Nat} (hd : decode M.2.1 pc = .ok (.getfield i, 3)) (hw : Cond.fieldLink M.1.cls i RX9 "start" "I" ∈ TBG) (ho : isO h 9 r) (kk : Rr M kc ks (pc + 3) ls (.int (gI h r 4) :: st) h P) : Rr M kc ks pc ls (.ref r :: st) h P := R_getI 9 4 ok9 (by decide) rfl rfl hd hw ho kk
theorem S9_4 {i r : Nat} {x : Int32} (hd : decode M.2.1 pc = .ok (.putfield i, 3)) (hw : Cond.fieldLink M.1.cls i RX9 "start" "I" ∈ TBG) (ho : isO h 9 r) (kk : Rr M kc ks (pc + 3) ls st (sI h r 4 x) P) : Rr M kc ks pc ls (.int x :: .ref r :: st) h P := R_putI (ty := .int) 9 4 ok9 (by decide) rfl rfl hd hw (Or.inl rfl) ho (by decide +kernel) rfl rfl kk
theorem G9_5 {i r : Nat} (hd : decode M.2.1 pc = .ok (.getfield i, 3)) (hw : Cond.fieldLink M.1.cls i RX9 "value" "I" ∈ TBG) (ho : isO h 9 r) (kk : Rr M kc ks (pc + 3) ls (.int (gI h r 5) :: st) h P) : Rr M kc ks pc ls (.ref r :: st) h P := R_getI 9 5 ok9 (by decide) rfl rfl hd hw ho kk
theorem S9_5 {i r : Nat} {x : Int32} (hd : decode M.2.1 pc = .ok (.putfield i, 3)) (hw : Cond.fieldLink M.1.cls i RX9 "value" "I" ∈ TBG) (ho : isO h 9 r) (kk : Rr M kc ks (pc + 3) ls st (sI h r 5 x) P) : Rr M kc ks pc ls (.int x :: .ref r :: st) h P := R_putI (ty := .int) 9 5 ok9 (by decide) rfl rfl hd hw (Or.inl rfl) ho (by decide +kernel) rfl rfl kk
theorem G10_0 {i r : Nat} (hd : decode M.2.1 pc = .ok (.getfield i, 3)) (hw : Cond.fieldLink M.1.cls i RX10 "greys" "[I" ∈ TBG) (ho : isO h 10 r) (kk : Rr M kc ks (pc + 3) ls (.ref (gF h r 0) :: st) h P) : Rr M kc ks pc ls (.ref r :: st) h P := R_getF 10 0 ok10 (by decide) rfl rfl hd hw ho kk
theorem S10_0 {i r x : Nat} (hd : decode M.2.1 pc = .ok (.putfield i, 3)) (hw : Cond.fieldLink M.1.cls i RX10 "greys" "[I" ∈ TBG) (hi : M.1.name = "<init>" ∧ RX10 = M.1.cls) (ho : isO h 10 r) (kk : Rr M kc ks (pc + 3) ls st (sF h r 0 x) P) : Rr M kc ks pc ls (.ref x :: .ref r :: st) h P := R_putF (ty := (.array .int)) 10 0 ok10 (by decide) rfl rfl hd hw (Or.inr hi) ho (by decide +kernel) (Or.inr ⟨_, rfl⟩) kk
theorem G10_1 {i r : Nat} (hd : decode M.2.1 pc = .ok (.getfield i, 3)) (hw : Cond.fieldLink M.1.cls i RX10 "fewest" "[I" ∈ TBG) (ho : isO h 10 r) (kk : Rr M kc ks (pc + 3) ls (.ref (gF h r 1) :: st) h P) : Rr M kc ks pc ls (.ref r :: st) h P := R_getF 10 1 ok10 (by decide) rfl rfl hd hw ho kk
theorem S10_1 {i r x : Nat} (hd : decode M.2.1 pc = .ok (.putfield i, 3)) (hw : Cond.fieldLink M.1.cls i RX10 "fewest" "[I" ∈ TBG) (hi : M.1.name = "<init>" ∧ RX10 = M.1.cls) (ho : isO h 10 r) (kk : Rr M kc ks (pc + 3) ls st (sF h r 1 x) P) : Rr M kc ks pc ls (.ref x :: .ref r :: st) h P := R_putF (ty := (.array .int)) 10 1 ok10 (by decide) rfl rfl hd hw (Or.inr hi) ho (by decide +kernel) (Or.inr ⟨_, rfl⟩) kk
theorem G10_2 {i r : Nat} (hd : decode M.2.1 pc = .ok (.getfield i, 3)) (hw : Cond.fieldLink M.1.cls i RX10 "most" "[I" ∈ TBG) (ho : isO h 10 r) (kk : Rr M kc ks (pc + 3) ls (.ref (gF h r 2) :: st) h P) : Rr M kc ks pc ls (.ref r :: st) h P := R_getF 10 2 ok10 (by decide) rfl rfl hd hw ho kk
theorem S10_2 {i r x : Nat} (hd : decode M.2.1 pc = .ok (.putfield i, 3)) (hw : Cond.fieldLink M.1.cls i RX10 "most" "[I" ∈ TBG) (hi : M.1.name = "<init>" ∧ RX10 = M.1.cls) (ho : isO h 10 r) (kk : Rr M kc ks (pc + 3) ls st (sF h r 2 x) P) : Rr M kc ks pc ls (.ref x :: .ref r :: st) h P := R_putF (ty := (.array .int)) 10 2 ok10 (by decide) rfl rfl hd hw (Or.inr hi) ho (by decide +kernel) (Or.inr ⟨_, rfl⟩) kk
theorem G10_3 {i r : Nat} (hd : decode M.2.1 pc = .ok (.getfield i, 3)) (hw : Cond.fieldLink M.1.cls i RX10 "weights" "[[I" ∈ TBG) (ho : isO h 10 r) (kk : Rr M kc ks (pc + 3) ls (.ref (gF h r 3) :: st) h P) : Rr M kc ks pc ls (.ref r :: st) h P := R_getF 10 3 ok10 (by decide) rfl rfl hd hw ho kk
theorem S10_3 {i r x : Nat} (hd : decode M.2.1 pc = .ok (.putfield i, 3)) (hw : Cond.fieldLink M.1.cls i RX10 "weights" "[[I" ∈ TBG) (hi : M.1.name = "<init>" ∧ RX10 = M.1.cls) (ho : isO h 10 r) (kk : Rr M kc ks (pc + 3) ls st (sF h r 3 x) P) : Rr M kc ks pc ls (.ref x :: .ref r :: st) h P := R_putF (ty := (.array (.array .int))) 10 3 ok10 (by decide) rfl rfl hd hw (Or.inr hi) ho (by decide +kernel) (Or.inr ⟨_, rfl⟩) kk
theorem G10_4 {i r : Nat} (hd : decode M.2.1 pc = .ok (.getfield i, 3)) (hw : Cond.fieldLink M.1.cls i RX10 "zones" "I" ∈ TBG) (ho : isO h 10 r) (kk : Rr M kc ks (pc + 3) ls (.int (gI h r 4) :: st) h P) : Rr M kc ks pc ls (.ref r :: st) h P := R_getI 10 4 ok10 (by decide) rfl rfl hd hw ho kk
theorem S10_4 {i r : Nat} {x : Int32} (hd : decode M.2.1 pc = .ok (.putfield i, 3)) (hw : Cond.fieldLink M.1.cls i RX10 "zones" "I" ∈ TBG) (ho : isO h 10 r) (kk : Rr M kc ks (pc + 3) ls st (sI h r 4 x) P) : Rr M kc ks pc ls (.int x :: .ref r :: st) h P := R_putI (ty := .int) 10 4 ok10 (by decide) rfl rfl hd hw (Or.inl rfl) ho (by decide +kernel) rfl rfl kk
theorem G10_5 {i r : Nat} (hd : decode M.2.1 pc = .ok (.getfield i, 3)) (hw : Cond.fieldLink M.1.cls i RX10 "layers" "[I" ∈ TBG) (ho : isO h 10 r) (kk : Rr M kc ks (pc + 3) ls (.ref (gF h r 5) :: st) h P) : Rr M kc ks pc ls (.ref r :: st) h P := R_getF 10 5 ok10 (by decide) rfl rfl hd hw ho kk
theorem S10_5 {i r x : Nat} (hd : decode M.2.1 pc = .ok (.putfield i, 3)) (hw : Cond.fieldLink M.1.cls i RX10 "layers" "[I" ∈ TBG) (hi : M.1.name = "<init>" ∧ RX10 = M.1.cls) (ho : isO h 10 r) (kk : Rr M kc ks (pc + 3) ls st (sF h r 5 x) P) : Rr M kc ks pc ls (.ref x :: .ref r :: st) h P := R_putF (ty := (.array .int)) 10 5 ok10 (by decide) rfl rfl hd hw (Or.inr hi) ho (by decide +kernel) (Or.inr ⟨_, rfl⟩) kk
theorem G10_6 {i r : Nat} (hd : decode M.2.1 pc = .ok (.getfield i, 3)) (hw : Cond.fieldLink M.1.cls i RX10 "layersInAll" "I" ∈ TBG) (ho : isO h 10 r) (kk : Rr M kc ks (pc + 3) ls (.int (gI h r 6) :: st) h P) : Rr M kc ks pc ls (.ref r :: st) h P := R_getI 10 6 ok10 (by decide) rfl rfl hd hw ho kk
theorem S10_6 {i r : Nat} {x : Int32} (hd : decode M.2.1 pc = .ok (.putfield i, 3)) (hw : Cond.fieldLink M.1.cls i RX10 "layersInAll" "I" ∈ TBG) (ho : isO h 10 r) (kk : Rr M kc ks (pc + 3) ls st (sI h r 6 x) P) : Rr M kc ks pc ls (.int x :: .ref r :: st) h P := R_putI (ty := .int) 10 6 ok10 (by decide) rfl rfl hd hw (Or.inl rfl) ho (by decide +kernel) rfl rfl kk
theorem G11_0 {i r : Nat} (hd : decode M.2.1 pc = .ok (.getfield i, 3)) (hw : Cond.fieldLink M.1.cls i RX11 "text" "LFourInks$JobText;" ∈ TBG) (ho : isO h 11 r) (kk : Rr M kc ks (pc + 3) ls (.ref (gF h r 0) :: st) h P) : Rr M kc ks pc ls (.ref r :: st) h P := R_getF 11 0 ok11 (by decide) rfl rfl hd hw ho kk
theorem S11_0 {i r x : Nat} (hd : decode M.2.1 pc = .ok (.putfield i, 3)) (hw : Cond.fieldLink M.1.cls i RX11 "text" "LFourInks$JobText;" ∈ TBG) (hi : M.1.name = "<init>" ∧ RX11 = M.1.cls) (ho : isO h 11 r) (kk : Rr M kc ks (pc + 3) ls st (sF h r 0 x) P) : Rr M kc ks pc ls (.ref x :: .ref r :: st) h P := R_putF (ty := (.object "FourInks$JobText")) 11 0 ok11 (by decide) rfl rfl hd hw (Or.inr hi) ho (by decide +kernel) (Or.inl ⟨_, rfl⟩) kk
theorem G11_1 {i r : Nat} (hd : decode M.2.1 pc = .ok (.getfield i, 3)) (hw : Cond.fieldLink M.1.cls i RX11 "tape" "LFourInks$Tape;" ∈ TBG) (ho : isO h 11 r) (kk : Rr M kc ks (pc + 3) ls (.ref (gF h r 1) :: st) h P) : Rr M kc ks pc ls (.ref r :: st) h P := R_getF 11 1 ok11 (by decide) rfl rfl hd hw ho kk
theorem S11_1 {i r x : Nat} (hd : decode M.2.1 pc = .ok (.putfield i, 3)) (hw : Cond.fieldLink M.1.cls i RX11 "tape" "LFourInks$Tape;" ∈ TBG) (hi : M.1.name = "<init>" ∧ RX11 = M.1.cls) (ho : isO h 11 r) (kk : Rr M kc ks (pc + 3) ls st (sF h r 1 x) P) : Rr M kc ks pc ls (.ref x :: .ref r :: st) h P := R_putF (ty := (.object "FourInks$Tape")) 11 1 ok11 (by decide) rfl rfl hd hw (Or.inr hi) ho (by decide +kernel) (Or.inl ⟨_, rfl⟩) kk
theorem G11_2 {i r : Nat} (hd : decode M.2.1 pc = .ok (.getfield i, 3)) (hw : Cond.fieldLink M.1.cls i RX11 "job" "LFourInks$Job;" ∈ TBG) (ho : isO h 11 r) (kk : Rr M kc ks (pc + 3) ls (.ref (gF h r 2) :: st) h P) : Rr M kc ks pc ls (.ref r :: st) h P := R_getF 11 2 ok11 (by decide) rfl rfl hd hw ho kk
theorem S11_2 {i r x : Nat} (hd : decode M.2.1 pc = .ok (.putfield i, 3)) (hw : Cond.fieldLink M.1.cls i RX11 "job" "LFourInks$Job;" ∈ TBG) (ho : isO h 11 r) (kk : Rr M kc ks (pc + 3) ls st (sF h r 2 x) P) : Rr M kc ks pc ls (.ref x :: .ref r :: st) h P := R_putF (ty := (.object "FourInks$Job")) 11 2 ok11 (by decide) rfl rfl hd hw (Or.inl rfl) ho (by decide +kernel) (Or.inl ⟨_, rfl⟩) kk
theorem G11_3 {i r : Nat} (hd : decode M.2.1 pc = .ok (.getfield i, 3)) (hw : Cond.fieldLink M.1.cls i RX11 "readings" "LFourInks$Readings;" ∈ TBG) (ho : isO h 11 r) (kk : Rr M kc ks (pc + 3) ls (.ref (gF h r 3) :: st) h P) : Rr M kc ks pc ls (.ref r :: st) h P := R_getF 11 3 ok11 (by decide) rfl rfl hd hw ho kk
theorem S11_3 {i r x : Nat} (hd : decode M.2.1 pc = .ok (.putfield i, 3)) (hw : Cond.fieldLink M.1.cls i RX11 "readings" "LFourInks$Readings;" ∈ TBG) (hi : M.1.name = "<init>" ∧ RX11 = M.1.cls) (ho : isO h 11 r) (kk : Rr M kc ks (pc + 3) ls st (sF h r 3 x) P) : Rr M kc ks pc ls (.ref x :: .ref r :: st) h P := R_putF (ty := (.object "FourInks$Readings")) 11 3 ok11 (by decide) rfl rfl hd hw (Or.inr hi) ho (by decide +kernel) (Or.inl ⟨_, rfl⟩) kk
theorem G11_4 {i r : Nat} (hd : decode M.2.1 pc = .ok (.getfield i, 3)) (hw : Cond.fieldLink M.1.cls i RX11 "fit" "LFourInks$Fit;" ∈ TBG) (ho : isO h 11 r) (kk : Rr M kc ks (pc + 3) ls (.ref (gF h r 4) :: st) h P) : Rr M kc ks pc ls (.ref r :: st) h P := R_getF 11 4 ok11 (by decide) rfl rfl hd hw ho kk
theorem S11_4 {i r x : Nat} (hd : decode M.2.1 pc = .ok (.putfield i, 3)) (hw : Cond.fieldLink M.1.cls i RX11 "fit" "LFourInks$Fit;" ∈ TBG) (hi : M.1.name = "<init>" ∧ RX11 = M.1.cls) (ho : isO h 11 r) (kk : Rr M kc ks (pc + 3) ls st (sF h r 4 x) P) : Rr M kc ks pc ls (.ref x :: .ref r :: st) h P := R_putF (ty := (.object "FourInks$Fit")) 11 4 ok11 (by decide) rfl rfl hd hw (Or.inr hi) ho (by decide +kernel) (Or.inl ⟨_, rfl⟩) kk
theorem G11_5 {i r : Nat} (hd : decode M.2.1 pc = .ok (.getfield i, 3)) (hw : Cond.fieldLink M.1.cls i RX11 "mending" "LFourInks$Mending;" ∈ TBG) (ho : isO h 11 r) (kk : Rr M kc ks (pc + 3) ls (.ref (gF h r 5) :: st) h P) : Rr M kc ks pc ls (.ref r :: st) h P := R_getF 11 5 ok11 (by decide) rfl rfl hd hw ho kk
theorem S11_5 {i r x : Nat} (hd : decode M.2.1 pc = .ok (.putfield i, 3)) (hw : Cond.fieldLink M.1.cls i RX11 "mending" "LFourInks$Mending;" ∈ TBG) (hi : M.1.name = "<init>" ∧ RX11 = M.1.cls) (ho : isO h 11 r) (kk : Rr M kc ks (pc + 3) ls st (sF h r 5 x) P) : Rr M kc ks pc ls (.ref x :: .ref r :: st) h P := R_putF (ty := (.object "FourInks$Mending")) 11 5 ok11 (by decide) rfl rfl hd hw (Or.inr hi) ho (by decide +kernel) (Or.inl ⟨_, rfl⟩) kk
theorem G11_6 {i r : Nat} (hd : decode M.2.1 pc = .ok (.getfield i, 3)) (hw : Cond.fieldLink M.1.cls i RX11 "meeting" "LFourInks$Meeting;" ∈ TBG) (ho : isO h 11 r) (kk : Rr M kc ks (pc + 3) ls (.ref (gF h r 6) :: st) h P) : Rr M kc ks pc ls (.ref r :: st) h P := R_getF 11 6 ok11 (by decide) rfl rfl hd hw ho kk
theorem S11_6 {i r x : Nat} (hd : decode M.2.1 pc = .ok (.putfield i, 3)) (hw : Cond.fieldLink M.1.cls i RX11 "meeting" "LFourInks$Meeting;" ∈ TBG) (hi : M.1.name = "<init>" ∧ RX11 = M.1.cls) (ho : isO h 11 r) (kk : Rr M kc ks (pc + 3) ls st (sF h r 6 x) P) : Rr M kc ks pc ls (.ref x :: .ref r :: st) h P := R_putF (ty := (.object "FourInks$Meeting")) 11 6 ok11 (by decide) rfl rfl hd hw (Or.inr hi) ho (by decide +kernel) (Or.inl ⟨_, rfl⟩) kk
theorem G11_7 {i r : Nat} (hd : decode M.2.1 pc = .ok (.getfield i, 3)) (hw : Cond.fieldLink M.1.cls i RX11 "proof" "[LFourInks$Board;" ∈ TBG) (ho : isO h 11 r) (kk : Rr M kc ks (pc + 3) ls (.ref (gF h r 7) :: st) h P) : Rr M kc ks pc ls (.ref r :: st) h P := R_getF 11 7 ok11 (by decide) rfl rfl hd hw ho kk
theorem S11_7 {i r x : Nat} (hd : decode M.2.1 pc = .ok (.putfield i, 3)) (hw : Cond.fieldLink M.1.cls i RX11 "proof" "[LFourInks$Board;" ∈ TBG) (hi : M.1.name = "<init>" ∧ RX11 = M.1.cls) (ho : isO h 11 r) (kk : Rr M kc ks (pc + 3) ls st (sF h r 7 x) P) : Rr M kc ks pc ls (.ref x :: .ref r :: st) h P := R_putF (ty := (.array (.object "FourInks$Board"))) 11 7 ok11 (by decide) rfl rfl hd hw (Or.inr hi) ho (by decide +kernel) (Or.inr ⟨_, rfl⟩) kk
theorem G11_8 {i r : Nat} (hd : decode M.2.1 pc = .ok (.getfield i, 3)) (hw : Cond.fieldLink M.1.cls i RX11 "signed" "Z" ∈ TBG) (ho : isO h 11 r) (kk : Rr M kc ks (pc + 3) ls (.int (gI h r 8) :: st) h P) : Rr M kc ks pc ls (.ref r :: st) h P := R_getI 11 8 ok11 (by decide) rfl rfl hd hw ho kk
theorem S11_8 {i r : Nat} {x : Int32} (hd : decode M.2.1 pc = .ok (.putfield i, 3)) (hw : Cond.fieldLink M.1.cls i RX11 "signed" "Z" ∈ TBG) (ho : isO h 11 r) (hn : narrow .boolean (.int x) = .int x) (hft : fits .boolean (.int x) = true) (kk : Rr M kc ks (pc + 3) ls st (sI h r 8 x) P) : Rr M kc ks pc ls (.int x :: .ref r :: st) h P := R_putI (ty := .boolean) 11 8 ok11 (by decide) rfl rfl hd hw (Or.inl rfl) ho (by decide +kernel) hn hft kk
theorem G11_9 {i r : Nat} (hd : decode M.2.1 pc = .ok (.getfield i, 3)) (hw : Cond.fieldLink M.1.cls i RX11 "moved" "LFourInks$Board;" ∈ TBG) (ho : isO h 11 r) (kk : Rr M kc ks (pc + 3) ls (.ref (gF h r 9) :: st) h P) : Rr M kc ks pc ls (.ref r :: st) h P := R_getF 11 9 ok11 (by decide) rfl rfl hd hw ho kk
theorem S11_9 {i r x : Nat} (hd : decode M.2.1 pc = .ok (.putfield i, 3)) (hw : Cond.fieldLink M.1.cls i RX11 "moved" "LFourInks$Board;" ∈ TBG) (hi : M.1.name = "<init>" ∧ RX11 = M.1.cls) (ho : isO h 11 r) (kk : Rr M kc ks (pc + 3) ls st (sF h r 9 x) P) : Rr M kc ks pc ls (.ref x :: .ref r :: st) h P := R_putF (ty := (.object "FourInks$Board")) 11 9 ok11 (by decide) rfl rfl hd hw (Or.inr hi) ho (by decide +kernel) (Or.inl ⟨_, rfl⟩) kk
theorem G11_10 {i r : Nat} (hd : decode M.2.1 pc = .ok (.getfield i, 3)) (hw : Cond.fieldLink M.1.cls i RX11 "marked" "LFourInks$Board;" ∈ TBG) (ho : isO h 11 r) (kk : Rr M kc ks (pc + 3) ls (.ref (gF h r 10) :: st) h P) : Rr M kc ks pc ls (.ref r :: st) h P := R_getF 11 10 ok11 (by decide) rfl rfl hd hw ho kk
theorem S11_10 {i r x : Nat} (hd : decode M.2.1 pc = .ok (.putfield i, 3)) (hw : Cond.fieldLink M.1.cls i RX11 "marked" "LFourInks$Board;" ∈ TBG) (hi : M.1.name = "<init>" ∧ RX11 = M.1.cls) (ho : isO h 11 r) (kk : Rr M kc ks (pc + 3) ls st (sF h r 10 x) P) : Rr M kc ks pc ls (.ref x :: .ref r :: st) h P := R_putF (ty := (.object "FourInks$Board")) 11 10 ok11 (by decide) rfl rfl hd hw (Or.inr hi) ho (by decide +kernel) (Or.inl ⟨_, rfl⟩) kk
theorem G11_11 {i r : Nat} (hd : decode M.2.1 pc = .ok (.getfield i, 3)) (hw : Cond.fieldLink M.1.cls i RX11 "run" "[I" ∈ TBG) (ho : isO h 11 r) (kk : Rr M kc ks (pc + 3) ls (.ref (gF h r 11) :: st) h P) : Rr M kc ks pc ls (.ref r :: st) h P := R_getF 11 11 ok11 (by decide) rfl rfl hd hw ho kk
theorem S11_11 {i r x : Nat} (hd : decode M.2.1 pc = .ok (.putfield i, 3)) (hw : Cond.fieldLink M.1.cls i RX11 "run" "[I" ∈ TBG) (hi : M.1.name = "<init>" ∧ RX11 = M.1.cls) (ho : isO h 11 r) (kk : Rr M kc ks (pc + 3) ls st (sF h r 11 x) P) : Rr M kc ks pc ls (.ref x :: .ref r :: st) h P := R_putF (ty := (.array .int)) 11 11 ok11 (by decide) rfl rfl hd hw (Or.inr hi) ho (by decide +kernel) (Or.inr ⟨_, rfl⟩) kk
theorem G11_12 {i r : Nat} (hd : decode M.2.1 pc = .ok (.getfield i, 3)) (hw : Cond.fieldLink M.1.cls i RX11 "halts" "LFourInks$Halts;" ∈ TBG) (ho : isO h 11 r) (kk : Rr M kc ks (pc + 3) ls (.ref (gF h r 12) :: st) h P) : Rr M kc ks pc ls (.ref r :: st) h P := R_getF 11 12 ok11 (by decide) rfl rfl hd hw ho kk
theorem S11_12 {i r x : Nat} (hd : decode M.2.1 pc = .ok (.putfield i, 3)) (hw : Cond.fieldLink M.1.cls i RX11 "halts" "LFourInks$Halts;" ∈ TBG) (hi : M.1.name = "<init>" ∧ RX11 = M.1.cls) (ho : isO h 11 r) (kk : Rr M kc ks (pc + 3) ls st (sF h r 12 x) P) : Rr M kc ks pc ls (.ref x :: .ref r :: st) h P := R_putF (ty := (.object "FourInks$Halts")) 11 12 ok11 (by decide) rfl rfl hd hw (Or.inr hi) ho (by decide +kernel) (Or.inl ⟨_, rfl⟩) kk
theorem G11_13 {i r : Nat} (hd : decode M.2.1 pc = .ok (.getfield i, 3)) (hw : Cond.fieldLink M.1.cls i RX11 "bed" "LFourInks$Tissue;" ∈ TBG) (ho : isO h 11 r) (kk : Rr M kc ks (pc + 3) ls (.ref (gF h r 13) :: st) h P) : Rr M kc ks pc ls (.ref r :: st) h P := R_getF 11 13 ok11 (by decide) rfl rfl hd hw ho kk
theorem S11_13 {i r x : Nat} (hd : decode M.2.1 pc = .ok (.putfield i, 3)) (hw : Cond.fieldLink M.1.cls i RX11 "bed" "LFourInks$Tissue;" ∈ TBG) (hi : M.1.name = "<init>" ∧ RX11 = M.1.cls) (ho : isO h 11 r) (kk : Rr M kc ks (pc + 3) ls st (sF h r 13 x) P) : Rr M kc ks pc ls (.ref x :: .ref r :: st) h P := R_putF (ty := (.object "FourInks$Tissue")) 11 13 ok11 (by decide) rfl rfl hd hw (Or.inr hi) ho (by decide +kernel) (Or.inl ⟨_, rfl⟩) kk
theorem G11_14 {i r : Nat} (hd : decode M.2.1 pc = .ok (.getfield i, 3)) (hw : Cond.fieldLink M.1.cls i RX11 "bestOrde\x72" "[I" ∈ TBG) (ho : isO h 11 r) (kk : Rr M kc ks (pc + 3) ls (.ref (gF h r 14) :: st) h P) : Rr M kc ks pc ls (.ref r :: st) h P := R_getF 11 14 ok11 (by decide) rfl rfl hd hw ho kk
theorem S11_14 {i r x : Nat} (hd : decode M.2.1 pc = .ok (.putfield i, 3)) (hw : Cond.fieldLink M.1.cls i RX11 "bestOrde\x72" "[I" ∈ TBG) (hi : M.1.name = "<init>" ∧ RX11 = M.1.cls) (ho : isO h 11 r) (kk : Rr M kc ks (pc + 3) ls st (sF h r 14 x) P) : Rr M kc ks pc ls (.ref x :: .ref r :: st) h P := R_putF (ty := (.array .int)) 11 14 ok11 (by decide) rfl rfl hd hw (Or.inr hi) ho (by decide +kernel) (Or.inr ⟨_, rfl⟩) kk
theorem G12_0 {i r : Nat} (hd : decode M.2.1 pc = .ok (.getfield i, 3)) (hw : Cond.fieldLink M.1.cls i RX12 "tape" "[B" ∈ TBG) (ho : isO h 12 r) (kk : Rr M kc ks (pc + 3) ls (.ref (gF h r 0) :: st) h P) : Rr M kc ks pc ls (.ref r :: st) h P := R_getF 12 0 ok12 (by decide) rfl rfl hd hw ho kk
theorem S12_0 {i r x : Nat} (hd : decode M.2.1 pc = .ok (.putfield i, 3)) (hw : Cond.fieldLink M.1.cls i RX12 "tape" "[B" ∈ TBG) (hi : M.1.name = "<init>" ∧ RX12 = M.1.cls) (ho : isO h 12 r) (kk : Rr M kc ks (pc + 3) ls st (sF h r 0 x) P) : Rr M kc ks pc ls (.ref x :: .ref r :: st) h P := R_putF (ty := (.array .byte)) 12 0 ok12 (by decide) rfl rfl hd hw (Or.inr hi) ho (by decide +kernel) (Or.inr ⟨_, rfl⟩) kk
theorem G12_1 {i r : Nat} (hd : decode M.2.1 pc = .ok (.getfield i, 3)) (hw : Cond.fieldLink M.1.cls i RX12 "taped" "I" ∈ TBG) (ho : isO h 12 r) (kk : Rr M kc ks (pc + 3) ls (.int (gI h r 1) :: st) h P) : Rr M kc ks pc ls (.ref r :: st) h P := R_getI 12 1 ok12 (by decide) rfl rfl hd hw ho kk
theorem S12_1 {i r : Nat} {x : Int32} (hd : decode M.2.1 pc = .ok (.putfield i, 3)) (hw : Cond.fieldLink M.1.cls i RX12 "taped" "I" ∈ TBG) (ho : isO h 12 r) (kk : Rr M kc ks (pc + 3) ls st (sI h r 1 x) P) : Rr M kc ks pc ls (.int x :: .ref r :: st) h P := R_putI (ty := .int) 12 1 ok12 (by decide) rfl rfl hd hw (Or.inl rfl) ho (by decide +kernel) rfl rfl kk
theorem G12_2 {i r : Nat} (hd : decode M.2.1 pc = .ok (.getfield i, 3)) (hw : Cond.fieldLink M.1.cls i RX12 "size" "I" ∈ TBG) (ho : isO h 12 r) (kk : Rr M kc ks (pc + 3) ls (.int (gI h r 2) :: st) h P) : Rr M kc ks pc ls (.ref r :: st) h P := R_getI 12 2 ok12 (by decide) rfl rfl hd hw ho kk
theorem S12_2 {i r : Nat} {x : Int32} (hd : decode M.2.1 pc = .ok (.putfield i, 3)) (hw : Cond.fieldLink M.1.cls i RX12 "size" "I" ∈ TBG) (ho : isO h 12 r) (kk : Rr M kc ks (pc + 3) ls st (sI h r 2 x) P) : Rr M kc ks pc ls (.int x :: .ref r :: st) h P := R_putI (ty := .int) 12 2 ok12 (by decide) rfl rfl hd hw (Or.inl rfl) ho (by decide +kernel) rfl rfl kk
theorem G12_3 {i r : Nat} (hd : decode M.2.1 pc = .ok (.getfield i, 3)) (hw : Cond.fieldLink M.1.cls i RX12 "sort" "I" ∈ TBG) (ho : isO h 12 r) (kk : Rr M kc ks (pc + 3) ls (.int (gI h r 3) :: st) h P) : Rr M kc ks pc ls (.ref r :: st) h P := R_getI 12 3 ok12 (by decide) rfl rfl hd hw ho kk
theorem S12_3 {i r : Nat} {x : Int32} (hd : decode M.2.1 pc = .ok (.putfield i, 3)) (hw : Cond.fieldLink M.1.cls i RX12 "sort" "I" ∈ TBG) (ho : isO h 12 r) (kk : Rr M kc ks (pc + 3) ls st (sI h r 3 x) P) : Rr M kc ks pc ls (.int x :: .ref r :: st) h P := R_putI (ty := .int) 12 3 ok12 (by decide) rfl rfl hd hw (Or.inl rfl) ho (by decide +kernel) rfl rfl kk
theorem G12_4 {i r : Nat} (hd : decode M.2.1 pc = .ok (.getfield i, 3)) (hw : Cond.fieldLink M.1.cls i RX12 "key" "I" ∈ TBG) (ho : isO h 12 r) (kk : Rr M kc ks (pc + 3) ls (.int (gI h r 4) :: st) h P) : Rr M kc ks pc ls (.ref r :: st) h P := R_getI 12 4 ok12 (by decide) rfl rfl hd hw ho kk
theorem S12_4 {i r : Nat} {x : Int32} (hd : decode M.2.1 pc = .ok (.putfield i, 3)) (hw : Cond.fieldLink M.1.cls i RX12 "key" "I" ∈ TBG) (ho : isO h 12 r) (kk : Rr M kc ks (pc + 3) ls st (sI h r 4 x) P) : Rr M kc ks pc ls (.int x :: .ref r :: st) h P := R_putI (ty := .int) 12 4 ok12 (by decide) rfl rfl hd hw (Or.inl rfl) ho (by decide +kernel) rfl rfl kk
theorem G12_5 {i r : Nat} (hd : decode M.2.1 pc = .ok (.getfield i, 3)) (hw : Cond.fieldLink M.1.cls i RX12 "at" "I" ∈ TBG) (ho : isO h 12 r) (kk : Rr M kc ks (pc + 3) ls (.int (gI h r 5) :: st) h P) : Rr M kc ks pc ls (.ref r :: st) h P := R_getI 12 5 ok12 (by decide) rfl rfl hd hw ho kk
theorem S12_5 {i r : Nat} {x : Int32} (hd : decode M.2.1 pc = .ok (.putfield i, 3)) (hw : Cond.fieldLink M.1.cls i RX12 "at" "I" ∈ TBG) (ho : isO h 12 r) (kk : Rr M kc ks (pc + 3) ls st (sI h r 5 x) P) : Rr M kc ks pc ls (.int x :: .ref r :: st) h P := R_putI (ty := .int) 12 5 ok12 (by decide) rfl rfl hd hw (Or.inl rfl) ho (by decide +kernel) rfl rfl kk
theorem G12_6 {i r : Nat} (hd : decode M.2.1 pc = .ok (.getfield i, 3)) (hw : Cond.fieldLink M.1.cls i RX12 "end" "I" ∈ TBG) (ho : isO h 12 r) (kk : Rr M kc ks (pc + 3) ls (.int (gI h r 6) :: st) h P) : Rr M kc ks pc ls (.ref r :: st) h P := R_getI 12 6 ok12 (by decide) rfl rfl hd hw ho kk
theorem S12_6 {i r : Nat} {x : Int32} (hd : decode M.2.1 pc = .ok (.putfield i, 3)) (hw : Cond.fieldLink M.1.cls i RX12 "end" "I" ∈ TBG) (ho : isO h 12 r) (kk : Rr M kc ks (pc + 3) ls st (sI h r 6 x) P) : Rr M kc ks pc ls (.int x :: .ref r :: st) h P := R_putI (ty := .int) 12 6 ok12 (by decide) rfl rfl hd hw (Or.inl rfl) ho (by decide +kernel) rfl rfl kk
theorem G12_7 {i r : Nat} (hd : decode M.2.1 pc = .ok (.getfield i, 3)) (hw : Cond.fieldLink M.1.cls i RX12 "numbe\x72" "I" ∈ TBG) (ho : isO h 12 r) (kk : Rr M kc ks (pc + 3) ls (.int (gI h r 7) :: st) h P) : Rr M kc ks pc ls (.ref r :: st) h P := R_getI 12 7 ok12 (by decide) rfl rfl hd hw ho kk
theorem S12_7 {i r : Nat} {x : Int32} (hd : decode M.2.1 pc = .ok (.putfield i, 3)) (hw : Cond.fieldLink M.1.cls i RX12 "numbe\x72" "I" ∈ TBG) (ho : isO h 12 r) (kk : Rr M kc ks (pc + 3) ls st (sI h r 7 x) P) : Rr M kc ks pc ls (.int x :: .ref r :: st) h P := R_putI (ty := .int) 12 7 ok12 (by decide) rfl rfl hd hw (Or.inl rfl) ho (by decide +kernel) rfl rfl kk
theorem G12_8 {i r : Nat} (hd : decode M.2.1 pc = .ok (.getfield i, 3)) (hw : Cond.fieldLink M.1.cls i RX12 "faultKind" "I" ∈ TBG) (ho : isO h 12 r) (kk : Rr M kc ks (pc + 3) ls (.int (gI h r 8) :: st) h P) : Rr M kc ks pc ls (.ref r :: st) h P := R_getI 12 8 ok12 (by decide) rfl rfl hd hw ho kk
theorem S12_8 {i r : Nat} {x : Int32} (hd : decode M.2.1 pc = .ok (.putfield i, 3)) (hw : Cond.fieldLink M.1.cls i RX12 "faultKind" "I" ∈ TBG) (ho : isO h 12 r) (kk : Rr M kc ks (pc + 3) ls st (sI h r 8 x) P) : Rr M kc ks pc ls (.int x :: .ref r :: st) h P := R_putI (ty := .int) 12 8 ok12 (by decide) rfl rfl hd hw (Or.inl rfl) ho (by decide +kernel) rfl rfl kk
theorem G12_9 {i r : Nat} (hd : decode M.2.1 pc = .ok (.getfield i, 3)) (hw : Cond.fieldLink M.1.cls i RX12 "faultPlace" "I" ∈ TBG) (ho : isO h 12 r) (kk : Rr M kc ks (pc + 3) ls (.int (gI h r 9) :: st) h P) : Rr M kc ks pc ls (.ref r :: st) h P := R_getI 12 9 ok12 (by decide) rfl rfl hd hw ho kk
theorem S12_9 {i r : Nat} {x : Int32} (hd : decode M.2.1 pc = .ok (.putfield i, 3)) (hw : Cond.fieldLink M.1.cls i RX12 "faultPlace" "I" ∈ TBG) (ho : isO h 12 r) (kk : Rr M kc ks (pc + 3) ls st (sI h r 9 x) P) : Rr M kc ks pc ls (.int x :: .ref r :: st) h P := R_putI (ty := .int) 12 9 ok12 (by decide) rfl rfl hd hw (Or.inl rfl) ho (by decide +kernel) rfl rfl kk
theorem G12_10 {i r : Nat} (hd : decode M.2.1 pc = .ok (.getfield i, 3)) (hw : Cond.fieldLink M.1.cls i RX12 "got" "I" ∈ TBG) (ho : isO h 12 r) (kk : Rr M kc ks (pc + 3) ls (.int (gI h r 10) :: st) h P) : Rr M kc ks pc ls (.ref r :: st) h P := R_getI 12 10 ok12 (by decide) rfl rfl hd hw ho kk
theorem S12_10 {i r : Nat} {x : Int32} (hd : decode M.2.1 pc = .ok (.putfield i, 3)) (hw : Cond.fieldLink M.1.cls i RX12 "got" "I" ∈ TBG) (ho : isO h 12 r) (kk : Rr M kc ks (pc + 3) ls st (sI h r 10 x) P) : Rr M kc ks pc ls (.int x :: .ref r :: st) h P := R_putI (ty := .int) 12 10 ok12 (by decide) rfl rfl hd hw (Or.inl rfl) ho (by decide +kernel) rfl rfl kk
theorem G12_11 {i r : Nat} (hd : decode M.2.1 pc = .ok (.getfield i, 3)) (hw : Cond.fieldLink M.1.cls i RX12 "num" "[I" ∈ TBG) (ho : isO h 12 r) (kk : Rr M kc ks (pc + 3) ls (.ref (gF h r 11) :: st) h P) : Rr M kc ks pc ls (.ref r :: st) h P := R_getF 12 11 ok12 (by decide) rfl rfl hd hw ho kk
theorem S12_11 {i r x : Nat} (hd : decode M.2.1 pc = .ok (.putfield i, 3)) (hw : Cond.fieldLink M.1.cls i RX12 "num" "[I" ∈ TBG) (hi : M.1.name = "<init>" ∧ RX12 = M.1.cls) (ho : isO h 12 r) (kk : Rr M kc ks (pc + 3) ls st (sF h r 11 x) P) : Rr M kc ks pc ls (.ref x :: .ref r :: st) h P := R_putF (ty := (.array .int)) 12 11 ok12 (by decide) rfl rfl hd hw (Or.inr hi) ho (by decide +kernel) (Or.inr ⟨_, rfl⟩) kk
theorem G12_12 {i r : Nat} (hd : decode M.2.1 pc = .ok (.getfield i, 3)) (hw : Cond.fieldLink M.1.cls i RX12 "markX" "[I" ∈ TBG) (ho : isO h 12 r) (kk : Rr M kc ks (pc + 3) ls (.ref (gF h r 12) :: st) h P) : Rr M kc ks pc ls (.ref r :: st) h P := R_getF 12 12 ok12 (by decide) rfl rfl hd hw ho kk
theorem S12_12 {i r x : Nat} (hd : decode M.2.1 pc = .ok (.putfield i, 3)) (hw : Cond.fieldLink M.1.cls i RX12 "markX" "[I" ∈ TBG) (hi : M.1.name = "<init>" ∧ RX12 = M.1.cls) (ho : isO h 12 r) (kk : Rr M kc ks (pc + 3) ls st (sF h r 12 x) P) : Rr M kc ks pc ls (.ref x :: .ref r :: st) h P := R_putF (ty := (.array .int)) 12 12 ok12 (by decide) rfl rfl hd hw (Or.inr hi) ho (by decide +kernel) (Or.inr ⟨_, rfl⟩) kk
theorem G12_13 {i r : Nat} (hd : decode M.2.1 pc = .ok (.getfield i, 3)) (hw : Cond.fieldLink M.1.cls i RX12 "markY" "[I" ∈ TBG) (ho : isO h 12 r) (kk : Rr M kc ks (pc + 3) ls (.ref (gF h r 13) :: st) h P) : Rr M kc ks pc ls (.ref r :: st) h P := R_getF 12 13 ok12 (by decide) rfl rfl hd hw ho kk
theorem S12_13 {i r x : Nat} (hd : decode M.2.1 pc = .ok (.putfield i, 3)) (hw : Cond.fieldLink M.1.cls i RX12 "markY" "[I" ∈ TBG) (hi : M.1.name = "<init>" ∧ RX12 = M.1.cls) (ho : isO h 12 r) (kk : Rr M kc ks (pc + 3) ls st (sF h r 13 x) P) : Rr M kc ks pc ls (.ref x :: .ref r :: st) h P := R_putF (ty := (.array .int)) 12 13 ok12 (by decide) rfl rfl hd hw (Or.inr hi) ho (by decide +kernel) (Or.inr ⟨_, rfl⟩) kk
theorem G12_14 {i r : Nat} (hd : decode M.2.1 pc = .ok (.getfield i, 3)) (hw : Cond.fieldLink M.1.cls i RX12 "screwMany" "[I" ∈ TBG) (ho : isO h 12 r) (kk : Rr M kc ks (pc + 3) ls (.ref (gF h r 14) :: st) h P) : Rr M kc ks pc ls (.ref r :: st) h P := R_getF 12 14 ok12 (by decide) rfl rfl hd hw ho kk
theorem S12_14 {i r x : Nat} (hd : decode M.2.1 pc = .ok (.putfield i, 3)) (hw : Cond.fieldLink M.1.cls i RX12 "screwMany" "[I" ∈ TBG) (hi : M.1.name = "<init>" ∧ RX12 = M.1.cls) (ho : isO h 12 r) (kk : Rr M kc ks (pc + 3) ls st (sF h r 14 x) P) : Rr M kc ks pc ls (.ref x :: .ref r :: st) h P := R_putF (ty := (.array .int)) 12 14 ok12 (by decide) rfl rfl hd hw (Or.inr hi) ho (by decide +kernel) (Or.inr ⟨_, rfl⟩) kk
theorem G12_15 {i r : Nat} (hd : decode M.2.1 pc = .ok (.getfield i, 3)) (hw : Cond.fieldLink M.1.cls i RX12 "screws" "[I" ∈ TBG) (ho : isO h 12 r) (kk : Rr M kc ks (pc + 3) ls (.ref (gF h r 15) :: st) h P) : Rr M kc ks pc ls (.ref r :: st) h P := R_getF 12 15 ok12 (by decide) rfl rfl hd hw ho kk
theorem S12_15 {i r x : Nat} (hd : decode M.2.1 pc = .ok (.putfield i, 3)) (hw : Cond.fieldLink M.1.cls i RX12 "screws" "[I" ∈ TBG) (hi : M.1.name = "<init>" ∧ RX12 = M.1.cls) (ho : isO h 12 r) (kk : Rr M kc ks (pc + 3) ls st (sF h r 15 x) P) : Rr M kc ks pc ls (.ref x :: .ref r :: st) h P := R_putF (ty := (.array .int)) 12 15 ok12 (by decide) rfl rfl hd hw (Or.inr hi) ho (by decide +kernel) (Or.inr ⟨_, rfl⟩) kk
theorem G12_16 {i r : Nat} (hd : decode M.2.1 pc = .ok (.getfield i, 3)) (hw : Cond.fieldLink M.1.cls i RX12 "shapes" "[I" ∈ TBG) (ho : isO h 12 r) (kk : Rr M kc ks (pc + 3) ls (.ref (gF h r 16) :: st) h P) : Rr M kc ks pc ls (.ref r :: st) h P := R_getF 12 16 ok12 (by decide) rfl rfl hd hw ho kk
theorem S12_16 {i r x : Nat} (hd : decode M.2.1 pc = .ok (.putfield i, 3)) (hw : Cond.fieldLink M.1.cls i RX12 "shapes" "[I" ∈ TBG) (hi : M.1.name = "<init>" ∧ RX12 = M.1.cls) (ho : isO h 12 r) (kk : Rr M kc ks (pc + 3) ls st (sF h r 16 x) P) : Rr M kc ks pc ls (.ref x :: .ref r :: st) h P := R_putF (ty := (.array .int)) 12 16 ok12 (by decide) rfl rfl hd hw (Or.inr hi) ho (by decide +kernel) (Or.inr ⟨_, rfl⟩) kk
theorem G12_17 {i r : Nat} (hd : decode M.2.1 pc = .ok (.getfield i, 3)) (hw : Cond.fieldLink M.1.cls i RX12 "screenP" "[I" ∈ TBG) (ho : isO h 12 r) (kk : Rr M kc ks (pc + 3) ls (.ref (gF h r 17) :: st) h P) : Rr M kc ks pc ls (.ref r :: st) h P := R_getF 12 17 ok12 (by decide) rfl rfl hd hw ho kk
theorem S12_17 {i r x : Nat} (hd : decode M.2.1 pc = .ok (.putfield i, 3)) (hw : Cond.fieldLink M.1.cls i RX12 "screenP" "[I" ∈ TBG) (hi : M.1.name = "<init>" ∧ RX12 = M.1.cls) (ho : isO h 12 r) (kk : Rr M kc ks (pc + 3) ls st (sF h r 17 x) P) : Rr M kc ks pc ls (.ref x :: .ref r :: st) h P := R_putF (ty := (.array .int)) 12 17 ok12 (by decide) rfl rfl hd hw (Or.inr hi) ho (by decide +kernel) (Or.inr ⟨_, rfl⟩) kk
theorem G12_18 {i r : Nat} (hd : decode M.2.1 pc = .ok (.getfield i, 3)) (hw : Cond.fieldLink M.1.cls i RX12 "screenQ" "[I" ∈ TBG) (ho : isO h 12 r) (kk : Rr M kc ks (pc + 3) ls (.ref (gF h r 18) :: st) h P) : Rr M kc ks pc ls (.ref r :: st) h P := R_getF 12 18 ok12 (by decide) rfl rfl hd hw ho kk
theorem S12_18 {i r x : Nat} (hd : decode M.2.1 pc = .ok (.putfield i, 3)) (hw : Cond.fieldLink M.1.cls i RX12 "screenQ" "[I" ∈ TBG) (hi : M.1.name = "<init>" ∧ RX12 = M.1.cls) (ho : isO h 12 r) (kk : Rr M kc ks (pc + 3) ls st (sF h r 18 x) P) : Rr M kc ks pc ls (.ref x :: .ref r :: st) h P := R_putF (ty := (.array .int)) 12 18 ok12 (by decide) rfl rfl hd hw (Or.inr hi) ho (by decide +kernel) (Or.inr ⟨_, rfl⟩) kk
theorem G12_19 {i r : Nat} (hd : decode M.2.1 pc = .ok (.getfield i, 3)) (hw : Cond.fieldLink M.1.cls i RX12 "lies" "[I" ∈ TBG) (ho : isO h 12 r) (kk : Rr M kc ks (pc + 3) ls (.ref (gF h r 19) :: st) h P) : Rr M kc ks pc ls (.ref r :: st) h P := R_getF 12 19 ok12 (by decide) rfl rfl hd hw ho kk
theorem S12_19 {i r x : Nat} (hd : decode M.2.1 pc = .ok (.putfield i, 3)) (hw : Cond.fieldLink M.1.cls i RX12 "lies" "[I" ∈ TBG) (hi : M.1.name = "<init>" ∧ RX12 = M.1.cls) (ho : isO h 12 r) (kk : Rr M kc ks (pc + 3) ls st (sF h r 19 x) P) : Rr M kc ks pc ls (.ref x :: .ref r :: st) h P := R_putF (ty := (.array .int)) 12 19 ok12 (by decide) rfl rfl hd hw (Or.inr hi) ho (by decide +kernel) (Or.inr ⟨_, rfl⟩) kk
theorem G12_20 {i r : Nat} (hd : decode M.2.1 pc = .ok (.getfield i, 3)) (hw : Cond.fieldLink M.1.cls i RX12 "clauses" "I" ∈ TBG) (ho : isO h 12 r) (kk : Rr M kc ks (pc + 3) ls (.int (gI h r 20) :: st) h P) : Rr M kc ks pc ls (.ref r :: st) h P := R_getI 12 20 ok12 (by decide) rfl rfl hd hw ho kk
theorem S12_20 {i r : Nat} {x : Int32} (hd : decode M.2.1 pc = .ok (.putfield i, 3)) (hw : Cond.fieldLink M.1.cls i RX12 "clauses" "I" ∈ TBG) (ho : isO h 12 r) (kk : Rr M kc ks (pc + 3) ls st (sI h r 20 x) P) : Rr M kc ks pc ls (.int x :: .ref r :: st) h P := R_putI (ty := .int) 12 20 ok12 (by decide) rfl rfl hd hw (Or.inl rfl) ho (by decide +kernel) rfl rfl kk
theorem G12_21 {i r : Nat} (hd : decode M.2.1 pc = .ok (.getfield i, 3)) (hw : Cond.fieldLink M.1.cls i RX12 "met" "I" ∈ TBG) (ho : isO h 12 r) (kk : Rr M kc ks (pc + 3) ls (.int (gI h r 21) :: st) h P) : Rr M kc ks pc ls (.ref r :: st) h P := R_getI 12 21 ok12 (by decide) rfl rfl hd hw ho kk
theorem S12_21 {i r : Nat} {x : Int32} (hd : decode M.2.1 pc = .ok (.putfield i, 3)) (hw : Cond.fieldLink M.1.cls i RX12 "met" "I" ∈ TBG) (ho : isO h 12 r) (kk : Rr M kc ks (pc + 3) ls st (sI h r 21 x) P) : Rr M kc ks pc ls (.int x :: .ref r :: st) h P := R_putI (ty := .int) 12 21 ok12 (by decide) rfl rfl hd hw (Or.inl rfl) ho (by decide +kernel) rfl rfl kk
theorem G12_22 {i r : Nat} (hd : decode M.2.1 pc = .ok (.getfield i, 3)) (hw : Cond.fieldLink M.1.cls i RX12 "paired" "I" ∈ TBG) (ho : isO h 12 r) (kk : Rr M kc ks (pc + 3) ls (.int (gI h r 22) :: st) h P) : Rr M kc ks pc ls (.ref r :: st) h P := R_getI 12 22 ok12 (by decide) rfl rfl hd hw ho kk
theorem S12_22 {i r : Nat} {x : Int32} (hd : decode M.2.1 pc = .ok (.putfield i, 3)) (hw : Cond.fieldLink M.1.cls i RX12 "paired" "I" ∈ TBG) (ho : isO h 12 r) (kk : Rr M kc ks (pc + 3) ls st (sI h r 22 x) P) : Rr M kc ks pc ls (.int x :: .ref r :: st) h P := R_putI (ty := .int) 12 22 ok12 (by decide) rfl rfl hd hw (Or.inl rfl) ho (by decide +kernel) rfl rfl kk
theorem G12_23 {i r : Nat} (hd : decode M.2.1 pc = .ok (.getfield i, 3)) (hw : Cond.fieldLink M.1.cls i RX12 "readMany" "I" ∈ TBG) (ho : isO h 12 r) (kk : Rr M kc ks (pc + 3) ls (.int (gI h r 23) :: st) h P) : Rr M kc ks pc ls (.ref r :: st) h P := R_getI 12 23 ok12 (by decide) rfl rfl hd hw ho kk
theorem S12_23 {i r : Nat} {x : Int32} (hd : decode M.2.1 pc = .ok (.putfield i, 3)) (hw : Cond.fieldLink M.1.cls i RX12 "readMany" "I" ∈ TBG) (ho : isO h 12 r) (kk : Rr M kc ks (pc + 3) ls st (sI h r 23 x) P) : Rr M kc ks pc ls (.int x :: .ref r :: st) h P := R_putI (ty := .int) 12 23 ok12 (by decide) rfl rfl hd hw (Or.inl rfl) ho (by decide +kernel) rfl rfl kk
theorem G12_24 {i r : Nat} (hd : decode M.2.1 pc = .ok (.getfield i, 3)) (hw : Cond.fieldLink M.1.cls i RX12 "rightMany" "I" ∈ TBG) (ho : isO h 12 r) (kk : Rr M kc ks (pc + 3) ls (.int (gI h r 24) :: st) h P) : Rr M kc ks pc ls (.ref r :: st) h P := R_getI 12 24 ok12 (by decide) rfl rfl hd hw ho kk
theorem S12_24 {i r : Nat} {x : Int32} (hd : decode M.2.1 pc = .ok (.putfield i, 3)) (hw : Cond.fieldLink M.1.cls i RX12 "rightMany" "I" ∈ TBG) (ho : isO h 12 r) (kk : Rr M kc ks (pc + 3) ls st (sI h r 24 x) P) : Rr M kc ks pc ls (.int x :: .ref r :: st) h P := R_putI (ty := .int) 12 24 ok12 (by decide) rfl rfl hd hw (Or.inl rfl) ho (by decide +kernel) rfl rfl kk
theorem G12_25 {i r : Nat} (hd : decode M.2.1 pc = .ok (.getfield i, 3)) (hw : Cond.fieldLink M.1.cls i RX12 "lastTold" "I" ∈ TBG) (ho : isO h 12 r) (kk : Rr M kc ks (pc + 3) ls (.int (gI h r 25) :: st) h P) : Rr M kc ks pc ls (.ref r :: st) h P := R_getI 12 25 ok12 (by decide) rfl rfl hd hw ho kk
theorem S12_25 {i r : Nat} {x : Int32} (hd : decode M.2.1 pc = .ok (.putfield i, 3)) (hw : Cond.fieldLink M.1.cls i RX12 "lastTold" "I" ∈ TBG) (ho : isO h 12 r) (kk : Rr M kc ks (pc + 3) ls st (sI h r 25 x) P) : Rr M kc ks pc ls (.int x :: .ref r :: st) h P := R_putI (ty := .int) 12 25 ok12 (by decide) rfl rfl hd hw (Or.inl rfl) ho (by decide +kernel) rfl rfl kk
theorem G12_26 {i r : Nat} (hd : decode M.2.1 pc = .ok (.getfield i, 3)) (hw : Cond.fieldLink M.1.cls i RX12 "rdTold" "[I" ∈ TBG) (ho : isO h 12 r) (kk : Rr M kc ks (pc + 3) ls (.ref (gF h r 26) :: st) h P) : Rr M kc ks pc ls (.ref r :: st) h P := R_getF 12 26 ok12 (by decide) rfl rfl hd hw ho kk
theorem S12_26 {i r x : Nat} (hd : decode M.2.1 pc = .ok (.putfield i, 3)) (hw : Cond.fieldLink M.1.cls i RX12 "rdTold" "[I" ∈ TBG) (hi : M.1.name = "<init>" ∧ RX12 = M.1.cls) (ho : isO h 12 r) (kk : Rr M kc ks (pc + 3) ls st (sF h r 26 x) P) : Rr M kc ks pc ls (.ref x :: .ref r :: st) h P := R_putF (ty := (.array .int)) 12 26 ok12 (by decide) rfl rfl hd hw (Or.inr hi) ho (by decide +kernel) (Or.inr ⟨_, rfl⟩) kk
theorem G12_27 {i r : Nat} (hd : decode M.2.1 pc = .ok (.getfield i, 3)) (hw : Cond.fieldLink M.1.cls i RX12 "rdInk" "[I" ∈ TBG) (ho : isO h 12 r) (kk : Rr M kc ks (pc + 3) ls (.ref (gF h r 27) :: st) h P) : Rr M kc ks pc ls (.ref r :: st) h P := R_getF 12 27 ok12 (by decide) rfl rfl hd hw ho kk
theorem S12_27 {i r x : Nat} (hd : decode M.2.1 pc = .ok (.putfield i, 3)) (hw : Cond.fieldLink M.1.cls i RX12 "rdInk" "[I" ∈ TBG) (hi : M.1.name = "<init>" ∧ RX12 = M.1.cls) (ho : isO h 12 r) (kk : Rr M kc ks (pc + 3) ls st (sF h r 27 x) P) : Rr M kc ks pc ls (.ref x :: .ref r :: st) h P := R_putF (ty := (.array .int)) 12 27 ok12 (by decide) rfl rfl hd hw (Or.inr hi) ho (by decide +kernel) (Or.inr ⟨_, rfl⟩) kk
theorem G12_28 {i r : Nat} (hd : decode M.2.1 pc = .ok (.getfield i, 3)) (hw : Cond.fieldLink M.1.cls i RX12 "rdMark" "[I" ∈ TBG) (ho : isO h 12 r) (kk : Rr M kc ks (pc + 3) ls (.ref (gF h r 28) :: st) h P) : Rr M kc ks pc ls (.ref r :: st) h P := R_getF 12 28 ok12 (by decide) rfl rfl hd hw ho kk
theorem S12_28 {i r x : Nat} (hd : decode M.2.1 pc = .ok (.putfield i, 3)) (hw : Cond.fieldLink M.1.cls i RX12 "rdMark" "[I" ∈ TBG) (hi : M.1.name = "<init>" ∧ RX12 = M.1.cls) (ho : isO h 12 r) (kk : Rr M kc ks (pc + 3) ls st (sF h r 28 x) P) : Rr M kc ks pc ls (.ref x :: .ref r :: st) h P := R_putF (ty := (.array .int)) 12 28 ok12 (by decide) rfl rfl hd hw (Or.inr hi) ho (by decide +kernel) (Or.inr ⟨_, rfl⟩) kk
theorem G12_29 {i r : Nat} (hd : decode M.2.1 pc = .ok (.getfield i, 3)) (hw : Cond.fieldLink M.1.cls i RX12 "rdAcross" "[I" ∈ TBG) (ho : isO h 12 r) (kk : Rr M kc ks (pc + 3) ls (.ref (gF h r 29) :: st) h P) : Rr M kc ks pc ls (.ref r :: st) h P := R_getF 12 29 ok12 (by decide) rfl rfl hd hw ho kk
theorem S12_29 {i r x : Nat} (hd : decode M.2.1 pc = .ok (.putfield i, 3)) (hw : Cond.fieldLink M.1.cls i RX12 "rdAcross" "[I" ∈ TBG) (hi : M.1.name = "<init>" ∧ RX12 = M.1.cls) (ho : isO h 12 r) (kk : Rr M kc ks (pc + 3) ls st (sF h r 29 x) P) : Rr M kc ks pc ls (.ref x :: .ref r :: st) h P := R_putF (ty := (.array .int)) 12 29 ok12 (by decide) rfl rfl hd hw (Or.inr hi) ho (by decide +kernel) (Or.inr ⟨_, rfl⟩) kk
theorem G12_30 {i r : Nat} (hd : decode M.2.1 pc = .ok (.getfield i, 3)) (hw : Cond.fieldLink M.1.cls i RX12 "rdUp" "[I" ∈ TBG) (ho : isO h 12 r) (kk : Rr M kc ks (pc + 3) ls (.ref (gF h r 30) :: st) h P) : Rr M kc ks pc ls (.ref r :: st) h P := R_getF 12 30 ok12 (by decide) rfl rfl hd hw ho kk
theorem S12_30 {i r x : Nat} (hd : decode M.2.1 pc = .ok (.putfield i, 3)) (hw : Cond.fieldLink M.1.cls i RX12 "rdUp" "[I" ∈ TBG) (hi : M.1.name = "<init>" ∧ RX12 = M.1.cls) (ho : isO h 12 r) (kk : Rr M kc ks (pc + 3) ls st (sF h r 30 x) P) : Rr M kc ks pc ls (.ref x :: .ref r :: st) h P := R_putF (ty := (.array .int)) 12 30 ok12 (by decide) rfl rfl hd hw (Or.inr hi) ho (by decide +kernel) (Or.inr ⟨_, rfl⟩) kk
theorem G12_31 {i r : Nat} (hd : decode M.2.1 pc = .ok (.getfield i, 3)) (hw : Cond.fieldLink M.1.cls i RX12 "rTold" "[I" ∈ TBG) (ho : isO h 12 r) (kk : Rr M kc ks (pc + 3) ls (.ref (gF h r 31) :: st) h P) : Rr M kc ks pc ls (.ref r :: st) h P := R_getF 12 31 ok12 (by decide) rfl rfl hd hw ho kk
theorem S12_31 {i r x : Nat} (hd : decode M.2.1 pc = .ok (.putfield i, 3)) (hw : Cond.fieldLink M.1.cls i RX12 "rTold" "[I" ∈ TBG) (hi : M.1.name = "<init>" ∧ RX12 = M.1.cls) (ho : isO h 12 r) (kk : Rr M kc ks (pc + 3) ls st (sF h r 31 x) P) : Rr M kc ks pc ls (.ref x :: .ref r :: st) h P := R_putF (ty := (.array .int)) 12 31 ok12 (by decide) rfl rfl hd hw (Or.inr hi) ho (by decide +kernel) (Or.inr ⟨_, rfl⟩) kk
theorem G12_32 {i r : Nat} (hd : decode M.2.1 pc = .ok (.getfield i, 3)) (hw : Cond.fieldLink M.1.cls i RX12 "rOf" "[I" ∈ TBG) (ho : isO h 12 r) (kk : Rr M kc ks (pc + 3) ls (.ref (gF h r 32) :: st) h P) : Rr M kc ks pc ls (.ref r :: st) h P := R_getF 12 32 ok12 (by decide) rfl rfl hd hw ho kk
theorem S12_32 {i r x : Nat} (hd : decode M.2.1 pc = .ok (.putfield i, 3)) (hw : Cond.fieldLink M.1.cls i RX12 "rOf" "[I" ∈ TBG) (hi : M.1.name = "<init>" ∧ RX12 = M.1.cls) (ho : isO h 12 r) (kk : Rr M kc ks (pc + 3) ls st (sF h r 32 x) P) : Rr M kc ks pc ls (.ref x :: .ref r :: st) h P := R_putF (ty := (.array .int)) 12 32 ok12 (by decide) rfl rfl hd hw (Or.inr hi) ho (by decide +kernel) (Or.inr ⟨_, rfl⟩) kk
theorem G12_33 {i r : Nat} (hd : decode M.2.1 pc = .ok (.getfield i, 3)) (hw : Cond.fieldLink M.1.cls i RX12 "rAcross" "[I" ∈ TBG) (ho : isO h 12 r) (kk : Rr M kc ks (pc + 3) ls (.ref (gF h r 33) :: st) h P) : Rr M kc ks pc ls (.ref r :: st) h P := R_getF 12 33 ok12 (by decide) rfl rfl hd hw ho kk
theorem S12_33 {i r x : Nat} (hd : decode M.2.1 pc = .ok (.putfield i, 3)) (hw : Cond.fieldLink M.1.cls i RX12 "rAcross" "[I" ∈ TBG) (hi : M.1.name = "<init>" ∧ RX12 = M.1.cls) (ho : isO h 12 r) (kk : Rr M kc ks (pc + 3) ls st (sF h r 33 x) P) : Rr M kc ks pc ls (.ref x :: .ref r :: st) h P := R_putF (ty := (.array .int)) 12 33 ok12 (by decide) rfl rfl hd hw (Or.inr hi) ho (by decide +kernel) (Or.inr ⟨_, rfl⟩) kk
theorem G12_34 {i r : Nat} (hd : decode M.2.1 pc = .ok (.getfield i, 3)) (hw : Cond.fieldLink M.1.cls i RX12 "rUp" "[I" ∈ TBG) (ho : isO h 12 r) (kk : Rr M kc ks (pc + 3) ls (.ref (gF h r 34) :: st) h P) : Rr M kc ks pc ls (.ref r :: st) h P := R_getF 12 34 ok12 (by decide) rfl rfl hd hw ho kk
theorem S12_34 {i r x : Nat} (hd : decode M.2.1 pc = .ok (.putfield i, 3)) (hw : Cond.fieldLink M.1.cls i RX12 "rUp" "[I" ∈ TBG) (hi : M.1.name = "<init>" ∧ RX12 = M.1.cls) (ho : isO h 12 r) (kk : Rr M kc ks (pc + 3) ls st (sF h r 34 x) P) : Rr M kc ks pc ls (.ref x :: .ref r :: st) h P := R_putF (ty := (.array .int)) 12 34 ok12 (by decide) rfl rfl hd hw (Or.inr hi) ho (by decide +kernel) (Or.inr ⟨_, rfl⟩) kk
theorem G12_35 {i r : Nat} (hd : decode M.2.1 pc = .ok (.getfield i, 3)) (hw : Cond.fieldLink M.1.cls i RX12 "askedMany" "I" ∈ TBG) (ho : isO h 12 r) (kk : Rr M kc ks (pc + 3) ls (.int (gI h r 35) :: st) h P) : Rr M kc ks pc ls (.ref r :: st) h P := R_getI 12 35 ok12 (by decide) rfl rfl hd hw ho kk
theorem S12_35 {i r : Nat} {x : Int32} (hd : decode M.2.1 pc = .ok (.putfield i, 3)) (hw : Cond.fieldLink M.1.cls i RX12 "askedMany" "I" ∈ TBG) (ho : isO h 12 r) (kk : Rr M kc ks (pc + 3) ls st (sI h r 35 x) P) : Rr M kc ks pc ls (.int x :: .ref r :: st) h P := R_putI (ty := .int) 12 35 ok12 (by decide) rfl rfl hd hw (Or.inl rfl) ho (by decide +kernel) rfl rfl kk
theorem G12_36 {i r : Nat} (hd : decode M.2.1 pc = .ok (.getfield i, 3)) (hw : Cond.fieldLink M.1.cls i RX12 "askedX" "[I" ∈ TBG) (ho : isO h 12 r) (kk : Rr M kc ks (pc + 3) ls (.ref (gF h r 36) :: st) h P) : Rr M kc ks pc ls (.ref r :: st) h P := R_getF 12 36 ok12 (by decide) rfl rfl hd hw ho kk
theorem S12_36 {i r x : Nat} (hd : decode M.2.1 pc = .ok (.putfield i, 3)) (hw : Cond.fieldLink M.1.cls i RX12 "askedX" "[I" ∈ TBG) (hi : M.1.name = "<init>" ∧ RX12 = M.1.cls) (ho : isO h 12 r) (kk : Rr M kc ks (pc + 3) ls st (sF h r 36 x) P) : Rr M kc ks pc ls (.ref x :: .ref r :: st) h P := R_putF (ty := (.array .int)) 12 36 ok12 (by decide) rfl rfl hd hw (Or.inr hi) ho (by decide +kernel) (Or.inr ⟨_, rfl⟩) kk
theorem G12_37 {i r : Nat} (hd : decode M.2.1 pc = .ok (.getfield i, 3)) (hw : Cond.fieldLink M.1.cls i RX12 "askedY" "[I" ∈ TBG) (ho : isO h 12 r) (kk : Rr M kc ks (pc + 3) ls (.ref (gF h r 37) :: st) h P) : Rr M kc ks pc ls (.ref r :: st) h P := R_getF 12 37 ok12 (by decide) rfl rfl hd hw ho kk
theorem S12_37 {i r x : Nat} (hd : decode M.2.1 pc = .ok (.putfield i, 3)) (hw : Cond.fieldLink M.1.cls i RX12 "askedY" "[I" ∈ TBG) (hi : M.1.name = "<init>" ∧ RX12 = M.1.cls) (ho : isO h 12 r) (kk : Rr M kc ks (pc + 3) ls st (sF h r 37 x) P) : Rr M kc ks pc ls (.ref x :: .ref r :: st) h P := R_putF (ty := (.array .int)) 12 37 ok12 (by decide) rfl rfl hd hw (Or.inr hi) ho (by decide +kernel) (Or.inr ⟨_, rfl⟩) kk
theorem G12_38 {i r : Nat} (hd : decode M.2.1 pc = .ok (.getfield i, 3)) (hw : Cond.fieldLink M.1.cls i RX12 "askedAcross" "[I" ∈ TBG) (ho : isO h 12 r) (kk : Rr M kc ks (pc + 3) ls (.ref (gF h r 38) :: st) h P) : Rr M kc ks pc ls (.ref r :: st) h P := R_getF 12 38 ok12 (by decide) rfl rfl hd hw ho kk
theorem S12_38 {i r x : Nat} (hd : decode M.2.1 pc = .ok (.putfield i, 3)) (hw : Cond.fieldLink M.1.cls i RX12 "askedAcross" "[I" ∈ TBG) (hi : M.1.name = "<init>" ∧ RX12 = M.1.cls) (ho : isO h 12 r) (kk : Rr M kc ks (pc + 3) ls st (sF h r 38 x) P) : Rr M kc ks pc ls (.ref x :: .ref r :: st) h P := R_putF (ty := (.array .int)) 12 38 ok12 (by decide) rfl rfl hd hw (Or.inr hi) ho (by decide +kernel) (Or.inr ⟨_, rfl⟩) kk
theorem G12_39 {i r : Nat} (hd : decode M.2.1 pc = .ok (.getfield i, 3)) (hw : Cond.fieldLink M.1.cls i RX12 "askedUp" "[I" ∈ TBG) (ho : isO h 12 r) (kk : Rr M kc ks (pc + 3) ls (.ref (gF h r 39) :: st) h P) : Rr M kc ks pc ls (.ref r :: st) h P := R_getF 12 39 ok12 (by decide) rfl rfl hd hw ho kk
theorem S12_39 {i r x : Nat} (hd : decode M.2.1 pc = .ok (.putfield i, 3)) (hw : Cond.fieldLink M.1.cls i RX12 "askedUp" "[I" ∈ TBG) (hi : M.1.name = "<init>" ∧ RX12 = M.1.cls) (ho : isO h 12 r) (kk : Rr M kc ks (pc + 3) ls st (sF h r 39 x) P) : Rr M kc ks pc ls (.ref x :: .ref r :: st) h P := R_putF (ty := (.array .int)) 12 39 ok12 (by decide) rfl rfl hd hw (Or.inr hi) ho (by decide +kernel) (Or.inr ⟨_, rfl⟩) kk
theorem G12_40 {i r : Nat} (hd : decode M.2.1 pc = .ok (.getfield i, 3)) (hw : Cond.fieldLink M.1.cls i RX12 "fitMany" "I" ∈ TBG) (ho : isO h 12 r) (kk : Rr M kc ks (pc + 3) ls (.int (gI h r 40) :: st) h P) : Rr M kc ks pc ls (.ref r :: st) h P := R_getI 12 40 ok12 (by decide) rfl rfl hd hw ho kk
theorem S12_40 {i r : Nat} {x : Int32} (hd : decode M.2.1 pc = .ok (.putfield i, 3)) (hw : Cond.fieldLink M.1.cls i RX12 "fitMany" "I" ∈ TBG) (ho : isO h 12 r) (kk : Rr M kc ks (pc + 3) ls st (sI h r 40 x) P) : Rr M kc ks pc ls (.int x :: .ref r :: st) h P := R_putI (ty := .int) 12 40 ok12 (by decide) rfl rfl hd hw (Or.inl rfl) ho (by decide +kernel) rfl rfl kk
theorem G12_41 {i r : Nat} (hd : decode M.2.1 pc = .ok (.getfield i, 3)) (hw : Cond.fieldLink M.1.cls i RX12 "fitLeast" "[I" ∈ TBG) (ho : isO h 12 r) (kk : Rr M kc ks (pc + 3) ls (.ref (gF h r 41) :: st) h P) : Rr M kc ks pc ls (.ref r :: st) h P := R_getF 12 41 ok12 (by decide) rfl rfl hd hw ho kk
theorem S12_41 {i r x : Nat} (hd : decode M.2.1 pc = .ok (.putfield i, 3)) (hw : Cond.fieldLink M.1.cls i RX12 "fitLeast" "[I" ∈ TBG) (hi : M.1.name = "<init>" ∧ RX12 = M.1.cls) (ho : isO h 12 r) (kk : Rr M kc ks (pc + 3) ls st (sF h r 41 x) P) : Rr M kc ks pc ls (.ref x :: .ref r :: st) h P := R_putF (ty := (.array .int)) 12 41 ok12 (by decide) rfl rfl hd hw (Or.inr hi) ho (by decide +kernel) (Or.inr ⟨_, rfl⟩) kk
theorem G12_42 {i r : Nat} (hd : decode M.2.1 pc = .ok (.getfield i, 3)) (hw : Cond.fieldLink M.1.cls i RX12 "fitMost" "[I" ∈ TBG) (ho : isO h 12 r) (kk : Rr M kc ks (pc + 3) ls (.ref (gF h r 42) :: st) h P) : Rr M kc ks pc ls (.ref r :: st) h P := R_getF 12 42 ok12 (by decide) rfl rfl hd hw ho kk
theorem S12_42 {i r x : Nat} (hd : decode M.2.1 pc = .ok (.putfield i, 3)) (hw : Cond.fieldLink M.1.cls i RX12 "fitMost" "[I" ∈ TBG) (hi : M.1.name = "<init>" ∧ RX12 = M.1.cls) (ho : isO h 12 r) (kk : Rr M kc ks (pc + 3) ls st (sF h r 42 x) P) : Rr M kc ks pc ls (.ref x :: .ref r :: st) h P := R_putF (ty := (.array .int)) 12 42 ok12 (by decide) rfl rfl hd hw (Or.inr hi) ho (by decide +kernel) (Or.inr ⟨_, rfl⟩) kk
theorem G12_43 {i r : Nat} (hd : decode M.2.1 pc = .ok (.getfield i, 3)) (hw : Cond.fieldLink M.1.cls i RX12 "turnMany" "I" ∈ TBG) (ho : isO h 12 r) (kk : Rr M kc ks (pc + 3) ls (.int (gI h r 43) :: st) h P) : Rr M kc ks pc ls (.ref r :: st) h P := R_getI 12 43 ok12 (by decide) rfl rfl hd hw ho kk
theorem S12_43 {i r : Nat} {x : Int32} (hd : decode M.2.1 pc = .ok (.putfield i, 3)) (hw : Cond.fieldLink M.1.cls i RX12 "turnMany" "I" ∈ TBG) (ho : isO h 12 r) (kk : Rr M kc ks (pc + 3) ls st (sI h r 43 x) P) : Rr M kc ks pc ls (.int x :: .ref r :: st) h P := R_putI (ty := .int) 12 43 ok12 (by decide) rfl rfl hd hw (Or.inl rfl) ho (by decide +kernel) rfl rfl kk
theorem G12_44 {i r : Nat} (hd : decode M.2.1 pc = .ok (.getfield i, 3)) (hw : Cond.fieldLink M.1.cls i RX12 "turned" "[I" ∈ TBG) (ho : isO h 12 r) (kk : Rr M kc ks (pc + 3) ls (.ref (gF h r 44) :: st) h P) : Rr M kc ks pc ls (.ref r :: st) h P := R_getF 12 44 ok12 (by decide) rfl rfl hd hw ho kk
theorem S12_44 {i r x : Nat} (hd : decode M.2.1 pc = .ok (.putfield i, 3)) (hw : Cond.fieldLink M.1.cls i RX12 "turned" "[I" ∈ TBG) (hi : M.1.name = "<init>" ∧ RX12 = M.1.cls) (ho : isO h 12 r) (kk : Rr M kc ks (pc + 3) ls st (sF h r 44 x) P) : Rr M kc ks pc ls (.ref x :: .ref r :: st) h P := R_putF (ty := (.array .int)) 12 44 ok12 (by decide) rfl rfl hd hw (Or.inr hi) ho (by decide +kernel) (Or.inr ⟨_, rfl⟩) kk
theorem G12_45 {i r : Nat} (hd : decode M.2.1 pc = .ok (.getfield i, 3)) (hw : Cond.fieldLink M.1.cls i RX12 "work" "[I" ∈ TBG) (ho : isO h 12 r) (kk : Rr M kc ks (pc + 3) ls (.ref (gF h r 45) :: st) h P) : Rr M kc ks pc ls (.ref r :: st) h P := R_getF 12 45 ok12 (by decide) rfl rfl hd hw ho kk
theorem S12_45 {i r x : Nat} (hd : decode M.2.1 pc = .ok (.putfield i, 3)) (hw : Cond.fieldLink M.1.cls i RX12 "work" "[I" ∈ TBG) (hi : M.1.name = "<init>" ∧ RX12 = M.1.cls) (ho : isO h 12 r) (kk : Rr M kc ks (pc + 3) ls st (sF h r 45 x) P) : Rr M kc ks pc ls (.ref x :: .ref r :: st) h P := R_putF (ty := (.array .int)) 12 45 ok12 (by decide) rfl rfl hd hw (Or.inr hi) ho (by decide +kernel) (Or.inr ⟨_, rfl⟩) kk
theorem G12_46 {i r : Nat} (hd : decode M.2.1 pc = .ok (.getfield i, 3)) (hw : Cond.fieldLink M.1.cls i RX12 "whiteCells" "I" ∈ TBG) (ho : isO h 12 r) (kk : Rr M kc ks (pc + 3) ls (.int (gI h r 46) :: st) h P) : Rr M kc ks pc ls (.ref r :: st) h P := R_getI 12 46 ok12 (by decide) rfl rfl hd hw ho kk
theorem S12_46 {i r : Nat} {x : Int32} (hd : decode M.2.1 pc = .ok (.putfield i, 3)) (hw : Cond.fieldLink M.1.cls i RX12 "whiteCells" "I" ∈ TBG) (ho : isO h 12 r) (kk : Rr M kc ks (pc + 3) ls st (sI h r 46 x) P) : Rr M kc ks pc ls (.int x :: .ref r :: st) h P := R_putI (ty := .int) 12 46 ok12 (by decide) rfl rfl hd hw (Or.inl rfl) ho (by decide +kernel) rfl rfl kk
theorem G12_47 {i r : Nat} (hd : decode M.2.1 pc = .ok (.getfield i, 3)) (hw : Cond.fieldLink M.1.cls i RX12 "overCells" "I" ∈ TBG) (ho : isO h 12 r) (kk : Rr M kc ks (pc + 3) ls (.int (gI h r 47) :: st) h P) : Rr M kc ks pc ls (.ref r :: st) h P := R_getI 12 47 ok12 (by decide) rfl rfl hd hw ho kk
theorem S12_47 {i r : Nat} {x : Int32} (hd : decode M.2.1 pc = .ok (.putfield i, 3)) (hw : Cond.fieldLink M.1.cls i RX12 "overCells" "I" ∈ TBG) (ho : isO h 12 r) (kk : Rr M kc ks (pc + 3) ls st (sI h r 47 x) P) : Rr M kc ks pc ls (.int x :: .ref r :: st) h P := R_putI (ty := .int) 12 47 ok12 (by decide) rfl rfl hd hw (Or.inl rfl) ho (by decide +kernel) rfl rfl kk
theorem G12_48 {i r : Nat} (hd : decode M.2.1 pc = .ok (.getfield i, 3)) (hw : Cond.fieldLink M.1.cls i RX12 "hasSpread" "Z" ∈ TBG) (ho : isO h 12 r) (kk : Rr M kc ks (pc + 3) ls (.int (gI h r 48) :: st) h P) : Rr M kc ks pc ls (.ref r :: st) h P := R_getI 12 48 ok12 (by decide) rfl rfl hd hw ho kk
theorem S12_48 {i r : Nat} {x : Int32} (hd : decode M.2.1 pc = .ok (.putfield i, 3)) (hw : Cond.fieldLink M.1.cls i RX12 "hasSpread" "Z" ∈ TBG) (ho : isO h 12 r) (hn : narrow .boolean (.int x) = .int x) (hft : fits .boolean (.int x) = true) (kk : Rr M kc ks (pc + 3) ls st (sI h r 48 x) P) : Rr M kc ks pc ls (.int x :: .ref r :: st) h P := R_putI (ty := .boolean) 12 48 ok12 (by decide) rfl rfl hd hw (Or.inl rfl) ho (by decide +kernel) hn hft kk
theorem G12_49 {i r : Nat} (hd : decode M.2.1 pc = .ok (.getfield i, 3)) (hw : Cond.fieldLink M.1.cls i RX12 "spreadK" "I" ∈ TBG) (ho : isO h 12 r) (kk : Rr M kc ks (pc + 3) ls (.int (gI h r 49) :: st) h P) : Rr M kc ks pc ls (.ref r :: st) h P := R_getI 12 49 ok12 (by decide) rfl rfl hd hw ho kk
theorem S12_49 {i r : Nat} {x : Int32} (hd : decode M.2.1 pc = .ok (.putfield i, 3)) (hw : Cond.fieldLink M.1.cls i RX12 "spreadK" "I" ∈ TBG) (ho : isO h 12 r) (kk : Rr M kc ks (pc + 3) ls st (sI h r 49 x) P) : Rr M kc ks pc ls (.int x :: .ref r :: st) h P := R_putI (ty := .int) 12 49 ok12 (by decide) rfl rfl hd hw (Or.inl rfl) ho (by decide +kernel) rfl rfl kk
theorem G12_50 {i r : Nat} (hd : decode M.2.1 pc = .ok (.getfield i, 3)) (hw : Cond.fieldLink M.1.cls i RX12 "spreadL" "I" ∈ TBG) (ho : isO h 12 r) (kk : Rr M kc ks (pc + 3) ls (.int (gI h r 50) :: st) h P) : Rr M kc ks pc ls (.ref r :: st) h P := R_getI 12 50 ok12 (by decide) rfl rfl hd hw ho kk
theorem S12_50 {i r : Nat} {x : Int32} (hd : decode M.2.1 pc = .ok (.putfield i, 3)) (hw : Cond.fieldLink M.1.cls i RX12 "spreadL" "I" ∈ TBG) (ho : isO h 12 r) (kk : Rr M kc ks (pc + 3) ls st (sI h r 50 x) P) : Rr M kc ks pc ls (.int x :: .ref r :: st) h P := R_putI (ty := .int) 12 50 ok12 (by decide) rfl rfl hd hw (Or.inl rfl) ho (by decide +kernel) rfl rfl kk
theorem G12_51 {i r : Nat} (hd : decode M.2.1 pc = .ok (.getfield i, 3)) (hw : Cond.fieldLink M.1.cls i RX12 "hasProof" "Z" ∈ TBG) (ho : isO h 12 r) (kk : Rr M kc ks (pc + 3) ls (.int (gI h r 51) :: st) h P) : Rr M kc ks pc ls (.ref r :: st) h P := R_getI 12 51 ok12 (by decide) rfl rfl hd hw ho kk
theorem S12_51 {i r : Nat} {x : Int32} (hd : decode M.2.1 pc = .ok (.putfield i, 3)) (hw : Cond.fieldLink M.1.cls i RX12 "hasProof" "Z" ∈ TBG) (ho : isO h 12 r) (hn : narrow .boolean (.int x) = .int x) (hft : fits .boolean (.int x) = true) (kk : Rr M kc ks (pc + 3) ls st (sI h r 51 x) P) : Rr M kc ks pc ls (.int x :: .ref r :: st) h P := R_putI (ty := .boolean) 12 51 ok12 (by decide) rfl rfl hd hw (Or.inl rfl) ho (by decide +kernel) hn hft kk
theorem G12_52 {i r : Nat} (hd : decode M.2.1 pc = .ok (.getfield i, 3)) (hw : Cond.fieldLink M.1.cls i RX12 "proof" "[I" ∈ TBG) (ho : isO h 12 r) (kk : Rr M kc ks (pc + 3) ls (.ref (gF h r 52) :: st) h P) : Rr M kc ks pc ls (.ref r :: st) h P := R_getF 12 52 ok12 (by decide) rfl rfl hd hw ho kk
theorem S12_52 {i r x : Nat} (hd : decode M.2.1 pc = .ok (.putfield i, 3)) (hw : Cond.fieldLink M.1.cls i RX12 "proof" "[I" ∈ TBG) (hi : M.1.name = "<init>" ∧ RX12 = M.1.cls) (ho : isO h 12 r) (kk : Rr M kc ks (pc + 3) ls st (sF h r 52 x) P) : Rr M kc ks pc ls (.ref x :: .ref r :: st) h P := R_putF (ty := (.array .int)) 12 52 ok12 (by decide) rfl rfl hd hw (Or.inr hi) ho (by decide +kernel) (Or.inr ⟨_, rfl⟩) kk
theorem G12_53 {i r : Nat} (hd : decode M.2.1 pc = .ok (.getfield i, 3)) (hw : Cond.fieldLink M.1.cls i RX12 "row" "[I" ∈ TBG) (ho : isO h 12 r) (kk : Rr M kc ks (pc + 3) ls (.ref (gF h r 53) :: st) h P) : Rr M kc ks pc ls (.ref r :: st) h P := R_getF 12 53 ok12 (by decide) rfl rfl hd hw ho kk
theorem S12_53 {i r x : Nat} (hd : decode M.2.1 pc = .ok (.putfield i, 3)) (hw : Cond.fieldLink M.1.cls i RX12 "row" "[I" ∈ TBG) (hi : M.1.name = "<init>" ∧ RX12 = M.1.cls) (ho : isO h 12 r) (kk : Rr M kc ks (pc + 3) ls st (sF h r 53 x) P) : Rr M kc ks pc ls (.ref x :: .ref r :: st) h P := R_putF (ty := (.array .int)) 12 53 ok12 (by decide) rfl rfl hd hw (Or.inr hi) ho (by decide +kernel) (Or.inr ⟨_, rfl⟩) kk
theorem G12_54 {i r : Nat} (hd : decode M.2.1 pc = .ok (.getfield i, 3)) (hw : Cond.fieldLink M.1.cls i RX12 "mean" "[J" ∈ TBG) (ho : isO h 12 r) (kk : Rr M kc ks (pc + 3) ls (.ref (gF h r 54) :: st) h P) : Rr M kc ks pc ls (.ref r :: st) h P := R_getF 12 54 ok12 (by decide) rfl rfl hd hw ho kk
theorem S12_54 {i r x : Nat} (hd : decode M.2.1 pc = .ok (.putfield i, 3)) (hw : Cond.fieldLink M.1.cls i RX12 "mean" "[J" ∈ TBG) (hi : M.1.name = "<init>" ∧ RX12 = M.1.cls) (ho : isO h 12 r) (kk : Rr M kc ks (pc + 3) ls st (sF h r 54 x) P) : Rr M kc ks pc ls (.ref x :: .ref r :: st) h P := R_putF (ty := (.array .long)) 12 54 ok12 (by decide) rfl rfl hd hw (Or.inr hi) ho (by decide +kernel) (Or.inr ⟨_, rfl⟩) kk
theorem G12_55 {i r : Nat} (hd : decode M.2.1 pc = .ok (.getfield i, 3)) (hw : Cond.fieldLink M.1.cls i RX12 "layerMany" "I" ∈ TBG) (ho : isO h 12 r) (kk : Rr M kc ks (pc + 3) ls (.int (gI h r 55) :: st) h P) : Rr M kc ks pc ls (.ref r :: st) h P := R_getI 12 55 ok12 (by decide) rfl rfl hd hw ho kk
theorem S12_55 {i r : Nat} {x : Int32} (hd : decode M.2.1 pc = .ok (.putfield i, 3)) (hw : Cond.fieldLink M.1.cls i RX12 "layerMany" "I" ∈ TBG) (ho : isO h 12 r) (kk : Rr M kc ks (pc + 3) ls st (sI h r 55 x) P) : Rr M kc ks pc ls (.int x :: .ref r :: st) h P := R_putI (ty := .int) 12 55 ok12 (by decide) rfl rfl hd hw (Or.inl rfl) ho (by decide +kernel) rfl rfl kk
theorem G12_56 {i r : Nat} (hd : decode M.2.1 pc = .ok (.getfield i, 3)) (hw : Cond.fieldLink M.1.cls i RX12 "laye\x72" "[I" ∈ TBG) (ho : isO h 12 r) (kk : Rr M kc ks (pc + 3) ls (.ref (gF h r 56) :: st) h P) : Rr M kc ks pc ls (.ref r :: st) h P := R_getF 12 56 ok12 (by decide) rfl rfl hd hw ho kk
theorem S12_56 {i r x : Nat} (hd : decode M.2.1 pc = .ok (.putfield i, 3)) (hw : Cond.fieldLink M.1.cls i RX12 "laye\x72" "[I" ∈ TBG) (hi : M.1.name = "<init>" ∧ RX12 = M.1.cls) (ho : isO h 12 r) (kk : Rr M kc ks (pc + 3) ls st (sF h r 56 x) P) : Rr M kc ks pc ls (.ref x :: .ref r :: st) h P := R_putF (ty := (.array .int)) 12 56 ok12 (by decide) rfl rfl hd hw (Or.inr hi) ho (by decide +kernel) (Or.inr ⟨_, rfl⟩) kk
theorem G12_57 {i r : Nat} (hd : decode M.2.1 pc = .ok (.getfield i, 3)) (hw : Cond.fieldLink M.1.cls i RX12 "behind" "[I" ∈ TBG) (ho : isO h 12 r) (kk : Rr M kc ks (pc + 3) ls (.ref (gF h r 57) :: st) h P) : Rr M kc ks pc ls (.ref r :: st) h P := R_getF 12 57 ok12 (by decide) rfl rfl hd hw ho kk
theorem S12_57 {i r x : Nat} (hd : decode M.2.1 pc = .ok (.putfield i, 3)) (hw : Cond.fieldLink M.1.cls i RX12 "behind" "[I" ∈ TBG) (hi : M.1.name = "<init>" ∧ RX12 = M.1.cls) (ho : isO h 12 r) (kk : Rr M kc ks (pc + 3) ls st (sF h r 57 x) P) : Rr M kc ks pc ls (.ref x :: .ref r :: st) h P := R_putF (ty := (.array .int)) 12 57 ok12 (by decide) rfl rfl hd hw (Or.inr hi) ho (by decide +kernel) (Or.inr ⟨_, rfl⟩) kk
theorem G12_58 {i r : Nat} (hd : decode M.2.1 pc = .ok (.getfield i, 3)) (hw : Cond.fieldLink M.1.cls i RX12 "chosen" "[I" ∈ TBG) (ho : isO h 12 r) (kk : Rr M kc ks (pc + 3) ls (.ref (gF h r 58) :: st) h P) : Rr M kc ks pc ls (.ref r :: st) h P := R_getF 12 58 ok12 (by decide) rfl rfl hd hw ho kk
theorem S12_58 {i r x : Nat} (hd : decode M.2.1 pc = .ok (.putfield i, 3)) (hw : Cond.fieldLink M.1.cls i RX12 "chosen" "[I" ∈ TBG) (hi : M.1.name = "<init>" ∧ RX12 = M.1.cls) (ho : isO h 12 r) (kk : Rr M kc ks (pc + 3) ls st (sF h r 58 x) P) : Rr M kc ks pc ls (.ref x :: .ref r :: st) h P := R_putF (ty := (.array .int)) 12 58 ok12 (by decide) rfl rfl hd hw (Or.inr hi) ho (by decide +kernel) (Or.inr ⟨_, rfl⟩) kk
end FRULES
end
section
theorem lmLw_9 : Cond.methodLink RLw 9 yX11_init ∈ TBG := (tg1 24 (by decide +kernel) rfl)
theorem lmX11_1 : Cond.methodLink RX11 1 Lib.objectInit ∈ TBG := (tg1 27 (by decide +kernel) rfl)
theorem lmX4_3 : Cond.methodLink RX4 3 Lib.objectInit ∈ TBG := (tg1 35 (by decide +kernel) rfl)
theorem lmX9_3 : Cond.methodLink RX9 3 Lib.objectInit ∈ TBG := (tg1 41 (by decide +kernel) rfl)
theorem lmX4_20 : Cond.methodLink RX4 20 yX3_init ∈ TBG := (tg1 68 (by decide +kernel) rfl)
theorem lmX3_3 : Cond.methodLink RX3 3 Lib.objectInit ∈ TBG := (tg1 71 (by decide +kernel) rfl)
theorem lmX3_24 : Cond.methodLink RX3 24 yX0_emptyShapes ∈ TBG := (tg1 72 (by decide +kernel) rfl)
theorem lmX0_15 : Cond.methodLink RX0 15 yX0_init ∈ TBG := (tg1 78 (by decide +kernel) rfl)
theorem lmX0_3 : Cond.methodLink RX0 3 Lib.objectInit ∈ TBG := (tg1 81 (by decide +kernel) rfl)
theorem lmX8_3 : Cond.methodLink RX8 3 Lib.objectInit ∈ TBG := (tg1 94 (by decide +kernel) rfl)
theorem lmX3_44 : Cond.methodLink RX3 44 yX3_forget ∈ TBG := (tg1 112 (by decide +kernel) rfl)
theorem lmX3_63 : Cond.methodLink RX3 63 yJ7_fill_53178 ∈ TBG := (tg1 116 (by decide +kernel) rfl)
theorem lmX3_75 : Cond.methodLink RX3 75 yX0_clear ∈ TBG := (tg1 119 (by decide +kernel) rfl)
theorem lmX0_16 : Cond.methodLink RX0 16 yJ7_fill_d0a16 ∈ TBG := (tg1 123 (by decide +kernel) rfl)
theorem lmX11_23 : Cond.methodLink RX11 23 yX3_init ∈ TBG := (tg1 232 (by decide +kernel) rfl)
theorem lmX7_3 : Cond.methodLink RX7 3 Lib.objectInit ∈ TBG := (tg1 238 (by decide +kernel) rfl)
theorem lmX1_1 : Cond.methodLink RX1 1 Lib.objectInit ∈ TBG := (tg2 44 (by decide +kernel) rfl)
theorem lmX6_3 : Cond.methodLink RX6 3 Lib.objectInit ∈ TBG := (tg2 90 (by decide +kernel) rfl)
theorem lmX5_3 : Cond.methodLink RX5 3 Lib.objectInit ∈ TBG := (tg2 120 (by decide +kernel) rfl)
theorem lmX11_56 : Cond.methodLink RX11 56 yX0_emptyShapes ∈ TBG := (tg2 165 (by decide +kernel) rfl)
theorem lmX2_1 : Cond.methodLink RX2 1 Lib.objectInit ∈ TBG := (tg2 173 (by decide +kernel) rfl)
theorem lmX10_3 : Cond.methodLink RX10 3 Lib.objectInit ∈ TBG := (tg2 194 (by decide +kernel) rfl)
theorem lmLw_13 : Cond.methodLink RLw 13 yX11_feed ∈ TBG := (tg3 29 (by decide +kernel) rfl)
theorem lmX11_101 : Cond.methodLink RX11 101 yX9_put ∈ TBG := (tg3 33 (by decide +kernel) rfl)
theorem lmLw_18 : Cond.methodLink RLw 18 yX11_end ∈ TBG := (tg3 37 (by decide +kernel) rfl)
theorem lmLw_23 : Cond.methodLink RLw 23 yX11_job ∈ TBG := (tg3 41 (by decide +kernel) rfl)
theorem lmX11_105 : Cond.methodLink RX11 105 yX4_isJob ∈ TBG := (tg3 45 (by decide +kernel) rfl)
theorem lmX4_29 : Cond.methodLink RX4 29 yX3_forget ∈ TBG := (tg3 49 (by decide +kernel) rfl)
theorem lmX4_41 : Cond.methodLink RX4 41 yX9_rewind ∈ TBG := (tg3 50 (by decide +kernel) rfl)
theorem lmX4_44 : Cond.methodLink RX4 44 yX9_next ∈ TBG := (tg3 54 (by decide +kernel) rfl)
theorem lmX9_22 : Cond.methodLink RX9 22 yX9_isBlank ∈ TBG := (tg3 58 (by decide +kernel) rfl)
theorem lmX9_35 : Cond.methodLink RX9 35 yX9_isLetter ∈ TBG := (tg3 61 (by decide +kernel) rfl)
theorem lmX9_38 : Cond.methodLink RX9 38 yX9_takeWord ∈ TBG := (tg3 64 (by decide +kernel) rfl)
theorem lmX9_41 : Cond.methodLink RX9 41 yX9_isDigit ∈ TBG := (tg3 68 (by decide +kernel) rfl)
theorem lmX9_44 : Cond.methodLink RX9 44 yX9_takeNumber ∈ TBG := (tg3 71 (by decide +kernel) rfl)
theorem lmX9_47 : Cond.methodLink RX9 47 yX9_takeSign ∈ TBG := (tg3 75 (by decide +kernel) rfl)
theorem lmX4_50 : Cond.methodLink RX4 50 yX4_takeClause ∈ TBG := (tg3 79 (by decide +kernel) rfl)
theorem lmX4_61 : Cond.methodLink RX4 61 yX9_wordIn ∈ TBG := (tg3 84 (by decide +kernel) rfl)
theorem lmX9_51 : Cond.methodLink RX9 51 yJ0_length_8abf5 ∈ TBG := (tg3 88 (by decide +kernel) rfl)
theorem lmJ0_335 : Cond.methodLink RJ0 335 yJ0_coder_7d493 ∈ TBG := (tg3 92 (by decide +kernel) rfl)
theorem lmX9_56 : Cond.methodLink RX9 56 yX9_spells ∈ TBG := (tg3 98 (by decide +kernel) rfl)
theorem lmX9_60 : Cond.methodLink RX9 60 yJ0_charAt_5068e ∈ TBG := (tg3 102 (by decide +kernel) rfl)
theorem lmJ0_492 : Cond.methodLink RJ0 492 yJ0_isLatin1_aae02 ∈ TBG := (tg3 106 (by decide +kernel) rfl)
theorem lmJ0_495 : Cond.methodLink RJ0 495 yJ1_charAt_3b067 ∈ TBG := (tg3 110 (by decide +kernel) rfl)
theorem lmJ1_9 : Cond.methodLink RJ1 9 yJ0_checkIndex_df160 ∈ TBG := (tg3 113 (by decide +kernel) rfl)
theorem lmJ0_1059 : Cond.methodLink RJ0 1059 yJ3_checkIndex_8e157 ∈ TBG := (tg3 118 (by decide +kernel) rfl)
theorem lmX4_65 : Cond.methodLink RX4 65 yX4_takeSheet ∈ TBG := (tg3 140 (by decide +kernel) rfl)
theorem lmX4_106 : Cond.methodLink RX4 106 yX4_refuseTwice ∈ TBG := (tg3 144 (by decide +kernel) rfl)
theorem lmX4_99 : Cond.methodLink RX4 99 yX4_refuse ∈ TBG := (tg3 148 (by decide +kernel) rfl)
theorem lmX4_109 : Cond.methodLink RX4 109 yX4_number ∈ TBG := (tg3 152 (by decide +kernel) rfl)
theorem lmX4_177 : Cond.methodLink RX4 177 yX4_numberHere ∈ TBG := (tg3 156 (by decide +kernel) rfl)
theorem lmX4_68 : Cond.methodLink RX4 68 yX4_onlyNumber ∈ TBG := (tg3 160 (by decide +kernel) rfl)
theorem lmX4_84 : Cond.methodLink RX4 84 yX4_takeMark ∈ TBG := (tg3 164 (by decide +kernel) rfl)
theorem lmX4_87 : Cond.methodLink RX4 87 yX4_takeScrew ∈ TBG := (tg3 168 (by decide +kernel) rfl)
theorem lmX4_128 : Cond.methodLink RX4 128 yX4_ink ∈ TBG := (tg3 172 (by decide +kernel) rfl)
theorem lmX4_135 : Cond.methodLink RX4 135 yX4_signedNumber ∈ TBG := (tg3 180 (by decide +kernel) rfl)
theorem lmX4_139 : Cond.methodLink RX4 139 yX3_putScrewNumber ∈ TBG := (tg3 184 (by decide +kernel) rfl)
theorem lmX4_90 : Cond.methodLink RX4 90 yX4_takeBox ∈ TBG := (tg3 188 (by decide +kernel) rfl)
theorem lmX4_152 : Cond.methodLink RX4 152 yX0_addBox ∈ TBG := (tg3 192 (by decide +kernel) rfl)
theorem lmX4_93 : Cond.methodLink RX4 93 yX4_takeScreen ∈ TBG := (tg3 197 (by decide +kernel) rfl)
theorem lmX4_164 : Cond.methodLink RX4 164 yX8_put ∈ TBG := (tg3 201 (by decide +kernel) rfl)
theorem lmX4_96 : Cond.methodLink RX4 96 yX4_takeLies ∈ TBG := (tg3 205 (by decide +kernel) rfl)
theorem lmX4_53 : Cond.methodLink RX4 53 yX4_takeSemicolon ∈ TBG := (tg3 209 (by decide +kernel) rfl)
theorem lmX11_112 : Cond.methodLink RX11 112 yX7_forget ∈ TBG := (tg3 213 (by decide +kernel) rfl)
theorem lmX11_115 : Cond.methodLink RX11 115 yX6_forget ∈ TBG := (tg3 217 (by decide +kernel) rfl)
theorem lmX11_116 : Cond.methodLink RX11 116 yX5_forget ∈ TBG := (tg3 221 (by decide +kernel) rfl)
theorem lmX11_117 : Cond.methodLink RX11 117 yX10_forget ∈ TBG := (tg3 225 (by decide +kernel) rfl)
theorem lmLw_28 : Cond.methodLink RLw 28 yX11_fault ∈ TBG := (tg3 229 (by decide +kernel) rfl)
theorem lmLw_32 : Cond.methodLink RLw 32 yX11_told ∈ TBG := (tg3 233 (by decide +kernel) rfl)
theorem lmX11_127 : Cond.methodLink RX11 127 yX3_plainNumber ∈ TBG := (tg3 237 (by decide +kernel) rfl)
theorem lmX11_134 : Cond.methodLink RX11 134 yX3_stays ∈ TBG := (tg4 1 (by decide +kernel) rfl)
theorem lmX11_137 : Cond.methodLink RX11 137 yX3_markNumber ∈ TBG := (tg4 5 (by decide +kernel) rfl)
theorem lmX11_145 : Cond.methodLink RX11 145 yX8_stepOf ∈ TBG := (tg4 9 (by decide +kernel) rfl)
theorem lmX8_25 : Cond.methodLink RX8 25 yX8_isScreen ∈ TBG := (tg4 13 (by decide +kernel) rfl)
theorem lmLw_36 : Cond.methodLink RLw 36 yX11_screw ∈ TBG := (tg4 17 (by decide +kernel) rfl)
theorem lmX11_150 : Cond.methodLink RX11 150 yX11_isInk ∈ TBG := (tg4 21 (by decide +kernel) rfl)
theorem lmX11_154 : Cond.methodLink RX11 154 yX3_screwNumber ∈ TBG := (tg4 22 (by decide +kernel) rfl)
theorem lmLw_41 : Cond.methodLink RLw 41 yX11_shift ∈ TBG := (tg4 26 (by decide +kernel) rfl)
theorem lmX11_158 : Cond.methodLink RX11 158 yX11_isSlip ∈ TBG := (tg4 30 (by decide +kernel) rfl)
theorem lmX11_391 : Cond.methodLink RX11 391 yX11_isWithinNine ∈ TBG := (tg4 33 (by decide +kernel) rfl)
theorem lmX11_162 : Cond.methodLink RX11 162 yX11_isPlace ∈ TBG := (tg4 36 (by decide +kernel) rfl)
theorem lmX11_165 : Cond.methodLink RX11 165 yX11_turnedAcross ∈ TBG := (tg4 39 (by decide +kernel) rfl)
theorem lmX11_169 : Cond.methodLink RX11 169 yX11_turnedUp ∈ TBG := (tg4 42 (by decide +kernel) rfl)
theorem lmLw_46 : Cond.methodLink RLw 46 yX11_read ∈ TBG := (tg4 45 (by decide +kernel) rfl)
theorem lmX11_172 : Cond.methodLink RX11 172 yX7_mayTell ∈ TBG := (tg4 49 (by decide +kernel) rfl)
theorem lmX7_49 : Cond.methodLink RX7 49 yX7_isStep ∈ TBG := (tg4 53 (by decide +kernel) rfl)
theorem lmX7_53 : Cond.methodLink RX7 53 yX7_isShiftSeen ∈ TBG := (tg4 56 (by decide +kernel) rfl)
theorem lmX11_179 : Cond.methodLink RX11 179 yX7_put ∈ TBG := (tg4 59 (by decide +kernel) rfl)
theorem lmLw_50 : Cond.methodLink RLw 50 yX11_right ∈ TBG := (tg4 63 (by decide +kernel) rfl)
theorem lmX11_185 : Cond.methodLink RX11 185 yX7_putRight ∈ TBG := (tg4 67 (by decide +kernel) rfl)
theorem lmX7_56 : Cond.methodLink RX7 56 yX7_timesRight ∈ TBG := (tg4 71 (by decide +kernel) rfl)
theorem lmLw_55 : Cond.methodLink RLw 55 yX11_fit ∈ TBG := (tg4 75 (by decide +kernel) rfl)
theorem lmX11_188 : Cond.methodLink RX11 188 yX7_isStep ∈ TBG := (tg4 79 (by decide +kernel) rfl)
theorem lmX11_191 : Cond.methodLink RX11 191 yX1_find ∈ TBG := (tg4 80 (by decide +kernel) rfl)
theorem lmX1_30 : Cond.methodLink RX1 30 yX1_gather ∈ TBG := (tg4 84 (by decide +kernel) rfl)
theorem lmX1_67 : Cond.methodLink RX1 67 yX7_markOf ∈ TBG := (tg4 88 (by decide +kernel) rfl)
theorem lmX1_71 : Cond.methodLink RX1 71 yX7_isKnown ∈ TBG := (tg4 92 (by decide +kernel) rfl)
theorem lmX1_84 : Cond.methodLink RX1 84 yX7_acrossKnown ∈ TBG := (tg4 96 (by decide +kernel) rfl)
theorem lmX7_60 : Cond.methodLink RX7 60 yX7_lastRight ∈ TBG := (tg4 100 (by decide +kernel) rfl)
theorem lmX1_88 : Cond.methodLink RX1 88 yX7_upKnown ∈ TBG := (tg4 104 (by decide +kernel) rfl)
theorem lmX1_43 : Cond.methodLink RX1 43 yX1_boundShifts ∈ TBG := (tg4 108 (by decide +kernel) rfl)
theorem lmX1_100 : Cond.methodLink RX1 100 yJ9_max_7cf53 ∈ TBG := (tg4 114 (by decide +kernel) rfl)
theorem lmX1_105 : Cond.methodLink RX1 105 yJ9_min_7cf53 ∈ TBG := (tg4 117 (by decide +kernel) rfl)
theorem lmX1_59 : Cond.methodLink RX1 59 yX1_takeIn ∈ TBG := (tg4 120 (by decide +kernel) rfl)
theorem lmX1_108 : Cond.methodLink RX1 108 yX1_widen ∈ TBG := (tg4 124 (by decide +kernel) rfl)
theorem lmLw_59 : Cond.methodLink RLw 59 yX11_sure ∈ TBG := (tg4 128 (by decide +kernel) rfl)
theorem lmX11_204 : Cond.methodLink RX11 204 yX1_sureBits ∈ TBG := (tg4 132 (by decide +kernel) rfl)
theorem lmLw_64 : Cond.methodLink RLw 64 yX11_mend ∈ TBG := (tg4 136 (by decide +kernel) rfl)
theorem lmX11_208 : Cond.methodLink RX11 208 yX6_begin ∈ TBG := (tg4 140 (by decide +kernel) rfl)
theorem lmX11_212 : Cond.methodLink RX11 212 yX6_find ∈ TBG := (tg4 144 (by decide +kernel) rfl)
theorem lmX6_39 : Cond.methodLink RX6 39 yJ9_min_7cf53 ∈ TBG := (tg4 149 (by decide +kernel) rfl)
theorem lmX6_48 : Cond.methodLink RX6 48 yX6_beginRows ∈ TBG := (tg4 150 (by decide +kernel) rfl)
theorem lmX6_52 : Cond.methodLink RX6 52 yX6_badOfRow ∈ TBG := (tg4 154 (by decide +kernel) rfl)
theorem lmX6_73 : Cond.methodLink RX6 73 yX3_screwNumber ∈ TBG := (tg4 158 (by decide +kernel) rfl)
theorem lmX6_77 : Cond.methodLink RX6 77 yX6_badOf ∈ TBG := (tg4 159 (by decide +kernel) rfl)
theorem lmX6_70 : Cond.methodLink RX6 70 yJ9_abs_0f7a4 ∈ TBG := (tg4 164 (by decide +kernel) rfl)
theorem lmX6_94 : Cond.methodLink RX6 94 yJ9_max_7cf53 ∈ TBG := (tg4 167 (by decide +kernel) rfl)
theorem lmX6_56 : Cond.methodLink RX6 56 yX6_turnsOfRow ∈ TBG := (tg4 169 (by decide +kernel) rfl)
theorem lmX6_60 : Cond.methodLink RX6 60 arraycopyName ∈ TBG := (tg4 173 (by decide +kernel) rfl)
theorem lmX6_66 : Cond.methodLink RX6 66 yX6_nextRow ∈ TBG := (tg4 176 (by decide +kernel) rfl)
theorem lmLw_68 : Cond.methodLink RLw 68 yX11_turned ∈ TBG := (tg4 180 (by decide +kernel) rfl)
theorem lmLw_72 : Cond.methodLink RLw 72 yX11_pulled ∈ TBG := (tg4 184 (by decide +kernel) rfl)
theorem lmLw_76 : Cond.methodLink RLw 76 yX11_shape ∈ TBG := (tg4 188 (by decide +kernel) rfl)
theorem lmX11_220 : Cond.methodLink RX11 220 yX11_isSpread ∈ TBG := (tg4 192 (by decide +kernel) rfl)
theorem lmX11_226 : Cond.methodLink RX11 226 yX0_copy ∈ TBG := (tg4 195 (by decide +kernel) rfl)
theorem lmX0_22 : Cond.methodLink RX0 22 arraycopyName ∈ TBG := (tg4 199 (by decide +kernel) rfl)
theorem lmX11_230 : Cond.methodLink RX11 230 yX0_grow ∈ TBG := (tg4 200 (by decide +kernel) rfl)
theorem lmX0_35 : Cond.methodLink RX0 35 yX0_invert ∈ TBG := (tg4 204 (by decide +kernel) rfl)
theorem lmX0_38 : Cond.methodLink RX0 38 yJ9_abs_0f7a4 ∈ TBG := (tg4 209 (by decide +kernel) rfl)
theorem lmX0_44 : Cond.methodLink RX0 44 yX0_growOnce ∈ TBG := (tg4 210 (by decide +kernel) rfl)
theorem lmX11_233 : Cond.methodLink RX11 233 yX0_row ∈ TBG := (tg4 216 (by decide +kernel) rfl)
theorem lmLw_80 : Cond.methodLink RLw 80 yX11_seen ∈ TBG := (tg4 220 (by decide +kernel) rfl)
theorem lmX11_236 : Cond.methodLink RX11 236 yX11_areUnlikeInks ∈ TBG := (tg4 224 (by decide +kernel) rfl)
theorem lmX11_240 : Cond.methodLink RX11 240 yX0_isShift ∈ TBG := (tg4 227 (by decide +kernel) rfl)
theorem lmX11_243 : Cond.methodLink RX11 243 yX5_lay ∈ TBG := (tg4 230 (by decide +kernel) rfl)
theorem lmX5_54 : Cond.methodLink RX5 54 yX0_copy ∈ TBG := (tg4 234 (by decide +kernel) rfl)
theorem lmX5_61 : Cond.methodLink RX5 61 yX0_grow ∈ TBG := (tg4 235 (by decide +kernel) rfl)
theorem lmX11_247 : Cond.methodLink RX11 247 yX5_slip ∈ TBG := (tg4 236 (by decide +kernel) rfl)
theorem lmX5_65 : Cond.methodLink RX5 65 yX0_move ∈ TBG := (tg5 0 (by decide +kernel) rfl)
theorem lmX0_53 : Cond.methodLink RX0 53 yX0_moveAcross ∈ TBG := (tg5 4 (by decide +kernel) rfl)
theorem lmX0_57 : Cond.methodLink RX0 57 yX0_moveUpOnce ∈ TBG := (tg5 8 (by decide +kernel) rfl)
theorem lmX0_60 : Cond.methodLink RX0 60 yX0_moveDownOnce ∈ TBG := (tg5 12 (by decide +kernel) rfl)
theorem lmX5_77 : Cond.methodLink RX5 77 yJ13_bitCount_95d88 ∈ TBG := (tg5 17 (by decide +kernel) rfl)
theorem lmLw_84 : Cond.methodLink RLw 84 yX11_worst ∈ TBG := (tg5 23 (by decide +kernel) rfl)
theorem lmX11_257 : Cond.methodLink RX11 257 yX11_isReach ∈ TBG := (tg5 27 (by decide +kernel) rfl)
theorem lmX11_260 : Cond.methodLink RX11 260 yX5_worstWithin ∈ TBG := (tg5 30 (by decide +kernel) rfl)
theorem lmX5_83 : Cond.methodLink RX5 83 yX5_slip ∈ TBG := (tg5 34 (by decide +kernel) rfl)
theorem lmX5_87 : Cond.methodLink RX5 87 yJ9_max_7cf53 ∈ TBG := (tg5 35 (by decide +kernel) rfl)
theorem lmLw_88 : Cond.methodLink RLw 88 yX11_best ∈ TBG := (tg5 36 (by decide +kernel) rfl)
theorem lmX11_263 : Cond.methodLink RX11 263 yX5_findBest ∈ TBG := (tg5 40 (by decide +kernel) rfl)
theorem lmX5_93 : Cond.methodLink RX5 93 yX5_lay ∈ TBG := (tg5 45 (by decide +kernel) rfl)
theorem lmX5_97 : Cond.methodLink RX5 97 yX5_worstWithin ∈ TBG := (tg5 46 (by decide +kernel) rfl)
theorem lmX5_101 : Cond.methodLink RX5 101 yJ9_abs_0f7a4 ∈ TBG := (tg5 47 (by decide +kernel) rfl)
theorem lmLw_92 : Cond.methodLink RLw 92 yX11_spread ∈ TBG := (tg5 48 (by decide +kernel) rfl)
theorem lmLw_96 : Cond.methodLink RLw 96 yX11_sign ∈ TBG := (tg5 52 (by decide +kernel) rfl)
theorem lmX11_277 : Cond.methodLink RX11 277 yX0_clear ∈ TBG := (tg5 56 (by decide +kernel) rfl)
theorem lmX11_280 : Cond.methodLink RX11 280 yX0_add ∈ TBG := (tg5 57 (by decide +kernel) rfl)
theorem lmX11_286 : Cond.methodLink RX11 286 yX0_cells ∈ TBG := (tg5 61 (by decide +kernel) rfl)
theorem lmX0_28 : Cond.methodLink RX0 28 yJ13_bitCount_95d88 ∈ TBG := (tg5 65 (by decide +kernel) rfl)
theorem lmLw_100 : Cond.methodLink RLw 100 yX11_held ∈ TBG := (tg5 66 (by decide +kernel) rfl)
theorem lmX11_289 : Cond.methodLink RX11 289 yX11_isShiftCode ∈ TBG := (tg5 70 (by decide +kernel) rfl)
theorem lmX11_292 : Cond.methodLink RX11 292 yX11_markUnlike ∈ TBG := (tg5 73 (by decide +kernel) rfl)
theorem lmX11_296 : Cond.methodLink RX11 296 yX0_move ∈ TBG := (tg5 77 (by decide +kernel) rfl)
theorem lmX11_299 : Cond.methodLink RX11 299 yX0_addUnlike ∈ TBG := (tg5 78 (by decide +kernel) rfl)
theorem lmLw_104 : Cond.methodLink RLw 104 yX11_causes ∈ TBG := (tg5 82 (by decide +kernel) rfl)
theorem lmX11_303 : Cond.methodLink RX11 303 yX9_takeRow ∈ TBG := (tg5 86 (by decide +kernel) rfl)
theorem lmX9_64 : Cond.methodLink RX9 64 yX9_rewind ∈ TBG := (tg5 90 (by decide +kernel) rfl)
theorem lmX9_67 : Cond.methodLink RX9 67 yX9_next ∈ TBG := (tg5 91 (by decide +kernel) rfl)
theorem lmX11_307 : Cond.methodLink RX11 307 yX11_causesOf ∈ TBG := (tg5 92 (by decide +kernel) rfl)
theorem lmX11_310 : Cond.methodLink RX11 310 yX11_breadthOf ∈ TBG := (tg5 96 (by decide +kernel) rfl)
theorem lmX11_319 : Cond.methodLink RX11 319 yJ9_min_7cf53 ∈ TBG := (tg5 100 (by decide +kernel) rfl)
theorem lmX11_324 : Cond.methodLink RX11 324 yJ9_max_7cf53 ∈ TBG := (tg5 101 (by decide +kernel) rfl)
theorem lmX11_313 : Cond.methodLink RX11 313 yX11_isJump ∈ TBG := (tg5 102 (by decide +kernel) rfl)
theorem lmX11_316 : Cond.methodLink RX11 316 yX11_isDrift ∈ TBG := (tg5 106 (by decide +kernel) rfl)
theorem lmLw_108 : Cond.methodLink RLw 108 yX11_cost ∈ TBG := (tg5 110 (by decide +kernel) rfl)
theorem lmX11_327 : Cond.methodLink RX11 327 yX2_areBounds ∈ TBG := (tg5 114 (by decide +kernel) rfl)
theorem lmX2_16 : Cond.methodLink RX2 16 yX2_isPrice ∈ TBG := (tg5 117 (by decide +kernel) rfl)
theorem lmX11_330 : Cond.methodLink RX11 330 yX2_areChances ∈ TBG := (tg5 120 (by decide +kernel) rfl)
theorem lmX2_20 : Cond.methodLink RX2 20 yX2_isChance ∈ TBG := (tg5 123 (by decide +kernel) rfl)
theorem lmX11_335 : Cond.methodLink RX11 335 yX2_weigh ∈ TBG := (tg5 127 (by decide +kernel) rfl)
theorem lmX2_23 : Cond.methodLink RX2 23 yJ7_fill_d0a16 ∈ TBG := (tg5 131 (by decide +kernel) rfl)
theorem lmX2_31 : Cond.methodLink RX2 31 yX2_costBehind ∈ TBG := (tg5 133 (by decide +kernel) rfl)
theorem lmX2_54 : Cond.methodLink RX2 54 yJ9_min_7cf53 ∈ TBG := (tg5 137 (by decide +kernel) rfl)
theorem lmX2_57 : Cond.methodLink RX2 57 yJ9_max_7cf53 ∈ TBG := (tg5 138 (by decide +kernel) rfl)
theorem lmX2_39 : Cond.methodLink RX2 39 yJ9_min_f86c9 ∈ TBG := (tg5 139 (by decide +kernel) rfl)
theorem lmX2_48 : Cond.methodLink RX2 48 arraycopyName ∈ TBG := (tg5 142 (by decide +kernel) rfl)
theorem lmX11_346 : Cond.methodLink RX11 346 yJ9_min_f86c9 ∈ TBG := (tg5 143 (by decide +kernel) rfl)
theorem lmLw_113 : Cond.methodLink RLw 113 yX11_halt ∈ TBG := (tg5 144 (by decide +kernel) rfl)
theorem lmLw_118 : Cond.methodLink RLw 118 yX11_tissue ∈ TBG := (tg5 148 (by decide +kernel) rfl)
theorem lmX11_352 : Cond.methodLink RX11 352 yX10_bound ∈ TBG := (tg5 152 (by decide +kernel) rfl)
theorem lmX10_33 : Cond.methodLink RX10 33 yJ9_min_7cf53 ∈ TBG := (tg5 156 (by decide +kernel) rfl)
theorem lmX11_355 : Cond.methodLink RX11 355 yX10_find ∈ TBG := (tg5 157 (by decide +kernel) rfl)
theorem lmX10_39 : Cond.methodLink RX10 39 yJ7_fill_53178 ∈ TBG := (tg5 161 (by decide +kernel) rfl)
theorem lmX10_45 : Cond.methodLink RX10 45 yX10_lightest ∈ TBG := (tg5 162 (by decide +kernel) rfl)
theorem lmX10_48 : Cond.methodLink RX10 48 yX10_weight ∈ TBG := (tg5 166 (by decide +kernel) rfl)
theorem lmX10_55 : Cond.methodLink RX10 55 yJ9_max_7cf53 ∈ TBG := (tg5 170 (by decide +kernel) rfl)
theorem lmX10_52 : Cond.methodLink RX10 52 yX10_takeLayers ∈ TBG := (tg5 171 (by decide +kernel) rfl)
theorem lmLw_122 : Cond.methodLink RLw 122 yX11_layers ∈ TBG := (tg5 175 (by decide +kernel) rfl)
theorem lmLw_126 : Cond.methodLink RLw 126 yX11_beat ∈ TBG := (tg5 179 (by decide +kernel) rfl)
theorem lmX11_366 : Cond.methodLink RX11 366 yX8_isScreen ∈ TBG := (tg5 183 (by decide +kernel) rfl)
theorem lmX11_369 : Cond.methodLink RX11 369 yX8_beatOf ∈ TBG := (tg5 184 (by decide +kernel) rfl)
theorem lmX8_29 : Cond.methodLink RX8 29 yX8_squaresFrom ∈ TBG := (tg5 188 (by decide +kernel) rfl)
theorem lmX8_33 : Cond.methodLink RX8 33 yJ9_min_7cf53 ∈ TBG := (tg5 192 (by decide +kernel) rfl)
theorem lmLw_130 : Cond.methodLink RLw 130 yX11_setting ∈ TBG := (tg5 193 (by decide +kernel) rfl)
theorem lmX11_373 : Cond.methodLink RX11 373 yX8_findSetting ∈ TBG := (tg5 197 (by decide +kernel) rfl)
theorem lmX8_39 : Cond.methodLink RX8 39 yX8_leastBeat ∈ TBG := (tg5 201 (by decide +kernel) rfl)
theorem lmX8_47 : Cond.methodLink RX8 47 yX8_beatOf ∈ TBG := (tg5 205 (by decide +kernel) rfl)
theorem lmX8_43 : Cond.methodLink RX8 43 yX8_set ∈ TBG := (tg5 206 (by decide +kernel) rfl)
theorem lmLw_134 : Cond.methodLink RLw 134 yX11_order ∈ TBG := (tg5 210 (by decide +kernel) rfl)
theorem lmX11_379 : Cond.methodLink RX11 379 yX11_findOrder ∈ TBG := (tg5 214 (by decide +kernel) rfl)
theorem lmX11_382 : Cond.methodLink RX11 382 yX11_sumOf ∈ TBG := (tg5 218 (by decide +kernel) rfl)
theorem lmLw_138 : Cond.methodLink RLw 138 yX11_sum ∈ TBG := (tg5 222 (by decide +kernel) rfl)
theorem lmLw_142 : Cond.methodLink RLw 142 yX11_count ∈ TBG := (tg5 226 (by decide +kernel) rfl)
theorem lmLw_12 : Cond.methodLink RLw 12 yX12_init ∈ TBG := (tg5 232 (by decide +kernel) rfl)
theorem lmX12_1 : Cond.methodLink RX12 1 Lib.objectInit ∈ TBG := (tg5 235 (by decide +kernel) rfl)
theorem lmX12_115 : Cond.methodLink RX12 115 yX12_begin ∈ TBG := (tg5 236 (by decide +kernel) rfl)
theorem lmX12_118 : Cond.methodLink RX12 118 yX12_settle ∈ TBG := (tg6 0 (by decide +kernel) rfl)
theorem lmX12_195 : Cond.methodLink RX12 195 yX12_comes ∈ TBG := (tg6 4 (by decide +kernel) rfl)
theorem lmLw_17 : Cond.methodLink RLw 17 yX12_feed ∈ TBG := (tg6 185 (by decide +kernel) rfl)
theorem lmLw_22 : Cond.methodLink RLw 22 yX12_end ∈ TBG := (tg6 189 (by decide +kernel) rfl)
theorem lmLw_31 : Cond.methodLink RLw 31 yX12_fault ∈ TBG := (tg6 193 (by decide +kernel) rfl)
theorem lmLw_27 : Cond.methodLink RLw 27 yX12_job ∈ TBG := (tg6 197 (by decide +kernel) rfl)
theorem lmX12_250 : Cond.methodLink RX12 250 yX12_start ∈ TBG := (tg6 201 (by decide +kernel) rfl)
theorem lmX12_169 : Cond.methodLink RX12 169 yX12_scan ∈ TBG := (tg6 205 (by decide +kernel) rfl)
theorem lmX12_139 : Cond.methodLink RX12 139 yX12_byteAt ∈ TBG := (tg6 209 (by decide +kernel) rfl)
theorem lmX12_155 : Cond.methodLink RX12 155 yX12_isSmall ∈ TBG := (tg6 213 (by decide +kernel) rfl)
theorem lmX12_159 : Cond.methodLink RX12 159 yX12_keyAt ∈ TBG := (tg6 216 (by decide +kernel) rfl)
theorem lmX12_129 : Cond.methodLink RX12 129 yJ0_length_8abf5 ∈ TBG := (tg6 221 (by decide +kernel) rfl)
theorem lmX12_135 : Cond.methodLink RX12 135 yJ0_charAt_5068e ∈ TBG := (tg6 222 (by decide +kernel) rfl)
theorem lmX12_163 : Cond.methodLink RX12 163 yX12_isDigit ∈ TBG := (tg6 223 (by decide +kernel) rfl)
theorem lmX12_253 : Cond.methodLink RX12 253 yX12_readClause ∈ TBG := (tg6 226 (by decide +kernel) rfl)
theorem lmX12_229 : Cond.methodLink RX12 229 yX12_readSheet ∈ TBG := (tg6 230 (by decide +kernel) rfl)
theorem lmX12_218 : Cond.methodLink RX12 218 yX12_isAgain ∈ TBG := (tg6 234 (by decide +kernel) rfl)
theorem lmX12_175 : Cond.methodLink RX12 175 yX12_fails ∈ TBG := (tg6 238 (by decide +kernel) rfl)
theorem lmX12_185 : Cond.methodLink RX12 185 yX12_readNumber ∈ TBG := (tg7 2 (by decide +kernel) rfl)
theorem lmX12_178 : Cond.methodLink RX12 178 yX12_in ∈ TBG := (tg7 6 (by decide +kernel) rfl)
theorem lmX12_232 : Cond.methodLink RX12 232 yX12_readMark ∈ TBG := (tg7 9 (by decide +kernel) rfl)
theorem lmX12_235 : Cond.methodLink RX12 235 yX12_readOne ∈ TBG := (tg7 13 (by decide +kernel) rfl)
theorem lmX12_238 : Cond.methodLink RX12 238 yX12_readScrew ∈ TBG := (tg7 17 (by decide +kernel) rfl)
theorem lmX12_221 : Cond.methodLink RX12 221 yX12_isInk ∈ TBG := (tg7 21 (by decide +kernel) rfl)
theorem lmX12_225 : Cond.methodLink RX12 225 yX12_readSigned ∈ TBG := (tg7 25 (by decide +kernel) rfl)
theorem lmX12_241 : Cond.methodLink RX12 241 yX12_readBox ∈ TBG := (tg7 29 (by decide +kernel) rfl)
theorem lmX12_244 : Cond.methodLink RX12 244 yX12_readScreen ∈ TBG := (tg7 34 (by decide +kernel) rfl)
theorem lmX12_247 : Cond.methodLink RX12 247 yX12_readLies ∈ TBG := (tg7 38 (by decide +kernel) rfl)
theorem lmLw_35 : Cond.methodLink RLw 35 yX12_told ∈ TBG := (tg7 42 (by decide +kernel) rfl)
theorem lmLw_40 : Cond.methodLink RLw 40 yX12_screw ∈ TBG := (tg7 46 (by decide +kernel) rfl)
theorem lmX12_259 : Cond.methodLink RX12 259 yX12_isInkNumber ∈ TBG := (tg7 50 (by decide +kernel) rfl)
theorem lmLw_45 : Cond.methodLink RLw 45 yX12_shift ∈ TBG := (tg7 53 (by decide +kernel) rfl)
theorem lmX12_262 : Cond.methodLink RX12 262 yX12_isSlip ∈ TBG := (tg7 57 (by decide +kernel) rfl)
theorem lmX12_266 : Cond.methodLink RX12 266 yX12_acrossAt ∈ TBG := (tg7 60 (by decide +kernel) rfl)
theorem lmX12_270 : Cond.methodLink RX12 270 yX12_upAt ∈ TBG := (tg7 63 (by decide +kernel) rfl)
theorem lmLw_49 : Cond.methodLink RLw 49 yX12_read ∈ TBG := (tg7 66 (by decide +kernel) rfl)
theorem lmLw_54 : Cond.methodLink RLw 54 yX12_right ∈ TBG := (tg7 70 (by decide +kernel) rfl)
theorem lmLw_58 : Cond.methodLink RLw 58 yX12_fit ∈ TBG := (tg7 74 (by decide +kernel) rfl)
theorem lmX12_292 : Cond.methodLink RX12 292 yX12_makeFits ∈ TBG := (tg7 78 (by decide +kernel) rfl)
theorem lmX12_282 : Cond.methodLink RX12 282 yX12_ask ∈ TBG := (tg7 82 (by decide +kernel) rfl)
theorem lmX12_286 : Cond.methodLink RX12 286 yX12_isFit ∈ TBG := (tg7 86 (by decide +kernel) rfl)
theorem lmX12_276 : Cond.methodLink RX12 276 yX12_plain ∈ TBG := (tg7 90 (by decide +kernel) rfl)
theorem lmX12_289 : Cond.methodLink RX12 289 yX12_note ∈ TBG := (tg7 93 (by decide +kernel) rfl)
theorem lmLw_63 : Cond.methodLink RLw 63 yX12_sure ∈ TBG := (tg7 97 (by decide +kernel) rfl)
theorem lmLw_67 : Cond.methodLink RLw 67 yX12_mend ∈ TBG := (tg7 101 (by decide +kernel) rfl)
theorem lmX12_295 : Cond.methodLink RX12 295 yX12_badOf ∈ TBG := (tg7 105 (by decide +kernel) rfl)
theorem lmLw_71 : Cond.methodLink RLw 71 yX12_turned ∈ TBG := (tg7 109 (by decide +kernel) rfl)
theorem lmLw_75 : Cond.methodLink RLw 75 yX12_pulled ∈ TBG := (tg7 113 (by decide +kernel) rfl)
theorem lmLw_79 : Cond.methodLink RLw 79 yX12_shape ∈ TBG := (tg7 117 (by decide +kernel) rfl)
theorem lmX12_303 : Cond.methodLink RX12 303 yX12_spreadTo ∈ TBG := (tg7 121 (by decide +kernel) rfl)
theorem lmLw_83 : Cond.methodLink RLw 83 yX12_seen ∈ TBG := (tg7 126 (by decide +kernel) rfl)
theorem lmX12_319 : Cond.methodLink RX12 319 yX12_isPair ∈ TBG := (tg7 130 (by decide +kernel) rfl)
theorem lmX12_322 : Cond.methodLink RX12 322 yX12_look ∈ TBG := (tg7 133 (by decide +kernel) rfl)
theorem lmX12_307 : Cond.methodLink RX12 307 yX12_carry ∈ TBG := (tg7 137 (by decide +kernel) rfl)
theorem lmX12_300 : Cond.methodLink RX12 300 yX12_shiftedRow ∈ TBG := (tg7 141 (by decide +kernel) rfl)
theorem lmX12_316 : Cond.methodLink RX12 316 yX12_bits ∈ TBG := (tg7 144 (by decide +kernel) rfl)
theorem lmLw_87 : Cond.methodLink RLw 87 yX12_worst ∈ TBG := (tg7 147 (by decide +kernel) rfl)
theorem lmX12_326 : Cond.methodLink RX12 326 yX12_worstOf ∈ TBG := (tg7 151 (by decide +kernel) rfl)
theorem lmLw_91 : Cond.methodLink RLw 91 yX12_best ∈ TBG := (tg7 155 (by decide +kernel) rfl)
theorem lmLw_95 : Cond.methodLink RLw 95 yX12_spread ∈ TBG := (tg7 159 (by decide +kernel) rfl)
theorem lmLw_99 : Cond.methodLink RLw 99 yX12_sign ∈ TBG := (tg7 163 (by decide +kernel) rfl)
theorem lmLw_103 : Cond.methodLink RLw 103 yX12_held ∈ TBG := (tg7 167 (by decide +kernel) rfl)
theorem lmX12_338 : Cond.methodLink RX12 338 yX12_heldRow ∈ TBG := (tg7 171 (by decide +kernel) rfl)
theorem lmLw_107 : Cond.methodLink RLw 107 yX12_causes ∈ TBG := (tg7 175 (by decide +kernel) rfl)
theorem lmX12_342 : Cond.methodLink RX12 342 yX12_isLevel ∈ TBG := (tg7 179 (by decide +kernel) rfl)
theorem lmLw_112 : Cond.methodLink RLw 112 yX12_cost ∈ TBG := (tg7 183 (by decide +kernel) rfl)
theorem lmX12_351 : Cond.methodLink RX12 351 yX12_isHalting ∈ TBG := (tg7 187 (by decide +kernel) rfl)
theorem lmX12_357 : Cond.methodLink RX12 357 yX12_makeMeans ∈ TBG := (tg7 191 (by decide +kernel) rfl)
theorem lmX12_347 : Cond.methodLink RX12 347 yX12_goOn ∈ TBG := (tg7 196 (by decide +kernel) rfl)
theorem lmLw_117 : Cond.methodLink RLw 117 yX12_halt ∈ TBG := (tg7 200 (by decide +kernel) rfl)
theorem lmLw_121 : Cond.methodLink RLw 121 yX12_tissue ∈ TBG := (tg7 204 (by decide +kernel) rfl)
theorem lmLw_125 : Cond.methodLink RLw 125 yX12_layers ∈ TBG := (tg7 209 (by decide +kernel) rfl)
theorem lmLw_129 : Cond.methodLink RLw 129 yX12_beat ∈ TBG := (tg7 213 (by decide +kernel) rfl)
theorem lmX12_365 : Cond.methodLink RX12 365 yX12_beatOf ∈ TBG := (tg7 217 (by decide +kernel) rfl)
theorem lmX12_362 : Cond.methodLink RX12 362 yX12_square ∈ TBG := (tg7 221 (by decide +kernel) rfl)
theorem lmLw_133 : Cond.methodLink RLw 133 yX12_setting ∈ TBG := (tg7 224 (by decide +kernel) rfl)
theorem lmLw_137 : Cond.methodLink RLw 137 yX12_order ∈ TBG := (tg7 228 (by decide +kernel) rfl)
theorem lmX12_368 : Cond.methodLink RX12 368 yX12_sumOf ∈ TBG := (tg7 232 (by decide +kernel) rfl)
theorem lmLw_141 : Cond.methodLink RLw 141 yX12_sum ∈ TBG := (tg7 236 (by decide +kernel) rfl)
theorem lmLw_145 : Cond.methodLink RLw 145 yX12_count ∈ TBG := (tg8 0 (by decide +kernel) rfl)
theorem lfX9_11 : Cond.fieldLink RX9 11 RX9 "bytes" "[B" ∈ TBG := (tg1 42 (by decide +kernel) rfl)
theorem lfX9_19 : Cond.fieldLink RX9 19 RX9 "at" "I" ∈ TBG := (tg1 43 (by decide +kernel) rfl)
theorem lfX11_95 : Cond.fieldLink RX11 95 RX9 "length" "I" ∈ TBG := (tg1 44 (by decide +kernel) rfl)
theorem lfX9_15 : Cond.fieldLink RX9 15 RX9 "length" "I" ∈ TBG := (tg1 45 (by decide +kernel) rfl)
theorem lfX4_47 : Cond.fieldLink RX4 47 RX9 "kind" "I" ∈ TBG := (tg1 46 (by decide +kernel) rfl)
theorem lfX9_32 : Cond.fieldLink RX9 32 RX9 "kind" "I" ∈ TBG := (tg1 47 (by decide +kernel) rfl)
theorem lfX4_56 : Cond.fieldLink RX4 56 RX9 "start" "I" ∈ TBG := (tg1 48 (by decide +kernel) rfl)
theorem lfX9_26 : Cond.fieldLink RX9 26 RX9 "start" "I" ∈ TBG := (tg1 49 (by decide +kernel) rfl)
theorem lfX9_29 : Cond.fieldLink RX9 29 RX9 "value" "I" ∈ TBG := (tg1 50 (by decide +kernel) rfl)
theorem lfX4_180 : Cond.fieldLink RX4 180 RX9 "value" "I" ∈ TBG := (tg1 51 (by decide +kernel) rfl)
theorem lfX0_11 : Cond.fieldLink RX0 11 RX0 "words" "[J" ∈ TBG := (tg1 82 (by decide +kernel) rfl)
theorem lfX5_58 : Cond.fieldLink RX5 58 RX0 "words" "[J" ∈ TBG := (tg1 83 (by decide +kernel) rfl)
theorem lfX8_21 : Cond.fieldLink RX8 21 RX8 "size" "I" ∈ TBG := (tg1 95 (by decide +kernel) rfl)
theorem lfX3_84 : Cond.fieldLink RX3 84 RX8 "size" "I" ∈ TBG := (tg1 96 (by decide +kernel) rfl)
theorem lfX4_159 : Cond.fieldLink RX4 159 RX8 "size" "I" ∈ TBG := (tg1 97 (by decide +kernel) rfl)
theorem lfX11_372 : Cond.fieldLink RX11 372 RX8 "size" "I" ∈ TBG := (tg1 98 (by decide +kernel) rfl)
theorem lfX8_11 : Cond.fieldLink RX8 11 RX8 "p" "[I" ∈ TBG := (tg1 99 (by decide +kernel) rfl)
theorem lfX8_15 : Cond.fieldLink RX8 15 RX8 "q" "[I" ∈ TBG := (tg1 100 (by decide +kernel) rfl)
theorem lfX8_18 : Cond.fieldLink RX8 18 RX8 "setting" "[I" ∈ TBG := (tg1 101 (by decide +kernel) rfl)
theorem lfX11_376 : Cond.fieldLink RX11 376 RX8 "setting" "[I" ∈ TBG := (tg1 102 (by decide +kernel) rfl)
theorem lfX3_47 : Cond.fieldLink RX3 47 RX3 "clauses" "I" ∈ TBG := (tg1 126 (by decide +kernel) rfl)
theorem lfX11_118 : Cond.fieldLink RX11 118 RX3 "clauses" "I" ∈ TBG := (tg1 127 (by decide +kernel) rfl)
theorem lfX4_103 : Cond.fieldLink RX4 103 RX3 "clauses" "I" ∈ TBG := (tg1 128 (by decide +kernel) rfl)
theorem lfX3_51 : Cond.fieldLink RX3 51 RX3 "width" "I" ∈ TBG := (tg1 129 (by decide +kernel) rfl)
theorem lfX4_115 : Cond.fieldLink RX4 115 RX3 "width" "I" ∈ TBG := (tg1 130 (by decide +kernel) rfl)
theorem lfX3_54 : Cond.fieldLink RX3 54 RX3 "height" "I" ∈ TBG := (tg1 131 (by decide +kernel) rfl)
theorem lfX4_118 : Cond.fieldLink RX4 118 RX3 "height" "I" ∈ TBG := (tg1 132 (by decide +kernel) rfl)
theorem lfX3_57 : Cond.fieldLink RX3 57 RX3 "marks" "I" ∈ TBG := (tg1 133 (by decide +kernel) rfl)
theorem lfX1_75 : Cond.fieldLink RX1 75 RX3 "marks" "I" ∈ TBG := (tg1 134 (by decide +kernel) rfl)
theorem lfX4_112 : Cond.fieldLink RX4 112 RX3 "marks" "I" ∈ TBG := (tg1 135 (by decide +kernel) rfl)
theorem lfX6_81 : Cond.fieldLink RX6 81 RX3 "marks" "I" ∈ TBG := (tg1 136 (by decide +kernel) rfl)
theorem lfX11_176 : Cond.fieldLink RX11 176 RX3 "marks" "I" ∈ TBG := (tg1 137 (by decide +kernel) rfl)
theorem lfX3_11 : Cond.fieldLink RX3 11 RX3 "markX" "[I" ∈ TBG := (tg1 138 (by decide +kernel) rfl)
theorem lfX1_78 : Cond.fieldLink RX1 78 RX3 "markX" "[I" ∈ TBG := (tg1 139 (by decide +kernel) rfl)
theorem lfX6_84 : Cond.fieldLink RX6 84 RX3 "markX" "[I" ∈ TBG := (tg1 140 (by decide +kernel) rfl)
theorem lfX4_121 : Cond.fieldLink RX4 121 RX3 "markX" "[I" ∈ TBG := (tg1 141 (by decide +kernel) rfl)
theorem lfX3_15 : Cond.fieldLink RX3 15 RX3 "markY" "[I" ∈ TBG := (tg1 142 (by decide +kernel) rfl)
theorem lfX1_81 : Cond.fieldLink RX1 81 RX3 "markY" "[I" ∈ TBG := (tg1 143 (by decide +kernel) rfl)
theorem lfX6_87 : Cond.fieldLink RX6 87 RX3 "markY" "[I" ∈ TBG := (tg1 144 (by decide +kernel) rfl)
theorem lfX4_125 : Cond.fieldLink RX4 125 RX3 "markY" "[I" ∈ TBG := (tg1 145 (by decide +kernel) rfl)
theorem lfX3_60 : Cond.fieldLink RX3 60 RX3 "slack" "I" ∈ TBG := (tg1 146 (by decide +kernel) rfl)
theorem lfX1_38 : Cond.fieldLink RX1 38 RX3 "slack" "I" ∈ TBG := (tg1 147 (by decide +kernel) rfl)
theorem lfX4_72 : Cond.fieldLink RX4 72 RX3 "slack" "I" ∈ TBG := (tg1 148 (by decide +kernel) rfl)
theorem lfX3_18 : Cond.fieldLink RX3 18 RX3 "screws" "[I" ∈ TBG := (tg1 149 (by decide +kernel) rfl)
theorem lfX6_37 : Cond.fieldLink RX6 37 RX3 "screws" "[I" ∈ TBG := (tg1 150 (by decide +kernel) rfl)
theorem lfX11_131 : Cond.fieldLink RX11 131 RX3 "screws" "[I" ∈ TBG := (tg1 151 (by decide +kernel) rfl)
theorem lfX4_132 : Cond.fieldLink RX4 132 RX3 "screws" "[I" ∈ TBG := (tg1 152 (by decide +kernel) rfl)
theorem lfX3_21 : Cond.fieldLink RX3 21 RX3 "screwNumbers" "[I" ∈ TBG := (tg1 153 (by decide +kernel) rfl)
theorem lfX3_69 : Cond.fieldLink RX3 69 RX3 "turns" "I" ∈ TBG := (tg1 154 (by decide +kernel) rfl)
theorem lfX6_45 : Cond.fieldLink RX6 45 RX3 "turns" "I" ∈ TBG := (tg1 155 (by decide +kernel) rfl)
theorem lfX4_75 : Cond.fieldLink RX4 75 RX3 "turns" "I" ∈ TBG := (tg1 156 (by decide +kernel) rfl)
theorem lfX3_72 : Cond.fieldLink RX3 72 RX3 "boxes" "I" ∈ TBG := (tg1 157 (by decide +kernel) rfl)
theorem lfX4_143 : Cond.fieldLink RX4 143 RX3 "boxes" "I" ∈ TBG := (tg1 158 (by decide +kernel) rfl)
theorem lfX3_30 : Cond.fieldLink RX3 30 RX3 "shapes" "[LFourInks$Board;" ∈ TBG := (tg1 159 (by decide +kernel) rfl)
theorem lfX5_50 : Cond.fieldLink RX5 50 RX3 "shapes" "[LFourInks$Board;" ∈ TBG := (tg1 160 (by decide +kernel) rfl)
theorem lfX4_148 : Cond.fieldLink RX4 148 RX3 "shapes" "[LFourInks$Board;" ∈ TBG := (tg1 161 (by decide +kernel) rfl)
theorem lfX11_223 : Cond.fieldLink RX11 223 RX3 "shapes" "[LFourInks$Board;" ∈ TBG := (tg1 162 (by decide +kernel) rfl)
theorem lfX3_78 : Cond.fieldLink RX3 78 RX3 "white" "I" ∈ TBG := (tg1 163 (by decide +kernel) rfl)
theorem lfX5_35 : Cond.fieldLink RX5 35 RX3 "white" "I" ∈ TBG := (tg1 164 (by decide +kernel) rfl)
theorem lfX4_78 : Cond.fieldLink RX4 78 RX3 "white" "I" ∈ TBG := (tg1 165 (by decide +kernel) rfl)
theorem lfX3_81 : Cond.fieldLink RX3 81 RX3 "ove\x72" "I" ∈ TBG := (tg1 166 (by decide +kernel) rfl)
theorem lfX5_44 : Cond.fieldLink RX5 44 RX3 "ove\x72" "I" ∈ TBG := (tg1 167 (by decide +kernel) rfl)
theorem lfX4_81 : Cond.fieldLink RX4 81 RX3 "ove\x72" "I" ∈ TBG := (tg1 168 (by decide +kernel) rfl)
theorem lfX3_37 : Cond.fieldLink RX3 37 RX3 "screens" "LFourInks$Screens;" ∈ TBG := (tg1 169 (by decide +kernel) rfl)
theorem lfX11_141 : Cond.fieldLink RX11 141 RX3 "screens" "LFourInks$Screens;" ∈ TBG := (tg1 170 (by decide +kernel) rfl)
theorem lfX4_155 : Cond.fieldLink RX4 155 RX3 "screens" "LFourInks$Screens;" ∈ TBG := (tg1 171 (by decide +kernel) rfl)
theorem lfX3_41 : Cond.fieldLink RX3 41 RX3 "lies" "[I" ∈ TBG := (tg1 172 (by decide +kernel) rfl)
theorem lfX4_168 : Cond.fieldLink RX4 168 RX3 "lies" "[I" ∈ TBG := (tg1 173 (by decide +kernel) rfl)
theorem lfX11_385 : Cond.fieldLink RX11 385 RX3 "lies" "[I" ∈ TBG := (tg1 174 (by decide +kernel) rfl)
theorem lfX4_12 : Cond.fieldLink RX4 12 RX4 "tape" "LFourInks$Tape;" ∈ TBG := (tg1 208 (by decide +kernel) rfl)
theorem lfX11_16 : Cond.fieldLink RX11 16 RX4 "tape" "LFourInks$Tape;" ∈ TBG := (tg1 209 (by decide +kernel) rfl)
theorem lfX4_32 : Cond.fieldLink RX4 32 RX4 "clausesTold" "I" ∈ TBG := (tg1 210 (by decide +kernel) rfl)
theorem lfX4_35 : Cond.fieldLink RX4 35 RX4 "pairsTold" "I" ∈ TBG := (tg1 211 (by decide +kernel) rfl)
theorem lfX4_21 : Cond.fieldLink RX4 21 RX4 "draft" "LFourInks$Job;" ∈ TBG := (tg1 212 (by decide +kernel) rfl)
theorem lfX11_109 : Cond.fieldLink RX11 109 RX4 "draft" "LFourInks$Job;" ∈ TBG := (tg1 213 (by decide +kernel) rfl)
theorem lfX4_38 : Cond.fieldLink RX4 38 RX4 "fault" "I" ∈ TBG := (tg1 214 (by decide +kernel) rfl)
theorem lfX11_121 : Cond.fieldLink RX11 121 RX4 "fault" "I" ∈ TBG := (tg1 215 (by decide +kernel) rfl)
theorem lfX4_25 : Cond.fieldLink RX4 25 RX4 "place" "I" ∈ TBG := (tg1 216 (by decide +kernel) rfl)
theorem lfX11_124 : Cond.fieldLink RX11 124 RX4 "place" "I" ∈ TBG := (tg1 217 (by decide +kernel) rfl)
theorem lfX7_39 : Cond.fieldLink RX7 39 RX7 "size" "I" ∈ TBG := (tg1 239 (by decide +kernel) rfl)
theorem lfX1_66 : Cond.fieldLink RX1 66 RX7 "size" "I" ∈ TBG := (tg2 0 (by decide +kernel) rfl)
theorem lfX11_182 : Cond.fieldLink RX11 182 RX7 "size" "I" ∈ TBG := (tg2 1 (by decide +kernel) rfl)
theorem lfX7_43 : Cond.fieldLink RX7 43 RX7 "rights" "I" ∈ TBG := (tg2 2 (by decide +kernel) rfl)
theorem lfX11_388 : Cond.fieldLink RX11 388 RX7 "rights" "I" ∈ TBG := (tg2 3 (by decide +kernel) rfl)
theorem lfX7_46 : Cond.fieldLink RX7 46 RX7 "latest" "I" ∈ TBG := (tg2 4 (by decide +kernel) rfl)
theorem lfX7_11 : Cond.fieldLink RX7 11 RX7 "step" "[I" ∈ TBG := (tg2 5 (by decide +kernel) rfl)
theorem lfX7_15 : Cond.fieldLink RX7 15 RX7 "ink" "[I" ∈ TBG := (tg2 6 (by decide +kernel) rfl)
theorem lfX7_18 : Cond.fieldLink RX7 18 RX7 "mark" "[I" ∈ TBG := (tg2 7 (by decide +kernel) rfl)
theorem lfX7_21 : Cond.fieldLink RX7 21 RX7 "across" "[I" ∈ TBG := (tg2 8 (by decide +kernel) rfl)
theorem lfX7_24 : Cond.fieldLink RX7 24 RX7 "up" "[I" ∈ TBG := (tg2 9 (by decide +kernel) rfl)
theorem lfX7_27 : Cond.fieldLink RX7 27 RX7 "rightOf" "[I" ∈ TBG := (tg2 10 (by decide +kernel) rfl)
theorem lfX7_30 : Cond.fieldLink RX7 30 RX7 "rightStep" "[I" ∈ TBG := (tg2 11 (by decide +kernel) rfl)
theorem lfX7_33 : Cond.fieldLink RX7 33 RX7 "rightAcross" "[I" ∈ TBG := (tg2 12 (by decide +kernel) rfl)
theorem lfX7_36 : Cond.fieldLink RX7 36 RX7 "rightUp" "[I" ∈ TBG := (tg2 13 (by decide +kernel) rfl)
theorem lfX1_63 : Cond.fieldLink RX1 63 RX1 "size" "I" ∈ TBG := (tg2 45 (by decide +kernel) rfl)
theorem lfX1_9 : Cond.fieldLink RX1 9 RX1 "x" "[I" ∈ TBG := (tg2 46 (by decide +kernel) rfl)
theorem lfX1_15 : Cond.fieldLink RX1 15 RX1 "y" "[I" ∈ TBG := (tg2 47 (by decide +kernel) rfl)
theorem lfX1_18 : Cond.fieldLink RX1 18 RX1 "across" "[I" ∈ TBG := (tg2 48 (by decide +kernel) rfl)
theorem lfX1_21 : Cond.fieldLink RX1 21 RX1 "up" "[I" ∈ TBG := (tg2 49 (by decide +kernel) rfl)
theorem lfX1_47 : Cond.fieldLink RX1 47 RX1 "leastA" "I" ∈ TBG := (tg2 50 (by decide +kernel) rfl)
theorem lfX1_50 : Cond.fieldLink RX1 50 RX1 "greatestA" "I" ∈ TBG := (tg2 51 (by decide +kernel) rfl)
theorem lfX1_53 : Cond.fieldLink RX1 53 RX1 "leastB" "I" ∈ TBG := (tg2 52 (by decide +kernel) rfl)
theorem lfX1_56 : Cond.fieldLink RX1 56 RX1 "greatestB" "I" ∈ TBG := (tg2 53 (by decide +kernel) rfl)
theorem lfX1_34 : Cond.fieldLink RX1 34 RX1 "slips" "I" ∈ TBG := (tg2 54 (by decide +kernel) rfl)
theorem lfX11_195 : Cond.fieldLink RX11 195 RX1 "slips" "I" ∈ TBG := (tg2 55 (by decide +kernel) rfl)
theorem lfX1_24 : Cond.fieldLink RX1 24 RX1 "least" "[I" ∈ TBG := (tg2 56 (by decide +kernel) rfl)
theorem lfX11_198 : Cond.fieldLink RX11 198 RX1 "least" "[I" ∈ TBG := (tg2 57 (by decide +kernel) rfl)
theorem lfX1_27 : Cond.fieldLink RX1 27 RX1 "greatest" "[I" ∈ TBG := (tg2 58 (by decide +kernel) rfl)
theorem lfX11_201 : Cond.fieldLink RX11 201 RX1 "greatest" "[I" ∈ TBG := (tg2 59 (by decide +kernel) rfl)
theorem lfX6_24 : Cond.fieldLink RX6 24 RX6 "a" "I" ∈ TBG := (tg2 91 (by decide +kernel) rfl)
theorem lfX6_27 : Cond.fieldLink RX6 27 RX6 "b" "I" ∈ TBG := (tg2 92 (by decide +kernel) rfl)
theorem lfX6_30 : Cond.fieldLink RX6 30 RX6 "\x72" "I" ∈ TBG := (tg2 93 (by decide +kernel) rfl)
theorem lfX6_33 : Cond.fieldLink RX6 33 RX6 "s" "I" ∈ TBG := (tg2 94 (by decide +kernel) rfl)
theorem lfX6_11 : Cond.fieldLink RX6 11 RX6 "row" "[I" ∈ TBG := (tg2 95 (by decide +kernel) rfl)
theorem lfX6_20 : Cond.fieldLink RX6 20 RX6 "screws" "I" ∈ TBG := (tg2 96 (by decide +kernel) rfl)
theorem lfX11_215 : Cond.fieldLink RX11 215 RX6 "screws" "I" ∈ TBG := (tg2 97 (by decide +kernel) rfl)
theorem lfX6_17 : Cond.fieldLink RX6 17 RX6 "bestRow" "[I" ∈ TBG := (tg2 98 (by decide +kernel) rfl)
theorem lfX11_217 : Cond.fieldLink RX11 217 RX6 "bestRow" "[I" ∈ TBG := (tg2 99 (by decide +kernel) rfl)
theorem lfX5_41 : Cond.fieldLink RX5 41 RX5 "whitePrice" "I" ∈ TBG := (tg2 123 (by decide +kernel) rfl)
theorem lfX5_47 : Cond.fieldLink RX5 47 RX5 "overPrice" "I" ∈ TBG := (tg2 124 (by decide +kernel) rfl)
theorem lfX5_11 : Cond.fieldLink RX5 11 RX5 "wanted" "[J" ∈ TBG := (tg2 125 (by decide +kernel) rfl)
theorem lfX5_17 : Cond.fieldLink RX5 17 RX5 "common" "[J" ∈ TBG := (tg2 126 (by decide +kernel) rfl)
theorem lfX5_21 : Cond.fieldLink RX5 21 RX5 "first" "LFourInks$Board;" ∈ TBG := (tg2 127 (by decide +kernel) rfl)
theorem lfX5_25 : Cond.fieldLink RX5 25 RX5 "second" "LFourInks$Board;" ∈ TBG := (tg2 128 (by decide +kernel) rfl)
theorem lfX5_28 : Cond.fieldLink RX5 28 RX5 "slipped" "LFourInks$Board;" ∈ TBG := (tg2 129 (by decide +kernel) rfl)
theorem lfX5_69 : Cond.fieldLink RX5 69 RX5 "whiteCells" "I" ∈ TBG := (tg2 130 (by decide +kernel) rfl)
theorem lfX11_251 : Cond.fieldLink RX11 251 RX5 "whiteCells" "I" ∈ TBG := (tg2 131 (by decide +kernel) rfl)
theorem lfX5_72 : Cond.fieldLink RX5 72 RX5 "overCells" "I" ∈ TBG := (tg2 132 (by decide +kernel) rfl)
theorem lfX11_254 : Cond.fieldLink RX11 254 RX5 "overCells" "I" ∈ TBG := (tg2 133 (by decide +kernel) rfl)
theorem lfX5_31 : Cond.fieldLink RX5 31 RX5 "isFound" "Z" ∈ TBG := (tg2 134 (by decide +kernel) rfl)
theorem lfX11_267 : Cond.fieldLink RX11 267 RX5 "isFound" "Z" ∈ TBG := (tg2 135 (by decide +kernel) rfl)
theorem lfX5_104 : Cond.fieldLink RX5 104 RX5 "bestOne" "I" ∈ TBG := (tg2 136 (by decide +kernel) rfl)
theorem lfX11_271 : Cond.fieldLink RX11 271 RX5 "bestOne" "I" ∈ TBG := (tg2 137 (by decide +kernel) rfl)
theorem lfX5_107 : Cond.fieldLink RX5 107 RX5 "bestTwo" "I" ∈ TBG := (tg2 138 (by decide +kernel) rfl)
theorem lfX11_274 : Cond.fieldLink RX11 274 RX5 "bestTwo" "I" ∈ TBG := (tg2 139 (by decide +kernel) rfl)
theorem lfX2_9 : Cond.fieldLink RX2 9 RX2 "behind" "[J" ∈ TBG := (tg2 174 (by decide +kernel) rfl)
theorem lfX2_13 : Cond.fieldLink RX2 13 RX2 "least" "[J" ∈ TBG := (tg2 175 (by decide +kernel) rfl)
theorem lfX2_45 : Cond.fieldLink RX2 45 RX2 "going" "J" ∈ TBG := (tg2 176 (by decide +kernel) rfl)
theorem lfX11_339 : Cond.fieldLink RX11 339 RX2 "going" "J" ∈ TBG := (tg2 177 (by decide +kernel) rfl)
theorem lfX2_35 : Cond.fieldLink RX2 35 RX2 "halting" "J" ∈ TBG := (tg2 178 (by decide +kernel) rfl)
theorem lfX11_343 : Cond.fieldLink RX11 343 RX2 "halting" "J" ∈ TBG := (tg2 179 (by decide +kernel) rfl)
theorem lfX10_11 : Cond.fieldLink RX10 11 RX10 "greys" "[I" ∈ TBG := (tg2 197 (by decide +kernel) rfl)
theorem lfX11_349 : Cond.fieldLink RX11 349 RX10 "greys" "[I" ∈ TBG := (tg2 198 (by decide +kernel) rfl)
theorem lfX10_15 : Cond.fieldLink RX10 15 RX10 "fewest" "[I" ∈ TBG := (tg2 199 (by decide +kernel) rfl)
theorem lfX10_18 : Cond.fieldLink RX10 18 RX10 "most" "[I" ∈ TBG := (tg2 200 (by decide +kernel) rfl)
theorem lfX10_23 : Cond.fieldLink RX10 23 RX10 "weights" "[[I" ∈ TBG := (tg2 201 (by decide +kernel) rfl)
theorem lfX10_29 : Cond.fieldLink RX10 29 RX10 "zones" "I" ∈ TBG := (tg2 202 (by decide +kernel) rfl)
theorem lfX11_357 : Cond.fieldLink RX11 357 RX10 "zones" "I" ∈ TBG := (tg2 203 (by decide +kernel) rfl)
theorem lfX10_26 : Cond.fieldLink RX10 26 RX10 "layers" "[I" ∈ TBG := (tg2 204 (by decide +kernel) rfl)
theorem lfX11_363 : Cond.fieldLink RX11 363 RX10 "layers" "[I" ∈ TBG := (tg2 205 (by decide +kernel) rfl)
theorem lfX10_58 : Cond.fieldLink RX10 58 RX10 "layersInAll" "I" ∈ TBG := (tg2 206 (by decide +kernel) rfl)
theorem lfX11_360 : Cond.fieldLink RX11 360 RX10 "layersInAll" "I" ∈ TBG := (tg2 207 (by decide +kernel) rfl)
theorem lfX11_10 : Cond.fieldLink RX11 10 RX11 "text" "LFourInks$JobText;" ∈ TBG := (tg2 223 (by decide +kernel) rfl)
theorem lfX11_20 : Cond.fieldLink RX11 20 RX11 "tape" "LFourInks$Tape;" ∈ TBG := (tg2 224 (by decide +kernel) rfl)
theorem lfX11_24 : Cond.fieldLink RX11 24 RX11 "job" "LFourInks$Job;" ∈ TBG := (tg2 225 (by decide +kernel) rfl)
theorem lfX11_31 : Cond.fieldLink RX11 31 RX11 "readings" "LFourInks$Readings;" ∈ TBG := (tg2 226 (by decide +kernel) rfl)
theorem lfX11_38 : Cond.fieldLink RX11 38 RX11 "fit" "LFourInks$Fit;" ∈ TBG := (tg2 227 (by decide +kernel) rfl)
theorem lfX11_45 : Cond.fieldLink RX11 45 RX11 "mending" "LFourInks$Mending;" ∈ TBG := (tg2 228 (by decide +kernel) rfl)
theorem lfX11_52 : Cond.fieldLink RX11 52 RX11 "meeting" "LFourInks$Meeting;" ∈ TBG := (tg2 229 (by decide +kernel) rfl)
theorem lfX11_62 : Cond.fieldLink RX11 62 RX11 "proof" "[LFourInks$Board;" ∈ TBG := (tg2 230 (by decide +kernel) rfl)
theorem lfX11_283 : Cond.fieldLink RX11 283 RX11 "signed" "Z" ∈ TBG := (tg2 231 (by decide +kernel) rfl)
theorem lfX11_67 : Cond.fieldLink RX11 67 RX11 "moved" "LFourInks$Board;" ∈ TBG := (tg2 232 (by decide +kernel) rfl)
theorem lfX11_71 : Cond.fieldLink RX11 71 RX11 "marked" "LFourInks$Board;" ∈ TBG := (tg2 233 (by decide +kernel) rfl)
theorem lfX11_74 : Cond.fieldLink RX11 74 RX11 "run" "[I" ∈ TBG := (tg2 234 (by decide +kernel) rfl)
theorem lfX11_81 : Cond.fieldLink RX11 81 RX11 "halts" "LFourInks$Halts;" ∈ TBG := (tg2 235 (by decide +kernel) rfl)
theorem lfX11_88 : Cond.fieldLink RX11 88 RX11 "bed" "LFourInks$Tissue;" ∈ TBG := (tg2 236 (by decide +kernel) rfl)
theorem lfX11_92 : Cond.fieldLink RX11 92 RX11 "bestOrde\x72" "[I" ∈ TBG := (tg2 237 (by decide +kernel) rfl)
theorem lfX12_7 : Cond.fieldLink RX12 7 RX12 "tape" "[B" ∈ TBG := (tg6 7 (by decide +kernel) rfl)
theorem lfX12_121 : Cond.fieldLink RX12 121 RX12 "taped" "I" ∈ TBG := (tg6 8 (by decide +kernel) rfl)
theorem lfX12_124 : Cond.fieldLink RX12 124 RX12 "size" "I" ∈ TBG := (tg6 9 (by decide +kernel) rfl)
theorem lfX12_152 : Cond.fieldLink RX12 152 RX12 "sort" "I" ∈ TBG := (tg6 10 (by decide +kernel) rfl)
theorem lfX12_149 : Cond.fieldLink RX12 149 RX12 "key" "I" ∈ TBG := (tg6 11 (by decide +kernel) rfl)
theorem lfX12_146 : Cond.fieldLink RX12 146 RX12 "at" "I" ∈ TBG := (tg6 12 (by decide +kernel) rfl)
theorem lfX12_143 : Cond.fieldLink RX12 143 RX12 "end" "I" ∈ TBG := (tg6 13 (by decide +kernel) rfl)
theorem lfX12_166 : Cond.fieldLink RX12 166 RX12 "numbe\x72" "I" ∈ TBG := (tg6 14 (by decide +kernel) rfl)
theorem lfX12_172 : Cond.fieldLink RX12 172 RX12 "faultKind" "I" ∈ TBG := (tg6 15 (by decide +kernel) rfl)
theorem lfX12_13 : Cond.fieldLink RX12 13 RX12 "faultPlace" "I" ∈ TBG := (tg6 16 (by decide +kernel) rfl)
theorem lfX12_182 : Cond.fieldLink RX12 182 RX12 "got" "I" ∈ TBG := (tg6 17 (by decide +kernel) rfl)
theorem lfX12_17 : Cond.fieldLink RX12 17 RX12 "num" "[I" ∈ TBG := (tg6 18 (by decide +kernel) rfl)
theorem lfX12_21 : Cond.fieldLink RX12 21 RX12 "markX" "[I" ∈ TBG := (tg6 19 (by decide +kernel) rfl)
theorem lfX12_24 : Cond.fieldLink RX12 24 RX12 "markY" "[I" ∈ TBG := (tg6 20 (by decide +kernel) rfl)
theorem lfX12_27 : Cond.fieldLink RX12 27 RX12 "screwMany" "[I" ∈ TBG := (tg6 21 (by decide +kernel) rfl)
theorem lfX12_30 : Cond.fieldLink RX12 30 RX12 "screws" "[I" ∈ TBG := (tg6 22 (by decide +kernel) rfl)
theorem lfX12_33 : Cond.fieldLink RX12 33 RX12 "shapes" "[I" ∈ TBG := (tg6 23 (by decide +kernel) rfl)
theorem lfX12_36 : Cond.fieldLink RX12 36 RX12 "screenP" "[I" ∈ TBG := (tg6 24 (by decide +kernel) rfl)
theorem lfX12_39 : Cond.fieldLink RX12 39 RX12 "screenQ" "[I" ∈ TBG := (tg6 25 (by decide +kernel) rfl)
theorem lfX12_42 : Cond.fieldLink RX12 42 RX12 "lies" "[I" ∈ TBG := (tg6 26 (by decide +kernel) rfl)
theorem lfX12_256 : Cond.fieldLink RX12 256 RX12 "clauses" "I" ∈ TBG := (tg6 27 (by decide +kernel) rfl)
theorem lfX12_189 : Cond.fieldLink RX12 189 RX12 "met" "I" ∈ TBG := (tg6 28 (by decide +kernel) rfl)
theorem lfX12_192 : Cond.fieldLink RX12 192 RX12 "paired" "I" ∈ TBG := (tg6 29 (by decide +kernel) rfl)
theorem lfX12_199 : Cond.fieldLink RX12 199 RX12 "readMany" "I" ∈ TBG := (tg6 30 (by decide +kernel) rfl)
theorem lfX12_202 : Cond.fieldLink RX12 202 RX12 "rightMany" "I" ∈ TBG := (tg6 31 (by decide +kernel) rfl)
theorem lfX12_205 : Cond.fieldLink RX12 205 RX12 "lastTold" "I" ∈ TBG := (tg6 32 (by decide +kernel) rfl)
theorem lfX12_45 : Cond.fieldLink RX12 45 RX12 "rdTold" "[I" ∈ TBG := (tg6 33 (by decide +kernel) rfl)
theorem lfX12_48 : Cond.fieldLink RX12 48 RX12 "rdInk" "[I" ∈ TBG := (tg6 34 (by decide +kernel) rfl)
theorem lfX12_51 : Cond.fieldLink RX12 51 RX12 "rdMark" "[I" ∈ TBG := (tg6 35 (by decide +kernel) rfl)
theorem lfX12_54 : Cond.fieldLink RX12 54 RX12 "rdAcross" "[I" ∈ TBG := (tg6 36 (by decide +kernel) rfl)
theorem lfX12_57 : Cond.fieldLink RX12 57 RX12 "rdUp" "[I" ∈ TBG := (tg6 37 (by decide +kernel) rfl)
theorem lfX12_60 : Cond.fieldLink RX12 60 RX12 "rTold" "[I" ∈ TBG := (tg6 38 (by decide +kernel) rfl)
theorem lfX12_63 : Cond.fieldLink RX12 63 RX12 "rOf" "[I" ∈ TBG := (tg6 39 (by decide +kernel) rfl)
theorem lfX12_66 : Cond.fieldLink RX12 66 RX12 "rAcross" "[I" ∈ TBG := (tg6 40 (by decide +kernel) rfl)
theorem lfX12_69 : Cond.fieldLink RX12 69 RX12 "rUp" "[I" ∈ TBG := (tg6 41 (by decide +kernel) rfl)
theorem lfX12_273 : Cond.fieldLink RX12 273 RX12 "askedMany" "I" ∈ TBG := (tg6 42 (by decide +kernel) rfl)
theorem lfX12_72 : Cond.fieldLink RX12 72 RX12 "askedX" "[I" ∈ TBG := (tg6 43 (by decide +kernel) rfl)
theorem lfX12_75 : Cond.fieldLink RX12 75 RX12 "askedY" "[I" ∈ TBG := (tg6 44 (by decide +kernel) rfl)
theorem lfX12_78 : Cond.fieldLink RX12 78 RX12 "askedAcross" "[I" ∈ TBG := (tg6 45 (by decide +kernel) rfl)
theorem lfX12_81 : Cond.fieldLink RX12 81 RX12 "askedUp" "[I" ∈ TBG := (tg6 46 (by decide +kernel) rfl)
theorem lfX12_279 : Cond.fieldLink RX12 279 RX12 "fitMany" "I" ∈ TBG := (tg6 47 (by decide +kernel) rfl)
theorem lfX12_84 : Cond.fieldLink RX12 84 RX12 "fitLeast" "[I" ∈ TBG := (tg6 48 (by decide +kernel) rfl)
theorem lfX12_87 : Cond.fieldLink RX12 87 RX12 "fitMost" "[I" ∈ TBG := (tg6 49 (by decide +kernel) rfl)
theorem lfX12_208 : Cond.fieldLink RX12 208 RX12 "turnMany" "I" ∈ TBG := (tg6 50 (by decide +kernel) rfl)
theorem lfX12_90 : Cond.fieldLink RX12 90 RX12 "turned" "[I" ∈ TBG := (tg6 51 (by decide +kernel) rfl)
theorem lfX12_93 : Cond.fieldLink RX12 93 RX12 "work" "[I" ∈ TBG := (tg6 52 (by decide +kernel) rfl)
theorem lfX12_310 : Cond.fieldLink RX12 310 RX12 "whiteCells" "I" ∈ TBG := (tg6 53 (by decide +kernel) rfl)
theorem lfX12_313 : Cond.fieldLink RX12 313 RX12 "overCells" "I" ∈ TBG := (tg6 54 (by decide +kernel) rfl)
theorem lfX12_211 : Cond.fieldLink RX12 211 RX12 "hasSpread" "Z" ∈ TBG := (tg6 55 (by decide +kernel) rfl)
theorem lfX12_329 : Cond.fieldLink RX12 329 RX12 "spreadK" "I" ∈ TBG := (tg6 56 (by decide +kernel) rfl)
theorem lfX12_332 : Cond.fieldLink RX12 332 RX12 "spreadL" "I" ∈ TBG := (tg6 57 (by decide +kernel) rfl)
theorem lfX12_335 : Cond.fieldLink RX12 335 RX12 "hasProof" "Z" ∈ TBG := (tg6 58 (by decide +kernel) rfl)
theorem lfX12_96 : Cond.fieldLink RX12 96 RX12 "proof" "[I" ∈ TBG := (tg6 59 (by decide +kernel) rfl)
theorem lfX12_99 : Cond.fieldLink RX12 99 RX12 "row" "[I" ∈ TBG := (tg6 60 (by decide +kernel) rfl)
theorem lfX12_102 : Cond.fieldLink RX12 102 RX12 "mean" "[J" ∈ TBG := (tg6 61 (by decide +kernel) rfl)
theorem lfX12_215 : Cond.fieldLink RX12 215 RX12 "layerMany" "I" ∈ TBG := (tg6 62 (by decide +kernel) rfl)
theorem lfX12_106 : Cond.fieldLink RX12 106 RX12 "laye\x72" "[I" ∈ TBG := (tg6 63 (by decide +kernel) rfl)
theorem lfX12_109 : Cond.fieldLink RX12 109 RX12 "behind" "[I" ∈ TBG := (tg6 64 (by decide +kernel) rfl)
theorem lfX12_112 : Cond.fieldLink RX12 112 RX12 "chosen" "[I" ∈ TBG := (tg6 65 (by decide +kernel) rfl)
theorem lcX0_34 : Cond.constant RX0 34 (65535) ∈ TBG := (tg3 196 (by decide +kernel) rfl)
theorem lcX6_36 : Cond.constant RX6 36 (1000000000) ∈ TBG := (tg4 148 (by decide +kernel) rfl)
theorem lcX0_47 : Cond.constantLong RX0 47 (-1) ∈ TBG := (tg4 208 (by decide +kernel) rfl)
theorem lcX0_49 : Cond.constantLong RX0 49 (-281479271743490) ∈ TBG := (tg4 214 (by decide +kernel) rfl)
theorem lcX0_51 : Cond.constantLong RX0 51 (9223231297218904063) ∈ TBG := (tg4 215 (by decide +kernel) rfl)
theorem lcX5_75 : Cond.constantLong RX5 75 (-1) ∈ TBG := (tg5 16 (by decide +kernel) rfl)
theorem lcJ13_314 : Cond.constantLong RJ13 314 (6148914691236517205) ∈ TBG := (tg5 20 (by decide +kernel) rfl)
theorem lcJ13_316 : Cond.constantLong RJ13 316 (3689348814741910323) ∈ TBG := (tg5 21 (by decide +kernel) rfl)
theorem lcJ13_318 : Cond.constantLong RJ13 318 (1085102592571150095) ∈ TBG := (tg5 22 (by decide +kernel) rfl)
theorem lcX5_92 : Cond.constant RX5 92 (1000000000) ∈ TBG := (tg5 44 (by decide +kernel) rfl)
theorem lcX11_333 : Cond.constantLong RX11 333 (-2) ∈ TBG := (tg5 126 (by decide +kernel) rfl)
theorem lcX2_29 : Cond.constantLong RX2 29 (10) ∈ TBG := (tg5 132 (by decide +kernel) rfl)
theorem lcX12_228 : Cond.constant RX12 228 (65535) ∈ TBG := (tg7 33 (by decide +kernel) rfl)
theorem lcX12_299 : Cond.constant RX12 299 (32768) ∈ TBG := (tg7 125 (by decide +kernel) rfl)
theorem lcX12_355 : Cond.constantLong RX12 355 (-2) ∈ TBG := (tg7 190 (by decide +kernel) rfl)
theorem lcX12_345 : Cond.constantLong RX12 345 (10) ∈ TBG := (tg7 195 (by decide +kernel) rfl)
theorem lcX12_361 : Cond.constant RX12 361 (1000000) ∈ TBG := (tg7 208 (by decide +kernel) rfl)
theorem lnX11_9 : Cond.methodLinkNest RX11 9 yX4_init "FourInks" ∈ NWL := List.mem_filter.mpr ⟨List.mem_append_right _ (List.mem_append_left _ (List.mem_of_getElem? (i := 32) (by decide +kernel))), rfl⟩
theorem lnX4_11 : Cond.methodLinkNest RX4 11 yX9_init "FourInks" ∈ NWL := List.mem_filter.mpr ⟨List.mem_append_right _ (List.mem_append_left _ (List.mem_of_getElem? (i := 38) (by decide +kernel))), rfl⟩
theorem lnX3_36 : Cond.methodLinkNest RX3 36 yX8_init "FourInks" ∈ NWL := List.mem_filter.mpr ⟨List.mem_append_right _ (List.mem_append_left _ (List.mem_of_getElem? (i := 91) (by decide +kernel))), rfl⟩
theorem lnX11_30 : Cond.methodLinkNest RX11 30 yX7_init "FourInks" ∈ NWL := List.mem_filter.mpr ⟨List.mem_append_right _ (List.mem_append_left _ (List.mem_of_getElem? (i := 235) (by decide +kernel))), rfl⟩
theorem lnX11_37 : Cond.methodLinkNest RX11 37 yX1_init "FourInks" ∈ NWL := List.mem_filter.mpr ⟨List.mem_append_right _ (List.mem_append_right _ (List.mem_append_left _ (List.mem_of_getElem? (i := 41) (by decide +kernel)))), rfl⟩
theorem lnX11_44 : Cond.methodLinkNest RX11 44 yX6_init "FourInks" ∈ NWL := List.mem_filter.mpr ⟨List.mem_append_right _ (List.mem_append_right _ (List.mem_append_left _ (List.mem_of_getElem? (i := 87) (by decide +kernel)))), rfl⟩
theorem lnX11_51 : Cond.methodLinkNest RX11 51 yX5_init "FourInks" ∈ NWL := List.mem_filter.mpr ⟨List.mem_append_right _ (List.mem_append_right _ (List.mem_append_left _ (List.mem_of_getElem? (i := 117) (by decide +kernel)))), rfl⟩
theorem lnX5_20 : Cond.methodLinkNest RX5 20 yX0_init "FourInks" ∈ NWL := List.mem_filter.mpr ⟨List.mem_append_right _ (List.mem_append_right _ (List.mem_append_left _ (List.mem_of_getElem? (i := 122) (by decide +kernel)))), rfl⟩
theorem lnX11_66 : Cond.methodLinkNest RX11 66 yX0_init "FourInks" ∈ NWL := List.mem_filter.mpr ⟨List.mem_append_right _ (List.mem_append_right _ (List.mem_append_left _ (List.mem_of_getElem? (i := 167) (by decide +kernel)))), rfl⟩
theorem lnX11_80 : Cond.methodLinkNest RX11 80 yX2_init "FourInks" ∈ NWL := List.mem_filter.mpr ⟨List.mem_append_right _ (List.mem_append_right _ (List.mem_append_left _ (List.mem_of_getElem? (i := 170) (by decide +kernel)))), rfl⟩
theorem lnX11_87 : Cond.methodLinkNest RX11 87 yX10_init "FourInks" ∈ NWL := List.mem_filter.mpr ⟨List.mem_append_right _ (List.mem_append_right _ (List.mem_append_left _ (List.mem_of_getElem? (i := 191) (by decide +kernel)))), rfl⟩
theorem lnX4_173 : Cond.methodLinkNest RX4 173 yX11_isInk "FourInks" ∈ NWL := List.mem_filter.mpr ⟨List.mem_append_right _ (List.mem_append_right _ (List.mem_append_right _ (List.mem_append_left _ (List.mem_of_getElem? (i := 177) (by decide +kernel))))), rfl⟩
theorem lnX1_91 : Cond.methodLinkNest RX1 91 yX11_turnedAcross "FourInks" ∈ NWL := List.mem_filter.mpr ⟨List.mem_append_right _ (List.mem_append_right _ (List.mem_append_right _ (List.mem_append_right _ (List.mem_append_left _ (List.mem_of_getElem? (i := 112) (by decide +kernel)))))), rfl⟩
theorem lnX1_97 : Cond.methodLinkNest RX1 97 yX11_turnedUp "FourInks" ∈ NWL := List.mem_filter.mpr ⟨List.mem_append_right _ (List.mem_append_right _ (List.mem_append_right _ (List.mem_append_right _ (List.mem_append_left _ (List.mem_of_getElem? (i := 113) (by decide +kernel)))))), rfl⟩
theorem lnX6_90 : Cond.methodLinkNest RX6 90 yX11_turnedAcross "FourInks" ∈ NWL := List.mem_filter.mpr ⟨List.mem_append_right _ (List.mem_append_right _ (List.mem_append_right _ (List.mem_append_right _ (List.mem_append_left _ (List.mem_of_getElem? (i := 163) (by decide +kernel)))))), rfl⟩
theorem lnX6_97 : Cond.methodLinkNest RX6 97 yX11_turnedUp "FourInks" ∈ NWL := List.mem_filter.mpr ⟨List.mem_append_right _ (List.mem_append_right _ (List.mem_append_right _ (List.mem_append_right _ (List.mem_append_left _ (List.mem_of_getElem? (i := 168) (by decide +kernel)))))), rfl⟩
theorem w_oi1 : Cond.instanceMethod Lib.objectInit ∈ TBG := (tg1 28 (by decide +kernel) rfl)
theorem w_oi2 : Cond.code Lib.objectInit ⟨#[0xb1]⟩ 1 none ∈ TBG := (tg1 29 (by decide +kernel) rfl)
theorem w_ac1 : Cond.native arraycopyName ∈ TBG := (tg4 175 (by decide +kernel) rfl)
theorem w_ac2 : Cond.static arraycopyName ∈ TBG := (tg4 174 (by decide +kernel) rfl)
theorem w_ac3 : Cond.initialized "java/lang/System" ∈ TBG := (tg1 20 (by decide +kernel) rfl)
end
section
theorem dJ9_abs_0f7a4_0 : decode cJ9_abs_0f7a4 0 = .ok (.iload_n 0, 1) := by decide +kernel
theorem dJ9_abs_0f7a4_1 : decode cJ9_abs_0f7a4 1 = .ok (.ifCond .ge 8, 3) := by decide +kernel
theorem dJ9_abs_0f7a4_4 : decode cJ9_abs_0f7a4 4 = .ok (.iload_n 0, 1) := by decide +kernel
theorem dJ9_abs_0f7a4_5 : decode cJ9_abs_0f7a4 5 = .ok (.ineg, 1) := by decide +kernel
theorem dJ9_abs_0f7a4_6 : decode cJ9_abs_0f7a4 6 = .ok (.goto 4, 3) := by decide +kernel
theorem dJ9_abs_0f7a4_9 : decode cJ9_abs_0f7a4 9 = .ok (.iload_n 0, 1) := by decide +kernel
theorem dJ9_abs_0f7a4_10 : decode cJ9_abs_0f7a4 10 = .ok (.ireturn, 1) := by decide +kernel
set_option maxRecDepth 20000 in
theorem sJ9_abs_0f7a4_0 {P : Option Value → AH → Prop} (h : AH) (x0 : Int32) (hf : (0 ≤ x0 → P (some (.int x0)) h) ∧ (¬ 0 ≤ x0 → P (some (.int (-x0))) h)) : Rr mJ9_abs_0f7a4 0 0 0 [(0, .int x0)] [] h P := by
  refine R_iload_n dJ9_abs_0f7a4_0 rfl 0 rfl ?_
  refine R_if_ge (tgt := 9) dJ9_abs_0f7a4_1 (by decide) (fun b1 => ?_) (fun b1 => ?_)
  · have hf := hf.1 b1
    refine R_iload_n dJ9_abs_0f7a4_9 rfl 0 rfl ?_
    exact R_iret dJ9_abs_0f7a4_10 rfl rfl hf
  · have hf := hf.2 b1
    refine R_iload_n dJ9_abs_0f7a4_4 rfl 0 rfl ?_
    refine R_ineg dJ9_abs_0f7a4_5 ?_
    refine R_goto (tgt := 10) dJ9_abs_0f7a4_6 (by decide) ?_
    exact R_iret dJ9_abs_0f7a4_10 rfl rfl hf
theorem dJ9_max_7cf53_0 : decode cJ9_max_7cf53 0 = .ok (.iload_n 0, 1) := by decide +kernel
theorem dJ9_max_7cf53_1 : decode cJ9_max_7cf53 1 = .ok (.iload_n 1, 1) := by decide +kernel
theorem dJ9_max_7cf53_2 : decode cJ9_max_7cf53 2 = .ok (.if_icmp .lt 7, 3) := by decide +kernel
theorem dJ9_max_7cf53_5 : decode cJ9_max_7cf53 5 = .ok (.iload_n 0, 1) := by decide +kernel
theorem dJ9_max_7cf53_6 : decode cJ9_max_7cf53 6 = .ok (.goto 4, 3) := by decide +kernel
theorem dJ9_max_7cf53_9 : decode cJ9_max_7cf53 9 = .ok (.iload_n 1, 1) := by decide +kernel
theorem dJ9_max_7cf53_10 : decode cJ9_max_7cf53 10 = .ok (.ireturn, 1) := by decide +kernel
set_option maxRecDepth 20000 in
theorem sJ9_max_7cf53_0 {P : Option Value → AH → Prop} (h : AH) (x0 : Int32) (x1 : Int32) (hf : (x0 < x1 → P (some (.int x1)) h) ∧ (¬ x0 < x1 → P (some (.int x0)) h)) : Rr mJ9_max_7cf53 0 0 0 [(0, .int x0), (1, .int x1)] [] h P := by
  refine R_iload_n dJ9_max_7cf53_0 rfl 0 rfl ?_
  refine R_iload_n dJ9_max_7cf53_1 rfl 1 rfl ?_
  refine R_icmp_lt (tgt := 9) dJ9_max_7cf53_2 (by decide) (fun b1 => ?_) (fun b1 => ?_)
  · have hf := hf.1 b1
    refine R_iload_n dJ9_max_7cf53_9 rfl 1 rfl ?_
    exact R_iret dJ9_max_7cf53_10 rfl rfl hf
  · have hf := hf.2 b1
    refine R_iload_n dJ9_max_7cf53_5 rfl 0 rfl ?_
    refine R_goto (tgt := 10) dJ9_max_7cf53_6 (by decide) ?_
    exact R_iret dJ9_max_7cf53_10 rfl rfl hf
theorem dJ9_min_7cf53_0 : decode cJ9_min_7cf53 0 = .ok (.iload_n 0, 1) := by decide +kernel
theorem dJ9_min_7cf53_1 : decode cJ9_min_7cf53 1 = .ok (.iload_n 1, 1) := by decide +kernel
theorem dJ9_min_7cf53_2 : decode cJ9_min_7cf53 2 = .ok (.if_icmp .gt 7, 3) := by decide +kernel
theorem dJ9_min_7cf53_5 : decode cJ9_min_7cf53 5 = .ok (.iload_n 0, 1) := by decide +kernel
theorem dJ9_min_7cf53_6 : decode cJ9_min_7cf53 6 = .ok (.goto 4, 3) := by decide +kernel
theorem dJ9_min_7cf53_9 : decode cJ9_min_7cf53 9 = .ok (.iload_n 1, 1) := by decide +kernel
theorem dJ9_min_7cf53_10 : decode cJ9_min_7cf53 10 = .ok (.ireturn, 1) := by decide +kernel
set_option maxRecDepth 20000 in
theorem sJ9_min_7cf53_0 {P : Option Value → AH → Prop} (h : AH) (x0 : Int32) (x1 : Int32) (hf : (x1 < x0 → P (some (.int x1)) h) ∧ (¬ x1 < x0 → P (some (.int x0)) h)) : Rr mJ9_min_7cf53 0 0 0 [(0, .int x0), (1, .int x1)] [] h P := by
  refine R_iload_n dJ9_min_7cf53_0 rfl 0 rfl ?_
  refine R_iload_n dJ9_min_7cf53_1 rfl 1 rfl ?_
  refine R_icmp_gt (tgt := 9) dJ9_min_7cf53_2 (by decide) (fun b1 => ?_) (fun b1 => ?_)
  · have hf := hf.1 b1
    refine R_iload_n dJ9_min_7cf53_9 rfl 1 rfl ?_
    exact R_iret dJ9_min_7cf53_10 rfl rfl hf
  · have hf := hf.2 b1
    refine R_iload_n dJ9_min_7cf53_5 rfl 0 rfl ?_
    refine R_goto (tgt := 10) dJ9_min_7cf53_6 (by decide) ?_
    exact R_iret dJ9_min_7cf53_10 rfl rfl hf
theorem dJ9_min_f86c9_0 : decode cJ9_min_f86c9 0 = .ok (.lload_n 0, 1) := by decide +kernel
theorem dJ9_min_f86c9_1 : decode cJ9_min_f86c9 1 = .ok (.lload_n 2, 1) := by decide +kernel
theorem dJ9_min_f86c9_2 : decode cJ9_min_f86c9 2 = .ok (.lcmp, 1) := by decide +kernel
theorem dJ9_min_f86c9_3 : decode cJ9_min_f86c9 3 = .ok (.ifCond .gt 7, 3) := by decide +kernel
theorem dJ9_min_f86c9_6 : decode cJ9_min_f86c9 6 = .ok (.lload_n 0, 1) := by decide +kernel
theorem dJ9_min_f86c9_7 : decode cJ9_min_f86c9 7 = .ok (.goto 4, 3) := by decide +kernel
theorem dJ9_min_f86c9_10 : decode cJ9_min_f86c9 10 = .ok (.lload_n 2, 1) := by decide +kernel
theorem dJ9_min_f86c9_11 : decode cJ9_min_f86c9 11 = .ok (.lreturn, 1) := by decide +kernel
set_option maxRecDepth 20000 in
theorem sJ9_min_f86c9_0 {P : Option Value → AH → Prop} (h : AH) (y0 : Int64) (y2 : Int64) (hf : (0 < (lg_cmp y0 y2) → P (some (.long y2)) h) ∧ (¬ 0 < (lg_cmp y0 y2) → P (some (.long y0)) h)) : Rr mJ9_min_f86c9 0 0 0 [(0, .long y0), (2, .long y2)] [] h P := by
  refine R_lload_n dJ9_min_f86c9_0 rfl 0 rfl ?_
  refine R_lload_n dJ9_min_f86c9_1 rfl 1 rfl ?_
  refine R_lcmp dJ9_min_f86c9_2 ?_
  refine R_if_gt (tgt := 10) dJ9_min_f86c9_3 (by decide) (fun b1 => ?_) (fun b1 => ?_)
  · have hf := hf.1 b1
    refine R_lload_n dJ9_min_f86c9_10 rfl 1 rfl ?_
    exact R_lret dJ9_min_f86c9_11 rfl hf
  · have hf := hf.2 b1
    refine R_lload_n dJ9_min_f86c9_6 rfl 0 rfl ?_
    refine R_goto (tgt := 11) dJ9_min_f86c9_7 (by decide) ?_
    exact R_lret dJ9_min_f86c9_11 rfl hf
theorem dJ7_fill_53178_0 : decode cJ7_fill_53178 0 = .ok (.iconst 0, 1) := by decide +kernel
theorem dJ7_fill_53178_1 : decode cJ7_fill_53178 1 = .ok (.istore_n 2, 1) := by decide +kernel
theorem dJ7_fill_53178_2 : decode cJ7_fill_53178 2 = .ok (.aload_n 0, 1) := by decide +kernel
theorem dJ7_fill_53178_3 : decode cJ7_fill_53178 3 = .ok (.arraylength, 1) := by decide +kernel
theorem dJ7_fill_53178_4 : decode cJ7_fill_53178 4 = .ok (.istore_n 3, 1) := by decide +kernel
theorem dJ7_fill_53178_5 : decode cJ7_fill_53178 5 = .ok (.iload_n 2, 1) := by decide +kernel
theorem dJ7_fill_53178_6 : decode cJ7_fill_53178 6 = .ok (.iload_n 3, 1) := by decide +kernel
theorem dJ7_fill_53178_7 : decode cJ7_fill_53178 7 = .ok (.if_icmp .ge 13, 3) := by decide +kernel
theorem dJ7_fill_53178_10 : decode cJ7_fill_53178 10 = .ok (.aload_n 0, 1) := by decide +kernel
theorem dJ7_fill_53178_11 : decode cJ7_fill_53178 11 = .ok (.iload_n 2, 1) := by decide +kernel
theorem dJ7_fill_53178_12 : decode cJ7_fill_53178 12 = .ok (.iload_n 1, 1) := by decide +kernel
theorem dJ7_fill_53178_13 : decode cJ7_fill_53178 13 = .ok (.iastore, 1) := by decide +kernel
theorem dJ7_fill_53178_14 : decode cJ7_fill_53178 14 = .ok (.iinc 2 1, 3) := by decide +kernel
theorem dJ7_fill_53178_17 : decode cJ7_fill_53178 17 = .ok (.goto (-12), 3) := by decide +kernel
theorem dJ7_fill_53178_20 : decode cJ7_fill_53178 20 = .ok (.return_, 1) := by decide +kernel
set_option maxRecDepth 20000 in
theorem sJ7_fill_53178_0 {P : Option Value → AH → Prop} (h : AH) (r0 : Nat) (x1 : Int32) (hf : (isA h 0 r0) ∧ (Rr mJ7_fill_53178 0 0 5 [(0, .ref r0), (1, .int x1), (2, .int 0), (3, .int (Int32.ofNat (ln r0)))] [] h P)) : Rr mJ7_fill_53178 0 0 0 [(0, .ref r0), (1, .int x1)] [] h P := by
  refine R_iconst (v := 0) dJ7_fill_53178_0 (by decide) ?_
  refine R_istore_n dJ7_fill_53178_1 rfl (by decide) rfl ?_
  refine R_aload_n dJ7_fill_53178_2 rfl 1 rfl ?_
  obtain ⟨ob1, hf⟩ := hf
  refine R_alen (v := Int32.ofNat (ln r0)) (by decide) dJ7_fill_53178_3 ob1 rfl ?_
  refine R_istore_n dJ7_fill_53178_4 rfl (by decide) rfl ?_
  exact R_sub [2, 3, 1, 0] rfl hf
set_option maxRecDepth 20000 in
theorem sJ7_fill_53178_5 {P : Option Value → AH → Prop} (h : AH) (r0 : Nat) (x1 : Int32) (x2 : Int32) (x3 : Int32) (hf : (x3 ≤ x2 → P none h) ∧ (¬ x3 ≤ x2 → (isA h 0 r0) ∧ ((vp_in x2 (ln r0)) ∧ (Rr mJ7_fill_53178 0 0 5 [(0, .ref r0), (1, .int x1), (2, .int (x2 + 1)), (3, .int x3)] [] (sI h r0 x2.toNatClampNeg x1) P)))) : Rr mJ7_fill_53178 0 0 5 [(0, .ref r0), (1, .int x1), (2, .int x2), (3, .int x3)] [] h P := by
  refine R_iload_n dJ7_fill_53178_5 rfl 2 rfl ?_
  refine R_iload_n dJ7_fill_53178_6 rfl 3 rfl ?_
  refine R_icmp_ge (tgt := 20) dJ7_fill_53178_7 (by decide) (fun b1 => ?_) (fun b1 => ?_)
  · have hf := hf.1 b1
    exact R_ret dJ7_fill_53178_20 rfl hf
  · have hf := hf.2 b1
    refine R_aload_n dJ7_fill_53178_10 rfl 0 rfl ?_
    refine R_iload_n dJ7_fill_53178_11 rfl 2 rfl ?_
    refine R_iload_n dJ7_fill_53178_12 rfl 1 rfl ?_
    obtain ⟨ob2, hf⟩ := hf
    obtain ⟨ob3, hf⟩ := hf
    refine R_iastore dJ7_fill_53178_13 ob2 ob3 ?_
    refine R_iinc (v := x2 + 1) dJ7_fill_53178_14 2 rfl rfl (by decide) rfl ?_
    refine R_goto (tgt := 5) dJ7_fill_53178_17 (by decide) ?_
    exact R_sub [1, 2, 0, 3] rfl hf
theorem dJ13_bitCount_95d88_0 : decode cJ13_bitCount_95d88 0 = .ok (.lload_n 0, 1) := by decide +kernel
theorem dJ13_bitCount_95d88_1 : decode cJ13_bitCount_95d88 1 = .ok (.lload_n 0, 1) := by decide +kernel
theorem dJ13_bitCount_95d88_2 : decode cJ13_bitCount_95d88 2 = .ok (.iconst 1, 1) := by decide +kernel
theorem dJ13_bitCount_95d88_3 : decode cJ13_bitCount_95d88 3 = .ok (.lushr, 1) := by decide +kernel
theorem dJ13_bitCount_95d88_4 : decode cJ13_bitCount_95d88 4 = .ok (.ldc2_w 314, 3) := by decide +kernel
theorem dJ13_bitCount_95d88_7 : decode cJ13_bitCount_95d88 7 = .ok (.land, 1) := by decide +kernel
theorem dJ13_bitCount_95d88_8 : decode cJ13_bitCount_95d88 8 = .ok (.lsub, 1) := by decide +kernel
theorem dJ13_bitCount_95d88_9 : decode cJ13_bitCount_95d88 9 = .ok (.lstore_n 0, 1) := by decide +kernel
theorem dJ13_bitCount_95d88_10 : decode cJ13_bitCount_95d88 10 = .ok (.lload_n 0, 1) := by decide +kernel
theorem dJ13_bitCount_95d88_11 : decode cJ13_bitCount_95d88 11 = .ok (.ldc2_w 316, 3) := by decide +kernel
theorem dJ13_bitCount_95d88_14 : decode cJ13_bitCount_95d88 14 = .ok (.land, 1) := by decide +kernel
theorem dJ13_bitCount_95d88_15 : decode cJ13_bitCount_95d88 15 = .ok (.lload_n 0, 1) := by decide +kernel
theorem dJ13_bitCount_95d88_16 : decode cJ13_bitCount_95d88 16 = .ok (.iconst 2, 1) := by decide +kernel
theorem dJ13_bitCount_95d88_17 : decode cJ13_bitCount_95d88 17 = .ok (.lushr, 1) := by decide +kernel
theorem dJ13_bitCount_95d88_18 : decode cJ13_bitCount_95d88 18 = .ok (.ldc2_w 316, 3) := by decide +kernel
theorem dJ13_bitCount_95d88_21 : decode cJ13_bitCount_95d88 21 = .ok (.land, 1) := by decide +kernel
theorem dJ13_bitCount_95d88_22 : decode cJ13_bitCount_95d88 22 = .ok (.ladd, 1) := by decide +kernel
theorem dJ13_bitCount_95d88_23 : decode cJ13_bitCount_95d88 23 = .ok (.lstore_n 0, 1) := by decide +kernel
theorem dJ13_bitCount_95d88_24 : decode cJ13_bitCount_95d88 24 = .ok (.lload_n 0, 1) := by decide +kernel
theorem dJ13_bitCount_95d88_25 : decode cJ13_bitCount_95d88 25 = .ok (.lload_n 0, 1) := by decide +kernel
theorem dJ13_bitCount_95d88_26 : decode cJ13_bitCount_95d88 26 = .ok (.iconst 4, 1) := by decide +kernel
theorem dJ13_bitCount_95d88_27 : decode cJ13_bitCount_95d88 27 = .ok (.lushr, 1) := by decide +kernel
theorem dJ13_bitCount_95d88_28 : decode cJ13_bitCount_95d88 28 = .ok (.ladd, 1) := by decide +kernel
theorem dJ13_bitCount_95d88_29 : decode cJ13_bitCount_95d88 29 = .ok (.ldc2_w 318, 3) := by decide +kernel
theorem dJ13_bitCount_95d88_32 : decode cJ13_bitCount_95d88 32 = .ok (.land, 1) := by decide +kernel
theorem dJ13_bitCount_95d88_33 : decode cJ13_bitCount_95d88 33 = .ok (.lstore_n 0, 1) := by decide +kernel
theorem dJ13_bitCount_95d88_34 : decode cJ13_bitCount_95d88 34 = .ok (.lload_n 0, 1) := by decide +kernel
theorem dJ13_bitCount_95d88_35 : decode cJ13_bitCount_95d88 35 = .ok (.lload_n 0, 1) := by decide +kernel
theorem dJ13_bitCount_95d88_36 : decode cJ13_bitCount_95d88 36 = .ok (.bipush 8, 2) := by decide +kernel
theorem dJ13_bitCount_95d88_38 : decode cJ13_bitCount_95d88 38 = .ok (.lushr, 1) := by decide +kernel
theorem dJ13_bitCount_95d88_39 : decode cJ13_bitCount_95d88 39 = .ok (.ladd, 1) := by decide +kernel
theorem dJ13_bitCount_95d88_40 : decode cJ13_bitCount_95d88 40 = .ok (.lstore_n 0, 1) := by decide +kernel
theorem dJ13_bitCount_95d88_41 : decode cJ13_bitCount_95d88 41 = .ok (.lload_n 0, 1) := by decide +kernel
theorem dJ13_bitCount_95d88_42 : decode cJ13_bitCount_95d88 42 = .ok (.lload_n 0, 1) := by decide +kernel
theorem dJ13_bitCount_95d88_43 : decode cJ13_bitCount_95d88 43 = .ok (.bipush 16, 2) := by decide +kernel
theorem dJ13_bitCount_95d88_45 : decode cJ13_bitCount_95d88 45 = .ok (.lushr, 1) := by decide +kernel
theorem dJ13_bitCount_95d88_46 : decode cJ13_bitCount_95d88 46 = .ok (.ladd, 1) := by decide +kernel
theorem dJ13_bitCount_95d88_47 : decode cJ13_bitCount_95d88 47 = .ok (.lstore_n 0, 1) := by decide +kernel
theorem dJ13_bitCount_95d88_48 : decode cJ13_bitCount_95d88 48 = .ok (.lload_n 0, 1) := by decide +kernel
theorem dJ13_bitCount_95d88_49 : decode cJ13_bitCount_95d88 49 = .ok (.lload_n 0, 1) := by decide +kernel
theorem dJ13_bitCount_95d88_50 : decode cJ13_bitCount_95d88 50 = .ok (.bipush 32, 2) := by decide +kernel
theorem dJ13_bitCount_95d88_52 : decode cJ13_bitCount_95d88 52 = .ok (.lushr, 1) := by decide +kernel
theorem dJ13_bitCount_95d88_53 : decode cJ13_bitCount_95d88 53 = .ok (.ladd, 1) := by decide +kernel
theorem dJ13_bitCount_95d88_54 : decode cJ13_bitCount_95d88 54 = .ok (.lstore_n 0, 1) := by decide +kernel
theorem dJ13_bitCount_95d88_55 : decode cJ13_bitCount_95d88 55 = .ok (.lload_n 0, 1) := by decide +kernel
theorem dJ13_bitCount_95d88_56 : decode cJ13_bitCount_95d88 56 = .ok (.l2i, 1) := by decide +kernel
theorem dJ13_bitCount_95d88_57 : decode cJ13_bitCount_95d88 57 = .ok (.bipush 127, 2) := by decide +kernel
theorem dJ13_bitCount_95d88_59 : decode cJ13_bitCount_95d88 59 = .ok (.iand, 1) := by decide +kernel
theorem dJ13_bitCount_95d88_60 : decode cJ13_bitCount_95d88 60 = .ok (.ireturn, 1) := by decide +kernel
set_option maxRecDepth 20000 in
theorem sJ13_bitCount_95d88_0 {P : Option Value → AH → Prop} (h : AH) (y0 : Int64) (hf : ∀ v1 : Int64, v1 = ((y0 - ((lushr y0 1) &&& 6148914691236517205)) &&& 3689348814741910323) + ((lushr (y0 - ((lushr y0 1) &&& 6148914691236517205)) 2) &&& 3689348814741910323) → (∀ v2 : Int64, v2 = ((v1 + (lushr v1 4)) &&& 1085102592571150095) + (lushr ((v1 + (lushr v1 4)) &&& 1085102592571150095) 8) → (P (some (.int (((v2 + (lushr v2 16)) + (lushr (v2 + (lushr v2 16)) 32)).toInt32 &&& 127))) h))) : Rr mJ13_bitCount_95d88 0 0 0 [(0, .long y0)] [] h P := by
  refine R_lload_n dJ13_bitCount_95d88_0 rfl 0 rfl ?_
  refine R_lload_n dJ13_bitCount_95d88_1 rfl 0 rfl ?_
  refine R_iconst (v := 1) dJ13_bitCount_95d88_2 (by decide) ?_
  refine R_lushr dJ13_bitCount_95d88_3 ?_
  refine R_ldc2 (v := 6148914691236517205) dJ13_bitCount_95d88_4 lcJ13_314 ?_
  refine R_land dJ13_bitCount_95d88_7 ?_
  refine R_lsub dJ13_bitCount_95d88_8 ?_
  refine R_lstore_n dJ13_bitCount_95d88_9 rfl (by decide) rfl ?_
  refine R_lload_n dJ13_bitCount_95d88_10 rfl 0 rfl ?_
  refine R_ldc2 (v := 3689348814741910323) dJ13_bitCount_95d88_11 lcJ13_316 ?_
  refine R_land dJ13_bitCount_95d88_14 ?_
  refine R_lload_n dJ13_bitCount_95d88_15 rfl 0 rfl ?_
  refine R_iconst (v := 2) dJ13_bitCount_95d88_16 (by decide) ?_
  refine R_lushr dJ13_bitCount_95d88_17 ?_
  refine R_ldc2 (v := 3689348814741910323) dJ13_bitCount_95d88_18 lcJ13_316 ?_
  refine R_land dJ13_bitCount_95d88_21 ?_
  refine R_ladd dJ13_bitCount_95d88_22 ?_
  refine R_topl (fun v1 ev1 => ?_)
  have hf := hf v1 ev1
  refine R_lstore_n dJ13_bitCount_95d88_23 rfl (by decide) rfl ?_
  refine R_lload_n dJ13_bitCount_95d88_24 rfl 0 rfl ?_
  refine R_lload_n dJ13_bitCount_95d88_25 rfl 0 rfl ?_
  refine R_iconst (v := 4) dJ13_bitCount_95d88_26 (by decide) ?_
  refine R_lushr dJ13_bitCount_95d88_27 ?_
  refine R_ladd dJ13_bitCount_95d88_28 ?_
  refine R_ldc2 (v := 1085102592571150095) dJ13_bitCount_95d88_29 lcJ13_318 ?_
  refine R_land dJ13_bitCount_95d88_32 ?_
  refine R_lstore_n dJ13_bitCount_95d88_33 rfl (by decide) rfl ?_
  refine R_lload_n dJ13_bitCount_95d88_34 rfl 0 rfl ?_
  refine R_lload_n dJ13_bitCount_95d88_35 rfl 0 rfl ?_
  refine R_bipush (v := 8) dJ13_bitCount_95d88_36 (by decide) ?_
  refine R_lushr dJ13_bitCount_95d88_38 ?_
  refine R_ladd dJ13_bitCount_95d88_39 ?_
  refine R_topl (fun v2 ev2 => ?_)
  have hf := hf v2 ev2
  refine R_lstore_n dJ13_bitCount_95d88_40 rfl (by decide) rfl ?_
  refine R_lload_n dJ13_bitCount_95d88_41 rfl 0 rfl ?_
  refine R_lload_n dJ13_bitCount_95d88_42 rfl 0 rfl ?_
  refine R_bipush (v := 16) dJ13_bitCount_95d88_43 (by decide) ?_
  refine R_lushr dJ13_bitCount_95d88_45 ?_
  refine R_ladd dJ13_bitCount_95d88_46 ?_
  refine R_lstore_n dJ13_bitCount_95d88_47 rfl (by decide) rfl ?_
  refine R_lload_n dJ13_bitCount_95d88_48 rfl 0 rfl ?_
  refine R_lload_n dJ13_bitCount_95d88_49 rfl 0 rfl ?_
  refine R_bipush (v := 32) dJ13_bitCount_95d88_50 (by decide) ?_
  refine R_lushr dJ13_bitCount_95d88_52 ?_
  refine R_ladd dJ13_bitCount_95d88_53 ?_
  refine R_lstore_n dJ13_bitCount_95d88_54 rfl (by decide) rfl ?_
  refine R_lload_n dJ13_bitCount_95d88_55 rfl 0 rfl ?_
  refine R_l2i dJ13_bitCount_95d88_56 ?_
  refine R_bipush (v := 127) dJ13_bitCount_95d88_57 (by decide) ?_
  refine R_iand dJ13_bitCount_95d88_59 ?_
  exact R_iret dJ13_bitCount_95d88_60 rfl rfl hf
theorem dJ7_fill_d0a16_0 : decode cJ7_fill_d0a16 0 = .ok (.iconst 0, 1) := by decide +kernel
theorem dJ7_fill_d0a16_1 : decode cJ7_fill_d0a16 1 = .ok (.istore_n 3, 1) := by decide +kernel
theorem dJ7_fill_d0a16_2 : decode cJ7_fill_d0a16 2 = .ok (.aload_n 0, 1) := by decide +kernel
theorem dJ7_fill_d0a16_3 : decode cJ7_fill_d0a16 3 = .ok (.arraylength, 1) := by decide +kernel
theorem dJ7_fill_d0a16_4 : decode cJ7_fill_d0a16 4 = .ok (.istore 4, 2) := by decide +kernel
theorem dJ7_fill_d0a16_6 : decode cJ7_fill_d0a16 6 = .ok (.iload_n 3, 1) := by decide +kernel
theorem dJ7_fill_d0a16_7 : decode cJ7_fill_d0a16 7 = .ok (.iload 4, 2) := by decide +kernel
theorem dJ7_fill_d0a16_9 : decode cJ7_fill_d0a16 9 = .ok (.if_icmp .ge 13, 3) := by decide +kernel
theorem dJ7_fill_d0a16_12 : decode cJ7_fill_d0a16 12 = .ok (.aload_n 0, 1) := by decide +kernel
theorem dJ7_fill_d0a16_13 : decode cJ7_fill_d0a16 13 = .ok (.iload_n 3, 1) := by decide +kernel
theorem dJ7_fill_d0a16_14 : decode cJ7_fill_d0a16 14 = .ok (.lload_n 1, 1) := by decide +kernel
theorem dJ7_fill_d0a16_15 : decode cJ7_fill_d0a16 15 = .ok (.lastore, 1) := by decide +kernel
theorem dJ7_fill_d0a16_16 : decode cJ7_fill_d0a16 16 = .ok (.iinc 3 1, 3) := by decide +kernel
theorem dJ7_fill_d0a16_19 : decode cJ7_fill_d0a16 19 = .ok (.goto (-13), 3) := by decide +kernel
theorem dJ7_fill_d0a16_22 : decode cJ7_fill_d0a16 22 = .ok (.return_, 1) := by decide +kernel
set_option maxRecDepth 20000 in
theorem sJ7_fill_d0a16_0 {P : Option Value → AH → Prop} (h : AH) (r0 : Nat) (y1 : Int64) (hf : (isA h 1 r0) ∧ (Rr mJ7_fill_d0a16 0 0 6 [(0, .ref r0), (1, .long y1), (3, .int 0), (4, .int (Int32.ofNat (ln r0)))] [] h P)) : Rr mJ7_fill_d0a16 0 0 0 [(0, .ref r0), (1, .long y1)] [] h P := by
  refine R_iconst (v := 0) dJ7_fill_d0a16_0 (by decide) ?_
  refine R_istore_n dJ7_fill_d0a16_1 rfl (by decide) rfl ?_
  refine R_aload_n dJ7_fill_d0a16_2 rfl 1 rfl ?_
  obtain ⟨ob1, hf⟩ := hf
  refine R_alen (v := Int32.ofNat (ln r0)) (by decide) dJ7_fill_d0a16_3 ob1 rfl ?_
  refine R_istore dJ7_fill_d0a16_4 (by decide) rfl ?_
  exact R_sub [2, 3, 1, 0] rfl hf
set_option maxRecDepth 20000 in
theorem sJ7_fill_d0a16_6 {P : Option Value → AH → Prop} (h : AH) (r0 : Nat) (y1 : Int64) (x3 : Int32) (x4 : Int32) (hf : (x4 ≤ x3 → P none h) ∧ (¬ x4 ≤ x3 → (isA h 1 r0) ∧ ((vp_in x3 (ln r0)) ∧ (Rr mJ7_fill_d0a16 0 0 6 [(0, .ref r0), (1, .long y1), (3, .int (x3 + 1)), (4, .int x4)] [] (sL h r0 x3.toNatClampNeg y1) P)))) : Rr mJ7_fill_d0a16 0 0 6 [(0, .ref r0), (1, .long y1), (3, .int x3), (4, .int x4)] [] h P := by
  refine R_iload_n dJ7_fill_d0a16_6 rfl 2 rfl ?_
  refine R_iload dJ7_fill_d0a16_7 3 rfl ?_
  refine R_icmp_ge (tgt := 22) dJ7_fill_d0a16_9 (by decide) (fun b1 => ?_) (fun b1 => ?_)
  · have hf := hf.1 b1
    exact R_ret dJ7_fill_d0a16_22 rfl hf
  · have hf := hf.2 b1
    refine R_aload_n dJ7_fill_d0a16_12 rfl 0 rfl ?_
    refine R_iload_n dJ7_fill_d0a16_13 rfl 2 rfl ?_
    refine R_lload_n dJ7_fill_d0a16_14 rfl 1 rfl ?_
    obtain ⟨ob2, hf⟩ := hf
    obtain ⟨ob3, hf⟩ := hf
    refine R_lastore dJ7_fill_d0a16_15 ob2 ob3 ?_
    refine R_iinc (v := x3 + 1) dJ7_fill_d0a16_16 2 rfl rfl (by decide) rfl ?_
    refine R_goto (tgt := 6) dJ7_fill_d0a16_19 (by decide) ?_
    exact R_sub [1, 2, 0, 3] rfl hf
end
section
def imin (a b : Int32) : Int32 := if b < a then b else a
def imax (a b : Int32) : Int32 := if a < b then b else a
def iabs (a : Int32) : Int32 := if 0 ≤ a then a else 0 - a
def lmin (a b : Int64) : Int64 := if b < a then b else a
theorem w_mmax : Cond.code Lib.Math.max.name Lib.Math.max.code 2 (some .int) ∈ TBG := (tg4 116 (by decide +kernel) rfl)
theorem w_mmin : Cond.code Lib.Math.min.name Lib.Math.min.code 2 (some .int) ∈ TBG := (tg4 119 (by decide +kernel) rfl)
theorem w_mabs : Cond.code Lib.Math.abs.name Lib.Math.abs.code 1 (some .int) ∈ TBG := (tg4 166 (by decide +kernel) rfl)
theorem w_mminL : Cond.code Lib.MathLoose.min_long.x Lib.MathLoose.min_long.code 4 (some .long) ∈ TBG := (tg5 141 (by decide +kernel) rfl)
section MATHR
variable {M : MI} {kc ks pc : Nat} {ls : List (Nat × Value)} {st : List Value} {h : AH} {P : Option Value → AH → Prop}
theorem R_mmax {i : Nat} {x y : Int32} (hd : decode M.2.1 pc = .ok (.invokestatic i, 3)) (hw : Cond.methodLink M.1.cls i yJ9_max_7cf53 ∈ TBG) (hrk : 1 ≤ M.2.2.2.2.1) (hrest : (st.map fun v => v.category).sum ≤ 8) (kk : Rr M kc ks (pc + 3) ls (.int (imax x y) :: st) h P) : Rr M kc ks pc ls (.int y :: .int x :: st) h P := by
  intro G p l e Rm s m args below meth c H locs cells slots Q la X hp h1 h2 hr hl
  have q1 := X.2.2.2.2.2.2.2.2.1
  have q2 := X.2.2.2.2.2.2.2.2.2.1
  have q3 := tv_cats G st
  refine va_mmax X.1 X.2.1 (by rw [X.2.2.2.1]; exact hl.1.symm) X.2.2.2.2.1 (X.2.2.2.2.2.1 _ hw) (X.2.2.2.2.2.1 _ (oJ9_max_7cf53).2) (X.2.2.2.2.2.1 _ (oJ9_max_7cf53).1.2.1) (X.2.2.2.2.2.1 _ w_mmax) (by omega) (by omega) (by omega) (by omega) hd ?_
  have h9 := kk G p l e Rm s m args below meth c H locs cells slots Q la X hp h1 h2 hr hl
  exact h9
theorem R_mmin {i : Nat} {x y : Int32} (hd : decode M.2.1 pc = .ok (.invokestatic i, 3)) (hw : Cond.methodLink M.1.cls i yJ9_min_7cf53 ∈ TBG) (hrk : 1 ≤ M.2.2.2.2.1) (hrest : (st.map fun v => v.category).sum ≤ 8) (kk : Rr M kc ks (pc + 3) ls (.int (imin x y) :: st) h P) : Rr M kc ks pc ls (.int y :: .int x :: st) h P := by
  intro G p l e Rm s m args below meth c H locs cells slots Q la X hp h1 h2 hr hl
  have q1 := X.2.2.2.2.2.2.2.2.1
  have q2 := X.2.2.2.2.2.2.2.2.2.1
  have q3 := tv_cats G st
  refine va_mmin X.1 X.2.1 (by rw [X.2.2.2.1]; exact hl.1.symm) X.2.2.2.2.1 (X.2.2.2.2.2.1 _ hw) (X.2.2.2.2.2.1 _ (oJ9_min_7cf53).2) (X.2.2.2.2.2.1 _ (oJ9_min_7cf53).1.2.1) (X.2.2.2.2.2.1 _ w_mmin) (by omega) (by omega) (by omega) (by omega) hd ?_
  have h9 := kk G p l e Rm s m args below meth c H locs cells slots Q la X hp h1 h2 hr hl
  exact h9
theorem R_mabs {i : Nat} {x : Int32} (hd : decode M.2.1 pc = .ok (.invokestatic i, 3)) (hw : Cond.methodLink M.1.cls i yJ9_abs_0f7a4 ∈ TBG) (hrk : 1 ≤ M.2.2.2.2.1) (hrest : (st.map fun v => v.category).sum ≤ 8) (kk : Rr M kc ks (pc + 3) ls (.int (iabs x) :: st) h P) : Rr M kc ks pc ls (.int x :: st) h P := by
  intro G p l e Rm s m args below meth c H locs cells slots Q la X hp h1 h2 hr hl
  have q1 := X.2.2.2.2.2.2.2.2.1
  have q2 := X.2.2.2.2.2.2.2.2.2.1
  have q3 := tv_cats G st
  refine va_mabs X.1 X.2.1 (by rw [X.2.2.2.1]; exact hl.1.symm) X.2.2.2.2.1 (X.2.2.2.2.2.1 _ hw) (X.2.2.2.2.2.1 _ (oJ9_abs_0f7a4).2) (X.2.2.2.2.2.1 _ (oJ9_abs_0f7a4).1.2.1) (X.2.2.2.2.2.1 _ w_mabs) (by omega) (by omega) (by omega) (by omega) hd ?_
  have h9 := kk G p l e Rm s m args below meth c H locs cells slots Q la X hp h1 h2 hr hl
  exact h9
theorem R_mminL {i : Nat} {x y : Int64} (hd : decode M.2.1 pc = .ok (.invokestatic i, 3)) (hw : Cond.methodLink M.1.cls i yJ9_min_f86c9 ∈ TBG) (hrk : 1 ≤ M.2.2.2.2.1) (hrest : (st.map fun v => v.category).sum ≤ 8) (kk : Rr M kc ks (pc + 3) ls (.long (lmin x y) :: st) h P) : Rr M kc ks pc ls (.long y :: .long x :: st) h P := by
  intro G p l e Rm s m args below meth c H locs cells slots Q la X hp h1 h2 hr hl
  have q1 := X.2.2.2.2.2.2.2.2.1
  have q2 := X.2.2.2.2.2.2.2.2.2.1
  have q3 := tv_cats G st
  refine va_mmin_long X.1 X.2.1 (by rw [X.2.2.2.1]; exact hl.1.symm) X.2.2.2.2.1 (X.2.2.2.2.2.1 _ hw) (X.2.2.2.2.2.1 _ (oJ9_min_f86c9).2) (X.2.2.2.2.2.1 _ (oJ9_min_f86c9).1.2.1) (X.2.2.2.2.2.1 _ w_mminL) (by omega) (by omega) (by omega) (by omega) hd ?_
  have h9 := kk G p l e Rm s m args below meth c H locs cells slots Q la X hp h1 h2 hr hl
  exact h9
end MATHR
theorem lcmp_gt (a b : Int64) : (0 < lg_cmp a b) ↔ b < a := by
  unfold lg_cmp
  by_cases h1 : a > b
  · rw [if_pos h1]
    exact ⟨fun _ => h1, fun _ => by decide⟩
  · rw [if_neg h1]
    have h2 : ¬ b < a := h1
    by_cases h3 : a = b
    · rw [if_pos h3]
      exact ⟨fun q => absurd q (by decide), fun q => absurd q h2⟩
    · rw [if_neg h3]
      exact ⟨fun q => absurd q (by decide), fun q => absurd q h2⟩
theorem ah_ext {h h2 : AH} (h1 : h.1 = h2.1) (hI : ∀ r k, gI h r k = gI h2 r k) (hL : ∀ r k, gL h r k = gL h2 r k) (hF : ∀ r k, gF h r k = gF h2 r k) : h = h2 := by
  obtain ⟨n, i, l, f⟩ := h
  obtain ⟨n2, i2, l2, f2⟩ := h2
  have e1 : n = n2 := h1
  have e2 : i = i2 := funext fun r => funext fun k => hI r k
  have e3 : l = l2 := funext fun r => funext fun k => hL r k
  have e4 : f = f2 := funext fun r => funext fun k => hF r k
  rw [e1, e2, e3, e4]
theorem gI_sI' (h : AH) (r k : Nat) (x : Int32) (r2 k2 : Nat) : gI (sI h r k x) r2 k2 = if r2 = r ∧ k2 = k then x else gI h r2 k2 := rfl
theorem gL_sI (h : AH) (r k : Nat) (x : Int32) (r2 k2 : Nat) : gL (sI h r k x) r2 k2 = gL h r2 k2 := rfl
theorem gF_sI (h : AH) (r k : Nat) (x : Int32) (r2 k2 : Nat) : gF (sI h r k x) r2 k2 = gF h r2 k2 := rfl
theorem gI_sL (h : AH) (r k : Nat) (x : Int64) (r2 k2 : Nat) : gI (sL h r k x) r2 k2 = gI h r2 k2 := rfl
theorem gL_sL' (h : AH) (r k : Nat) (x : Int64) (r2 k2 : Nat) : gL (sL h r k x) r2 k2 = if r2 = r ∧ k2 = k then x else gL h r2 k2 := rfl
theorem gF_sL (h : AH) (r k : Nat) (x : Int64) (r2 k2 : Nat) : gF (sL h r k x) r2 k2 = gF h r2 k2 := rfl
theorem gI_sF (h : AH) (r k : Nat) (x : Nat) (r2 k2 : Nat) : gI (sF h r k x) r2 k2 = gI h r2 k2 := rfl
theorem gL_sF (h : AH) (r k : Nat) (x : Nat) (r2 k2 : Nat) : gL (sF h r k x) r2 k2 = gL h r2 k2 := rfl
theorem gF_sF (h : AH) (r k : Nat) (x : Nat) (r2 k2 : Nat) : gF (sF h r k x) r2 k2 = if r2 = r ∧ k2 = k then x else gF h r2 k2 := rfl
theorem gI_rI (h : AH) (r : Nat) (g : Nat → Int32) (r2 k2 : Nat) : gI (rI h r g) r2 k2 = if r2 = r then g k2 else gI h r2 k2 := by
  simp only [gI, rI, up1]
  by_cases e : r2 = r
  · simp [e]
  · simp [e]
theorem gL_rI (h : AH) (r : Nat) (g : Nat → Int32) (r2 k2 : Nat) : gL (rI h r g) r2 k2 = gL h r2 k2 := rfl
theorem gF_rI (h : AH) (r : Nat) (g : Nat → Int32) (r2 k2 : Nat) : gF (rI h r g) r2 k2 = gF h r2 k2 := rfl
theorem gI_rL (h : AH) (r : Nat) (g : Nat → Int64) (r2 k2 : Nat) : gI (rL h r g) r2 k2 = gI h r2 k2 := rfl
theorem gL_rL (h : AH) (r : Nat) (g : Nat → Int64) (r2 k2 : Nat) : gL (rL h r g) r2 k2 = if r2 = r then g k2 else gL h r2 k2 := by
  simp only [gL, rL, up1]
  by_cases e : r2 = r
  · simp [e]
  · simp [e]
theorem gF_rL (h : AH) (r : Nat) (g : Nat → Int64) (r2 k2 : Nat) : gF (rL h r g) r2 k2 = gF h r2 k2 := rfl
def fillI (h : AH) (r : Nat) (x : Int32) (i : Nat) : AH := rI h r (fun k => if i ≤ k ∧ k < ln r then x else gI h r k)
def fillL (h : AH) (r : Nat) (x : Int64) (i : Nat) : AH := rL h r (fun k => if i ≤ k ∧ k < ln r then x else gL h r k)
theorem ln_lt (r : Nat) : ln r < 1000 := by
  unfold ln
  by_cases hr : r < SH.length
  · have hall : ∀ i, i < SH.length → (SH.getD i (99, 0)).2 < 1000 := by decide +kernel
    exact hall r hr
  · rw [List.getD_eq_getElem?_getD, List.getElem?_eq_none (by omega)]
    decide
theorem fillI_step (h : AH) (r : Nat) (x : Int32) {i : Nat} (hi : i < ln r) : fillI (sI h r i x) r x (i + 1) = fillI h r x i := by
  refine ah_ext rfl (fun r2 k => ?_) (fun _ _ => rfl) (fun _ _ => rfl)
  simp only [fillI, gI_rI, gI_sI']
  by_cases e : r2 = r
  · subst e
    by_cases e2 : k = i
    · subst e2
      simp [hi]
    · simp only [e2, and_false, if_false, if_true]
      by_cases c : i + 1 ≤ k ∧ k < ln r2
      · rw [if_pos c, if_pos ⟨by omega, c.2⟩]
      · rw [if_neg c, if_neg (by omega)]
  · rw [if_neg e, if_neg e, if_neg (fun q => e q.1)]
theorem fillI_end (h : AH) (r : Nat) (x : Int32) : fillI h r x (ln r) = h := by
  refine ah_ext rfl (fun r2 k => ?_) (fun _ _ => rfl) (fun _ _ => rfl)
  simp only [fillI, gI_rI]
  by_cases e : r2 = r
  · subst e
    rw [if_pos rfl, if_neg (by omega)]
  · rw [if_neg e]
theorem fillL_step (h : AH) (r : Nat) (x : Int64) {i : Nat} (hi : i < ln r) : fillL (sL h r i x) r x (i + 1) = fillL h r x i := by
  refine ah_ext rfl (fun _ _ => rfl) (fun r2 k => ?_) (fun _ _ => rfl)
  simp only [fillL, gL_rL, gL_sL']
  by_cases e : r2 = r
  · subst e
    by_cases e2 : k = i
    · subst e2
      simp [hi]
    · simp only [e2, and_false, if_false, if_true]
      by_cases c : i + 1 ≤ k ∧ k < ln r2
      · rw [if_pos c, if_pos ⟨by omega, c.2⟩]
      · rw [if_neg c, if_neg (by omega)]
  · rw [if_neg e, if_neg e, if_neg (fun q => e q.1)]
theorem fillL_end (h : AH) (r : Nat) (x : Int64) : fillL h r x (ln r) = h := by
  refine ah_ext rfl (fun _ _ => rfl) (fun r2 k => ?_) (fun _ _ => rfl)
  simp only [fillL, gL_rL]
  by_cases e : r2 = r
  · subst e
    rw [if_pos rfl, if_neg (by omega)]
  · rw [if_neg e]
theorem fillI_loop {P : Option Value → AH → Prop} (r : Nat) (x : Int32) : ∀ (n i : Nat) (h : AH), i + n = ln r → isA h 0 r → P none (fillI h r x i) → Rr mJ7_fill_53178 0 0 5 [(0, .ref r), (1, .int x), (2, .int (nI i)), (3, .int (Int32.ofNat (ln r)))] [] h P
  | 0, i, h, hn, hA, hP => sJ7_fill_53178_5 h r x _ _ ⟨fun _ => by rw [show i = ln r by omega, fillI_end] at hP; exact hP, fun c => absurd (by rw [show i = ln r by omega]; exact Int32.le_refl _) c⟩
  | n + 1, i, h, hn, hA, hP => by
    have hl := ln_lt r
    refine sJ7_fill_53178_5 h r x _ _ ⟨fun c => absurd c (nI_ge (a := i) (b := ln r) (by omega) (by omega)), fun _ => ⟨hA, vp_in_nI (by omega) (by omega), ?_⟩⟩
    rw [nI_1, nI_clamp (by omega)]
    exact fillI_loop r x n (i + 1) _ (by omega) hA (by rw [fillI_step h r x (by omega)]; exact hP)
theorem fillL_loop {P : Option Value → AH → Prop} (r : Nat) (x : Int64) : ∀ (n i : Nat) (h : AH), i + n = ln r → isA h 1 r → P none (fillL h r x i) → Rr mJ7_fill_d0a16 0 0 6 [(0, .ref r), (1, .long x), (3, .int (nI i)), (4, .int (Int32.ofNat (ln r)))] [] h P
  | 0, i, h, hn, hA, hP => sJ7_fill_d0a16_6 h r x _ _ ⟨fun _ => by rw [show i = ln r by omega, fillL_end] at hP; exact hP, fun c => absurd (by rw [show i = ln r by omega]; exact Int32.le_refl _) c⟩
  | n + 1, i, h, hn, hA, hP => by
    have hl := ln_lt r
    refine sJ7_fill_d0a16_6 h r x _ _ ⟨fun c => absurd c (nI_ge (a := i) (b := ln r) (by omega) (by omega)), fun _ => ⟨hA, vp_in_nI (by omega) (by omega), ?_⟩⟩
    rw [nI_1, nI_clamp (by omega)]
    exact fillL_loop r x n (i + 1) _ (by omega) hA (by rw [fillL_step h r x (by omega)]; exact hP)
theorem c_fillI {r : Nat} {x : Int32} {h : AH} {P : Option Value → AH → Prop} (hA : isA h 0 r) (k : P none (fillI h r x 0)) : Call mJ7_fill_53178 [.ref r, .int x] h P :=
  Call.ofR (by decide +kernel) (Nat.le_of_ble_eq_true rfl) (sJ7_fill_53178_0 h r x ⟨hA, fillI_loop r x (ln r) 0 h (by omega) hA k⟩)
theorem c_fillL {r : Nat} {x : Int64} {h : AH} {P : Option Value → AH → Prop} (hA : isA h 1 r) (k : P none (fillL h r x 0)) : Call mJ7_fill_d0a16 [.ref r, .long x] h P :=
  Call.ofR (by decide +kernel) (Nat.le_of_ble_eq_true rfl) (sJ7_fill_d0a16_0 h r x ⟨hA, fillL_loop r x (ln r) 0 h (by omega) hA k⟩)
end
section
theorem tt1 : plainName "java/lang/Long" = true := by decide +kernel
theorem tt2 : plainName "java/lang/String" = true := by decide +kernel
theorem tt3 : plainName "java/lang/StringLatin1" = true := by decide +kernel
theorem tt4 : plainName "jdk/internal/util/Preconditions" = true := by decide +kernel
theorem tt5 : plainName "FourInks$Tape" = true := by decide +kernel
end
