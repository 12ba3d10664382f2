section
-- ===== PART A: goes FIRST, ahead of the names: the tables' words, and 'selects' of the private methods out of them =====
/-- a private method of a class that the tables say can be made, by its rows of tables_1 -/
def lw_okq (q : MethodName × Nat) : Prop := (q.1.cls ≠ "java/lang/invoke/MethodHandle" ∧ q.1.cls ≠ "java/lang/invoke/VarHandle") ∧ Cond.instantiable q.1.cls q.2 ∈ tables_1 ∧ Cond.privateMethod q.1 ∈ tables_1 ∧ Cond.instanceMethod q.1 ∈ tables_1
theorem lw_p0 : lw_okq (⟨"FourInks$Tape", "takeWord", "()V"⟩, 6) := ⟨⟨by decide +kernel, by decide +kernel⟩, List.mem_of_getElem? (i := 37) (by decide +kernel), List.mem_of_getElem? (i := 545) (by decide +kernel), List.mem_of_getElem? (i := 546) (by decide +kernel)⟩
theorem lw_p1 : lw_okq (⟨"FourInks$Tape", "takeNumber", "()V"⟩, 6) := ⟨⟨by decide +kernel, by decide +kernel⟩, List.mem_of_getElem? (i := 37) (by decide +kernel), List.mem_of_getElem? (i := 552) (by decide +kernel), List.mem_of_getElem? (i := 553) (by decide +kernel)⟩
theorem lw_p2 : lw_okq (⟨"FourInks$Tape", "takeSign", "(I)V"⟩, 6) := ⟨⟨by decide +kernel, by decide +kernel⟩, List.mem_of_getElem? (i := 37) (by decide +kernel), List.mem_of_getElem? (i := 556) (by decide +kernel), List.mem_of_getElem? (i := 557) (by decide +kernel)⟩
theorem lw_p3 : lw_okq (⟨"FourInks$JobText", "takeClause", "()V"⟩, 6) := ⟨⟨by decide +kernel, by decide +kernel⟩, List.mem_of_getElem? (i := 31) (by decide +kernel), List.mem_of_getElem? (i := 560) (by decide +kernel), List.mem_of_getElem? (i := 561) (by decide +kernel)⟩
theorem lw_p4 : lw_okq (⟨"FourInks$Tape", "spells", "(Ljava/lang/String;I)Z"⟩, 6) := ⟨⟨by decide +kernel, by decide +kernel⟩, List.mem_of_getElem? (i := 37) (by decide +kernel), List.mem_of_getElem? (i := 579) (by decide +kernel), List.mem_of_getElem? (i := 580) (by decide +kernel)⟩
theorem lw_p5 : lw_okq (⟨"FourInks$JobText", "takeSheet", "()V"⟩, 6) := ⟨⟨by decide +kernel, by decide +kernel⟩, List.mem_of_getElem? (i := 31) (by decide +kernel), List.mem_of_getElem? (i := 621) (by decide +kernel), List.mem_of_getElem? (i := 622) (by decide +kernel)⟩
theorem lw_p6 : lw_okq (⟨"FourInks$JobText", "refuseTwice", "(I)V"⟩, 6) := ⟨⟨by decide +kernel, by decide +kernel⟩, List.mem_of_getElem? (i := 31) (by decide +kernel), List.mem_of_getElem? (i := 625) (by decide +kernel), List.mem_of_getElem? (i := 626) (by decide +kernel)⟩
theorem lw_p7 : lw_okq (⟨"FourInks$JobText", "refuse", "(I)V"⟩, 6) := ⟨⟨by decide +kernel, by decide +kernel⟩, List.mem_of_getElem? (i := 31) (by decide +kernel), List.mem_of_getElem? (i := 629) (by decide +kernel), List.mem_of_getElem? (i := 630) (by decide +kernel)⟩
theorem lw_p8 : lw_okq (⟨"FourInks$JobText", "number", "(II)I"⟩, 6) := ⟨⟨by decide +kernel, by decide +kernel⟩, List.mem_of_getElem? (i := 31) (by decide +kernel), List.mem_of_getElem? (i := 633) (by decide +kernel), List.mem_of_getElem? (i := 634) (by decide +kernel)⟩
theorem lw_p9 : lw_okq (⟨"FourInks$JobText", "numberHere", "(II)I"⟩, 6) := ⟨⟨by decide +kernel, by decide +kernel⟩, List.mem_of_getElem? (i := 31) (by decide +kernel), List.mem_of_getElem? (i := 637) (by decide +kernel), List.mem_of_getElem? (i := 638) (by decide +kernel)⟩
theorem lw_p10 : lw_okq (⟨"FourInks$JobText", "onlyNumber", "(II)I"⟩, 6) := ⟨⟨by decide +kernel, by decide +kernel⟩, List.mem_of_getElem? (i := 31) (by decide +kernel), List.mem_of_getElem? (i := 641) (by decide +kernel), List.mem_of_getElem? (i := 642) (by decide +kernel)⟩
theorem lw_p11 : lw_okq (⟨"FourInks$JobText", "takeMark", "()V"⟩, 6) := ⟨⟨by decide +kernel, by decide +kernel⟩, List.mem_of_getElem? (i := 31) (by decide +kernel), List.mem_of_getElem? (i := 645) (by decide +kernel), List.mem_of_getElem? (i := 646) (by decide +kernel)⟩
theorem lw_p12 : lw_okq (⟨"FourInks$JobText", "takeScrew", "()V"⟩, 6) := ⟨⟨by decide +kernel, by decide +kernel⟩, List.mem_of_getElem? (i := 31) (by decide +kernel), List.mem_of_getElem? (i := 649) (by decide +kernel), List.mem_of_getElem? (i := 650) (by decide +kernel)⟩
theorem lw_p13 : lw_okq (⟨"FourInks$JobText", "ink", "()I"⟩, 6) := ⟨⟨by decide +kernel, by decide +kernel⟩, List.mem_of_getElem? (i := 31) (by decide +kernel), List.mem_of_getElem? (i := 653) (by decide +kernel), List.mem_of_getElem? (i := 654) (by decide +kernel)⟩
theorem lw_p14 : lw_okq (⟨"FourInks$JobText", "signedNumber", "(I)I"⟩, 6) := ⟨⟨by decide +kernel, by decide +kernel⟩, List.mem_of_getElem? (i := 31) (by decide +kernel), List.mem_of_getElem? (i := 661) (by decide +kernel), List.mem_of_getElem? (i := 662) (by decide +kernel)⟩
theorem lw_p15 : lw_okq (⟨"FourInks$JobText", "takeBox", "()V"⟩, 6) := ⟨⟨by decide +kernel, by decide +kernel⟩, List.mem_of_getElem? (i := 31) (by decide +kernel), List.mem_of_getElem? (i := 669) (by decide +kernel), List.mem_of_getElem? (i := 670) (by decide +kernel)⟩
def lw_privs_1 : List (MethodName × Nat) := [(⟨"FourInks$Tape", "takeWord", "()V"⟩, 6), (⟨"FourInks$Tape", "takeNumber", "()V"⟩, 6), (⟨"FourInks$Tape", "takeSign", "(I)V"⟩, 6), (⟨"FourInks$JobText", "takeClause", "()V"⟩, 6), (⟨"FourInks$Tape", "spells", "(Ljava/lang/String;I)Z"⟩, 6), (⟨"FourInks$JobText", "takeSheet", "()V"⟩, 6), (⟨"FourInks$JobText", "refuseTwice", "(I)V"⟩, 6), (⟨"FourInks$JobText", "refuse", "(I)V"⟩, 6), (⟨"FourInks$JobText", "number", "(II)I"⟩, 6), (⟨"FourInks$JobText", "numberHere", "(II)I"⟩, 6), (⟨"FourInks$JobText", "onlyNumber", "(II)I"⟩, 6), (⟨"FourInks$JobText", "takeMark", "()V"⟩, 6), (⟨"FourInks$JobText", "takeScrew", "()V"⟩, 6), (⟨"FourInks$JobText", "ink", "()I"⟩, 6), (⟨"FourInks$JobText", "signedNumber", "(I)I"⟩, 6), (⟨"FourInks$JobText", "takeBox", "()V"⟩, 6)]
theorem lw_r1 : ∀ q ∈ lw_privs_1, lw_okq q := List.forall_mem_cons.mpr ⟨lw_p0, List.forall_mem_cons.mpr ⟨lw_p1, List.forall_mem_cons.mpr ⟨lw_p2, List.forall_mem_cons.mpr ⟨lw_p3, List.forall_mem_cons.mpr ⟨lw_p4, List.forall_mem_cons.mpr ⟨lw_p5, List.forall_mem_cons.mpr ⟨lw_p6, List.forall_mem_cons.mpr ⟨lw_p7, List.forall_mem_cons.mpr ⟨lw_p8, List.forall_mem_cons.mpr ⟨lw_p9, List.forall_mem_cons.mpr ⟨lw_p10, List.forall_mem_cons.mpr ⟨lw_p11, List.forall_mem_cons.mpr ⟨lw_p12, List.forall_mem_cons.mpr ⟨lw_p13, List.forall_mem_cons.mpr ⟨lw_p14, List.forall_mem_cons.mpr ⟨lw_p15, fun _ h => absurd h List.not_mem_nil⟩⟩⟩⟩⟩⟩⟩⟩⟩⟩⟩⟩⟩⟩⟩⟩
theorem lw_p16 : lw_okq (⟨"FourInks$JobText", "takeScreen", "()V"⟩, 6) := ⟨⟨by decide +kernel, by decide +kernel⟩, List.mem_of_getElem? (i := 31) (by decide +kernel), List.mem_of_getElem? (i := 678) (by decide +kernel), List.mem_of_getElem? (i := 679) (by decide +kernel)⟩
theorem lw_p17 : lw_okq (⟨"FourInks$JobText", "takeLies", "()V"⟩, 6) := ⟨⟨by decide +kernel, by decide +kernel⟩, List.mem_of_getElem? (i := 31) (by decide +kernel), List.mem_of_getElem? (i := 686) (by decide +kernel), List.mem_of_getElem? (i := 687) (by decide +kernel)⟩
theorem lw_p18 : lw_okq (⟨"FourInks$JobText", "takeSemicolon", "()V"⟩, 6) := ⟨⟨by decide +kernel, by decide +kernel⟩, List.mem_of_getElem? (i := 31) (by decide +kernel), List.mem_of_getElem? (i := 690) (by decide +kernel), List.mem_of_getElem? (i := 691) (by decide +kernel)⟩
theorem lw_p19 : lw_okq (⟨"FourInks$Readings", "timesRight", "(I)I"⟩, 12) := ⟨⟨by decide +kernel, by decide +kernel⟩, List.mem_of_getElem? (i := 234) (by decide +kernel), List.mem_of_getElem? (i := 792) (by decide +kernel), List.mem_of_getElem? (i := 793) (by decide +kernel)⟩
theorem lw_p20 : lw_okq (⟨"FourInks$Fit", "gather", "(LFourInks$Job;LFourInks$Readings;II)V"⟩, 12) := ⟨⟨by decide +kernel, by decide +kernel⟩, List.mem_of_getElem? (i := 280) (by decide +kernel), List.mem_of_getElem? (i := 805) (by decide +kernel), List.mem_of_getElem? (i := 806) (by decide +kernel)⟩
theorem lw_p21 : lw_okq (⟨"FourInks$Readings", "lastRight", "(II)I"⟩, 12) := ⟨⟨by decide +kernel, by decide +kernel⟩, List.mem_of_getElem? (i := 234) (by decide +kernel), List.mem_of_getElem? (i := 821) (by decide +kernel), List.mem_of_getElem? (i := 822) (by decide +kernel)⟩
theorem lw_p22 : lw_okq (⟨"FourInks$Fit", "boundShifts", "(III)V"⟩, 12) := ⟨⟨by decide +kernel, by decide +kernel⟩, List.mem_of_getElem? (i := 280) (by decide +kernel), List.mem_of_getElem? (i := 829) (by decide +kernel), List.mem_of_getElem? (i := 830) (by decide +kernel)⟩
theorem lw_p23 : lw_okq (⟨"FourInks$Fit", "takeIn", "(II)V"⟩, 12) := ⟨⟨by decide +kernel, by decide +kernel⟩, List.mem_of_getElem? (i := 280) (by decide +kernel), List.mem_of_getElem? (i := 841) (by decide +kernel), List.mem_of_getElem? (i := 842) (by decide +kernel)⟩
theorem lw_p24 : lw_okq (⟨"FourInks$Fit", "widen", "(III)V"⟩, 12) := ⟨⟨by decide +kernel, by decide +kernel⟩, List.mem_of_getElem? (i := 280) (by decide +kernel), List.mem_of_getElem? (i := 845) (by decide +kernel), List.mem_of_getElem? (i := 846) (by decide +kernel)⟩
theorem lw_p25 : lw_okq (⟨"FourInks$Mending", "beginRows", "(I)I"⟩, 7) := ⟨⟨by decide +kernel, by decide +kernel⟩, List.mem_of_getElem? (i := 326) (by decide +kernel), List.mem_of_getElem? (i := 871) (by decide +kernel), List.mem_of_getElem? (i := 872) (by decide +kernel)⟩
theorem lw_p26 : lw_okq (⟨"FourInks$Mending", "badOfRow", "(LFourInks$Job;I)I"⟩, 7) := ⟨⟨by decide +kernel, by decide +kernel⟩, List.mem_of_getElem? (i := 326) (by decide +kernel), List.mem_of_getElem? (i := 875) (by decide +kernel), List.mem_of_getElem? (i := 876) (by decide +kernel)⟩
theorem lw_p27 : lw_okq (⟨"FourInks$Mending", "badOf", "(LFourInks$Job;III)I"⟩, 7) := ⟨⟨by decide +kernel, by decide +kernel⟩, List.mem_of_getElem? (i := 326) (by decide +kernel), List.mem_of_getElem? (i := 880) (by decide +kernel), List.mem_of_getElem? (i := 881) (by decide +kernel)⟩
theorem lw_p28 : lw_okq (⟨"FourInks$Mending", "turnsOfRow", "()I"⟩, 7) := ⟨⟨by decide +kernel, by decide +kernel⟩, List.mem_of_getElem? (i := 326) (by decide +kernel), List.mem_of_getElem? (i := 890) (by decide +kernel), List.mem_of_getElem? (i := 891) (by decide +kernel)⟩
theorem lw_p29 : lw_okq (⟨"FourInks$Mending", "nextRow", "(I)V"⟩, 7) := ⟨⟨by decide +kernel, by decide +kernel⟩, List.mem_of_getElem? (i := 326) (by decide +kernel), List.mem_of_getElem? (i := 897) (by decide +kernel), List.mem_of_getElem? (i := 898) (by decide +kernel)⟩
theorem lw_p30 : lw_okq (⟨"FourInks$Board", "invert", "()V"⟩, 1) := ⟨⟨by decide +kernel, by decide +kernel⟩, List.mem_of_getElem? (i := 77) (by decide +kernel), List.mem_of_getElem? (i := 925) (by decide +kernel), List.mem_of_getElem? (i := 926) (by decide +kernel)⟩
theorem lw_p31 : lw_okq (⟨"FourInks$Board", "growOnce", "()V"⟩, 1) := ⟨⟨by decide +kernel, by decide +kernel⟩, List.mem_of_getElem? (i := 77) (by decide +kernel), List.mem_of_getElem? (i := 931) (by decide +kernel), List.mem_of_getElem? (i := 932) (by decide +kernel)⟩
def lw_privs_2 : List (MethodName × Nat) := [(⟨"FourInks$JobText", "takeScreen", "()V"⟩, 6), (⟨"FourInks$JobText", "takeLies", "()V"⟩, 6), (⟨"FourInks$JobText", "takeSemicolon", "()V"⟩, 6), (⟨"FourInks$Readings", "timesRight", "(I)I"⟩, 12), (⟨"FourInks$Fit", "gather", "(LFourInks$Job;LFourInks$Readings;II)V"⟩, 12), (⟨"FourInks$Readings", "lastRight", "(II)I"⟩, 12), (⟨"FourInks$Fit", "boundShifts", "(III)V"⟩, 12), (⟨"FourInks$Fit", "takeIn", "(II)V"⟩, 12), (⟨"FourInks$Fit", "widen", "(III)V"⟩, 12), (⟨"FourInks$Mending", "beginRows", "(I)I"⟩, 7), (⟨"FourInks$Mending", "badOfRow", "(LFourInks$Job;I)I"⟩, 7), (⟨"FourInks$Mending", "badOf", "(LFourInks$Job;III)I"⟩, 7), (⟨"FourInks$Mending", "turnsOfRow", "()I"⟩, 7), (⟨"FourInks$Mending", "nextRow", "(I)V"⟩, 7), (⟨"FourInks$Board", "invert", "()V"⟩, 1), (⟨"FourInks$Board", "growOnce", "()V"⟩, 1)]
theorem lw_r2 : ∀ q ∈ lw_privs_2, lw_okq q := List.forall_mem_cons.mpr ⟨lw_p16, List.forall_mem_cons.mpr ⟨lw_p17, List.forall_mem_cons.mpr ⟨lw_p18, List.forall_mem_cons.mpr ⟨lw_p19, List.forall_mem_cons.mpr ⟨lw_p20, List.forall_mem_cons.mpr ⟨lw_p21, List.forall_mem_cons.mpr ⟨lw_p22, List.forall_mem_cons.mpr ⟨lw_p23, List.forall_mem_cons.mpr ⟨lw_p24, List.forall_mem_cons.mpr ⟨lw_p25, List.forall_mem_cons.mpr ⟨lw_p26, List.forall_mem_cons.mpr ⟨lw_p27, List.forall_mem_cons.mpr ⟨lw_p28, List.forall_mem_cons.mpr ⟨lw_p29, List.forall_mem_cons.mpr ⟨lw_p30, List.forall_mem_cons.mpr ⟨lw_p31, fun _ h => absurd h List.not_mem_nil⟩⟩⟩⟩⟩⟩⟩⟩⟩⟩⟩⟩⟩⟩⟩⟩
theorem lw_p32 : lw_okq (⟨"FourInks$Board", "moveAcross", "(I)V"⟩, 1) := ⟨⟨by decide +kernel, by decide +kernel⟩, List.mem_of_getElem? (i := 77) (by decide +kernel), List.mem_of_getElem? (i := 965) (by decide +kernel), List.mem_of_getElem? (i := 966) (by decide +kernel)⟩
theorem lw_p33 : lw_okq (⟨"FourInks$Board", "moveUpOnce", "()V"⟩, 1) := ⟨⟨by decide +kernel, by decide +kernel⟩, List.mem_of_getElem? (i := 77) (by decide +kernel), List.mem_of_getElem? (i := 969) (by decide +kernel), List.mem_of_getElem? (i := 970) (by decide +kernel)⟩
theorem lw_p34 : lw_okq (⟨"FourInks$Board", "moveDownOnce", "()V"⟩, 1) := ⟨⟨by decide +kernel, by decide +kernel⟩, List.mem_of_getElem? (i := 77) (by decide +kernel), List.mem_of_getElem? (i := 973) (by decide +kernel), List.mem_of_getElem? (i := 974) (by decide +kernel)⟩
theorem lw_p35 : lw_okq (⟨"FourInks", "markUnlike", "(II)V"⟩, 15) := ⟨⟨by decide +kernel, by decide +kernel⟩, List.mem_of_getElem? (i := 23) (by decide +kernel), List.mem_of_getElem? (i := 1034) (by decide +kernel), List.mem_of_getElem? (i := 1035) (by decide +kernel)⟩
theorem lw_p36 : lw_okq (⟨"FourInks", "causesOf", "(II)I"⟩, 15) := ⟨⟨by decide +kernel, by decide +kernel⟩, List.mem_of_getElem? (i := 23) (by decide +kernel), List.mem_of_getElem? (i := 1053) (by decide +kernel), List.mem_of_getElem? (i := 1054) (by decide +kernel)⟩
theorem lw_p37 : lw_okq (⟨"FourInks", "breadthOf", "(III)I"⟩, 15) := ⟨⟨by decide +kernel, by decide +kernel⟩, List.mem_of_getElem? (i := 23) (by decide +kernel), List.mem_of_getElem? (i := 1057) (by decide +kernel), List.mem_of_getElem? (i := 1058) (by decide +kernel)⟩
theorem lw_p38 : lw_okq (⟨"FourInks", "isJump", "(II)Z"⟩, 15) := ⟨⟨by decide +kernel, by decide +kernel⟩, List.mem_of_getElem? (i := 23) (by decide +kernel), List.mem_of_getElem? (i := 1063) (by decide +kernel), List.mem_of_getElem? (i := 1064) (by decide +kernel)⟩
theorem lw_p39 : lw_okq (⟨"FourInks", "isDrift", "(II)Z"⟩, 15) := ⟨⟨by decide +kernel, by decide +kernel⟩, List.mem_of_getElem? (i := 23) (by decide +kernel), List.mem_of_getElem? (i := 1067) (by decide +kernel), List.mem_of_getElem? (i := 1068) (by decide +kernel)⟩
theorem lw_p40 : lw_okq (⟨"FourInks$Halts", "costBehind", "(III)J"⟩, 4) := ⟨⟨by decide +kernel, by decide +kernel⟩, List.mem_of_getElem? (i := 409) (by decide +kernel), List.mem_of_getElem? (i := 1094) (by decide +kernel), List.mem_of_getElem? (i := 1095) (by decide +kernel)⟩
theorem lw_p41 : lw_okq (⟨"FourInks$Tissue", "lightest", "(II)I"⟩, 7) := ⟨⟨by decide +kernel, by decide +kernel⟩, List.mem_of_getElem? (i := 430) (by decide +kernel), List.mem_of_getElem? (i := 1123) (by decide +kernel), List.mem_of_getElem? (i := 1124) (by decide +kernel)⟩
theorem lw_p42 : lw_okq (⟨"FourInks$Tissue", "weight", "(III)I"⟩, 7) := ⟨⟨by decide +kernel, by decide +kernel⟩, List.mem_of_getElem? (i := 430) (by decide +kernel), List.mem_of_getElem? (i := 1127) (by decide +kernel), List.mem_of_getElem? (i := 1128) (by decide +kernel)⟩
theorem lw_p43 : lw_okq (⟨"FourInks$Tissue", "takeLayers", "()V"⟩, 7) := ⟨⟨by decide +kernel, by decide +kernel⟩, List.mem_of_getElem? (i := 430) (by decide +kernel), List.mem_of_getElem? (i := 1132) (by decide +kernel), List.mem_of_getElem? (i := 1133) (by decide +kernel)⟩
theorem lw_p44 : lw_okq (⟨"FourInks$Screens", "squaresFrom", "(III)I"⟩, 4) := ⟨⟨by decide +kernel, by decide +kernel⟩, List.mem_of_getElem? (i := 90) (by decide +kernel), List.mem_of_getElem? (i := 1149) (by decide +kernel), List.mem_of_getElem? (i := 1150) (by decide +kernel)⟩
theorem lw_p45 : lw_okq (⟨"FourInks$Screens", "leastBeat", "(IIII)I"⟩, 4) := ⟨⟨by decide +kernel, by decide +kernel⟩, List.mem_of_getElem? (i := 90) (by decide +kernel), List.mem_of_getElem? (i := 1162) (by decide +kernel), List.mem_of_getElem? (i := 1163) (by decide +kernel)⟩
theorem lw_p46 : lw_okq (⟨"FourInks$Screens", "set", "(IIII)V"⟩, 4) := ⟨⟨by decide +kernel, by decide +kernel⟩, List.mem_of_getElem? (i := 90) (by decide +kernel), List.mem_of_getElem? (i := 1167) (by decide +kernel), List.mem_of_getElem? (i := 1168) (by decide +kernel)⟩
theorem lw_p47 : lw_okq (⟨"FourInks", "findOrder", "()I"⟩, 15) := ⟨⟨by decide +kernel, by decide +kernel⟩, List.mem_of_getElem? (i := 23) (by decide +kernel), List.mem_of_getElem? (i := 1175) (by decide +kernel), List.mem_of_getElem? (i := 1176) (by decide +kernel)⟩
def lw_privs_3 : List (MethodName × Nat) := [(⟨"FourInks$Board", "moveAcross", "(I)V"⟩, 1), (⟨"FourInks$Board", "moveUpOnce", "()V"⟩, 1), (⟨"FourInks$Board", "moveDownOnce", "()V"⟩, 1), (⟨"FourInks", "markUnlike", "(II)V"⟩, 15), (⟨"FourInks", "causesOf", "(II)I"⟩, 15), (⟨"FourInks", "breadthOf", "(III)I"⟩, 15), (⟨"FourInks", "isJump", "(II)Z"⟩, 15), (⟨"FourInks", "isDrift", "(II)Z"⟩, 15), (⟨"FourInks$Halts", "costBehind", "(III)J"⟩, 4), (⟨"FourInks$Tissue", "lightest", "(II)I"⟩, 7), (⟨"FourInks$Tissue", "weight", "(III)I"⟩, 7), (⟨"FourInks$Tissue", "takeLayers", "()V"⟩, 7), (⟨"FourInks$Screens", "squaresFrom", "(III)I"⟩, 4), (⟨"FourInks$Screens", "leastBeat", "(IIII)I"⟩, 4), (⟨"FourInks$Screens", "set", "(IIII)V"⟩, 4), (⟨"FourInks", "findOrder", "()I"⟩, 15)]
theorem lw_r3 : ∀ q ∈ lw_privs_3, lw_okq q := List.forall_mem_cons.mpr ⟨lw_p32, List.forall_mem_cons.mpr ⟨lw_p33, List.forall_mem_cons.mpr ⟨lw_p34, List.forall_mem_cons.mpr ⟨lw_p35, List.forall_mem_cons.mpr ⟨lw_p36, List.forall_mem_cons.mpr ⟨lw_p37, List.forall_mem_cons.mpr ⟨lw_p38, List.forall_mem_cons.mpr ⟨lw_p39, List.forall_mem_cons.mpr ⟨lw_p40, List.forall_mem_cons.mpr ⟨lw_p41, List.forall_mem_cons.mpr ⟨lw_p42, List.forall_mem_cons.mpr ⟨lw_p43, List.forall_mem_cons.mpr ⟨lw_p44, List.forall_mem_cons.mpr ⟨lw_p45, List.forall_mem_cons.mpr ⟨lw_p46, List.forall_mem_cons.mpr ⟨lw_p47, fun _ h => absurd h List.not_mem_nil⟩⟩⟩⟩⟩⟩⟩⟩⟩⟩⟩⟩⟩⟩⟩⟩
theorem lw_p48 : lw_okq (⟨"FourInks", "sumOf", "(IIII)I"⟩, 15) := ⟨⟨by decide +kernel, by decide +kernel⟩, List.mem_of_getElem? (i := 23) (by decide +kernel), List.mem_of_getElem? (i := 1179) (by decide +kernel), List.mem_of_getElem? (i := 1180) (by decide +kernel)⟩
theorem lw_p49 : lw_okq (⟨"FourInksModel", "begin", "()V"⟩, 59) := ⟨⟨by decide +kernel, by decide +kernel⟩, List.mem_of_getElem? (i := 1191) (by decide +kernel), List.mem_of_getElem? (i := 1197) (by decide +kernel), List.mem_of_getElem? (i := 1198) (by decide +kernel)⟩
theorem lw_p50 : lw_okq (⟨"FourInksModel", "settle", "()V"⟩, 59) := ⟨⟨by decide +kernel, by decide +kernel⟩, List.mem_of_getElem? (i := 1191) (by decide +kernel), List.mem_of_getElem? (i := 1201) (by decide +kernel), List.mem_of_getElem? (i := 1202) (by decide +kernel)⟩
theorem lw_p51 : lw_okq (⟨"FourInksModel", "start", "()V"⟩, 59) := ⟨⟨by decide +kernel, by decide +kernel⟩, List.mem_of_getElem? (i := 1191) (by decide +kernel), List.mem_of_getElem? (i := 1402) (by decide +kernel), List.mem_of_getElem? (i := 1403) (by decide +kernel)⟩
theorem lw_p52 : lw_okq (⟨"FourInksModel", "scan", "()V"⟩, 59) := ⟨⟨by decide +kernel, by decide +kernel⟩, List.mem_of_getElem? (i := 1191) (by decide +kernel), List.mem_of_getElem? (i := 1406) (by decide +kernel), List.mem_of_getElem? (i := 1407) (by decide +kernel)⟩
theorem lw_p53 : lw_okq (⟨"FourInksModel", "byteAt", "(I)I"⟩, 59) := ⟨⟨by decide +kernel, by decide +kernel⟩, List.mem_of_getElem? (i := 1191) (by decide +kernel), List.mem_of_getElem? (i := 1410) (by decide +kernel), List.mem_of_getElem? (i := 1411) (by decide +kernel)⟩
theorem lw_p54 : lw_okq (⟨"FourInksModel", "keyAt", "(II)I"⟩, 59) := ⟨⟨by decide +kernel, by decide +kernel⟩, List.mem_of_getElem? (i := 1191) (by decide +kernel), List.mem_of_getElem? (i := 1417) (by decide +kernel), List.mem_of_getElem? (i := 1418) (by decide +kernel)⟩
theorem lw_p55 : lw_okq (⟨"FourInksModel", "readClause", "()Z"⟩, 59) := ⟨⟨by decide +kernel, by decide +kernel⟩, List.mem_of_getElem? (i := 1191) (by decide +kernel), List.mem_of_getElem? (i := 1427) (by decide +kernel), List.mem_of_getElem? (i := 1428) (by decide +kernel)⟩
theorem lw_p56 : lw_okq (⟨"FourInksModel", "readSheet", "()Z"⟩, 59) := ⟨⟨by decide +kernel, by decide +kernel⟩, List.mem_of_getElem? (i := 1191) (by decide +kernel), List.mem_of_getElem? (i := 1431) (by decide +kernel), List.mem_of_getElem? (i := 1432) (by decide +kernel)⟩
theorem lw_p57 : lw_okq (⟨"FourInksModel", "isAgain", "(I)Z"⟩, 59) := ⟨⟨by decide +kernel, by decide +kernel⟩, List.mem_of_getElem? (i := 1191) (by decide +kernel), List.mem_of_getElem? (i := 1435) (by decide +kernel), List.mem_of_getElem? (i := 1436) (by decide +kernel)⟩
theorem lw_p58 : lw_okq (⟨"FourInksModel", "fails", "(I)Z"⟩, 59) := ⟨⟨by decide +kernel, by decide +kernel⟩, List.mem_of_getElem? (i := 1191) (by decide +kernel), List.mem_of_getElem? (i := 1439) (by decide +kernel), List.mem_of_getElem? (i := 1440) (by decide +kernel)⟩
theorem lw_p59 : lw_okq (⟨"FourInksModel", "readNumber", "(II)Z"⟩, 59) := ⟨⟨by decide +kernel, by decide +kernel⟩, List.mem_of_getElem? (i := 1191) (by decide +kernel), List.mem_of_getElem? (i := 1443) (by decide +kernel), List.mem_of_getElem? (i := 1444) (by decide +kernel)⟩
theorem lw_p60 : lw_okq (⟨"FourInksModel", "readMark", "()Z"⟩, 59) := ⟨⟨by decide +kernel, by decide +kernel⟩, List.mem_of_getElem? (i := 1191) (by decide +kernel), List.mem_of_getElem? (i := 1450) (by decide +kernel), List.mem_of_getElem? (i := 1451) (by decide +kernel)⟩
theorem lw_p61 : lw_okq (⟨"FourInksModel", "readOne", "(III)Z"⟩, 59) := ⟨⟨by decide +kernel, by decide +kernel⟩, List.mem_of_getElem? (i := 1191) (by decide +kernel), List.mem_of_getElem? (i := 1454) (by decide +kernel), List.mem_of_getElem? (i := 1455) (by decide +kernel)⟩
theorem lw_p62 : lw_okq (⟨"FourInksModel", "readScrew", "()Z"⟩, 59) := ⟨⟨by decide +kernel, by decide +kernel⟩, List.mem_of_getElem? (i := 1191) (by decide +kernel), List.mem_of_getElem? (i := 1458) (by decide +kernel), List.mem_of_getElem? (i := 1459) (by decide +kernel)⟩
theorem lw_p63 : lw_okq (⟨"FourInksModel", "isInk", "()Z"⟩, 59) := ⟨⟨by decide +kernel, by decide +kernel⟩, List.mem_of_getElem? (i := 1191) (by decide +kernel), List.mem_of_getElem? (i := 1462) (by decide +kernel), List.mem_of_getElem? (i := 1463) (by decide +kernel)⟩
def lw_privs_4 : List (MethodName × Nat) := [(⟨"FourInks", "sumOf", "(IIII)I"⟩, 15), (⟨"FourInksModel", "begin", "()V"⟩, 59), (⟨"FourInksModel", "settle", "()V"⟩, 59), (⟨"FourInksModel", "start", "()V"⟩, 59), (⟨"FourInksModel", "scan", "()V"⟩, 59), (⟨"FourInksModel", "byteAt", "(I)I"⟩, 59), (⟨"FourInksModel", "keyAt", "(II)I"⟩, 59), (⟨"FourInksModel", "readClause", "()Z"⟩, 59), (⟨"FourInksModel", "readSheet", "()Z"⟩, 59), (⟨"FourInksModel", "isAgain", "(I)Z"⟩, 59), (⟨"FourInksModel", "fails", "(I)Z"⟩, 59), (⟨"FourInksModel", "readNumber", "(II)Z"⟩, 59), (⟨"FourInksModel", "readMark", "()Z"⟩, 59), (⟨"FourInksModel", "readOne", "(III)Z"⟩, 59), (⟨"FourInksModel", "readScrew", "()Z"⟩, 59), (⟨"FourInksModel", "isInk", "()Z"⟩, 59)]
theorem lw_r4 : ∀ q ∈ lw_privs_4, lw_okq q := List.forall_mem_cons.mpr ⟨lw_p48, List.forall_mem_cons.mpr ⟨lw_p49, List.forall_mem_cons.mpr ⟨lw_p50, List.forall_mem_cons.mpr ⟨lw_p51, List.forall_mem_cons.mpr ⟨lw_p52, List.forall_mem_cons.mpr ⟨lw_p53, List.forall_mem_cons.mpr ⟨lw_p54, List.forall_mem_cons.mpr ⟨lw_p55, List.forall_mem_cons.mpr ⟨lw_p56, List.forall_mem_cons.mpr ⟨lw_p57, List.forall_mem_cons.mpr ⟨lw_p58, List.forall_mem_cons.mpr ⟨lw_p59, List.forall_mem_cons.mpr ⟨lw_p60, List.forall_mem_cons.mpr ⟨lw_p61, List.forall_mem_cons.mpr ⟨lw_p62, List.forall_mem_cons.mpr ⟨lw_p63, fun _ h => absurd h List.not_mem_nil⟩⟩⟩⟩⟩⟩⟩⟩⟩⟩⟩⟩⟩⟩⟩⟩
theorem lw_p64 : lw_okq (⟨"FourInksModel", "readSigned", "(I)Z"⟩, 59) := ⟨⟨by decide +kernel, by decide +kernel⟩, List.mem_of_getElem? (i := 1191) (by decide +kernel), List.mem_of_getElem? (i := 1466) (by decide +kernel), List.mem_of_getElem? (i := 1467) (by decide +kernel)⟩
theorem lw_p65 : lw_okq (⟨"FourInksModel", "readBox", "()Z"⟩, 59) := ⟨⟨by decide +kernel, by decide +kernel⟩, List.mem_of_getElem? (i := 1191) (by decide +kernel), List.mem_of_getElem? (i := 1470) (by decide +kernel), List.mem_of_getElem? (i := 1471) (by decide +kernel)⟩
theorem lw_p66 : lw_okq (⟨"FourInksModel", "readScreen", "()Z"⟩, 59) := ⟨⟨by decide +kernel, by decide +kernel⟩, List.mem_of_getElem? (i := 1191) (by decide +kernel), List.mem_of_getElem? (i := 1475) (by decide +kernel), List.mem_of_getElem? (i := 1476) (by decide +kernel)⟩
theorem lw_p67 : lw_okq (⟨"FourInksModel", "readLies", "()Z"⟩, 59) := ⟨⟨by decide +kernel, by decide +kernel⟩, List.mem_of_getElem? (i := 1191) (by decide +kernel), List.mem_of_getElem? (i := 1479) (by decide +kernel), List.mem_of_getElem? (i := 1480) (by decide +kernel)⟩
theorem lw_p68 : lw_okq (⟨"FourInksModel", "makeFits", "(II)V"⟩, 59) := ⟨⟨by decide +kernel, by decide +kernel⟩, List.mem_of_getElem? (i := 1191) (by decide +kernel), List.mem_of_getElem? (i := 1519) (by decide +kernel), List.mem_of_getElem? (i := 1520) (by decide +kernel)⟩
theorem lw_p69 : lw_okq (⟨"FourInksModel", "ask", "(II)V"⟩, 59) := ⟨⟨by decide +kernel, by decide +kernel⟩, List.mem_of_getElem? (i := 1191) (by decide +kernel), List.mem_of_getElem? (i := 1523) (by decide +kernel), List.mem_of_getElem? (i := 1524) (by decide +kernel)⟩
theorem lw_p70 : lw_okq (⟨"FourInksModel", "isFit", "(IIII)Z"⟩, 59) := ⟨⟨by decide +kernel, by decide +kernel⟩, List.mem_of_getElem? (i := 1191) (by decide +kernel), List.mem_of_getElem? (i := 1527) (by decide +kernel), List.mem_of_getElem? (i := 1528) (by decide +kernel)⟩
theorem lw_p71 : lw_okq (⟨"FourInksModel", "note", "(II)V"⟩, 59) := ⟨⟨by decide +kernel, by decide +kernel⟩, List.mem_of_getElem? (i := 1191) (by decide +kernel), List.mem_of_getElem? (i := 1534) (by decide +kernel), List.mem_of_getElem? (i := 1535) (by decide +kernel)⟩
theorem lw_p72 : lw_okq (⟨"FourInksModel", "badOf", "(IIII)I"⟩, 59) := ⟨⟨by decide +kernel, by decide +kernel⟩, List.mem_of_getElem? (i := 1191) (by decide +kernel), List.mem_of_getElem? (i := 1546) (by decide +kernel), List.mem_of_getElem? (i := 1547) (by decide +kernel)⟩
theorem lw_p73 : lw_okq (⟨"FourInksModel", "spreadTo", "(III)V"⟩, 59) := ⟨⟨by decide +kernel, by decide +kernel⟩, List.mem_of_getElem? (i := 1191) (by decide +kernel), List.mem_of_getElem? (i := 1562) (by decide +kernel), List.mem_of_getElem? (i := 1563) (by decide +kernel)⟩
theorem lw_p74 : lw_okq (⟨"FourInksModel", "look", "(IIIIII)I"⟩, 59) := ⟨⟨by decide +kernel, by decide +kernel⟩, List.mem_of_getElem? (i := 1191) (by decide +kernel), List.mem_of_getElem? (i := 1574) (by decide +kernel), List.mem_of_getElem? (i := 1575) (by decide +kernel)⟩
theorem lw_p75 : lw_okq (⟨"FourInksModel", "carry", "(III)V"⟩, 59) := ⟨⟨by decide +kernel, by decide +kernel⟩, List.mem_of_getElem? (i := 1191) (by decide +kernel), List.mem_of_getElem? (i := 1578) (by decide +kernel), List.mem_of_getElem? (i := 1579) (by decide +kernel)⟩
theorem lw_p76 : lw_okq (⟨"FourInksModel", "worstOf", "(IIIII)I"⟩, 59) := ⟨⟨by decide +kernel, by decide +kernel⟩, List.mem_of_getElem? (i := 1191) (by decide +kernel), List.mem_of_getElem? (i := 1592) (by decide +kernel), List.mem_of_getElem? (i := 1593) (by decide +kernel)⟩
theorem lw_p77 : lw_okq (⟨"FourInksModel", "heldRow", "(III)I"⟩, 59) := ⟨⟨by decide +kernel, by decide +kernel⟩, List.mem_of_getElem? (i := 1191) (by decide +kernel), List.mem_of_getElem? (i := 1612) (by decide +kernel), List.mem_of_getElem? (i := 1613) (by decide +kernel)⟩
theorem lw_p78 : lw_okq (⟨"FourInksModel", "isLevel", "(IIII)Z"⟩, 59) := ⟨⟨by decide +kernel, by decide +kernel⟩, List.mem_of_getElem? (i := 1191) (by decide +kernel), List.mem_of_getElem? (i := 1620) (by decide +kernel), List.mem_of_getElem? (i := 1621) (by decide +kernel)⟩
theorem lw_p79 : lw_okq (⟨"FourInksModel", "makeMeans", "(IIIII)J"⟩, 59) := ⟨⟨by decide +kernel, by decide +kernel⟩, List.mem_of_getElem? (i := 1191) (by decide +kernel), List.mem_of_getElem? (i := 1632) (by decide +kernel), List.mem_of_getElem? (i := 1633) (by decide +kernel)⟩
def lw_privs_5 : List (MethodName × Nat) := [(⟨"FourInksModel", "readSigned", "(I)Z"⟩, 59), (⟨"FourInksModel", "readBox", "()Z"⟩, 59), (⟨"FourInksModel", "readScreen", "()Z"⟩, 59), (⟨"FourInksModel", "readLies", "()Z"⟩, 59), (⟨"FourInksModel", "makeFits", "(II)V"⟩, 59), (⟨"FourInksModel", "ask", "(II)V"⟩, 59), (⟨"FourInksModel", "isFit", "(IIII)Z"⟩, 59), (⟨"FourInksModel", "note", "(II)V"⟩, 59), (⟨"FourInksModel", "badOf", "(IIII)I"⟩, 59), (⟨"FourInksModel", "spreadTo", "(III)V"⟩, 59), (⟨"FourInksModel", "look", "(IIIIII)I"⟩, 59), (⟨"FourInksModel", "carry", "(III)V"⟩, 59), (⟨"FourInksModel", "worstOf", "(IIIII)I"⟩, 59), (⟨"FourInksModel", "heldRow", "(III)I"⟩, 59), (⟨"FourInksModel", "isLevel", "(IIII)Z"⟩, 59), (⟨"FourInksModel", "makeMeans", "(IIIII)J"⟩, 59)]
theorem lw_r5 : ∀ q ∈ lw_privs_5, lw_okq q := List.forall_mem_cons.mpr ⟨lw_p64, List.forall_mem_cons.mpr ⟨lw_p65, List.forall_mem_cons.mpr ⟨lw_p66, List.forall_mem_cons.mpr ⟨lw_p67, List.forall_mem_cons.mpr ⟨lw_p68, List.forall_mem_cons.mpr ⟨lw_p69, List.forall_mem_cons.mpr ⟨lw_p70, List.forall_mem_cons.mpr ⟨lw_p71, List.forall_mem_cons.mpr ⟨lw_p72, List.forall_mem_cons.mpr ⟨lw_p73, List.forall_mem_cons.mpr ⟨lw_p74, List.forall_mem_cons.mpr ⟨lw_p75, List.forall_mem_cons.mpr ⟨lw_p76, List.forall_mem_cons.mpr ⟨lw_p77, List.forall_mem_cons.mpr ⟨lw_p78, List.forall_mem_cons.mpr ⟨lw_p79, fun _ h => absurd h List.not_mem_nil⟩⟩⟩⟩⟩⟩⟩⟩⟩⟩⟩⟩⟩⟩⟩⟩
theorem lw_p80 : lw_okq (⟨"FourInksModel", "goOn", "(IJIII)J"⟩, 59) := ⟨⟨by decide +kernel, by decide +kernel⟩, List.mem_of_getElem? (i := 1191) (by decide +kernel), List.mem_of_getElem? (i := 1637) (by decide +kernel), List.mem_of_getElem? (i := 1638) (by decide +kernel)⟩
theorem lw_p81 : lw_okq (⟨"FourInksModel", "beatOf", "(II)I"⟩, 59) := ⟨⟨by decide +kernel, by decide +kernel⟩, List.mem_of_getElem? (i := 1191) (by decide +kernel), List.mem_of_getElem? (i := 1658) (by decide +kernel), List.mem_of_getElem? (i := 1659) (by decide +kernel)⟩
theorem lw_p82 : lw_okq (⟨"FourInksModel", "sumOf", "(I)I"⟩, 59) := ⟨⟨by decide +kernel, by decide +kernel⟩, List.mem_of_getElem? (i := 1191) (by decide +kernel), List.mem_of_getElem? (i := 1673) (by decide +kernel), List.mem_of_getElem? (i := 1674) (by decide +kernel)⟩
def lw_privs_6 : List (MethodName × Nat) := [(⟨"FourInksModel", "goOn", "(IJIII)J"⟩, 59), (⟨"FourInksModel", "beatOf", "(II)I"⟩, 59), (⟨"FourInksModel", "sumOf", "(I)I"⟩, 59)]
theorem lw_r6 : ∀ q ∈ lw_privs_6, lw_okq q := List.forall_mem_cons.mpr ⟨lw_p80, List.forall_mem_cons.mpr ⟨lw_p81, List.forall_mem_cons.mpr ⟨lw_p82, fun _ h => absurd h List.not_mem_nil⟩⟩⟩
def lw_privs : List (MethodName × Nat) := lw_privs_1 ++ (lw_privs_2 ++ (lw_privs_3 ++ (lw_privs_4 ++ (lw_privs_5 ++ (lw_privs_6)))))
def lw_tbl : List Cond := k2_sels lw_privs ++ tables_1
theorem lw_privs_ok : ∀ q ∈ lw_privs, lw_okq q := by
  show ∀ q ∈ lw_privs_1 ++ (lw_privs_2 ++ (lw_privs_3 ++ (lw_privs_4 ++ (lw_privs_5 ++ (lw_privs_6))))), lw_okq q
  exact List.forall_mem_append.mpr ⟨lw_r1, List.forall_mem_append.mpr ⟨lw_r2, List.forall_mem_append.mpr ⟨lw_r3, List.forall_mem_append.mpr ⟨lw_r4, List.forall_mem_append.mpr ⟨lw_r5, lw_r6⟩⟩⟩⟩⟩
end
section
def RX0 : String := "FourInks$Board"
def TX0 : u_T := fun k => match k with
  | _ => ("FourInks$Board", "words", "[J", true)
def tyX0 : Nat → FieldType := fun k => match k with
  | _ => .array .long
abbrev wsX00 : List Cond := u_ws RX0 TX0 1
theorem nmX0 : ∀ a, a < 1 → ∀ b, b < 1 → a ≠ b → (TX0 a).2.1 ≠ (TX0 b).2.1 := by decide +kernel
theorem tyX0_ok : ∀ k, k < 1 → parseFieldDescriptor (TX0 k).2.2.1 = some (tyX0 k) := by decide +kernel
def RX1 : String := "FourInks$Fit"
def TX1 : u_T := fun k => match k with
  | 0 => ("FourInks$Fit", "size", "I", false)
  | 1 => ("FourInks$Fit", "x", "[I", true)
  | 2 => ("FourInks$Fit", "y", "[I", true)
  | 3 => ("FourInks$Fit", "across", "[I", true)
  | 4 => ("FourInks$Fit", "up", "[I", true)
  | 5 => ("FourInks$Fit", "leastA", "I", false)
  | 6 => ("FourInks$Fit", "greatestA", "I", false)
  | 7 => ("FourInks$Fit", "leastB", "I", false)
  | 8 => ("FourInks$Fit", "greatestB", "I", false)
  | 9 => ("FourInks$Fit", "slips", "I", false)
  | 10 => ("FourInks$Fit", "least", "[I", true)
  | _ => ("FourInks$Fit", "greatest", "[I", true)
def tyX1 : Nat → FieldType := fun k => match k with
  | 0 => .int
  | 1 => .array .int
  | 2 => .array .int
  | 3 => .array .int
  | 4 => .array .int
  | 5 => .int
  | 6 => .int
  | 7 => .int
  | 8 => .int
  | 9 => .int
  | 10 => .array .int
  | _ => .array .int
abbrev wsX10 : List Cond := u_ws RX1 TX1 12
theorem nmX1 : ∀ a, a < 12 → ∀ b, b < 12 → a ≠ b → (TX1 a).2.1 ≠ (TX1 b).2.1 := by decide +kernel
theorem tyX1_ok : ∀ k, k < 12 → parseFieldDescriptor (TX1 k).2.2.1 = some (tyX1 k) := by decide +kernel
def RX2 : String := "FourInks$Halts"
def TX2 : u_T := fun k => match k with
  | 0 => ("FourInks$Halts", "behind", "[J", true)
  | 1 => ("FourInks$Halts", "least", "[J", true)
  | 2 => ("FourInks$Halts", "going", "J", false)
  | _ => ("FourInks$Halts", "halting", "J", false)
def tyX2 : Nat → FieldType := fun k => match k with
  | 0 => .array .long
  | 1 => .array .long
  | 2 => .long
  | _ => .long
abbrev wsX20 : List Cond := u_ws RX2 TX2 4
theorem nmX2 : ∀ a, a < 4 → ∀ b, b < 4 → a ≠ b → (TX2 a).2.1 ≠ (TX2 b).2.1 := by decide +kernel
theorem tyX2_ok : ∀ k, k < 4 → parseFieldDescriptor (TX2 k).2.2.1 = some (tyX2 k) := by decide +kernel
def RX3 : String := "FourInks$Job"
def TX3 : u_T := fun k => match k with
  | 0 => ("FourInks$Job", "clauses", "I", false)
  | 1 => ("FourInks$Job", "width", "I", false)
  | 2 => ("FourInks$Job", "height", "I", false)
  | 3 => ("FourInks$Job", "marks", "I", false)
  | 4 => ("FourInks$Job", "markX", "[I", true)
  | 5 => ("FourInks$Job", "markY", "[I", true)
  | 6 => ("FourInks$Job", "slack", "I", false)
  | 7 => ("FourInks$Job", "screws", "[I", true)
  | 8 => ("FourInks$Job", "screwNumbers", "[I", true)
  | 9 => ("FourInks$Job", "turns", "I", false)
  | 10 => ("FourInks$Job", "boxes", "I", false)
  | 11 => ("FourInks$Job", "shapes", "[LFourInks$Board;", true)
  | 12 => ("FourInks$Job", "white", "I", false)
  | 13 => ("FourInks$Job", "ove\x72", "I", false)
  | 14 => ("FourInks$Job", "screens", "LFourInks$Screens;", true)
  | _ => ("FourInks$Job", "lies", "[I", true)
def tyX3 : Nat → FieldType := fun k => match k with
  | 0 => .int
  | 1 => .int
  | 2 => .int
  | 3 => .int
  | 4 => .array .int
  | 5 => .array .int
  | 6 => .int
  | 7 => .array .int
  | 8 => .array .int
  | 9 => .int
  | 10 => .int
  | 11 => .array (.object "FourInks$Board")
  | 12 => .int
  | 13 => .int
  | 14 => .object "FourInks$Screens"
  | _ => .array .int
abbrev wsX30 : List Cond := u_ws RX3 TX3 16
theorem nmX3 : ∀ a, a < 16 → ∀ b, b < 16 → a ≠ b → (TX3 a).2.1 ≠ (TX3 b).2.1 := by decide +kernel
theorem tyX3_ok : ∀ k, k < 16 → parseFieldDescriptor (TX3 k).2.2.1 = some (tyX3 k) := by decide +kernel
def RX4 : String := "FourInks$JobText"
def TX4 : u_T := fun k => match k with
  | 0 => ("FourInks$JobText", "tape", "LFourInks$Tape;", true)
  | 1 => ("FourInks$JobText", "clausesTold", "I", false)
  | 2 => ("FourInks$JobText", "pairsTold", "I", false)
  | 3 => ("FourInks$JobText", "draft", "LFourInks$Job;", false)
  | 4 => ("FourInks$JobText", "fault", "I", false)
  | _ => ("FourInks$JobText", "place", "I", false)
def tyX4 : Nat → FieldType := fun k => match k with
  | 0 => .object "FourInks$Tape"
  | 1 => .int
  | 2 => .int
  | 3 => .object "FourInks$Job"
  | 4 => .int
  | _ => .int
abbrev wsX40 : List Cond := u_ws RX4 TX4 6
theorem nmX4 : ∀ a, a < 6 → ∀ b, b < 6 → a ≠ b → (TX4 a).2.1 ≠ (TX4 b).2.1 := by decide +kernel
theorem tyX4_ok : ∀ k, k < 6 → parseFieldDescriptor (TX4 k).2.2.1 = some (tyX4 k) := by decide +kernel
def RX5 : String := "FourInks$Meeting"
def TX5 : u_T := fun k => match k with
  | 0 => ("FourInks$Meeting", "whitePrice", "I", false)
  | 1 => ("FourInks$Meeting", "overPrice", "I", false)
  | 2 => ("FourInks$Meeting", "wanted", "[J", true)
  | 3 => ("FourInks$Meeting", "common", "[J", true)
  | 4 => ("FourInks$Meeting", "first", "LFourInks$Board;", true)
  | 5 => ("FourInks$Meeting", "second", "LFourInks$Board;", true)
  | 6 => ("FourInks$Meeting", "slipped", "LFourInks$Board;", true)
  | 7 => ("FourInks$Meeting", "whiteCells", "I", false)
  | 8 => ("FourInks$Meeting", "overCells", "I", false)
  | 9 => ("FourInks$Meeting", "isFound", "Z", false)
  | 10 => ("FourInks$Meeting", "bestOne", "I", false)
  | _ => ("FourInks$Meeting", "bestTwo", "I", false)
def tyX5 : Nat → FieldType := fun k => match k with
  | 0 => .int
  | 1 => .int
  | 2 => .array .long
  | 3 => .array .long
  | 4 => .object "FourInks$Board"
  | 5 => .object "FourInks$Board"
  | 6 => .object "FourInks$Board"
  | 7 => .int
  | 8 => .int
  | 9 => .boolean
  | 10 => .int
  | _ => .int
abbrev wsX50 : List Cond := u_ws RX5 TX5 12
theorem nmX5 : ∀ a, a < 12 → ∀ b, b < 12 → a ≠ b → (TX5 a).2.1 ≠ (TX5 b).2.1 := by decide +kernel
theorem tyX5_ok : ∀ k, k < 12 → parseFieldDescriptor (TX5 k).2.2.1 = some (tyX5 k) := by decide +kernel
def RX6 : String := "FourInks$Mending"
def TX6 : u_T := fun k => match k with
  | 0 => ("FourInks$Mending", "a", "I", false)
  | 1 => ("FourInks$Mending", "b", "I", false)
  | 2 => ("FourInks$Mending", "\x72", "I", false)
  | 3 => ("FourInks$Mending", "s", "I", false)
  | 4 => ("FourInks$Mending", "row", "[I", true)
  | 5 => ("FourInks$Mending", "screws", "I", false)
  | _ => ("FourInks$Mending", "bestRow", "[I", true)
def tyX6 : Nat → FieldType := fun k => match k with
  | 0 => .int
  | 1 => .int
  | 2 => .int
  | 3 => .int
  | 4 => .array .int
  | 5 => .int
  | _ => .array .int
abbrev wsX60 : List Cond := u_ws RX6 TX6 7
theorem nmX6 : ∀ a, a < 7 → ∀ b, b < 7 → a ≠ b → (TX6 a).2.1 ≠ (TX6 b).2.1 := by decide +kernel
theorem tyX6_ok : ∀ k, k < 7 → parseFieldDescriptor (TX6 k).2.2.1 = some (tyX6 k) := by decide +kernel
def RX7 : String := "FourInks$Readings"
def TX7 : u_T := fun k => match k with
  | 0 => ("FourInks$Readings", "size", "I", false)
  | 1 => ("FourInks$Readings", "rights", "I", false)
  | 2 => ("FourInks$Readings", "latest", "I", false)
  | 3 => ("FourInks$Readings", "step", "[I", true)
  | 4 => ("FourInks$Readings", "ink", "[I", true)
  | 5 => ("FourInks$Readings", "mark", "[I", true)
  | 6 => ("FourInks$Readings", "across", "[I", true)
  | 7 => ("FourInks$Readings", "up", "[I", true)
  | 8 => ("FourInks$Readings", "rightOf", "[I", true)
  | 9 => ("FourInks$Readings", "rightStep", "[I", true)
  | 10 => ("FourInks$Readings", "rightAcross", "[I", true)
  | _ => ("FourInks$Readings", "rightUp", "[I", true)
def tyX7 : Nat → FieldType := fun k => match k with
  | 0 => .int
  | 1 => .int
  | 2 => .int
  | 3 => .array .int
  | 4 => .array .int
  | 5 => .array .int
  | 6 => .array .int
  | 7 => .array .int
  | 8 => .array .int
  | 9 => .array .int
  | 10 => .array .int
  | _ => .array .int
abbrev wsX70 : List Cond := u_ws RX7 TX7 12
theorem nmX7 : ∀ a, a < 12 → ∀ b, b < 12 → a ≠ b → (TX7 a).2.1 ≠ (TX7 b).2.1 := by decide +kernel
theorem tyX7_ok : ∀ k, k < 12 → parseFieldDescriptor (TX7 k).2.2.1 = some (tyX7 k) := by decide +kernel
def RX8 : String := "FourInks$Screens"
def TX8 : u_T := fun k => match k with
  | 0 => ("FourInks$Screens", "size", "I", false)
  | 1 => ("FourInks$Screens", "p", "[I", true)
  | 2 => ("FourInks$Screens", "q", "[I", true)
  | _ => ("FourInks$Screens", "setting", "[I", true)
def tyX8 : Nat → FieldType := fun k => match k with
  | 0 => .int
  | 1 => .array .int
  | 2 => .array .int
  | _ => .array .int
abbrev wsX80 : List Cond := u_ws RX8 TX8 4
theorem nmX8 : ∀ a, a < 4 → ∀ b, b < 4 → a ≠ b → (TX8 a).2.1 ≠ (TX8 b).2.1 := by decide +kernel
theorem tyX8_ok : ∀ k, k < 4 → parseFieldDescriptor (TX8 k).2.2.1 = some (tyX8 k) := by decide +kernel
def RX9 : String := "FourInks$Tape"
def TX9 : u_T := fun k => match k with
  | 0 => ("FourInks$Tape", "bytes", "[B", true)
  | 1 => ("FourInks$Tape", "at", "I", false)
  | 2 => ("FourInks$Tape", "length", "I", false)
  | 3 => ("FourInks$Tape", "kind", "I", false)
  | 4 => ("FourInks$Tape", "start", "I", false)
  | _ => ("FourInks$Tape", "value", "I", false)
def tyX9 : Nat → FieldType := fun k => match k with
  | 0 => .array .byte
  | 1 => .int
  | 2 => .int
  | 3 => .int
  | 4 => .int
  | _ => .int
abbrev wsX90 : List Cond := u_ws RX9 TX9 6
theorem nmX9 : ∀ a, a < 6 → ∀ b, b < 6 → a ≠ b → (TX9 a).2.1 ≠ (TX9 b).2.1 := by decide +kernel
theorem tyX9_ok : ∀ k, k < 6 → parseFieldDescriptor (TX9 k).2.2.1 = some (tyX9 k) := by decide +kernel
def RX10 : String := "FourInks$Tissue"
def TX10 : u_T := fun k => match k with
  | 0 => ("FourInks$Tissue", "greys", "[I", true)
  | 1 => ("FourInks$Tissue", "fewest", "[I", true)
  | 2 => ("FourInks$Tissue", "most", "[I", true)
  | 3 => ("FourInks$Tissue", "weights", "[[I", true)
  | 4 => ("FourInks$Tissue", "zones", "I", false)
  | 5 => ("FourInks$Tissue", "layers", "[I", true)
  | _ => ("FourInks$Tissue", "layersInAll", "I", false)
def tyX10 : Nat → FieldType := fun k => match k with
  | 0 => .array .int
  | 1 => .array .int
  | 2 => .array .int
  | 3 => .array (.array .int)
  | 4 => .int
  | 5 => .array .int
  | _ => .int
abbrev wsX100 : List Cond := u_ws RX10 TX10 7
theorem nmX10 : ∀ a, a < 7 → ∀ b, b < 7 → a ≠ b → (TX10 a).2.1 ≠ (TX10 b).2.1 := by decide +kernel
theorem tyX10_ok : ∀ k, k < 7 → parseFieldDescriptor (TX10 k).2.2.1 = some (tyX10 k) := by decide +kernel
def RX11 : String := "FourInks"
def TX11 : u_T := fun k => match k with
  | 0 => ("FourInks", "text", "LFourInks$JobText;", true)
  | 1 => ("FourInks", "tape", "LFourInks$Tape;", true)
  | 2 => ("FourInks", "job", "LFourInks$Job;", false)
  | 3 => ("FourInks", "readings", "LFourInks$Readings;", true)
  | 4 => ("FourInks", "fit", "LFourInks$Fit;", true)
  | 5 => ("FourInks", "mending", "LFourInks$Mending;", true)
  | 6 => ("FourInks", "meeting", "LFourInks$Meeting;", true)
  | 7 => ("FourInks", "proof", "[LFourInks$Board;", true)
  | 8 => ("FourInks", "signed", "Z", false)
  | 9 => ("FourInks", "moved", "LFourInks$Board;", true)
  | 10 => ("FourInks", "marked", "LFourInks$Board;", true)
  | 11 => ("FourInks", "run", "[I", true)
  | 12 => ("FourInks", "halts", "LFourInks$Halts;", true)
  | 13 => ("FourInks", "bed", "LFourInks$Tissue;", true)
  | _ => ("FourInks", "bestOrde\x72", "[I", true)
def tyX11 : Nat → FieldType := fun k => match k with
  | 0 => .object "FourInks$JobText"
  | 1 => .object "FourInks$Tape"
  | 2 => .object "FourInks$Job"
  | 3 => .object "FourInks$Readings"
  | 4 => .object "FourInks$Fit"
  | 5 => .object "FourInks$Mending"
  | 6 => .object "FourInks$Meeting"
  | 7 => .array (.object "FourInks$Board")
  | 8 => .boolean
  | 9 => .object "FourInks$Board"
  | 10 => .object "FourInks$Board"
  | 11 => .array .int
  | 12 => .object "FourInks$Halts"
  | 13 => .object "FourInks$Tissue"
  | _ => .array .int
abbrev wsX110 : List Cond := u_ws RX11 TX11 15
theorem nmX11 : ∀ a, a < 15 → ∀ b, b < 15 → a ≠ b → (TX11 a).2.1 ≠ (TX11 b).2.1 := by decide +kernel
theorem tyX11_ok : ∀ k, k < 15 → parseFieldDescriptor (TX11 k).2.2.1 = some (tyX11 k) := by decide +kernel
def RX12 : String := "FourInksModel"
def TX12 : u_T := fun k => match k with
  | 0 => ("FourInksModel", "tape", "[B", true)
  | 1 => ("FourInksModel", "taped", "I", false)
  | 2 => ("FourInksModel", "size", "I", false)
  | 3 => ("FourInksModel", "sort", "I", false)
  | 4 => ("FourInksModel", "key", "I", false)
  | 5 => ("FourInksModel", "at", "I", false)
  | 6 => ("FourInksModel", "end", "I", false)
  | 7 => ("FourInksModel", "numbe\x72", "I", false)
  | 8 => ("FourInksModel", "faultKind", "I", false)
  | 9 => ("FourInksModel", "faultPlace", "I", false)
  | 10 => ("FourInksModel", "got", "I", false)
  | 11 => ("FourInksModel", "num", "[I", true)
  | 12 => ("FourInksModel", "markX", "[I", true)
  | 13 => ("FourInksModel", "markY", "[I", true)
  | 14 => ("FourInksModel", "screwMany", "[I", true)
  | 15 => ("FourInksModel", "screws", "[I", true)
  | 16 => ("FourInksModel", "shapes", "[I", true)
  | 17 => ("FourInksModel", "screenP", "[I", true)
  | 18 => ("FourInksModel", "screenQ", "[I", true)
  | 19 => ("FourInksModel", "lies", "[I", true)
  | 20 => ("FourInksModel", "clauses", "I", false)
  | 21 => ("FourInksModel", "met", "I", false)
  | 22 => ("FourInksModel", "paired", "I", false)
  | 23 => ("FourInksModel", "readMany", "I", false)
  | 24 => ("FourInksModel", "rightMany", "I", false)
  | 25 => ("FourInksModel", "lastTold", "I", false)
  | 26 => ("FourInksModel", "rdTold", "[I", true)
  | 27 => ("FourInksModel", "rdInk", "[I", true)
  | 28 => ("FourInksModel", "rdMark", "[I", true)
  | 29 => ("FourInksModel", "rdAcross", "[I", true)
  | 30 => ("FourInksModel", "rdUp", "[I", true)
  | 31 => ("FourInksModel", "rTold", "[I", true)
  | 32 => ("FourInksModel", "rOf", "[I", true)
  | 33 => ("FourInksModel", "rAcross", "[I", true)
  | 34 => ("FourInksModel", "rUp", "[I", true)
  | 35 => ("FourInksModel", "askedMany", "I", false)
  | 36 => ("FourInksModel", "askedX", "[I", true)
  | 37 => ("FourInksModel", "askedY", "[I", true)
  | 38 => ("FourInksModel", "askedAcross", "[I", true)
  | 39 => ("FourInksModel", "askedUp", "[I", true)
  | 40 => ("FourInksModel", "fitMany", "I", false)
  | 41 => ("FourInksModel", "fitLeast", "[I", true)
  | 42 => ("FourInksModel", "fitMost", "[I", true)
  | 43 => ("FourInksModel", "turnMany", "I", false)
  | 44 => ("FourInksModel", "turned", "[I", true)
  | 45 => ("FourInksModel", "work", "[I", true)
  | 46 => ("FourInksModel", "whiteCells", "I", false)
  | 47 => ("FourInksModel", "overCells", "I", false)
  | 48 => ("FourInksModel", "hasSpread", "Z", false)
  | 49 => ("FourInksModel", "spreadK", "I", false)
  | 50 => ("FourInksModel", "spreadL", "I", false)
  | 51 => ("FourInksModel", "hasProof", "Z", false)
  | 52 => ("FourInksModel", "proof", "[I", true)
  | 53 => ("FourInksModel", "row", "[I", true)
  | 54 => ("FourInksModel", "mean", "[J", true)
  | 55 => ("FourInksModel", "layerMany", "I", false)
  | 56 => ("FourInksModel", "laye\x72", "[I", true)
  | 57 => ("FourInksModel", "behind", "[I", true)
  | _ => ("FourInksModel", "chosen", "[I", true)
def tyX12 : Nat → FieldType := fun k => match k with
  | 0 => .array .byte
  | 1 => .int
  | 2 => .int
  | 3 => .int
  | 4 => .int
  | 5 => .int
  | 6 => .int
  | 7 => .int
  | 8 => .int
  | 9 => .int
  | 10 => .int
  | 11 => .array .int
  | 12 => .array .int
  | 13 => .array .int
  | 14 => .array .int
  | 15 => .array .int
  | 16 => .array .int
  | 17 => .array .int
  | 18 => .array .int
  | 19 => .array .int
  | 20 => .int
  | 21 => .int
  | 22 => .int
  | 23 => .int
  | 24 => .int
  | 25 => .int
  | 26 => .array .int
  | 27 => .array .int
  | 28 => .array .int
  | 29 => .array .int
  | 30 => .array .int
  | 31 => .array .int
  | 32 => .array .int
  | 33 => .array .int
  | 34 => .array .int
  | 35 => .int
  | 36 => .array .int
  | 37 => .array .int
  | 38 => .array .int
  | 39 => .array .int
  | 40 => .int
  | 41 => .array .int
  | 42 => .array .int
  | 43 => .int
  | 44 => .array .int
  | 45 => .array .int
  | 46 => .int
  | 47 => .int
  | 48 => .boolean
  | 49 => .int
  | 50 => .int
  | 51 => .boolean
  | 52 => .array .int
  | 53 => .array .int
  | 54 => .array .long
  | 55 => .int
  | 56 => .array .int
  | 57 => .array .int
  | _ => .array .int
abbrev wsX120 : List Cond := u_ws RX12 TX12 59
theorem nmX12 : ∀ a, a < 59 → ∀ b, b < 59 → a ≠ b → (TX12 a).2.1 ≠ (TX12 b).2.1 := by decide +kernel
theorem tyX12_ok : ∀ k, k < 59 → parseFieldDescriptor (TX12 k).2.2.1 = some (tyX12 k) := by decide +kernel
def RJ13 : String := "java/lang/Long"
def RJ9 : String := "java/lang/Math"
def RJ0 : String := "java/lang/String"
def RJ1 : String := "java/lang/StringLatin1"
def RJ10 : String := "java/lang/System"
def RJ7 : String := "java/util/Arrays"
def RJ3 : String := "jdk/internal/util/Preconditions"
def RLw : String := "FourInksLaw"
def clsL : List vw_C := [(RX0, TX0, 1), (RX1, TX1, 12), (RX2, TX2, 4), (RX3, TX3, 16), (RX4, TX4, 6), (RX5, TX5, 12), (RX6, TX6, 7), (RX7, TX7, 12), (RX8, TX8, 4), (RX9, TX9, 6), (RX10, TX10, 7), (RX11, TX11, 15), (RX12, TX12, 59)]
theorem goodIn_r {big : List Cond} (ws : List Cond) (ps : List Nat) (hp : ws = ps.filterMap (fun i => big[i]?)) (h : ws.all goodWord = true) : GoodIn big ws := by
  intro w hw
  have h1 := List.all_eq_true.mp h w hw
  rw [hp] at hw
  obtain ⟨i, -, hi⟩ := List.mem_filterMap.mp hw
  have hm : w ∈ big := by first | exact List.mem_of_getElem? hi | exact List.getElem?_mem hi
  exact ⟨hm, good_of_word h1⟩
def tgL : List (List Nat) := [[2], [0, 2, 2, 2, 2, 0, 0, 0, 0, 0, 2, 2], [2, 2, 1, 1], [0, 0, 0, 0, 2, 2, 0, 2, 2, 0, 0, 2, 0, 0, 2, 2], [2, 0, 0, 2, 0, 0], [0, 0, 2, 2, 2, 2, 2, 0, 0, 0, 0, 0], [0, 0, 0, 0, 2, 0, 2], [0, 0, 0, 2, 2, 2, 2, 2, 2, 2, 2, 2], [0, 2, 2, 2], [2, 0, 0, 0, 0, 0], [2, 2, 2, 2, 0, 2, 0], [2, 2, 2, 2, 2, 2, 2, 2, 0, 2, 2, 2, 2, 2, 2], [2, 0, 0, 0, 0, 0, 0, 0, 0, 0, 0, 2, 2, 2, 2, 2, 2, 2, 2, 2, 0, 0, 0, 0, 0, 0, 2, 2, 2, 2, 2, 2, 2, 2, 2, 0, 2, 2, 2, 2, 0, 2, 2, 0, 2, 2, 0, 0, 0, 0, 0, 0, 2, 2, 2, 0, 2, 2, 2]]
def SH : List (Nat × Nat) := [(11, 0), (4, 0), (9, 0), (102, 900), (3, 0), (100, 8), (100, 8), (100, 4), (100, 36), (103, 4), (0, 0), (101, 4), (0, 0), (101, 4), (0, 0), (101, 4), (0, 0), (101, 4), (8, 0), (100, 8), (100, 8), (100, 4), (100, 16), (3, 0), (100, 8), (100, 8), (100, 4), (100, 36), (103, 4), (0, 0), (101, 4), (0, 0), (101, 4), (0, 0), (101, 4), (0, 0), (101, 4), (8, 0), (100, 8), (100, 8), (100, 4), (100, 16), (7, 0), (100, 24), (100, 24), (100, 24), (100, 24), (100, 24), (100, 20), (100, 20), (100, 20), (100, 20), (1, 0), (100, 24), (100, 24), (100, 24), (100, 24), (100, 4), (100, 4), (6, 0), (100, 3), (100, 3), (5, 0), (101, 4), (101, 4), (0, 0), (101, 4), (0, 0), (101, 4), (0, 0), (101, 4), (103, 4), (0, 0), (101, 4), (0, 0), (101, 4), (0, 0), (101, 4), (0, 0), (101, 4), (0, 0), (101, 4), (0, 0), (101, 4), (100, 24), (2, 0), (101, 7), (101, 7), (10, 0), (100, 20), (100, 20), (100, 20), (104, 21), (100, 10), (100, 10), (100, 10), (100, 10), (100, 10), (100, 10), (100, 10), (100, 10), (100, 10), (100, 10), (100, 10), (100, 10), (100, 10), (100, 10), (100, 10), (100, 10), (100, 10), (100, 10), (100, 10), (100, 10), (100, 10), (100, 20), (100, 4), (12, 0), (102, 900), (100, 18), (100, 16), (100, 16), (100, 8), (100, 72), (100, 128), (100, 16), (100, 16), (100, 32), (100, 24), (100, 24), (100, 24), (100, 24), (100, 24), (100, 20), (100, 20), (100, 20), (100, 20), (100, 24), (100, 24), (100, 24), (100, 24), (100, 4), (100, 4), (100, 3), (100, 64), (100, 64), (100, 24), (101, 14), (100, 20), (100, 210), (100, 4)]
def TBG : List Cond := lw_tbl.filter goodWord
theorem tbg {w : Cond} (i : Nat) (h : lw_tbl[i]? = some w) (hg : goodWord w = true) : w ∈ TBG := List.mem_filter.mpr ⟨List.mem_of_getElem? h, hg⟩
theorem tbg_good {w : Cond} (h : w ∈ TBG) : goodWord w = true := (List.mem_filter.mp h).2
theorem tbg_tbl {w : Cond} (h : w ∈ TBG) : w ∈ lw_tbl := (List.mem_filter.mp h).1
theorem tbg_all {ws : List Cond} (ps : List Nat) (hp : ws = ps.filterMap (fun i => lw_tbl[i]?)) (h : ws.all goodWord = true) : ∀ w ∈ ws, w ∈ TBG := fun w hw => List.mem_filter.mpr ⟨(goodIn_r ws ps hp h w hw).1, List.all_eq_true.mp h w hw⟩
theorem inT0 : ∀ w ∈ u_ws RX0 TX0 1, w ∈ TBG := tbg_all [167] (by decide +kernel) (by decide +kernel)
theorem inT1 : ∀ w ∈ u_ws RX1 TX1 12, w ∈ TBG := tbg_all [383, 385, 387, 389, 391, 393, 395, 397, 399, 401, 403, 405] (by decide +kernel) (by decide +kernel)
theorem inT2 : ∀ w ∈ u_ws RX2 TX2 4, w ∈ TBG := tbg_all [503, 505, 507, 509] (by decide +kernel) (by decide +kernel)
theorem inT3 : ∀ w ∈ u_ws RX3 TX3 16, w ∈ TBG := tbg_all [258, 260, 262, 264, 266, 268, 270, 272, 274, 276, 278, 280, 282, 284, 286, 288] (by decide +kernel) (by decide +kernel)
theorem inT4 : ∀ w ∈ u_ws RX4 TX4 6, w ∈ TBG := tbg_all [301, 303, 305, 307, 309, 311] (by decide +kernel) (by decide +kernel)
theorem inT5 : ∀ w ∈ u_ws RX5 TX5 12, w ∈ TBG := tbg_all [463, 465, 467, 469, 471, 473, 475, 477, 479, 481, 483, 485] (by decide +kernel) (by decide +kernel)
theorem inT6 : ∀ w ∈ u_ws RX6 TX6 7, w ∈ TBG := tbg_all [423, 425, 427, 429, 431, 433, 435] (by decide +kernel) (by decide +kernel)
theorem inT7 : ∀ w ∈ u_ws RX7 TX7 12, w ∈ TBG := tbg_all [337, 339, 341, 343, 345, 347, 349, 351, 353, 355, 357, 359] (by decide +kernel) (by decide +kernel)
theorem inT8 : ∀ w ∈ u_ws RX8 TX8 4, w ∈ TBG := tbg_all [186, 188, 190, 192] (by decide +kernel) (by decide +kernel)
theorem inT9 : ∀ w ∈ u_ws RX9 TX9 6, w ∈ TBG := tbg_all [135, 137, 139, 141, 143, 145] (by decide +kernel) (by decide +kernel)
theorem inT10 : ∀ w ∈ u_ws RX10 TX10 7, w ∈ TBG := tbg_all [531, 533, 535, 537, 539, 541, 543] (by decide +kernel) (by decide +kernel)
theorem inT11 : ∀ w ∈ u_ws RX11 TX11 15, w ∈ TBG := tbg_all [561, 563, 565, 567, 569, 571, 573, 575, 577, 579, 581, 583, 585, 587, 589] (by decide +kernel) (by decide +kernel)
theorem inT12 : ∀ w ∈ u_ws RX12 TX12 59, w ∈ TBG := tbg_all [1349, 1351, 1353, 1355, 1357, 1359, 1361, 1363, 1365, 1367, 1369, 1371, 1373, 1375, 1377, 1379, 1381, 1383, 1385, 1387, 1389, 1391, 1393, 1395, 1397, 1399, 1401, 1403, 1405, 1407, 1409, 1411, 1413, 1415, 1417, 1419, 1421, 1423, 1425, 1427, 1429, 1431, 1433, 1435, 1437, 1439, 1441, 1443, 1445, 1447, 1449, 1451, 1453, 1455, 1457, 1459, 1461, 1463, 1465] (by decide +kernel) (by decide +kernel)
end
section
/-! THE ENGINE: an abstract heap of numbered cells (their shapes are the list SH), and a judgement over it for a method's code -/
abbrev AH : Type := Nat × (Nat → Nat → Int32) × (Nat → Nat → Int64) × (Nat → Nat → Nat)
abbrev GH : Type := Nat × va_G × (Nat → ClassId) × (Nat → Nat) × (Nat → Nat)
abbrev MI : Type := MethodName × ByteArray × Nat × Option FieldType × Nat × Nat × Nat
def gI (h : AH) (r k : Nat) : Int32 := h.2.1 r k
def gL (h : AH) (r k : Nat) : Int64 := h.2.2.1 r k
def gF (h : AH) (r k : Nat) : Nat := h.2.2.2 r k
def up2 {α : Type} (f : Nat → Nat → α) (r k : Nat) (v : α) : Nat → Nat → α := fun r2 k2 => if r2 = r ∧ k2 = k then v else f r2 k2
def up1 {α : Type} (f : Nat → Nat → α) (r : Nat) (g : Nat → α) : Nat → Nat → α := fun r2 => if r2 = r then g else f r2
def sI (h : AH) (r k : Nat) (v : Int32) : AH := (h.1, up2 h.2.1 r k v, h.2.2.1, h.2.2.2)
def sL (h : AH) (r k : Nat) (v : Int64) : AH := (h.1, h.2.1, up2 h.2.2.1 r k v, h.2.2.2)
def sF (h : AH) (r k : Nat) (v : Nat) : AH := (h.1, h.2.1, h.2.2.1, up2 h.2.2.2 r k v)
def rI (h : AH) (r : Nat) (g : Nat → Int32) : AH := (h.1, up1 h.2.1 r g, h.2.2.1, h.2.2.2)
def rL (h : AH) (r : Nat) (g : Nat → Int64) : AH := (h.1, h.2.1, up1 h.2.2.1 r g, h.2.2.2)
def kd (i : Nat) : Nat := (SH.getD i (99, 0)).1
def ln (i : Nat) : Nat := (SH.getD i (99, 0)).2
def ro (G : GH) (i : Nat) : Option Nat := if i < 1000 then some (G.1 + i) else if i < 2000 then some (G.2.2.2.1 (i - 1000)) else none
def tv (G : GH) : Value → Value
  | .ref i => va_rf (ro G i)
  | v => v
def fv (G : GH) (h : AH) (i k t : Nat) : Value := match t with
  | 0 => .int (gI h i k)
  | 1 => .long (gL h i k)
  | _ => va_rf (ro G (gF h i k))
def ent (G : GH) (h : AH) (i : Nat) : va_E :=
  if kd i < 100 then .inr (kd i, (tgL.getD (kd i) []).mapIdx (fun k t => fv G h i k t))
  else .inl (G.2.2.1 (kd i - 100), ln i, if kd i = 101 then .inr (.inl (gL h i)) else if kd i < 103 then .inl (gI h i) else .inr (.inr (.inr (.inr (fun j => ro G (gF h i j))))))
def cellsOf (G : GH) (h : AH) : va_W := (List.range h.1).map (fun i => (G.1 + i, ent G h i))
def AM (G : GH) : Nat → Prop := fun q => G.1 ≤ q
def tyL (G : GH) : List (ClassId × FieldType) := [(G.2.2.1 0, .int), (G.2.2.1 1, .long), (G.2.2.1 2, .byte), (G.2.2.1 3, .object "FourInks$Board"), (G.2.2.1 4, .array .int)]
theorem cells_at (G : GH) (h : AH) {i : Nat} (hi : i < h.1) : (cellsOf G h)[i]? = some (G.1 + i, ent G h i) := by
  simp [cellsOf, hi]
theorem cells_spec {G : GH} {h : AH} {i : Nat} {q : Nat × va_E} (hq : (cellsOf G h)[i]? = some q) : i < h.1 ∧ q = (G.1 + i, ent G h i) := by
  have hl : i < (cellsOf G h).length := (List.getElem?_eq_some_iff.mp hq).1
  have hi : i < h.1 := by simpa [cellsOf] using hl
  rw [cells_at G h hi] at hq
  exact ⟨hi, (Option.some.inj hq).symm⟩
theorem cells_set (G : GH) {h h2 : AH} (hn : h2.1 = h.1) (r : Nat) {e : va_E} (he : ent G h2 r = e) (ho : ∀ i, i ≠ r → ent G h2 i = ent G h i) : (cellsOf G h).set r (G.1 + r, e) = cellsOf G h2 := by
  apply List.ext_getElem?
  intro i
  by_cases hi : i < h.1
  · rw [cells_at G h2 (by omega)]
    by_cases hr : r = i
    · subst hr
      rw [List.getElem?_set_self (by simpa [cellsOf] using hi), he]
    · rw [List.getElem?_set_ne hr, cells_at G h hi, ho i (Ne.symm hr)]
  · rw [List.getElem?_eq_none (by simp [cellsOf]; omega), List.getElem?_eq_none (by simp [cellsOf]; omega)]
theorem cells_D (G : GH) (h : AH) : va_D (AM G) (cellsOf G h) := by
  refine ⟨fun i j p q hp hq e => ?_, fun k q hq => ?_⟩
  · obtain ⟨-, rfl⟩ := cells_spec hp
    obtain ⟨-, rfl⟩ := cells_spec hq
    have e2 : G.1 + i = G.1 + j := e
    omega
  · obtain ⟨-, rfl⟩ := cells_spec hq
    exact Nat.le_add_right _ _
theorem cells_push (G : GH) {h h2 : AH} (hn : h2.1 = h.1 + 1) {e : va_E} (he : ent G h2 h.1 = e) (ho : ∀ i, i < h.1 → ent G h2 i = ent G h i) : cellsOf G h ++ [(G.1 + h.1, e)] = cellsOf G h2 := by
  unfold cellsOf
  rw [hn, List.range_succ, List.map_append]
  congr 1
  · apply List.map_congr_left
    intro i hi
    rw [ho i (List.mem_range.mp hi)]
  · simp [he]
theorem tv_cat (G : GH) (v : Value) : (tv G v).category = v.category := by
  cases v <;> try rfl
  rename_i a
  simp only [tv]
  cases ro G a <;> rfl
theorem tv_cats (G : GH) (l : List Value) : ((l.map (tv G)).map fun v => v.category).sum = (l.map fun v => v.category).sum := by
  rw [List.map_map]
  congr 1
  apply List.map_congr_left
  intro v _
  exact tv_cat G v
/-- the words on a private member of a nest mate -/
def isNest : Cond → Bool
  | .methodLinkNest .. => true
  | _ => false
def NWL : List Cond := lw_tbl.filter isNest
def strL : List (String × Nat × String) := [("FourInks$JobText", 59, "sheet   slack   turns   white   over    mark    screw   box     screen  lies    "), ("FourInks$JobText", 171, "blue    red     yellow  black   "), ("FourInksModel", 127, "blue red yellow black sheet mark slack screw turns box white over screen lies ")]
def strB (i : Nat) : List Int32 := ((strL.getD i ("", 0, "")).2.2.toList.map (fun ch => Int32.ofNat ch.toNat))
def strBL : List (List Int32) := [strB 0, strB 1, strB 2]
/-- the row of rows: its component class is that of the rows of ints -/
def AA (G : GH) (s : State) : Prop := ∃ k : Class, s.vm.classes[G.2.2.1 4]? = some k ∧ k.kind = .array (G.2.2.1 0) (.array .int)
theorem AA.moved {G : GH} {u U : State} (hvm : u.vm.Alike U.vm) (h : AA G u) : AA G U := by
  obtain ⟨k, h1, h2⟩ := h
  obtain ⟨k2, h3, h4⟩ := hvm.2.2 _ _ h1
  exact ⟨k2, h3, by rw [h4]; exact h2⟩
def Cs (G : GH) (s : State) : Prop :=
  va_K G.2.1 clsL (tyL G) s ∧ (∀ w ∈ NWL, va_Nw w s) ∧ (∀ (i : Nat) (q : String × Nat × String), strL[i]? = some q → vk_R q.1 q.2.1 q.2.2 (G.2.2.2.1 i) s) ∧ va_AO "FourInks$Board" s ∧ AA G s
def St (G : GH) (s : State) (H : Heap) : Prop :=
  vk_S 3 [80, 32, 78] strBL G.2.2.2.1 G.2.2.2.2 (AM G) s H ∧ va_Z "java/lang/String" "COMPACT_STRINGS" "Z" (.int 1) (AM G) s H ∧ va_Zq "jdk/internal/util/Preconditions" "SIOOBE_FORMATTER" "Ljava/util/function/BiFunction;" (AM G) s H
theorem nest_form {w : Cond} (h : w ∈ NWL) : ∃ (a : String) (i : Nat) (x : MethodName) (b : String), w = .methodLinkNest a i x b := by
  have h1 := (List.mem_filter.mp h).2
  cases w <;> first | exact ⟨_, _, _, _, rfl⟩ | (simp [isNest] at h1; done)
theorem Cs.warm {G : GH} {s U : State} (hW : s.WarmedH U.vm) (h : Cs G s) : Cs G U := by
  refine ⟨va_K.moved hW.alike h.1, fun w hw => ?_, fun i q hq => vk_R.warm hW (h.2.2.1 i q hq), va_AO.moved hW.alike h.2.2.2.1, h.2.2.2.2.moved hW.alike⟩
  obtain ⟨a, i, x, b, rfl⟩ := nest_form hw
  exact va_Nw.warmM hW (h.2.1 _ hw)
theorem Cs.same {G : GH} {u U : State} (hv : U.vm = u.vm) (h : Cs G u) : Cs G U := by
  have hal : u.vm.Alike U.vm := by rw [hv]; exact Vm.Alike.refl u.vm
  refine ⟨va_K.moved hal h.1, fun w hw => ?_, fun i q hq => vk_R.same hv (h.2.2.1 i q hq), va_AO.moved hal h.2.2.2.1, h.2.2.2.2.moved hal⟩
  obtain ⟨a, i, x, b, rfl⟩ := nest_form hw
  exact va_Nw.same rfl hv.symm (h.2.1 _ hw)
theorem St.moved {G : GH} {u U : State} {H : Heap} (hvm : u.vm.Alike U.vm) (h : St G u H) : St G U H :=
  ⟨vk_S.moved hvm h.1, va_Z.moved hvm h.2.1, va_Zq.moved hvm h.2.2⟩
theorem St.kept {G : GH} {U : State} {H H1 : Heap} (h : St G U H) (hq : ∀ a : Nat, a < H.size → ¬ AM G a → H1[a]? = H[a]?) : St G U H1 :=
  ⟨vk_S.kept h.1 hq, va_Z.kept h.2.1 hq, va_Zq.kept h.2.2 hq⟩
def wsM (M : MI) : List Cond := .code M.1 M.2.1 M.2.2.1 M.2.2.2.1 :: TBG
def rmM (M : MI) : Room := { frames := M.2.2.2.2.1, cells := M.2.2.2.2.2.1, slots := M.2.2.2.2.2.2, locals := 38 * M.2.2.2.2.1 }
/-- the world at a state -/
def Wd (G : GH) (h : AH) (U : State) : Prop :=
  U.heap.size = G.1 + h.1 ∧ h.1 ≤ 1000 ∧ va_P G.2.1 clsL (cellsOf G h) U.heap ∧ Cs G U ∧ St G U U.heap
def PcM (G : GH) (as : List Value) (h : AH) : Array Value → State → Prop := fun v U => v = (as.map (tv G)).toArray ∧ Wd G h U
def QcM (G : GH) (P : Option Value → AH → Prop) : Array Value → State → Outcome → State → Prop := fun _ st oc t =>
  (∃ (v : Option Value) (h2 : AH), oc = .returned (v.map (tv G)) ∧ P v h2 ∧ Wd G h2 t) ∧ va_F (AM G) st t
/-- a call of M with these arguments over this heap comes back, with P of its answer and of the heap then -/
def Call (M : MI) (as : List Value) (h : AH) (P : Option Value → AH → Prop) : Prop :=
  ∀ (l : Launch) (G : GH), Met l M.1 (wsM M) (rmM M) (PcM G as h) (QcM G P) M.2.2.2.2.2.1 M.2.2.2.2.2.2 (AM G)
def Cx (M : MI) (G : GH) (p : Program) (Rm : Room) (s : State) (m : MethodId) (args : Array Value) (meth : Method) (c : Code) : Prop :=
  p.tables.exec = Jvm.exec ∧ c.code = M.2.1 ∧ meth.sig.returnType = M.2.2.2.1 ∧ c.maxLocals = M.2.2.1 ∧ s.vm.findClass M.1.cls = some m.cls ∧ (∀ w ∈ TBG, w.before args s = true) ∧ meth.locks = false ∧ meth.name = M.1.name ∧ M.2.2.2.2.1 ≤ Rm.frames ∧ 38 * M.2.2.2.2.1 ≤ Rm.locals ∧ Cs G s ∧ St G s s.heap ∧ G.1 ≤ s.heap.size
def Hp (G : GH) (h : AH) (s : State) (H : Heap) (locs : List Loc) : Prop :=
  H.size = G.1 + h.1 ∧ h.1 ≤ 1000 ∧ va_P G.2.1 clsL (cellsOf G h) H ∧ va_S (AM G) s.heap H locs
def RetI (M : MI) (pc : Nat) (v : Option Value) : Prop :=
  (v = none ∧ M.2.2.2.1 = none ∧ decode M.2.1 pc = .ok (.return_, 1)) ∨
  (∃ (x : Int32) (ty : FieldType), v = some (.int x) ∧ M.2.2.2.1 = some ty ∧ narrow ty (.int x) = .int x ∧ decode M.2.1 pc = .ok (.ireturn, 1)) ∨
  (∃ x : Int64, v = some (.long x) ∧ M.2.2.2.1 = some .long ∧ decode M.2.1 pc = .ok (.lreturn, 1)) ∨
  (∃ (i : Nat) (ty : FieldType), v = some (.ref i) ∧ M.2.2.2.1 = some ty ∧ ((∃ n, ty = .object n) ∨ ∃ t, ty = .array t) ∧ decode M.2.1 pc = .ok (.areturn, 1))
/-- what M's code does from pc on, with these locals, this operand stack, this heap: it comes to its return with P; kc cells of ks slots may still be made -/
def Rr (M : MI) (kc ks pc : Nat) (ls : List (Nat × Value)) (st : List Value) (h : AH) (P : Option Value → AH → Prop) : Prop :=
  ∀ (G : GH) (p : Program) (l : Launch) (e : Env) (Rm : Room) (s : State) (m : MethodId) (args : Array Value) (below : List Frame) (meth : Method) (c : Code) (H : Heap) (locs : List Loc) (cells slots : Nat) (Q : State → Prop) (la : Array Slot),
    Cx M G p Rm s m args meth c → Hp G h s H locs → cells + kc ≤ Rm.cells → slots + ks ≤ Rm.slots →
    (∀ (v : Option Value) (h2 : AH) (H2 : Heap) (locs2 : List Loc) (la2 : Array Slot) (pc2 : Nat), P v h2 → Hp G h2 s H2 locs2 → RetI M pc2 v → W p l e Rm s m args below meth c H2 locs2 (cells + kc) (slots + ks) Q (F0 m pc2 la2 (v.toList.map (tv G)))) →
    lv_has la M.2.2.1 (ls.map (fun q => (q.1, tv G q.2))) →
    W p l e Rm s m args below meth c H locs cells slots Q (F0 m pc la (st.map (tv G)))
theorem W.lret2 {p : Program} {l : Launch} {e : Env} {R : Room} {s : State} {m : MethodId} {args : Array Value} {below : List Frame} {meth : Method} {c : Code} {H : Heap} {locs : List Loc} {cells slots : Nat} {cc : ByteArray} {Qc : Array Value → State → Outcome → State → Prop} {free : Addr → Prop} {v : Int64} (hexec : p.tables.exec = Jvm.exec) (hb : c.code = cc) (hr : meth.sig.returnType = some .long)
    (hq : ∀ t : State, t.heap = H → s.WarmedH t.vm → Qc args s (.returned (some (.long v))) t) (hf : ∀ q ∈ locs, free q.base)
    {pc : Nat} {ls : Array Slot} (hdg : decode cc pc = .ok (.lreturn, 1)) (hlocks : meth.locks = false) : W p l e R s m args below meth c H locs cells slots (MQ below Qc args s cells slots free) (F0 m pc ls [.long v]) := by
  first
    | exact W.lret hexec hb hr hq hf hdg
    | exact W.lret hexec hb hr hq hf hdg hlocks
theorem sl_len (G : GH) : ∀ as : List Value, (lg_sl (as.map (tv G))).length = (lg_sl as).length
  | [] => rfl
  | a :: t => by
    have ih := sl_len G t
    simp only [lg_sl, List.map_cons, List.flatMap_cons, List.length_append, tv_cat] at ih ⊢
    rw [ih]
    congr 1
    split <;> rfl
theorem Call.ofR {M : MI} {as : List Value} {h : AH} {P : Option Value → AH → Prop} (hy : plainName M.1.cls = true) (hlen : (lg_sl as).length ≤ M.2.2.1) (hR : Rr M M.2.2.2.2.2.1 M.2.2.2.2.2.2 0 (lv_args 0 as) [] h P) : Call M as h P := by
  intro l G
  refine Met.ofW (cc := M.2.1) (maxL := M.2.2.1) (ret := M.2.2.2.1) hy rfl ?_
  intro p e s m args below meth c s₁ B hml hv
  obtain ⟨rfl, hsz, h1000, hP, hC, hSt⟩ := hv
  have hts := atoms_spec (ws := wsM M) B.pre
  have hown : s.vm.findClass M.1.cls = some m.cls := findClass_of_methodNamed B.named
  have hlocks := B.notSynchronized
  have hnm : meth.name = M.1.name := (name_of_methodNamed B.named B.method).1
  have hcx : Cx M G p (headSpec (wsM M) (rmM M)).room s m (as.map (tv G)).toArray meth c := ⟨B.exec, B.bytes, B.returns, hml, hown, fun w hw => hts w (List.mem_cons_of_mem _ hw), hlocks, hnm, Nat.le_refl _, Nat.le_refl _, hC, hSt, by omega⟩
  have hsl : (lg_sl (as.map (tv G))).length = (lg_sl as).length := sl_len G as
  have hargs : ∀ (as : List Value) (i : Nat), lv_args i (as.map (tv G)) = (lv_args i as).map (fun q => (q.1, tv G q.2)) := by
    intro as
    induction as with
    | nil => intro i; rfl
    | cons a t ih =>
      intro i
      simp only [List.map_cons, lv_args, tv_cat, ih]
  have hl := lv_entry (as.map (tv G)) (n := M.2.2.1) (by rw [hsl]; exact hlen)
  rw [lg_entry_eq]
  rw [hargs] at hl
  refine hR G p l e _ s m _ below meth c s.heap [] 0 0 _ _ hcx ⟨hsz, h1000, hP, va_S.rf⟩ (by rw [Nat.zero_add]; exact Nat.le_refl _) (by rw [Nat.zero_add]; exact Nat.le_refl _) ?_ hl
  intro v h2 H2 locs2 la2 pc2 hPv hH hret
  rw [Nat.zero_add, Nat.zero_add]
  have hend : ∀ t : State, t.heap = H2 → s.WarmedH t.vm → QcM G P (as.map (tv G)).toArray s (.returned (v.map (tv G))) t := fun t ht hW =>
    ⟨⟨v, h2, rfl, hPv, by rw [ht]; exact hH.1, hH.2.1, by rw [ht]; exact hH.2.2.1, hC.warm hW, by rw [ht]; exact (hSt.moved hW.alike).kept hH.2.2.2.2.1⟩, hH.2.2.2.F ht⟩
  rcases hret with ⟨rfl, hr, hd⟩ | ⟨x, ty, rfl, hr, hn, hd⟩ | ⟨x, rfl, hr, hd⟩ | ⟨i, ty, rfl, hr, hty, hd⟩
  · exact W.vret B.exec B.bytes (B.returns.trans hr) hend hH.2.2.2.2.2 hd hlocks
  · exact W.zret B.exec B.bytes (B.returns.trans hr) hn hend hH.2.2.2.2.2 hd hlocks
  · exact W.lret2 B.exec B.bytes (B.returns.trans hr) hend hH.2.2.2.2.2 hd hlocks
  · refine W.aret (v := va_rf (ro G i)) B.exec B.bytes (B.returns.trans hr) hty ?_ hend hH.2.2.2.2.2 hd hlocks
    cases ro G i with
    | none => exact Or.inl rfl
    | some a => exact Or.inr ⟨a, rfl⟩
end
