theorem dX12_feed_0 : decode cX12_feed 0 = .ok (.aload_n 0, 1) := by decide +kernel
theorem dX12_feed_1 : decode cX12_feed 1 = .ok (.getfield 121, 3) := by decide +kernel
theorem dX12_feed_4 : decode cX12_feed 4 = .ok (.bipush 20, 2) := by decide +kernel
theorem dX12_feed_6 : decode cX12_feed 6 = .ok (.iadd, 1) := by decide +kernel
theorem dX12_feed_7 : decode cX12_feed 7 = .ok (.sipush 900, 3) := by decide +kernel
theorem dX12_feed_10 : decode cX12_feed 10 = .ok (.if_icmp .le 6, 3) := by decide +kernel
theorem dX12_feed_13 : decode cX12_feed 13 = .ok (.bipush (-3), 2) := by decide +kernel
theorem dX12_feed_15 : decode cX12_feed 15 = .ok (.ireturn, 1) := by decide +kernel
theorem dX12_feed_16 : decode cX12_feed 16 = .ok (.iconst 0, 1) := by decide +kernel
theorem dX12_feed_17 : decode cX12_feed 17 = .ok (.istore 6, 2) := by decide +kernel
theorem dX12_feed_19 : decode cX12_feed 19 = .ok (.iload 6, 2) := by decide +kernel
theorem dX12_feed_21 : decode cX12_feed 21 = .ok (.iconst 5, 1) := by decide +kernel
theorem dX12_feed_22 : decode cX12_feed 22 = .ok (.if_icmp .ge 93, 3) := by decide +kernel
theorem dX12_feed_25 : decode cX12_feed 25 = .ok (.iload 6, 2) := by decide +kernel
theorem dX12_feed_27 : decode cX12_feed 27 = .ok (.ifCond .ne 7, 3) := by decide +kernel
theorem dX12_feed_30 : decode cX12_feed 30 = .ok (.iload_n 1, 1) := by decide +kernel
theorem dX12_feed_31 : decode cX12_feed 31 = .ok (.goto 36, 3) := by decide +kernel
theorem dX12_feed_34 : decode cX12_feed 34 = .ok (.iload 6, 2) := by decide +kernel
theorem dX12_feed_36 : decode cX12_feed 36 = .ok (.iconst 1, 1) := by decide +kernel
theorem dX12_feed_37 : decode cX12_feed 37 = .ok (.if_icmp .ne 7, 3) := by decide +kernel
theorem dX12_feed_40 : decode cX12_feed 40 = .ok (.iload_n 2, 1) := by decide +kernel
theorem dX12_feed_41 : decode cX12_feed 41 = .ok (.goto 26, 3) := by decide +kernel
theorem dX12_feed_44 : decode cX12_feed 44 = .ok (.iload 6, 2) := by decide +kernel
theorem dX12_feed_46 : decode cX12_feed 46 = .ok (.iconst 2, 1) := by decide +kernel
theorem dX12_feed_47 : decode cX12_feed 47 = .ok (.if_icmp .ne 7, 3) := by decide +kernel
theorem dX12_feed_50 : decode cX12_feed 50 = .ok (.iload_n 3, 1) := by decide +kernel
theorem dX12_feed_51 : decode cX12_feed 51 = .ok (.goto 16, 3) := by decide +kernel
theorem dX12_feed_54 : decode cX12_feed 54 = .ok (.iload 6, 2) := by decide +kernel
theorem dX12_feed_56 : decode cX12_feed 56 = .ok (.iconst 3, 1) := by decide +kernel
theorem dX12_feed_57 : decode cX12_feed 57 = .ok (.if_icmp .ne 8, 3) := by decide +kernel
theorem dX12_feed_60 : decode cX12_feed 60 = .ok (.iload 4, 2) := by decide +kernel
theorem dX12_feed_62 : decode cX12_feed 62 = .ok (.goto 5, 3) := by decide +kernel
theorem dX12_feed_65 : decode cX12_feed 65 = .ok (.iload 5, 2) := by decide +kernel
theorem dX12_feed_67 : decode cX12_feed 67 = .ok (.istore 7, 2) := by decide +kernel
theorem dX12_feed_69 : decode cX12_feed 69 = .ok (.bipush 24, 2) := by decide +kernel
theorem dX12_feed_71 : decode cX12_feed 71 = .ok (.istore 8, 2) := by decide +kernel
theorem dX12_feed_73 : decode cX12_feed 73 = .ok (.iload 8, 2) := by decide +kernel
theorem dX12_feed_75 : decode cX12_feed 75 = .ok (.ifCond .lt 34, 3) := by decide +kernel
theorem dX12_feed_78 : decode cX12_feed 78 = .ok (.aload_n 0, 1) := by decide +kernel
theorem dX12_feed_79 : decode cX12_feed 79 = .ok (.getfield 7, 3) := by decide +kernel
theorem dX12_feed_82 : decode cX12_feed 82 = .ok (.aload_n 0, 1) := by decide +kernel
theorem dX12_feed_83 : decode cX12_feed 83 = .ok (.getfield 121, 3) := by decide +kernel
theorem dX12_feed_86 : decode cX12_feed 86 = .ok (.iload 7, 2) := by decide +kernel
theorem dX12_feed_88 : decode cX12_feed 88 = .ok (.iload 8, 2) := by decide +kernel
theorem dX12_feed_90 : decode cX12_feed 90 = .ok (.ishr, 1) := by decide +kernel
theorem dX12_feed_91 : decode cX12_feed 91 = .ok (.i2b, 1) := by decide +kernel
theorem dX12_feed_92 : decode cX12_feed 92 = .ok (.bastore, 1) := by decide +kernel
theorem dX12_feed_93 : decode cX12_feed 93 = .ok (.aload_n 0, 1) := by decide +kernel
theorem dX12_feed_94 : decode cX12_feed 94 = .ok (.dup, 1) := by decide +kernel
theorem dX12_feed_95 : decode cX12_feed 95 = .ok (.getfield 121, 3) := by decide +kernel
theorem dX12_feed_98 : decode cX12_feed 98 = .ok (.iconst 1, 1) := by decide +kernel
theorem dX12_feed_99 : decode cX12_feed 99 = .ok (.iadd, 1) := by decide +kernel
theorem dX12_feed_100 : decode cX12_feed 100 = .ok (.putfield 121, 3) := by decide +kernel
theorem dX12_feed_103 : decode cX12_feed 103 = .ok (.iinc 8 (-8), 3) := by decide +kernel
theorem dX12_feed_106 : decode cX12_feed 106 = .ok (.goto (-33), 3) := by decide +kernel
theorem dX12_feed_109 : decode cX12_feed 109 = .ok (.iinc 6 1, 3) := by decide +kernel
theorem dX12_feed_112 : decode cX12_feed 112 = .ok (.goto (-93), 3) := by decide +kernel
theorem dX12_feed_115 : decode cX12_feed 115 = .ok (.aload_n 0, 1) := by decide +kernel
theorem dX12_feed_116 : decode cX12_feed 116 = .ok (.getfield 121, 3) := by decide +kernel
theorem dX12_feed_119 : decode cX12_feed 119 = .ok (.ireturn, 1) := by decide +kernel
set_option maxRecDepth 20000 in
theorem sX12_feed_0 {P : Option Value → AH → Prop} (h : AH) (r0 : Nat) (x1 : Int32) (x2 : Int32) (x3 : Int32) (x4 : Int32) (x5 : Int32) (hf : (isO h 12 r0) ∧ ((((gI h r0 1) + 20) ≤ 900 → Rr mX12_feed 0 0 19 [(0, .ref r0), (1, .int x1), (2, .int x2), (3, .int x3), (4, .int x4), (5, .int x5), (6, .int 0)] [] h P) ∧ (¬ ((gI h r0 1) + 20) ≤ 900 → P (some (.int (-3))) h))) : Rr mX12_feed 0 0 0 [(0, .ref r0), (1, .int x1), (2, .int x2), (3, .int x3), (4, .int x4), (5, .int x5)] [] h P := by
  refine R_aload_n dX12_feed_0 rfl 0 rfl ?_
  obtain ⟨ob1, hf⟩ := hf
  refine G12_1 dX12_feed_1 lfX12_121 ob1 ?_
  refine R_bipush (v := 20) dX12_feed_4 (by decide) ?_
  refine R_iadd dX12_feed_6 ?_
  refine R_sipush (v := 900) dX12_feed_7 (by decide) ?_
  refine R_icmp_le (tgt := 16) dX12_feed_10 (by decide) (fun b2 => ?_) (fun b2 => ?_)
  · have hf := hf.1 b2
    refine R_iconst (v := 0) dX12_feed_16 (by decide) ?_
    refine R_istore dX12_feed_17 (by decide) rfl ?_
    exact R_sub [1, 2, 3, 4, 5, 6, 0] rfl hf
  · have hf := hf.2 b2
    refine R_bipush (v := (-3)) dX12_feed_13 (by decide) ?_
    exact R_iret dX12_feed_15 rfl rfl hf
set_option maxRecDepth 20000 in
theorem sX12_feed_19 {P : Option Value → AH → Prop} (h : AH) (r0 : Nat) (x1 : Int32) (x2 : Int32) (x3 : Int32) (x4 : Int32) (x5 : Int32) (x6 : Int32) (hf : (5 ≤ x6 → (isO h 12 r0) ∧ (P (some (.int (gI h r0 1))) h)) ∧ (¬ 5 ≤ x6 → ∀ z7 : Int32, z7 = (if x6 = 0 then x1 else (if x6 = 1 then x2 else (if x6 = 2 then x3 else (if x6 = 3 then x4 else x5)))) → (Rr mX12_feed 0 0 73 [(0, .ref r0), (1, .int x1), (2, .int x2), (3, .int x3), (4, .int x4), (5, .int x5), (6, .int x6), (7, .int z7), (8, .int 24)] [] h P))) : Rr mX12_feed 0 0 19 [(0, .ref r0), (1, .int x1), (2, .int x2), (3, .int x3), (4, .int x4), (5, .int x5), (6, .int x6)] [] h P := by
  refine R_iload dX12_feed_19 6 rfl ?_
  refine R_iconst (v := 5) dX12_feed_21 (by decide) ?_
  refine R_icmp_ge (tgt := 115) dX12_feed_22 (by decide) (fun b1 => ?_) (fun b1 => ?_)
  · have hf := hf.1 b1
    refine R_aload_n dX12_feed_115 rfl 0 rfl ?_
    obtain ⟨ob2, hf⟩ := hf
    refine G12_1 dX12_feed_116 lfX12_121 ob2 ?_
    exact R_iret dX12_feed_119 rfl rfl hf
  · have hf := hf.2 b1
    refine R_iload dX12_feed_25 6 rfl ?_
    have key : ∀ z7 : Int32, z7 = (if x6 = 0 then x1 else (if x6 = 1 then x2 else (if x6 = 2 then x3 else (if x6 = 3 then x4 else x5)))) → Rr mX12_feed 0 0 67 [(0, .ref r0), (1, .int x1), (2, .int x2), (3, .int x3), (4, .int x4), (5, .int x5), (6, .int x6)] [.int z7] h P := by
      intro z7 ez7
      have hf := hf z7 ez7
      refine R_istore dX12_feed_67 (by decide) rfl ?_
      refine R_bipush (v := 24) dX12_feed_69 (by decide) ?_
      refine R_istore dX12_feed_71 (by decide) rfl ?_
      exact R_sub [2, 3, 4, 5, 6, 7, 8, 1, 0] rfl hf
    refine R_if_ne (tgt := 34) dX12_feed_27 (by decide) (fun b3 => ?_) (fun b3 => ?_)
    · refine R_iload dX12_feed_34 6 rfl ?_
      refine R_iconst (v := 1) dX12_feed_36 (by decide) ?_
      refine R_icmp_ne (tgt := 44) dX12_feed_37 (by decide) (fun b4 => ?_) (fun b4 => ?_)
      · refine R_iload dX12_feed_44 6 rfl ?_
        refine R_iconst (v := 2) dX12_feed_46 (by decide) ?_
        refine R_icmp_ne (tgt := 54) dX12_feed_47 (by decide) (fun b5 => ?_) (fun b5 => ?_)
        · refine R_iload dX12_feed_54 6 rfl ?_
          refine R_iconst (v := 3) dX12_feed_56 (by decide) ?_
          refine R_icmp_ne (tgt := 65) dX12_feed_57 (by decide) (fun b6 => ?_) (fun b6 => ?_)
          · refine R_iload dX12_feed_65 5 rfl ?_
            exact R_sub [0, 1, 2, 3, 4, 5, 6] rfl (key _ (by rw [if_neg b3, if_neg b4, if_neg b5, if_neg b6]))
          · refine R_iload dX12_feed_60 4 rfl ?_
            refine R_goto (tgt := 67) dX12_feed_62 (by decide) ?_
            exact R_sub [0, 1, 2, 3, 4, 5, 6] rfl (key _ (by rw [if_neg b3, if_neg b4, if_neg b5, if_pos b6]))
        · refine R_iload_n dX12_feed_50 rfl 3 rfl ?_
          refine R_goto (tgt := 67) dX12_feed_51 (by decide) ?_
          exact R_sub [0, 1, 2, 3, 4, 5, 6] rfl (key _ (by rw [if_neg b3, if_neg b4, if_pos b5]))
      · refine R_iload_n dX12_feed_40 rfl 2 rfl ?_
        refine R_goto (tgt := 67) dX12_feed_41 (by decide) ?_
        exact R_sub [0, 1, 2, 3, 4, 5, 6] rfl (key _ (by rw [if_neg b3, if_pos b4]))
    · refine R_iload_n dX12_feed_30 rfl 1 rfl ?_
      refine R_goto (tgt := 67) dX12_feed_31 (by decide) ?_
      exact R_sub [0, 1, 2, 3, 4, 5, 6] rfl (key _ (by rw [if_pos b3]))
set_option maxRecDepth 20000 in
theorem sX12_feed_73 {P : Option Value → AH → Prop} (h : AH) (r0 : Nat) (x1 : Int32) (x2 : Int32) (x3 : Int32) (x4 : Int32) (x5 : Int32) (x6 : Int32) (x7 : Int32) (x8 : Int32) (hf : (x8 < 0 → Rr mX12_feed 0 0 19 [(0, .ref r0), (1, .int x1), (2, .int x2), (3, .int x3), (4, .int x4), (5, .int x5), (6, .int (x6 + 1))] [] h P) ∧ (¬ x8 < 0 → (isO h 12 r0) ∧ ((isA h 2 (gF h r0 0)) ∧ ((vp_in (gI h r0 1) (ln (gF h r0 0))) ∧ (Rr mX12_feed 0 0 73 [(0, .ref r0), (1, .int x1), (2, .int x2), (3, .int x3), (4, .int x4), (5, .int x5), (6, .int x6), (7, .int x7), (8, .int (x8 + (-8)))] [] (sI (sI h (gF h r0 0) (gI h r0 1).toNatClampNeg (x7 >>> (x8 &&& 31)).toInt8.toInt32.toInt8.toInt32) r0 1 ((gI h r0 1) + 1)) P))))) : Rr mX12_feed 0 0 73 [(0, .ref r0), (1, .int x1), (2, .int x2), (3, .int x3), (4, .int x4), (5, .int x5), (6, .int x6), (7, .int x7), (8, .int x8)] [] h P := by
  refine R_iload dX12_feed_73 8 rfl ?_
  refine R_if_lt (tgt := 109) dX12_feed_75 (by decide) (fun b1 => ?_) (fun b1 => ?_)
  · have hf := hf.1 b1
    refine R_iinc (v := x6 + 1) dX12_feed_109 6 rfl rfl (by decide) rfl ?_
    refine R_goto (tgt := 19) dX12_feed_112 (by decide) ?_
    exact R_sub [1, 2, 3, 4, 5, 6, 0] rfl hf
  · have hf := hf.2 b1
    refine R_aload_n dX12_feed_78 rfl 0 rfl ?_
    obtain ⟨ob2, hf⟩ := hf
    refine G12_0 dX12_feed_79 lfX12_7 ob2 ?_
    refine R_aload_n dX12_feed_82 rfl 0 rfl ?_
    refine G12_1 dX12_feed_83 lfX12_121 ob2 ?_
    refine R_iload dX12_feed_86 7 rfl ?_
    refine R_iload dX12_feed_88 8 rfl ?_
    refine R_ishr dX12_feed_90 ?_
    refine R_i2b dX12_feed_91 ?_
    obtain ⟨ob3, hf⟩ := hf
    obtain ⟨ob4, hf⟩ := hf
    refine R_bastore dX12_feed_92 ob3 ob4 ?_
    refine R_aload_n dX12_feed_93 rfl 0 rfl ?_
    refine R_dup dX12_feed_94 rfl ?_
    refine G12_1 dX12_feed_95 lfX12_121 ob2 ?_
    refine R_eqI (y := gI h r0 1) (rd_r (ne_oa ob2 ob3 (by decide))) ?_
    refine R_iconst (v := 1) dX12_feed_98 (by decide) ?_
    refine R_iadd dX12_feed_99 ?_
    refine S12_1 dX12_feed_100 lfX12_121 ob2 ?_
    refine R_iinc (v := x8 + (-8)) dX12_feed_103 8 rfl rfl (by decide) rfl ?_
    refine R_goto (tgt := 73) dX12_feed_106 (by decide) ?_
    exact R_sub [1, 2, 3, 4, 5, 6, 7, 8, 0] rfl hf
theorem dX12_goOn_0 : decode cX12_goOn 0 = .ok (.lload_n 2, 1) := by decide +kernel
theorem dX12_goOn_1 : decode cX12_goOn 1 = .ok (.iload 4, 2) := by decide +kernel
theorem dX12_goOn_3 : decode cX12_goOn 3 = .ok (.i2l, 1) := by decide +kernel
theorem dX12_goOn_4 : decode cX12_goOn 4 = .ok (.lmul, 1) := by decide +kernel
theorem dX12_goOn_5 : decode cX12_goOn 5 = .ok (.iload_n 1, 1) := by decide +kernel
theorem dX12_goOn_6 : decode cX12_goOn 6 = .ok (.i2l, 1) := by decide +kernel
theorem dX12_goOn_7 : decode cX12_goOn 7 = .ok (.lmul, 1) := by decide +kernel
theorem dX12_goOn_8 : decode cX12_goOn 8 = .ok (.iload 5, 2) := by decide +kernel
theorem dX12_goOn_10 : decode cX12_goOn 10 = .ok (.i2l, 1) := by decide +kernel
theorem dX12_goOn_11 : decode cX12_goOn 11 = .ok (.aload_n 0, 1) := by decide +kernel
theorem dX12_goOn_12 : decode cX12_goOn 12 = .ok (.getfield 102, 3) := by decide +kernel
theorem dX12_goOn_15 : decode cX12_goOn 15 = .ok (.iload_n 1, 1) := by decide +kernel
theorem dX12_goOn_16 : decode cX12_goOn 16 = .ok (.bipush 6, 2) := by decide +kernel
theorem dX12_goOn_18 : decode cX12_goOn 18 = .ok (.if_icmp .ge 9, 3) := by decide +kernel
theorem dX12_goOn_21 : decode cX12_goOn 21 = .ok (.iload_n 1, 1) := by decide +kernel
theorem dX12_goOn_22 : decode cX12_goOn 22 = .ok (.iconst 1, 1) := by decide +kernel
theorem dX12_goOn_23 : decode cX12_goOn 23 = .ok (.iadd, 1) := by decide +kernel
theorem dX12_goOn_24 : decode cX12_goOn 24 = .ok (.goto 5, 3) := by decide +kernel
theorem dX12_goOn_27 : decode cX12_goOn 27 = .ok (.bipush 6, 2) := by decide +kernel
theorem dX12_goOn_29 : decode cX12_goOn 29 = .ok (.laload, 1) := by decide +kernel
theorem dX12_goOn_30 : decode cX12_goOn 30 = .ok (.lmul, 1) := by decide +kernel
theorem dX12_goOn_31 : decode cX12_goOn 31 = .ok (.ladd, 1) := by decide +kernel
theorem dX12_goOn_32 : decode cX12_goOn 32 = .ok (.iload 6, 2) := by decide +kernel
theorem dX12_goOn_34 : decode cX12_goOn 34 = .ok (.i2l, 1) := by decide +kernel
theorem dX12_goOn_35 : decode cX12_goOn 35 = .ok (.aload_n 0, 1) := by decide +kernel
theorem dX12_goOn_36 : decode cX12_goOn 36 = .ok (.getfield 102, 3) := by decide +kernel
theorem dX12_goOn_39 : decode cX12_goOn 39 = .ok (.iload_n 1, 1) := by decide +kernel
theorem dX12_goOn_40 : decode cX12_goOn 40 = .ok (.ifCond .le 9, 3) := by decide +kernel
theorem dX12_goOn_43 : decode cX12_goOn 43 = .ok (.iload_n 1, 1) := by decide +kernel
theorem dX12_goOn_44 : decode cX12_goOn 44 = .ok (.iconst 1, 1) := by decide +kernel
theorem dX12_goOn_45 : decode cX12_goOn 45 = .ok (.isub, 1) := by decide +kernel
theorem dX12_goOn_46 : decode cX12_goOn 46 = .ok (.goto 4, 3) := by decide +kernel
theorem dX12_goOn_49 : decode cX12_goOn 49 = .ok (.iconst 0, 1) := by decide +kernel
theorem dX12_goOn_50 : decode cX12_goOn 50 = .ok (.laload, 1) := by decide +kernel
theorem dX12_goOn_51 : decode cX12_goOn 51 = .ok (.lmul, 1) := by decide +kernel
theorem dX12_goOn_52 : decode cX12_goOn 52 = .ok (.ladd, 1) := by decide +kernel
theorem dX12_goOn_53 : decode cX12_goOn 53 = .ok (.bipush 10, 2) := by decide +kernel
theorem dX12_goOn_55 : decode cX12_goOn 55 = .ok (.iload 5, 2) := by decide +kernel
theorem dX12_goOn_57 : decode cX12_goOn 57 = .ok (.isub, 1) := by decide +kernel
theorem dX12_goOn_58 : decode cX12_goOn 58 = .ok (.iload 6, 2) := by decide +kernel
theorem dX12_goOn_60 : decode cX12_goOn 60 = .ok (.isub, 1) := by decide +kernel
theorem dX12_goOn_61 : decode cX12_goOn 61 = .ok (.i2l, 1) := by decide +kernel
theorem dX12_goOn_62 : decode cX12_goOn 62 = .ok (.aload_n 0, 1) := by decide +kernel
theorem dX12_goOn_63 : decode cX12_goOn 63 = .ok (.getfield 102, 3) := by decide +kernel
theorem dX12_goOn_66 : decode cX12_goOn 66 = .ok (.iload_n 1, 1) := by decide +kernel
theorem dX12_goOn_67 : decode cX12_goOn 67 = .ok (.laload, 1) := by decide +kernel
theorem dX12_goOn_68 : decode cX12_goOn 68 = .ok (.lmul, 1) := by decide +kernel
theorem dX12_goOn_69 : decode cX12_goOn 69 = .ok (.ladd, 1) := by decide +kernel
theorem dX12_goOn_70 : decode cX12_goOn 70 = .ok (.lreturn, 1) := by decide +kernel
set_option maxRecDepth 20000 in
theorem sX12_goOn_0 {P : Option Value → AH → Prop} (h : AH) (r0 : Nat) (x1 : Int32) (y2 : Int64) (x4 : Int32) (x5 : Int32) (x6 : Int32) (hf : (isO h 12 r0) ∧ (∀ z3 : Int32, z3 = (if 6 ≤ x1 then 6 else (x1 + 1)) → ((isA h 1 (gF h r0 54)) ∧ ((vp_in z3 (ln (gF h r0 54))) ∧ (∀ z7 : Int32, z7 = (if x1 ≤ 0 then 0 else (x1 - 1)) → ((vp_in z7 (ln (gF h r0 54))) ∧ ((vp_in x1 (ln (gF h r0 54))) ∧ (P (some (.long (((((y2 * x4.toInt64) * x1.toInt64) + (x5.toInt64 * (gL h (gF h r0 54) z3.toNatClampNeg))) + (x6.toInt64 * (gL h (gF h r0 54) z7.toNatClampNeg))) + (((10 - x5) - x6).toInt64 * (gL h (gF h r0 54) x1.toNatClampNeg))))) h)))))))) : Rr mX12_goOn 0 0 0 [(0, .ref r0), (1, .int x1), (2, .long y2), (4, .int x4), (5, .int x5), (6, .int x6)] [] h P := by
  refine R_lload_n dX12_goOn_0 rfl 2 rfl ?_
  refine R_iload dX12_goOn_1 3 rfl ?_
  refine R_i2l dX12_goOn_3 ?_
  refine R_lmul dX12_goOn_4 ?_
  refine R_iload_n dX12_goOn_5 rfl 1 rfl ?_
  refine R_i2l dX12_goOn_6 ?_
  refine R_lmul dX12_goOn_7 ?_
  refine R_iload dX12_goOn_8 4 rfl ?_
  refine R_i2l dX12_goOn_10 ?_
  refine R_aload_n dX12_goOn_11 rfl 0 rfl ?_
  obtain ⟨ob1, hf⟩ := hf
  refine G12_54 dX12_goOn_12 lfX12_102 ob1 ?_
  refine R_iload_n dX12_goOn_15 rfl 1 rfl ?_
  refine R_bipush (v := 6) dX12_goOn_16 (by decide) ?_
  have key : ∀ z3 : Int32, z3 = (if 6 ≤ x1 then 6 else (x1 + 1)) → Rr mX12_goOn 0 0 29 [(0, .ref r0), (1, .int x1), (5, .int x5), (6, .int x6)] [.int z3, .ref (gF h r0 54), .long x5.toInt64, .long ((y2 * x4.toInt64) * x1.toInt64)] h P := by
    intro z3 ez3
    have hf := hf z3 ez3
    obtain ⟨ob4, hf⟩ := hf
    obtain ⟨ob5, hf⟩ := hf
    refine R_laload dX12_goOn_29 ob4 ob5 ?_
    refine R_lmul dX12_goOn_30 ?_
    refine R_ladd dX12_goOn_31 ?_
    refine R_iload dX12_goOn_32 3 rfl ?_
    refine R_i2l dX12_goOn_34 ?_
    refine R_aload_n dX12_goOn_35 rfl 0 rfl ?_
    refine G12_54 dX12_goOn_36 lfX12_102 ob1 ?_
    refine R_iload_n dX12_goOn_39 rfl 1 rfl ?_
    have key : ∀ z7 : Int32, z7 = (if x1 ≤ 0 then 0 else (x1 - 1)) → Rr mX12_goOn 0 0 50 [(0, .ref r0), (1, .int x1), (5, .int x5), (6, .int x6)] [.int z7, .ref (gF h r0 54), .long x6.toInt64, .long (((y2 * x4.toInt64) * x1.toInt64) + (x5.toInt64 * (gL h (gF h r0 54) z3.toNatClampNeg)))] h P := by
      intro z7 ez7
      have hf := hf z7 ez7
      obtain ⟨ob8, hf⟩ := hf
      refine R_laload dX12_goOn_50 ob4 ob8 ?_
      refine R_lmul dX12_goOn_51 ?_
      refine R_ladd dX12_goOn_52 ?_
      refine R_bipush (v := 10) dX12_goOn_53 (by decide) ?_
      refine R_iload dX12_goOn_55 2 rfl ?_
      refine R_isub dX12_goOn_57 ?_
      refine R_iload dX12_goOn_58 3 rfl ?_
      refine R_isub dX12_goOn_60 ?_
      refine R_i2l dX12_goOn_61 ?_
      refine R_aload_n dX12_goOn_62 rfl 0 rfl ?_
      refine G12_54 dX12_goOn_63 lfX12_102 ob1 ?_
      refine R_iload_n dX12_goOn_66 rfl 1 rfl ?_
      obtain ⟨ob9, hf⟩ := hf
      refine R_laload dX12_goOn_67 ob4 ob9 ?_
      refine R_lmul dX12_goOn_68 ?_
      refine R_ladd dX12_goOn_69 ?_
      exact R_lret dX12_goOn_70 rfl hf
    refine R_if_le (tgt := 49) dX12_goOn_40 (by decide) (fun b6 => ?_) (fun b6 => ?_)
    · refine R_iconst (v := 0) dX12_goOn_49 (by decide) ?_
      exact R_sub [0, 1, 2, 3] rfl (key _ (by rw [if_pos b6]))
    · refine R_iload_n dX12_goOn_43 rfl 1 rfl ?_
      refine R_iconst (v := 1) dX12_goOn_44 (by decide) ?_
      refine R_isub dX12_goOn_45 ?_
      refine R_goto (tgt := 50) dX12_goOn_46 (by decide) ?_
      exact R_sub [0, 1, 2, 3] rfl (key _ (by rw [if_neg b6]))
  refine R_icmp_ge (tgt := 27) dX12_goOn_18 (by decide) (fun b2 => ?_) (fun b2 => ?_)
  · refine R_bipush (v := 6) dX12_goOn_27 (by decide) ?_
    exact R_sub [0, 1, 4, 5] rfl (key _ (by rw [if_pos b2]))
  · refine R_iload_n dX12_goOn_21 rfl 1 rfl ?_
    refine R_iconst (v := 1) dX12_goOn_22 (by decide) ?_
    refine R_iadd dX12_goOn_23 ?_
    refine R_goto (tgt := 29) dX12_goOn_24 (by decide) ?_
    exact R_sub [0, 1, 4, 5] rfl (key _ (by rw [if_neg b2]))
theorem aX12_goOn {h : AH} {P : Option Value → AH → Prop} {r0 : Nat} {x1 : Int32} {y2 : Int64} {x4 : Int32} {x5 : Int32} {x6 : Int32} (o0 : isO h 12 r0) (o1 : isA h 1 (gF h r0 54)) (o2 : vp_in (if 6 ≤ x1 then 6 else (x1 + 1)) (ln (gF h r0 54))) (o3 : vp_in (if x1 ≤ 0 then 0 else (x1 - 1)) (ln (gF h r0 54))) (o4 : vp_in x1 (ln (gF h r0 54))) (k : P (some (.long (((((y2 * x4.toInt64) * x1.toInt64) + (x5.toInt64 * (gL h (gF h r0 54) (if 6 ≤ x1 then 6 else (x1 + 1)).toNatClampNeg))) + (x6.toInt64 * (gL h (gF h r0 54) (if x1 ≤ 0 then 0 else (x1 - 1)).toNatClampNeg))) + (((10 - x5) - x6).toInt64 * (gL h (gF h r0 54) x1.toNatClampNeg))))) h) : Call mX12_goOn [.ref r0, .int x1, .long y2, .int x4, .int x5, .int x6] h P :=
  Call.ofR (by decide +kernel) (Nat.le_of_ble_eq_true rfl) (sX12_goOn_0 h r0 x1 y2 x4 x5 x6 (⟨o0, fun z3 ez3 => by subst ez3; exact (⟨o1, ⟨o2, fun z7 ez7 => by subst ez7; exact (⟨o3, ⟨o4, k⟩⟩)⟩⟩)⟩))
theorem dX12_in_0 : decode cX12_in 0 = .ok (.iload_n 0, 1) := by decide +kernel
theorem dX12_in_1 : decode cX12_in 1 = .ok (.iload_n 1, 1) := by decide +kernel
theorem dX12_in_2 : decode cX12_in 2 = .ok (.if_icmp .lt 12, 3) := by decide +kernel
theorem dX12_in_5 : decode cX12_in 5 = .ok (.iload_n 0, 1) := by decide +kernel
theorem dX12_in_6 : decode cX12_in 6 = .ok (.iload_n 2, 1) := by decide +kernel
theorem dX12_in_7 : decode cX12_in 7 = .ok (.if_icmp .gt 7, 3) := by decide +kernel
theorem dX12_in_10 : decode cX12_in 10 = .ok (.iconst 1, 1) := by decide +kernel
theorem dX12_in_11 : decode cX12_in 11 = .ok (.goto 4, 3) := by decide +kernel
theorem dX12_in_14 : decode cX12_in 14 = .ok (.iconst 0, 1) := by decide +kernel
theorem dX12_in_15 : decode cX12_in 15 = .ok (.ireturn, 1) := by decide +kernel
set_option maxRecDepth 20000 in
theorem sX12_in_0 {P : Option Value → AH → Prop} (h : AH) (x0 : Int32) (x1 : Int32) (x2 : Int32) (hf : P (some (.int (bi (¬ x0 < x1 ∧ ¬ x2 < x0)))) h) : Rr mX12_in 0 0 0 [(0, .int x0), (1, .int x1), (2, .int x2)] [] h P := by
  refine R_iload_n dX12_in_0 rfl 0 rfl ?_
  refine R_iload_n dX12_in_1 rfl 1 rfl ?_
  have key :  Rr mX12_in 0 0 15 [] [.int (bi (¬ x0 < x1 ∧ ¬ x2 < x0))] h P := by
    exact R_iret dX12_in_15 rfl (nb_n (bi_01 _)) hf
  refine R_icmp_lt (tgt := 14) dX12_in_2 (by decide) (fun b1 => ?_) (fun b1 => ?_)
  · refine R_iconst (v := 0) dX12_in_14 (by decide) ?_
    have kb := key
    rw [show bi (¬ x0 < x1 ∧ ¬ x2 < x0) = 0 from by simp only [bi, b1, false_and, and_false, true_and, and_true, not_true_eq_false, not_false_eq_true, if_true, if_false, true_or, or_true, false_or, or_false, reduceIte]] at kb
    exact R_sub [] rfl kb
  · refine R_iload_n dX12_in_5 rfl 0 rfl ?_
    refine R_iload_n dX12_in_6 rfl 2 rfl ?_
    refine R_icmp_gt (tgt := 14) dX12_in_7 (by decide) (fun b2 => ?_) (fun b2 => ?_)
    · refine R_iconst (v := 0) dX12_in_14 (by decide) ?_
      have kb := key
      rw [show bi (¬ x0 < x1 ∧ ¬ x2 < x0) = 0 from by simp only [bi, b1, b2, false_and, and_false, true_and, and_true, not_true_eq_false, not_false_eq_true, if_true, if_false, true_or, or_true, false_or, or_false, reduceIte]] at kb
      exact R_sub [] rfl kb
    · refine R_iconst (v := 1) dX12_in_10 (by decide) ?_
      refine R_goto (tgt := 15) dX12_in_11 (by decide) ?_
      have kb := key
      rw [show bi (¬ x0 < x1 ∧ ¬ x2 < x0) = 1 from by simp only [bi, b1, b2, false_and, and_false, true_and, and_true, not_true_eq_false, not_false_eq_true, if_true, if_false, true_or, or_true, false_or, or_false, reduceIte]] at kb
      exact R_sub [] rfl kb
theorem aX12_in {h : AH} {P : Option Value → AH → Prop} {x0 : Int32} {x1 : Int32} {x2 : Int32}  (k : P (some (.int (bi (¬ x0 < x1 ∧ ¬ x2 < x0)))) h) : Call mX12_in [.int x0, .int x1, .int x2] h P :=
  Call.ofR (by decide +kernel) (Nat.le_of_ble_eq_true rfl) (sX12_in_0 h x0 x1 x2 (k))
theorem dX12_isAgain_0 : decode cX12_isAgain 0 = .ok (.aload_n 0, 1) := by decide +kernel
theorem dX12_isAgain_1 : decode cX12_isAgain 1 = .ok (.getfield 189, 3) := by decide +kernel
theorem dX12_isAgain_4 : decode cX12_isAgain 4 = .ok (.iload_n 1, 1) := by decide +kernel
theorem dX12_isAgain_5 : decode cX12_isAgain 5 = .ok (.ishr, 1) := by decide +kernel
theorem dX12_isAgain_6 : decode cX12_isAgain 6 = .ok (.iconst 1, 1) := by decide +kernel
theorem dX12_isAgain_7 : decode cX12_isAgain 7 = .ok (.iand, 1) := by decide +kernel
theorem dX12_isAgain_8 : decode cX12_isAgain 8 = .ok (.iconst 1, 1) := by decide +kernel
theorem dX12_isAgain_9 : decode cX12_isAgain 9 = .ok (.if_icmp .ne 7, 3) := by decide +kernel
theorem dX12_isAgain_12 : decode cX12_isAgain 12 = .ok (.iconst 1, 1) := by decide +kernel
theorem dX12_isAgain_13 : decode cX12_isAgain 13 = .ok (.goto 4, 3) := by decide +kernel
theorem dX12_isAgain_16 : decode cX12_isAgain 16 = .ok (.iconst 0, 1) := by decide +kernel
theorem dX12_isAgain_17 : decode cX12_isAgain 17 = .ok (.istore_n 2, 1) := by decide +kernel
theorem dX12_isAgain_18 : decode cX12_isAgain 18 = .ok (.aload_n 0, 1) := by decide +kernel
theorem dX12_isAgain_19 : decode cX12_isAgain 19 = .ok (.dup, 1) := by decide +kernel
theorem dX12_isAgain_20 : decode cX12_isAgain 20 = .ok (.getfield 189, 3) := by decide +kernel
theorem dX12_isAgain_23 : decode cX12_isAgain 23 = .ok (.iconst 1, 1) := by decide +kernel
theorem dX12_isAgain_24 : decode cX12_isAgain 24 = .ok (.iload_n 1, 1) := by decide +kernel
theorem dX12_isAgain_25 : decode cX12_isAgain 25 = .ok (.ishl, 1) := by decide +kernel
theorem dX12_isAgain_26 : decode cX12_isAgain 26 = .ok (.ior, 1) := by decide +kernel
theorem dX12_isAgain_27 : decode cX12_isAgain 27 = .ok (.putfield 189, 3) := by decide +kernel
theorem dX12_isAgain_30 : decode cX12_isAgain 30 = .ok (.iload_n 2, 1) := by decide +kernel
theorem dX12_isAgain_31 : decode cX12_isAgain 31 = .ok (.ireturn, 1) := by decide +kernel
set_option maxRecDepth 20000 in
theorem sX12_isAgain_0 {P : Option Value → AH → Prop} (h : AH) (r0 : Nat) (x1 : Int32) (hf : (isO h 12 r0) ∧ (P (some (.int (bi ((((gI h r0 21) >>> (x1 &&& 31)) &&& 1) = 1)))) (sI h r0 21 ((gI h r0 21) ||| ((1 : Int32) <<< (x1 &&& 31)))))) : Rr mX12_isAgain 0 0 0 [(0, .ref r0), (1, .int x1)] [] h P := by
  refine R_aload_n dX12_isAgain_0 rfl 0 rfl ?_
  obtain ⟨ob1, hf⟩ := hf
  refine G12_21 dX12_isAgain_1 lfX12_189 ob1 ?_
  refine R_iload_n dX12_isAgain_4 rfl 1 rfl ?_
  refine R_ishr dX12_isAgain_5 ?_
  refine R_iconst (v := 1) dX12_isAgain_6 (by decide) ?_
  refine R_iand dX12_isAgain_7 ?_
  refine R_iconst (v := 1) dX12_isAgain_8 (by decide) ?_
  have key :  Rr mX12_isAgain 0 0 17 [(0, .ref r0), (1, .int x1)] [.int (bi ((((gI h r0 21) >>> (x1 &&& 31)) &&& 1) = 1))] h P := by
    refine R_istore_n dX12_isAgain_17 rfl (by decide) rfl ?_
    refine R_aload_n dX12_isAgain_18 rfl 1 rfl ?_
    refine R_dup dX12_isAgain_19 rfl ?_
    refine G12_21 dX12_isAgain_20 lfX12_189 ob1 ?_
    refine R_iconst (v := 1) dX12_isAgain_23 (by decide) ?_
    refine R_iload_n dX12_isAgain_24 rfl 2 rfl ?_
    refine R_ishl dX12_isAgain_25 ?_
    refine R_ior dX12_isAgain_26 ?_
    refine S12_21 dX12_isAgain_27 lfX12_189 ob1 ?_
    refine R_iload_n dX12_isAgain_30 rfl 0 rfl ?_
    exact R_iret dX12_isAgain_31 rfl (nb_n (bi_01 _)) hf
  refine R_icmp_ne (tgt := 16) dX12_isAgain_9 (by decide) (fun b2 => ?_) (fun b2 => ?_)
  · refine R_iconst (v := 0) dX12_isAgain_16 (by decide) ?_
    have kb := key
    rw [show bi ((((gI h r0 21) >>> (x1 &&& 31)) &&& 1) = 1) = 0 from by simp only [bi, b2, false_and, and_false, true_and, and_true, not_true_eq_false, not_false_eq_true, if_true, if_false, true_or, or_true, false_or, or_false, reduceIte]] at kb
    exact R_sub [0, 1] rfl kb
  · refine R_iconst (v := 1) dX12_isAgain_12 (by decide) ?_
    refine R_goto (tgt := 17) dX12_isAgain_13 (by decide) ?_
    have kb := key
    rw [show bi ((((gI h r0 21) >>> (x1 &&& 31)) &&& 1) = 1) = 1 from by simp only [bi, b2, false_and, and_false, true_and, and_true, not_true_eq_false, not_false_eq_true, if_true, if_false, true_or, or_true, false_or, or_false, reduceIte]] at kb
    exact R_sub [0, 1] rfl kb
theorem aX12_isAgain {h : AH} {P : Option Value → AH → Prop} {r0 : Nat} {x1 : Int32} (o0 : isO h 12 r0) (k : P (some (.int (bi ((((gI h r0 21) >>> (x1 &&& 31)) &&& 1) = 1)))) (sI h r0 21 ((gI h r0 21) ||| ((1 : Int32) <<< (x1 &&& 31))))) : Call mX12_isAgain [.ref r0, .int x1] h P :=
  Call.ofR (by decide +kernel) (Nat.le_of_ble_eq_true rfl) (sX12_isAgain_0 h r0 x1 (⟨o0, k⟩))
theorem dX12_isDigit_0 : decode cX12_isDigit 0 = .ok (.iload_n 0, 1) := by decide +kernel
theorem dX12_isDigit_1 : decode cX12_isDigit 1 = .ok (.bipush 48, 2) := by decide +kernel
theorem dX12_isDigit_3 : decode cX12_isDigit 3 = .ok (.if_icmp .lt 13, 3) := by decide +kernel
theorem dX12_isDigit_6 : decode cX12_isDigit 6 = .ok (.iload_n 0, 1) := by decide +kernel
theorem dX12_isDigit_7 : decode cX12_isDigit 7 = .ok (.bipush 57, 2) := by decide +kernel
theorem dX12_isDigit_9 : decode cX12_isDigit 9 = .ok (.if_icmp .gt 7, 3) := by decide +kernel
theorem dX12_isDigit_12 : decode cX12_isDigit 12 = .ok (.iconst 1, 1) := by decide +kernel
theorem dX12_isDigit_13 : decode cX12_isDigit 13 = .ok (.goto 4, 3) := by decide +kernel
theorem dX12_isDigit_16 : decode cX12_isDigit 16 = .ok (.iconst 0, 1) := by decide +kernel
theorem dX12_isDigit_17 : decode cX12_isDigit 17 = .ok (.ireturn, 1) := by decide +kernel
set_option maxRecDepth 20000 in
theorem sX12_isDigit_0 {P : Option Value → AH → Prop} (h : AH) (x0 : Int32) (hf : P (some (.int (bi (¬ x0 < 48 ∧ ¬ 57 < x0)))) h) : Rr mX12_isDigit 0 0 0 [(0, .int x0)] [] h P := by
  refine R_iload_n dX12_isDigit_0 rfl 0 rfl ?_
  refine R_bipush (v := 48) dX12_isDigit_1 (by decide) ?_
  have key :  Rr mX12_isDigit 0 0 17 [] [.int (bi (¬ x0 < 48 ∧ ¬ 57 < x0))] h P := by
    exact R_iret dX12_isDigit_17 rfl (nb_n (bi_01 _)) hf
  refine R_icmp_lt (tgt := 16) dX12_isDigit_3 (by decide) (fun b1 => ?_) (fun b1 => ?_)
  · refine R_iconst (v := 0) dX12_isDigit_16 (by decide) ?_
    have kb := key
    rw [show bi (¬ x0 < 48 ∧ ¬ 57 < x0) = 0 from by simp only [bi, b1, false_and, and_false, true_and, and_true, not_true_eq_false, not_false_eq_true, if_true, if_false, true_or, or_true, false_or, or_false, reduceIte]] at kb
    exact R_sub [] rfl kb
  · refine R_iload_n dX12_isDigit_6 rfl 0 rfl ?_
    refine R_bipush (v := 57) dX12_isDigit_7 (by decide) ?_
    refine R_icmp_gt (tgt := 16) dX12_isDigit_9 (by decide) (fun b2 => ?_) (fun b2 => ?_)
    · refine R_iconst (v := 0) dX12_isDigit_16 (by decide) ?_
      have kb := key
      rw [show bi (¬ x0 < 48 ∧ ¬ 57 < x0) = 0 from by simp only [bi, b1, b2, false_and, and_false, true_and, and_true, not_true_eq_false, not_false_eq_true, if_true, if_false, true_or, or_true, false_or, or_false, reduceIte]] at kb
      exact R_sub [] rfl kb
    · refine R_iconst (v := 1) dX12_isDigit_12 (by decide) ?_
      refine R_goto (tgt := 17) dX12_isDigit_13 (by decide) ?_
      have kb := key
      rw [show bi (¬ x0 < 48 ∧ ¬ 57 < x0) = 1 from by simp only [bi, b1, b2, false_and, and_false, true_and, and_true, not_true_eq_false, not_false_eq_true, if_true, if_false, true_or, or_true, false_or, or_false, reduceIte]] at kb
      exact R_sub [] rfl kb
theorem aX12_isDigit {h : AH} {P : Option Value → AH → Prop} {x0 : Int32}  (k : P (some (.int (bi (¬ x0 < 48 ∧ ¬ 57 < x0)))) h) : Call mX12_isDigit [.int x0] h P :=
  Call.ofR (by decide +kernel) (Nat.le_of_ble_eq_true rfl) (sX12_isDigit_0 h x0 (k))
theorem dX12_isLevel_0 : decode cX12_isLevel 0 = .ok (.iconst 0, 1) := by decide +kernel
theorem dX12_isLevel_1 : decode cX12_isLevel 1 = .ok (.istore 5, 2) := by decide +kernel
theorem dX12_isLevel_3 : decode cX12_isLevel 3 = .ok (.iconst 0, 1) := by decide +kernel
theorem dX12_isLevel_4 : decode cX12_isLevel 4 = .ok (.istore 6, 2) := by decide +kernel
theorem dX12_isLevel_6 : decode cX12_isLevel 6 = .ok (.iload_n 1, 1) := by decide +kernel
theorem dX12_isLevel_7 : decode cX12_isLevel 7 = .ok (.istore 7, 2) := by decide +kernel
theorem dX12_isLevel_9 : decode cX12_isLevel 9 = .ok (.iload 7, 2) := by decide +kernel
theorem dX12_isLevel_11 : decode cX12_isLevel 11 = .ok (.iload_n 2, 1) := by decide +kernel
theorem dX12_isLevel_12 : decode cX12_isLevel 12 = .ok (.if_icmp .ge 67, 3) := by decide +kernel
theorem dX12_isLevel_15 : decode cX12_isLevel 15 = .ok (.aload_n 0, 1) := by decide +kernel
theorem dX12_isLevel_16 : decode cX12_isLevel 16 = .ok (.getfield 99, 3) := by decide +kernel
theorem dX12_isLevel_19 : decode cX12_isLevel 19 = .ok (.iload 7, 2) := by decide +kernel
theorem dX12_isLevel_21 : decode cX12_isLevel 21 = .ok (.iaload, 1) := by decide +kernel
theorem dX12_isLevel_22 : decode cX12_isLevel 22 = .ok (.iload 7, 2) := by decide +kernel
theorem dX12_isLevel_24 : decode cX12_isLevel 24 = .ok (.iload_n 3, 1) := by decide +kernel
theorem dX12_isLevel_25 : decode cX12_isLevel 25 = .ok (.imul, 1) := by decide +kernel
theorem dX12_isLevel_26 : decode cX12_isLevel 26 = .ok (.isub, 1) := by decide +kernel
theorem dX12_isLevel_27 : decode cX12_isLevel 27 = .ok (.istore 8, 2) := by decide +kernel
theorem dX12_isLevel_29 : decode cX12_isLevel 29 = .ok (.iload 7, 2) := by decide +kernel
theorem dX12_isLevel_31 : decode cX12_isLevel 31 = .ok (.iload_n 1, 1) := by decide +kernel
theorem dX12_isLevel_32 : decode cX12_isLevel 32 = .ok (.if_icmp .eq 10, 3) := by decide +kernel
theorem dX12_isLevel_35 : decode cX12_isLevel 35 = .ok (.iload 8, 2) := by decide +kernel
theorem dX12_isLevel_37 : decode cX12_isLevel 37 = .ok (.iload 5, 2) := by decide +kernel
theorem dX12_isLevel_39 : decode cX12_isLevel 39 = .ok (.if_icmp .ge 8, 3) := by decide +kernel
theorem dX12_isLevel_42 : decode cX12_isLevel 42 = .ok (.iload 8, 2) := by decide +kernel
theorem dX12_isLevel_44 : decode cX12_isLevel 44 = .ok (.goto 5, 3) := by decide +kernel
theorem dX12_isLevel_47 : decode cX12_isLevel 47 = .ok (.iload 5, 2) := by decide +kernel
theorem dX12_isLevel_49 : decode cX12_isLevel 49 = .ok (.istore 5, 2) := by decide +kernel
theorem dX12_isLevel_51 : decode cX12_isLevel 51 = .ok (.iload 7, 2) := by decide +kernel
theorem dX12_isLevel_53 : decode cX12_isLevel 53 = .ok (.iload_n 1, 1) := by decide +kernel
theorem dX12_isLevel_54 : decode cX12_isLevel 54 = .ok (.if_icmp .eq 10, 3) := by decide +kernel
theorem dX12_isLevel_57 : decode cX12_isLevel 57 = .ok (.iload 8, 2) := by decide +kernel
theorem dX12_isLevel_59 : decode cX12_isLevel 59 = .ok (.iload 6, 2) := by decide +kernel
theorem dX12_isLevel_61 : decode cX12_isLevel 61 = .ok (.if_icmp .le 8, 3) := by decide +kernel
theorem dX12_isLevel_64 : decode cX12_isLevel 64 = .ok (.iload 8, 2) := by decide +kernel
theorem dX12_isLevel_66 : decode cX12_isLevel 66 = .ok (.goto 5, 3) := by decide +kernel
theorem dX12_isLevel_69 : decode cX12_isLevel 69 = .ok (.iload 6, 2) := by decide +kernel
theorem dX12_isLevel_71 : decode cX12_isLevel 71 = .ok (.istore 6, 2) := by decide +kernel
theorem dX12_isLevel_73 : decode cX12_isLevel 73 = .ok (.iinc 7 1, 3) := by decide +kernel
theorem dX12_isLevel_76 : decode cX12_isLevel 76 = .ok (.goto (-67), 3) := by decide +kernel
theorem dX12_isLevel_79 : decode cX12_isLevel 79 = .ok (.iload 6, 2) := by decide +kernel
theorem dX12_isLevel_81 : decode cX12_isLevel 81 = .ok (.iload 5, 2) := by decide +kernel
theorem dX12_isLevel_83 : decode cX12_isLevel 83 = .ok (.isub, 1) := by decide +kernel
theorem dX12_isLevel_84 : decode cX12_isLevel 84 = .ok (.iconst 2, 1) := by decide +kernel
theorem dX12_isLevel_85 : decode cX12_isLevel 85 = .ok (.iload 4, 2) := by decide +kernel
theorem dX12_isLevel_87 : decode cX12_isLevel 87 = .ok (.imul, 1) := by decide +kernel
theorem dX12_isLevel_88 : decode cX12_isLevel 88 = .ok (.if_icmp .gt 7, 3) := by decide +kernel
theorem dX12_isLevel_91 : decode cX12_isLevel 91 = .ok (.iconst 1, 1) := by decide +kernel
theorem dX12_isLevel_92 : decode cX12_isLevel 92 = .ok (.goto 4, 3) := by decide +kernel
theorem dX12_isLevel_95 : decode cX12_isLevel 95 = .ok (.iconst 0, 1) := by decide +kernel
theorem dX12_isLevel_96 : decode cX12_isLevel 96 = .ok (.ireturn, 1) := by decide +kernel
set_option maxRecDepth 20000 in
theorem sX12_isLevel_0 {P : Option Value → AH → Prop} (h : AH) (r0 : Nat) (x1 : Int32) (x2 : Int32) (x3 : Int32) (x4 : Int32) (hf : Rr mX12_isLevel 0 0 9 [(0, .ref r0), (1, .int x1), (2, .int x2), (3, .int x3), (4, .int x4), (5, .int 0), (6, .int 0), (7, .int x1)] [] h P) : Rr mX12_isLevel 0 0 0 [(0, .ref r0), (1, .int x1), (2, .int x2), (3, .int x3), (4, .int x4)] [] h P := by
  refine R_iconst (v := 0) dX12_isLevel_0 (by decide) ?_
  refine R_istore dX12_isLevel_1 (by decide) rfl ?_
  refine R_iconst (v := 0) dX12_isLevel_3 (by decide) ?_
  refine R_istore dX12_isLevel_4 (by decide) rfl ?_
  refine R_iload_n dX12_isLevel_6 rfl 3 rfl ?_
  refine R_istore dX12_isLevel_7 (by decide) rfl ?_
  exact R_sub [3, 4, 5, 6, 7, 2, 1, 0] rfl hf
set_option maxRecDepth 20000 in
theorem sX12_isLevel_9 {P : Option Value → AH → Prop} (h : AH) (r0 : Nat) (x1 : Int32) (x2 : Int32) (x3 : Int32) (x4 : Int32) (x5 : Int32) (x6 : Int32) (x7 : Int32) (hf : (x2 ≤ x7 → P (some (.int (bi (¬ (2 * x4) < (x6 - x5))))) h) ∧ (¬ x2 ≤ x7 → (isO h 12 r0) ∧ ((isA h 0 (gF h r0 53)) ∧ ((vp_in x7 (ln (gF h r0 53))) ∧ (∀ z8 : Int32, z8 = (if x7 = x1 then ((gI h (gF h r0 53) x7.toNatClampNeg) - (x7 * x3)) else (if x5 ≤ ((gI h (gF h r0 53) x7.toNatClampNeg) - (x7 * x3)) then x5 else ((gI h (gF h r0 53) x7.toNatClampNeg) - (x7 * x3)))) → (∀ z11 : Int32, z11 = (if x7 = x1 then ((gI h (gF h r0 53) x7.toNatClampNeg) - (x7 * x3)) else (if ((gI h (gF h r0 53) x7.toNatClampNeg) - (x7 * x3)) ≤ x6 then x6 else ((gI h (gF h r0 53) x7.toNatClampNeg) - (x7 * x3)))) → (Rr mX12_isLevel 0 0 9 [(0, .ref r0), (1, .int x1), (2, .int x2), (3, .int x3), (4, .int x4), (5, .int z8), (6, .int z11), (7, .int (x7 + 1))] [] h P))))))) : Rr mX12_isLevel 0 0 9 [(0, .ref r0), (1, .int x1), (2, .int x2), (3, .int x3), (4, .int x4), (5, .int x5), (6, .int x6), (7, .int x7)] [] h P := by
  refine R_iload dX12_isLevel_9 7 rfl ?_
  refine R_iload_n dX12_isLevel_11 rfl 2 rfl ?_
  refine R_icmp_ge (tgt := 79) dX12_isLevel_12 (by decide) (fun b1 => ?_) (fun b1 => ?_)
  · have hf := hf.1 b1
    refine R_iload dX12_isLevel_79 6 rfl ?_
    refine R_iload dX12_isLevel_81 5 rfl ?_
    refine R_isub dX12_isLevel_83 ?_
    refine R_iconst (v := 2) dX12_isLevel_84 (by decide) ?_
    refine R_iload dX12_isLevel_85 4 rfl ?_
    refine R_imul dX12_isLevel_87 ?_
    have key :  Rr mX12_isLevel 0 0 96 [] [.int (bi (¬ (2 * x4) < (x6 - x5)))] h P := by
      exact R_iret dX12_isLevel_96 rfl (nb_n (bi_01 _)) hf
    refine R_icmp_gt (tgt := 95) dX12_isLevel_88 (by decide) (fun b2 => ?_) (fun b2 => ?_)
    · refine R_iconst (v := 0) dX12_isLevel_95 (by decide) ?_
      have kb := key
      rw [show bi (¬ (2 * x4) < (x6 - x5)) = 0 from by simp only [bi, b2, false_and, and_false, true_and, and_true, not_true_eq_false, not_false_eq_true, if_true, if_false, true_or, or_true, false_or, or_false, reduceIte]] at kb
      exact R_sub [] rfl kb
    · refine R_iconst (v := 1) dX12_isLevel_91 (by decide) ?_
      refine R_goto (tgt := 96) dX12_isLevel_92 (by decide) ?_
      have kb := key
      rw [show bi (¬ (2 * x4) < (x6 - x5)) = 1 from by simp only [bi, b2, false_and, and_false, true_and, and_true, not_true_eq_false, not_false_eq_true, if_true, if_false, true_or, or_true, false_or, or_false, reduceIte]] at kb
      exact R_sub [] rfl kb
  · have hf := hf.2 b1
    refine R_aload_n dX12_isLevel_15 rfl 0 rfl ?_
    obtain ⟨ob3, hf⟩ := hf
    refine G12_53 dX12_isLevel_16 lfX12_99 ob3 ?_
    refine R_iload dX12_isLevel_19 7 rfl ?_
    obtain ⟨ob4, hf⟩ := hf
    obtain ⟨ob5, hf⟩ := hf
    refine R_iaload dX12_isLevel_21 ob4 ob5 ?_
    refine R_iload dX12_isLevel_22 7 rfl ?_
    refine R_iload_n dX12_isLevel_24 rfl 3 rfl ?_
    refine R_imul dX12_isLevel_25 ?_
    refine R_isub dX12_isLevel_26 ?_
    refine R_istore dX12_isLevel_27 (by decide) rfl ?_
    refine R_iload dX12_isLevel_29 8 rfl ?_
    refine R_iload_n dX12_isLevel_31 rfl 2 rfl ?_
    have key : ∀ z8 : Int32, z8 = (if x7 = x1 then ((gI h (gF h r0 53) x7.toNatClampNeg) - (x7 * x3)) else (if x5 ≤ ((gI h (gF h r0 53) x7.toNatClampNeg) - (x7 * x3)) then x5 else ((gI h (gF h r0 53) x7.toNatClampNeg) - (x7 * x3)))) → Rr mX12_isLevel 0 0 49 [(0, .ref r0), (1, .int x1), (2, .int x2), (3, .int x3), (4, .int x4), (6, .int x6), (7, .int x7), (8, .int ((gI h (gF h r0 53) x7.toNatClampNeg) - (x7 * x3)))] [.int z8] h P := by
      intro z8 ez8
      have hf := hf z8 ez8
      refine R_istore dX12_isLevel_49 (by decide) rfl ?_
      refine R_iload dX12_isLevel_51 7 rfl ?_
      refine R_iload_n dX12_isLevel_53 rfl 2 rfl ?_
      have key : ∀ z11 : Int32, z11 = (if x7 = x1 then ((gI h (gF h r0 53) x7.toNatClampNeg) - (x7 * x3)) else (if ((gI h (gF h r0 53) x7.toNatClampNeg) - (x7 * x3)) ≤ x6 then x6 else ((gI h (gF h r0 53) x7.toNatClampNeg) - (x7 * x3)))) → Rr mX12_isLevel 0 0 71 [(0, .ref r0), (1, .int x1), (2, .int x2), (3, .int x3), (4, .int x4), (5, .int z8), (7, .int x7)] [.int z11] h P := by
        intro z11 ez11
        have hf := hf z11 ez11
        refine R_istore dX12_isLevel_71 (by decide) rfl ?_
        refine R_iinc (v := x7 + 1) dX12_isLevel_73 7 rfl rfl (by decide) rfl ?_
        refine R_goto (tgt := 9) dX12_isLevel_76 (by decide) ?_
        exact R_sub [2, 3, 4, 5, 6, 7, 1, 0] rfl hf
      refine R_icmp_eq (tgt := 64) dX12_isLevel_54 (by decide) (fun b9 => ?_) (fun b9 => ?_)
      · refine R_iload dX12_isLevel_64 8 rfl ?_
        refine R_goto (tgt := 71) dX12_isLevel_66 (by decide) ?_
        exact R_sub [1, 2, 3, 4, 5, 0, 7] rfl (key _ (by rw [if_pos b9]))
      · refine R_iload dX12_isLevel_57 8 rfl ?_
        refine R_iload dX12_isLevel_59 6 rfl ?_
        refine R_icmp_le (tgt := 69) dX12_isLevel_61 (by decide) (fun b10 => ?_) (fun b10 => ?_)
        · refine R_iload dX12_isLevel_69 6 rfl ?_
          exact R_sub [1, 2, 3, 4, 5, 0, 7] rfl (key _ (by rw [if_neg b9, if_pos b10]))
        · refine R_iload dX12_isLevel_64 8 rfl ?_
          refine R_goto (tgt := 71) dX12_isLevel_66 (by decide) ?_
          exact R_sub [1, 2, 3, 4, 5, 0, 7] rfl (key _ (by rw [if_neg b9, if_neg b10]))
    refine R_icmp_eq (tgt := 42) dX12_isLevel_32 (by decide) (fun b6 => ?_) (fun b6 => ?_)
    · refine R_iload dX12_isLevel_42 0 rfl ?_
      refine R_goto (tgt := 49) dX12_isLevel_44 (by decide) ?_
      exact R_sub [1, 2, 3, 4, 5, 7, 8, 0] rfl (key _ (by rw [if_pos b6]))
    · refine R_iload dX12_isLevel_35 0 rfl ?_
      refine R_iload dX12_isLevel_37 6 rfl ?_
      refine R_icmp_ge (tgt := 47) dX12_isLevel_39 (by decide) (fun b7 => ?_) (fun b7 => ?_)
      · refine R_iload dX12_isLevel_47 6 rfl ?_
        exact R_sub [1, 2, 3, 4, 5, 7, 8, 0] rfl (key _ (by rw [if_neg b6, if_pos b7]))
      · refine R_iload dX12_isLevel_42 0 rfl ?_
        refine R_goto (tgt := 49) dX12_isLevel_44 (by decide) ?_
        exact R_sub [1, 2, 3, 4, 5, 7, 8, 0] rfl (key _ (by rw [if_neg b6, if_neg b7]))
theorem dX12_isSmall_0 : decode cX12_isSmall 0 = .ok (.iload_n 0, 1) := by decide +kernel
theorem dX12_isSmall_1 : decode cX12_isSmall 1 = .ok (.bipush 97, 2) := by decide +kernel
theorem dX12_isSmall_3 : decode cX12_isSmall 3 = .ok (.if_icmp .lt 13, 3) := by decide +kernel
theorem dX12_isSmall_6 : decode cX12_isSmall 6 = .ok (.iload_n 0, 1) := by decide +kernel
theorem dX12_isSmall_7 : decode cX12_isSmall 7 = .ok (.bipush 122, 2) := by decide +kernel
theorem dX12_isSmall_9 : decode cX12_isSmall 9 = .ok (.if_icmp .gt 7, 3) := by decide +kernel
theorem dX12_isSmall_12 : decode cX12_isSmall 12 = .ok (.iconst 1, 1) := by decide +kernel
theorem dX12_isSmall_13 : decode cX12_isSmall 13 = .ok (.goto 4, 3) := by decide +kernel
theorem dX12_isSmall_16 : decode cX12_isSmall 16 = .ok (.iconst 0, 1) := by decide +kernel
theorem dX12_isSmall_17 : decode cX12_isSmall 17 = .ok (.ireturn, 1) := by decide +kernel
set_option maxRecDepth 20000 in
theorem sX12_isSmall_0 {P : Option Value → AH → Prop} (h : AH) (x0 : Int32) (hf : P (some (.int (bi (¬ x0 < 97 ∧ ¬ 122 < x0)))) h) : Rr mX12_isSmall 0 0 0 [(0, .int x0)] [] h P := by
  refine R_iload_n dX12_isSmall_0 rfl 0 rfl ?_
  refine R_bipush (v := 97) dX12_isSmall_1 (by decide) ?_
  have key :  Rr mX12_isSmall 0 0 17 [] [.int (bi (¬ x0 < 97 ∧ ¬ 122 < x0))] h P := by
    exact R_iret dX12_isSmall_17 rfl (nb_n (bi_01 _)) hf
  refine R_icmp_lt (tgt := 16) dX12_isSmall_3 (by decide) (fun b1 => ?_) (fun b1 => ?_)
  · refine R_iconst (v := 0) dX12_isSmall_16 (by decide) ?_
    have kb := key
    rw [show bi (¬ x0 < 97 ∧ ¬ 122 < x0) = 0 from by simp only [bi, b1, false_and, and_false, true_and, and_true, not_true_eq_false, not_false_eq_true, if_true, if_false, true_or, or_true, false_or, or_false, reduceIte]] at kb
    exact R_sub [] rfl kb
  · refine R_iload_n dX12_isSmall_6 rfl 0 rfl ?_
    refine R_bipush (v := 122) dX12_isSmall_7 (by decide) ?_
    refine R_icmp_gt (tgt := 16) dX12_isSmall_9 (by decide) (fun b2 => ?_) (fun b2 => ?_)
    · refine R_iconst (v := 0) dX12_isSmall_16 (by decide) ?_
      have kb := key
      rw [show bi (¬ x0 < 97 ∧ ¬ 122 < x0) = 0 from by simp only [bi, b1, b2, false_and, and_false, true_and, and_true, not_true_eq_false, not_false_eq_true, if_true, if_false, true_or, or_true, false_or, or_false, reduceIte]] at kb
      exact R_sub [] rfl kb
    · refine R_iconst (v := 1) dX12_isSmall_12 (by decide) ?_
      refine R_goto (tgt := 17) dX12_isSmall_13 (by decide) ?_
      have kb := key
      rw [show bi (¬ x0 < 97 ∧ ¬ 122 < x0) = 1 from by simp only [bi, b1, b2, false_and, and_false, true_and, and_true, not_true_eq_false, not_false_eq_true, if_true, if_false, true_or, or_true, false_or, or_false, reduceIte]] at kb
      exact R_sub [] rfl kb
theorem aX12_isSmall {h : AH} {P : Option Value → AH → Prop} {x0 : Int32}  (k : P (some (.int (bi (¬ x0 < 97 ∧ ¬ 122 < x0)))) h) : Call mX12_isSmall [.int x0] h P :=
  Call.ofR (by decide +kernel) (Nat.le_of_ble_eq_true rfl) (sX12_isSmall_0 h x0 (k))
theorem dX12_note_0 : decode cX12_note 0 = .ok (.aload_n 0, 1) := by decide +kernel
theorem dX12_note_1 : decode cX12_note 1 = .ok (.getfield 84, 3) := by decide +kernel
theorem dX12_note_4 : decode cX12_note 4 = .ok (.iload_n 1, 1) := by decide +kernel
theorem dX12_note_5 : decode cX12_note 5 = .ok (.aload_n 0, 1) := by decide +kernel
theorem dX12_note_6 : decode cX12_note 6 = .ok (.getfield 279, 3) := by decide +kernel
theorem dX12_note_9 : decode cX12_note 9 = .ok (.ifCond .eq 13, 3) := by decide +kernel
theorem dX12_note_12 : decode cX12_note 12 = .ok (.iload_n 2, 1) := by decide +kernel
theorem dX12_note_13 : decode cX12_note 13 = .ok (.aload_n 0, 1) := by decide +kernel
theorem dX12_note_14 : decode cX12_note 14 = .ok (.getfield 84, 3) := by decide +kernel
theorem dX12_note_17 : decode cX12_note 17 = .ok (.iload_n 1, 1) := by decide +kernel
theorem dX12_note_18 : decode cX12_note 18 = .ok (.iaload, 1) := by decide +kernel
theorem dX12_note_19 : decode cX12_note 19 = .ok (.if_icmp .ge 7, 3) := by decide +kernel
theorem dX12_note_22 : decode cX12_note 22 = .ok (.iload_n 2, 1) := by decide +kernel
theorem dX12_note_23 : decode cX12_note 23 = .ok (.goto 9, 3) := by decide +kernel
theorem dX12_note_26 : decode cX12_note 26 = .ok (.aload_n 0, 1) := by decide +kernel
theorem dX12_note_27 : decode cX12_note 27 = .ok (.getfield 84, 3) := by decide +kernel
theorem dX12_note_30 : decode cX12_note 30 = .ok (.iload_n 1, 1) := by decide +kernel
theorem dX12_note_31 : decode cX12_note 31 = .ok (.iaload, 1) := by decide +kernel
theorem dX12_note_32 : decode cX12_note 32 = .ok (.iastore, 1) := by decide +kernel
theorem dX12_note_33 : decode cX12_note 33 = .ok (.aload_n 0, 1) := by decide +kernel
theorem dX12_note_34 : decode cX12_note 34 = .ok (.getfield 87, 3) := by decide +kernel
theorem dX12_note_37 : decode cX12_note 37 = .ok (.iload_n 1, 1) := by decide +kernel
theorem dX12_note_38 : decode cX12_note 38 = .ok (.aload_n 0, 1) := by decide +kernel
theorem dX12_note_39 : decode cX12_note 39 = .ok (.getfield 279, 3) := by decide +kernel
theorem dX12_note_42 : decode cX12_note 42 = .ok (.ifCond .eq 13, 3) := by decide +kernel
theorem dX12_note_45 : decode cX12_note 45 = .ok (.iload_n 2, 1) := by decide +kernel
theorem dX12_note_46 : decode cX12_note 46 = .ok (.aload_n 0, 1) := by decide +kernel
theorem dX12_note_47 : decode cX12_note 47 = .ok (.getfield 87, 3) := by decide +kernel
theorem dX12_note_50 : decode cX12_note 50 = .ok (.iload_n 1, 1) := by decide +kernel
theorem dX12_note_51 : decode cX12_note 51 = .ok (.iaload, 1) := by decide +kernel
theorem dX12_note_52 : decode cX12_note 52 = .ok (.if_icmp .le 7, 3) := by decide +kernel
theorem dX12_note_55 : decode cX12_note 55 = .ok (.iload_n 2, 1) := by decide +kernel
theorem dX12_note_56 : decode cX12_note 56 = .ok (.goto 9, 3) := by decide +kernel
theorem dX12_note_59 : decode cX12_note 59 = .ok (.aload_n 0, 1) := by decide +kernel
theorem dX12_note_60 : decode cX12_note 60 = .ok (.getfield 87, 3) := by decide +kernel
theorem dX12_note_63 : decode cX12_note 63 = .ok (.iload_n 1, 1) := by decide +kernel
theorem dX12_note_64 : decode cX12_note 64 = .ok (.iaload, 1) := by decide +kernel
theorem dX12_note_65 : decode cX12_note 65 = .ok (.iastore, 1) := by decide +kernel
theorem dX12_note_66 : decode cX12_note 66 = .ok (.return_, 1) := by decide +kernel
set_option maxRecDepth 20000 in
theorem sX12_note_0 {P : Option Value → AH → Prop} (h : AH) (r0 : Nat) (x1 : Int32) (x2 : Int32) (hf : (isO h 12 r0) ∧ ((isA h 0 (gF h r0 41)) ∧ ((¬ (gI h r0 40) = 0 → vp_in x1 (ln (gF h r0 41))) ∧ ((¬ (gI h r0 40) = 0 → (gI h (gF h r0 41) x1.toNatClampNeg) ≤ x2 → vp_in x1 (ln (gF h r0 41))) ∧ (∀ z7 : Int32, z7 = (if (gI h r0 40) = 0 then x2 else (if (gI h (gF h r0 41) x1.toNatClampNeg) ≤ x2 then (gI h (gF h r0 41) x1.toNatClampNeg) else x2)) → ((vp_in x1 (ln (gF h r0 41))) ∧ ((isA h 0 (gF h r0 42)) ∧ ((¬ (gI h r0 40) = 0 → vp_in x1 (ln (gF h r0 42))) ∧ ((¬ (gI h r0 40) = 0 → x2 ≤ (gI (sI h (gF h r0 41) x1.toNatClampNeg z7) (gF h r0 42) x1.toNatClampNeg) → vp_in x1 (ln (gF h r0 42))) ∧ (∀ z14 : Int32, z14 = (if (gI h r0 40) = 0 then x2 else (if x2 ≤ (gI (sI h (gF h r0 41) x1.toNatClampNeg z7) (gF h r0 42) x1.toNatClampNeg) then (gI (sI h (gF h r0 41) x1.toNatClampNeg z7) (gF h r0 42) x1.toNatClampNeg) else x2)) → ((vp_in x1 (ln (gF h r0 42))) ∧ (P none (sI (sI h (gF h r0 41) x1.toNatClampNeg z7) (gF h r0 42) x1.toNatClampNeg z14))))))))))))) : Rr mX12_note 0 0 0 [(0, .ref r0), (1, .int x1), (2, .int x2)] [] h P := by
  refine R_aload_n dX12_note_0 rfl 0 rfl ?_
  obtain ⟨ob1, hf⟩ := hf
  refine G12_41 dX12_note_1 lfX12_84 ob1 ?_
  refine R_iload_n dX12_note_4 rfl 1 rfl ?_
  refine R_aload_n dX12_note_5 rfl 0 rfl ?_
  refine G12_40 dX12_note_6 lfX12_279 ob1 ?_
  obtain ⟨ob3, hf⟩ := hf
  obtain ⟨ob4, hf⟩ := hf
  obtain ⟨ob6, hf⟩ := hf
  have key : ∀ z7 : Int32, z7 = (if (gI h r0 40) = 0 then x2 else (if (gI h (gF h r0 41) x1.toNatClampNeg) ≤ x2 then (gI h (gF h r0 41) x1.toNatClampNeg) else x2)) → Rr mX12_note 0 0 32 [(0, .ref r0), (1, .int x1), (2, .int x2)] [.int z7, .int x1, .ref (gF h r0 41)] h P := by
    intro z7 ez7
    have hf := hf z7 ez7
    obtain ⟨ob8, hf⟩ := hf
    refine R_iastore dX12_note_32 ob3 ob8 ?_
    refine R_aload_n dX12_note_33 rfl 0 rfl ?_
    refine G12_42 dX12_note_34 lfX12_87 ob1 ?_
    refine R_eqF (y := gF h r0 42) rfl ?_
    refine R_iload_n dX12_note_37 rfl 1 rfl ?_
    refine R_aload_n dX12_note_38 rfl 0 rfl ?_
    refine G12_40 dX12_note_39 lfX12_279 ob1 ?_
    refine R_eqI (y := gI h r0 40) (rd_r (ne_oa ob1 ob3 (by decide))) ?_
    obtain ⟨ob10, hf⟩ := hf
    obtain ⟨ob11, hf⟩ := hf
    obtain ⟨ob13, hf⟩ := hf
    have key : ∀ z14 : Int32, z14 = (if (gI h r0 40) = 0 then x2 else (if x2 ≤ (gI (sI h (gF h r0 41) x1.toNatClampNeg z7) (gF h r0 42) x1.toNatClampNeg) then (gI (sI h (gF h r0 41) x1.toNatClampNeg z7) (gF h r0 42) x1.toNatClampNeg) else x2)) → Rr mX12_note 0 0 65 [] [.int z14, .int x1, .ref (gF h r0 42)] (sI h (gF h r0 41) x1.toNatClampNeg z7) P := by
      intro z14 ez14
      have hf := hf z14 ez14
      obtain ⟨ob15, hf⟩ := hf
      refine R_iastore dX12_note_65 ob10 ob15 ?_
      exact R_ret dX12_note_66 rfl hf
    refine R_if_eq (tgt := 55) dX12_note_42 (by decide) (fun b9 => ?_) (fun b9 => ?_)
    · refine R_iload_n dX12_note_55 rfl 2 rfl ?_
      refine R_goto (tgt := 65) dX12_note_56 (by decide) ?_
      exact R_sub [] rfl (key _ (by rw [if_pos b9]))
    · refine R_iload_n dX12_note_45 rfl 2 rfl ?_
      refine R_aload_n dX12_note_46 rfl 0 rfl ?_
      refine G12_42 dX12_note_47 lfX12_87 ob1 ?_
      refine R_eqF (y := gF h r0 42) rfl ?_
      refine R_iload_n dX12_note_50 rfl 1 rfl ?_
      refine R_iaload dX12_note_51 ob10 (ob11 b9) ?_
      refine R_icmp_le (tgt := 59) dX12_note_52 (by decide) (fun b12 => ?_) (fun b12 => ?_)
      · refine R_aload_n dX12_note_59 rfl 0 rfl ?_
        refine G12_42 dX12_note_60 lfX12_87 ob1 ?_
        refine R_eqF (y := gF h r0 42) rfl ?_
        refine R_iload_n dX12_note_63 rfl 1 rfl ?_
        refine R_iaload dX12_note_64 ob10 (ob13 b9 b12) ?_
        exact R_sub [] rfl (key _ (by rw [if_neg b9, if_pos b12]))
      · refine R_iload_n dX12_note_55 rfl 2 rfl ?_
        refine R_goto (tgt := 65) dX12_note_56 (by decide) ?_
        exact R_sub [] rfl (key _ (by rw [if_neg b9, if_neg b12]))
  refine R_if_eq (tgt := 22) dX12_note_9 (by decide) (fun b2 => ?_) (fun b2 => ?_)
  · refine R_iload_n dX12_note_22 rfl 2 rfl ?_
    refine R_goto (tgt := 32) dX12_note_23 (by decide) ?_
    exact R_sub [0, 1, 2] rfl (key _ (by rw [if_pos b2]))
  · refine R_iload_n dX12_note_12 rfl 2 rfl ?_
    refine R_aload_n dX12_note_13 rfl 0 rfl ?_
    refine G12_41 dX12_note_14 lfX12_84 ob1 ?_
    refine R_iload_n dX12_note_17 rfl 1 rfl ?_
    refine R_iaload dX12_note_18 ob3 (ob4 b2) ?_
    refine R_icmp_ge (tgt := 26) dX12_note_19 (by decide) (fun b5 => ?_) (fun b5 => ?_)
    · refine R_aload_n dX12_note_26 rfl 0 rfl ?_
      refine G12_41 dX12_note_27 lfX12_84 ob1 ?_
      refine R_iload_n dX12_note_30 rfl 1 rfl ?_
      refine R_iaload dX12_note_31 ob3 (ob6 b2 b5) ?_
      exact R_sub [0, 1, 2] rfl (key _ (by rw [if_neg b2, if_pos b5]))
    · refine R_iload_n dX12_note_22 rfl 2 rfl ?_
      refine R_goto (tgt := 32) dX12_note_23 (by decide) ?_
      exact R_sub [0, 1, 2] rfl (key _ (by rw [if_neg b2, if_neg b5]))
theorem aX12_note {h : AH} {P : Option Value → AH → Prop} {r0 : Nat} {x1 : Int32} {x2 : Int32} (o0 : isO h 12 r0) (o1 : isA h 0 (gF h r0 41)) (o2 : ¬ (gI h r0 40) = 0 → vp_in x1 (ln (gF h r0 41))) (o3 : ¬ (gI h r0 40) = 0 → (gI h (gF h r0 41) x1.toNatClampNeg) ≤ x2 → vp_in x1 (ln (gF h r0 41))) (o4 : vp_in x1 (ln (gF h r0 41))) (o5 : isA h 0 (gF h r0 42)) (o6 : ¬ (gI h r0 40) = 0 → vp_in x1 (ln (gF h r0 42))) (o7 : ¬ (gI h r0 40) = 0 → x2 ≤ (gI (sI h (gF h r0 41) x1.toNatClampNeg (if (gI h r0 40) = 0 then x2 else (if (gI h (gF h r0 41) x1.toNatClampNeg) ≤ x2 then (gI h (gF h r0 41) x1.toNatClampNeg) else x2))) (gF h r0 42) x1.toNatClampNeg) → vp_in x1 (ln (gF h r0 42))) (o8 : vp_in x1 (ln (gF h r0 42))) (k : P none (sI (sI h (gF h r0 41) x1.toNatClampNeg (if (gI h r0 40) = 0 then x2 else (if (gI h (gF h r0 41) x1.toNatClampNeg) ≤ x2 then (gI h (gF h r0 41) x1.toNatClampNeg) else x2))) (gF h r0 42) x1.toNatClampNeg (if (gI h r0 40) = 0 then x2 else (if x2 ≤ (gI (sI h (gF h r0 41) x1.toNatClampNeg (if (gI h r0 40) = 0 then x2 else (if (gI h (gF h r0 41) x1.toNatClampNeg) ≤ x2 then (gI h (gF h r0 41) x1.toNatClampNeg) else x2))) (gF h r0 42) x1.toNatClampNeg) then (gI (sI h (gF h r0 41) x1.toNatClampNeg (if (gI h r0 40) = 0 then x2 else (if (gI h (gF h r0 41) x1.toNatClampNeg) ≤ x2 then (gI h (gF h r0 41) x1.toNatClampNeg) else x2))) (gF h r0 42) x1.toNatClampNeg) else x2)))) : Call mX12_note [.ref r0, .int x1, .int x2] h P :=
  Call.ofR (by decide +kernel) (Nat.le_of_ble_eq_true rfl) (sX12_note_0 h r0 x1 x2 (⟨o0, ⟨o1, ⟨o2, ⟨o3, fun z7 ez7 => by subst ez7; exact (⟨o4, ⟨o5, ⟨o6, ⟨o7, fun z14 ez14 => by subst ez14; exact (⟨o8, k⟩)⟩⟩⟩⟩)⟩⟩⟩⟩))
theorem dX12_plain_0 : decode cX12_plain 0 = .ok (.iload_n 0, 1) := by decide +kernel
theorem dX12_plain_1 : decode cX12_plain 1 = .ok (.ifCond .ge 8, 3) := by decide +kernel
theorem dX12_plain_4 : decode cX12_plain 4 = .ok (.iload_n 0, 1) := by decide +kernel
theorem dX12_plain_5 : decode cX12_plain 5 = .ok (.ineg, 1) := by decide +kernel
theorem dX12_plain_6 : decode cX12_plain 6 = .ok (.goto 4, 3) := by decide +kernel
theorem dX12_plain_9 : decode cX12_plain 9 = .ok (.iload_n 0, 1) := by decide +kernel
theorem dX12_plain_10 : decode cX12_plain 10 = .ok (.ireturn, 1) := by decide +kernel
set_option maxRecDepth 20000 in
theorem sX12_plain_0 {P : Option Value → AH → Prop} (h : AH) (x0 : Int32) (hf : ∀ z2 : Int32, z2 = (if 0 ≤ x0 then x0 else (-x0)) → (P (some (.int z2)) h)) : Rr mX12_plain 0 0 0 [(0, .int x0)] [] h P := by
  refine R_iload_n dX12_plain_0 rfl 0 rfl ?_
  have key : ∀ z2 : Int32, z2 = (if 0 ≤ x0 then x0 else (-x0)) → Rr mX12_plain 0 0 10 [] [.int z2] h P := by
    intro z2 ez2
    have hf := hf z2 ez2
    exact R_iret dX12_plain_10 rfl rfl hf
  refine R_if_ge (tgt := 9) dX12_plain_1 (by decide) (fun b1 => ?_) (fun b1 => ?_)
  · refine R_iload_n dX12_plain_9 rfl 0 rfl ?_
    exact R_sub [] rfl (key _ (by rw [if_pos b1]))
  · refine R_iload_n dX12_plain_4 rfl 0 rfl ?_
    refine R_ineg dX12_plain_5 ?_
    refine R_goto (tgt := 10) dX12_plain_6 (by decide) ?_
    exact R_sub [] rfl (key _ (by rw [if_neg b1]))
theorem aX12_plain {h : AH} {P : Option Value → AH → Prop} {x0 : Int32}  (k : P (some (.int (if 0 ≤ x0 then x0 else (-x0)))) h) : Call mX12_plain [.int x0] h P :=
  Call.ofR (by decide +kernel) (Nat.le_of_ble_eq_true rfl) (sX12_plain_0 h x0 (fun z2 ez2 => by subst ez2; exact (k)))
theorem dX12_shiftedRow_0 : decode cX12_shiftedRow 0 = .ok (.iload_n 1, 1) := by decide +kernel
theorem dX12_shiftedRow_1 : decode cX12_shiftedRow 1 = .ok (.ifCond .ge 10, 3) := by decide +kernel
theorem dX12_shiftedRow_4 : decode cX12_shiftedRow 4 = .ok (.iload_n 0, 1) := by decide +kernel
theorem dX12_shiftedRow_5 : decode cX12_shiftedRow 5 = .ok (.iload_n 1, 1) := by decide +kernel
theorem dX12_shiftedRow_6 : decode cX12_shiftedRow 6 = .ok (.ineg, 1) := by decide +kernel
theorem dX12_shiftedRow_7 : decode cX12_shiftedRow 7 = .ok (.ishr, 1) := by decide +kernel
theorem dX12_shiftedRow_8 : decode cX12_shiftedRow 8 = .ok (.goto 9, 3) := by decide +kernel
theorem dX12_shiftedRow_11 : decode cX12_shiftedRow 11 = .ok (.iload_n 0, 1) := by decide +kernel
theorem dX12_shiftedRow_12 : decode cX12_shiftedRow 12 = .ok (.iload_n 1, 1) := by decide +kernel
theorem dX12_shiftedRow_13 : decode cX12_shiftedRow 13 = .ok (.ishl, 1) := by decide +kernel
theorem dX12_shiftedRow_14 : decode cX12_shiftedRow 14 = .ok (.ldc 228, 2) := by decide +kernel
theorem dX12_shiftedRow_16 : decode cX12_shiftedRow 16 = .ok (.iand, 1) := by decide +kernel
theorem dX12_shiftedRow_17 : decode cX12_shiftedRow 17 = .ok (.ireturn, 1) := by decide +kernel
set_option maxRecDepth 20000 in
theorem sX12_shiftedRow_0 {P : Option Value → AH → Prop} (h : AH) (x0 : Int32) (x1 : Int32) (hf : ∀ z2 : Int32, z2 = (if 0 ≤ x1 then ((x0 <<< (x1 &&& 31)) &&& 65535) else (x0 >>> ((-x1) &&& 31))) → (P (some (.int z2)) h)) : Rr mX12_shiftedRow 0 0 0 [(0, .int x0), (1, .int x1)] [] h P := by
  refine R_iload_n dX12_shiftedRow_0 rfl 1 rfl ?_
  have key : ∀ z2 : Int32, z2 = (if 0 ≤ x1 then ((x0 <<< (x1 &&& 31)) &&& 65535) else (x0 >>> ((-x1) &&& 31))) → Rr mX12_shiftedRow 0 0 17 [] [.int z2] h P := by
    intro z2 ez2
    have hf := hf z2 ez2
    exact R_iret dX12_shiftedRow_17 rfl rfl hf
  refine R_if_ge (tgt := 11) dX12_shiftedRow_1 (by decide) (fun b1 => ?_) (fun b1 => ?_)
  · refine R_iload_n dX12_shiftedRow_11 rfl 0 rfl ?_
    refine R_iload_n dX12_shiftedRow_12 rfl 1 rfl ?_
    refine R_ishl dX12_shiftedRow_13 ?_
    refine R_ldc (v := 65535) dX12_shiftedRow_14 lcX12_228 ?_
    refine R_iand dX12_shiftedRow_16 ?_
    exact R_sub [] rfl (key _ (by rw [if_pos b1]))
  · refine R_iload_n dX12_shiftedRow_4 rfl 0 rfl ?_
    refine R_iload_n dX12_shiftedRow_5 rfl 1 rfl ?_
    refine R_ineg dX12_shiftedRow_6 ?_
    refine R_ishr dX12_shiftedRow_7 ?_
    refine R_goto (tgt := 17) dX12_shiftedRow_8 (by decide) ?_
    exact R_sub [] rfl (key _ (by rw [if_neg b1]))
theorem aX12_shiftedRow {h : AH} {P : Option Value → AH → Prop} {x0 : Int32} {x1 : Int32}  (k : P (some (.int (if 0 ≤ x1 then ((x0 <<< (x1 &&& 31)) &&& 65535) else (x0 >>> ((-x1) &&& 31))))) h) : Call mX12_shiftedRow [.int x0, .int x1] h P :=
  Call.ofR (by decide +kernel) (Nat.le_of_ble_eq_true rfl) (sX12_shiftedRow_0 h x0 x1 (fun z2 ez2 => by subst ez2; exact (k)))
theorem dX12_spread_0 : decode cX12_spread 0 = .ok (.aload_n 0, 1) := by decide +kernel
theorem dX12_spread_1 : decode cX12_spread 1 = .ok (.getfield 211, 3) := by decide +kernel
theorem dX12_spread_4 : decode cX12_spread 4 = .ok (.ifCond .ne 8, 3) := by decide +kernel
theorem dX12_spread_7 : decode cX12_spread 7 = .ok (.bipush (-99), 2) := by decide +kernel
theorem dX12_spread_9 : decode cX12_spread 9 = .ok (.goto 28, 3) := by decide +kernel
theorem dX12_spread_12 : decode cX12_spread 12 = .ok (.iload_n 1, 1) := by decide +kernel
theorem dX12_spread_13 : decode cX12_spread 13 = .ok (.ifCond .ne 10, 3) := by decide +kernel
theorem dX12_spread_16 : decode cX12_spread 16 = .ok (.aload_n 0, 1) := by decide +kernel
theorem dX12_spread_17 : decode cX12_spread 17 = .ok (.getfield 329, 3) := by decide +kernel
theorem dX12_spread_20 : decode cX12_spread 20 = .ok (.goto 17, 3) := by decide +kernel
theorem dX12_spread_23 : decode cX12_spread 23 = .ok (.iload_n 1, 1) := by decide +kernel
theorem dX12_spread_24 : decode cX12_spread 24 = .ok (.iconst 1, 1) := by decide +kernel
theorem dX12_spread_25 : decode cX12_spread 25 = .ok (.if_icmp .ne 10, 3) := by decide +kernel
theorem dX12_spread_28 : decode cX12_spread 28 = .ok (.aload_n 0, 1) := by decide +kernel
theorem dX12_spread_29 : decode cX12_spread 29 = .ok (.getfield 332, 3) := by decide +kernel
theorem dX12_spread_32 : decode cX12_spread 32 = .ok (.goto 5, 3) := by decide +kernel
theorem dX12_spread_35 : decode cX12_spread 35 = .ok (.bipush (-99), 2) := by decide +kernel
theorem dX12_spread_37 : decode cX12_spread 37 = .ok (.ireturn, 1) := by decide +kernel
set_option maxRecDepth 20000 in
theorem sX12_spread_0 {P : Option Value → AH → Prop} (h : AH) (r0 : Nat) (x1 : Int32) (hf : (isO h 12 r0) ∧ (∀ z5 : Int32, z5 = (if (gI h r0 48) = 0 then (-99) else (if x1 = 0 then (gI h r0 49) else (if x1 = 1 then (gI h r0 50) else (-99)))) → (P (some (.int z5)) h))) : Rr mX12_spread 0 0 0 [(0, .ref r0), (1, .int x1)] [] h P := by
  refine R_aload_n dX12_spread_0 rfl 0 rfl ?_
  obtain ⟨ob1, hf⟩ := hf
  refine G12_48 dX12_spread_1 lfX12_211 ob1 ?_
  have key : ∀ z5 : Int32, z5 = (if (gI h r0 48) = 0 then (-99) else (if x1 = 0 then (gI h r0 49) else (if x1 = 1 then (gI h r0 50) else (-99)))) → Rr mX12_spread 0 0 37 [] [.int z5] h P := by
    intro z5 ez5
    have hf := hf z5 ez5
    exact R_iret dX12_spread_37 rfl rfl hf
  refine R_if_ne (tgt := 12) dX12_spread_4 (by decide) (fun b2 => ?_) (fun b2 => ?_)
  · refine R_iload_n dX12_spread_12 rfl 1 rfl ?_
    refine R_if_ne (tgt := 23) dX12_spread_13 (by decide) (fun b3 => ?_) (fun b3 => ?_)
    · refine R_iload_n dX12_spread_23 rfl 1 rfl ?_
      refine R_iconst (v := 1) dX12_spread_24 (by decide) ?_
      refine R_icmp_ne (tgt := 35) dX12_spread_25 (by decide) (fun b4 => ?_) (fun b4 => ?_)
      · refine R_bipush (v := (-99)) dX12_spread_35 (by decide) ?_
        exact R_sub [] rfl (key _ (by rw [if_neg b2, if_neg b3, if_neg b4]))
      · refine R_aload_n dX12_spread_28 rfl 0 rfl ?_
        refine G12_50 dX12_spread_29 lfX12_332 ob1 ?_
        refine R_goto (tgt := 37) dX12_spread_32 (by decide) ?_
        exact R_sub [] rfl (key _ (by rw [if_neg b2, if_neg b3, if_pos b4]))
    · refine R_aload_n dX12_spread_16 rfl 0 rfl ?_
      refine G12_49 dX12_spread_17 lfX12_329 ob1 ?_
      refine R_goto (tgt := 37) dX12_spread_20 (by decide) ?_
      exact R_sub [] rfl (key _ (by rw [if_neg b2, if_pos b3]))
  · refine R_bipush (v := (-99)) dX12_spread_7 (by decide) ?_
    refine R_goto (tgt := 37) dX12_spread_9 (by decide) ?_
    exact R_sub [] rfl (key _ (by rw [if_pos b2]))
theorem aX12_spread {h : AH} {P : Option Value → AH → Prop} {r0 : Nat} {x1 : Int32} (o0 : isO h 12 r0) (k : P (some (.int (if (gI h r0 48) = 0 then (-99) else (if x1 = 0 then (gI h r0 49) else (if x1 = 1 then (gI h r0 50) else (-99)))))) h) : Call mX12_spread [.ref r0, .int x1] h P :=
  Call.ofR (by decide +kernel) (Nat.le_of_ble_eq_true rfl) (sX12_spread_0 h r0 x1 (⟨o0, fun z5 ez5 => by subst ez5; exact (k)⟩))
theorem dX12_square_0 : decode cX12_square 0 = .ok (.iload_n 0, 1) := by decide +kernel
theorem dX12_square_1 : decode cX12_square 1 = .ok (.iload_n 0, 1) := by decide +kernel
theorem dX12_square_2 : decode cX12_square 2 = .ok (.imul, 1) := by decide +kernel
theorem dX12_square_3 : decode cX12_square 3 = .ok (.iload_n 1, 1) := by decide +kernel
theorem dX12_square_4 : decode cX12_square 4 = .ok (.iload_n 1, 1) := by decide +kernel
theorem dX12_square_5 : decode cX12_square 5 = .ok (.imul, 1) := by decide +kernel
theorem dX12_square_6 : decode cX12_square 6 = .ok (.iadd, 1) := by decide +kernel
theorem dX12_square_7 : decode cX12_square 7 = .ok (.ireturn, 1) := by decide +kernel
set_option maxRecDepth 20000 in
theorem sX12_square_0 {P : Option Value → AH → Prop} (h : AH) (x0 : Int32) (x1 : Int32) (hf : P (some (.int ((x0 * x0) + (x1 * x1)))) h) : Rr mX12_square 0 0 0 [(0, .int x0), (1, .int x1)] [] h P := by
  refine R_iload_n dX12_square_0 rfl 0 rfl ?_
  refine R_iload_n dX12_square_1 rfl 0 rfl ?_
  refine R_imul dX12_square_2 ?_
  refine R_iload_n dX12_square_3 rfl 1 rfl ?_
  refine R_iload_n dX12_square_4 rfl 1 rfl ?_
  refine R_imul dX12_square_5 ?_
  refine R_iadd dX12_square_6 ?_
  exact R_iret dX12_square_7 rfl rfl hf
theorem aX12_square {h : AH} {P : Option Value → AH → Prop} {x0 : Int32} {x1 : Int32}  (k : P (some (.int ((x0 * x0) + (x1 * x1)))) h) : Call mX12_square [.int x0, .int x1] h P :=
  Call.ofR (by decide +kernel) (Nat.le_of_ble_eq_true rfl) (sX12_square_0 h x0 x1 (k))
theorem dX12_upAt_0 : decode cX12_upAt 0 = .ok (.iload_n 0, 1) := by decide +kernel
theorem dX12_upAt_1 : decode cX12_upAt 1 = .ok (.iload_n 1, 1) := by decide +kernel
theorem dX12_upAt_2 : decode cX12_upAt 2 = .ok (.iload_n 3, 1) := by decide +kernel
theorem dX12_upAt_3 : decode cX12_upAt 3 = .ok (.imul, 1) := by decide +kernel
theorem dX12_upAt_4 : decode cX12_upAt 4 = .ok (.iload_n 2, 1) := by decide +kernel
theorem dX12_upAt_5 : decode cX12_upAt 5 = .ok (.iload 4, 2) := by decide +kernel
theorem dX12_upAt_7 : decode cX12_upAt 7 = .ok (.imul, 1) := by decide +kernel
theorem dX12_upAt_8 : decode cX12_upAt 8 = .ok (.iadd, 1) := by decide +kernel
theorem dX12_upAt_9 : decode cX12_upAt 9 = .ok (.bipush 100, 2) := by decide +kernel
theorem dX12_upAt_11 : decode cX12_upAt 11 = .ok (.idiv, 1) := by decide +kernel
theorem dX12_upAt_12 : decode cX12_upAt 12 = .ok (.iadd, 1) := by decide +kernel
theorem dX12_upAt_13 : decode cX12_upAt 13 = .ok (.ireturn, 1) := by decide +kernel
set_option maxRecDepth 20000 in
theorem sX12_upAt_0 {P : Option Value → AH → Prop} (h : AH) (x0 : Int32) (x1 : Int32) (x2 : Int32) (x3 : Int32) (x4 : Int32) (hf : P (some (.int (x0 + (((x1 * x3) + (x2 * x4)) / 100)))) h) : Rr mX12_upAt 0 0 0 [(0, .int x0), (1, .int x1), (2, .int x2), (3, .int x3), (4, .int x4)] [] h P := by
  refine R_iload_n dX12_upAt_0 rfl 0 rfl ?_
  refine R_iload_n dX12_upAt_1 rfl 1 rfl ?_
  refine R_iload_n dX12_upAt_2 rfl 3 rfl ?_
  refine R_imul dX12_upAt_3 ?_
  refine R_iload_n dX12_upAt_4 rfl 2 rfl ?_
  refine R_iload dX12_upAt_5 4 rfl ?_
  refine R_imul dX12_upAt_7 ?_
  refine R_iadd dX12_upAt_8 ?_
  refine R_bipush (v := 100) dX12_upAt_9 (by decide) ?_
  refine R_idiv dX12_upAt_11 (by decide) ?_
  refine R_iadd dX12_upAt_12 ?_
  exact R_iret dX12_upAt_13 rfl rfl hf
theorem aX12_upAt {h : AH} {P : Option Value → AH → Prop} {x0 : Int32} {x1 : Int32} {x2 : Int32} {x3 : Int32} {x4 : Int32}  (k : P (some (.int (x0 + (((x1 * x3) + (x2 * x4)) / 100)))) h) : Call mX12_upAt [.int x0, .int x1, .int x2, .int x3, .int x4] h P :=
  Call.ofR (by decide +kernel) (Nat.le_of_ble_eq_true rfl) (sX12_upAt_0 h x0 x1 x2 x3 x4 (k))
theorem dX1_sureBits_0 : decode cX1_sureBits 0 = .ok (.iconst 0, 1) := by decide +kernel
theorem dX1_sureBits_1 : decode cX1_sureBits 1 = .ok (.istore_n 1, 1) := by decide +kernel
theorem dX1_sureBits_2 : decode cX1_sureBits 2 = .ok (.iconst 0, 1) := by decide +kernel
theorem dX1_sureBits_3 : decode cX1_sureBits 3 = .ok (.istore_n 2, 1) := by decide +kernel
theorem dX1_sureBits_4 : decode cX1_sureBits 4 = .ok (.iload_n 2, 1) := by decide +kernel
theorem dX1_sureBits_5 : decode cX1_sureBits 5 = .ok (.iconst 4, 1) := by decide +kernel
theorem dX1_sureBits_6 : decode cX1_sureBits 6 = .ok (.if_icmp .ge 30, 3) := by decide +kernel
theorem dX1_sureBits_9 : decode cX1_sureBits 9 = .ok (.aload_n 0, 1) := by decide +kernel
theorem dX1_sureBits_10 : decode cX1_sureBits 10 = .ok (.getfield 24, 3) := by decide +kernel
theorem dX1_sureBits_13 : decode cX1_sureBits 13 = .ok (.iload_n 2, 1) := by decide +kernel
theorem dX1_sureBits_14 : decode cX1_sureBits 14 = .ok (.iaload, 1) := by decide +kernel
theorem dX1_sureBits_15 : decode cX1_sureBits 15 = .ok (.aload_n 0, 1) := by decide +kernel
theorem dX1_sureBits_16 : decode cX1_sureBits 16 = .ok (.getfield 27, 3) := by decide +kernel
theorem dX1_sureBits_19 : decode cX1_sureBits 19 = .ok (.iload_n 2, 1) := by decide +kernel
theorem dX1_sureBits_20 : decode cX1_sureBits 20 = .ok (.iaload, 1) := by decide +kernel
theorem dX1_sureBits_21 : decode cX1_sureBits 21 = .ok (.if_icmp .ne 9, 3) := by decide +kernel
theorem dX1_sureBits_24 : decode cX1_sureBits 24 = .ok (.iload_n 1, 1) := by decide +kernel
theorem dX1_sureBits_25 : decode cX1_sureBits 25 = .ok (.iconst 1, 1) := by decide +kernel
theorem dX1_sureBits_26 : decode cX1_sureBits 26 = .ok (.iload_n 2, 1) := by decide +kernel
theorem dX1_sureBits_27 : decode cX1_sureBits 27 = .ok (.ishl, 1) := by decide +kernel
theorem dX1_sureBits_28 : decode cX1_sureBits 28 = .ok (.ior, 1) := by decide +kernel
theorem dX1_sureBits_29 : decode cX1_sureBits 29 = .ok (.istore_n 1, 1) := by decide +kernel
theorem dX1_sureBits_30 : decode cX1_sureBits 30 = .ok (.iinc 2 1, 3) := by decide +kernel
theorem dX1_sureBits_33 : decode cX1_sureBits 33 = .ok (.goto (-29), 3) := by decide +kernel
theorem dX1_sureBits_36 : decode cX1_sureBits 36 = .ok (.iload_n 1, 1) := by decide +kernel
theorem dX1_sureBits_37 : decode cX1_sureBits 37 = .ok (.ireturn, 1) := by decide +kernel
set_option maxRecDepth 20000 in
theorem sX1_sureBits_0 {P : Option Value → AH → Prop} (h : AH) (r0 : Nat) (hf : Rr mX1_sureBits 0 0 4 [(0, .ref r0), (1, .int 0), (2, .int 0)] [] h P) : Rr mX1_sureBits 0 0 0 [(0, .ref r0)] [] h P := by
  refine R_iconst (v := 0) dX1_sureBits_0 (by decide) ?_
  refine R_istore_n dX1_sureBits_1 rfl (by decide) rfl ?_
  refine R_iconst (v := 0) dX1_sureBits_2 (by decide) ?_
  refine R_istore_n dX1_sureBits_3 rfl (by decide) rfl ?_
  exact R_sub [2, 1, 0] rfl hf
set_option maxRecDepth 20000 in
theorem sX1_sureBits_4 {P : Option Value → AH → Prop} (h : AH) (r0 : Nat) (x1 : Int32) (x2 : Int32) (hf : (4 ≤ x2 → P (some (.int x1)) h) ∧ (¬ 4 ≤ x2 → (isO h 1 r0) ∧ ((isA h 0 (gF h r0 10)) ∧ ((vp_in x2 (ln (gF h r0 10))) ∧ ((isA h 0 (gF h r0 11)) ∧ ((vp_in x2 (ln (gF h r0 11))) ∧ (∀ z8 : Int32, z8 = (if (gI h (gF h r0 10) x2.toNatClampNeg) = (gI h (gF h r0 11) x2.toNatClampNeg) then (x1 ||| ((1 : Int32) <<< (x2 &&& 31))) else x1) → (Rr mX1_sureBits 0 0 4 [(0, .ref r0), (1, .int z8), (2, .int (x2 + 1))] [] h P)))))))) : Rr mX1_sureBits 0 0 4 [(0, .ref r0), (1, .int x1), (2, .int x2)] [] h P := by
  refine R_iload_n dX1_sureBits_4 rfl 2 rfl ?_
  refine R_iconst (v := 4) dX1_sureBits_5 (by decide) ?_
  refine R_icmp_ge (tgt := 36) dX1_sureBits_6 (by decide) (fun b1 => ?_) (fun b1 => ?_)
  · have hf := hf.1 b1
    refine R_iload_n dX1_sureBits_36 rfl 1 rfl ?_
    exact R_iret dX1_sureBits_37 rfl rfl hf
  · have hf := hf.2 b1
    refine R_aload_n dX1_sureBits_9 rfl 0 rfl ?_
    obtain ⟨ob2, hf⟩ := hf
    refine G1_10 dX1_sureBits_10 lfX1_24 ob2 ?_
    refine R_iload_n dX1_sureBits_13 rfl 2 rfl ?_
    obtain ⟨ob3, hf⟩ := hf
    obtain ⟨ob4, hf⟩ := hf
    refine R_iaload dX1_sureBits_14 ob3 ob4 ?_
    refine R_aload_n dX1_sureBits_15 rfl 0 rfl ?_
    refine G1_11 dX1_sureBits_16 lfX1_27 ob2 ?_
    refine R_iload_n dX1_sureBits_19 rfl 2 rfl ?_
    obtain ⟨ob5, hf⟩ := hf
    obtain ⟨ob6, hf⟩ := hf
    refine R_iaload dX1_sureBits_20 ob5 ob6 ?_
    have key : ∀ z8 : Int32, z8 = (if (gI h (gF h r0 10) x2.toNatClampNeg) = (gI h (gF h r0 11) x2.toNatClampNeg) then (x1 ||| ((1 : Int32) <<< (x2 &&& 31))) else x1) → Rr mX1_sureBits 0 0 30 [(0, .ref r0), (1, .int z8), (2, .int x2)] [] h P := by
      intro z8 ez8
      have hf := hf z8 ez8
      refine R_iinc (v := x2 + 1) dX1_sureBits_30 2 rfl rfl (by decide) rfl ?_
      refine R_goto (tgt := 4) dX1_sureBits_33 (by decide) ?_
      exact R_sub [1, 2, 0] rfl hf
    refine R_icmp_ne (tgt := 30) dX1_sureBits_21 (by decide) (fun b7 => ?_) (fun b7 => ?_)
    · exact R_sub [0, 1, 2] rfl (key _ (by rw [if_neg b7]))
    · refine R_iload_n dX1_sureBits_24 rfl 1 rfl ?_
      refine R_iconst (v := 1) dX1_sureBits_25 (by decide) ?_
      refine R_iload_n dX1_sureBits_26 rfl 2 rfl ?_
      refine R_ishl dX1_sureBits_27 ?_
      refine R_ior dX1_sureBits_28 ?_
      refine R_istore_n dX1_sureBits_29 rfl (by decide) rfl ?_
      exact R_sub [1, 0, 2] rfl (key _ (by rw [if_pos b7]))
theorem dX2_isChance_0 : decode cX2_isChance 0 = .ok (.iload_n 0, 1) := by decide +kernel
theorem dX2_isChance_1 : decode cX2_isChance 1 = .ok (.ifCond .lt 13, 3) := by decide +kernel
theorem dX2_isChance_4 : decode cX2_isChance 4 = .ok (.iload_n 0, 1) := by decide +kernel
theorem dX2_isChance_5 : decode cX2_isChance 5 = .ok (.bipush 10, 2) := by decide +kernel
theorem dX2_isChance_7 : decode cX2_isChance 7 = .ok (.if_icmp .gt 7, 3) := by decide +kernel
theorem dX2_isChance_10 : decode cX2_isChance 10 = .ok (.iconst 1, 1) := by decide +kernel
theorem dX2_isChance_11 : decode cX2_isChance 11 = .ok (.goto 4, 3) := by decide +kernel
theorem dX2_isChance_14 : decode cX2_isChance 14 = .ok (.iconst 0, 1) := by decide +kernel
theorem dX2_isChance_15 : decode cX2_isChance 15 = .ok (.ireturn, 1) := by decide +kernel
set_option maxRecDepth 20000 in
theorem sX2_isChance_0 {P : Option Value → AH → Prop} (h : AH) (x0 : Int32) (hf : P (some (.int (bi (¬ x0 < 0 ∧ ¬ 10 < x0)))) h) : Rr mX2_isChance 0 0 0 [(0, .int x0)] [] h P := by
  refine R_iload_n dX2_isChance_0 rfl 0 rfl ?_
  have key :  Rr mX2_isChance 0 0 15 [] [.int (bi (¬ x0 < 0 ∧ ¬ 10 < x0))] h P := by
    exact R_iret dX2_isChance_15 rfl (nb_n (bi_01 _)) hf
  refine R_if_lt (tgt := 14) dX2_isChance_1 (by decide) (fun b1 => ?_) (fun b1 => ?_)
  · refine R_iconst (v := 0) dX2_isChance_14 (by decide) ?_
    have kb := key
    rw [show bi (¬ x0 < 0 ∧ ¬ 10 < x0) = 0 from by simp only [bi, b1, false_and, and_false, true_and, and_true, not_true_eq_false, not_false_eq_true, if_true, if_false, true_or, or_true, false_or, or_false, reduceIte]] at kb
    exact R_sub [] rfl kb
  · refine R_iload_n dX2_isChance_4 rfl 0 rfl ?_
    refine R_bipush (v := 10) dX2_isChance_5 (by decide) ?_
    refine R_icmp_gt (tgt := 14) dX2_isChance_7 (by decide) (fun b2 => ?_) (fun b2 => ?_)
    · refine R_iconst (v := 0) dX2_isChance_14 (by decide) ?_
      have kb := key
      rw [show bi (¬ x0 < 0 ∧ ¬ 10 < x0) = 0 from by simp only [bi, b1, b2, false_and, and_false, true_and, and_true, not_true_eq_false, not_false_eq_true, if_true, if_false, true_or, or_true, false_or, or_false, reduceIte]] at kb
      exact R_sub [] rfl kb
    · refine R_iconst (v := 1) dX2_isChance_10 (by decide) ?_
      refine R_goto (tgt := 15) dX2_isChance_11 (by decide) ?_
      have kb := key
      rw [show bi (¬ x0 < 0 ∧ ¬ 10 < x0) = 1 from by simp only [bi, b1, b2, false_and, and_false, true_and, and_true, not_true_eq_false, not_false_eq_true, if_true, if_false, true_or, or_true, false_or, or_false, reduceIte]] at kb
      exact R_sub [] rfl kb
theorem aX2_isChance {h : AH} {P : Option Value → AH → Prop} {x0 : Int32}  (k : P (some (.int (bi (¬ x0 < 0 ∧ ¬ 10 < x0)))) h) : Call mX2_isChance [.int x0] h P :=
  Call.ofR (by decide +kernel) (Nat.le_of_ble_eq_true rfl) (sX2_isChance_0 h x0 (k))
theorem dX2_isPrice_0 : decode cX2_isPrice 0 = .ok (.iload_n 0, 1) := by decide +kernel
theorem dX2_isPrice_1 : decode cX2_isPrice 1 = .ok (.ifCond .lt 14, 3) := by decide +kernel
theorem dX2_isPrice_4 : decode cX2_isPrice 4 = .ok (.iload_n 0, 1) := by decide +kernel
theorem dX2_isPrice_5 : decode cX2_isPrice 5 = .ok (.sipush 999, 3) := by decide +kernel
theorem dX2_isPrice_8 : decode cX2_isPrice 8 = .ok (.if_icmp .gt 7, 3) := by decide +kernel
theorem dX2_isPrice_11 : decode cX2_isPrice 11 = .ok (.iconst 1, 1) := by decide +kernel
theorem dX2_isPrice_12 : decode cX2_isPrice 12 = .ok (.goto 4, 3) := by decide +kernel
theorem dX2_isPrice_15 : decode cX2_isPrice 15 = .ok (.iconst 0, 1) := by decide +kernel
theorem dX2_isPrice_16 : decode cX2_isPrice 16 = .ok (.ireturn, 1) := by decide +kernel
set_option maxRecDepth 20000 in
theorem sX2_isPrice_0 {P : Option Value → AH → Prop} (h : AH) (x0 : Int32) (hf : P (some (.int (bi (¬ x0 < 0 ∧ ¬ 999 < x0)))) h) : Rr mX2_isPrice 0 0 0 [(0, .int x0)] [] h P := by
  refine R_iload_n dX2_isPrice_0 rfl 0 rfl ?_
  have key :  Rr mX2_isPrice 0 0 16 [] [.int (bi (¬ x0 < 0 ∧ ¬ 999 < x0))] h P := by
    exact R_iret dX2_isPrice_16 rfl (nb_n (bi_01 _)) hf
  refine R_if_lt (tgt := 15) dX2_isPrice_1 (by decide) (fun b1 => ?_) (fun b1 => ?_)
  · refine R_iconst (v := 0) dX2_isPrice_15 (by decide) ?_
    have kb := key
    rw [show bi (¬ x0 < 0 ∧ ¬ 999 < x0) = 0 from by simp only [bi, b1, false_and, and_false, true_and, and_true, not_true_eq_false, not_false_eq_true, if_true, if_false, true_or, or_true, false_or, or_false, reduceIte]] at kb
    exact R_sub [] rfl kb
  · refine R_iload_n dX2_isPrice_4 rfl 0 rfl ?_
    refine R_sipush (v := 999) dX2_isPrice_5 (by decide) ?_
    refine R_icmp_gt (tgt := 15) dX2_isPrice_8 (by decide) (fun b2 => ?_) (fun b2 => ?_)
    · refine R_iconst (v := 0) dX2_isPrice_15 (by decide) ?_
      have kb := key
      rw [show bi (¬ x0 < 0 ∧ ¬ 999 < x0) = 0 from by simp only [bi, b1, b2, false_and, and_false, true_and, and_true, not_true_eq_false, not_false_eq_true, if_true, if_false, true_or, or_true, false_or, or_false, reduceIte]] at kb
      exact R_sub [] rfl kb
    · refine R_iconst (v := 1) dX2_isPrice_11 (by decide) ?_
      refine R_goto (tgt := 16) dX2_isPrice_12 (by decide) ?_
      have kb := key
      rw [show bi (¬ x0 < 0 ∧ ¬ 999 < x0) = 1 from by simp only [bi, b1, b2, false_and, and_false, true_and, and_true, not_true_eq_false, not_false_eq_true, if_true, if_false, true_or, or_true, false_or, or_false, reduceIte]] at kb
      exact R_sub [] rfl kb
theorem aX2_isPrice {h : AH} {P : Option Value → AH → Prop} {x0 : Int32}  (k : P (some (.int (bi (¬ x0 < 0 ∧ ¬ 999 < x0)))) h) : Call mX2_isPrice [.int x0] h P :=
  Call.ofR (by decide +kernel) (Nat.le_of_ble_eq_true rfl) (sX2_isPrice_0 h x0 (k))
theorem dX3_markNumber_0 : decode cX3_markNumber 0 = .ok (.iload_n 1, 1) := by decide +kernel
theorem dX3_markNumber_1 : decode cX3_markNumber 1 = .ok (.ifCond .lt 11, 3) := by decide +kernel
theorem dX3_markNumber_4 : decode cX3_markNumber 4 = .ok (.iload_n 1, 1) := by decide +kernel
theorem dX3_markNumber_5 : decode cX3_markNumber 5 = .ok (.aload_n 0, 1) := by decide +kernel
theorem dX3_markNumber_6 : decode cX3_markNumber 6 = .ok (.getfield 57, 3) := by decide +kernel
theorem dX3_markNumber_9 : decode cX3_markNumber 9 = .ok (.if_icmp .lt 5, 3) := by decide +kernel
theorem dX3_markNumber_12 : decode cX3_markNumber 12 = .ok (.iconst (-1), 1) := by decide +kernel
theorem dX3_markNumber_13 : decode cX3_markNumber 13 = .ok (.ireturn, 1) := by decide +kernel
theorem dX3_markNumber_14 : decode cX3_markNumber 14 = .ok (.iload_n 2, 1) := by decide +kernel
theorem dX3_markNumber_15 : decode cX3_markNumber 15 = .ok (.ifCond .eq 12, 3) := by decide +kernel
theorem dX3_markNumber_18 : decode cX3_markNumber 18 = .ok (.aload_n 0, 1) := by decide +kernel
theorem dX3_markNumber_19 : decode cX3_markNumber 19 = .ok (.getfield 15, 3) := by decide +kernel
theorem dX3_markNumber_22 : decode cX3_markNumber 22 = .ok (.iload_n 1, 1) := by decide +kernel
theorem dX3_markNumber_23 : decode cX3_markNumber 23 = .ok (.iaload, 1) := by decide +kernel
theorem dX3_markNumber_24 : decode cX3_markNumber 24 = .ok (.goto 9, 3) := by decide +kernel
theorem dX3_markNumber_27 : decode cX3_markNumber 27 = .ok (.aload_n 0, 1) := by decide +kernel
theorem dX3_markNumber_28 : decode cX3_markNumber 28 = .ok (.getfield 11, 3) := by decide +kernel
theorem dX3_markNumber_31 : decode cX3_markNumber 31 = .ok (.iload_n 1, 1) := by decide +kernel
theorem dX3_markNumber_32 : decode cX3_markNumber 32 = .ok (.iaload, 1) := by decide +kernel
theorem dX3_markNumber_33 : decode cX3_markNumber 33 = .ok (.ireturn, 1) := by decide +kernel
set_option maxRecDepth 20000 in
theorem sX3_markNumber_0 {P : Option Value → AH → Prop} (h : AH) (r0 : Nat) (x1 : Int32) (x2 : Int32) (hf : (x1 < 0 → P (some (.int (-1))) h) ∧ (¬ x1 < 0 → (isO h 3 r0) ∧ ((x1 < (gI h r0 3) → (isA h 0 (gF h r0 4)) ∧ ((x2 = 0 → vp_in x1 (ln (gF h r0 4))) ∧ ((isA h 0 (gF h r0 5)) ∧ ((¬ x2 = 0 → vp_in x1 (ln (gF h r0 5))) ∧ (∀ z9 : Int32, z9 = (if x2 = 0 then (gI h (gF h r0 4) x1.toNatClampNeg) else (gI h (gF h r0 5) x1.toNatClampNeg)) → (P (some (.int z9)) h)))))) ∧ (¬ x1 < (gI h r0 3) → P (some (.int (-1))) h)))) : Rr mX3_markNumber 0 0 0 [(0, .ref r0), (1, .int x1), (2, .int x2)] [] h P := by
  refine R_iload_n dX3_markNumber_0 rfl 1 rfl ?_
  refine R_if_lt (tgt := 12) dX3_markNumber_1 (by decide) (fun b1 => ?_) (fun b1 => ?_)
  · have hf := hf.1 b1
    refine R_iconst (v := (-1)) dX3_markNumber_12 (by decide) ?_
    exact R_iret dX3_markNumber_13 rfl rfl hf
  · have hf := hf.2 b1
    refine R_iload_n dX3_markNumber_4 rfl 1 rfl ?_
    refine R_aload_n dX3_markNumber_5 rfl 0 rfl ?_
    obtain ⟨ob2, hf⟩ := hf
    refine G3_3 dX3_markNumber_6 lfX3_57 ob2 ?_
    refine R_icmp_lt (tgt := 14) dX3_markNumber_9 (by decide) (fun b3 => ?_) (fun b3 => ?_)
    · have hf := hf.1 b3
      refine R_iload_n dX3_markNumber_14 rfl 2 rfl ?_
      obtain ⟨ob5, hf⟩ := hf
      obtain ⟨ob6, hf⟩ := hf
      obtain ⟨ob7, hf⟩ := hf
      obtain ⟨ob8, hf⟩ := hf
      have key : ∀ z9 : Int32, z9 = (if x2 = 0 then (gI h (gF h r0 4) x1.toNatClampNeg) else (gI h (gF h r0 5) x1.toNatClampNeg)) → Rr mX3_markNumber 0 0 33 [] [.int z9] h P := by
        intro z9 ez9
        have hf := hf z9 ez9
        exact R_iret dX3_markNumber_33 rfl rfl hf
      refine R_if_eq (tgt := 27) dX3_markNumber_15 (by decide) (fun b4 => ?_) (fun b4 => ?_)
      · refine R_aload_n dX3_markNumber_27 rfl 0 rfl ?_
        refine G3_4 dX3_markNumber_28 lfX3_11 ob2 ?_
        refine R_iload_n dX3_markNumber_31 rfl 1 rfl ?_
        refine R_iaload dX3_markNumber_32 ob5 (ob6 b4) ?_
        exact R_sub [] rfl (key _ (by rw [if_pos b4]))
      · refine R_aload_n dX3_markNumber_18 rfl 0 rfl ?_
        refine G3_5 dX3_markNumber_19 lfX3_15 ob2 ?_
        refine R_iload_n dX3_markNumber_22 rfl 1 rfl ?_
        refine R_iaload dX3_markNumber_23 ob7 (ob8 b4) ?_
        refine R_goto (tgt := 33) dX3_markNumber_24 (by decide) ?_
        exact R_sub [] rfl (key _ (by rw [if_neg b4]))
    · have hf := hf.2 b3
      refine R_iconst (v := (-1)) dX3_markNumber_12 (by decide) ?_
      exact R_iret dX3_markNumber_13 rfl rfl hf
theorem dX3_plainNumber_0 : decode cX3_plainNumber 0 = .ok (.iload_n 1, 1) := by decide +kernel
theorem dX3_plainNumber_1 : decode cX3_plainNumber 1 = .ok (.tableswitch 99 0 8 #[51, 56, 61, 66, 71, 76, 81, 86, 91], 51) := by decide +kernel
theorem dX3_plainNumber_52 : decode cX3_plainNumber 52 = .ok (.aload_n 0, 1) := by decide +kernel
theorem dX3_plainNumber_53 : decode cX3_plainNumber 53 = .ok (.getfield 51, 3) := by decide +kernel
theorem dX3_plainNumber_56 : decode cX3_plainNumber 56 = .ok (.ireturn, 1) := by decide +kernel
theorem dX3_plainNumber_57 : decode cX3_plainNumber 57 = .ok (.aload_n 0, 1) := by decide +kernel
theorem dX3_plainNumber_58 : decode cX3_plainNumber 58 = .ok (.getfield 54, 3) := by decide +kernel
theorem dX3_plainNumber_61 : decode cX3_plainNumber 61 = .ok (.ireturn, 1) := by decide +kernel
theorem dX3_plainNumber_62 : decode cX3_plainNumber 62 = .ok (.aload_n 0, 1) := by decide +kernel
theorem dX3_plainNumber_63 : decode cX3_plainNumber 63 = .ok (.getfield 57, 3) := by decide +kernel
theorem dX3_plainNumber_66 : decode cX3_plainNumber 66 = .ok (.ireturn, 1) := by decide +kernel
theorem dX3_plainNumber_67 : decode cX3_plainNumber 67 = .ok (.aload_n 0, 1) := by decide +kernel
theorem dX3_plainNumber_68 : decode cX3_plainNumber 68 = .ok (.getfield 60, 3) := by decide +kernel
theorem dX3_plainNumber_71 : decode cX3_plainNumber 71 = .ok (.ireturn, 1) := by decide +kernel
theorem dX3_plainNumber_72 : decode cX3_plainNumber 72 = .ok (.aload_n 0, 1) := by decide +kernel
theorem dX3_plainNumber_73 : decode cX3_plainNumber 73 = .ok (.getfield 69, 3) := by decide +kernel
theorem dX3_plainNumber_76 : decode cX3_plainNumber 76 = .ok (.ireturn, 1) := by decide +kernel
theorem dX3_plainNumber_77 : decode cX3_plainNumber 77 = .ok (.aload_n 0, 1) := by decide +kernel
theorem dX3_plainNumber_78 : decode cX3_plainNumber 78 = .ok (.getfield 72, 3) := by decide +kernel
theorem dX3_plainNumber_81 : decode cX3_plainNumber 81 = .ok (.ireturn, 1) := by decide +kernel
theorem dX3_plainNumber_82 : decode cX3_plainNumber 82 = .ok (.aload_n 0, 1) := by decide +kernel
theorem dX3_plainNumber_83 : decode cX3_plainNumber 83 = .ok (.getfield 78, 3) := by decide +kernel
theorem dX3_plainNumber_86 : decode cX3_plainNumber 86 = .ok (.ireturn, 1) := by decide +kernel
theorem dX3_plainNumber_87 : decode cX3_plainNumber 87 = .ok (.aload_n 0, 1) := by decide +kernel
theorem dX3_plainNumber_88 : decode cX3_plainNumber 88 = .ok (.getfield 81, 3) := by decide +kernel
theorem dX3_plainNumber_91 : decode cX3_plainNumber 91 = .ok (.ireturn, 1) := by decide +kernel
theorem dX3_plainNumber_92 : decode cX3_plainNumber 92 = .ok (.aload_n 0, 1) := by decide +kernel
theorem dX3_plainNumber_93 : decode cX3_plainNumber 93 = .ok (.getfield 37, 3) := by decide +kernel
theorem dX3_plainNumber_96 : decode cX3_plainNumber 96 = .ok (.getfield 84, 3) := by decide +kernel
theorem dX3_plainNumber_99 : decode cX3_plainNumber 99 = .ok (.ireturn, 1) := by decide +kernel
theorem dX3_plainNumber_100 : decode cX3_plainNumber 100 = .ok (.iconst (-1), 1) := by decide +kernel
theorem dX3_plainNumber_101 : decode cX3_plainNumber 101 = .ok (.ireturn, 1) := by decide +kernel
set_option maxRecDepth 20000 in
theorem sX3_plainNumber_0 {P : Option Value → AH → Prop} (h : AH) (r0 : Nat) (x1 : Int32) (hf : (x1 = 0 → (isO h 3 r0) ∧ (P (some (.int (gI h r0 1))) h)) ∧ (¬ x1 = 0 → (x1 = 1 → (isO h 3 r0) ∧ (P (some (.int (gI h r0 2))) h)) ∧ (¬ x1 = 1 → (x1 = 2 → (isO h 3 r0) ∧ (P (some (.int (gI h r0 3))) h)) ∧ (¬ x1 = 2 → (x1 = 3 → (isO h 3 r0) ∧ (P (some (.int (gI h r0 6))) h)) ∧ (¬ x1 = 3 → (x1 = 4 → (isO h 3 r0) ∧ (P (some (.int (gI h r0 9))) h)) ∧ (¬ x1 = 4 → (x1 = 5 → (isO h 3 r0) ∧ (P (some (.int (gI h r0 10))) h)) ∧ (¬ x1 = 5 → (x1 = 6 → (isO h 3 r0) ∧ (P (some (.int (gI h r0 12))) h)) ∧ (¬ x1 = 6 → (x1 = 7 → (isO h 3 r0) ∧ (P (some (.int (gI h r0 13))) h)) ∧ (¬ x1 = 7 → (x1 = 8 → (isO h 3 r0) ∧ ((isO h 8 (gF h r0 14)) ∧ (P (some (.int (gI h (gF h r0 14) 0))) h))) ∧ (¬ x1 = 8 → P (some (.int (-1))) h)))))))))) : Rr mX3_plainNumber 0 0 0 [(0, .ref r0), (1, .int x1)] [] h P := by
  refine R_iload_n dX3_plainNumber_0 rfl 1 rfl ?_
  by_cases b1 : x1 = 0
  · have hf := hf.1 b1
    refine R_tableIn (off := 51) (tgt := 52) dX3_plainNumber_1 (by rw [b1]; decide) (by rw [b1]; decide) (by rw [b1]; decide) (by decide) ?_
    refine R_aload_n dX3_plainNumber_52 rfl 0 rfl ?_
    obtain ⟨ob2, hf⟩ := hf
    refine G3_1 dX3_plainNumber_53 lfX3_51 ob2 ?_
    exact R_iret dX3_plainNumber_56 rfl rfl hf
  have hf := hf.2 b1
  by_cases b3 : x1 = 1
  · have hf := hf.1 b3
    refine R_tableIn (off := 56) (tgt := 57) dX3_plainNumber_1 (by rw [b3]; decide) (by rw [b3]; decide) (by rw [b3]; decide) (by decide) ?_
    refine R_aload_n dX3_plainNumber_57 rfl 0 rfl ?_
    obtain ⟨ob4, hf⟩ := hf
    refine G3_2 dX3_plainNumber_58 lfX3_54 ob4 ?_
    exact R_iret dX3_plainNumber_61 rfl rfl hf
  have hf := hf.2 b3
  by_cases b5 : x1 = 2
  · have hf := hf.1 b5
    refine R_tableIn (off := 61) (tgt := 62) dX3_plainNumber_1 (by rw [b5]; decide) (by rw [b5]; decide) (by rw [b5]; decide) (by decide) ?_
    refine R_aload_n dX3_plainNumber_62 rfl 0 rfl ?_
    obtain ⟨ob6, hf⟩ := hf
    refine G3_3 dX3_plainNumber_63 lfX3_57 ob6 ?_
    exact R_iret dX3_plainNumber_66 rfl rfl hf
  have hf := hf.2 b5
  by_cases b7 : x1 = 3
  · have hf := hf.1 b7
    refine R_tableIn (off := 66) (tgt := 67) dX3_plainNumber_1 (by rw [b7]; decide) (by rw [b7]; decide) (by rw [b7]; decide) (by decide) ?_
    refine R_aload_n dX3_plainNumber_67 rfl 0 rfl ?_
    obtain ⟨ob8, hf⟩ := hf
    refine G3_6 dX3_plainNumber_68 lfX3_60 ob8 ?_
    exact R_iret dX3_plainNumber_71 rfl rfl hf
  have hf := hf.2 b7
  by_cases b9 : x1 = 4
  · have hf := hf.1 b9
    refine R_tableIn (off := 71) (tgt := 72) dX3_plainNumber_1 (by rw [b9]; decide) (by rw [b9]; decide) (by rw [b9]; decide) (by decide) ?_
    refine R_aload_n dX3_plainNumber_72 rfl 0 rfl ?_
    obtain ⟨ob10, hf⟩ := hf
    refine G3_9 dX3_plainNumber_73 lfX3_69 ob10 ?_
    exact R_iret dX3_plainNumber_76 rfl rfl hf
  have hf := hf.2 b9
  by_cases b11 : x1 = 5
  · have hf := hf.1 b11
    refine R_tableIn (off := 76) (tgt := 77) dX3_plainNumber_1 (by rw [b11]; decide) (by rw [b11]; decide) (by rw [b11]; decide) (by decide) ?_
    refine R_aload_n dX3_plainNumber_77 rfl 0 rfl ?_
    obtain ⟨ob12, hf⟩ := hf
    refine G3_10 dX3_plainNumber_78 lfX3_72 ob12 ?_
    exact R_iret dX3_plainNumber_81 rfl rfl hf
  have hf := hf.2 b11
  by_cases b13 : x1 = 6
  · have hf := hf.1 b13
    refine R_tableIn (off := 81) (tgt := 82) dX3_plainNumber_1 (by rw [b13]; decide) (by rw [b13]; decide) (by rw [b13]; decide) (by decide) ?_
    refine R_aload_n dX3_plainNumber_82 rfl 0 rfl ?_
    obtain ⟨ob14, hf⟩ := hf
    refine G3_12 dX3_plainNumber_83 lfX3_78 ob14 ?_
    exact R_iret dX3_plainNumber_86 rfl rfl hf
  have hf := hf.2 b13
  by_cases b15 : x1 = 7
  · have hf := hf.1 b15
    refine R_tableIn (off := 86) (tgt := 87) dX3_plainNumber_1 (by rw [b15]; decide) (by rw [b15]; decide) (by rw [b15]; decide) (by decide) ?_
    refine R_aload_n dX3_plainNumber_87 rfl 0 rfl ?_
    obtain ⟨ob16, hf⟩ := hf
    refine G3_13 dX3_plainNumber_88 lfX3_81 ob16 ?_
    exact R_iret dX3_plainNumber_91 rfl rfl hf
  have hf := hf.2 b15
  by_cases b17 : x1 = 8
  · have hf := hf.1 b17
    refine R_tableIn (off := 91) (tgt := 92) dX3_plainNumber_1 (by rw [b17]; decide) (by rw [b17]; decide) (by rw [b17]; decide) (by decide) ?_
    refine R_aload_n dX3_plainNumber_92 rfl 0 rfl ?_
    obtain ⟨ob18, hf⟩ := hf
    refine G3_14 dX3_plainNumber_93 lfX3_37 ob18 ?_
    obtain ⟨ob19, hf⟩ := hf
    refine G8_0 dX3_plainNumber_96 lfX3_84 ob19 ?_
    exact R_iret dX3_plainNumber_99 rfl rfl hf
  have hf := hf.2 b17
  refine R_tableOut (tgt := 100) dX3_plainNumber_1 (by have q0 := lv_neT (a := 0) b1 (by decide); have q1 := lv_neT (a := 1) b3 (by decide); have q2 := lv_neT (a := 2) b5 (by decide); have q3 := lv_neT (a := 3) b7 (by decide); have q4 := lv_neT (a := 4) b9 (by decide); have q5 := lv_neT (a := 5) b11 (by decide); have q6 := lv_neT (a := 6) b13 (by decide); have q7 := lv_neT (a := 7) b15 (by decide); have q8 := lv_neT (a := 8) b17 (by decide); omega) (by decide) ?_
  refine R_iconst (v := (-1)) dX3_plainNumber_100 (by decide) ?_
  exact R_iret dX3_plainNumber_101 rfl rfl hf
theorem aX3_plainNumber {h : AH} {P : Option Value → AH → Prop} {r0 : Nat} {x1 : Int32} (o0 : isO h 3 r0) (o1 : isO h 8 (gF h r0 14)) (k : P (some (.int (if x1 = 0 then (gI h r0 1) else (if x1 = 1 then (gI h r0 2) else (if x1 = 2 then (gI h r0 3) else (if x1 = 3 then (gI h r0 6) else (if x1 = 4 then (gI h r0 9) else (if x1 = 5 then (gI h r0 10) else (if x1 = 6 then (gI h r0 12) else (if x1 = 7 then (gI h r0 13) else (if x1 = 8 then (gI h (gF h r0 14) 0) else (-1)))))))))))) h) : Call mX3_plainNumber [.ref r0, .int x1] h P :=
  Call.ofR (by decide +kernel) (Nat.le_of_ble_eq_true rfl) (sX3_plainNumber_0 h r0 x1 (⟨fun b0 => ⟨o0, by rw [if_pos b0] at k; exact k⟩, fun b0 => ⟨fun b1 => ⟨o0, by rw [if_neg b0, if_pos b1] at k; exact k⟩, fun b1 => ⟨fun b2 => ⟨o0, by rw [if_neg b0, if_neg b1, if_pos b2] at k; exact k⟩, fun b2 => ⟨fun b3 => ⟨o0, by rw [if_neg b0, if_neg b1, if_neg b2, if_pos b3] at k; exact k⟩, fun b3 => ⟨fun b4 => ⟨o0, by rw [if_neg b0, if_neg b1, if_neg b2, if_neg b3, if_pos b4] at k; exact k⟩, fun b4 => ⟨fun b5 => ⟨o0, by rw [if_neg b0, if_neg b1, if_neg b2, if_neg b3, if_neg b4, if_pos b5] at k; exact k⟩, fun b5 => ⟨fun b6 => ⟨o0, by rw [if_neg b0, if_neg b1, if_neg b2, if_neg b3, if_neg b4, if_neg b5, if_pos b6] at k; exact k⟩, fun b6 => ⟨fun b7 => ⟨o0, by rw [if_neg b0, if_neg b1, if_neg b2, if_neg b3, if_neg b4, if_neg b5, if_neg b6, if_pos b7] at k; exact k⟩, fun b7 => ⟨fun b8 => ⟨o0, ⟨o1, by rw [if_neg b0, if_neg b1, if_neg b2, if_neg b3, if_neg b4, if_neg b5, if_neg b6, if_neg b7, if_pos b8] at k; exact k⟩⟩, fun b8 => by rw [if_neg b0, if_neg b1, if_neg b2, if_neg b3, if_neg b4, if_neg b5, if_neg b6, if_neg b7, if_neg b8] at k; exact k⟩⟩⟩⟩⟩⟩⟩⟩⟩))
theorem dX3_putScrewNumber_0 : decode cX3_putScrewNumber 0 = .ok (.iload_n 1, 1) := by decide +kernel
theorem dX3_putScrewNumber_1 : decode cX3_putScrewNumber 1 = .ok (.iconst 3, 1) := by decide +kernel
theorem dX3_putScrewNumber_2 : decode cX3_putScrewNumber 2 = .ok (.imul, 1) := by decide +kernel
theorem dX3_putScrewNumber_3 : decode cX3_putScrewNumber 3 = .ok (.iload_n 2, 1) := by decide +kernel
theorem dX3_putScrewNumber_4 : decode cX3_putScrewNumber 4 = .ok (.iadd, 1) := by decide +kernel
theorem dX3_putScrewNumber_5 : decode cX3_putScrewNumber 5 = .ok (.iconst 3, 1) := by decide +kernel
theorem dX3_putScrewNumber_6 : decode cX3_putScrewNumber 6 = .ok (.imul, 1) := by decide +kernel
theorem dX3_putScrewNumber_7 : decode cX3_putScrewNumber 7 = .ok (.iload_n 3, 1) := by decide +kernel
theorem dX3_putScrewNumber_8 : decode cX3_putScrewNumber 8 = .ok (.iadd, 1) := by decide +kernel
theorem dX3_putScrewNumber_9 : decode cX3_putScrewNumber 9 = .ok (.istore 5, 2) := by decide +kernel
theorem dX3_putScrewNumber_11 : decode cX3_putScrewNumber 11 = .ok (.iload 5, 2) := by decide +kernel
theorem dX3_putScrewNumber_13 : decode cX3_putScrewNumber 13 = .ok (.ifCond .lt 22, 3) := by decide +kernel
theorem dX3_putScrewNumber_16 : decode cX3_putScrewNumber 16 = .ok (.iload 5, 2) := by decide +kernel
theorem dX3_putScrewNumber_18 : decode cX3_putScrewNumber 18 = .ok (.aload_n 0, 1) := by decide +kernel
theorem dX3_putScrewNumber_19 : decode cX3_putScrewNumber 19 = .ok (.getfield 21, 3) := by decide +kernel
theorem dX3_putScrewNumber_22 : decode cX3_putScrewNumber 22 = .ok (.arraylength, 1) := by decide +kernel
theorem dX3_putScrewNumber_23 : decode cX3_putScrewNumber 23 = .ok (.if_icmp .ge 12, 3) := by decide +kernel
theorem dX3_putScrewNumber_26 : decode cX3_putScrewNumber 26 = .ok (.aload_n 0, 1) := by decide +kernel
theorem dX3_putScrewNumber_27 : decode cX3_putScrewNumber 27 = .ok (.getfield 21, 3) := by decide +kernel
theorem dX3_putScrewNumber_30 : decode cX3_putScrewNumber 30 = .ok (.iload 5, 2) := by decide +kernel
theorem dX3_putScrewNumber_32 : decode cX3_putScrewNumber 32 = .ok (.iload 4, 2) := by decide +kernel
theorem dX3_putScrewNumber_34 : decode cX3_putScrewNumber 34 = .ok (.iastore, 1) := by decide +kernel
theorem dX3_putScrewNumber_35 : decode cX3_putScrewNumber 35 = .ok (.return_, 1) := by decide +kernel
set_option maxRecDepth 20000 in
theorem sX3_putScrewNumber_0 {P : Option Value → AH → Prop} (h : AH) (r0 : Nat) (x1 : Int32) (x2 : Int32) (x3 : Int32) (x4 : Int32) (hf : (((((x1 * 3) + x2) * 3) + x3) < 0 → P none h) ∧ (¬ ((((x1 * 3) + x2) * 3) + x3) < 0 → (isO h 3 r0) ∧ ((isA h 0 (gF h r0 8)) ∧ (((Int32.ofNat (ln (gF h r0 8))) ≤ ((((x1 * 3) + x2) * 3) + x3) → P none h) ∧ (¬ (Int32.ofNat (ln (gF h r0 8))) ≤ ((((x1 * 3) + x2) * 3) + x3) → (vp_in ((((x1 * 3) + x2) * 3) + x3) (ln (gF h r0 8))) ∧ (P none (sI h (gF h r0 8) ((((x1 * 3) + x2) * 3) + x3).toNatClampNeg x4))))))) : Rr mX3_putScrewNumber 0 0 0 [(0, .ref r0), (1, .int x1), (2, .int x2), (3, .int x3), (4, .int x4)] [] h P := by
  refine R_iload_n dX3_putScrewNumber_0 rfl 1 rfl ?_
  refine R_iconst (v := 3) dX3_putScrewNumber_1 (by decide) ?_
  refine R_imul dX3_putScrewNumber_2 ?_
  refine R_iload_n dX3_putScrewNumber_3 rfl 2 rfl ?_
  refine R_iadd dX3_putScrewNumber_4 ?_
  refine R_iconst (v := 3) dX3_putScrewNumber_5 (by decide) ?_
  refine R_imul dX3_putScrewNumber_6 ?_
  refine R_iload_n dX3_putScrewNumber_7 rfl 3 rfl ?_
  refine R_iadd dX3_putScrewNumber_8 ?_
  refine R_istore dX3_putScrewNumber_9 (by decide) rfl ?_
  refine R_iload dX3_putScrewNumber_11 0 rfl ?_
  refine R_if_lt (tgt := 35) dX3_putScrewNumber_13 (by decide) (fun b1 => ?_) (fun b1 => ?_)
  · have hf := hf.1 b1
    exact R_ret dX3_putScrewNumber_35 rfl hf
  · have hf := hf.2 b1
    refine R_iload dX3_putScrewNumber_16 0 rfl ?_
    refine R_aload_n dX3_putScrewNumber_18 rfl 1 rfl ?_
    obtain ⟨ob2, hf⟩ := hf
    refine G3_8 dX3_putScrewNumber_19 lfX3_21 ob2 ?_
    obtain ⟨ob3, hf⟩ := hf
    refine R_alen (v := Int32.ofNat (ln (gF h r0 8))) (by decide) dX3_putScrewNumber_22 ob3 rfl ?_
    refine R_icmp_ge (tgt := 35) dX3_putScrewNumber_23 (by decide) (fun b4 => ?_) (fun b4 => ?_)
    · have hf := hf.1 b4
      exact R_ret dX3_putScrewNumber_35 rfl hf
    · have hf := hf.2 b4
      refine R_aload_n dX3_putScrewNumber_26 rfl 1 rfl ?_
      refine G3_8 dX3_putScrewNumber_27 lfX3_21 ob2 ?_
      refine R_iload dX3_putScrewNumber_30 0 rfl ?_
      refine R_iload dX3_putScrewNumber_32 5 rfl ?_
      obtain ⟨ob5, hf⟩ := hf
      refine R_iastore dX3_putScrewNumber_34 ob3 ob5 ?_
      exact R_ret dX3_putScrewNumber_35 rfl hf
theorem dX3_screwNumber_0 : decode cX3_screwNumber 0 = .ok (.iload_n 1, 1) := by decide +kernel
theorem dX3_screwNumber_1 : decode cX3_screwNumber 1 = .ok (.iconst 3, 1) := by decide +kernel
theorem dX3_screwNumber_2 : decode cX3_screwNumber 2 = .ok (.imul, 1) := by decide +kernel
theorem dX3_screwNumber_3 : decode cX3_screwNumber 3 = .ok (.iload_n 2, 1) := by decide +kernel
theorem dX3_screwNumber_4 : decode cX3_screwNumber 4 = .ok (.iadd, 1) := by decide +kernel
theorem dX3_screwNumber_5 : decode cX3_screwNumber 5 = .ok (.iconst 3, 1) := by decide +kernel
theorem dX3_screwNumber_6 : decode cX3_screwNumber 6 = .ok (.imul, 1) := by decide +kernel
theorem dX3_screwNumber_7 : decode cX3_screwNumber 7 = .ok (.iload_n 3, 1) := by decide +kernel
theorem dX3_screwNumber_8 : decode cX3_screwNumber 8 = .ok (.iadd, 1) := by decide +kernel
theorem dX3_screwNumber_9 : decode cX3_screwNumber 9 = .ok (.istore 4, 2) := by decide +kernel
theorem dX3_screwNumber_11 : decode cX3_screwNumber 11 = .ok (.iload 4, 2) := by decide +kernel
theorem dX3_screwNumber_13 : decode cX3_screwNumber 13 = .ok (.ifCond .lt 23, 3) := by decide +kernel
theorem dX3_screwNumber_16 : decode cX3_screwNumber 16 = .ok (.iload 4, 2) := by decide +kernel
theorem dX3_screwNumber_18 : decode cX3_screwNumber 18 = .ok (.aload_n 0, 1) := by decide +kernel
theorem dX3_screwNumber_19 : decode cX3_screwNumber 19 = .ok (.getfield 21, 3) := by decide +kernel
theorem dX3_screwNumber_22 : decode cX3_screwNumber 22 = .ok (.arraylength, 1) := by decide +kernel
theorem dX3_screwNumber_23 : decode cX3_screwNumber 23 = .ok (.if_icmp .ge 13, 3) := by decide +kernel
theorem dX3_screwNumber_26 : decode cX3_screwNumber 26 = .ok (.aload_n 0, 1) := by decide +kernel
theorem dX3_screwNumber_27 : decode cX3_screwNumber 27 = .ok (.getfield 21, 3) := by decide +kernel
theorem dX3_screwNumber_30 : decode cX3_screwNumber 30 = .ok (.iload 4, 2) := by decide +kernel
theorem dX3_screwNumber_32 : decode cX3_screwNumber 32 = .ok (.iaload, 1) := by decide +kernel
theorem dX3_screwNumber_33 : decode cX3_screwNumber 33 = .ok (.goto 4, 3) := by decide +kernel
theorem dX3_screwNumber_36 : decode cX3_screwNumber 36 = .ok (.iconst 0, 1) := by decide +kernel
theorem dX3_screwNumber_37 : decode cX3_screwNumber 37 = .ok (.ireturn, 1) := by decide +kernel
set_option maxRecDepth 20000 in
theorem sX3_screwNumber_0 {P : Option Value → AH → Prop} (h : AH) (r0 : Nat) (x1 : Int32) (x2 : Int32) (x3 : Int32) (hf : (isO h 3 r0) ∧ ((isA h 0 (gF h r0 8)) ∧ ((¬ ((((x1 * 3) + x2) * 3) + x3) < 0 → ¬ (Int32.ofNat (ln (gF h r0 8))) ≤ ((((x1 * 3) + x2) * 3) + x3) → vp_in ((((x1 * 3) + x2) * 3) + x3) (ln (gF h r0 8))) ∧ (∀ z6 : Int32, z6 = (if ((((x1 * 3) + x2) * 3) + x3) < 0 then 0 else (if (Int32.ofNat (ln (gF h r0 8))) ≤ ((((x1 * 3) + x2) * 3) + x3) then 0 else (gI h (gF h r0 8) ((((x1 * 3) + x2) * 3) + x3).toNatClampNeg))) → (P (some (.int z6)) h))))) : Rr mX3_screwNumber 0 0 0 [(0, .ref r0), (1, .int x1), (2, .int x2), (3, .int x3)] [] h P := by
  refine R_iload_n dX3_screwNumber_0 rfl 1 rfl ?_
  refine R_iconst (v := 3) dX3_screwNumber_1 (by decide) ?_
  refine R_imul dX3_screwNumber_2 ?_
  refine R_iload_n dX3_screwNumber_3 rfl 2 rfl ?_
  refine R_iadd dX3_screwNumber_4 ?_
  refine R_iconst (v := 3) dX3_screwNumber_5 (by decide) ?_
  refine R_imul dX3_screwNumber_6 ?_
  refine R_iload_n dX3_screwNumber_7 rfl 3 rfl ?_
  refine R_iadd dX3_screwNumber_8 ?_
  refine R_istore dX3_screwNumber_9 (by decide) rfl ?_
  refine R_iload dX3_screwNumber_11 0 rfl ?_
  obtain ⟨ob2, hf⟩ := hf
  obtain ⟨ob3, hf⟩ := hf
  obtain ⟨ob5, hf⟩ := hf
  have key : ∀ z6 : Int32, z6 = (if ((((x1 * 3) + x2) * 3) + x3) < 0 then 0 else (if (Int32.ofNat (ln (gF h r0 8))) ≤ ((((x1 * 3) + x2) * 3) + x3) then 0 else (gI h (gF h r0 8) ((((x1 * 3) + x2) * 3) + x3).toNatClampNeg))) → Rr mX3_screwNumber 0 0 37 [] [.int z6] h P := by
    intro z6 ez6
    have hf := hf z6 ez6
    exact R_iret dX3_screwNumber_37 rfl rfl hf
  refine R_if_lt (tgt := 36) dX3_screwNumber_13 (by decide) (fun b1 => ?_) (fun b1 => ?_)
  · refine R_iconst (v := 0) dX3_screwNumber_36 (by decide) ?_
    exact R_sub [] rfl (key _ (by rw [if_pos b1]))
  · refine R_iload dX3_screwNumber_16 0 rfl ?_
    refine R_aload_n dX3_screwNumber_18 rfl 1 rfl ?_
    refine G3_8 dX3_screwNumber_19 lfX3_21 ob2 ?_
    refine R_alen (v := Int32.ofNat (ln (gF h r0 8))) (by decide) dX3_screwNumber_22 ob3 rfl ?_
    refine R_icmp_ge (tgt := 36) dX3_screwNumber_23 (by decide) (fun b4 => ?_) (fun b4 => ?_)
    · refine R_iconst (v := 0) dX3_screwNumber_36 (by decide) ?_
      exact R_sub [] rfl (key _ (by rw [if_neg b1, if_pos b4]))
    · refine R_aload_n dX3_screwNumber_26 rfl 1 rfl ?_
      refine G3_8 dX3_screwNumber_27 lfX3_21 ob2 ?_
      refine R_iload dX3_screwNumber_30 0 rfl ?_
      refine R_iaload dX3_screwNumber_32 ob3 (ob5 b1 b4) ?_
      refine R_goto (tgt := 37) dX3_screwNumber_33 (by decide) ?_
      exact R_sub [] rfl (key _ (by rw [if_neg b1, if_neg b4]))
theorem aX3_screwNumber {h : AH} {P : Option Value → AH → Prop} {r0 : Nat} {x1 : Int32} {x2 : Int32} {x3 : Int32} (o0 : isO h 3 r0) (o1 : isA h 0 (gF h r0 8)) (o2 : ¬ ((((x1 * 3) + x2) * 3) + x3) < 0 → ¬ (Int32.ofNat (ln (gF h r0 8))) ≤ ((((x1 * 3) + x2) * 3) + x3) → vp_in ((((x1 * 3) + x2) * 3) + x3) (ln (gF h r0 8))) (k : P (some (.int (if ((((x1 * 3) + x2) * 3) + x3) < 0 then 0 else (if (Int32.ofNat (ln (gF h r0 8))) ≤ ((((x1 * 3) + x2) * 3) + x3) then 0 else (gI h (gF h r0 8) ((((x1 * 3) + x2) * 3) + x3).toNatClampNeg))))) h) : Call mX3_screwNumber [.ref r0, .int x1, .int x2, .int x3] h P :=
  Call.ofR (by decide +kernel) (Nat.le_of_ble_eq_true rfl) (sX3_screwNumber_0 h r0 x1 x2 x3 (⟨o0, ⟨o1, ⟨o2, fun z6 ez6 => by subst ez6; exact (k)⟩⟩⟩))
theorem dX3_stays_0 : decode cX3_stays 0 = .ok (.iload_n 1, 1) := by decide +kernel
theorem dX3_stays_1 : decode cX3_stays 1 = .ok (.ifCond .lt 25, 3) := by decide +kernel
theorem dX3_stays_4 : decode cX3_stays 4 = .ok (.iload_n 1, 1) := by decide +kernel
theorem dX3_stays_5 : decode cX3_stays 5 = .ok (.aload_n 0, 1) := by decide +kernel
theorem dX3_stays_6 : decode cX3_stays 6 = .ok (.getfield 41, 3) := by decide +kernel
theorem dX3_stays_9 : decode cX3_stays 9 = .ok (.arraylength, 1) := by decide +kernel
theorem dX3_stays_10 : decode cX3_stays 10 = .ok (.if_icmp .ge 16, 3) := by decide +kernel
theorem dX3_stays_13 : decode cX3_stays 13 = .ok (.iload_n 1, 1) := by decide +kernel
theorem dX3_stays_14 : decode cX3_stays 14 = .ok (.iconst 4, 1) := by decide +kernel
theorem dX3_stays_15 : decode cX3_stays 15 = .ok (.idiv, 1) := by decide +kernel
theorem dX3_stays_16 : decode cX3_stays 16 = .ok (.iload_n 1, 1) := by decide +kernel
theorem dX3_stays_17 : decode cX3_stays 17 = .ok (.iconst 4, 1) := by decide +kernel
theorem dX3_stays_18 : decode cX3_stays 18 = .ok (.irem, 1) := by decide +kernel
theorem dX3_stays_19 : decode cX3_stays 19 = .ok (.if_icmp .eq 7, 3) := by decide +kernel
theorem dX3_stays_22 : decode cX3_stays 22 = .ok (.iconst 1, 1) := by decide +kernel
theorem dX3_stays_23 : decode cX3_stays 23 = .ok (.goto 4, 3) := by decide +kernel
theorem dX3_stays_26 : decode cX3_stays 26 = .ok (.iconst 0, 1) := by decide +kernel
theorem dX3_stays_27 : decode cX3_stays 27 = .ok (.istore_n 2, 1) := by decide +kernel
theorem dX3_stays_28 : decode cX3_stays 28 = .ok (.iload_n 2, 1) := by decide +kernel
theorem dX3_stays_29 : decode cX3_stays 29 = .ok (.ifCond .eq 12, 3) := by decide +kernel
theorem dX3_stays_32 : decode cX3_stays 32 = .ok (.aload_n 0, 1) := by decide +kernel
theorem dX3_stays_33 : decode cX3_stays 33 = .ok (.getfield 41, 3) := by decide +kernel
theorem dX3_stays_36 : decode cX3_stays 36 = .ok (.iload_n 1, 1) := by decide +kernel
theorem dX3_stays_37 : decode cX3_stays 37 = .ok (.iaload, 1) := by decide +kernel
theorem dX3_stays_38 : decode cX3_stays 38 = .ok (.goto 4, 3) := by decide +kernel
theorem dX3_stays_41 : decode cX3_stays 41 = .ok (.iconst (-1), 1) := by decide +kernel
theorem dX3_stays_42 : decode cX3_stays 42 = .ok (.ireturn, 1) := by decide +kernel
set_option maxRecDepth 20000 in
theorem sX3_stays_0 {P : Option Value → AH → Prop} (h : AH) (r0 : Nat) (x1 : Int32) (hf : (isO h 3 r0) ∧ ((isA h 0 (gF h r0 15)) ∧ (((¬ x1 < 0 ∧ ¬ (Int32.ofNat (ln (gF h r0 15))) ≤ x1 ∧ ¬ (x1 / 4) = (x1 % 4)) → vp_in x1 (ln (gF h r0 15))) ∧ (∀ z8 : Int32, z8 = (if (¬ x1 < 0 ∧ ¬ (Int32.ofNat (ln (gF h r0 15))) ≤ x1 ∧ ¬ (x1 / 4) = (x1 % 4)) then (gI h (gF h r0 15) x1.toNatClampNeg) else (-1)) → (P (some (.int z8)) h))))) : Rr mX3_stays 0 0 0 [(0, .ref r0), (1, .int x1)] [] h P := by
  refine R_iload_n dX3_stays_0 rfl 1 rfl ?_
  obtain ⟨ob2, hf⟩ := hf
  obtain ⟨ob3, hf⟩ := hf
  have key :  Rr mX3_stays 0 0 27 [(0, .ref r0), (1, .int x1)] [.int (bi (¬ x1 < 0 ∧ ¬ (Int32.ofNat (ln (gF h r0 15))) ≤ x1 ∧ ¬ (x1 / 4) = (x1 % 4)))] h P := by
    refine R_istore_n dX3_stays_27 rfl (by decide) rfl ?_
    refine R_iload_n dX3_stays_28 rfl 0 rfl ?_
    obtain ⟨ob7, hf⟩ := hf
    have key : ∀ z8 : Int32, z8 = (if (¬ x1 < 0 ∧ ¬ (Int32.ofNat (ln (gF h r0 15))) ≤ x1 ∧ ¬ (x1 / 4) = (x1 % 4)) then (gI h (gF h r0 15) x1.toNatClampNeg) else (-1)) → Rr mX3_stays 0 0 42 [] [.int z8] h P := by
      intro z8 ez8
      have hf := hf z8 ez8
      exact R_iret dX3_stays_42 rfl rfl hf
    refine R_if_eq_b (tgt := 41) dX3_stays_29 (by decide) (fun b6 => ?_) (fun b6 => ?_)
    · refine R_iconst (v := (-1)) dX3_stays_41 (by decide) ?_
      exact R_sub [] rfl (key _ (by rw [if_neg b6]))
    · refine R_aload_n dX3_stays_32 rfl 1 rfl ?_
      refine G3_15 dX3_stays_33 lfX3_41 ob2 ?_
      refine R_iload_n dX3_stays_36 rfl 2 rfl ?_
      refine R_iaload dX3_stays_37 ob3 (ob7 b6) ?_
      refine R_goto (tgt := 42) dX3_stays_38 (by decide) ?_
      exact R_sub [] rfl (key _ (by rw [if_pos b6]))
  refine R_if_lt (tgt := 26) dX3_stays_1 (by decide) (fun b1 => ?_) (fun b1 => ?_)
  · refine R_iconst (v := 0) dX3_stays_26 (by decide) ?_
    have kb := key
    rw [show bi (¬ x1 < 0 ∧ ¬ (Int32.ofNat (ln (gF h r0 15))) ≤ x1 ∧ ¬ (x1 / 4) = (x1 % 4)) = 0 from by simp only [bi, b1, false_and, and_false, true_and, and_true, not_true_eq_false, not_false_eq_true, if_true, if_false, true_or, or_true, false_or, or_false, reduceIte]] at kb
    exact R_sub [0, 1] rfl kb
  · refine R_iload_n dX3_stays_4 rfl 1 rfl ?_
    refine R_aload_n dX3_stays_5 rfl 0 rfl ?_
    refine G3_15 dX3_stays_6 lfX3_41 ob2 ?_
    refine R_alen (v := Int32.ofNat (ln (gF h r0 15))) (by decide) dX3_stays_9 ob3 rfl ?_
    refine R_icmp_ge (tgt := 26) dX3_stays_10 (by decide) (fun b4 => ?_) (fun b4 => ?_)
    · refine R_iconst (v := 0) dX3_stays_26 (by decide) ?_
      have kb := key
      rw [show bi (¬ x1 < 0 ∧ ¬ (Int32.ofNat (ln (gF h r0 15))) ≤ x1 ∧ ¬ (x1 / 4) = (x1 % 4)) = 0 from by simp only [bi, b1, b4, false_and, and_false, true_and, and_true, not_true_eq_false, not_false_eq_true, if_true, if_false, true_or, or_true, false_or, or_false, reduceIte]] at kb
      exact R_sub [0, 1] rfl kb
    · refine R_iload_n dX3_stays_13 rfl 1 rfl ?_
      refine R_iconst (v := 4) dX3_stays_14 (by decide) ?_
      refine R_idiv dX3_stays_15 (by decide) ?_
      refine R_iload_n dX3_stays_16 rfl 1 rfl ?_
      refine R_iconst (v := 4) dX3_stays_17 (by decide) ?_
      refine R_irem dX3_stays_18 (by decide) ?_
      refine R_icmp_eq (tgt := 26) dX3_stays_19 (by decide) (fun b5 => ?_) (fun b5 => ?_)
      · refine R_iconst (v := 0) dX3_stays_26 (by decide) ?_
        have kb := key
        rw [show bi (¬ x1 < 0 ∧ ¬ (Int32.ofNat (ln (gF h r0 15))) ≤ x1 ∧ ¬ (x1 / 4) = (x1 % 4)) = 0 from by simp only [bi, b1, b4, b5, false_and, and_false, true_and, and_true, not_true_eq_false, not_false_eq_true, if_true, if_false, true_or, or_true, false_or, or_false, reduceIte]] at kb
        exact R_sub [0, 1] rfl kb
      · refine R_iconst (v := 1) dX3_stays_22 (by decide) ?_
        refine R_goto (tgt := 27) dX3_stays_23 (by decide) ?_
        have kb := key
        rw [show bi (¬ x1 < 0 ∧ ¬ (Int32.ofNat (ln (gF h r0 15))) ≤ x1 ∧ ¬ (x1 / 4) = (x1 % 4)) = 1 from by simp only [bi, b1, b4, b5, false_and, and_false, true_and, and_true, not_true_eq_false, not_false_eq_true, if_true, if_false, true_or, or_true, false_or, or_false, reduceIte]] at kb
        exact R_sub [0, 1] rfl kb
theorem aX3_stays {h : AH} {P : Option Value → AH → Prop} {r0 : Nat} {x1 : Int32} (o0 : isO h 3 r0) (o1 : isA h 0 (gF h r0 15)) (o2 : (¬ x1 < 0 ∧ ¬ (Int32.ofNat (ln (gF h r0 15))) ≤ x1 ∧ ¬ (x1 / 4) = (x1 % 4)) → vp_in x1 (ln (gF h r0 15))) (k : P (some (.int (if (¬ x1 < 0 ∧ ¬ (Int32.ofNat (ln (gF h r0 15))) ≤ x1 ∧ ¬ (x1 / 4) = (x1 % 4)) then (gI h (gF h r0 15) x1.toNatClampNeg) else (-1)))) h) : Call mX3_stays [.ref r0, .int x1] h P :=
  Call.ofR (by decide +kernel) (Nat.le_of_ble_eq_true rfl) (sX3_stays_0 h r0 x1 (⟨o0, ⟨o1, ⟨o2, fun z8 ez8 => by subst ez8; exact (k)⟩⟩⟩))
theorem dX4_refuse_0 : decode cX4_refuse 0 = .ok (.aload_n 0, 1) := by decide +kernel
theorem dX4_refuse_1 : decode cX4_refuse 1 = .ok (.getfield 38, 3) := by decide +kernel
theorem dX4_refuse_4 : decode cX4_refuse 4 = .ok (.ifCond .ne 19, 3) := by decide +kernel
theorem dX4_refuse_7 : decode cX4_refuse 7 = .ok (.aload_n 0, 1) := by decide +kernel
theorem dX4_refuse_8 : decode cX4_refuse 8 = .ok (.iload_n 1, 1) := by decide +kernel
theorem dX4_refuse_9 : decode cX4_refuse 9 = .ok (.putfield 38, 3) := by decide +kernel
theorem dX4_refuse_12 : decode cX4_refuse 12 = .ok (.aload_n 0, 1) := by decide +kernel
theorem dX4_refuse_13 : decode cX4_refuse 13 = .ok (.aload_n 0, 1) := by decide +kernel
theorem dX4_refuse_14 : decode cX4_refuse 14 = .ok (.getfield 12, 3) := by decide +kernel
theorem dX4_refuse_17 : decode cX4_refuse 17 = .ok (.getfield 56, 3) := by decide +kernel
theorem dX4_refuse_20 : decode cX4_refuse 20 = .ok (.putfield 25, 3) := by decide +kernel
theorem dX4_refuse_23 : decode cX4_refuse 23 = .ok (.return_, 1) := by decide +kernel
set_option maxRecDepth 20000 in
theorem sX4_refuse_0 {P : Option Value → AH → Prop} (h : AH) (r0 : Nat) (x1 : Int32) (hf : (isO h 4 r0) ∧ ((¬ (gI h r0 4) = 0 → P none h) ∧ ((gI h r0 4) = 0 → (isO h 9 (gF h r0 0)) ∧ (P none (sI (sI h r0 4 x1) r0 5 (gI h (gF h r0 0) 4)))))) : Rr mX4_refuse 0 0 0 [(0, .ref r0), (1, .int x1)] [] h P := by
  refine R_aload_n dX4_refuse_0 rfl 0 rfl ?_
  obtain ⟨ob1, hf⟩ := hf
  refine G4_4 dX4_refuse_1 lfX4_38 ob1 ?_
  refine R_if_ne (tgt := 23) dX4_refuse_4 (by decide) (fun b2 => ?_) (fun b2 => ?_)
  · have hf := hf.1 b2
    exact R_ret dX4_refuse_23 rfl hf
  · have hf := hf.2 b2
    refine R_aload_n dX4_refuse_7 rfl 0 rfl ?_
    refine R_iload_n dX4_refuse_8 rfl 1 rfl ?_
    refine S4_4 dX4_refuse_9 lfX4_38 ob1 ?_
    refine R_aload_n dX4_refuse_12 rfl 0 rfl ?_
    refine R_aload_n dX4_refuse_13 rfl 0 rfl ?_
    refine G4_0 dX4_refuse_14 lfX4_12 ob1 ?_
    refine R_eqF (y := gF h r0 0) rfl ?_
    obtain ⟨ob3, hf⟩ := hf
    refine G9_4 dX4_refuse_17 lfX4_56 ob3 ?_
    refine R_eqI (y := gI h (gF h r0 0) 4) (rd_r (ne_oo ob3 ob1 (by decide))) ?_
    refine S4_5 dX4_refuse_20 lfX4_25 ob1 ?_
    exact R_ret dX4_refuse_23 rfl hf
theorem dX5_forget_0 : decode cX5_forget 0 = .ok (.aload_n 0, 1) := by decide +kernel
theorem dX5_forget_1 : decode cX5_forget 1 = .ok (.iconst 0, 1) := by decide +kernel
theorem dX5_forget_2 : decode cX5_forget 2 = .ok (.putfield 31, 3) := by decide +kernel
theorem dX5_forget_5 : decode cX5_forget 5 = .ok (.return_, 1) := by decide +kernel
set_option maxRecDepth 20000 in
theorem sX5_forget_0 {P : Option Value → AH → Prop} (h : AH) (r0 : Nat) (hf : (isO h 5 r0) ∧ (P none (sI h r0 9 0))) : Rr mX5_forget 0 0 0 [(0, .ref r0)] [] h P := by
  refine R_aload_n dX5_forget_0 rfl 0 rfl ?_
  refine R_iconst (v := 0) dX5_forget_1 (by decide) ?_
  obtain ⟨ob1, hf⟩ := hf
  refine S5_9 dX5_forget_2 lfX5_31 ob1 rfl rfl ?_
  exact R_ret dX5_forget_5 rfl hf
theorem aX5_forget {h : AH} {P : Option Value → AH → Prop} {r0 : Nat} (o0 : isO h 5 r0) (k : P none (sI h r0 9 0)) : Call mX5_forget [.ref r0] h P :=
  Call.ofR (by decide +kernel) (Nat.le_of_ble_eq_true rfl) (sX5_forget_0 h r0 (⟨o0, k⟩))
theorem dX6_begin_0 : decode cX6_begin 0 = .ok (.aload_n 0, 1) := by decide +kernel
theorem dX6_begin_1 : decode cX6_begin 1 = .ok (.iload_n 1, 1) := by decide +kernel
theorem dX6_begin_2 : decode cX6_begin 2 = .ok (.putfield 24, 3) := by decide +kernel
theorem dX6_begin_5 : decode cX6_begin 5 = .ok (.aload_n 0, 1) := by decide +kernel
theorem dX6_begin_6 : decode cX6_begin 6 = .ok (.iload_n 2, 1) := by decide +kernel
theorem dX6_begin_7 : decode cX6_begin 7 = .ok (.putfield 27, 3) := by decide +kernel
theorem dX6_begin_10 : decode cX6_begin 10 = .ok (.aload_n 0, 1) := by decide +kernel
theorem dX6_begin_11 : decode cX6_begin 11 = .ok (.iload_n 3, 1) := by decide +kernel
theorem dX6_begin_12 : decode cX6_begin 12 = .ok (.putfield 30, 3) := by decide +kernel
theorem dX6_begin_15 : decode cX6_begin 15 = .ok (.aload_n 0, 1) := by decide +kernel
theorem dX6_begin_16 : decode cX6_begin 16 = .ok (.iload 4, 2) := by decide +kernel
theorem dX6_begin_18 : decode cX6_begin 18 = .ok (.putfield 33, 3) := by decide +kernel
theorem dX6_begin_21 : decode cX6_begin 21 = .ok (.return_, 1) := by decide +kernel
set_option maxRecDepth 20000 in
theorem sX6_begin_0 {P : Option Value → AH → Prop} (h : AH) (r0 : Nat) (x1 : Int32) (x2 : Int32) (x3 : Int32) (x4 : Int32) (hf : (isO h 6 r0) ∧ (P none (sI (sI (sI (sI h r0 0 x1) r0 1 x2) r0 2 x3) r0 3 x4))) : Rr mX6_begin 0 0 0 [(0, .ref r0), (1, .int x1), (2, .int x2), (3, .int x3), (4, .int x4)] [] h P := by
  refine R_aload_n dX6_begin_0 rfl 0 rfl ?_
  refine R_iload_n dX6_begin_1 rfl 1 rfl ?_
  obtain ⟨ob1, hf⟩ := hf
  refine S6_0 dX6_begin_2 lfX6_24 ob1 ?_
  refine R_aload_n dX6_begin_5 rfl 0 rfl ?_
  refine R_iload_n dX6_begin_6 rfl 2 rfl ?_
  refine S6_1 dX6_begin_7 lfX6_27 ob1 ?_
  refine R_aload_n dX6_begin_10 rfl 0 rfl ?_
  refine R_iload_n dX6_begin_11 rfl 3 rfl ?_
  refine S6_2 dX6_begin_12 lfX6_30 ob1 ?_
  refine R_aload_n dX6_begin_15 rfl 0 rfl ?_
  refine R_iload dX6_begin_16 4 rfl ?_
  refine S6_3 dX6_begin_18 lfX6_33 ob1 ?_
  exact R_ret dX6_begin_21 rfl hf
theorem aX6_begin {h : AH} {P : Option Value → AH → Prop} {r0 : Nat} {x1 : Int32} {x2 : Int32} {x3 : Int32} {x4 : Int32} (o0 : isO h 6 r0) (k : P none (sI (sI (sI (sI h r0 0 x1) r0 1 x2) r0 2 x3) r0 3 x4)) : Call mX6_begin [.ref r0, .int x1, .int x2, .int x3, .int x4] h P :=
  Call.ofR (by decide +kernel) (Nat.le_of_ble_eq_true rfl) (sX6_begin_0 h r0 x1 x2 x3 x4 (⟨o0, k⟩))
theorem dX6_beginRows_0 : decode cX6_beginRows 0 = .ok (.iconst 1, 1) := by decide +kernel
theorem dX6_beginRows_1 : decode cX6_beginRows 1 = .ok (.istore_n 2, 1) := by decide +kernel
theorem dX6_beginRows_2 : decode cX6_beginRows 2 = .ok (.iconst 0, 1) := by decide +kernel
theorem dX6_beginRows_3 : decode cX6_beginRows 3 = .ok (.istore_n 3, 1) := by decide +kernel
theorem dX6_beginRows_4 : decode cX6_beginRows 4 = .ok (.iload_n 3, 1) := by decide +kernel
theorem dX6_beginRows_5 : decode cX6_beginRows 5 = .ok (.aload_n 0, 1) := by decide +kernel
theorem dX6_beginRows_6 : decode cX6_beginRows 6 = .ok (.getfield 20, 3) := by decide +kernel
theorem dX6_beginRows_9 : decode cX6_beginRows 9 = .ok (.if_icmp .ge 25, 3) := by decide +kernel
theorem dX6_beginRows_12 : decode cX6_beginRows 12 = .ok (.aload_n 0, 1) := by decide +kernel
theorem dX6_beginRows_13 : decode cX6_beginRows 13 = .ok (.getfield 11, 3) := by decide +kernel
theorem dX6_beginRows_16 : decode cX6_beginRows 16 = .ok (.iload_n 3, 1) := by decide +kernel
theorem dX6_beginRows_17 : decode cX6_beginRows 17 = .ok (.iload_n 1, 1) := by decide +kernel
theorem dX6_beginRows_18 : decode cX6_beginRows 18 = .ok (.ineg, 1) := by decide +kernel
theorem dX6_beginRows_19 : decode cX6_beginRows 19 = .ok (.iastore, 1) := by decide +kernel
theorem dX6_beginRows_20 : decode cX6_beginRows 20 = .ok (.iload_n 2, 1) := by decide +kernel
theorem dX6_beginRows_21 : decode cX6_beginRows 21 = .ok (.iconst 2, 1) := by decide +kernel
theorem dX6_beginRows_22 : decode cX6_beginRows 22 = .ok (.iload_n 1, 1) := by decide +kernel
theorem dX6_beginRows_23 : decode cX6_beginRows 23 = .ok (.imul, 1) := by decide +kernel
theorem dX6_beginRows_24 : decode cX6_beginRows 24 = .ok (.iconst 1, 1) := by decide +kernel
theorem dX6_beginRows_25 : decode cX6_beginRows 25 = .ok (.iadd, 1) := by decide +kernel
theorem dX6_beginRows_26 : decode cX6_beginRows 26 = .ok (.imul, 1) := by decide +kernel
theorem dX6_beginRows_27 : decode cX6_beginRows 27 = .ok (.istore_n 2, 1) := by decide +kernel
theorem dX6_beginRows_28 : decode cX6_beginRows 28 = .ok (.iinc 3 1, 3) := by decide +kernel
theorem dX6_beginRows_31 : decode cX6_beginRows 31 = .ok (.goto (-27), 3) := by decide +kernel
theorem dX6_beginRows_34 : decode cX6_beginRows 34 = .ok (.iload_n 2, 1) := by decide +kernel
theorem dX6_beginRows_35 : decode cX6_beginRows 35 = .ok (.ireturn, 1) := by decide +kernel
set_option maxRecDepth 20000 in
theorem sX6_beginRows_0 {P : Option Value → AH → Prop} (h : AH) (r0 : Nat) (x1 : Int32) (hf : Rr mX6_beginRows 0 0 4 [(0, .ref r0), (1, .int x1), (2, .int 1), (3, .int 0)] [] h P) : Rr mX6_beginRows 0 0 0 [(0, .ref r0), (1, .int x1)] [] h P := by
  refine R_iconst (v := 1) dX6_beginRows_0 (by decide) ?_
  refine R_istore_n dX6_beginRows_1 rfl (by decide) rfl ?_
  refine R_iconst (v := 0) dX6_beginRows_2 (by decide) ?_
  refine R_istore_n dX6_beginRows_3 rfl (by decide) rfl ?_
  exact R_sub [2, 3, 1, 0] rfl hf
set_option maxRecDepth 20000 in
theorem sX6_beginRows_4 {P : Option Value → AH → Prop} (h : AH) (r0 : Nat) (x1 : Int32) (x2 : Int32) (x3 : Int32) (hf : (isO h 6 r0) ∧ (((gI h r0 5) ≤ x3 → P (some (.int x2)) h) ∧ (¬ (gI h r0 5) ≤ x3 → (isA h 0 (gF h r0 4)) ∧ ((vp_in x3 (ln (gF h r0 4))) ∧ (Rr mX6_beginRows 0 0 4 [(0, .ref r0), (1, .int x1), (2, .int (x2 * ((2 * x1) + 1))), (3, .int (x3 + 1))] [] (sI h (gF h r0 4) x3.toNatClampNeg (-x1)) P))))) : Rr mX6_beginRows 0 0 4 [(0, .ref r0), (1, .int x1), (2, .int x2), (3, .int x3)] [] h P := by
  refine R_iload_n dX6_beginRows_4 rfl 3 rfl ?_
  refine R_aload_n dX6_beginRows_5 rfl 0 rfl ?_
  obtain ⟨ob1, hf⟩ := hf
  refine G6_5 dX6_beginRows_6 lfX6_20 ob1 ?_
  refine R_icmp_ge (tgt := 34) dX6_beginRows_9 (by decide) (fun b2 => ?_) (fun b2 => ?_)
  · have hf := hf.1 b2
    refine R_iload_n dX6_beginRows_34 rfl 2 rfl ?_
    exact R_iret dX6_beginRows_35 rfl rfl hf
  · have hf := hf.2 b2
    refine R_aload_n dX6_beginRows_12 rfl 0 rfl ?_
    refine G6_4 dX6_beginRows_13 lfX6_11 ob1 ?_
    refine R_iload_n dX6_beginRows_16 rfl 3 rfl ?_
    refine R_iload_n dX6_beginRows_17 rfl 1 rfl ?_
    refine R_ineg dX6_beginRows_18 ?_
    obtain ⟨ob3, hf⟩ := hf
    obtain ⟨ob4, hf⟩ := hf
    refine R_iastore dX6_beginRows_19 ob3 ob4 ?_
    refine R_iload_n dX6_beginRows_20 rfl 2 rfl ?_
    refine R_iconst (v := 2) dX6_beginRows_21 (by decide) ?_
    refine R_iload_n dX6_beginRows_22 rfl 1 rfl ?_
    refine R_imul dX6_beginRows_23 ?_
    refine R_iconst (v := 1) dX6_beginRows_24 (by decide) ?_
    refine R_iadd dX6_beginRows_25 ?_
    refine R_imul dX6_beginRows_26 ?_
    refine R_istore_n dX6_beginRows_27 rfl (by decide) rfl ?_
    refine R_iinc (v := x3 + 1) dX6_beginRows_28 3 rfl rfl (by decide) rfl ?_
    refine R_goto (tgt := 4) dX6_beginRows_31 (by decide) ?_
    exact R_sub [2, 3, 1, 0] rfl hf
theorem dX6_forget_0 : decode cX6_forget 0 = .ok (.aload_n 0, 1) := by decide +kernel
theorem dX6_forget_1 : decode cX6_forget 1 = .ok (.iconst 0, 1) := by decide +kernel
theorem dX6_forget_2 : decode cX6_forget 2 = .ok (.putfield 20, 3) := by decide +kernel
theorem dX6_forget_5 : decode cX6_forget 5 = .ok (.return_, 1) := by decide +kernel
set_option maxRecDepth 20000 in
theorem sX6_forget_0 {P : Option Value → AH → Prop} (h : AH) (r0 : Nat) (hf : (isO h 6 r0) ∧ (P none (sI h r0 5 0))) : Rr mX6_forget 0 0 0 [(0, .ref r0)] [] h P := by
  refine R_aload_n dX6_forget_0 rfl 0 rfl ?_
  refine R_iconst (v := 0) dX6_forget_1 (by decide) ?_
  obtain ⟨ob1, hf⟩ := hf
  refine S6_5 dX6_forget_2 lfX6_20 ob1 ?_
  exact R_ret dX6_forget_5 rfl hf
theorem aX6_forget {h : AH} {P : Option Value → AH → Prop} {r0 : Nat} (o0 : isO h 6 r0) (k : P none (sI h r0 5 0)) : Call mX6_forget [.ref r0] h P :=
  Call.ofR (by decide +kernel) (Nat.le_of_ble_eq_true rfl) (sX6_forget_0 h r0 (⟨o0, k⟩))
theorem dX6_nextRow_0 : decode cX6_nextRow 0 = .ok (.aload_n 0, 1) := by decide +kernel
theorem dX6_nextRow_1 : decode cX6_nextRow 1 = .ok (.getfield 20, 3) := by decide +kernel
theorem dX6_nextRow_4 : decode cX6_nextRow 4 = .ok (.iconst 1, 1) := by decide +kernel
theorem dX6_nextRow_5 : decode cX6_nextRow 5 = .ok (.isub, 1) := by decide +kernel
theorem dX6_nextRow_6 : decode cX6_nextRow 6 = .ok (.istore_n 2, 1) := by decide +kernel
theorem dX6_nextRow_7 : decode cX6_nextRow 7 = .ok (.iload_n 2, 1) := by decide +kernel
theorem dX6_nextRow_8 : decode cX6_nextRow 8 = .ok (.ifCond .lt 38, 3) := by decide +kernel
theorem dX6_nextRow_11 : decode cX6_nextRow 11 = .ok (.aload_n 0, 1) := by decide +kernel
theorem dX6_nextRow_12 : decode cX6_nextRow 12 = .ok (.getfield 11, 3) := by decide +kernel
theorem dX6_nextRow_15 : decode cX6_nextRow 15 = .ok (.iload_n 2, 1) := by decide +kernel
theorem dX6_nextRow_16 : decode cX6_nextRow 16 = .ok (.iaload, 1) := by decide +kernel
theorem dX6_nextRow_17 : decode cX6_nextRow 17 = .ok (.iload_n 1, 1) := by decide +kernel
theorem dX6_nextRow_18 : decode cX6_nextRow 18 = .ok (.if_icmp .ge 14, 3) := by decide +kernel
theorem dX6_nextRow_21 : decode cX6_nextRow 21 = .ok (.aload_n 0, 1) := by decide +kernel
theorem dX6_nextRow_22 : decode cX6_nextRow 22 = .ok (.getfield 11, 3) := by decide +kernel
theorem dX6_nextRow_25 : decode cX6_nextRow 25 = .ok (.iload_n 2, 1) := by decide +kernel
theorem dX6_nextRow_26 : decode cX6_nextRow 26 = .ok (.dup2, 1) := by decide +kernel
theorem dX6_nextRow_27 : decode cX6_nextRow 27 = .ok (.iaload, 1) := by decide +kernel
theorem dX6_nextRow_28 : decode cX6_nextRow 28 = .ok (.iconst 1, 1) := by decide +kernel
theorem dX6_nextRow_29 : decode cX6_nextRow 29 = .ok (.iadd, 1) := by decide +kernel
theorem dX6_nextRow_30 : decode cX6_nextRow 30 = .ok (.iastore, 1) := by decide +kernel
theorem dX6_nextRow_31 : decode cX6_nextRow 31 = .ok (.return_, 1) := by decide +kernel
theorem dX6_nextRow_32 : decode cX6_nextRow 32 = .ok (.aload_n 0, 1) := by decide +kernel
theorem dX6_nextRow_33 : decode cX6_nextRow 33 = .ok (.getfield 11, 3) := by decide +kernel
theorem dX6_nextRow_36 : decode cX6_nextRow 36 = .ok (.iload_n 2, 1) := by decide +kernel
theorem dX6_nextRow_37 : decode cX6_nextRow 37 = .ok (.iload_n 1, 1) := by decide +kernel
theorem dX6_nextRow_38 : decode cX6_nextRow 38 = .ok (.ineg, 1) := by decide +kernel
theorem dX6_nextRow_39 : decode cX6_nextRow 39 = .ok (.iastore, 1) := by decide +kernel
theorem dX6_nextRow_40 : decode cX6_nextRow 40 = .ok (.iinc 2 (-1), 3) := by decide +kernel
theorem dX6_nextRow_43 : decode cX6_nextRow 43 = .ok (.goto (-36), 3) := by decide +kernel
theorem dX6_nextRow_46 : decode cX6_nextRow 46 = .ok (.return_, 1) := by decide +kernel
set_option maxRecDepth 20000 in
theorem sX6_nextRow_0 {P : Option Value → AH → Prop} (h : AH) (r0 : Nat) (x1 : Int32) (hf : (isO h 6 r0) ∧ (Rr mX6_nextRow 0 0 7 [(0, .ref r0), (1, .int x1), (2, .int ((gI h r0 5) - 1))] [] h P)) : Rr mX6_nextRow 0 0 0 [(0, .ref r0), (1, .int x1)] [] h P := by
  refine R_aload_n dX6_nextRow_0 rfl 0 rfl ?_
  obtain ⟨ob1, hf⟩ := hf
  refine G6_5 dX6_nextRow_1 lfX6_20 ob1 ?_
  refine R_iconst (v := 1) dX6_nextRow_4 (by decide) ?_
  refine R_isub dX6_nextRow_5 ?_
  refine R_istore_n dX6_nextRow_6 rfl (by decide) rfl ?_
  exact R_sub [1, 2, 0] rfl hf
set_option maxRecDepth 20000 in
theorem sX6_nextRow_7 {P : Option Value → AH → Prop} (h : AH) (r0 : Nat) (x1 : Int32) (x2 : Int32) (hf : (x2 < 0 → P none h) ∧ (¬ x2 < 0 → (isO h 6 r0) ∧ ((isA h 0 (gF h r0 4)) ∧ ((vp_in x2 (ln (gF h r0 4))) ∧ ((x1 ≤ (gI h (gF h r0 4) x2.toNatClampNeg) → Rr mX6_nextRow 0 0 7 [(0, .ref r0), (1, .int x1), (2, .int (x2 + (-1)))] [] (sI h (gF h r0 4) x2.toNatClampNeg (-x1)) P) ∧ (¬ x1 ≤ (gI h (gF h r0 4) x2.toNatClampNeg) → P none (sI h (gF h r0 4) x2.toNatClampNeg ((gI h (gF h r0 4) x2.toNatClampNeg) + 1)))))))) : Rr mX6_nextRow 0 0 7 [(0, .ref r0), (1, .int x1), (2, .int x2)] [] h P := by
  refine R_iload_n dX6_nextRow_7 rfl 2 rfl ?_
  refine R_if_lt (tgt := 46) dX6_nextRow_8 (by decide) (fun b1 => ?_) (fun b1 => ?_)
  · have hf := hf.1 b1
    exact R_ret dX6_nextRow_46 rfl hf
  · have hf := hf.2 b1
    refine R_aload_n dX6_nextRow_11 rfl 0 rfl ?_
    obtain ⟨ob2, hf⟩ := hf
    refine G6_4 dX6_nextRow_12 lfX6_11 ob2 ?_
    refine R_iload_n dX6_nextRow_15 rfl 2 rfl ?_
    obtain ⟨ob3, hf⟩ := hf
    obtain ⟨ob4, hf⟩ := hf
    refine R_iaload dX6_nextRow_16 ob3 ob4 ?_
    refine R_iload_n dX6_nextRow_17 rfl 1 rfl ?_
    refine R_icmp_ge (tgt := 32) dX6_nextRow_18 (by decide) (fun b5 => ?_) (fun b5 => ?_)
    · have hf := hf.1 b5
      refine R_aload_n dX6_nextRow_32 rfl 0 rfl ?_
      refine G6_4 dX6_nextRow_33 lfX6_11 ob2 ?_
      refine R_iload_n dX6_nextRow_36 rfl 2 rfl ?_
      refine R_iload_n dX6_nextRow_37 rfl 1 rfl ?_
      refine R_ineg dX6_nextRow_38 ?_
      refine R_iastore dX6_nextRow_39 ob3 ob4 ?_
      refine R_iinc (v := x2 + (-1)) dX6_nextRow_40 2 rfl rfl (by decide) rfl ?_
      refine R_goto (tgt := 7) dX6_nextRow_43 (by decide) ?_
      exact R_sub [1, 2, 0] rfl hf
    · have hf := hf.2 b5
      refine R_aload_n dX6_nextRow_21 rfl 0 rfl ?_
      refine G6_4 dX6_nextRow_22 lfX6_11 ob2 ?_
      refine R_iload_n dX6_nextRow_25 rfl 2 rfl ?_
      refine R_dup2 dX6_nextRow_26 rfl rfl ?_
      refine R_iaload dX6_nextRow_27 ob3 ob4 ?_
      refine R_iconst (v := 1) dX6_nextRow_28 (by decide) ?_
      refine R_iadd dX6_nextRow_29 ?_
      refine R_iastore dX6_nextRow_30 ob3 ob4 ?_
      exact R_ret dX6_nextRow_31 rfl hf
theorem dX7_forget_0 : decode cX7_forget 0 = .ok (.aload_n 0, 1) := by decide +kernel
theorem dX7_forget_1 : decode cX7_forget 1 = .ok (.iconst 0, 1) := by decide +kernel
theorem dX7_forget_2 : decode cX7_forget 2 = .ok (.putfield 39, 3) := by decide +kernel
theorem dX7_forget_5 : decode cX7_forget 5 = .ok (.aload_n 0, 1) := by decide +kernel
theorem dX7_forget_6 : decode cX7_forget 6 = .ok (.iconst 0, 1) := by decide +kernel
theorem dX7_forget_7 : decode cX7_forget 7 = .ok (.putfield 43, 3) := by decide +kernel
theorem dX7_forget_10 : decode cX7_forget 10 = .ok (.aload_n 0, 1) := by decide +kernel
theorem dX7_forget_11 : decode cX7_forget 11 = .ok (.iconst 0, 1) := by decide +kernel
theorem dX7_forget_12 : decode cX7_forget 12 = .ok (.putfield 46, 3) := by decide +kernel
theorem dX7_forget_15 : decode cX7_forget 15 = .ok (.return_, 1) := by decide +kernel
set_option maxRecDepth 20000 in
theorem sX7_forget_0 {P : Option Value → AH → Prop} (h : AH) (r0 : Nat) (hf : (isO h 7 r0) ∧ (P none (sI (sI (sI h r0 0 0) r0 1 0) r0 2 0))) : Rr mX7_forget 0 0 0 [(0, .ref r0)] [] h P := by
  refine R_aload_n dX7_forget_0 rfl 0 rfl ?_
  refine R_iconst (v := 0) dX7_forget_1 (by decide) ?_
  obtain ⟨ob1, hf⟩ := hf
  refine S7_0 dX7_forget_2 lfX7_39 ob1 ?_
  refine R_aload_n dX7_forget_5 rfl 0 rfl ?_
  refine R_iconst (v := 0) dX7_forget_6 (by decide) ?_
  refine S7_1 dX7_forget_7 lfX7_43 ob1 ?_
  refine R_aload_n dX7_forget_10 rfl 0 rfl ?_
  refine R_iconst (v := 0) dX7_forget_11 (by decide) ?_
  refine S7_2 dX7_forget_12 lfX7_46 ob1 ?_
  exact R_ret dX7_forget_15 rfl hf
theorem aX7_forget {h : AH} {P : Option Value → AH → Prop} {r0 : Nat} (o0 : isO h 7 r0) (k : P none (sI (sI (sI h r0 0 0) r0 1 0) r0 2 0)) : Call mX7_forget [.ref r0] h P :=
  Call.ofR (by decide +kernel) (Nat.le_of_ble_eq_true rfl) (sX7_forget_0 h r0 (⟨o0, k⟩))
theorem dX7_isKnown_0 : decode cX7_isKnown 0 = .ok (.aload_n 0, 1) := by decide +kernel
theorem dX7_isKnown_1 : decode cX7_isKnown 1 = .ok (.getfield 15, 3) := by decide +kernel
theorem dX7_isKnown_4 : decode cX7_isKnown 4 = .ok (.iload_n 1, 1) := by decide +kernel
theorem dX7_isKnown_5 : decode cX7_isKnown 5 = .ok (.iaload, 1) := by decide +kernel
theorem dX7_isKnown_6 : decode cX7_isKnown 6 = .ok (.iload_n 2, 1) := by decide +kernel
theorem dX7_isKnown_7 : decode cX7_isKnown 7 = .ok (.if_icmp .ne 17, 3) := by decide +kernel
theorem dX7_isKnown_10 : decode cX7_isKnown 10 = .ok (.aload_n 0, 1) := by decide +kernel
theorem dX7_isKnown_11 : decode cX7_isKnown 11 = .ok (.getfield 11, 3) := by decide +kernel
theorem dX7_isKnown_14 : decode cX7_isKnown 14 = .ok (.iload_n 1, 1) := by decide +kernel
theorem dX7_isKnown_15 : decode cX7_isKnown 15 = .ok (.iaload, 1) := by decide +kernel
theorem dX7_isKnown_16 : decode cX7_isKnown 16 = .ok (.iload_n 3, 1) := by decide +kernel
theorem dX7_isKnown_17 : decode cX7_isKnown 17 = .ok (.if_icmp .gt 7, 3) := by decide +kernel
theorem dX7_isKnown_20 : decode cX7_isKnown 20 = .ok (.iconst 1, 1) := by decide +kernel
theorem dX7_isKnown_21 : decode cX7_isKnown 21 = .ok (.goto 4, 3) := by decide +kernel
theorem dX7_isKnown_24 : decode cX7_isKnown 24 = .ok (.iconst 0, 1) := by decide +kernel
theorem dX7_isKnown_25 : decode cX7_isKnown 25 = .ok (.ireturn, 1) := by decide +kernel
set_option maxRecDepth 20000 in
theorem sX7_isKnown_0 {P : Option Value → AH → Prop} (h : AH) (r0 : Nat) (x1 : Int32) (x2 : Int32) (x3 : Int32) (hf : (isO h 7 r0) ∧ ((isA h 0 (gF h r0 4)) ∧ ((vp_in x1 (ln (gF h r0 4))) ∧ ((isA h 0 (gF h r0 3)) ∧ (((gI h (gF h r0 4) x1.toNatClampNeg) = x2 → vp_in x1 (ln (gF h r0 3))) ∧ (P (some (.int (bi ((gI h (gF h r0 4) x1.toNatClampNeg) = x2 ∧ ¬ x3 < (gI h (gF h r0 3) x1.toNatClampNeg))))) h)))))) : Rr mX7_isKnown 0 0 0 [(0, .ref r0), (1, .int x1), (2, .int x2), (3, .int x3)] [] h P := by
  refine R_aload_n dX7_isKnown_0 rfl 0 rfl ?_
  obtain ⟨ob1, hf⟩ := hf
  refine G7_4 dX7_isKnown_1 lfX7_15 ob1 ?_
  refine R_iload_n dX7_isKnown_4 rfl 1 rfl ?_
  obtain ⟨ob2, hf⟩ := hf
  obtain ⟨ob3, hf⟩ := hf
  refine R_iaload dX7_isKnown_5 ob2 ob3 ?_
  refine R_iload_n dX7_isKnown_6 rfl 2 rfl ?_
  obtain ⟨ob5, hf⟩ := hf
  obtain ⟨ob6, hf⟩ := hf
  have key :  Rr mX7_isKnown 0 0 25 [] [.int (bi ((gI h (gF h r0 4) x1.toNatClampNeg) = x2 ∧ ¬ x3 < (gI h (gF h r0 3) x1.toNatClampNeg)))] h P := by
    exact R_iret dX7_isKnown_25 rfl (nb_n (bi_01 _)) hf
  refine R_icmp_ne (tgt := 24) dX7_isKnown_7 (by decide) (fun b4 => ?_) (fun b4 => ?_)
  · refine R_iconst (v := 0) dX7_isKnown_24 (by decide) ?_
    have kb := key
    rw [show bi ((gI h (gF h r0 4) x1.toNatClampNeg) = x2 ∧ ¬ x3 < (gI h (gF h r0 3) x1.toNatClampNeg)) = 0 from by simp only [bi, b4, false_and, and_false, true_and, and_true, not_true_eq_false, not_false_eq_true, if_true, if_false, true_or, or_true, false_or, or_false, reduceIte]] at kb
    exact R_sub [] rfl kb
  · refine R_aload_n dX7_isKnown_10 rfl 0 rfl ?_
    refine G7_3 dX7_isKnown_11 lfX7_11 ob1 ?_
    refine R_iload_n dX7_isKnown_14 rfl 1 rfl ?_
    refine R_iaload dX7_isKnown_15 ob5 (ob6 b4) ?_
    refine R_iload_n dX7_isKnown_16 rfl 3 rfl ?_
    refine R_icmp_gt (tgt := 24) dX7_isKnown_17 (by decide) (fun b7 => ?_) (fun b7 => ?_)
    · refine R_iconst (v := 0) dX7_isKnown_24 (by decide) ?_
      have kb := key
      rw [show bi ((gI h (gF h r0 4) x1.toNatClampNeg) = x2 ∧ ¬ x3 < (gI h (gF h r0 3) x1.toNatClampNeg)) = 0 from by simp only [bi, b4, b7, false_and, and_false, true_and, and_true, not_true_eq_false, not_false_eq_true, if_true, if_false, true_or, or_true, false_or, or_false, reduceIte]] at kb
      exact R_sub [] rfl kb
    · refine R_iconst (v := 1) dX7_isKnown_20 (by decide) ?_
      refine R_goto (tgt := 25) dX7_isKnown_21 (by decide) ?_
      have kb := key
      rw [show bi ((gI h (gF h r0 4) x1.toNatClampNeg) = x2 ∧ ¬ x3 < (gI h (gF h r0 3) x1.toNatClampNeg)) = 1 from by simp only [bi, b4, b7, false_and, and_false, true_and, and_true, not_true_eq_false, not_false_eq_true, if_true, if_false, true_or, or_true, false_or, or_false, reduceIte]] at kb
      exact R_sub [] rfl kb
theorem aX7_isKnown {h : AH} {P : Option Value → AH → Prop} {r0 : Nat} {x1 : Int32} {x2 : Int32} {x3 : Int32} (o0 : isO h 7 r0) (o1 : isA h 0 (gF h r0 4)) (o2 : vp_in x1 (ln (gF h r0 4))) (o3 : isA h 0 (gF h r0 3)) (o4 : (gI h (gF h r0 4) x1.toNatClampNeg) = x2 → vp_in x1 (ln (gF h r0 3))) (k : P (some (.int (bi ((gI h (gF h r0 4) x1.toNatClampNeg) = x2 ∧ ¬ x3 < (gI h (gF h r0 3) x1.toNatClampNeg))))) h) : Call mX7_isKnown [.ref r0, .int x1, .int x2, .int x3] h P :=
  Call.ofR (by decide +kernel) (Nat.le_of_ble_eq_true rfl) (sX7_isKnown_0 h r0 x1 x2 x3 (⟨o0, ⟨o1, ⟨o2, ⟨o3, ⟨o4, k⟩⟩⟩⟩⟩))
theorem dX7_isShiftSeen_0 : decode cX7_isShiftSeen 0 = .ok (.iload_n 0, 1) := by decide +kernel
theorem dX7_isShiftSeen_1 : decode cX7_isShiftSeen 1 = .ok (.bipush (-99), 2) := by decide +kernel
theorem dX7_isShiftSeen_3 : decode cX7_isShiftSeen 3 = .ok (.if_icmp .lt 13, 3) := by decide +kernel
theorem dX7_isShiftSeen_6 : decode cX7_isShiftSeen 6 = .ok (.iload_n 0, 1) := by decide +kernel
theorem dX7_isShiftSeen_7 : decode cX7_isShiftSeen 7 = .ok (.bipush 99, 2) := by decide +kernel
theorem dX7_isShiftSeen_9 : decode cX7_isShiftSeen 9 = .ok (.if_icmp .gt 7, 3) := by decide +kernel
theorem dX7_isShiftSeen_12 : decode cX7_isShiftSeen 12 = .ok (.iconst 1, 1) := by decide +kernel
theorem dX7_isShiftSeen_13 : decode cX7_isShiftSeen 13 = .ok (.goto 4, 3) := by decide +kernel
theorem dX7_isShiftSeen_16 : decode cX7_isShiftSeen 16 = .ok (.iconst 0, 1) := by decide +kernel
theorem dX7_isShiftSeen_17 : decode cX7_isShiftSeen 17 = .ok (.ireturn, 1) := by decide +kernel
set_option maxRecDepth 20000 in
theorem sX7_isShiftSeen_0 {P : Option Value → AH → Prop} (h : AH) (x0 : Int32) (hf : P (some (.int (bi (¬ x0 < (-99) ∧ ¬ 99 < x0)))) h) : Rr mX7_isShiftSeen 0 0 0 [(0, .int x0)] [] h P := by
  refine R_iload_n dX7_isShiftSeen_0 rfl 0 rfl ?_
  refine R_bipush (v := (-99)) dX7_isShiftSeen_1 (by decide) ?_
  have key :  Rr mX7_isShiftSeen 0 0 17 [] [.int (bi (¬ x0 < (-99) ∧ ¬ 99 < x0))] h P := by
    exact R_iret dX7_isShiftSeen_17 rfl (nb_n (bi_01 _)) hf
  refine R_icmp_lt (tgt := 16) dX7_isShiftSeen_3 (by decide) (fun b1 => ?_) (fun b1 => ?_)
  · refine R_iconst (v := 0) dX7_isShiftSeen_16 (by decide) ?_
    have kb := key
    rw [show bi (¬ x0 < (-99) ∧ ¬ 99 < x0) = 0 from by simp only [bi, b1, false_and, and_false, true_and, and_true, not_true_eq_false, not_false_eq_true, if_true, if_false, true_or, or_true, false_or, or_false, reduceIte]] at kb
    exact R_sub [] rfl kb
  · refine R_iload_n dX7_isShiftSeen_6 rfl 0 rfl ?_
    refine R_bipush (v := 99) dX7_isShiftSeen_7 (by decide) ?_
    refine R_icmp_gt (tgt := 16) dX7_isShiftSeen_9 (by decide) (fun b2 => ?_) (fun b2 => ?_)
    · refine R_iconst (v := 0) dX7_isShiftSeen_16 (by decide) ?_
      have kb := key
      rw [show bi (¬ x0 < (-99) ∧ ¬ 99 < x0) = 0 from by simp only [bi, b1, b2, false_and, and_false, true_and, and_true, not_true_eq_false, not_false_eq_true, if_true, if_false, true_or, or_true, false_or, or_false, reduceIte]] at kb
      exact R_sub [] rfl kb
    · refine R_iconst (v := 1) dX7_isShiftSeen_12 (by decide) ?_
      refine R_goto (tgt := 17) dX7_isShiftSeen_13 (by decide) ?_
      have kb := key
      rw [show bi (¬ x0 < (-99) ∧ ¬ 99 < x0) = 1 from by simp only [bi, b1, b2, false_and, and_false, true_and, and_true, not_true_eq_false, not_false_eq_true, if_true, if_false, true_or, or_true, false_or, or_false, reduceIte]] at kb
      exact R_sub [] rfl kb
theorem aX7_isShiftSeen {h : AH} {P : Option Value → AH → Prop} {x0 : Int32}  (k : P (some (.int (bi (¬ x0 < (-99) ∧ ¬ 99 < x0)))) h) : Call mX7_isShiftSeen [.int x0] h P :=
  Call.ofR (by decide +kernel) (Nat.le_of_ble_eq_true rfl) (sX7_isShiftSeen_0 h x0 (k))
theorem dX7_isStep_0 : decode cX7_isStep 0 = .ok (.iload_n 0, 1) := by decide +kernel
theorem dX7_isStep_1 : decode cX7_isStep 1 = .ok (.ifCond .lt 14, 3) := by decide +kernel
theorem dX7_isStep_4 : decode cX7_isStep 4 = .ok (.iload_n 0, 1) := by decide +kernel
theorem dX7_isStep_5 : decode cX7_isStep 5 = .ok (.sipush 999, 3) := by decide +kernel
theorem dX7_isStep_8 : decode cX7_isStep 8 = .ok (.if_icmp .gt 7, 3) := by decide +kernel
theorem dX7_isStep_11 : decode cX7_isStep 11 = .ok (.iconst 1, 1) := by decide +kernel
theorem dX7_isStep_12 : decode cX7_isStep 12 = .ok (.goto 4, 3) := by decide +kernel
theorem dX7_isStep_15 : decode cX7_isStep 15 = .ok (.iconst 0, 1) := by decide +kernel
theorem dX7_isStep_16 : decode cX7_isStep 16 = .ok (.ireturn, 1) := by decide +kernel
set_option maxRecDepth 20000 in
theorem sX7_isStep_0 {P : Option Value → AH → Prop} (h : AH) (x0 : Int32) (hf : P (some (.int (bi (¬ x0 < 0 ∧ ¬ 999 < x0)))) h) : Rr mX7_isStep 0 0 0 [(0, .int x0)] [] h P := by
  refine R_iload_n dX7_isStep_0 rfl 0 rfl ?_
  have key :  Rr mX7_isStep 0 0 16 [] [.int (bi (¬ x0 < 0 ∧ ¬ 999 < x0))] h P := by
    exact R_iret dX7_isStep_16 rfl (nb_n (bi_01 _)) hf
  refine R_if_lt (tgt := 15) dX7_isStep_1 (by decide) (fun b1 => ?_) (fun b1 => ?_)
  · refine R_iconst (v := 0) dX7_isStep_15 (by decide) ?_
    have kb := key
    rw [show bi (¬ x0 < 0 ∧ ¬ 999 < x0) = 0 from by simp only [bi, b1, false_and, and_false, true_and, and_true, not_true_eq_false, not_false_eq_true, if_true, if_false, true_or, or_true, false_or, or_false, reduceIte]] at kb
    exact R_sub [] rfl kb
  · refine R_iload_n dX7_isStep_4 rfl 0 rfl ?_
    refine R_sipush (v := 999) dX7_isStep_5 (by decide) ?_
    refine R_icmp_gt (tgt := 15) dX7_isStep_8 (by decide) (fun b2 => ?_) (fun b2 => ?_)
    · refine R_iconst (v := 0) dX7_isStep_15 (by decide) ?_
      have kb := key
      rw [show bi (¬ x0 < 0 ∧ ¬ 999 < x0) = 0 from by simp only [bi, b1, b2, false_and, and_false, true_and, and_true, not_true_eq_false, not_false_eq_true, if_true, if_false, true_or, or_true, false_or, or_false, reduceIte]] at kb
      exact R_sub [] rfl kb
    · refine R_iconst (v := 1) dX7_isStep_11 (by decide) ?_
      refine R_goto (tgt := 16) dX7_isStep_12 (by decide) ?_
      have kb := key
      rw [show bi (¬ x0 < 0 ∧ ¬ 999 < x0) = 1 from by simp only [bi, b1, b2, false_and, and_false, true_and, and_true, not_true_eq_false, not_false_eq_true, if_true, if_false, true_or, or_true, false_or, or_false, reduceIte]] at kb
      exact R_sub [] rfl kb
theorem aX7_isStep {h : AH} {P : Option Value → AH → Prop} {x0 : Int32}  (k : P (some (.int (bi (¬ x0 < 0 ∧ ¬ 999 < x0)))) h) : Call mX7_isStep [.int x0] h P :=
  Call.ofR (by decide +kernel) (Nat.le_of_ble_eq_true rfl) (sX7_isStep_0 h x0 (k))
theorem dX7_lastRight_0 : decode cX7_lastRight 0 = .ok (.iconst (-1), 1) := by decide +kernel
theorem dX7_lastRight_1 : decode cX7_lastRight 1 = .ok (.istore_n 3, 1) := by decide +kernel
theorem dX7_lastRight_2 : decode cX7_lastRight 2 = .ok (.iconst 0, 1) := by decide +kernel
theorem dX7_lastRight_3 : decode cX7_lastRight 3 = .ok (.istore 4, 2) := by decide +kernel
theorem dX7_lastRight_5 : decode cX7_lastRight 5 = .ok (.iload 4, 2) := by decide +kernel
theorem dX7_lastRight_7 : decode cX7_lastRight 7 = .ok (.aload_n 0, 1) := by decide +kernel
theorem dX7_lastRight_8 : decode cX7_lastRight 8 = .ok (.getfield 43, 3) := by decide +kernel
theorem dX7_lastRight_11 : decode cX7_lastRight 11 = .ok (.if_icmp .ge 34, 3) := by decide +kernel
theorem dX7_lastRight_14 : decode cX7_lastRight 14 = .ok (.aload_n 0, 1) := by decide +kernel
theorem dX7_lastRight_15 : decode cX7_lastRight 15 = .ok (.getfield 27, 3) := by decide +kernel
theorem dX7_lastRight_18 : decode cX7_lastRight 18 = .ok (.iload 4, 2) := by decide +kernel
theorem dX7_lastRight_20 : decode cX7_lastRight 20 = .ok (.iaload, 1) := by decide +kernel
theorem dX7_lastRight_21 : decode cX7_lastRight 21 = .ok (.iload_n 1, 1) := by decide +kernel
theorem dX7_lastRight_22 : decode cX7_lastRight 22 = .ok (.if_icmp .ne 17, 3) := by decide +kernel
theorem dX7_lastRight_25 : decode cX7_lastRight 25 = .ok (.aload_n 0, 1) := by decide +kernel
theorem dX7_lastRight_26 : decode cX7_lastRight 26 = .ok (.getfield 30, 3) := by decide +kernel
theorem dX7_lastRight_29 : decode cX7_lastRight 29 = .ok (.iload 4, 2) := by decide +kernel
theorem dX7_lastRight_31 : decode cX7_lastRight 31 = .ok (.iaload, 1) := by decide +kernel
theorem dX7_lastRight_32 : decode cX7_lastRight 32 = .ok (.iload_n 2, 1) := by decide +kernel
theorem dX7_lastRight_33 : decode cX7_lastRight 33 = .ok (.if_icmp .gt 6, 3) := by decide +kernel
theorem dX7_lastRight_36 : decode cX7_lastRight 36 = .ok (.iload 4, 2) := by decide +kernel
theorem dX7_lastRight_38 : decode cX7_lastRight 38 = .ok (.istore_n 3, 1) := by decide +kernel
theorem dX7_lastRight_39 : decode cX7_lastRight 39 = .ok (.iinc 4 1, 3) := by decide +kernel
theorem dX7_lastRight_42 : decode cX7_lastRight 42 = .ok (.goto (-37), 3) := by decide +kernel
theorem dX7_lastRight_45 : decode cX7_lastRight 45 = .ok (.iload_n 3, 1) := by decide +kernel
theorem dX7_lastRight_46 : decode cX7_lastRight 46 = .ok (.ireturn, 1) := by decide +kernel
set_option maxRecDepth 20000 in
theorem sX7_lastRight_0 {P : Option Value → AH → Prop} (h : AH) (r0 : Nat) (x1 : Int32) (x2 : Int32) (hf : Rr mX7_lastRight 0 0 5 [(0, .ref r0), (1, .int x1), (2, .int x2), (3, .int (-1)), (4, .int 0)] [] h P) : Rr mX7_lastRight 0 0 0 [(0, .ref r0), (1, .int x1), (2, .int x2)] [] h P := by
  refine R_iconst (v := (-1)) dX7_lastRight_0 (by decide) ?_
  refine R_istore_n dX7_lastRight_1 rfl (by decide) rfl ?_
  refine R_iconst (v := 0) dX7_lastRight_2 (by decide) ?_
  refine R_istore dX7_lastRight_3 (by decide) rfl ?_
  exact R_sub [2, 3, 4, 1, 0] rfl hf
set_option maxRecDepth 20000 in
theorem sX7_lastRight_5 {P : Option Value → AH → Prop} (h : AH) (r0 : Nat) (x1 : Int32) (x2 : Int32) (x3 : Int32) (x4 : Int32) (hf : (isO h 7 r0) ∧ (((gI h r0 1) ≤ x4 → P (some (.int x3)) h) ∧ (¬ (gI h r0 1) ≤ x4 → (isA h 0 (gF h r0 8)) ∧ ((vp_in x4 (ln (gF h r0 8))) ∧ ((isA h 0 (gF h r0 9)) ∧ (((gI h (gF h r0 8) x4.toNatClampNeg) = x1 → vp_in x4 (ln (gF h r0 9))) ∧ (∀ z9 : Int32, z9 = (if (gI h (gF h r0 8) x4.toNatClampNeg) = x1 then (if x2 < (gI h (gF h r0 9) x4.toNatClampNeg) then x3 else x4) else x3) → (Rr mX7_lastRight 0 0 5 [(0, .ref r0), (1, .int x1), (2, .int x2), (3, .int z9), (4, .int (x4 + 1))] [] h P)))))))) : Rr mX7_lastRight 0 0 5 [(0, .ref r0), (1, .int x1), (2, .int x2), (3, .int x3), (4, .int x4)] [] h P := by
  refine R_iload dX7_lastRight_5 4 rfl ?_
  refine R_aload_n dX7_lastRight_7 rfl 0 rfl ?_
  obtain ⟨ob1, hf⟩ := hf
  refine G7_1 dX7_lastRight_8 lfX7_43 ob1 ?_
  refine R_icmp_ge (tgt := 45) dX7_lastRight_11 (by decide) (fun b2 => ?_) (fun b2 => ?_)
  · have hf := hf.1 b2
    refine R_iload_n dX7_lastRight_45 rfl 3 rfl ?_
    exact R_iret dX7_lastRight_46 rfl rfl hf
  · have hf := hf.2 b2
    refine R_aload_n dX7_lastRight_14 rfl 0 rfl ?_
    refine G7_8 dX7_lastRight_15 lfX7_27 ob1 ?_
    refine R_iload dX7_lastRight_18 4 rfl ?_
    obtain ⟨ob3, hf⟩ := hf
    obtain ⟨ob4, hf⟩ := hf
    refine R_iaload dX7_lastRight_20 ob3 ob4 ?_
    refine R_iload_n dX7_lastRight_21 rfl 1 rfl ?_
    obtain ⟨ob6, hf⟩ := hf
    obtain ⟨ob7, hf⟩ := hf
    have key : ∀ z9 : Int32, z9 = (if (gI h (gF h r0 8) x4.toNatClampNeg) = x1 then (if x2 < (gI h (gF h r0 9) x4.toNatClampNeg) then x3 else x4) else x3) → Rr mX7_lastRight 0 0 39 [(0, .ref r0), (1, .int x1), (2, .int x2), (3, .int z9), (4, .int x4)] [] h P := by
      intro z9 ez9
      have hf := hf z9 ez9
      refine R_iinc (v := x4 + 1) dX7_lastRight_39 4 rfl rfl (by decide) rfl ?_
      refine R_goto (tgt := 5) dX7_lastRight_42 (by decide) ?_
      exact R_sub [1, 2, 3, 4, 0] rfl hf
    refine R_icmp_ne (tgt := 39) dX7_lastRight_22 (by decide) (fun b5 => ?_) (fun b5 => ?_)
    · exact R_sub [0, 1, 2, 3, 4] rfl (key _ (by rw [if_neg b5]))
    · refine R_aload_n dX7_lastRight_25 rfl 0 rfl ?_
      refine G7_9 dX7_lastRight_26 lfX7_30 ob1 ?_
      refine R_iload dX7_lastRight_29 4 rfl ?_
      refine R_iaload dX7_lastRight_31 ob6 (ob7 b5) ?_
      refine R_iload_n dX7_lastRight_32 rfl 2 rfl ?_
      refine R_icmp_gt (tgt := 39) dX7_lastRight_33 (by decide) (fun b8 => ?_) (fun b8 => ?_)
      · exact R_sub [0, 1, 2, 3, 4] rfl (key _ (by rw [if_pos b5, if_pos b8]))
      · refine R_iload dX7_lastRight_36 4 rfl ?_
        refine R_istore_n dX7_lastRight_38 rfl (by decide) rfl ?_
        exact R_sub [1, 2, 3, 0, 4] rfl (key _ (by rw [if_pos b5, if_neg b8]))
theorem dX7_markOf_0 : decode cX7_markOf 0 = .ok (.aload_n 0, 1) := by decide +kernel
theorem dX7_markOf_1 : decode cX7_markOf 1 = .ok (.getfield 18, 3) := by decide +kernel
theorem dX7_markOf_4 : decode cX7_markOf 4 = .ok (.iload_n 1, 1) := by decide +kernel
theorem dX7_markOf_5 : decode cX7_markOf 5 = .ok (.iaload, 1) := by decide +kernel
theorem dX7_markOf_6 : decode cX7_markOf 6 = .ok (.ireturn, 1) := by decide +kernel
set_option maxRecDepth 20000 in
theorem sX7_markOf_0 {P : Option Value → AH → Prop} (h : AH) (r0 : Nat) (x1 : Int32) (hf : (isO h 7 r0) ∧ ((isA h 0 (gF h r0 5)) ∧ ((vp_in x1 (ln (gF h r0 5))) ∧ (P (some (.int (gI h (gF h r0 5) x1.toNatClampNeg))) h)))) : Rr mX7_markOf 0 0 0 [(0, .ref r0), (1, .int x1)] [] h P := by
  refine R_aload_n dX7_markOf_0 rfl 0 rfl ?_
  obtain ⟨ob1, hf⟩ := hf
  refine G7_5 dX7_markOf_1 lfX7_18 ob1 ?_
  refine R_iload_n dX7_markOf_4 rfl 1 rfl ?_
  obtain ⟨ob2, hf⟩ := hf
  obtain ⟨ob3, hf⟩ := hf
  refine R_iaload dX7_markOf_5 ob2 ob3 ?_
  exact R_iret dX7_markOf_6 rfl rfl hf
theorem aX7_markOf {h : AH} {P : Option Value → AH → Prop} {r0 : Nat} {x1 : Int32} (o0 : isO h 7 r0) (o1 : isA h 0 (gF h r0 5)) (o2 : vp_in x1 (ln (gF h r0 5))) (k : P (some (.int (gI h (gF h r0 5) x1.toNatClampNeg))) h) : Call mX7_markOf [.ref r0, .int x1] h P :=
  Call.ofR (by decide +kernel) (Nat.le_of_ble_eq_true rfl) (sX7_markOf_0 h r0 x1 (⟨o0, ⟨o1, ⟨o2, k⟩⟩⟩))
theorem dX7_put_0 : decode cX7_put 0 = .ok (.aload_n 0, 1) := by decide +kernel
theorem dX7_put_1 : decode cX7_put 1 = .ok (.getfield 39, 3) := by decide +kernel
theorem dX7_put_4 : decode cX7_put 4 = .ok (.bipush 24, 2) := by decide +kernel
theorem dX7_put_6 : decode cX7_put 6 = .ok (.if_icmp .lt 6, 3) := by decide +kernel
theorem dX7_put_9 : decode cX7_put 9 = .ok (.bipush (-3), 2) := by decide +kernel
theorem dX7_put_11 : decode cX7_put 11 = .ok (.ireturn, 1) := by decide +kernel
theorem dX7_put_12 : decode cX7_put 12 = .ok (.aload_n 0, 1) := by decide +kernel
theorem dX7_put_13 : decode cX7_put 13 = .ok (.getfield 11, 3) := by decide +kernel
theorem dX7_put_16 : decode cX7_put 16 = .ok (.aload_n 0, 1) := by decide +kernel
theorem dX7_put_17 : decode cX7_put 17 = .ok (.getfield 39, 3) := by decide +kernel
theorem dX7_put_20 : decode cX7_put 20 = .ok (.iload_n 1, 1) := by decide +kernel
theorem dX7_put_21 : decode cX7_put 21 = .ok (.iastore, 1) := by decide +kernel
theorem dX7_put_22 : decode cX7_put 22 = .ok (.aload_n 0, 1) := by decide +kernel
theorem dX7_put_23 : decode cX7_put 23 = .ok (.getfield 15, 3) := by decide +kernel
theorem dX7_put_26 : decode cX7_put 26 = .ok (.aload_n 0, 1) := by decide +kernel
theorem dX7_put_27 : decode cX7_put 27 = .ok (.getfield 39, 3) := by decide +kernel
theorem dX7_put_30 : decode cX7_put 30 = .ok (.iload_n 2, 1) := by decide +kernel
theorem dX7_put_31 : decode cX7_put 31 = .ok (.iastore, 1) := by decide +kernel
theorem dX7_put_32 : decode cX7_put 32 = .ok (.aload_n 0, 1) := by decide +kernel
theorem dX7_put_33 : decode cX7_put 33 = .ok (.getfield 18, 3) := by decide +kernel
theorem dX7_put_36 : decode cX7_put 36 = .ok (.aload_n 0, 1) := by decide +kernel
theorem dX7_put_37 : decode cX7_put 37 = .ok (.getfield 39, 3) := by decide +kernel
theorem dX7_put_40 : decode cX7_put 40 = .ok (.iload_n 3, 1) := by decide +kernel
theorem dX7_put_41 : decode cX7_put 41 = .ok (.iastore, 1) := by decide +kernel
theorem dX7_put_42 : decode cX7_put 42 = .ok (.aload_n 0, 1) := by decide +kernel
theorem dX7_put_43 : decode cX7_put 43 = .ok (.getfield 21, 3) := by decide +kernel
theorem dX7_put_46 : decode cX7_put 46 = .ok (.aload_n 0, 1) := by decide +kernel
theorem dX7_put_47 : decode cX7_put 47 = .ok (.getfield 39, 3) := by decide +kernel
theorem dX7_put_50 : decode cX7_put 50 = .ok (.iload 4, 2) := by decide +kernel
theorem dX7_put_52 : decode cX7_put 52 = .ok (.iastore, 1) := by decide +kernel
theorem dX7_put_53 : decode cX7_put 53 = .ok (.aload_n 0, 1) := by decide +kernel
theorem dX7_put_54 : decode cX7_put 54 = .ok (.getfield 24, 3) := by decide +kernel
theorem dX7_put_57 : decode cX7_put 57 = .ok (.aload_n 0, 1) := by decide +kernel
theorem dX7_put_58 : decode cX7_put 58 = .ok (.getfield 39, 3) := by decide +kernel
theorem dX7_put_61 : decode cX7_put 61 = .ok (.iload 5, 2) := by decide +kernel
theorem dX7_put_63 : decode cX7_put 63 = .ok (.iastore, 1) := by decide +kernel
theorem dX7_put_64 : decode cX7_put 64 = .ok (.aload_n 0, 1) := by decide +kernel
theorem dX7_put_65 : decode cX7_put 65 = .ok (.iload_n 1, 1) := by decide +kernel
theorem dX7_put_66 : decode cX7_put 66 = .ok (.putfield 46, 3) := by decide +kernel
theorem dX7_put_69 : decode cX7_put 69 = .ok (.aload_n 0, 1) := by decide +kernel
theorem dX7_put_70 : decode cX7_put 70 = .ok (.dup, 1) := by decide +kernel
theorem dX7_put_71 : decode cX7_put 71 = .ok (.getfield 39, 3) := by decide +kernel
theorem dX7_put_74 : decode cX7_put 74 = .ok (.iconst 1, 1) := by decide +kernel
theorem dX7_put_75 : decode cX7_put 75 = .ok (.iadd, 1) := by decide +kernel
theorem dX7_put_76 : decode cX7_put 76 = .ok (.putfield 39, 3) := by decide +kernel
theorem dX7_put_79 : decode cX7_put 79 = .ok (.aload_n 0, 1) := by decide +kernel
theorem dX7_put_80 : decode cX7_put 80 = .ok (.getfield 39, 3) := by decide +kernel
theorem dX7_put_83 : decode cX7_put 83 = .ok (.iconst 1, 1) := by decide +kernel
theorem dX7_put_84 : decode cX7_put 84 = .ok (.isub, 1) := by decide +kernel
theorem dX7_put_85 : decode cX7_put 85 = .ok (.ireturn, 1) := by decide +kernel
set_option maxRecDepth 20000 in
theorem sX7_put_0 {P : Option Value → AH → Prop} (h : AH) (r0 : Nat) (x1 : Int32) (x2 : Int32) (x3 : Int32) (x4 : Int32) (x5 : Int32) (hf : (isO h 7 r0) ∧ (((gI h r0 0) < 24 → (isA h 0 (gF h r0 3)) ∧ ((vp_in (gI h r0 0) (ln (gF h r0 3))) ∧ ((isA h 0 (gF h r0 4)) ∧ ((vp_in (gI h r0 0) (ln (gF h r0 4))) ∧ ((isA h 0 (gF h r0 5)) ∧ ((vp_in (gI h r0 0) (ln (gF h r0 5))) ∧ ((isA h 0 (gF h r0 6)) ∧ ((vp_in (gI h r0 0) (ln (gF h r0 6))) ∧ ((isA h 0 (gF h r0 7)) ∧ ((vp_in (gI h r0 0) (ln (gF h r0 7))) ∧ (P (some (.int ((((gI h r0 0) + 1)) - 1))) (sI (sI (sI (sI (sI (sI (sI h (gF h r0 3) (gI h r0 0).toNatClampNeg x1) (gF h r0 4) (gI h r0 0).toNatClampNeg x2) (gF h r0 5) (gI h r0 0).toNatClampNeg x3) (gF h r0 6) (gI h r0 0).toNatClampNeg x4) (gF h r0 7) (gI h r0 0).toNatClampNeg x5) r0 2 x1) r0 0 ((gI h r0 0) + 1))))))))))))) ∧ (¬ (gI h r0 0) < 24 → P (some (.int (-3))) h))) : Rr mX7_put 0 0 0 [(0, .ref r0), (1, .int x1), (2, .int x2), (3, .int x3), (4, .int x4), (5, .int x5)] [] h P := by
  refine R_aload_n dX7_put_0 rfl 0 rfl ?_
  obtain ⟨ob1, hf⟩ := hf
  refine G7_0 dX7_put_1 lfX7_39 ob1 ?_
  refine R_bipush (v := 24) dX7_put_4 (by decide) ?_
  refine R_icmp_lt (tgt := 12) dX7_put_6 (by decide) (fun b2 => ?_) (fun b2 => ?_)
  · have hf := hf.1 b2
    refine R_aload_n dX7_put_12 rfl 0 rfl ?_
    refine G7_3 dX7_put_13 lfX7_11 ob1 ?_
    refine R_aload_n dX7_put_16 rfl 0 rfl ?_
    refine G7_0 dX7_put_17 lfX7_39 ob1 ?_
    refine R_iload_n dX7_put_20 rfl 1 rfl ?_
    obtain ⟨ob3, hf⟩ := hf
    obtain ⟨ob4, hf⟩ := hf
    refine R_iastore dX7_put_21 ob3 ob4 ?_
    refine R_aload_n dX7_put_22 rfl 0 rfl ?_
    refine G7_4 dX7_put_23 lfX7_15 ob1 ?_
    refine R_eqF (y := gF h r0 4) rfl ?_
    refine R_aload_n dX7_put_26 rfl 0 rfl ?_
    refine G7_0 dX7_put_27 lfX7_39 ob1 ?_
    refine R_eqI (y := gI h r0 0) (rd_r (ne_oa ob1 ob3 (by decide))) ?_
    refine R_iload_n dX7_put_30 rfl 2 rfl ?_
    obtain ⟨ob5, hf⟩ := hf
    obtain ⟨ob6, hf⟩ := hf
    refine R_iastore dX7_put_31 ob5 ob6 ?_
    refine R_aload_n dX7_put_32 rfl 0 rfl ?_
    refine G7_5 dX7_put_33 lfX7_18 ob1 ?_
    refine R_eqF (y := gF h r0 5) rfl ?_
    refine R_aload_n dX7_put_36 rfl 0 rfl ?_
    refine G7_0 dX7_put_37 lfX7_39 ob1 ?_
    refine R_eqI (y := gI h r0 0) ((rd_r (ne_oa ob1 ob5 (by decide))).trans (rd_r (ne_oa ob1 ob3 (by decide)))) ?_
    refine R_iload_n dX7_put_40 rfl 3 rfl ?_
    obtain ⟨ob7, hf⟩ := hf
    obtain ⟨ob8, hf⟩ := hf
    refine R_iastore dX7_put_41 ob7 ob8 ?_
    refine R_aload_n dX7_put_42 rfl 0 rfl ?_
    refine G7_6 dX7_put_43 lfX7_21 ob1 ?_
    refine R_eqF (y := gF h r0 6) rfl ?_
    refine R_aload_n dX7_put_46 rfl 0 rfl ?_
    refine G7_0 dX7_put_47 lfX7_39 ob1 ?_
    refine R_eqI (y := gI h r0 0) ((rd_r (ne_oa ob1 ob7 (by decide))).trans ((rd_r (ne_oa ob1 ob5 (by decide))).trans (rd_r (ne_oa ob1 ob3 (by decide))))) ?_
    refine R_iload dX7_put_50 4 rfl ?_
    obtain ⟨ob9, hf⟩ := hf
    obtain ⟨ob10, hf⟩ := hf
    refine R_iastore dX7_put_52 ob9 ob10 ?_
    refine R_aload_n dX7_put_53 rfl 0 rfl ?_
    refine G7_7 dX7_put_54 lfX7_24 ob1 ?_
    refine R_eqF (y := gF h r0 7) rfl ?_
    refine R_aload_n dX7_put_57 rfl 0 rfl ?_
    refine G7_0 dX7_put_58 lfX7_39 ob1 ?_
    refine R_eqI (y := gI h r0 0) ((rd_r (ne_oa ob1 ob9 (by decide))).trans ((rd_r (ne_oa ob1 ob7 (by decide))).trans ((rd_r (ne_oa ob1 ob5 (by decide))).trans (rd_r (ne_oa ob1 ob3 (by decide)))))) ?_
    refine R_iload dX7_put_61 5 rfl ?_
    obtain ⟨ob11, hf⟩ := hf
    obtain ⟨ob12, hf⟩ := hf
    refine R_iastore dX7_put_63 ob11 ob12 ?_
    refine R_aload_n dX7_put_64 rfl 0 rfl ?_
    refine R_iload_n dX7_put_65 rfl 1 rfl ?_
    refine S7_2 dX7_put_66 lfX7_46 ob1 ?_
    refine R_aload_n dX7_put_69 rfl 0 rfl ?_
    refine R_dup dX7_put_70 rfl ?_
    refine G7_0 dX7_put_71 lfX7_39 ob1 ?_
    refine R_eqI (y := gI h r0 0) ((rd_k (by decide)).trans ((rd_r (ne_oa ob1 ob11 (by decide))).trans ((rd_r (ne_oa ob1 ob9 (by decide))).trans ((rd_r (ne_oa ob1 ob7 (by decide))).trans ((rd_r (ne_oa ob1 ob5 (by decide))).trans (rd_r (ne_oa ob1 ob3 (by decide)))))))) ?_
    refine R_iconst (v := 1) dX7_put_74 (by decide) ?_
    refine R_iadd dX7_put_75 ?_
    refine S7_0 dX7_put_76 lfX7_39 ob1 ?_
    refine R_aload_n dX7_put_79 rfl 0 rfl ?_
    refine G7_0 dX7_put_80 lfX7_39 ob1 ?_
    refine R_eqI (y := ((gI h r0 0) + 1)) rd_h ?_
    refine R_iconst (v := 1) dX7_put_83 (by decide) ?_
    refine R_isub dX7_put_84 ?_
    exact R_iret dX7_put_85 rfl rfl hf
  · have hf := hf.2 b2
    refine R_bipush (v := (-3)) dX7_put_9 (by decide) ?_
    exact R_iret dX7_put_11 rfl rfl hf
theorem dX7_timesRight_0 : decode cX7_timesRight 0 = .ok (.iconst 0, 1) := by decide +kernel
theorem dX7_timesRight_1 : decode cX7_timesRight 1 = .ok (.istore_n 2, 1) := by decide +kernel
theorem dX7_timesRight_2 : decode cX7_timesRight 2 = .ok (.iconst 0, 1) := by decide +kernel
theorem dX7_timesRight_3 : decode cX7_timesRight 3 = .ok (.istore_n 3, 1) := by decide +kernel
theorem dX7_timesRight_4 : decode cX7_timesRight 4 = .ok (.iload_n 3, 1) := by decide +kernel
theorem dX7_timesRight_5 : decode cX7_timesRight 5 = .ok (.aload_n 0, 1) := by decide +kernel
theorem dX7_timesRight_6 : decode cX7_timesRight 6 = .ok (.getfield 43, 3) := by decide +kernel
theorem dX7_timesRight_9 : decode cX7_timesRight 9 = .ok (.if_icmp .ge 22, 3) := by decide +kernel
theorem dX7_timesRight_12 : decode cX7_timesRight 12 = .ok (.aload_n 0, 1) := by decide +kernel
theorem dX7_timesRight_13 : decode cX7_timesRight 13 = .ok (.getfield 27, 3) := by decide +kernel
theorem dX7_timesRight_16 : decode cX7_timesRight 16 = .ok (.iload_n 3, 1) := by decide +kernel
theorem dX7_timesRight_17 : decode cX7_timesRight 17 = .ok (.iaload, 1) := by decide +kernel
theorem dX7_timesRight_18 : decode cX7_timesRight 18 = .ok (.iload_n 1, 1) := by decide +kernel
theorem dX7_timesRight_19 : decode cX7_timesRight 19 = .ok (.if_icmp .ne 6, 3) := by decide +kernel
theorem dX7_timesRight_22 : decode cX7_timesRight 22 = .ok (.iinc 2 1, 3) := by decide +kernel
theorem dX7_timesRight_25 : decode cX7_timesRight 25 = .ok (.iinc 3 1, 3) := by decide +kernel
theorem dX7_timesRight_28 : decode cX7_timesRight 28 = .ok (.goto (-24), 3) := by decide +kernel
theorem dX7_timesRight_31 : decode cX7_timesRight 31 = .ok (.iload_n 2, 1) := by decide +kernel
theorem dX7_timesRight_32 : decode cX7_timesRight 32 = .ok (.ireturn, 1) := by decide +kernel
set_option maxRecDepth 20000 in
theorem sX7_timesRight_0 {P : Option Value → AH → Prop} (h : AH) (r0 : Nat) (x1 : Int32) (hf : Rr mX7_timesRight 0 0 4 [(0, .ref r0), (1, .int x1), (2, .int 0), (3, .int 0)] [] h P) : Rr mX7_timesRight 0 0 0 [(0, .ref r0), (1, .int x1)] [] h P := by
  refine R_iconst (v := 0) dX7_timesRight_0 (by decide) ?_
  refine R_istore_n dX7_timesRight_1 rfl (by decide) rfl ?_
  refine R_iconst (v := 0) dX7_timesRight_2 (by decide) ?_
  refine R_istore_n dX7_timesRight_3 rfl (by decide) rfl ?_
  exact R_sub [2, 3, 1, 0] rfl hf
set_option maxRecDepth 20000 in
theorem sX7_timesRight_4 {P : Option Value → AH → Prop} (h : AH) (r0 : Nat) (x1 : Int32) (x2 : Int32) (x3 : Int32) (hf : (isO h 7 r0) ∧ (((gI h r0 1) ≤ x3 → P (some (.int x2)) h) ∧ (¬ (gI h r0 1) ≤ x3 → (isA h 0 (gF h r0 8)) ∧ ((vp_in x3 (ln (gF h r0 8))) ∧ (∀ z6 : Int32, z6 = (if (gI h (gF h r0 8) x3.toNatClampNeg) = x1 then (x2 + 1) else x2) → (Rr mX7_timesRight 0 0 4 [(0, .ref r0), (1, .int x1), (2, .int z6), (3, .int (x3 + 1))] [] h P)))))) : Rr mX7_timesRight 0 0 4 [(0, .ref r0), (1, .int x1), (2, .int x2), (3, .int x3)] [] h P := by
  refine R_iload_n dX7_timesRight_4 rfl 3 rfl ?_
  refine R_aload_n dX7_timesRight_5 rfl 0 rfl ?_
  obtain ⟨ob1, hf⟩ := hf
  refine G7_1 dX7_timesRight_6 lfX7_43 ob1 ?_
  refine R_icmp_ge (tgt := 31) dX7_timesRight_9 (by decide) (fun b2 => ?_) (fun b2 => ?_)
  · have hf := hf.1 b2
    refine R_iload_n dX7_timesRight_31 rfl 2 rfl ?_
    exact R_iret dX7_timesRight_32 rfl rfl hf
  · have hf := hf.2 b2
    refine R_aload_n dX7_timesRight_12 rfl 0 rfl ?_
    refine G7_8 dX7_timesRight_13 lfX7_27 ob1 ?_
    refine R_iload_n dX7_timesRight_16 rfl 3 rfl ?_
    obtain ⟨ob3, hf⟩ := hf
    obtain ⟨ob4, hf⟩ := hf
    refine R_iaload dX7_timesRight_17 ob3 ob4 ?_
    refine R_iload_n dX7_timesRight_18 rfl 1 rfl ?_
    have key : ∀ z6 : Int32, z6 = (if (gI h (gF h r0 8) x3.toNatClampNeg) = x1 then (x2 + 1) else x2) → Rr mX7_timesRight 0 0 25 [(0, .ref r0), (1, .int x1), (2, .int z6), (3, .int x3)] [] h P := by
      intro z6 ez6
      have hf := hf z6 ez6
      refine R_iinc (v := x3 + 1) dX7_timesRight_25 3 rfl rfl (by decide) rfl ?_
      refine R_goto (tgt := 4) dX7_timesRight_28 (by decide) ?_
      exact R_sub [1, 2, 3, 0] rfl hf
    refine R_icmp_ne (tgt := 25) dX7_timesRight_19 (by decide) (fun b5 => ?_) (fun b5 => ?_)
    · exact R_sub [0, 1, 2, 3] rfl (key _ (by rw [if_neg b5]))
    · refine R_iinc (v := x2 + 1) dX7_timesRight_22 2 rfl rfl (by decide) rfl ?_
      exact R_sub [1, 2, 0, 3] rfl (key _ (by rw [if_pos b5]))
theorem dX8_isScreen_0 : decode cX8_isScreen 0 = .ok (.iload_n 1, 1) := by decide +kernel
theorem dX8_isScreen_1 : decode cX8_isScreen 1 = .ok (.ifCond .lt 15, 3) := by decide +kernel
theorem dX8_isScreen_4 : decode cX8_isScreen 4 = .ok (.iload_n 1, 1) := by decide +kernel
theorem dX8_isScreen_5 : decode cX8_isScreen 5 = .ok (.aload_n 0, 1) := by decide +kernel
theorem dX8_isScreen_6 : decode cX8_isScreen 6 = .ok (.getfield 21, 3) := by decide +kernel
theorem dX8_isScreen_9 : decode cX8_isScreen 9 = .ok (.if_icmp .ge 7, 3) := by decide +kernel
theorem dX8_isScreen_12 : decode cX8_isScreen 12 = .ok (.iconst 1, 1) := by decide +kernel
theorem dX8_isScreen_13 : decode cX8_isScreen 13 = .ok (.goto 4, 3) := by decide +kernel
theorem dX8_isScreen_16 : decode cX8_isScreen 16 = .ok (.iconst 0, 1) := by decide +kernel
theorem dX8_isScreen_17 : decode cX8_isScreen 17 = .ok (.ireturn, 1) := by decide +kernel
set_option maxRecDepth 20000 in
theorem sX8_isScreen_0 {P : Option Value → AH → Prop} (h : AH) (r0 : Nat) (x1 : Int32) (hf : (isO h 8 r0) ∧ (P (some (.int (bi (¬ x1 < 0 ∧ ¬ (gI h r0 0) ≤ x1)))) h)) : Rr mX8_isScreen 0 0 0 [(0, .ref r0), (1, .int x1)] [] h P := by
  refine R_iload_n dX8_isScreen_0 rfl 1 rfl ?_
  obtain ⟨ob2, hf⟩ := hf
  have key :  Rr mX8_isScreen 0 0 17 [] [.int (bi (¬ x1 < 0 ∧ ¬ (gI h r0 0) ≤ x1))] h P := by
    exact R_iret dX8_isScreen_17 rfl (nb_n (bi_01 _)) hf
  refine R_if_lt (tgt := 16) dX8_isScreen_1 (by decide) (fun b1 => ?_) (fun b1 => ?_)
  · refine R_iconst (v := 0) dX8_isScreen_16 (by decide) ?_
    have kb := key
    rw [show bi (¬ x1 < 0 ∧ ¬ (gI h r0 0) ≤ x1) = 0 from by simp only [bi, b1, false_and, and_false, true_and, and_true, not_true_eq_false, not_false_eq_true, if_true, if_false, true_or, or_true, false_or, or_false, reduceIte]] at kb
    exact R_sub [] rfl kb
  · refine R_iload_n dX8_isScreen_4 rfl 1 rfl ?_
    refine R_aload_n dX8_isScreen_5 rfl 0 rfl ?_
    refine G8_0 dX8_isScreen_6 lfX8_21 ob2 ?_
    refine R_icmp_ge (tgt := 16) dX8_isScreen_9 (by decide) (fun b3 => ?_) (fun b3 => ?_)
    · refine R_iconst (v := 0) dX8_isScreen_16 (by decide) ?_
      have kb := key
      rw [show bi (¬ x1 < 0 ∧ ¬ (gI h r0 0) ≤ x1) = 0 from by simp only [bi, b1, b3, false_and, and_false, true_and, and_true, not_true_eq_false, not_false_eq_true, if_true, if_false, true_or, or_true, false_or, or_false, reduceIte]] at kb
      exact R_sub [] rfl kb
    · refine R_iconst (v := 1) dX8_isScreen_12 (by decide) ?_
      refine R_goto (tgt := 17) dX8_isScreen_13 (by decide) ?_
      have kb := key
      rw [show bi (¬ x1 < 0 ∧ ¬ (gI h r0 0) ≤ x1) = 1 from by simp only [bi, b1, b3, false_and, and_false, true_and, and_true, not_true_eq_false, not_false_eq_true, if_true, if_false, true_or, or_true, false_or, or_false, reduceIte]] at kb
      exact R_sub [] rfl kb
theorem aX8_isScreen {h : AH} {P : Option Value → AH → Prop} {r0 : Nat} {x1 : Int32} (o0 : isO h 8 r0) (k : P (some (.int (bi (¬ x1 < 0 ∧ ¬ (gI h r0 0) ≤ x1)))) h) : Call mX8_isScreen [.ref r0, .int x1] h P :=
  Call.ofR (by decide +kernel) (Nat.le_of_ble_eq_true rfl) (sX8_isScreen_0 h r0 x1 (⟨o0, k⟩))
theorem dX8_put_0 : decode cX8_put 0 = .ok (.aload_n 0, 1) := by decide +kernel
theorem dX8_put_1 : decode cX8_put 1 = .ok (.getfield 21, 3) := by decide +kernel
theorem dX8_put_4 : decode cX8_put 4 = .ok (.bipush 8, 2) := by decide +kernel
theorem dX8_put_6 : decode cX8_put 6 = .ok (.if_icmp .ge 33, 3) := by decide +kernel
theorem dX8_put_9 : decode cX8_put 9 = .ok (.aload_n 0, 1) := by decide +kernel
theorem dX8_put_10 : decode cX8_put 10 = .ok (.getfield 11, 3) := by decide +kernel
theorem dX8_put_13 : decode cX8_put 13 = .ok (.aload_n 0, 1) := by decide +kernel
theorem dX8_put_14 : decode cX8_put 14 = .ok (.getfield 21, 3) := by decide +kernel
theorem dX8_put_17 : decode cX8_put 17 = .ok (.iload_n 1, 1) := by decide +kernel
theorem dX8_put_18 : decode cX8_put 18 = .ok (.iastore, 1) := by decide +kernel
theorem dX8_put_19 : decode cX8_put 19 = .ok (.aload_n 0, 1) := by decide +kernel
theorem dX8_put_20 : decode cX8_put 20 = .ok (.getfield 15, 3) := by decide +kernel
theorem dX8_put_23 : decode cX8_put 23 = .ok (.aload_n 0, 1) := by decide +kernel
theorem dX8_put_24 : decode cX8_put 24 = .ok (.getfield 21, 3) := by decide +kernel
theorem dX8_put_27 : decode cX8_put 27 = .ok (.iload_n 2, 1) := by decide +kernel
theorem dX8_put_28 : decode cX8_put 28 = .ok (.iastore, 1) := by decide +kernel
theorem dX8_put_29 : decode cX8_put 29 = .ok (.aload_n 0, 1) := by decide +kernel
theorem dX8_put_30 : decode cX8_put 30 = .ok (.dup, 1) := by decide +kernel
theorem dX8_put_31 : decode cX8_put 31 = .ok (.getfield 21, 3) := by decide +kernel
theorem dX8_put_34 : decode cX8_put 34 = .ok (.iconst 1, 1) := by decide +kernel
theorem dX8_put_35 : decode cX8_put 35 = .ok (.iadd, 1) := by decide +kernel
theorem dX8_put_36 : decode cX8_put 36 = .ok (.putfield 21, 3) := by decide +kernel
theorem dX8_put_39 : decode cX8_put 39 = .ok (.return_, 1) := by decide +kernel
set_option maxRecDepth 20000 in
theorem sX8_put_0 {P : Option Value → AH → Prop} (h : AH) (r0 : Nat) (x1 : Int32) (x2 : Int32) (hf : (isO h 8 r0) ∧ ((8 ≤ (gI h r0 0) → P none h) ∧ (¬ 8 ≤ (gI h r0 0) → (isA h 0 (gF h r0 1)) ∧ ((vp_in (gI h r0 0) (ln (gF h r0 1))) ∧ ((isA h 0 (gF h r0 2)) ∧ ((vp_in (gI h r0 0) (ln (gF h r0 2))) ∧ (P none (sI (sI (sI h (gF h r0 1) (gI h r0 0).toNatClampNeg x1) (gF h r0 2) (gI h r0 0).toNatClampNeg x2) r0 0 ((gI h r0 0) + 1))))))))) : Rr mX8_put 0 0 0 [(0, .ref r0), (1, .int x1), (2, .int x2)] [] h P := by
  refine R_aload_n dX8_put_0 rfl 0 rfl ?_
  obtain ⟨ob1, hf⟩ := hf
  refine G8_0 dX8_put_1 lfX8_21 ob1 ?_
  refine R_bipush (v := 8) dX8_put_4 (by decide) ?_
  refine R_icmp_ge (tgt := 39) dX8_put_6 (by decide) (fun b2 => ?_) (fun b2 => ?_)
  · have hf := hf.1 b2
    exact R_ret dX8_put_39 rfl hf
  · have hf := hf.2 b2
    refine R_aload_n dX8_put_9 rfl 0 rfl ?_
    refine G8_1 dX8_put_10 lfX8_11 ob1 ?_
    refine R_aload_n dX8_put_13 rfl 0 rfl ?_
    refine G8_0 dX8_put_14 lfX8_21 ob1 ?_
    refine R_iload_n dX8_put_17 rfl 1 rfl ?_
    obtain ⟨ob3, hf⟩ := hf
    obtain ⟨ob4, hf⟩ := hf
    refine R_iastore dX8_put_18 ob3 ob4 ?_
    refine R_aload_n dX8_put_19 rfl 0 rfl ?_
    refine G8_2 dX8_put_20 lfX8_15 ob1 ?_
    refine R_eqF (y := gF h r0 2) rfl ?_
    refine R_aload_n dX8_put_23 rfl 0 rfl ?_
    refine G8_0 dX8_put_24 lfX8_21 ob1 ?_
    refine R_eqI (y := gI h r0 0) (rd_r (ne_oa ob1 ob3 (by decide))) ?_
    refine R_iload_n dX8_put_27 rfl 2 rfl ?_
    obtain ⟨ob5, hf⟩ := hf
    obtain ⟨ob6, hf⟩ := hf
    refine R_iastore dX8_put_28 ob5 ob6 ?_
    refine R_aload_n dX8_put_29 rfl 0 rfl ?_
    refine R_dup dX8_put_30 rfl ?_
    refine G8_0 dX8_put_31 lfX8_21 ob1 ?_
    refine R_eqI (y := gI h r0 0) ((rd_r (ne_oa ob1 ob5 (by decide))).trans (rd_r (ne_oa ob1 ob3 (by decide)))) ?_
    refine R_iconst (v := 1) dX8_put_34 (by decide) ?_
    refine R_iadd dX8_put_35 ?_
    refine S8_0 dX8_put_36 lfX8_21 ob1 ?_
    exact R_ret dX8_put_39 rfl hf
theorem dX8_set_0 : decode cX8_set 0 = .ok (.aload_n 0, 1) := by decide +kernel
theorem dX8_set_1 : decode cX8_set 1 = .ok (.getfield 18, 3) := by decide +kernel
theorem dX8_set_4 : decode cX8_set 4 = .ok (.iconst 0, 1) := by decide +kernel
theorem dX8_set_5 : decode cX8_set 5 = .ok (.iload_n 1, 1) := by decide +kernel
theorem dX8_set_6 : decode cX8_set 6 = .ok (.iastore, 1) := by decide +kernel
theorem dX8_set_7 : decode cX8_set 7 = .ok (.aload_n 0, 1) := by decide +kernel
theorem dX8_set_8 : decode cX8_set 8 = .ok (.getfield 18, 3) := by decide +kernel
theorem dX8_set_11 : decode cX8_set 11 = .ok (.iconst 1, 1) := by decide +kernel
theorem dX8_set_12 : decode cX8_set 12 = .ok (.iload_n 2, 1) := by decide +kernel
theorem dX8_set_13 : decode cX8_set 13 = .ok (.iastore, 1) := by decide +kernel
theorem dX8_set_14 : decode cX8_set 14 = .ok (.aload_n 0, 1) := by decide +kernel
theorem dX8_set_15 : decode cX8_set 15 = .ok (.getfield 18, 3) := by decide +kernel
theorem dX8_set_18 : decode cX8_set 18 = .ok (.iconst 2, 1) := by decide +kernel
theorem dX8_set_19 : decode cX8_set 19 = .ok (.iload_n 3, 1) := by decide +kernel
theorem dX8_set_20 : decode cX8_set 20 = .ok (.iastore, 1) := by decide +kernel
theorem dX8_set_21 : decode cX8_set 21 = .ok (.aload_n 0, 1) := by decide +kernel
theorem dX8_set_22 : decode cX8_set 22 = .ok (.getfield 18, 3) := by decide +kernel
theorem dX8_set_25 : decode cX8_set 25 = .ok (.iconst 3, 1) := by decide +kernel
theorem dX8_set_26 : decode cX8_set 26 = .ok (.iload 4, 2) := by decide +kernel
theorem dX8_set_28 : decode cX8_set 28 = .ok (.iastore, 1) := by decide +kernel
theorem dX8_set_29 : decode cX8_set 29 = .ok (.return_, 1) := by decide +kernel
set_option maxRecDepth 20000 in
theorem sX8_set_0 {P : Option Value → AH → Prop} (h : AH) (r0 : Nat) (x1 : Int32) (x2 : Int32) (x3 : Int32) (x4 : Int32) (hf : (isO h 8 r0) ∧ ((isA h 0 (gF h r0 3)) ∧ ((vp_in 0 (ln (gF h r0 3))) ∧ ((vp_in 1 (ln (gF h r0 3))) ∧ ((vp_in 2 (ln (gF h r0 3))) ∧ ((vp_in 3 (ln (gF h r0 3))) ∧ (P none (sI (sI (sI (sI h (gF h r0 3) (Int32.toNatClampNeg 0) x1) (gF h r0 3) (Int32.toNatClampNeg 1) x2) (gF h r0 3) (Int32.toNatClampNeg 2) x3) (gF h r0 3) (Int32.toNatClampNeg 3) x4)))))))) : Rr mX8_set 0 0 0 [(0, .ref r0), (1, .int x1), (2, .int x2), (3, .int x3), (4, .int x4)] [] h P := by
  refine R_aload_n dX8_set_0 rfl 0 rfl ?_
  obtain ⟨ob1, hf⟩ := hf
  refine G8_3 dX8_set_1 lfX8_18 ob1 ?_
  refine R_iconst (v := 0) dX8_set_4 (by decide) ?_
  refine R_iload_n dX8_set_5 rfl 1 rfl ?_
  obtain ⟨ob2, hf⟩ := hf
  obtain ⟨ob3, hf⟩ := hf
  refine R_iastore dX8_set_6 ob2 ob3 ?_
  refine R_aload_n dX8_set_7 rfl 0 rfl ?_
  refine G8_3 dX8_set_8 lfX8_18 ob1 ?_
  refine R_eqF (y := gF h r0 3) rfl ?_
  refine R_iconst (v := 1) dX8_set_11 (by decide) ?_
  refine R_iload_n dX8_set_12 rfl 2 rfl ?_
  obtain ⟨ob4, hf⟩ := hf
  refine R_iastore dX8_set_13 ob2 ob4 ?_
  refine R_aload_n dX8_set_14 rfl 0 rfl ?_
  refine G8_3 dX8_set_15 lfX8_18 ob1 ?_
  refine R_eqF (y := gF h r0 3) rfl ?_
  refine R_iconst (v := 2) dX8_set_18 (by decide) ?_
  refine R_iload_n dX8_set_19 rfl 3 rfl ?_
  obtain ⟨ob5, hf⟩ := hf
  refine R_iastore dX8_set_20 ob2 ob5 ?_
  refine R_aload_n dX8_set_21 rfl 0 rfl ?_
  refine G8_3 dX8_set_22 lfX8_18 ob1 ?_
  refine R_eqF (y := gF h r0 3) rfl ?_
  refine R_iconst (v := 3) dX8_set_25 (by decide) ?_
  refine R_iload dX8_set_26 4 rfl ?_
  obtain ⟨ob6, hf⟩ := hf
  refine R_iastore dX8_set_28 ob2 ob6 ?_
  exact R_ret dX8_set_29 rfl hf
theorem aX8_set {h : AH} {P : Option Value → AH → Prop} {r0 : Nat} {x1 : Int32} {x2 : Int32} {x3 : Int32} {x4 : Int32} (o0 : isO h 8 r0) (o1 : isA h 0 (gF h r0 3)) (o2 : vp_in 0 (ln (gF h r0 3))) (o3 : vp_in 1 (ln (gF h r0 3))) (o4 : vp_in 2 (ln (gF h r0 3))) (o5 : vp_in 3 (ln (gF h r0 3))) (k : P none (sI (sI (sI (sI h (gF h r0 3) (Int32.toNatClampNeg 0) x1) (gF h r0 3) (Int32.toNatClampNeg 1) x2) (gF h r0 3) (Int32.toNatClampNeg 2) x3) (gF h r0 3) (Int32.toNatClampNeg 3) x4)) : Call mX8_set [.ref r0, .int x1, .int x2, .int x3, .int x4] h P :=
  Call.ofR (by decide +kernel) (Nat.le_of_ble_eq_true rfl) (sX8_set_0 h r0 x1 x2 x3 x4 (⟨o0, ⟨o1, ⟨o2, ⟨o3, ⟨o4, ⟨o5, k⟩⟩⟩⟩⟩⟩))
theorem dX8_squaresFrom_0 : decode cX8_squaresFrom 0 = .ok (.aload_n 0, 1) := by decide +kernel
theorem dX8_squaresFrom_1 : decode cX8_squaresFrom 1 = .ok (.getfield 11, 3) := by decide +kernel
theorem dX8_squaresFrom_4 : decode cX8_squaresFrom 4 = .ok (.iload_n 1, 1) := by decide +kernel
theorem dX8_squaresFrom_5 : decode cX8_squaresFrom 5 = .ok (.iaload, 1) := by decide +kernel
theorem dX8_squaresFrom_6 : decode cX8_squaresFrom 6 = .ok (.iload_n 2, 1) := by decide +kernel
theorem dX8_squaresFrom_7 : decode cX8_squaresFrom 7 = .ok (.isub, 1) := by decide +kernel
theorem dX8_squaresFrom_8 : decode cX8_squaresFrom 8 = .ok (.istore 4, 2) := by decide +kernel
theorem dX8_squaresFrom_10 : decode cX8_squaresFrom 10 = .ok (.aload_n 0, 1) := by decide +kernel
theorem dX8_squaresFrom_11 : decode cX8_squaresFrom 11 = .ok (.getfield 15, 3) := by decide +kernel
theorem dX8_squaresFrom_14 : decode cX8_squaresFrom 14 = .ok (.iload_n 1, 1) := by decide +kernel
theorem dX8_squaresFrom_15 : decode cX8_squaresFrom 15 = .ok (.iaload, 1) := by decide +kernel
theorem dX8_squaresFrom_16 : decode cX8_squaresFrom 16 = .ok (.iload_n 3, 1) := by decide +kernel
theorem dX8_squaresFrom_17 : decode cX8_squaresFrom 17 = .ok (.isub, 1) := by decide +kernel
theorem dX8_squaresFrom_18 : decode cX8_squaresFrom 18 = .ok (.istore 5, 2) := by decide +kernel
theorem dX8_squaresFrom_20 : decode cX8_squaresFrom 20 = .ok (.iload 4, 2) := by decide +kernel
theorem dX8_squaresFrom_22 : decode cX8_squaresFrom 22 = .ok (.iload 4, 2) := by decide +kernel
theorem dX8_squaresFrom_24 : decode cX8_squaresFrom 24 = .ok (.imul, 1) := by decide +kernel
theorem dX8_squaresFrom_25 : decode cX8_squaresFrom 25 = .ok (.iload 5, 2) := by decide +kernel
theorem dX8_squaresFrom_27 : decode cX8_squaresFrom 27 = .ok (.iload 5, 2) := by decide +kernel
theorem dX8_squaresFrom_29 : decode cX8_squaresFrom 29 = .ok (.imul, 1) := by decide +kernel
theorem dX8_squaresFrom_30 : decode cX8_squaresFrom 30 = .ok (.iadd, 1) := by decide +kernel
theorem dX8_squaresFrom_31 : decode cX8_squaresFrom 31 = .ok (.ireturn, 1) := by decide +kernel
set_option maxRecDepth 20000 in
theorem sX8_squaresFrom_0 {P : Option Value → AH → Prop} (h : AH) (r0 : Nat) (x1 : Int32) (x2 : Int32) (x3 : Int32) (hf : (isO h 8 r0) ∧ ((isA h 0 (gF h r0 1)) ∧ ((vp_in x1 (ln (gF h r0 1))) ∧ ((isA h 0 (gF h r0 2)) ∧ ((vp_in x1 (ln (gF h r0 2))) ∧ (P (some (.int ((((gI h (gF h r0 1) x1.toNatClampNeg) - x2) * ((gI h (gF h r0 1) x1.toNatClampNeg) - x2)) + (((gI h (gF h r0 2) x1.toNatClampNeg) - x3) * ((gI h (gF h r0 2) x1.toNatClampNeg) - x3))))) h)))))) : Rr mX8_squaresFrom 0 0 0 [(0, .ref r0), (1, .int x1), (2, .int x2), (3, .int x3)] [] h P := by
  refine R_aload_n dX8_squaresFrom_0 rfl 0 rfl ?_
  obtain ⟨ob1, hf⟩ := hf
  refine G8_1 dX8_squaresFrom_1 lfX8_11 ob1 ?_
  refine R_iload_n dX8_squaresFrom_4 rfl 1 rfl ?_
  obtain ⟨ob2, hf⟩ := hf
  obtain ⟨ob3, hf⟩ := hf
  refine R_iaload dX8_squaresFrom_5 ob2 ob3 ?_
  refine R_iload_n dX8_squaresFrom_6 rfl 2 rfl ?_
  refine R_isub dX8_squaresFrom_7 ?_
  refine R_istore dX8_squaresFrom_8 (by decide) rfl ?_
  refine R_aload_n dX8_squaresFrom_10 rfl 1 rfl ?_
  refine G8_2 dX8_squaresFrom_11 lfX8_15 ob1 ?_
  refine R_iload_n dX8_squaresFrom_14 rfl 2 rfl ?_
  obtain ⟨ob4, hf⟩ := hf
  obtain ⟨ob5, hf⟩ := hf
  refine R_iaload dX8_squaresFrom_15 ob4 ob5 ?_
  refine R_iload_n dX8_squaresFrom_16 rfl 4 rfl ?_
  refine R_isub dX8_squaresFrom_17 ?_
  refine R_istore dX8_squaresFrom_18 (by decide) rfl ?_
  refine R_iload dX8_squaresFrom_20 1 rfl ?_
  refine R_iload dX8_squaresFrom_22 1 rfl ?_
  refine R_imul dX8_squaresFrom_24 ?_
  refine R_iload dX8_squaresFrom_25 0 rfl ?_
  refine R_iload dX8_squaresFrom_27 0 rfl ?_
  refine R_imul dX8_squaresFrom_29 ?_
  refine R_iadd dX8_squaresFrom_30 ?_
  exact R_iret dX8_squaresFrom_31 rfl rfl hf
theorem aX8_squaresFrom {h : AH} {P : Option Value → AH → Prop} {r0 : Nat} {x1 : Int32} {x2 : Int32} {x3 : Int32} (o0 : isO h 8 r0) (o1 : isA h 0 (gF h r0 1)) (o2 : vp_in x1 (ln (gF h r0 1))) (o3 : isA h 0 (gF h r0 2)) (o4 : vp_in x1 (ln (gF h r0 2))) (k : P (some (.int ((((gI h (gF h r0 1) x1.toNatClampNeg) - x2) * ((gI h (gF h r0 1) x1.toNatClampNeg) - x2)) + (((gI h (gF h r0 2) x1.toNatClampNeg) - x3) * ((gI h (gF h r0 2) x1.toNatClampNeg) - x3))))) h) : Call mX8_squaresFrom [.ref r0, .int x1, .int x2, .int x3] h P :=
  Call.ofR (by decide +kernel) (Nat.le_of_ble_eq_true rfl) (sX8_squaresFrom_0 h r0 x1 x2 x3 (⟨o0, ⟨o1, ⟨o2, ⟨o3, ⟨o4, k⟩⟩⟩⟩⟩))
theorem dX9_isBlank_0 : decode cX9_isBlank 0 = .ok (.iload_n 0, 1) := by decide +kernel
theorem dX9_isBlank_1 : decode cX9_isBlank 1 = .ok (.bipush 32, 2) := by decide +kernel
theorem dX9_isBlank_3 : decode cX9_isBlank 3 = .ok (.if_icmp .eq 9, 3) := by decide +kernel
theorem dX9_isBlank_6 : decode cX9_isBlank 6 = .ok (.iload_n 0, 1) := by decide +kernel
theorem dX9_isBlank_7 : decode cX9_isBlank 7 = .ok (.bipush 10, 2) := by decide +kernel
theorem dX9_isBlank_9 : decode cX9_isBlank 9 = .ok (.if_icmp .ne 7, 3) := by decide +kernel
theorem dX9_isBlank_12 : decode cX9_isBlank 12 = .ok (.iconst 1, 1) := by decide +kernel
theorem dX9_isBlank_13 : decode cX9_isBlank 13 = .ok (.goto 4, 3) := by decide +kernel
theorem dX9_isBlank_16 : decode cX9_isBlank 16 = .ok (.iconst 0, 1) := by decide +kernel
theorem dX9_isBlank_17 : decode cX9_isBlank 17 = .ok (.ireturn, 1) := by decide +kernel
set_option maxRecDepth 20000 in
theorem sX9_isBlank_0 {P : Option Value → AH → Prop} (h : AH) (x0 : Int32) (hf : P (some (.int (bi (x0 = 32 ∨ (x0 = 10))))) h) : Rr mX9_isBlank 0 0 0 [(0, .int x0)] [] h P := by
  refine R_iload_n dX9_isBlank_0 rfl 0 rfl ?_
  refine R_bipush (v := 32) dX9_isBlank_1 (by decide) ?_
  have key :  Rr mX9_isBlank 0 0 17 [] [.int (bi (x0 = 32 ∨ (x0 = 10)))] h P := by
    exact R_iret dX9_isBlank_17 rfl (nb_n (bi_01 _)) hf
  refine R_icmp_eq (tgt := 12) dX9_isBlank_3 (by decide) (fun b1 => ?_) (fun b1 => ?_)
  · refine R_iconst (v := 1) dX9_isBlank_12 (by decide) ?_
    refine R_goto (tgt := 17) dX9_isBlank_13 (by decide) ?_
    have kb := key
    rw [show bi (x0 = 32 ∨ (x0 = 10)) = 1 from by simp only [bi, b1, false_and, and_false, true_and, and_true, not_true_eq_false, not_false_eq_true, if_true, if_false, true_or, or_true, false_or, or_false, reduceIte]] at kb
    exact R_sub [] rfl kb
  · refine R_iload_n dX9_isBlank_6 rfl 0 rfl ?_
    refine R_bipush (v := 10) dX9_isBlank_7 (by decide) ?_
    refine R_icmp_ne (tgt := 16) dX9_isBlank_9 (by decide) (fun b2 => ?_) (fun b2 => ?_)
    · refine R_iconst (v := 0) dX9_isBlank_16 (by decide) ?_
      have kb := key
      rw [show bi (x0 = 32 ∨ (x0 = 10)) = 0 from by simp only [bi, b1, b2, false_and, and_false, true_and, and_true, not_true_eq_false, not_false_eq_true, if_true, if_false, true_or, or_true, false_or, or_false, reduceIte]] at kb
      exact R_sub [] rfl kb
    · refine R_iconst (v := 1) dX9_isBlank_12 (by decide) ?_
      refine R_goto (tgt := 17) dX9_isBlank_13 (by decide) ?_
      have kb := key
      rw [show bi (x0 = 32 ∨ (x0 = 10)) = 1 from by simp only [bi, b1, b2, false_and, and_false, true_and, and_true, not_true_eq_false, not_false_eq_true, if_true, if_false, true_or, or_true, false_or, or_false, reduceIte]] at kb
      exact R_sub [] rfl kb
theorem aX9_isBlank {h : AH} {P : Option Value → AH → Prop} {x0 : Int32}  (k : P (some (.int (bi (x0 = 32 ∨ (x0 = 10))))) h) : Call mX9_isBlank [.int x0] h P :=
  Call.ofR (by decide +kernel) (Nat.le_of_ble_eq_true rfl) (sX9_isBlank_0 h x0 (k))
