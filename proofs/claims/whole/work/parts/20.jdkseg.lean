theorem dJ7_fill_53178_0 : decode cJ7_fill_53178 0 = .ok (.iconst 0, 1) := by decide +kernel
theorem dJ7_fill_53178_1 : decode cJ7_fill_53178 1 = .ok (.istore_n 2, 1) := by decide +kernel
theorem dJ7_fill_53178_2 : decode cJ7_fill_53178 2 = .ok (.aload_n 0, 1) := by decide +kernel
theorem dJ7_fill_53178_3 : decode cJ7_fill_53178 3 = .ok (.arraylength, 1) := by decide +kernel
theorem dJ7_fill_53178_4 : decode cJ7_fill_53178 4 = .ok (.istore_n 3, 1) := by decide +kernel
theorem dJ7_fill_53178_5 : decode cJ7_fill_53178 5 = .ok (.iload_n 2, 1) := by decide +kernel
theorem dJ7_fill_53178_6 : decode cJ7_fill_53178 6 = .ok (.iload_n 3, 1) := by decide +kernel
theorem dJ7_fill_53178_7 : decode cJ7_fill_53178 7 = .ok (.if_icmp .ge 13, 3) := by decide +kernel
theorem dJ7_fill_53178_10 : decode cJ7_fill_53178 10 = .ok (.aload_n 0, 1) := by decide +kernel
theorem dJ7_fill_53178_11 : decode cJ7_fill_53178 11 = .ok (.iload_n 2, 1) := by decide +kernel
theorem dJ7_fill_53178_12 : decode cJ7_fill_53178 12 = .ok (.iload_n 1, 1) := by decide +kernel
theorem dJ7_fill_53178_13 : decode cJ7_fill_53178 13 = .ok (.iastore, 1) := by decide +kernel
theorem dJ7_fill_53178_14 : decode cJ7_fill_53178 14 = .ok (.iinc 2 1, 3) := by decide +kernel
theorem dJ7_fill_53178_17 : decode cJ7_fill_53178 17 = .ok (.goto (-12), 3) := by decide +kernel
theorem dJ7_fill_53178_20 : decode cJ7_fill_53178 20 = .ok (.return_, 1) := by decide +kernel
set_option maxRecDepth 20000 in
theorem sJ7_fill_53178_0 {P : Option Value → AH → Prop} (h : AH) (r0 : Nat) (x1 : Int32) (hf : (isA h 0 r0) ∧ (Rr mJ7_fill_53178 0 0 5 [(0, .ref r0), (1, .int x1), (2, .int 0), (3, .int (Int32.ofNat (ln r0)))] [] h P)) : Rr mJ7_fill_53178 0 0 0 [(0, .ref r0), (1, .int x1)] [] h P := by
  refine R_iconst (v := 0) dJ7_fill_53178_0 (by decide) ?_
  refine R_istore_n dJ7_fill_53178_1 rfl (by decide) rfl ?_
  refine R_aload_n dJ7_fill_53178_2 rfl 1 rfl ?_
  obtain ⟨ob1, hf⟩ := hf
  refine R_alen (v := Int32.ofNat (ln r0)) (by decide) dJ7_fill_53178_3 ob1 rfl ?_
  refine R_istore_n dJ7_fill_53178_4 rfl (by decide) rfl ?_
  exact R_sub [2, 3, 1, 0] rfl hf
set_option maxRecDepth 20000 in
theorem sJ7_fill_53178_5 {P : Option Value → AH → Prop} (h : AH) (r0 : Nat) (x1 : Int32) (x2 : Int32) (x3 : Int32) (hf : (x3 ≤ x2 → P none h) ∧ (¬ x3 ≤ x2 → (isA h 0 r0) ∧ ((vp_in x2 (ln r0)) ∧ (Rr mJ7_fill_53178 0 0 5 [(0, .ref r0), (1, .int x1), (2, .int (x2 + 1)), (3, .int x3)] [] (sI h r0 x2.toNatClampNeg x1) P)))) : Rr mJ7_fill_53178 0 0 5 [(0, .ref r0), (1, .int x1), (2, .int x2), (3, .int x3)] [] h P := by
  refine R_iload_n dJ7_fill_53178_5 rfl 2 rfl ?_
  refine R_iload_n dJ7_fill_53178_6 rfl 3 rfl ?_
  refine R_icmp_ge (tgt := 20) dJ7_fill_53178_7 (by decide) (fun b1 => ?_) (fun b1 => ?_)
  · have hf := hf.1 b1
    exact R_ret dJ7_fill_53178_20 rfl hf
  · have hf := hf.2 b1
    refine R_aload_n dJ7_fill_53178_10 rfl 0 rfl ?_
    refine R_iload_n dJ7_fill_53178_11 rfl 2 rfl ?_
    refine R_iload_n dJ7_fill_53178_12 rfl 1 rfl ?_
    obtain ⟨ob2, hf⟩ := hf
    obtain ⟨ob3, hf⟩ := hf
    refine R_iastore dJ7_fill_53178_13 ob2 ob3 ?_
    refine R_iinc (v := x2 + 1) dJ7_fill_53178_14 2 rfl rfl (by decide) rfl ?_
    refine R_goto (tgt := 5) dJ7_fill_53178_17 (by decide) ?_
    exact R_sub [1, 2, 0, 3] rfl hf
theorem dJ13_bitCount_95d88_0 : decode cJ13_bitCount_95d88 0 = .ok (.lload_n 0, 1) := by decide +kernel
theorem dJ13_bitCount_95d88_1 : decode cJ13_bitCount_95d88 1 = .ok (.lload_n 0, 1) := by decide +kernel
theorem dJ13_bitCount_95d88_2 : decode cJ13_bitCount_95d88 2 = .ok (.iconst 1, 1) := by decide +kernel
theorem dJ13_bitCount_95d88_3 : decode cJ13_bitCount_95d88 3 = .ok (.lushr, 1) := by decide +kernel
theorem dJ13_bitCount_95d88_4 : decode cJ13_bitCount_95d88 4 = .ok (.ldc2_w 314, 3) := by decide +kernel
theorem dJ13_bitCount_95d88_7 : decode cJ13_bitCount_95d88 7 = .ok (.land, 1) := by decide +kernel
theorem dJ13_bitCount_95d88_8 : decode cJ13_bitCount_95d88 8 = .ok (.lsub, 1) := by decide +kernel
theorem dJ13_bitCount_95d88_9 : decode cJ13_bitCount_95d88 9 = .ok (.lstore_n 0, 1) := by decide +kernel
theorem dJ13_bitCount_95d88_10 : decode cJ13_bitCount_95d88 10 = .ok (.lload_n 0, 1) := by decide +kernel
theorem dJ13_bitCount_95d88_11 : decode cJ13_bitCount_95d88 11 = .ok (.ldc2_w 316, 3) := by decide +kernel
theorem dJ13_bitCount_95d88_14 : decode cJ13_bitCount_95d88 14 = .ok (.land, 1) := by decide +kernel
theorem dJ13_bitCount_95d88_15 : decode cJ13_bitCount_95d88 15 = .ok (.lload_n 0, 1) := by decide +kernel
theorem dJ13_bitCount_95d88_16 : decode cJ13_bitCount_95d88 16 = .ok (.iconst 2, 1) := by decide +kernel
theorem dJ13_bitCount_95d88_17 : decode cJ13_bitCount_95d88 17 = .ok (.lushr, 1) := by decide +kernel
theorem dJ13_bitCount_95d88_18 : decode cJ13_bitCount_95d88 18 = .ok (.ldc2_w 316, 3) := by decide +kernel
theorem dJ13_bitCount_95d88_21 : decode cJ13_bitCount_95d88 21 = .ok (.land, 1) := by decide +kernel
theorem dJ13_bitCount_95d88_22 : decode cJ13_bitCount_95d88 22 = .ok (.ladd, 1) := by decide +kernel
theorem dJ13_bitCount_95d88_23 : decode cJ13_bitCount_95d88 23 = .ok (.lstore_n 0, 1) := by decide +kernel
theorem dJ13_bitCount_95d88_24 : decode cJ13_bitCount_95d88 24 = .ok (.lload_n 0, 1) := by decide +kernel
theorem dJ13_bitCount_95d88_25 : decode cJ13_bitCount_95d88 25 = .ok (.lload_n 0, 1) := by decide +kernel
theorem dJ13_bitCount_95d88_26 : decode cJ13_bitCount_95d88 26 = .ok (.iconst 4, 1) := by decide +kernel
theorem dJ13_bitCount_95d88_27 : decode cJ13_bitCount_95d88 27 = .ok (.lushr, 1) := by decide +kernel
theorem dJ13_bitCount_95d88_28 : decode cJ13_bitCount_95d88 28 = .ok (.ladd, 1) := by decide +kernel
theorem dJ13_bitCount_95d88_29 : decode cJ13_bitCount_95d88 29 = .ok (.ldc2_w 318, 3) := by decide +kernel
theorem dJ13_bitCount_95d88_32 : decode cJ13_bitCount_95d88 32 = .ok (.land, 1) := by decide +kernel
theorem dJ13_bitCount_95d88_33 : decode cJ13_bitCount_95d88 33 = .ok (.lstore_n 0, 1) := by decide +kernel
theorem dJ13_bitCount_95d88_34 : decode cJ13_bitCount_95d88 34 = .ok (.lload_n 0, 1) := by decide +kernel
theorem dJ13_bitCount_95d88_35 : decode cJ13_bitCount_95d88 35 = .ok (.lload_n 0, 1) := by decide +kernel
theorem dJ13_bitCount_95d88_36 : decode cJ13_bitCount_95d88 36 = .ok (.bipush 8, 2) := by decide +kernel
theorem dJ13_bitCount_95d88_38 : decode cJ13_bitCount_95d88 38 = .ok (.lushr, 1) := by decide +kernel
theorem dJ13_bitCount_95d88_39 : decode cJ13_bitCount_95d88 39 = .ok (.ladd, 1) := by decide +kernel
theorem dJ13_bitCount_95d88_40 : decode cJ13_bitCount_95d88 40 = .ok (.lstore_n 0, 1) := by decide +kernel
theorem dJ13_bitCount_95d88_41 : decode cJ13_bitCount_95d88 41 = .ok (.lload_n 0, 1) := by decide +kernel
theorem dJ13_bitCount_95d88_42 : decode cJ13_bitCount_95d88 42 = .ok (.lload_n 0, 1) := by decide +kernel
theorem dJ13_bitCount_95d88_43 : decode cJ13_bitCount_95d88 43 = .ok (.bipush 16, 2) := by decide +kernel
theorem dJ13_bitCount_95d88_45 : decode cJ13_bitCount_95d88 45 = .ok (.lushr, 1) := by decide +kernel
theorem dJ13_bitCount_95d88_46 : decode cJ13_bitCount_95d88 46 = .ok (.ladd, 1) := by decide +kernel
theorem dJ13_bitCount_95d88_47 : decode cJ13_bitCount_95d88 47 = .ok (.lstore_n 0, 1) := by decide +kernel
theorem dJ13_bitCount_95d88_48 : decode cJ13_bitCount_95d88 48 = .ok (.lload_n 0, 1) := by decide +kernel
theorem dJ13_bitCount_95d88_49 : decode cJ13_bitCount_95d88 49 = .ok (.lload_n 0, 1) := by decide +kernel
theorem dJ13_bitCount_95d88_50 : decode cJ13_bitCount_95d88 50 = .ok (.bipush 32, 2) := by decide +kernel
theorem dJ13_bitCount_95d88_52 : decode cJ13_bitCount_95d88 52 = .ok (.lushr, 1) := by decide +kernel
theorem dJ13_bitCount_95d88_53 : decode cJ13_bitCount_95d88 53 = .ok (.ladd, 1) := by decide +kernel
theorem dJ13_bitCount_95d88_54 : decode cJ13_bitCount_95d88 54 = .ok (.lstore_n 0, 1) := by decide +kernel
theorem dJ13_bitCount_95d88_55 : decode cJ13_bitCount_95d88 55 = .ok (.lload_n 0, 1) := by decide +kernel
theorem dJ13_bitCount_95d88_56 : decode cJ13_bitCount_95d88 56 = .ok (.l2i, 1) := by decide +kernel
theorem dJ13_bitCount_95d88_57 : decode cJ13_bitCount_95d88 57 = .ok (.bipush 127, 2) := by decide +kernel
theorem dJ13_bitCount_95d88_59 : decode cJ13_bitCount_95d88 59 = .ok (.iand, 1) := by decide +kernel
theorem dJ13_bitCount_95d88_60 : decode cJ13_bitCount_95d88 60 = .ok (.ireturn, 1) := by decide +kernel
set_option maxRecDepth 20000 in
theorem sJ13_bitCount_95d88_0 {P : Option Value → AH → Prop} (h : AH) (y0 : Int64) (hf : ∀ v1 : Int64, v1 = (((y0 - ((lushr y0 1) &&& 6148914691236517205)) &&& 3689348814741910323) + ((lushr (y0 - ((lushr y0 1) &&& 6148914691236517205)) 2) &&& 3689348814741910323)) → (∀ v2 : Int64, v2 = (((v1 + (lushr v1 4)) &&& 1085102592571150095) + (lushr ((v1 + (lushr v1 4)) &&& 1085102592571150095) 8)) → (P (some (.int (((v2 + (lushr v2 16)) + (lushr (v2 + (lushr v2 16)) 32)).toInt32 &&& 127))) h))) : Rr mJ13_bitCount_95d88 0 0 0 [(0, .long y0)] [] h P := by
  refine R_lload_n dJ13_bitCount_95d88_0 rfl 0 rfl ?_
  refine R_lload_n dJ13_bitCount_95d88_1 rfl 0 rfl ?_
  refine R_iconst (v := 1) dJ13_bitCount_95d88_2 (by decide) ?_
  refine R_lushr dJ13_bitCount_95d88_3 ?_
  refine R_ldc2 (v := 6148914691236517205) dJ13_bitCount_95d88_4 lcJ13_314 ?_
  refine R_land dJ13_bitCount_95d88_7 ?_
  refine R_lsub dJ13_bitCount_95d88_8 ?_
  refine R_lstore_n dJ13_bitCount_95d88_9 rfl (by decide) rfl ?_
  refine R_lload_n dJ13_bitCount_95d88_10 rfl 0 rfl ?_
  refine R_ldc2 (v := 3689348814741910323) dJ13_bitCount_95d88_11 lcJ13_316 ?_
  refine R_land dJ13_bitCount_95d88_14 ?_
  refine R_lload_n dJ13_bitCount_95d88_15 rfl 0 rfl ?_
  refine R_iconst (v := 2) dJ13_bitCount_95d88_16 (by decide) ?_
  refine R_lushr dJ13_bitCount_95d88_17 ?_
  refine R_ldc2 (v := 3689348814741910323) dJ13_bitCount_95d88_18 lcJ13_316 ?_
  refine R_land dJ13_bitCount_95d88_21 ?_
  refine R_ladd dJ13_bitCount_95d88_22 ?_
  refine R_topl (fun v1 ev1 => ?_)
  have hf := hf v1 ev1
  refine R_lstore_n dJ13_bitCount_95d88_23 rfl (by decide) rfl ?_
  refine R_lload_n dJ13_bitCount_95d88_24 rfl 0 rfl ?_
  refine R_lload_n dJ13_bitCount_95d88_25 rfl 0 rfl ?_
  refine R_iconst (v := 4) dJ13_bitCount_95d88_26 (by decide) ?_
  refine R_lushr dJ13_bitCount_95d88_27 ?_
  refine R_ladd dJ13_bitCount_95d88_28 ?_
  refine R_ldc2 (v := 1085102592571150095) dJ13_bitCount_95d88_29 lcJ13_318 ?_
  refine R_land dJ13_bitCount_95d88_32 ?_
  refine R_lstore_n dJ13_bitCount_95d88_33 rfl (by decide) rfl ?_
  refine R_lload_n dJ13_bitCount_95d88_34 rfl 0 rfl ?_
  refine R_lload_n dJ13_bitCount_95d88_35 rfl 0 rfl ?_
  refine R_bipush (v := 8) dJ13_bitCount_95d88_36 (by decide) ?_
  refine R_lushr dJ13_bitCount_95d88_38 ?_
  refine R_ladd dJ13_bitCount_95d88_39 ?_
  refine R_topl (fun v2 ev2 => ?_)
  have hf := hf v2 ev2
  refine R_lstore_n dJ13_bitCount_95d88_40 rfl (by decide) rfl ?_
  refine R_lload_n dJ13_bitCount_95d88_41 rfl 0 rfl ?_
  refine R_lload_n dJ13_bitCount_95d88_42 rfl 0 rfl ?_
  refine R_bipush (v := 16) dJ13_bitCount_95d88_43 (by decide) ?_
  refine R_lushr dJ13_bitCount_95d88_45 ?_
  refine R_ladd dJ13_bitCount_95d88_46 ?_
  refine R_lstore_n dJ13_bitCount_95d88_47 rfl (by decide) rfl ?_
  refine R_lload_n dJ13_bitCount_95d88_48 rfl 0 rfl ?_
  refine R_lload_n dJ13_bitCount_95d88_49 rfl 0 rfl ?_
  refine R_bipush (v := 32) dJ13_bitCount_95d88_50 (by decide) ?_
  refine R_lushr dJ13_bitCount_95d88_52 ?_
  refine R_ladd dJ13_bitCount_95d88_53 ?_
  refine R_lstore_n dJ13_bitCount_95d88_54 rfl (by decide) rfl ?_
  refine R_lload_n dJ13_bitCount_95d88_55 rfl 0 rfl ?_
  refine R_l2i dJ13_bitCount_95d88_56 ?_
  refine R_bipush (v := 127) dJ13_bitCount_95d88_57 (by decide) ?_
  refine R_iand dJ13_bitCount_95d88_59 ?_
  exact R_iret dJ13_bitCount_95d88_60 rfl rfl hf
theorem dJ7_fill_d0a16_0 : decode cJ7_fill_d0a16 0 = .ok (.iconst 0, 1) := by decide +kernel
theorem dJ7_fill_d0a16_1 : decode cJ7_fill_d0a16 1 = .ok (.istore_n 3, 1) := by decide +kernel
theorem dJ7_fill_d0a16_2 : decode cJ7_fill_d0a16 2 = .ok (.aload_n 0, 1) := by decide +kernel
theorem dJ7_fill_d0a16_3 : decode cJ7_fill_d0a16 3 = .ok (.arraylength, 1) := by decide +kernel
theorem dJ7_fill_d0a16_4 : decode cJ7_fill_d0a16 4 = .ok (.istore 4, 2) := by decide +kernel
theorem dJ7_fill_d0a16_6 : decode cJ7_fill_d0a16 6 = .ok (.iload_n 3, 1) := by decide +kernel
theorem dJ7_fill_d0a16_7 : decode cJ7_fill_d0a16 7 = .ok (.iload 4, 2) := by decide +kernel
theorem dJ7_fill_d0a16_9 : decode cJ7_fill_d0a16 9 = .ok (.if_icmp .ge 13, 3) := by decide +kernel
theorem dJ7_fill_d0a16_12 : decode cJ7_fill_d0a16 12 = .ok (.aload_n 0, 1) := by decide +kernel
theorem dJ7_fill_d0a16_13 : decode cJ7_fill_d0a16 13 = .ok (.iload_n 3, 1) := by decide +kernel
theorem dJ7_fill_d0a16_14 : decode cJ7_fill_d0a16 14 = .ok (.lload_n 1, 1) := by decide +kernel
theorem dJ7_fill_d0a16_15 : decode cJ7_fill_d0a16 15 = .ok (.lastore, 1) := by decide +kernel
theorem dJ7_fill_d0a16_16 : decode cJ7_fill_d0a16 16 = .ok (.iinc 3 1, 3) := by decide +kernel
theorem dJ7_fill_d0a16_19 : decode cJ7_fill_d0a16 19 = .ok (.goto (-13), 3) := by decide +kernel
theorem dJ7_fill_d0a16_22 : decode cJ7_fill_d0a16 22 = .ok (.return_, 1) := by decide +kernel
set_option maxRecDepth 20000 in
theorem sJ7_fill_d0a16_0 {P : Option Value → AH → Prop} (h : AH) (r0 : Nat) (y1 : Int64) (hf : (isA h 1 r0) ∧ (Rr mJ7_fill_d0a16 0 0 6 [(0, .ref r0), (1, .long y1), (3, .int 0), (4, .int (Int32.ofNat (ln r0)))] [] h P)) : Rr mJ7_fill_d0a16 0 0 0 [(0, .ref r0), (1, .long y1)] [] h P := by
  refine R_iconst (v := 0) dJ7_fill_d0a16_0 (by decide) ?_
  refine R_istore_n dJ7_fill_d0a16_1 rfl (by decide) rfl ?_
  refine R_aload_n dJ7_fill_d0a16_2 rfl 1 rfl ?_
  obtain ⟨ob1, hf⟩ := hf
  refine R_alen (v := Int32.ofNat (ln r0)) (by decide) dJ7_fill_d0a16_3 ob1 rfl ?_
  refine R_istore dJ7_fill_d0a16_4 (by decide) rfl ?_
  exact R_sub [2, 3, 1, 0] rfl hf
set_option maxRecDepth 20000 in
theorem sJ7_fill_d0a16_6 {P : Option Value → AH → Prop} (h : AH) (r0 : Nat) (y1 : Int64) (x3 : Int32) (x4 : Int32) (hf : (x4 ≤ x3 → P none h) ∧ (¬ x4 ≤ x3 → (isA h 1 r0) ∧ ((vp_in x3 (ln r0)) ∧ (Rr mJ7_fill_d0a16 0 0 6 [(0, .ref r0), (1, .long y1), (3, .int (x3 + 1)), (4, .int x4)] [] (sL h r0 x3.toNatClampNeg y1) P)))) : Rr mJ7_fill_d0a16 0 0 6 [(0, .ref r0), (1, .long y1), (3, .int x3), (4, .int x4)] [] h P := by
  refine R_iload_n dJ7_fill_d0a16_6 rfl 2 rfl ?_
  refine R_iload dJ7_fill_d0a16_7 3 rfl ?_
  refine R_icmp_ge (tgt := 22) dJ7_fill_d0a16_9 (by decide) (fun b1 => ?_) (fun b1 => ?_)
  · have hf := hf.1 b1
    exact R_ret dJ7_fill_d0a16_22 rfl hf
  · have hf := hf.2 b1
    refine R_aload_n dJ7_fill_d0a16_12 rfl 0 rfl ?_
    refine R_iload_n dJ7_fill_d0a16_13 rfl 2 rfl ?_
    refine R_lload_n dJ7_fill_d0a16_14 rfl 1 rfl ?_
    obtain ⟨ob2, hf⟩ := hf
    obtain ⟨ob3, hf⟩ := hf
    refine R_lastore dJ7_fill_d0a16_15 ob2 ob3 ?_
    refine R_iinc (v := x3 + 1) dJ7_fill_d0a16_16 2 rfl rfl (by decide) rfl ?_
    refine R_goto (tgt := 6) dJ7_fill_d0a16_19 (by decide) ?_
    exact R_sub [1, 2, 0, 3] rfl hf
