theorem dX12_readScreen_0 : decode cX12_readScreen 0 = .ok (.aload_n 0, 1) := by decide +kernel
theorem dX12_readScreen_1 : decode cX12_readScreen 1 = .ok (.getfield 17, 3) := by decide +kernel
theorem dX12_readScreen_4 : decode cX12_readScreen 4 = .ok (.bipush 17, 2) := by decide +kernel
theorem dX12_readScreen_6 : decode cX12_readScreen 6 = .ok (.iaload, 1) := by decide +kernel
theorem dX12_readScreen_7 : decode cX12_readScreen 7 = .ok (.istore_n 1, 1) := by decide +kernel
theorem dX12_readScreen_8 : decode cX12_readScreen 8 = .ok (.iload_n 1, 1) := by decide +kernel
theorem dX12_readScreen_9 : decode cX12_readScreen 9 = .ok (.bipush 8, 2) := by decide +kernel
theorem dX12_readScreen_11 : decode cX12_readScreen 11 = .ok (.if_icmp .ne 9, 3) := by decide +kernel
theorem dX12_readScreen_14 : decode cX12_readScreen 14 = .ok (.aload_n 0, 1) := by decide +kernel
theorem dX12_readScreen_15 : decode cX12_readScreen 15 = .ok (.iconst 4, 1) := by decide +kernel
theorem dX12_readScreen_16 : decode cX12_readScreen 16 = .ok (.invokevirtual 175, 3) := by decide +kernel
theorem dX12_readScreen_19 : decode cX12_readScreen 19 = .ok (.ireturn, 1) := by decide +kernel
theorem dX12_readScreen_20 : decode cX12_readScreen 20 = .ok (.aload_n 0, 1) := by decide +kernel
theorem dX12_readScreen_21 : decode cX12_readScreen 21 = .ok (.invokevirtual 169, 3) := by decide +kernel
theorem dX12_readScreen_24 : decode cX12_readScreen 24 = .ok (.aload_n 0, 1) := by decide +kernel
theorem dX12_readScreen_25 : decode cX12_readScreen 25 = .ok (.iconst 1, 1) := by decide +kernel
theorem dX12_readScreen_26 : decode cX12_readScreen 26 = .ok (.bipush 30, 2) := by decide +kernel
theorem dX12_readScreen_28 : decode cX12_readScreen 28 = .ok (.invokevirtual 185, 3) := by decide +kernel
theorem dX12_readScreen_31 : decode cX12_readScreen 31 = .ok (.ifCond .ne 5, 3) := by decide +kernel
theorem dX12_readScreen_34 : decode cX12_readScreen 34 = .ok (.iconst 0, 1) := by decide +kernel
theorem dX12_readScreen_35 : decode cX12_readScreen 35 = .ok (.ireturn, 1) := by decide +kernel
theorem dX12_readScreen_36 : decode cX12_readScreen 36 = .ok (.aload_n 0, 1) := by decide +kernel
theorem dX12_readScreen_37 : decode cX12_readScreen 37 = .ok (.getfield 36, 3) := by decide +kernel
theorem dX12_readScreen_40 : decode cX12_readScreen 40 = .ok (.bipush 8, 2) := by decide +kernel
theorem dX12_readScreen_42 : decode cX12_readScreen 42 = .ok (.iload_n 1, 1) := by decide +kernel
theorem dX12_readScreen_43 : decode cX12_readScreen 43 = .ok (.iadd, 1) := by decide +kernel
theorem dX12_readScreen_44 : decode cX12_readScreen 44 = .ok (.aload_n 0, 1) := by decide +kernel
theorem dX12_readScreen_45 : decode cX12_readScreen 45 = .ok (.getfield 182, 3) := by decide +kernel
theorem dX12_readScreen_48 : decode cX12_readScreen 48 = .ok (.iastore, 1) := by decide +kernel
theorem dX12_readScreen_49 : decode cX12_readScreen 49 = .ok (.aload_n 0, 1) := by decide +kernel
theorem dX12_readScreen_50 : decode cX12_readScreen 50 = .ok (.iconst 1, 1) := by decide +kernel
theorem dX12_readScreen_51 : decode cX12_readScreen 51 = .ok (.bipush 30, 2) := by decide +kernel
theorem dX12_readScreen_53 : decode cX12_readScreen 53 = .ok (.invokevirtual 185, 3) := by decide +kernel
theorem dX12_readScreen_56 : decode cX12_readScreen 56 = .ok (.ifCond .ne 5, 3) := by decide +kernel
theorem dX12_readScreen_59 : decode cX12_readScreen 59 = .ok (.iconst 0, 1) := by decide +kernel
theorem dX12_readScreen_60 : decode cX12_readScreen 60 = .ok (.ireturn, 1) := by decide +kernel
theorem dX12_readScreen_61 : decode cX12_readScreen 61 = .ok (.aload_n 0, 1) := by decide +kernel
theorem dX12_readScreen_62 : decode cX12_readScreen 62 = .ok (.getfield 39, 3) := by decide +kernel
theorem dX12_readScreen_65 : decode cX12_readScreen 65 = .ok (.bipush 8, 2) := by decide +kernel
theorem dX12_readScreen_67 : decode cX12_readScreen 67 = .ok (.iload_n 1, 1) := by decide +kernel
theorem dX12_readScreen_68 : decode cX12_readScreen 68 = .ok (.iadd, 1) := by decide +kernel
theorem dX12_readScreen_69 : decode cX12_readScreen 69 = .ok (.aload_n 0, 1) := by decide +kernel
theorem dX12_readScreen_70 : decode cX12_readScreen 70 = .ok (.getfield 182, 3) := by decide +kernel
theorem dX12_readScreen_73 : decode cX12_readScreen 73 = .ok (.iastore, 1) := by decide +kernel
theorem dX12_readScreen_74 : decode cX12_readScreen 74 = .ok (.aload_n 0, 1) := by decide +kernel
theorem dX12_readScreen_75 : decode cX12_readScreen 75 = .ok (.getfield 17, 3) := by decide +kernel
theorem dX12_readScreen_78 : decode cX12_readScreen 78 = .ok (.bipush 17, 2) := by decide +kernel
theorem dX12_readScreen_80 : decode cX12_readScreen 80 = .ok (.dup2, 1) := by decide +kernel
theorem dX12_readScreen_81 : decode cX12_readScreen 81 = .ok (.iaload, 1) := by decide +kernel
theorem dX12_readScreen_82 : decode cX12_readScreen 82 = .ok (.iconst 1, 1) := by decide +kernel
theorem dX12_readScreen_83 : decode cX12_readScreen 83 = .ok (.iadd, 1) := by decide +kernel
theorem dX12_readScreen_84 : decode cX12_readScreen 84 = .ok (.iastore, 1) := by decide +kernel
theorem dX12_readScreen_85 : decode cX12_readScreen 85 = .ok (.iconst 1, 1) := by decide +kernel
theorem dX12_readScreen_86 : decode cX12_readScreen 86 = .ok (.ireturn, 1) := by decide +kernel
set_option maxRecDepth 20000 in
theorem sX12_readScreen_0 {P : Option Value → AH → Prop} (h : AH) (r0 : Nat) (hf : (isO h 12 r0) ∧ ((isA h 0 (gF h r0 11)) ∧ ((vp_in 17 (ln (gF h r0 11))) ∧ ((¬ (gI h (gF h r0 11) (Int32.toNatClampNeg 17)) = 8 → Call mX12_scan [.ref r0] h (fun v h5 => v = none ∧ ((isO h5 12 r0) ∧ (Call mX12_readNumber [.ref r0, .int 1, .int 30] h5 (fun v h7 => ∃ z8 : Int32, v = some (.int z8) ∧ ((¬ z8 = 0 → (isO h7 12 r0) ∧ ((isA h7 0 (gF h7 r0 17)) ∧ ((vp_in (8 + (gI h (gF h r0 11) (Int32.toNatClampNeg 17))) (ln (gF h7 r0 17))) ∧ (Call mX12_readNumber [.ref r0, .int 1, .int 30] (sI h7 (gF h7 r0 17) (8 + (gI h (gF h r0 11) (Int32.toNatClampNeg 17))).toNatClampNeg (gI h7 r0 10)) (fun v h13 => ∃ z14 : Int32, v = some (.int z14) ∧ ((¬ z14 = 0 → (isO h13 12 r0) ∧ ((isA h13 0 (gF h13 r0 18)) ∧ ((vp_in (8 + (gI h (gF h r0 11) (Int32.toNatClampNeg 17))) (ln (gF h13 r0 18))) ∧ ((isA h13 0 (gF h13 r0 11)) ∧ ((vp_in 17 (ln (gF h13 r0 11))) ∧ (P (some (.int 1)) (sI (sI h13 (gF h13 r0 18) (8 + (gI h (gF h r0 11) (Int32.toNatClampNeg 17))).toNatClampNeg (gI h13 r0 10)) (gF h13 r0 11) (Int32.toNatClampNeg 17) ((gI (sI h13 (gF h13 r0 18) (8 + (gI h (gF h r0 11) (Int32.toNatClampNeg 17))).toNatClampNeg (gI h13 r0 10)) (gF h13 r0 11) (Int32.toNatClampNeg 17)) + 1)))))))) ∧ (z14 = 0 → P (some (.int 0)) h13))))))) ∧ (z8 = 0 → P (some (.int 0)) h7))))))) ∧ ((gI h (gF h r0 11) (Int32.toNatClampNeg 17)) = 8 → Call mX12_fails [.ref r0, .int 4] h (fun v h21 => ∃ z22 : Int32, v = some (.int z22) ∧ ((z22 = 0 ∨ z22 = 1) ∧ (P (some (.int z22)) h21)))))))) : Rr mX12_readScreen 0 0 0 [(0, .ref r0)] [] h P := by
  refine R_aload_n dX12_readScreen_0 rfl 0 rfl ?_
  obtain ⟨ob1, hf⟩ := hf
  refine G12_11 dX12_readScreen_1 lfX12_17 ob1 ?_
  refine R_bipush (v := 17) dX12_readScreen_4 (by decide) ?_
  obtain ⟨ob2, hf⟩ := hf
  obtain ⟨ob3, hf⟩ := hf
  refine R_iaload dX12_readScreen_6 ob2 ob3 ?_
  refine R_istore_n dX12_readScreen_7 rfl (by decide) rfl ?_
  refine R_iload_n dX12_readScreen_8 rfl 0 rfl ?_
  refine R_bipush (v := 8) dX12_readScreen_9 (by decide) ?_
  refine R_icmp_ne (tgt := 20) dX12_readScreen_11 (by decide) (fun b4 => ?_) (fun b4 => ?_)
  · have hf := hf.1 b4
    refine R_aload_n dX12_readScreen_20 rfl 1 rfl ?_
    refine R_callV (ci := 12) (N := mX12_scan) (as := []) (rest := []) (kc2 := 0) (ks2 := 0) dX12_readScreen_21 lmX12_169 oX12_scan (Nat.le_of_ble_eq_true rfl) rfl rfl (Nat.le_of_ble_eq_true rfl) rfl rfl ob1 ok12 (Call.mono hf ?_)
    rintro _ h5 ⟨rfl, hf⟩
    refine R_aload_n dX12_readScreen_24 rfl 1 rfl ?_
    refine R_iconst (v := 1) dX12_readScreen_25 (by decide) ?_
    refine R_bipush (v := 30) dX12_readScreen_26 (by decide) ?_
    obtain ⟨ob6, hf⟩ := hf
    refine R_callV (ci := 12) (N := mX12_readNumber) (as := [.int 1, .int 30]) (rest := []) (kc2 := 0) (ks2 := 0) dX12_readScreen_28 lmX12_185 oX12_readNumber (Nat.le_of_ble_eq_true rfl) rfl rfl (Nat.le_of_ble_eq_true rfl) rfl rfl ob6 ok12 (Call.mono hf ?_)
    rintro _ h7 ⟨z8, rfl, hf⟩
    refine R_if_ne (tgt := 36) dX12_readScreen_31 (by decide) (fun b9 => ?_) (fun b9 => ?_)
    · have hf := hf.1 b9
      refine R_aload_n dX12_readScreen_36 rfl 1 rfl ?_
      obtain ⟨ob10, hf⟩ := hf
      refine G12_17 dX12_readScreen_37 lfX12_36 ob10 ?_
      refine R_bipush (v := 8) dX12_readScreen_40 (by decide) ?_
      refine R_iload_n dX12_readScreen_42 rfl 0 rfl ?_
      refine R_iadd dX12_readScreen_43 ?_
      refine R_aload_n dX12_readScreen_44 rfl 1 rfl ?_
      refine G12_10 dX12_readScreen_45 lfX12_182 ob10 ?_
      obtain ⟨ob11, hf⟩ := hf
      obtain ⟨ob12, hf⟩ := hf
      refine R_iastore dX12_readScreen_48 ob11 ob12 ?_
      refine R_aload_n dX12_readScreen_49 rfl 1 rfl ?_
      refine R_iconst (v := 1) dX12_readScreen_50 (by decide) ?_
      refine R_bipush (v := 30) dX12_readScreen_51 (by decide) ?_
      refine R_callV (ci := 12) (N := mX12_readNumber) (as := [.int 1, .int 30]) (rest := []) (kc2 := 0) (ks2 := 0) dX12_readScreen_53 lmX12_185 oX12_readNumber (Nat.le_of_ble_eq_true rfl) rfl rfl (Nat.le_of_ble_eq_true rfl) rfl rfl ob10 ok12 (Call.mono hf ?_)
      rintro _ h13 ⟨z14, rfl, hf⟩
      refine R_if_ne (tgt := 61) dX12_readScreen_56 (by decide) (fun b15 => ?_) (fun b15 => ?_)
      · have hf := hf.1 b15
        refine R_aload_n dX12_readScreen_61 rfl 1 rfl ?_
        obtain ⟨ob16, hf⟩ := hf
        refine G12_18 dX12_readScreen_62 lfX12_39 ob16 ?_
        refine R_bipush (v := 8) dX12_readScreen_65 (by decide) ?_
        refine R_iload_n dX12_readScreen_67 rfl 0 rfl ?_
        refine R_iadd dX12_readScreen_68 ?_
        refine R_aload_n dX12_readScreen_69 rfl 1 rfl ?_
        refine G12_10 dX12_readScreen_70 lfX12_182 ob16 ?_
        obtain ⟨ob17, hf⟩ := hf
        obtain ⟨ob18, hf⟩ := hf
        refine R_iastore dX12_readScreen_73 ob17 ob18 ?_
        refine R_aload_n dX12_readScreen_74 rfl 1 rfl ?_
        refine G12_11 dX12_readScreen_75 lfX12_17 ob16 ?_
        refine R_eqF (y := gF h13 r0 11) rfl ?_
        refine R_bipush (v := 17) dX12_readScreen_78 (by decide) ?_
        refine R_dup2 dX12_readScreen_80 rfl rfl ?_
        obtain ⟨ob19, hf⟩ := hf
        obtain ⟨ob20, hf⟩ := hf
        refine R_iaload dX12_readScreen_81 ob19 ob20 ?_
        refine R_iconst (v := 1) dX12_readScreen_82 (by decide) ?_
        refine R_iadd dX12_readScreen_83 ?_
        refine R_iastore dX12_readScreen_84 ob19 ob20 ?_
        refine R_iconst (v := 1) dX12_readScreen_85 (by decide) ?_
        exact R_iret dX12_readScreen_86 rfl rfl hf
      · have hf := hf.2 b15
        refine R_iconst (v := 0) dX12_readScreen_59 (by decide) ?_
        exact R_iret dX12_readScreen_60 rfl rfl hf
    · have hf := hf.2 b9
      refine R_iconst (v := 0) dX12_readScreen_34 (by decide) ?_
      exact R_iret dX12_readScreen_35 rfl rfl hf
  · have hf := hf.2 b4
    refine R_aload_n dX12_readScreen_14 rfl 1 rfl ?_
    refine R_iconst (v := 4) dX12_readScreen_15 (by decide) ?_
    refine R_callV (ci := 12) (N := mX12_fails) (as := [.int 4]) (rest := []) (kc2 := 0) (ks2 := 0) dX12_readScreen_16 lmX12_175 oX12_fails (Nat.le_of_ble_eq_true rfl) rfl rfl (Nat.le_of_ble_eq_true rfl) rfl rfl ob1 ok12 (Call.mono hf ?_)
    rintro _ h21 ⟨z22, rfl, hf⟩
    obtain ⟨ob23, hf⟩ := hf
    exact R_iret dX12_readScreen_19 rfl (nb_n ob23) hf
theorem dX12_readSheet_0 : decode cX12_readSheet 0 = .ok (.aload_n 0, 1) := by decide +kernel
theorem dX12_readSheet_1 : decode cX12_readSheet 1 = .ok (.iconst 4, 1) := by decide +kernel
theorem dX12_readSheet_2 : decode cX12_readSheet 2 = .ok (.invokevirtual 218, 3) := by decide +kernel
theorem dX12_readSheet_5 : decode cX12_readSheet 5 = .ok (.ifCond .eq 9, 3) := by decide +kernel
theorem dX12_readSheet_8 : decode cX12_readSheet 8 = .ok (.aload_n 0, 1) := by decide +kernel
theorem dX12_readSheet_9 : decode cX12_readSheet 9 = .ok (.iconst 3, 1) := by decide +kernel
theorem dX12_readSheet_10 : decode cX12_readSheet 10 = .ok (.invokevirtual 175, 3) := by decide +kernel
theorem dX12_readSheet_13 : decode cX12_readSheet 13 = .ok (.ireturn, 1) := by decide +kernel
theorem dX12_readSheet_14 : decode cX12_readSheet 14 = .ok (.aload_n 0, 1) := by decide +kernel
theorem dX12_readSheet_15 : decode cX12_readSheet 15 = .ok (.getfield 17, 3) := by decide +kernel
theorem dX12_readSheet_18 : decode cX12_readSheet 18 = .ok (.bipush 11, 2) := by decide +kernel
theorem dX12_readSheet_20 : decode cX12_readSheet 20 = .ok (.iaload, 1) := by decide +kernel
theorem dX12_readSheet_21 : decode cX12_readSheet 21 = .ok (.ifCond .le 9, 3) := by decide +kernel
theorem dX12_readSheet_24 : decode cX12_readSheet 24 = .ok (.aload_n 0, 1) := by decide +kernel
theorem dX12_readSheet_25 : decode cX12_readSheet 25 = .ok (.iconst 5, 1) := by decide +kernel
theorem dX12_readSheet_26 : decode cX12_readSheet 26 = .ok (.invokevirtual 175, 3) := by decide +kernel
theorem dX12_readSheet_29 : decode cX12_readSheet 29 = .ok (.ireturn, 1) := by decide +kernel
theorem dX12_readSheet_30 : decode cX12_readSheet 30 = .ok (.aload_n 0, 1) := by decide +kernel
theorem dX12_readSheet_31 : decode cX12_readSheet 31 = .ok (.invokevirtual 169, 3) := by decide +kernel
theorem dX12_readSheet_34 : decode cX12_readSheet 34 = .ok (.aload_n 0, 1) := by decide +kernel
theorem dX12_readSheet_35 : decode cX12_readSheet 35 = .ok (.bipush 10, 2) := by decide +kernel
theorem dX12_readSheet_37 : decode cX12_readSheet 37 = .ok (.sipush 200, 3) := by decide +kernel
theorem dX12_readSheet_40 : decode cX12_readSheet 40 = .ok (.invokevirtual 185, 3) := by decide +kernel
theorem dX12_readSheet_43 : decode cX12_readSheet 43 = .ok (.ifCond .ne 5, 3) := by decide +kernel
theorem dX12_readSheet_46 : decode cX12_readSheet 46 = .ok (.iconst 0, 1) := by decide +kernel
theorem dX12_readSheet_47 : decode cX12_readSheet 47 = .ok (.ireturn, 1) := by decide +kernel
theorem dX12_readSheet_48 : decode cX12_readSheet 48 = .ok (.aload_n 0, 1) := by decide +kernel
theorem dX12_readSheet_49 : decode cX12_readSheet 49 = .ok (.getfield 17, 3) := by decide +kernel
theorem dX12_readSheet_52 : decode cX12_readSheet 52 = .ok (.bipush 9, 2) := by decide +kernel
theorem dX12_readSheet_54 : decode cX12_readSheet 54 = .ok (.aload_n 0, 1) := by decide +kernel
theorem dX12_readSheet_55 : decode cX12_readSheet 55 = .ok (.getfield 182, 3) := by decide +kernel
theorem dX12_readSheet_58 : decode cX12_readSheet 58 = .ok (.iastore, 1) := by decide +kernel
theorem dX12_readSheet_59 : decode cX12_readSheet 59 = .ok (.aload_n 0, 1) := by decide +kernel
theorem dX12_readSheet_60 : decode cX12_readSheet 60 = .ok (.bipush 10, 2) := by decide +kernel
theorem dX12_readSheet_62 : decode cX12_readSheet 62 = .ok (.sipush 200, 3) := by decide +kernel
theorem dX12_readSheet_65 : decode cX12_readSheet 65 = .ok (.invokevirtual 185, 3) := by decide +kernel
theorem dX12_readSheet_68 : decode cX12_readSheet 68 = .ok (.ifCond .ne 5, 3) := by decide +kernel
theorem dX12_readSheet_71 : decode cX12_readSheet 71 = .ok (.iconst 0, 1) := by decide +kernel
theorem dX12_readSheet_72 : decode cX12_readSheet 72 = .ok (.ireturn, 1) := by decide +kernel
theorem dX12_readSheet_73 : decode cX12_readSheet 73 = .ok (.aload_n 0, 1) := by decide +kernel
theorem dX12_readSheet_74 : decode cX12_readSheet 74 = .ok (.getfield 17, 3) := by decide +kernel
theorem dX12_readSheet_77 : decode cX12_readSheet 77 = .ok (.bipush 10, 2) := by decide +kernel
theorem dX12_readSheet_79 : decode cX12_readSheet 79 = .ok (.aload_n 0, 1) := by decide +kernel
theorem dX12_readSheet_80 : decode cX12_readSheet 80 = .ok (.getfield 182, 3) := by decide +kernel
theorem dX12_readSheet_83 : decode cX12_readSheet 83 = .ok (.iastore, 1) := by decide +kernel
theorem dX12_readSheet_84 : decode cX12_readSheet 84 = .ok (.iconst 1, 1) := by decide +kernel
theorem dX12_readSheet_85 : decode cX12_readSheet 85 = .ok (.ireturn, 1) := by decide +kernel
set_option maxRecDepth 20000 in
theorem sX12_readSheet_0 {P : Option Value → AH → Prop} (h : AH) (r0 : Nat) (hf : (isO h 12 r0) ∧ ((¬ ((((gI h r0 21) >>> (4 &&& 31)) &&& 1) = 1) → (isA h 0 (gF (sI h r0 21 ((gI h r0 21) ||| ((1 : Int32) <<< (4 &&& 31)))) r0 11)) ∧ ((vp_in 11 (ln (gF (sI h r0 21 ((gI h r0 21) ||| ((1 : Int32) <<< (4 &&& 31)))) r0 11))) ∧ (((gI (sI h r0 21 ((gI h r0 21) ||| ((1 : Int32) <<< (4 &&& 31)))) (gF (sI h r0 21 ((gI h r0 21) ||| ((1 : Int32) <<< (4 &&& 31)))) r0 11) (Int32.toNatClampNeg 11)) ≤ 0 → Call mX12_scan [.ref r0] (sI h r0 21 ((gI h r0 21) ||| ((1 : Int32) <<< (4 &&& 31)))) (fun v h6 => v = none ∧ ((isO h6 12 r0) ∧ (Call mX12_readNumber [.ref r0, .int 10, .int 200] h6 (fun v h8 => ∃ z9 : Int32, v = some (.int z9) ∧ ((¬ z9 = 0 → (isO h8 12 r0) ∧ ((isA h8 0 (gF h8 r0 11)) ∧ ((vp_in 9 (ln (gF h8 r0 11))) ∧ (Call mX12_readNumber [.ref r0, .int 10, .int 200] (sI h8 (gF h8 r0 11) (Int32.toNatClampNeg 9) (gI h8 r0 10)) (fun v h14 => ∃ z15 : Int32, v = some (.int z15) ∧ ((¬ z15 = 0 → (isO h14 12 r0) ∧ ((isA h14 0 (gF h14 r0 11)) ∧ ((vp_in 10 (ln (gF h14 r0 11))) ∧ (P (some (.int 1)) (sI h14 (gF h14 r0 11) (Int32.toNatClampNeg 10) (gI h14 r0 10)))))) ∧ (z15 = 0 → P (some (.int 0)) h14))))))) ∧ (z9 = 0 → P (some (.int 0)) h8))))))) ∧ (¬ (gI (sI h r0 21 ((gI h r0 21) ||| ((1 : Int32) <<< (4 &&& 31)))) (gF (sI h r0 21 ((gI h r0 21) ||| ((1 : Int32) <<< (4 &&& 31)))) r0 11) (Int32.toNatClampNeg 11)) ≤ 0 → Call mX12_fails [.ref r0, .int 5] (sI h r0 21 ((gI h r0 21) ||| ((1 : Int32) <<< (4 &&& 31)))) (fun v h20 => ∃ z21 : Int32, v = some (.int z21) ∧ ((z21 = 0 ∨ z21 = 1) ∧ (P (some (.int z21)) h20))))))) ∧ (((((gI h r0 21) >>> (4 &&& 31)) &&& 1) = 1) → Call mX12_fails [.ref r0, .int 3] (sI h r0 21 ((gI h r0 21) ||| ((1 : Int32) <<< (4 &&& 31)))) (fun v h23 => ∃ z24 : Int32, v = some (.int z24) ∧ ((z24 = 0 ∨ z24 = 1) ∧ (P (some (.int z24)) h23)))))) : Rr mX12_readSheet 0 0 0 [(0, .ref r0)] [] h P := by
  refine R_aload_n dX12_readSheet_0 rfl 0 rfl ?_
  refine R_iconst (v := 4) dX12_readSheet_1 (by decide) ?_
  obtain ⟨ob1, hf⟩ := hf
  refine R_callV (ci := 12) (N := mX12_isAgain) (as := [.int 4]) (rest := []) (kc2 := 0) (ks2 := 0) dX12_readSheet_2 lmX12_218 oX12_isAgain (Nat.le_of_ble_eq_true rfl) rfl rfl (Nat.le_of_ble_eq_true rfl) rfl rfl ob1 ok12 (aX12_isAgain ob1 ?_)
  refine R_if_eq_b (tgt := 14) dX12_readSheet_5 (by decide) (fun b2 => ?_) (fun b2 => ?_)
  · have hf := hf.1 b2
    refine R_aload_n dX12_readSheet_14 rfl 0 rfl ?_
    refine G12_11 dX12_readSheet_15 lfX12_17 ob1 ?_
    refine R_bipush (v := 11) dX12_readSheet_18 (by decide) ?_
    obtain ⟨ob3, hf⟩ := hf
    obtain ⟨ob4, hf⟩ := hf
    refine R_iaload dX12_readSheet_20 ob3 ob4 ?_
    refine R_if_le (tgt := 30) dX12_readSheet_21 (by decide) (fun b5 => ?_) (fun b5 => ?_)
    · have hf := hf.1 b5
      refine R_aload_n dX12_readSheet_30 rfl 0 rfl ?_
      refine R_callV (ci := 12) (N := mX12_scan) (as := []) (rest := []) (kc2 := 0) (ks2 := 0) dX12_readSheet_31 lmX12_169 oX12_scan (Nat.le_of_ble_eq_true rfl) rfl rfl (Nat.le_of_ble_eq_true rfl) rfl rfl ob1 ok12 (Call.mono hf ?_)
      rintro _ h6 ⟨rfl, hf⟩
      refine R_aload_n dX12_readSheet_34 rfl 0 rfl ?_
      refine R_bipush (v := 10) dX12_readSheet_35 (by decide) ?_
      refine R_sipush (v := 200) dX12_readSheet_37 (by decide) ?_
      obtain ⟨ob7, hf⟩ := hf
      refine R_callV (ci := 12) (N := mX12_readNumber) (as := [.int 10, .int 200]) (rest := []) (kc2 := 0) (ks2 := 0) dX12_readSheet_40 lmX12_185 oX12_readNumber (Nat.le_of_ble_eq_true rfl) rfl rfl (Nat.le_of_ble_eq_true rfl) rfl rfl ob7 ok12 (Call.mono hf ?_)
      rintro _ h8 ⟨z9, rfl, hf⟩
      refine R_if_ne (tgt := 48) dX12_readSheet_43 (by decide) (fun b10 => ?_) (fun b10 => ?_)
      · have hf := hf.1 b10
        refine R_aload_n dX12_readSheet_48 rfl 0 rfl ?_
        obtain ⟨ob11, hf⟩ := hf
        refine G12_11 dX12_readSheet_49 lfX12_17 ob11 ?_
        refine R_bipush (v := 9) dX12_readSheet_52 (by decide) ?_
        refine R_aload_n dX12_readSheet_54 rfl 0 rfl ?_
        refine G12_10 dX12_readSheet_55 lfX12_182 ob11 ?_
        obtain ⟨ob12, hf⟩ := hf
        obtain ⟨ob13, hf⟩ := hf
        refine R_iastore dX12_readSheet_58 ob12 ob13 ?_
        refine R_aload_n dX12_readSheet_59 rfl 0 rfl ?_
        refine R_bipush (v := 10) dX12_readSheet_60 (by decide) ?_
        refine R_sipush (v := 200) dX12_readSheet_62 (by decide) ?_
        refine R_callV (ci := 12) (N := mX12_readNumber) (as := [.int 10, .int 200]) (rest := []) (kc2 := 0) (ks2 := 0) dX12_readSheet_65 lmX12_185 oX12_readNumber (Nat.le_of_ble_eq_true rfl) rfl rfl (Nat.le_of_ble_eq_true rfl) rfl rfl ob11 ok12 (Call.mono hf ?_)
        rintro _ h14 ⟨z15, rfl, hf⟩
        refine R_if_ne (tgt := 73) dX12_readSheet_68 (by decide) (fun b16 => ?_) (fun b16 => ?_)
        · have hf := hf.1 b16
          refine R_aload_n dX12_readSheet_73 rfl 0 rfl ?_
          obtain ⟨ob17, hf⟩ := hf
          refine G12_11 dX12_readSheet_74 lfX12_17 ob17 ?_
          refine R_bipush (v := 10) dX12_readSheet_77 (by decide) ?_
          refine R_aload_n dX12_readSheet_79 rfl 0 rfl ?_
          refine G12_10 dX12_readSheet_80 lfX12_182 ob17 ?_
          obtain ⟨ob18, hf⟩ := hf
          obtain ⟨ob19, hf⟩ := hf
          refine R_iastore dX12_readSheet_83 ob18 ob19 ?_
          refine R_iconst (v := 1) dX12_readSheet_84 (by decide) ?_
          exact R_iret dX12_readSheet_85 rfl rfl hf
        · have hf := hf.2 b16
          refine R_iconst (v := 0) dX12_readSheet_71 (by decide) ?_
          exact R_iret dX12_readSheet_72 rfl rfl hf
      · have hf := hf.2 b10
        refine R_iconst (v := 0) dX12_readSheet_46 (by decide) ?_
        exact R_iret dX12_readSheet_47 rfl rfl hf
    · have hf := hf.2 b5
      refine R_aload_n dX12_readSheet_24 rfl 0 rfl ?_
      refine R_iconst (v := 5) dX12_readSheet_25 (by decide) ?_
      refine R_callV (ci := 12) (N := mX12_fails) (as := [.int 5]) (rest := []) (kc2 := 0) (ks2 := 0) dX12_readSheet_26 lmX12_175 oX12_fails (Nat.le_of_ble_eq_true rfl) rfl rfl (Nat.le_of_ble_eq_true rfl) rfl rfl ob1 ok12 (Call.mono hf ?_)
      rintro _ h20 ⟨z21, rfl, hf⟩
      obtain ⟨ob22, hf⟩ := hf
      exact R_iret dX12_readSheet_29 rfl (nb_n ob22) hf
  · have hf := hf.2 b2
    refine R_aload_n dX12_readSheet_8 rfl 0 rfl ?_
    refine R_iconst (v := 3) dX12_readSheet_9 (by decide) ?_
    refine R_callV (ci := 12) (N := mX12_fails) (as := [.int 3]) (rest := []) (kc2 := 0) (ks2 := 0) dX12_readSheet_10 lmX12_175 oX12_fails (Nat.le_of_ble_eq_true rfl) rfl rfl (Nat.le_of_ble_eq_true rfl) rfl rfl ob1 ok12 (Call.mono hf ?_)
    rintro _ h23 ⟨z24, rfl, hf⟩
    obtain ⟨ob25, hf⟩ := hf
    exact R_iret dX12_readSheet_13 rfl (nb_n ob25) hf
theorem dX12_readSigned_0 : decode cX12_readSigned 0 = .ok (.aload_n 0, 1) := by decide +kernel
theorem dX12_readSigned_1 : decode cX12_readSigned 1 = .ok (.getfield 152, 3) := by decide +kernel
theorem dX12_readSigned_4 : decode cX12_readSigned 4 = .ok (.iconst 4, 1) := by decide +kernel
theorem dX12_readSigned_5 : decode cX12_readSigned 5 = .ok (.if_icmp .ne 7, 3) := by decide +kernel
theorem dX12_readSigned_8 : decode cX12_readSigned 8 = .ok (.iconst 1, 1) := by decide +kernel
theorem dX12_readSigned_9 : decode cX12_readSigned 9 = .ok (.goto 4, 3) := by decide +kernel
theorem dX12_readSigned_12 : decode cX12_readSigned 12 = .ok (.iconst 0, 1) := by decide +kernel
theorem dX12_readSigned_13 : decode cX12_readSigned 13 = .ok (.istore_n 2, 1) := by decide +kernel
theorem dX12_readSigned_14 : decode cX12_readSigned 14 = .ok (.iload_n 2, 1) := by decide +kernel
theorem dX12_readSigned_15 : decode cX12_readSigned 15 = .ok (.ifCond .eq 7, 3) := by decide +kernel
theorem dX12_readSigned_18 : decode cX12_readSigned 18 = .ok (.aload_n 0, 1) := by decide +kernel
theorem dX12_readSigned_19 : decode cX12_readSigned 19 = .ok (.invokevirtual 169, 3) := by decide +kernel
theorem dX12_readSigned_22 : decode cX12_readSigned 22 = .ok (.aload_n 0, 1) := by decide +kernel
theorem dX12_readSigned_23 : decode cX12_readSigned 23 = .ok (.iconst 0, 1) := by decide +kernel
theorem dX12_readSigned_24 : decode cX12_readSigned 24 = .ok (.iload_n 1, 1) := by decide +kernel
theorem dX12_readSigned_25 : decode cX12_readSigned 25 = .ok (.invokevirtual 185, 3) := by decide +kernel
theorem dX12_readSigned_28 : decode cX12_readSigned 28 = .ok (.ifCond .ne 5, 3) := by decide +kernel
theorem dX12_readSigned_31 : decode cX12_readSigned 31 = .ok (.iconst 0, 1) := by decide +kernel
theorem dX12_readSigned_32 : decode cX12_readSigned 32 = .ok (.ireturn, 1) := by decide +kernel
theorem dX12_readSigned_33 : decode cX12_readSigned 33 = .ok (.aload_n 0, 1) := by decide +kernel
theorem dX12_readSigned_34 : decode cX12_readSigned 34 = .ok (.iload_n 2, 1) := by decide +kernel
theorem dX12_readSigned_35 : decode cX12_readSigned 35 = .ok (.ifCond .eq 11, 3) := by decide +kernel
theorem dX12_readSigned_38 : decode cX12_readSigned 38 = .ok (.aload_n 0, 1) := by decide +kernel
theorem dX12_readSigned_39 : decode cX12_readSigned 39 = .ok (.getfield 182, 3) := by decide +kernel
theorem dX12_readSigned_42 : decode cX12_readSigned 42 = .ok (.ineg, 1) := by decide +kernel
theorem dX12_readSigned_43 : decode cX12_readSigned 43 = .ok (.goto 7, 3) := by decide +kernel
theorem dX12_readSigned_46 : decode cX12_readSigned 46 = .ok (.aload_n 0, 1) := by decide +kernel
theorem dX12_readSigned_47 : decode cX12_readSigned 47 = .ok (.getfield 182, 3) := by decide +kernel
theorem dX12_readSigned_50 : decode cX12_readSigned 50 = .ok (.putfield 182, 3) := by decide +kernel
theorem dX12_readSigned_53 : decode cX12_readSigned 53 = .ok (.iconst 1, 1) := by decide +kernel
theorem dX12_readSigned_54 : decode cX12_readSigned 54 = .ok (.ireturn, 1) := by decide +kernel
set_option maxRecDepth 20000 in
theorem sX12_readSigned_0 {P : Option Value → AH → Prop} (h : AH) (r0 : Nat) (x1 : Int32) (hf : (isO h 12 r0) ∧ ((¬ ((gI h r0 3) = 4) → Call mX12_readNumber [.ref r0, .int 0, .int x1] h (fun v h4 => ∃ z5 : Int32, v = some (.int z5) ∧ ((¬ z5 = 0 → (isO h4 12 r0) ∧ (∀ z9 : Int32, z9 = (if ((gI h r0 3) = 4) then (-(gI h4 r0 10)) else (gI h4 r0 10)) → (P (some (.int 1)) (sI h4 r0 10 z9)))) ∧ (z5 = 0 → P (some (.int 0)) h4)))) ∧ (((gI h r0 3) = 4) → Call mX12_scan [.ref r0] h (fun v h10 => v = none ∧ ((isO h10 12 r0) ∧ (Call mX12_readNumber [.ref r0, .int 0, .int x1] h10 (fun v h12 => ∃ z13 : Int32, v = some (.int z13) ∧ ((¬ z13 = 0 → (isO h12 12 r0) ∧ (∀ z17 : Int32, z17 = (if ((gI h r0 3) = 4) then (-(gI h12 r0 10)) else (gI h12 r0 10)) → (P (some (.int 1)) (sI h12 r0 10 z17)))) ∧ (z13 = 0 → P (some (.int 0)) h12))))))))) : Rr mX12_readSigned 0 0 0 [(0, .ref r0), (1, .int x1)] [] h P := by
  refine R_aload_n dX12_readSigned_0 rfl 0 rfl ?_
  obtain ⟨ob1, hf⟩ := hf
  refine G12_3 dX12_readSigned_1 lfX12_152 ob1 ?_
  refine R_iconst (v := 4) dX12_readSigned_4 (by decide) ?_
  have key :  Rr mX12_readSigned 0 0 13 [(0, .ref r0), (1, .int x1)] [.int (bi ((gI h r0 3) = 4))] h P := by
    refine R_istore_n dX12_readSigned_13 rfl (by decide) rfl ?_
    refine R_iload_n dX12_readSigned_14 rfl 0 rfl ?_
    refine R_if_eq_b (tgt := 22) dX12_readSigned_15 (by decide) (fun b3 => ?_) (fun b3 => ?_)
    · have hf := hf.1 b3
      refine R_aload_n dX12_readSigned_22 rfl 1 rfl ?_
      refine R_iconst (v := 0) dX12_readSigned_23 (by decide) ?_
      refine R_iload_n dX12_readSigned_24 rfl 2 rfl ?_
      refine R_callV (ci := 12) (N := mX12_readNumber) (as := [.int 0, .int x1]) (rest := []) (kc2 := 0) (ks2 := 0) dX12_readSigned_25 lmX12_185 oX12_readNumber (Nat.le_of_ble_eq_true rfl) rfl rfl (Nat.le_of_ble_eq_true rfl) rfl rfl ob1 ok12 (Call.mono hf ?_)
      rintro _ h4 ⟨z5, rfl, hf⟩
      refine R_if_ne (tgt := 33) dX12_readSigned_28 (by decide) (fun b6 => ?_) (fun b6 => ?_)
      · have hf := hf.1 b6
        refine R_aload_n dX12_readSigned_33 rfl 1 rfl ?_
        refine R_iload_n dX12_readSigned_34 rfl 0 rfl ?_
        obtain ⟨ob8, hf⟩ := hf
        have key : ∀ z9 : Int32, z9 = (if ((gI h r0 3) = 4) then (-(gI h4 r0 10)) else (gI h4 r0 10)) → Rr mX12_readSigned 0 0 50 [] [.int z9, .ref r0] h4 P := by
          intro z9 ez9
          have hf := hf z9 ez9
          refine S12_10 dX12_readSigned_50 lfX12_182 ob8 ?_
          refine R_iconst (v := 1) dX12_readSigned_53 (by decide) ?_
          exact R_iret dX12_readSigned_54 rfl rfl hf
        refine R_if_eq_b (tgt := 46) dX12_readSigned_35 (by decide) (fun b7 => ?_) (fun b7 => ?_)
        · refine R_aload_n dX12_readSigned_46 rfl 1 rfl ?_
          refine G12_10 dX12_readSigned_47 lfX12_182 ob8 ?_
          exact R_sub [] rfl (key _ (by rw [if_neg b7]))
        · refine R_aload_n dX12_readSigned_38 rfl 1 rfl ?_
          refine G12_10 dX12_readSigned_39 lfX12_182 ob8 ?_
          refine R_ineg dX12_readSigned_42 ?_
          refine R_goto (tgt := 50) dX12_readSigned_43 (by decide) ?_
          exact R_sub [] rfl (key _ (by rw [if_pos b7]))
      · have hf := hf.2 b6
        refine R_iconst (v := 0) dX12_readSigned_31 (by decide) ?_
        exact R_iret dX12_readSigned_32 rfl rfl hf
    · have hf := hf.2 b3
      refine R_aload_n dX12_readSigned_18 rfl 1 rfl ?_
      refine R_callV (ci := 12) (N := mX12_scan) (as := []) (rest := []) (kc2 := 0) (ks2 := 0) dX12_readSigned_19 lmX12_169 oX12_scan (Nat.le_of_ble_eq_true rfl) rfl rfl (Nat.le_of_ble_eq_true rfl) rfl rfl ob1 ok12 (Call.mono hf ?_)
      rintro _ h10 ⟨rfl, hf⟩
      refine R_aload_n dX12_readSigned_22 rfl 1 rfl ?_
      refine R_iconst (v := 0) dX12_readSigned_23 (by decide) ?_
      refine R_iload_n dX12_readSigned_24 rfl 2 rfl ?_
      obtain ⟨ob11, hf⟩ := hf
      refine R_callV (ci := 12) (N := mX12_readNumber) (as := [.int 0, .int x1]) (rest := []) (kc2 := 0) (ks2 := 0) dX12_readSigned_25 lmX12_185 oX12_readNumber (Nat.le_of_ble_eq_true rfl) rfl rfl (Nat.le_of_ble_eq_true rfl) rfl rfl ob11 ok12 (Call.mono hf ?_)
      rintro _ h12 ⟨z13, rfl, hf⟩
      refine R_if_ne (tgt := 33) dX12_readSigned_28 (by decide) (fun b14 => ?_) (fun b14 => ?_)
      · have hf := hf.1 b14
        refine R_aload_n dX12_readSigned_33 rfl 1 rfl ?_
        refine R_iload_n dX12_readSigned_34 rfl 0 rfl ?_
        obtain ⟨ob16, hf⟩ := hf
        have key : ∀ z17 : Int32, z17 = (if ((gI h r0 3) = 4) then (-(gI h12 r0 10)) else (gI h12 r0 10)) → Rr mX12_readSigned 0 0 50 [] [.int z17, .ref r0] h12 P := by
          intro z17 ez17
          have hf := hf z17 ez17
          refine S12_10 dX12_readSigned_50 lfX12_182 ob16 ?_
          refine R_iconst (v := 1) dX12_readSigned_53 (by decide) ?_
          exact R_iret dX12_readSigned_54 rfl rfl hf
        refine R_if_eq_b (tgt := 46) dX12_readSigned_35 (by decide) (fun b15 => ?_) (fun b15 => ?_)
        · refine R_aload_n dX12_readSigned_46 rfl 1 rfl ?_
          refine G12_10 dX12_readSigned_47 lfX12_182 ob16 ?_
          exact R_sub [] rfl (key _ (by rw [if_neg b15]))
        · refine R_aload_n dX12_readSigned_38 rfl 1 rfl ?_
          refine G12_10 dX12_readSigned_39 lfX12_182 ob16 ?_
          refine R_ineg dX12_readSigned_42 ?_
          refine R_goto (tgt := 50) dX12_readSigned_43 (by decide) ?_
          exact R_sub [] rfl (key _ (by rw [if_pos b15]))
      · have hf := hf.2 b14
        refine R_iconst (v := 0) dX12_readSigned_31 (by decide) ?_
        exact R_iret dX12_readSigned_32 rfl rfl hf
  refine R_icmp_ne (tgt := 12) dX12_readSigned_5 (by decide) (fun b2 => ?_) (fun b2 => ?_)
  · refine R_iconst (v := 0) dX12_readSigned_12 (by decide) ?_
    have kb := key
    rw [show bi ((gI h r0 3) = 4) = 0 from by simp only [bi, b2, false_and, and_false, true_and, and_true, not_true_eq_false, not_false_eq_true, if_true, if_false, true_or, or_true, false_or, or_false, reduceIte]] at kb
    exact R_sub [0, 1] rfl kb
  · refine R_iconst (v := 1) dX12_readSigned_8 (by decide) ?_
    refine R_goto (tgt := 13) dX12_readSigned_9 (by decide) ?_
    have kb := key
    rw [show bi ((gI h r0 3) = 4) = 1 from by simp only [bi, b2, false_and, and_false, true_and, and_true, not_true_eq_false, not_false_eq_true, if_true, if_false, true_or, or_true, false_or, or_false, reduceIte]] at kb
    exact R_sub [0, 1] rfl kb
theorem dX12_tissue_0 : decode cX12_tissue 0 = .ok (.aload_n 0, 1) := by decide +kernel
theorem dX12_tissue_1 : decode cX12_tissue 1 = .ok (.invokevirtual 250, 3) := by decide +kernel
theorem dX12_tissue_4 : decode cX12_tissue 4 = .ok (.iload_n 1, 1) := by decide +kernel
theorem dX12_tissue_5 : decode cX12_tissue 5 = .ok (.iconst 1, 1) := by decide +kernel
theorem dX12_tissue_6 : decode cX12_tissue 6 = .ok (.bipush 20, 2) := by decide +kernel
theorem dX12_tissue_8 : decode cX12_tissue 8 = .ok (.invokestatic 178, 3) := by decide +kernel
theorem dX12_tissue_11 : decode cX12_tissue 11 = .ok (.ifCond .eq 23, 3) := by decide +kernel
theorem dX12_tissue_14 : decode cX12_tissue 14 = .ok (.iload_n 2, 1) := by decide +kernel
theorem dX12_tissue_15 : decode cX12_tissue 15 = .ok (.iconst 0, 1) := by decide +kernel
theorem dX12_tissue_16 : decode cX12_tissue 16 = .ok (.bipush 120, 2) := by decide +kernel
theorem dX12_tissue_18 : decode cX12_tissue 18 = .ok (.invokestatic 178, 3) := by decide +kernel
theorem dX12_tissue_21 : decode cX12_tissue 21 = .ok (.ifCond .eq 13, 3) := by decide +kernel
theorem dX12_tissue_24 : decode cX12_tissue 24 = .ok (.iload_n 3, 1) := by decide +kernel
theorem dX12_tissue_25 : decode cX12_tissue 25 = .ok (.iconst 0, 1) := by decide +kernel
theorem dX12_tissue_26 : decode cX12_tissue 26 = .ok (.bipush 20, 2) := by decide +kernel
theorem dX12_tissue_28 : decode cX12_tissue 28 = .ok (.invokestatic 178, 3) := by decide +kernel
theorem dX12_tissue_31 : decode cX12_tissue 31 = .ok (.ifCond .ne 6, 3) := by decide +kernel
theorem dX12_tissue_34 : decode cX12_tissue 34 = .ok (.bipush (-2), 2) := by decide +kernel
theorem dX12_tissue_36 : decode cX12_tissue 36 = .ok (.ireturn, 1) := by decide +kernel
theorem dX12_tissue_37 : decode cX12_tissue 37 = .ok (.iconst 0, 1) := by decide +kernel
theorem dX12_tissue_38 : decode cX12_tissue 38 = .ok (.istore 4, 2) := by decide +kernel
theorem dX12_tissue_40 : decode cX12_tissue 40 = .ok (.aload_n 0, 1) := by decide +kernel
theorem dX12_tissue_41 : decode cX12_tissue 41 = .ok (.getfield 152, 3) := by decide +kernel
theorem dX12_tissue_44 : decode cX12_tissue 44 = .ok (.iconst 2, 1) := by decide +kernel
theorem dX12_tissue_45 : decode cX12_tissue 45 = .ok (.if_icmp .ne 42, 3) := by decide +kernel
theorem dX12_tissue_48 : decode cX12_tissue 48 = .ok (.aload_n 0, 1) := by decide +kernel
theorem dX12_tissue_49 : decode cX12_tissue 49 = .ok (.getfield 166, 3) := by decide +kernel
theorem dX12_tissue_52 : decode cX12_tissue 52 = .ok (.bipush 99, 2) := by decide +kernel
theorem dX12_tissue_54 : decode cX12_tissue 54 = .ok (.if_icmp .gt 10, 3) := by decide +kernel
theorem dX12_tissue_57 : decode cX12_tissue 57 = .ok (.iload 4, 2) := by decide +kernel
theorem dX12_tissue_59 : decode cX12_tissue 59 = .ok (.bipush 20, 2) := by decide +kernel
theorem dX12_tissue_61 : decode cX12_tissue 61 = .ok (.if_icmp .ne 5, 3) := by decide +kernel
theorem dX12_tissue_64 : decode cX12_tissue 64 = .ok (.iconst (-1), 1) := by decide +kernel
theorem dX12_tissue_65 : decode cX12_tissue 65 = .ok (.ireturn, 1) := by decide +kernel
theorem dX12_tissue_66 : decode cX12_tissue 66 = .ok (.aload_n 0, 1) := by decide +kernel
theorem dX12_tissue_67 : decode cX12_tissue 67 = .ok (.getfield 99, 3) := by decide +kernel
theorem dX12_tissue_70 : decode cX12_tissue 70 = .ok (.iload 4, 2) := by decide +kernel
theorem dX12_tissue_72 : decode cX12_tissue 72 = .ok (.aload_n 0, 1) := by decide +kernel
theorem dX12_tissue_73 : decode cX12_tissue 73 = .ok (.getfield 166, 3) := by decide +kernel
theorem dX12_tissue_76 : decode cX12_tissue 76 = .ok (.iastore, 1) := by decide +kernel
theorem dX12_tissue_77 : decode cX12_tissue 77 = .ok (.iinc 4 1, 3) := by decide +kernel
theorem dX12_tissue_80 : decode cX12_tissue 80 = .ok (.aload_n 0, 1) := by decide +kernel
theorem dX12_tissue_81 : decode cX12_tissue 81 = .ok (.invokevirtual 169, 3) := by decide +kernel
theorem dX12_tissue_84 : decode cX12_tissue 84 = .ok (.goto (-44), 3) := by decide +kernel
theorem dX12_tissue_87 : decode cX12_tissue 87 = .ok (.aload_n 0, 1) := by decide +kernel
theorem dX12_tissue_88 : decode cX12_tissue 88 = .ok (.getfield 152, 3) := by decide +kernel
theorem dX12_tissue_91 : decode cX12_tissue 91 = .ok (.iconst 5, 1) := by decide +kernel
theorem dX12_tissue_92 : decode cX12_tissue 92 = .ok (.if_icmp .ne 8, 3) := by decide +kernel
theorem dX12_tissue_95 : decode cX12_tissue 95 = .ok (.iload 4, 2) := by decide +kernel
theorem dX12_tissue_97 : decode cX12_tissue 97 = .ok (.ifCond .ne 5, 3) := by decide +kernel
theorem dX12_tissue_100 : decode cX12_tissue 100 = .ok (.iconst (-1), 1) := by decide +kernel
theorem dX12_tissue_101 : decode cX12_tissue 101 = .ok (.ireturn, 1) := by decide +kernel
theorem dX12_tissue_102 : decode cX12_tissue 102 = .ok (.iconst 0, 1) := by decide +kernel
theorem dX12_tissue_103 : decode cX12_tissue 103 = .ok (.istore 5, 2) := by decide +kernel
theorem dX12_tissue_105 : decode cX12_tissue 105 = .ok (.iload 5, 2) := by decide +kernel
theorem dX12_tissue_107 : decode cX12_tissue 107 = .ok (.bipush 9, 2) := by decide +kernel
theorem dX12_tissue_109 : decode cX12_tissue 109 = .ok (.if_icmp .gt 23, 3) := by decide +kernel
theorem dX12_tissue_112 : decode cX12_tissue 112 = .ok (.aload_n 0, 1) := by decide +kernel
theorem dX12_tissue_113 : decode cX12_tissue 113 = .ok (.getfield 109, 3) := by decide +kernel
theorem dX12_tissue_116 : decode cX12_tissue 116 = .ok (.bipush 10, 2) := by decide +kernel
theorem dX12_tissue_118 : decode cX12_tissue 118 = .ok (.iload 4, 2) := by decide +kernel
theorem dX12_tissue_120 : decode cX12_tissue 120 = .ok (.imul, 1) := by decide +kernel
theorem dX12_tissue_121 : decode cX12_tissue 121 = .ok (.iload 5, 2) := by decide +kernel
theorem dX12_tissue_123 : decode cX12_tissue 123 = .ok (.iadd, 1) := by decide +kernel
theorem dX12_tissue_124 : decode cX12_tissue 124 = .ok (.iconst 0, 1) := by decide +kernel
theorem dX12_tissue_125 : decode cX12_tissue 125 = .ok (.iastore, 1) := by decide +kernel
theorem dX12_tissue_126 : decode cX12_tissue 126 = .ok (.iinc 5 1, 3) := by decide +kernel
theorem dX12_tissue_129 : decode cX12_tissue 129 = .ok (.goto (-24), 3) := by decide +kernel
theorem dX12_tissue_132 : decode cX12_tissue 132 = .ok (.iload 4, 2) := by decide +kernel
theorem dX12_tissue_134 : decode cX12_tissue 134 = .ok (.iconst 1, 1) := by decide +kernel
theorem dX12_tissue_135 : decode cX12_tissue 135 = .ok (.isub, 1) := by decide +kernel
theorem dX12_tissue_136 : decode cX12_tissue 136 = .ok (.istore 5, 2) := by decide +kernel
theorem dX12_tissue_138 : decode cX12_tissue 138 = .ok (.iload 5, 2) := by decide +kernel
theorem dX12_tissue_140 : decode cX12_tissue 140 = .ok (.ifCond .lt 173, 3) := by decide +kernel
theorem dX12_tissue_143 : decode cX12_tissue 143 = .ok (.iconst 0, 1) := by decide +kernel
theorem dX12_tissue_144 : decode cX12_tissue 144 = .ok (.istore 6, 2) := by decide +kernel
theorem dX12_tissue_146 : decode cX12_tissue 146 = .ok (.iload 6, 2) := by decide +kernel
theorem dX12_tissue_148 : decode cX12_tissue 148 = .ok (.bipush 9, 2) := by decide +kernel
theorem dX12_tissue_150 : decode cX12_tissue 150 = .ok (.if_icmp .gt 157, 3) := by decide +kernel
theorem dX12_tissue_153 : decode cX12_tissue 153 = .ok (.aload_n 0, 1) := by decide +kernel
theorem dX12_tissue_154 : decode cX12_tissue 154 = .ok (.getfield 99, 3) := by decide +kernel
theorem dX12_tissue_157 : decode cX12_tissue 157 = .ok (.iload 5, 2) := by decide +kernel
theorem dX12_tissue_159 : decode cX12_tissue 159 = .ok (.iaload, 1) := by decide +kernel
theorem dX12_tissue_160 : decode cX12_tissue 160 = .ok (.iload 6, 2) := by decide +kernel
theorem dX12_tissue_162 : decode cX12_tissue 162 = .ok (.iload_n 1, 1) := by decide +kernel
theorem dX12_tissue_163 : decode cX12_tissue 163 = .ok (.imul, 1) := by decide +kernel
theorem dX12_tissue_164 : decode cX12_tissue 164 = .ok (.iadd, 1) := by decide +kernel
theorem dX12_tissue_165 : decode cX12_tissue 165 = .ok (.iload_n 2, 1) := by decide +kernel
theorem dX12_tissue_166 : decode cX12_tissue 166 = .ok (.iload_n 3, 1) := by decide +kernel
theorem dX12_tissue_167 : decode cX12_tissue 167 = .ok (.isub, 1) := by decide +kernel
theorem dX12_tissue_168 : decode cX12_tissue 168 = .ok (.iload_n 2, 1) := by decide +kernel
theorem dX12_tissue_169 : decode cX12_tissue 169 = .ok (.iload_n 3, 1) := by decide +kernel
theorem dX12_tissue_170 : decode cX12_tissue 170 = .ok (.iadd, 1) := by decide +kernel
theorem dX12_tissue_171 : decode cX12_tissue 171 = .ok (.invokestatic 178, 3) := by decide +kernel
theorem dX12_tissue_174 : decode cX12_tissue 174 = .ok (.istore 7, 2) := by decide +kernel
theorem dX12_tissue_176 : decode cX12_tissue 176 = .ok (.ldc_w 361, 3) := by decide +kernel
theorem dX12_tissue_179 : decode cX12_tissue 179 = .ok (.istore 8, 2) := by decide +kernel
theorem dX12_tissue_181 : decode cX12_tissue 181 = .ok (.iconst 0, 1) := by decide +kernel
theorem dX12_tissue_182 : decode cX12_tissue 182 = .ok (.istore 9, 2) := by decide +kernel
theorem dX12_tissue_184 : decode cX12_tissue 184 = .ok (.iload 9, 2) := by decide +kernel
theorem dX12_tissue_186 : decode cX12_tissue 186 = .ok (.bipush 9, 2) := by decide +kernel
theorem dX12_tissue_188 : decode cX12_tissue 188 = .ok (.if_icmp .gt 81, 3) := by decide +kernel
theorem dX12_tissue_191 : decode cX12_tissue 191 = .ok (.iload 7, 2) := by decide +kernel
theorem dX12_tissue_193 : decode cX12_tissue 193 = .ok (.ifCond .eq 76, 3) := by decide +kernel
theorem dX12_tissue_196 : decode cX12_tissue 196 = .ok (.iload 5, 2) := by decide +kernel
theorem dX12_tissue_198 : decode cX12_tissue 198 = .ok (.iload 4, 2) := by decide +kernel
theorem dX12_tissue_200 : decode cX12_tissue 200 = .ok (.iconst 1, 1) := by decide +kernel
theorem dX12_tissue_201 : decode cX12_tissue 201 = .ok (.isub, 1) := by decide +kernel
theorem dX12_tissue_202 : decode cX12_tissue 202 = .ok (.if_icmp .ne 7, 3) := by decide +kernel
theorem dX12_tissue_205 : decode cX12_tissue 205 = .ok (.iconst 0, 1) := by decide +kernel
theorem dX12_tissue_206 : decode cX12_tissue 206 = .ok (.goto 39, 3) := by decide +kernel
theorem dX12_tissue_209 : decode cX12_tissue 209 = .ok (.iload 9, 2) := by decide +kernel
theorem dX12_tissue_211 : decode cX12_tissue 211 = .ok (.iload 6, 2) := by decide +kernel
theorem dX12_tissue_213 : decode cX12_tissue 213 = .ok (.if_icmp .le 15, 3) := by decide +kernel
theorem dX12_tissue_216 : decode cX12_tissue 216 = .ok (.sipush 1000, 3) := by decide +kernel
theorem dX12_tissue_219 : decode cX12_tissue 219 = .ok (.iload 9, 2) := by decide +kernel
theorem dX12_tissue_221 : decode cX12_tissue 221 = .ok (.iload 6, 2) := by decide +kernel
theorem dX12_tissue_223 : decode cX12_tissue 223 = .ok (.isub, 1) := by decide +kernel
theorem dX12_tissue_224 : decode cX12_tissue 224 = .ok (.imul, 1) := by decide +kernel
theorem dX12_tissue_225 : decode cX12_tissue 225 = .ok (.goto 4, 3) := by decide +kernel
theorem dX12_tissue_228 : decode cX12_tissue 228 = .ok (.iconst 0, 1) := by decide +kernel
theorem dX12_tissue_229 : decode cX12_tissue 229 = .ok (.aload_n 0, 1) := by decide +kernel
theorem dX12_tissue_230 : decode cX12_tissue 230 = .ok (.getfield 109, 3) := by decide +kernel
theorem dX12_tissue_233 : decode cX12_tissue 233 = .ok (.bipush 10, 2) := by decide +kernel
theorem dX12_tissue_235 : decode cX12_tissue 235 = .ok (.iload 5, 2) := by decide +kernel
theorem dX12_tissue_237 : decode cX12_tissue 237 = .ok (.iconst 1, 1) := by decide +kernel
theorem dX12_tissue_238 : decode cX12_tissue 238 = .ok (.iadd, 1) := by decide +kernel
theorem dX12_tissue_239 : decode cX12_tissue 239 = .ok (.imul, 1) := by decide +kernel
theorem dX12_tissue_240 : decode cX12_tissue 240 = .ok (.iload 9, 2) := by decide +kernel
theorem dX12_tissue_242 : decode cX12_tissue 242 = .ok (.iadd, 1) := by decide +kernel
theorem dX12_tissue_243 : decode cX12_tissue 243 = .ok (.iaload, 1) := by decide +kernel
theorem dX12_tissue_244 : decode cX12_tissue 244 = .ok (.iadd, 1) := by decide +kernel
theorem dX12_tissue_245 : decode cX12_tissue 245 = .ok (.istore 10, 2) := by decide +kernel
theorem dX12_tissue_247 : decode cX12_tissue 247 = .ok (.iload 10, 2) := by decide +kernel
theorem dX12_tissue_249 : decode cX12_tissue 249 = .ok (.iload 8, 2) := by decide +kernel
theorem dX12_tissue_251 : decode cX12_tissue 251 = .ok (.if_icmp .ge 8, 3) := by decide +kernel
theorem dX12_tissue_254 : decode cX12_tissue 254 = .ok (.iload 10, 2) := by decide +kernel
theorem dX12_tissue_256 : decode cX12_tissue 256 = .ok (.goto 5, 3) := by decide +kernel
theorem dX12_tissue_259 : decode cX12_tissue 259 = .ok (.iload 8, 2) := by decide +kernel
theorem dX12_tissue_261 : decode cX12_tissue 261 = .ok (.istore 8, 2) := by decide +kernel
theorem dX12_tissue_263 : decode cX12_tissue 263 = .ok (.iinc 9 1, 3) := by decide +kernel
theorem dX12_tissue_266 : decode cX12_tissue 266 = .ok (.goto (-82), 3) := by decide +kernel
theorem dX12_tissue_269 : decode cX12_tissue 269 = .ok (.aload_n 0, 1) := by decide +kernel
theorem dX12_tissue_270 : decode cX12_tissue 270 = .ok (.getfield 109, 3) := by decide +kernel
theorem dX12_tissue_273 : decode cX12_tissue 273 = .ok (.bipush 10, 2) := by decide +kernel
theorem dX12_tissue_275 : decode cX12_tissue 275 = .ok (.iload 5, 2) := by decide +kernel
theorem dX12_tissue_277 : decode cX12_tissue 277 = .ok (.imul, 1) := by decide +kernel
theorem dX12_tissue_278 : decode cX12_tissue 278 = .ok (.iload 6, 2) := by decide +kernel
theorem dX12_tissue_280 : decode cX12_tissue 280 = .ok (.iadd, 1) := by decide +kernel
theorem dX12_tissue_281 : decode cX12_tissue 281 = .ok (.iload 8, 2) := by decide +kernel
theorem dX12_tissue_283 : decode cX12_tissue 283 = .ok (.ldc_w 361, 3) := by decide +kernel
theorem dX12_tissue_286 : decode cX12_tissue 286 = .ok (.if_icmp .lt 9, 3) := by decide +kernel
theorem dX12_tissue_289 : decode cX12_tissue 289 = .ok (.ldc_w 361, 3) := by decide +kernel
theorem dX12_tissue_292 : decode cX12_tissue 292 = .ok (.goto 8, 3) := by decide +kernel
theorem dX12_tissue_295 : decode cX12_tissue 295 = .ok (.iload 6, 2) := by decide +kernel
theorem dX12_tissue_297 : decode cX12_tissue 297 = .ok (.iload 8, 2) := by decide +kernel
theorem dX12_tissue_299 : decode cX12_tissue 299 = .ok (.iadd, 1) := by decide +kernel
theorem dX12_tissue_300 : decode cX12_tissue 300 = .ok (.iastore, 1) := by decide +kernel
theorem dX12_tissue_301 : decode cX12_tissue 301 = .ok (.iinc 6 1, 3) := by decide +kernel
theorem dX12_tissue_304 : decode cX12_tissue 304 = .ok (.goto (-158), 3) := by decide +kernel
theorem dX12_tissue_307 : decode cX12_tissue 307 = .ok (.iinc 5 (-1), 3) := by decide +kernel
theorem dX12_tissue_310 : decode cX12_tissue 310 = .ok (.goto (-172), 3) := by decide +kernel
theorem dX12_tissue_313 : decode cX12_tissue 313 = .ok (.iconst 0, 1) := by decide +kernel
theorem dX12_tissue_314 : decode cX12_tissue 314 = .ok (.istore 5, 2) := by decide +kernel
theorem dX12_tissue_316 : decode cX12_tissue 316 = .ok (.ldc_w 361, 3) := by decide +kernel
theorem dX12_tissue_319 : decode cX12_tissue 319 = .ok (.istore 6, 2) := by decide +kernel
theorem dX12_tissue_321 : decode cX12_tissue 321 = .ok (.iconst 0, 1) := by decide +kernel
theorem dX12_tissue_322 : decode cX12_tissue 322 = .ok (.istore 7, 2) := by decide +kernel
theorem dX12_tissue_324 : decode cX12_tissue 324 = .ok (.iload 7, 2) := by decide +kernel
theorem dX12_tissue_326 : decode cX12_tissue 326 = .ok (.bipush 9, 2) := by decide +kernel
theorem dX12_tissue_328 : decode cX12_tissue 328 = .ok (.if_icmp .gt 49, 3) := by decide +kernel
theorem dX12_tissue_331 : decode cX12_tissue 331 = .ok (.sipush 1000, 3) := by decide +kernel
theorem dX12_tissue_334 : decode cX12_tissue 334 = .ok (.iload 7, 2) := by decide +kernel
theorem dX12_tissue_336 : decode cX12_tissue 336 = .ok (.imul, 1) := by decide +kernel
theorem dX12_tissue_337 : decode cX12_tissue 337 = .ok (.aload_n 0, 1) := by decide +kernel
theorem dX12_tissue_338 : decode cX12_tissue 338 = .ok (.getfield 109, 3) := by decide +kernel
theorem dX12_tissue_341 : decode cX12_tissue 341 = .ok (.iload 7, 2) := by decide +kernel
theorem dX12_tissue_343 : decode cX12_tissue 343 = .ok (.iaload, 1) := by decide +kernel
theorem dX12_tissue_344 : decode cX12_tissue 344 = .ok (.iadd, 1) := by decide +kernel
theorem dX12_tissue_345 : decode cX12_tissue 345 = .ok (.iload 6, 2) := by decide +kernel
theorem dX12_tissue_347 : decode cX12_tissue 347 = .ok (.if_icmp .ge 20, 3) := by decide +kernel
theorem dX12_tissue_350 : decode cX12_tissue 350 = .ok (.sipush 1000, 3) := by decide +kernel
theorem dX12_tissue_353 : decode cX12_tissue 353 = .ok (.iload 7, 2) := by decide +kernel
theorem dX12_tissue_355 : decode cX12_tissue 355 = .ok (.imul, 1) := by decide +kernel
theorem dX12_tissue_356 : decode cX12_tissue 356 = .ok (.aload_n 0, 1) := by decide +kernel
theorem dX12_tissue_357 : decode cX12_tissue 357 = .ok (.getfield 109, 3) := by decide +kernel
theorem dX12_tissue_360 : decode cX12_tissue 360 = .ok (.iload 7, 2) := by decide +kernel
theorem dX12_tissue_362 : decode cX12_tissue 362 = .ok (.iaload, 1) := by decide +kernel
theorem dX12_tissue_363 : decode cX12_tissue 363 = .ok (.iadd, 1) := by decide +kernel
theorem dX12_tissue_364 : decode cX12_tissue 364 = .ok (.goto 5, 3) := by decide +kernel
theorem dX12_tissue_367 : decode cX12_tissue 367 = .ok (.iload 6, 2) := by decide +kernel
theorem dX12_tissue_369 : decode cX12_tissue 369 = .ok (.istore 6, 2) := by decide +kernel
theorem dX12_tissue_371 : decode cX12_tissue 371 = .ok (.iinc 7 1, 3) := by decide +kernel
theorem dX12_tissue_374 : decode cX12_tissue 374 = .ok (.goto (-50), 3) := by decide +kernel
theorem dX12_tissue_377 : decode cX12_tissue 377 = .ok (.iload 6, 2) := by decide +kernel
theorem dX12_tissue_379 : decode cX12_tissue 379 = .ok (.ldc_w 361, 3) := by decide +kernel
theorem dX12_tissue_382 : decode cX12_tissue 382 = .ok (.if_icmp .lt 5, 3) := by decide +kernel
theorem dX12_tissue_385 : decode cX12_tissue 385 = .ok (.iconst (-1), 1) := by decide +kernel
theorem dX12_tissue_386 : decode cX12_tissue 386 = .ok (.ireturn, 1) := by decide +kernel
theorem dX12_tissue_387 : decode cX12_tissue 387 = .ok (.iload 6, 2) := by decide +kernel
theorem dX12_tissue_389 : decode cX12_tissue 389 = .ok (.istore 7, 2) := by decide +kernel
theorem dX12_tissue_391 : decode cX12_tissue 391 = .ok (.iconst 0, 1) := by decide +kernel
theorem dX12_tissue_392 : decode cX12_tissue 392 = .ok (.istore 8, 2) := by decide +kernel
theorem dX12_tissue_394 : decode cX12_tissue 394 = .ok (.iload 8, 2) := by decide +kernel
theorem dX12_tissue_396 : decode cX12_tissue 396 = .ok (.iload 4, 2) := by decide +kernel
theorem dX12_tissue_398 : decode cX12_tissue 398 = .ok (.if_icmp .ge 88, 3) := by decide +kernel
theorem dX12_tissue_401 : decode cX12_tissue 401 = .ok (.iconst 0, 1) := by decide +kernel
theorem dX12_tissue_402 : decode cX12_tissue 402 = .ok (.istore 9, 2) := by decide +kernel
theorem dX12_tissue_404 : decode cX12_tissue 404 = .ok (.iload 9, 2) := by decide +kernel
theorem dX12_tissue_406 : decode cX12_tissue 406 = .ok (.iload 5, 2) := by decide +kernel
theorem dX12_tissue_408 : decode cX12_tissue 408 = .ok (.if_icmp .le 15, 3) := by decide +kernel
theorem dX12_tissue_411 : decode cX12_tissue 411 = .ok (.sipush 1000, 3) := by decide +kernel
theorem dX12_tissue_414 : decode cX12_tissue 414 = .ok (.iload 9, 2) := by decide +kernel
theorem dX12_tissue_416 : decode cX12_tissue 416 = .ok (.iload 5, 2) := by decide +kernel
theorem dX12_tissue_418 : decode cX12_tissue 418 = .ok (.isub, 1) := by decide +kernel
theorem dX12_tissue_419 : decode cX12_tissue 419 = .ok (.imul, 1) := by decide +kernel
theorem dX12_tissue_420 : decode cX12_tissue 420 = .ok (.goto 4, 3) := by decide +kernel
theorem dX12_tissue_423 : decode cX12_tissue 423 = .ok (.iconst 0, 1) := by decide +kernel
theorem dX12_tissue_424 : decode cX12_tissue 424 = .ok (.aload_n 0, 1) := by decide +kernel
theorem dX12_tissue_425 : decode cX12_tissue 425 = .ok (.getfield 109, 3) := by decide +kernel
theorem dX12_tissue_428 : decode cX12_tissue 428 = .ok (.bipush 10, 2) := by decide +kernel
theorem dX12_tissue_430 : decode cX12_tissue 430 = .ok (.iload 8, 2) := by decide +kernel
theorem dX12_tissue_432 : decode cX12_tissue 432 = .ok (.imul, 1) := by decide +kernel
theorem dX12_tissue_433 : decode cX12_tissue 433 = .ok (.iload 9, 2) := by decide +kernel
theorem dX12_tissue_435 : decode cX12_tissue 435 = .ok (.iadd, 1) := by decide +kernel
theorem dX12_tissue_436 : decode cX12_tissue 436 = .ok (.iaload, 1) := by decide +kernel
theorem dX12_tissue_437 : decode cX12_tissue 437 = .ok (.iadd, 1) := by decide +kernel
theorem dX12_tissue_438 : decode cX12_tissue 438 = .ok (.iload 7, 2) := by decide +kernel
theorem dX12_tissue_440 : decode cX12_tissue 440 = .ok (.if_icmp .eq 9, 3) := by decide +kernel
theorem dX12_tissue_443 : decode cX12_tissue 443 = .ok (.iinc 9 1, 3) := by decide +kernel
theorem dX12_tissue_446 : decode cX12_tissue 446 = .ok (.goto (-42), 3) := by decide +kernel
theorem dX12_tissue_449 : decode cX12_tissue 449 = .ok (.aload_n 0, 1) := by decide +kernel
theorem dX12_tissue_450 : decode cX12_tissue 450 = .ok (.getfield 106, 3) := by decide +kernel
theorem dX12_tissue_453 : decode cX12_tissue 453 = .ok (.iload 8, 2) := by decide +kernel
theorem dX12_tissue_455 : decode cX12_tissue 455 = .ok (.iload 9, 2) := by decide +kernel
theorem dX12_tissue_457 : decode cX12_tissue 457 = .ok (.iastore, 1) := by decide +kernel
theorem dX12_tissue_458 : decode cX12_tissue 458 = .ok (.aload_n 0, 1) := by decide +kernel
theorem dX12_tissue_459 : decode cX12_tissue 459 = .ok (.getfield 109, 3) := by decide +kernel
theorem dX12_tissue_462 : decode cX12_tissue 462 = .ok (.bipush 10, 2) := by decide +kernel
theorem dX12_tissue_464 : decode cX12_tissue 464 = .ok (.iload 8, 2) := by decide +kernel
theorem dX12_tissue_466 : decode cX12_tissue 466 = .ok (.imul, 1) := by decide +kernel
theorem dX12_tissue_467 : decode cX12_tissue 467 = .ok (.iload 9, 2) := by decide +kernel
theorem dX12_tissue_469 : decode cX12_tissue 469 = .ok (.iadd, 1) := by decide +kernel
theorem dX12_tissue_470 : decode cX12_tissue 470 = .ok (.iaload, 1) := by decide +kernel
theorem dX12_tissue_471 : decode cX12_tissue 471 = .ok (.iload 9, 2) := by decide +kernel
theorem dX12_tissue_473 : decode cX12_tissue 473 = .ok (.isub, 1) := by decide +kernel
theorem dX12_tissue_474 : decode cX12_tissue 474 = .ok (.istore 7, 2) := by decide +kernel
theorem dX12_tissue_476 : decode cX12_tissue 476 = .ok (.iload 9, 2) := by decide +kernel
theorem dX12_tissue_478 : decode cX12_tissue 478 = .ok (.istore 5, 2) := by decide +kernel
theorem dX12_tissue_480 : decode cX12_tissue 480 = .ok (.iinc 8 1, 3) := by decide +kernel
theorem dX12_tissue_483 : decode cX12_tissue 483 = .ok (.goto (-89), 3) := by decide +kernel
theorem dX12_tissue_486 : decode cX12_tissue 486 = .ok (.aload_n 0, 1) := by decide +kernel
theorem dX12_tissue_487 : decode cX12_tissue 487 = .ok (.iload 4, 2) := by decide +kernel
theorem dX12_tissue_489 : decode cX12_tissue 489 = .ok (.putfield 215, 3) := by decide +kernel
theorem dX12_tissue_492 : decode cX12_tissue 492 = .ok (.iload 6, 2) := by decide +kernel
theorem dX12_tissue_494 : decode cX12_tissue 494 = .ok (.sipush 1000, 3) := by decide +kernel
theorem dX12_tissue_497 : decode cX12_tissue 497 = .ok (.idiv, 1) := by decide +kernel
theorem dX12_tissue_498 : decode cX12_tissue 498 = .ok (.ireturn, 1) := by decide +kernel
set_option maxRecDepth 20000 in
theorem sX12_tissue_0 {P : Option Value → AH → Prop} (h : AH) (r0 : Nat) (x1 : Int32) (x2 : Int32) (x3 : Int32) (hf : (isO h 12 r0) ∧ (Call mX12_start [.ref r0] h (fun v h2 => v = none ∧ ((¬ (¬ x1 < 1 ∧ ¬ 20 < x1) → P (some (.int (-2))) h2) ∧ ((¬ x1 < 1 ∧ ¬ 20 < x1) → (¬ (¬ x2 < 0 ∧ ¬ 120 < x2) → P (some (.int (-2))) h2) ∧ ((¬ x2 < 0 ∧ ¬ 120 < x2) → ((¬ x3 < 0 ∧ ¬ 20 < x3) → Rr mX12_tissue 0 0 40 [(0, .ref r0), (1, .int x1), (2, .int x2), (3, .int x3), (4, .int 0)] [] h2 P) ∧ (¬ (¬ x3 < 0 ∧ ¬ 20 < x3) → P (some (.int (-2))) h2))))))) : Rr mX12_tissue 0 0 0 [(0, .ref r0), (1, .int x1), (2, .int x2), (3, .int x3)] [] h P := by
  refine R_aload_n dX12_tissue_0 rfl 0 rfl ?_
  obtain ⟨ob1, hf⟩ := hf
  refine R_callV (ci := 12) (N := mX12_start) (as := []) (rest := []) (kc2 := 0) (ks2 := 0) dX12_tissue_1 lmX12_250 oX12_start (Nat.le_of_ble_eq_true rfl) rfl rfl (Nat.le_of_ble_eq_true rfl) rfl rfl ob1 ok12 (Call.mono hf ?_)
  rintro _ h2 ⟨rfl, hf⟩
  refine R_iload_n dX12_tissue_4 rfl 1 rfl ?_
  refine R_iconst (v := 1) dX12_tissue_5 (by decide) ?_
  refine R_bipush (v := 20) dX12_tissue_6 (by decide) ?_
  refine R_callS (N := mX12_in) (as := [.int x1, .int 1, .int 20]) (rest := []) (kc2 := 0) (ks2 := 0) dX12_tissue_8 lmX12_178 oX12_in (Nat.le_of_ble_eq_true rfl) rfl rfl (Nat.le_of_ble_eq_true rfl) rfl rfl (aX12_in  ?_)
  refine R_if_eq_b (tgt := 34) dX12_tissue_11 (by decide) (fun b3 => ?_) (fun b3 => ?_)
  · have hf := hf.1 b3
    refine R_bipush (v := (-2)) dX12_tissue_34 (by decide) ?_
    exact R_iret dX12_tissue_36 rfl rfl hf
  · have hf := hf.2 b3
    refine R_iload_n dX12_tissue_14 rfl 2 rfl ?_
    refine R_iconst (v := 0) dX12_tissue_15 (by decide) ?_
    refine R_bipush (v := 120) dX12_tissue_16 (by decide) ?_
    refine R_callS (N := mX12_in) (as := [.int x2, .int 0, .int 120]) (rest := []) (kc2 := 0) (ks2 := 0) dX12_tissue_18 lmX12_178 oX12_in (Nat.le_of_ble_eq_true rfl) rfl rfl (Nat.le_of_ble_eq_true rfl) rfl rfl (aX12_in  ?_)
    refine R_if_eq_b (tgt := 34) dX12_tissue_21 (by decide) (fun b4 => ?_) (fun b4 => ?_)
    · have hf := hf.1 b4
      refine R_bipush (v := (-2)) dX12_tissue_34 (by decide) ?_
      exact R_iret dX12_tissue_36 rfl rfl hf
    · have hf := hf.2 b4
      refine R_iload_n dX12_tissue_24 rfl 3 rfl ?_
      refine R_iconst (v := 0) dX12_tissue_25 (by decide) ?_
      refine R_bipush (v := 20) dX12_tissue_26 (by decide) ?_
      refine R_callS (N := mX12_in) (as := [.int x3, .int 0, .int 20]) (rest := []) (kc2 := 0) (ks2 := 0) dX12_tissue_28 lmX12_178 oX12_in (Nat.le_of_ble_eq_true rfl) rfl rfl (Nat.le_of_ble_eq_true rfl) rfl rfl (aX12_in  ?_)
      refine R_if_ne_b (tgt := 37) dX12_tissue_31 (by decide) (fun b5 => ?_) (fun b5 => ?_)
      · have hf := hf.1 b5
        refine R_iconst (v := 0) dX12_tissue_37 (by decide) ?_
        refine R_istore dX12_tissue_38 (by decide) rfl ?_
        exact R_sub [1, 2, 3, 4, 0] rfl hf
      · have hf := hf.2 b5
        refine R_bipush (v := (-2)) dX12_tissue_34 (by decide) ?_
        exact R_iret dX12_tissue_36 rfl rfl hf
set_option maxRecDepth 20000 in
theorem sX12_tissue_40 {P : Option Value → AH → Prop} (h : AH) (r0 : Nat) (x1 : Int32) (x2 : Int32) (x3 : Int32) (x4 : Int32) (hf : (isO h 12 r0) ∧ ((¬ (gI h r0 3) = 2 → (¬ (gI h r0 3) = 5 → P (some (.int (-1))) h) ∧ ((gI h r0 3) = 5 → (¬ x4 = 0 → Rr mX12_tissue 0 0 105 [(0, .ref r0), (1, .int x1), (2, .int x2), (3, .int x3), (4, .int x4), (5, .int 0)] [] h P) ∧ (x4 = 0 → P (some (.int (-1))) h))) ∧ ((gI h r0 3) = 2 → (99 < (gI h r0 7) → P (some (.int (-1))) h) ∧ (¬ 99 < (gI h r0 7) → (¬ x4 = 20 → (isA h 0 (gF h r0 53)) ∧ ((vp_in x4 (ln (gF h r0 53))) ∧ (Call mX12_scan [.ref r0] (sI h (gF h r0 53) x4.toNatClampNeg (gI h r0 7)) (fun v h9 => v = none ∧ (Rr mX12_tissue 0 0 40 [(0, .ref r0), (1, .int x1), (2, .int x2), (3, .int x3), (4, .int (x4 + 1))] [] h9 P))))) ∧ (x4 = 20 → P (some (.int (-1))) h))))) : Rr mX12_tissue 0 0 40 [(0, .ref r0), (1, .int x1), (2, .int x2), (3, .int x3), (4, .int x4)] [] h P := by
  refine R_aload_n dX12_tissue_40 rfl 0 rfl ?_
  obtain ⟨ob1, hf⟩ := hf
  refine G12_3 dX12_tissue_41 lfX12_152 ob1 ?_
  refine R_iconst (v := 2) dX12_tissue_44 (by decide) ?_
  refine R_icmp_ne (tgt := 87) dX12_tissue_45 (by decide) (fun b2 => ?_) (fun b2 => ?_)
  · have hf := hf.1 b2
    refine R_aload_n dX12_tissue_87 rfl 0 rfl ?_
    refine G12_3 dX12_tissue_88 lfX12_152 ob1 ?_
    refine R_iconst (v := 5) dX12_tissue_91 (by decide) ?_
    refine R_icmp_ne (tgt := 100) dX12_tissue_92 (by decide) (fun b3 => ?_) (fun b3 => ?_)
    · have hf := hf.1 b3
      refine R_iconst (v := (-1)) dX12_tissue_100 (by decide) ?_
      exact R_iret dX12_tissue_101 rfl rfl hf
    · have hf := hf.2 b3
      refine R_iload dX12_tissue_95 4 rfl ?_
      refine R_if_ne (tgt := 102) dX12_tissue_97 (by decide) (fun b4 => ?_) (fun b4 => ?_)
      · have hf := hf.1 b4
        refine R_iconst (v := 0) dX12_tissue_102 (by decide) ?_
        refine R_istore dX12_tissue_103 (by decide) rfl ?_
        exact R_sub [1, 2, 3, 4, 5, 0] rfl hf
      · have hf := hf.2 b4
        refine R_iconst (v := (-1)) dX12_tissue_100 (by decide) ?_
        exact R_iret dX12_tissue_101 rfl rfl hf
  · have hf := hf.2 b2
    refine R_aload_n dX12_tissue_48 rfl 0 rfl ?_
    refine G12_7 dX12_tissue_49 lfX12_166 ob1 ?_
    refine R_bipush (v := 99) dX12_tissue_52 (by decide) ?_
    refine R_icmp_gt (tgt := 64) dX12_tissue_54 (by decide) (fun b5 => ?_) (fun b5 => ?_)
    · have hf := hf.1 b5
      refine R_iconst (v := (-1)) dX12_tissue_64 (by decide) ?_
      exact R_iret dX12_tissue_65 rfl rfl hf
    · have hf := hf.2 b5
      refine R_iload dX12_tissue_57 4 rfl ?_
      refine R_bipush (v := 20) dX12_tissue_59 (by decide) ?_
      refine R_icmp_ne (tgt := 66) dX12_tissue_61 (by decide) (fun b6 => ?_) (fun b6 => ?_)
      · have hf := hf.1 b6
        refine R_aload_n dX12_tissue_66 rfl 0 rfl ?_
        refine G12_53 dX12_tissue_67 lfX12_99 ob1 ?_
        refine R_iload dX12_tissue_70 4 rfl ?_
        refine R_aload_n dX12_tissue_72 rfl 0 rfl ?_
        refine G12_7 dX12_tissue_73 lfX12_166 ob1 ?_
        obtain ⟨ob7, hf⟩ := hf
        obtain ⟨ob8, hf⟩ := hf
        refine R_iastore dX12_tissue_76 ob7 ob8 ?_
        refine R_iinc (v := x4 + 1) dX12_tissue_77 4 rfl rfl (by decide) rfl ?_
        refine R_aload_n dX12_tissue_80 rfl 1 rfl ?_
        refine R_callV (ci := 12) (N := mX12_scan) (as := []) (rest := []) (kc2 := 0) (ks2 := 0) dX12_tissue_81 lmX12_169 oX12_scan (Nat.le_of_ble_eq_true rfl) rfl rfl (Nat.le_of_ble_eq_true rfl) rfl rfl ob1 ok12 (Call.mono hf ?_)
        rintro _ h9 ⟨rfl, hf⟩
        refine R_goto (tgt := 40) dX12_tissue_84 (by decide) ?_
        exact R_sub [1, 2, 3, 4, 0] rfl hf
      · have hf := hf.2 b6
        refine R_iconst (v := (-1)) dX12_tissue_64 (by decide) ?_
        exact R_iret dX12_tissue_65 rfl rfl hf
set_option maxRecDepth 20000 in
theorem sX12_tissue_105 {P : Option Value → AH → Prop} (h : AH) (r0 : Nat) (x1 : Int32) (x2 : Int32) (x3 : Int32) (x4 : Int32) (x5 : Int32) (hf : (9 < x5 → Rr mX12_tissue 0 0 138 [(0, .ref r0), (1, .int x1), (2, .int x2), (3, .int x3), (4, .int x4), (5, .int (x4 - 1))] [] h P) ∧ (¬ 9 < x5 → (isO h 12 r0) ∧ ((isA h 0 (gF h r0 57)) ∧ ((vp_in ((10 * x4) + x5) (ln (gF h r0 57))) ∧ (Rr mX12_tissue 0 0 105 [(0, .ref r0), (1, .int x1), (2, .int x2), (3, .int x3), (4, .int x4), (5, .int (x5 + 1))] [] (sI h (gF h r0 57) ((10 * x4) + x5).toNatClampNeg 0) P))))) : Rr mX12_tissue 0 0 105 [(0, .ref r0), (1, .int x1), (2, .int x2), (3, .int x3), (4, .int x4), (5, .int x5)] [] h P := by
  refine R_iload dX12_tissue_105 5 rfl ?_
  refine R_bipush (v := 9) dX12_tissue_107 (by decide) ?_
  refine R_icmp_gt (tgt := 132) dX12_tissue_109 (by decide) (fun b1 => ?_) (fun b1 => ?_)
  · have hf := hf.1 b1
    refine R_iload dX12_tissue_132 4 rfl ?_
    refine R_iconst (v := 1) dX12_tissue_134 (by decide) ?_
    refine R_isub dX12_tissue_135 ?_
    refine R_istore dX12_tissue_136 (by decide) rfl ?_
    exact R_sub [1, 2, 3, 4, 5, 0] rfl hf
  · have hf := hf.2 b1
    refine R_aload_n dX12_tissue_112 rfl 0 rfl ?_
    obtain ⟨ob2, hf⟩ := hf
    refine G12_57 dX12_tissue_113 lfX12_109 ob2 ?_
    refine R_bipush (v := 10) dX12_tissue_116 (by decide) ?_
    refine R_iload dX12_tissue_118 4 rfl ?_
    refine R_imul dX12_tissue_120 ?_
    refine R_iload dX12_tissue_121 5 rfl ?_
    refine R_iadd dX12_tissue_123 ?_
    refine R_iconst (v := 0) dX12_tissue_124 (by decide) ?_
    obtain ⟨ob3, hf⟩ := hf
    obtain ⟨ob4, hf⟩ := hf
    refine R_iastore dX12_tissue_125 ob3 ob4 ?_
    refine R_iinc (v := x5 + 1) dX12_tissue_126 5 rfl rfl (by decide) rfl ?_
    refine R_goto (tgt := 105) dX12_tissue_129 (by decide) ?_
    exact R_sub [1, 2, 3, 4, 5, 0] rfl hf
set_option maxRecDepth 20000 in
theorem sX12_tissue_138 {P : Option Value → AH → Prop} (h : AH) (r0 : Nat) (x1 : Int32) (x2 : Int32) (x3 : Int32) (x4 : Int32) (x5 : Int32) (hf : (x5 < 0 → Rr mX12_tissue 0 0 324 [(0, .ref r0), (4, .int x4), (5, .int 0), (6, .int 1000000), (7, .int 0)] [] h P) ∧ (¬ x5 < 0 → Rr mX12_tissue 0 0 146 [(0, .ref r0), (1, .int x1), (2, .int x2), (3, .int x3), (4, .int x4), (5, .int x5), (6, .int 0)] [] h P)) : Rr mX12_tissue 0 0 138 [(0, .ref r0), (1, .int x1), (2, .int x2), (3, .int x3), (4, .int x4), (5, .int x5)] [] h P := by
  refine R_iload dX12_tissue_138 5 rfl ?_
  refine R_if_lt (tgt := 313) dX12_tissue_140 (by decide) (fun b1 => ?_) (fun b1 => ?_)
  · have hf := hf.1 b1
    refine R_iconst (v := 0) dX12_tissue_313 (by decide) ?_
    refine R_istore dX12_tissue_314 (by decide) rfl ?_
    refine R_ldcw (v := 1000000) dX12_tissue_316 lcX12_361 ?_
    refine R_istore dX12_tissue_319 (by decide) rfl ?_
    refine R_iconst (v := 0) dX12_tissue_321 (by decide) ?_
    refine R_istore dX12_tissue_322 (by decide) rfl ?_
    exact R_sub [3, 7, 2, 1, 0] rfl hf
  · have hf := hf.2 b1
    refine R_iconst (v := 0) dX12_tissue_143 (by decide) ?_
    refine R_istore dX12_tissue_144 (by decide) rfl ?_
    exact R_sub [1, 2, 3, 4, 5, 6, 0] rfl hf
set_option maxRecDepth 20000 in
theorem sX12_tissue_146 {P : Option Value → AH → Prop} (h : AH) (r0 : Nat) (x1 : Int32) (x2 : Int32) (x3 : Int32) (x4 : Int32) (x5 : Int32) (x6 : Int32) (hf : (9 < x6 → Rr mX12_tissue 0 0 138 [(0, .ref r0), (1, .int x1), (2, .int x2), (3, .int x3), (4, .int x4), (5, .int (x5 + (-1)))] [] h P) ∧ (¬ 9 < x6 → (isO h 12 r0) ∧ ((isA h 0 (gF h r0 53)) ∧ ((vp_in x5 (ln (gF h r0 53))) ∧ (Rr mX12_tissue 0 0 184 [(0, .ref r0), (1, .int x1), (2, .int x2), (3, .int x3), (4, .int x4), (5, .int x5), (6, .int x6), (7, .int (bi (¬ ((gI h (gF h r0 53) x5.toNatClampNeg) + (x6 * x1)) < (x2 - x3) ∧ ¬ (x2 + x3) < ((gI h (gF h r0 53) x5.toNatClampNeg) + (x6 * x1))))), (8, .int 1000000), (9, .int 0)] [] h P))))) : Rr mX12_tissue 0 0 146 [(0, .ref r0), (1, .int x1), (2, .int x2), (3, .int x3), (4, .int x4), (5, .int x5), (6, .int x6)] [] h P := by
  refine R_iload dX12_tissue_146 6 rfl ?_
  refine R_bipush (v := 9) dX12_tissue_148 (by decide) ?_
  refine R_icmp_gt (tgt := 307) dX12_tissue_150 (by decide) (fun b1 => ?_) (fun b1 => ?_)
  · have hf := hf.1 b1
    refine R_iinc (v := x5 + (-1)) dX12_tissue_307 5 rfl rfl (by decide) rfl ?_
    refine R_goto (tgt := 138) dX12_tissue_310 (by decide) ?_
    exact R_sub [1, 2, 3, 4, 5, 0] rfl hf
  · have hf := hf.2 b1
    refine R_aload_n dX12_tissue_153 rfl 0 rfl ?_
    obtain ⟨ob2, hf⟩ := hf
    refine G12_53 dX12_tissue_154 lfX12_99 ob2 ?_
    refine R_iload dX12_tissue_157 5 rfl ?_
    obtain ⟨ob3, hf⟩ := hf
    obtain ⟨ob4, hf⟩ := hf
    refine R_iaload dX12_tissue_159 ob3 ob4 ?_
    refine R_iload dX12_tissue_160 6 rfl ?_
    refine R_iload_n dX12_tissue_162 rfl 1 rfl ?_
    refine R_imul dX12_tissue_163 ?_
    refine R_iadd dX12_tissue_164 ?_
    refine R_iload_n dX12_tissue_165 rfl 2 rfl ?_
    refine R_iload_n dX12_tissue_166 rfl 3 rfl ?_
    refine R_isub dX12_tissue_167 ?_
    refine R_iload_n dX12_tissue_168 rfl 2 rfl ?_
    refine R_iload_n dX12_tissue_169 rfl 3 rfl ?_
    refine R_iadd dX12_tissue_170 ?_
    refine R_callS (N := mX12_in) (as := [.int ((gI h (gF h r0 53) x5.toNatClampNeg) + (x6 * x1)), .int (x2 - x3), .int (x2 + x3)]) (rest := []) (kc2 := 0) (ks2 := 0) dX12_tissue_171 lmX12_178 oX12_in (Nat.le_of_ble_eq_true rfl) rfl rfl (Nat.le_of_ble_eq_true rfl) rfl rfl (aX12_in  ?_)
    refine R_istore dX12_tissue_174 (by decide) rfl ?_
    refine R_ldcw (v := 1000000) dX12_tissue_176 lcX12_361 ?_
    refine R_istore dX12_tissue_179 (by decide) rfl ?_
    refine R_iconst (v := 0) dX12_tissue_181 (by decide) ?_
    refine R_istore dX12_tissue_182 (by decide) rfl ?_
    exact R_sub [3, 4, 5, 6, 7, 8, 9, 2, 1, 0] rfl hf
set_option maxRecDepth 20000 in
theorem sX12_tissue_184 {P : Option Value → AH → Prop} (h : AH) (r0 : Nat) (x1 : Int32) (x2 : Int32) (x3 : Int32) (x4 : Int32) (x5 : Int32) (x6 : Int32) (x7 : Int32) (x8 : Int32) (x9 : Int32) (hf : (9 < x9 → (isO h 12 r0) ∧ (∀ z4 : Int32, z4 = (if x8 < 1000000 then (x6 + x8) else 1000000) → ((isA h 0 (gF h r0 57)) ∧ ((vp_in ((10 * x5) + x6) (ln (gF h r0 57))) ∧ (Rr mX12_tissue 0 0 146 [(0, .ref r0), (1, .int x1), (2, .int x2), (3, .int x3), (4, .int x4), (5, .int x5), (6, .int (x6 + 1))] [] (sI h (gF h r0 57) ((10 * x5) + x6).toNatClampNeg z4) P))))) ∧ (¬ 9 < x9 → (x7 = 0 → (isO h 12 r0) ∧ (∀ z10 : Int32, z10 = (if x8 < 1000000 then (x6 + x8) else 1000000) → ((isA h 0 (gF h r0 57)) ∧ ((vp_in ((10 * x5) + x6) (ln (gF h r0 57))) ∧ (Rr mX12_tissue 0 0 146 [(0, .ref r0), (1, .int x1), (2, .int x2), (3, .int x3), (4, .int x4), (5, .int x5), (6, .int (x6 + 1))] [] (sI h (gF h r0 57) ((10 * x5) + x6).toNatClampNeg z10) P))))) ∧ (¬ x7 = 0 → (isO h 12 r0) ∧ ((isA h 0 (gF h r0 57)) ∧ ((¬ x5 = (x4 - 1) → x9 ≤ x6 → vp_in ((10 * (x5 + 1)) + x9) (ln (gF h r0 57))) ∧ ((¬ x5 = (x4 - 1) → ¬ x9 ≤ x6 → vp_in ((10 * (x5 + 1)) + x9) (ln (gF h r0 57))) ∧ (∀ z19 : Int32, z19 = (if x5 = (x4 - 1) then 0 else (if x9 ≤ x6 then (0 + (gI h (gF h r0 57) ((10 * (x5 + 1)) + x9).toNatClampNeg)) else ((1000 * (x9 - x6)) + (gI h (gF h r0 57) ((10 * (x5 + 1)) + x9).toNatClampNeg)))) → (∀ z21 : Int32, z21 = (if x8 ≤ z19 then x8 else z19) → (Rr mX12_tissue 0 0 184 [(0, .ref r0), (1, .int x1), (2, .int x2), (3, .int x3), (4, .int x4), (5, .int x5), (6, .int x6), (7, .int x7), (8, .int z21), (9, .int (x9 + 1))] [] h P))))))))) : Rr mX12_tissue 0 0 184 [(0, .ref r0), (1, .int x1), (2, .int x2), (3, .int x3), (4, .int x4), (5, .int x5), (6, .int x6), (7, .int x7), (8, .int x8), (9, .int x9)] [] h P := by
  refine R_iload dX12_tissue_184 9 rfl ?_
  refine R_bipush (v := 9) dX12_tissue_186 (by decide) ?_
  refine R_icmp_gt (tgt := 269) dX12_tissue_188 (by decide) (fun b1 => ?_) (fun b1 => ?_)
  · have hf := hf.1 b1
    refine R_aload_n dX12_tissue_269 rfl 0 rfl ?_
    obtain ⟨ob2, hf⟩ := hf
    refine G12_57 dX12_tissue_270 lfX12_109 ob2 ?_
    refine R_bipush (v := 10) dX12_tissue_273 (by decide) ?_
    refine R_iload dX12_tissue_275 5 rfl ?_
    refine R_imul dX12_tissue_277 ?_
    refine R_iload dX12_tissue_278 6 rfl ?_
    refine R_iadd dX12_tissue_280 ?_
    refine R_iload dX12_tissue_281 8 rfl ?_
    refine R_ldcw (v := 1000000) dX12_tissue_283 lcX12_361 ?_
    have key : ∀ z4 : Int32, z4 = (if x8 < 1000000 then (x6 + x8) else 1000000) → Rr mX12_tissue 0 0 300 [(0, .ref r0), (1, .int x1), (2, .int x2), (3, .int x3), (4, .int x4), (5, .int x5), (6, .int x6)] [.int z4, .int ((10 * x5) + x6), .ref (gF h r0 57)] h P := by
      intro z4 ez4
      have hf := hf z4 ez4
      obtain ⟨ob5, hf⟩ := hf
      obtain ⟨ob6, hf⟩ := hf
      refine R_iastore dX12_tissue_300 ob5 ob6 ?_
      refine R_iinc (v := x6 + 1) dX12_tissue_301 6 rfl rfl (by decide) rfl ?_
      refine R_goto (tgt := 146) dX12_tissue_304 (by decide) ?_
      exact R_sub [1, 2, 3, 4, 5, 6, 0] rfl hf
    refine R_icmp_lt (tgt := 295) dX12_tissue_286 (by decide) (fun b3 => ?_) (fun b3 => ?_)
    · refine R_iload dX12_tissue_295 6 rfl ?_
      refine R_iload dX12_tissue_297 8 rfl ?_
      refine R_iadd dX12_tissue_299 ?_
      exact R_sub [0, 1, 2, 3, 4, 5, 6] rfl (key _ (by rw [if_pos b3]))
    · refine R_ldcw (v := 1000000) dX12_tissue_289 lcX12_361 ?_
      refine R_goto (tgt := 300) dX12_tissue_292 (by decide) ?_
      exact R_sub [0, 1, 2, 3, 4, 5, 6] rfl (key _ (by rw [if_neg b3]))
  · have hf := hf.2 b1
    refine R_iload dX12_tissue_191 7 rfl ?_
    refine R_if_eq (tgt := 269) dX12_tissue_193 (by decide) (fun b7 => ?_) (fun b7 => ?_)
    · have hf := hf.1 b7
      refine R_aload_n dX12_tissue_269 rfl 0 rfl ?_
      obtain ⟨ob8, hf⟩ := hf
      refine G12_57 dX12_tissue_270 lfX12_109 ob8 ?_
      refine R_bipush (v := 10) dX12_tissue_273 (by decide) ?_
      refine R_iload dX12_tissue_275 5 rfl ?_
      refine R_imul dX12_tissue_277 ?_
      refine R_iload dX12_tissue_278 6 rfl ?_
      refine R_iadd dX12_tissue_280 ?_
      refine R_iload dX12_tissue_281 8 rfl ?_
      refine R_ldcw (v := 1000000) dX12_tissue_283 lcX12_361 ?_
      have key : ∀ z10 : Int32, z10 = (if x8 < 1000000 then (x6 + x8) else 1000000) → Rr mX12_tissue 0 0 300 [(0, .ref r0), (1, .int x1), (2, .int x2), (3, .int x3), (4, .int x4), (5, .int x5), (6, .int x6)] [.int z10, .int ((10 * x5) + x6), .ref (gF h r0 57)] h P := by
        intro z10 ez10
        have hf := hf z10 ez10
        obtain ⟨ob11, hf⟩ := hf
        obtain ⟨ob12, hf⟩ := hf
        refine R_iastore dX12_tissue_300 ob11 ob12 ?_
        refine R_iinc (v := x6 + 1) dX12_tissue_301 6 rfl rfl (by decide) rfl ?_
        refine R_goto (tgt := 146) dX12_tissue_304 (by decide) ?_
        exact R_sub [1, 2, 3, 4, 5, 6, 0] rfl hf
      refine R_icmp_lt (tgt := 295) dX12_tissue_286 (by decide) (fun b9 => ?_) (fun b9 => ?_)
      · refine R_iload dX12_tissue_295 6 rfl ?_
        refine R_iload dX12_tissue_297 8 rfl ?_
        refine R_iadd dX12_tissue_299 ?_
        exact R_sub [0, 1, 2, 3, 4, 5, 6] rfl (key _ (by rw [if_pos b9]))
      · refine R_ldcw (v := 1000000) dX12_tissue_289 lcX12_361 ?_
        refine R_goto (tgt := 300) dX12_tissue_292 (by decide) ?_
        exact R_sub [0, 1, 2, 3, 4, 5, 6] rfl (key _ (by rw [if_neg b9]))
    · have hf := hf.2 b7
      refine R_iload dX12_tissue_196 5 rfl ?_
      refine R_iload dX12_tissue_198 4 rfl ?_
      refine R_iconst (v := 1) dX12_tissue_200 (by decide) ?_
      refine R_isub dX12_tissue_201 ?_
      obtain ⟨ob15, hf⟩ := hf
      obtain ⟨ob16, hf⟩ := hf
      obtain ⟨ob17, hf⟩ := hf
      obtain ⟨ob18, hf⟩ := hf
      have key : ∀ z19 : Int32, z19 = (if x5 = (x4 - 1) then 0 else (if x9 ≤ x6 then (0 + (gI h (gF h r0 57) ((10 * (x5 + 1)) + x9).toNatClampNeg)) else ((1000 * (x9 - x6)) + (gI h (gF h r0 57) ((10 * (x5 + 1)) + x9).toNatClampNeg)))) → Rr mX12_tissue 0 0 245 [(0, .ref r0), (1, .int x1), (2, .int x2), (3, .int x3), (4, .int x4), (5, .int x5), (6, .int x6), (7, .int x7), (8, .int x8), (9, .int x9)] [.int z19] h P := by
        intro z19 ez19
        have hf := hf z19 ez19
        refine R_istore dX12_tissue_245 (by decide) rfl ?_
        refine R_iload dX12_tissue_247 0 rfl ?_
        refine R_iload dX12_tissue_249 9 rfl ?_
        have key : ∀ z21 : Int32, z21 = (if x8 ≤ z19 then x8 else z19) → Rr mX12_tissue 0 0 261 [(0, .ref r0), (1, .int x1), (2, .int x2), (3, .int x3), (4, .int x4), (5, .int x5), (6, .int x6), (7, .int x7), (9, .int x9)] [.int z21] h P := by
          intro z21 ez21
          have hf := hf z21 ez21
          refine R_istore dX12_tissue_261 (by decide) rfl ?_
          refine R_iinc (v := x9 + 1) dX12_tissue_263 9 rfl rfl (by decide) rfl ?_
          refine R_goto (tgt := 184) dX12_tissue_266 (by decide) ?_
          exact R_sub [2, 3, 4, 5, 6, 7, 8, 9, 1, 0] rfl hf
        refine R_icmp_ge (tgt := 259) dX12_tissue_251 (by decide) (fun b20 => ?_) (fun b20 => ?_)
        · refine R_iload dX12_tissue_259 9 rfl ?_
          exact R_sub [1, 2, 3, 4, 5, 6, 7, 8, 10] rfl (key _ (by rw [if_pos b20]))
        · refine R_iload dX12_tissue_254 0 rfl ?_
          refine R_goto (tgt := 261) dX12_tissue_256 (by decide) ?_
          exact R_sub [1, 2, 3, 4, 5, 6, 7, 8, 10] rfl (key _ (by rw [if_neg b20]))
      refine R_icmp_ne (tgt := 209) dX12_tissue_202 (by decide) (fun b13 => ?_) (fun b13 => ?_)
      · refine R_iload dX12_tissue_209 9 rfl ?_
        refine R_iload dX12_tissue_211 6 rfl ?_
        refine R_icmp_le (tgt := 228) dX12_tissue_213 (by decide) (fun b14 => ?_) (fun b14 => ?_)
        · refine R_iconst (v := 0) dX12_tissue_228 (by decide) ?_
          refine R_aload_n dX12_tissue_229 rfl 0 rfl ?_
          refine G12_57 dX12_tissue_230 lfX12_109 ob15 ?_
          refine R_bipush (v := 10) dX12_tissue_233 (by decide) ?_
          refine R_iload dX12_tissue_235 5 rfl ?_
          refine R_iconst (v := 1) dX12_tissue_237 (by decide) ?_
          refine R_iadd dX12_tissue_238 ?_
          refine R_imul dX12_tissue_239 ?_
          refine R_iload dX12_tissue_240 9 rfl ?_
          refine R_iadd dX12_tissue_242 ?_
          refine R_iaload dX12_tissue_243 ob16 (ob17 b13 b14) ?_
          refine R_iadd dX12_tissue_244 ?_
          exact R_sub [0, 1, 2, 3, 4, 5, 6, 7, 8, 9] rfl (key _ (by rw [if_neg b13, if_pos b14]))
        · refine R_sipush (v := 1000) dX12_tissue_216 (by decide) ?_
          refine R_iload dX12_tissue_219 9 rfl ?_
          refine R_iload dX12_tissue_221 6 rfl ?_
          refine R_isub dX12_tissue_223 ?_
          refine R_imul dX12_tissue_224 ?_
          refine R_goto (tgt := 229) dX12_tissue_225 (by decide) ?_
          refine R_aload_n dX12_tissue_229 rfl 0 rfl ?_
          refine G12_57 dX12_tissue_230 lfX12_109 ob15 ?_
          refine R_bipush (v := 10) dX12_tissue_233 (by decide) ?_
          refine R_iload dX12_tissue_235 5 rfl ?_
          refine R_iconst (v := 1) dX12_tissue_237 (by decide) ?_
          refine R_iadd dX12_tissue_238 ?_
          refine R_imul dX12_tissue_239 ?_
          refine R_iload dX12_tissue_240 9 rfl ?_
          refine R_iadd dX12_tissue_242 ?_
          refine R_iaload dX12_tissue_243 ob16 (ob18 b13 b14) ?_
          refine R_iadd dX12_tissue_244 ?_
          exact R_sub [0, 1, 2, 3, 4, 5, 6, 7, 8, 9] rfl (key _ (by rw [if_neg b13, if_neg b14]))
      · refine R_iconst (v := 0) dX12_tissue_205 (by decide) ?_
        refine R_goto (tgt := 245) dX12_tissue_206 (by decide) ?_
        exact R_sub [0, 1, 2, 3, 4, 5, 6, 7, 8, 9] rfl (key _ (by rw [if_pos b13]))
set_option maxRecDepth 20000 in
theorem sX12_tissue_324 {P : Option Value → AH → Prop} (h : AH) (r0 : Nat) (x4 : Int32) (x5 : Int32) (x6 : Int32) (x7 : Int32) (hf : (9 < x7 → (x6 < 1000000 → Rr mX12_tissue 0 0 394 [(0, .ref r0), (4, .int x4), (5, .int x5), (6, .int x6), (7, .int x6), (8, .int 0)] [] h P) ∧ (¬ x6 < 1000000 → P (some (.int (-1))) h)) ∧ (¬ 9 < x7 → (isO h 12 r0) ∧ ((isA h 0 (gF h r0 57)) ∧ ((vp_in x7 (ln (gF h r0 57))) ∧ (∀ z7 : Int32, z7 = (if x6 ≤ ((1000 * x7) + (gI h (gF h r0 57) x7.toNatClampNeg)) then x6 else ((1000 * x7) + (gI h (gF h r0 57) x7.toNatClampNeg))) → (Rr mX12_tissue 0 0 324 [(0, .ref r0), (4, .int x4), (5, .int x5), (6, .int z7), (7, .int (x7 + 1))] [] h P)))))) : Rr mX12_tissue 0 0 324 [(0, .ref r0), (4, .int x4), (5, .int x5), (6, .int x6), (7, .int x7)] [] h P := by
  refine R_iload dX12_tissue_324 4 rfl ?_
  refine R_bipush (v := 9) dX12_tissue_326 (by decide) ?_
  refine R_icmp_gt (tgt := 377) dX12_tissue_328 (by decide) (fun b1 => ?_) (fun b1 => ?_)
  · have hf := hf.1 b1
    refine R_iload dX12_tissue_377 3 rfl ?_
    refine R_ldcw (v := 1000000) dX12_tissue_379 lcX12_361 ?_
    refine R_icmp_lt (tgt := 387) dX12_tissue_382 (by decide) (fun b2 => ?_) (fun b2 => ?_)
    · have hf := hf.1 b2
      refine R_iload dX12_tissue_387 3 rfl ?_
      refine R_istore dX12_tissue_389 (by decide) rfl ?_
      refine R_iconst (v := 0) dX12_tissue_391 (by decide) ?_
      refine R_istore dX12_tissue_392 (by decide) rfl ?_
      exact R_sub [2, 3, 4, 5, 1, 0] rfl hf
    · have hf := hf.2 b2
      refine R_iconst (v := (-1)) dX12_tissue_385 (by decide) ?_
      exact R_iret dX12_tissue_386 rfl rfl hf
  · have hf := hf.2 b1
    refine R_sipush (v := 1000) dX12_tissue_331 (by decide) ?_
    refine R_iload dX12_tissue_334 4 rfl ?_
    refine R_imul dX12_tissue_336 ?_
    refine R_aload_n dX12_tissue_337 rfl 0 rfl ?_
    obtain ⟨ob3, hf⟩ := hf
    refine G12_57 dX12_tissue_338 lfX12_109 ob3 ?_
    refine R_iload dX12_tissue_341 4 rfl ?_
    obtain ⟨ob4, hf⟩ := hf
    obtain ⟨ob5, hf⟩ := hf
    refine R_iaload dX12_tissue_343 ob4 ob5 ?_
    refine R_iadd dX12_tissue_344 ?_
    refine R_iload dX12_tissue_345 3 rfl ?_
    have key : ∀ z7 : Int32, z7 = (if x6 ≤ ((1000 * x7) + (gI h (gF h r0 57) x7.toNatClampNeg)) then x6 else ((1000 * x7) + (gI h (gF h r0 57) x7.toNatClampNeg))) → Rr mX12_tissue 0 0 369 [(0, .ref r0), (4, .int x4), (5, .int x5), (7, .int x7)] [.int z7] h P := by
      intro z7 ez7
      have hf := hf z7 ez7
      refine R_istore dX12_tissue_369 (by decide) rfl ?_
      refine R_iinc (v := x7 + 1) dX12_tissue_371 4 rfl rfl (by decide) rfl ?_
      refine R_goto (tgt := 324) dX12_tissue_374 (by decide) ?_
      exact R_sub [2, 3, 4, 1, 0] rfl hf
    refine R_icmp_ge (tgt := 367) dX12_tissue_347 (by decide) (fun b6 => ?_) (fun b6 => ?_)
    · refine R_iload dX12_tissue_367 3 rfl ?_
      exact R_sub [0, 1, 2, 4] rfl (key _ (by rw [if_pos b6]))
    · refine R_sipush (v := 1000) dX12_tissue_350 (by decide) ?_
      refine R_iload dX12_tissue_353 4 rfl ?_
      refine R_imul dX12_tissue_355 ?_
      refine R_aload_n dX12_tissue_356 rfl 0 rfl ?_
      refine G12_57 dX12_tissue_357 lfX12_109 ob3 ?_
      refine R_iload dX12_tissue_360 4 rfl ?_
      refine R_iaload dX12_tissue_362 ob4 ob5 ?_
      refine R_iadd dX12_tissue_363 ?_
      refine R_goto (tgt := 369) dX12_tissue_364 (by decide) ?_
      exact R_sub [0, 1, 2, 4] rfl (key _ (by rw [if_neg b6]))
set_option maxRecDepth 20000 in
theorem sX12_tissue_394 {P : Option Value → AH → Prop} (h : AH) (r0 : Nat) (x4 : Int32) (x5 : Int32) (x6 : Int32) (x7 : Int32) (x8 : Int32) (hf : (x4 ≤ x8 → (isO h 12 r0) ∧ (P (some (.int (x6 / 1000))) (sI h r0 55 x4))) ∧ (¬ x4 ≤ x8 → Rr mX12_tissue 0 0 404 [(0, .ref r0), (4, .int x4), (5, .int x5), (6, .int x6), (7, .int x7), (8, .int x8), (9, .int 0)] [] h P)) : Rr mX12_tissue 0 0 394 [(0, .ref r0), (4, .int x4), (5, .int x5), (6, .int x6), (7, .int x7), (8, .int x8)] [] h P := by
  refine R_iload dX12_tissue_394 5 rfl ?_
  refine R_iload dX12_tissue_396 1 rfl ?_
  refine R_icmp_ge (tgt := 486) dX12_tissue_398 (by decide) (fun b1 => ?_) (fun b1 => ?_)
  · have hf := hf.1 b1
    refine R_aload_n dX12_tissue_486 rfl 0 rfl ?_
    refine R_iload dX12_tissue_487 1 rfl ?_
    obtain ⟨ob2, hf⟩ := hf
    refine S12_55 dX12_tissue_489 lfX12_215 ob2 ?_
    refine R_iload dX12_tissue_492 3 rfl ?_
    refine R_sipush (v := 1000) dX12_tissue_494 (by decide) ?_
    refine R_idiv dX12_tissue_497 (by decide) ?_
    exact R_iret dX12_tissue_498 rfl rfl hf
  · have hf := hf.2 b1
    refine R_iconst (v := 0) dX12_tissue_401 (by decide) ?_
    refine R_istore dX12_tissue_402 (by decide) rfl ?_
    exact R_sub [1, 2, 3, 4, 5, 6, 0] rfl hf
set_option maxRecDepth 20000 in
theorem sX12_tissue_404 {P : Option Value → AH → Prop} (h : AH) (r0 : Nat) (x4 : Int32) (x5 : Int32) (x6 : Int32) (x7 : Int32) (x8 : Int32) (x9 : Int32) (hf : ∀ z2 : Int32, z2 = (if x9 ≤ x5 then 0 else (1000 * (x9 - x5))) → ((isO h 12 r0) ∧ ((isA h 0 (gF h r0 57)) ∧ ((vp_in ((10 * x8) + x9) (ln (gF h r0 57))) ∧ (((z2 + (gI h (gF h r0 57) ((10 * x8) + x9).toNatClampNeg)) = x7 → (isA h 0 (gF h r0 56)) ∧ ((vp_in x8 (ln (gF h r0 56))) ∧ (Rr mX12_tissue 0 0 394 [(0, .ref r0), (4, .int x4), (5, .int x9), (6, .int x6), (7, .int ((gI (sI h (gF h r0 56) x8.toNatClampNeg x9) (gF h r0 57) ((10 * x8) + x9).toNatClampNeg) - x9)), (8, .int (x8 + 1))] [] (sI h (gF h r0 56) x8.toNatClampNeg x9) P))) ∧ (¬ (z2 + (gI h (gF h r0 57) ((10 * x8) + x9).toNatClampNeg)) = x7 → Rr mX12_tissue 0 0 404 [(0, .ref r0), (4, .int x4), (5, .int x5), (6, .int x6), (7, .int x7), (8, .int x8), (9, .int (x9 + 1))] [] h P)))))) : Rr mX12_tissue 0 0 404 [(0, .ref r0), (4, .int x4), (5, .int x5), (6, .int x6), (7, .int x7), (8, .int x8), (9, .int x9)] [] h P := by
  refine R_iload dX12_tissue_404 6 rfl ?_
  refine R_iload dX12_tissue_406 2 rfl ?_
  have key : ∀ z2 : Int32, z2 = (if x9 ≤ x5 then 0 else (1000 * (x9 - x5))) → Rr mX12_tissue 0 0 424 [(0, .ref r0), (4, .int x4), (5, .int x5), (6, .int x6), (7, .int x7), (8, .int x8), (9, .int x9)] [.int z2] h P := by
    intro z2 ez2
    have hf := hf z2 ez2
    refine R_aload_n dX12_tissue_424 rfl 0 rfl ?_
    obtain ⟨ob3, hf⟩ := hf
    refine G12_57 dX12_tissue_425 lfX12_109 ob3 ?_
    refine R_bipush (v := 10) dX12_tissue_428 (by decide) ?_
    refine R_iload dX12_tissue_430 5 rfl ?_
    refine R_imul dX12_tissue_432 ?_
    refine R_iload dX12_tissue_433 6 rfl ?_
    refine R_iadd dX12_tissue_435 ?_
    obtain ⟨ob4, hf⟩ := hf
    obtain ⟨ob5, hf⟩ := hf
    refine R_iaload dX12_tissue_436 ob4 ob5 ?_
    refine R_iadd dX12_tissue_437 ?_
    refine R_iload dX12_tissue_438 4 rfl ?_
    refine R_icmp_eq (tgt := 449) dX12_tissue_440 (by decide) (fun b6 => ?_) (fun b6 => ?_)
    · have hf := hf.1 b6
      refine R_aload_n dX12_tissue_449 rfl 0 rfl ?_
      refine G12_56 dX12_tissue_450 lfX12_106 ob3 ?_
      refine R_iload dX12_tissue_453 5 rfl ?_
      refine R_iload dX12_tissue_455 6 rfl ?_
      obtain ⟨ob7, hf⟩ := hf
      obtain ⟨ob8, hf⟩ := hf
      refine R_iastore dX12_tissue_457 ob7 ob8 ?_
      refine R_aload_n dX12_tissue_458 rfl 0 rfl ?_
      refine G12_57 dX12_tissue_459 lfX12_109 ob3 ?_
      refine R_eqF (y := gF h r0 57) rfl ?_
      refine R_bipush (v := 10) dX12_tissue_462 (by decide) ?_
      refine R_iload dX12_tissue_464 5 rfl ?_
      refine R_imul dX12_tissue_466 ?_
      refine R_iload dX12_tissue_467 6 rfl ?_
      refine R_iadd dX12_tissue_469 ?_
      refine R_iaload dX12_tissue_470 ob4 ob5 ?_
      refine R_iload dX12_tissue_471 6 rfl ?_
      refine R_isub dX12_tissue_473 ?_
      refine R_istore dX12_tissue_474 (by decide) rfl ?_
      refine R_iload dX12_tissue_476 6 rfl ?_
      refine R_istore dX12_tissue_478 (by decide) rfl ?_
      refine R_iinc (v := x8 + 1) dX12_tissue_480 5 rfl rfl (by decide) rfl ?_
      refine R_goto (tgt := 394) dX12_tissue_483 (by decide) ?_
      exact R_sub [3, 4, 1, 5, 2, 0] rfl hf
    · have hf := hf.2 b6
      refine R_iinc (v := x9 + 1) dX12_tissue_443 6 rfl rfl (by decide) rfl ?_
      refine R_goto (tgt := 404) dX12_tissue_446 (by decide) ?_
      exact R_sub [1, 2, 3, 4, 5, 6, 0] rfl hf
  refine R_icmp_le (tgt := 423) dX12_tissue_408 (by decide) (fun b1 => ?_) (fun b1 => ?_)
  · refine R_iconst (v := 0) dX12_tissue_423 (by decide) ?_
    exact R_sub [0, 1, 2, 3, 4, 5, 6] rfl (key _ (by rw [if_pos b1]))
  · refine R_sipush (v := 1000) dX12_tissue_411 (by decide) ?_
    refine R_iload dX12_tissue_414 6 rfl ?_
    refine R_iload dX12_tissue_416 2 rfl ?_
    refine R_isub dX12_tissue_418 ?_
    refine R_imul dX12_tissue_419 ?_
    refine R_goto (tgt := 424) dX12_tissue_420 (by decide) ?_
    exact R_sub [0, 1, 2, 3, 4, 5, 6] rfl (key _ (by rw [if_neg b1]))
theorem dX4_takeBox_0 : decode cX4_takeBox 0 = .ok (.aload_n 0, 1) := by decide +kernel
theorem dX4_takeBox_1 : decode cX4_takeBox 1 = .ok (.getfield 21, 3) := by decide +kernel
theorem dX4_takeBox_4 : decode cX4_takeBox 4 = .ok (.getfield 143, 3) := by decide +kernel
theorem dX4_takeBox_7 : decode cX4_takeBox 7 = .ok (.bipush 8, 2) := by decide +kernel
theorem dX4_takeBox_9 : decode cX4_takeBox 9 = .ok (.if_icmp .lt 9, 3) := by decide +kernel
theorem dX4_takeBox_12 : decode cX4_takeBox 12 = .ok (.aload_n 0, 1) := by decide +kernel
theorem dX4_takeBox_13 : decode cX4_takeBox 13 = .ok (.iconst 4, 1) := by decide +kernel
theorem dX4_takeBox_14 : decode cX4_takeBox 14 = .ok (.invokevirtual 99, 3) := by decide +kernel
theorem dX4_takeBox_17 : decode cX4_takeBox 17 = .ok (.return_, 1) := by decide +kernel
theorem dX4_takeBox_18 : decode cX4_takeBox 18 = .ok (.aload_n 0, 1) := by decide +kernel
theorem dX4_takeBox_19 : decode cX4_takeBox 19 = .ok (.invokevirtual 128, 3) := by decide +kernel
theorem dX4_takeBox_22 : decode cX4_takeBox 22 = .ok (.istore_n 1, 1) := by decide +kernel
theorem dX4_takeBox_23 : decode cX4_takeBox 23 = .ok (.aload_n 0, 1) := by decide +kernel
theorem dX4_takeBox_24 : decode cX4_takeBox 24 = .ok (.iconst 0, 1) := by decide +kernel
theorem dX4_takeBox_25 : decode cX4_takeBox 25 = .ok (.bipush 15, 2) := by decide +kernel
theorem dX4_takeBox_27 : decode cX4_takeBox 27 = .ok (.invokevirtual 109, 3) := by decide +kernel
theorem dX4_takeBox_30 : decode cX4_takeBox 30 = .ok (.istore_n 2, 1) := by decide +kernel
theorem dX4_takeBox_31 : decode cX4_takeBox 31 = .ok (.aload_n 0, 1) := by decide +kernel
theorem dX4_takeBox_32 : decode cX4_takeBox 32 = .ok (.iconst 0, 1) := by decide +kernel
theorem dX4_takeBox_33 : decode cX4_takeBox 33 = .ok (.bipush 15, 2) := by decide +kernel
theorem dX4_takeBox_35 : decode cX4_takeBox 35 = .ok (.invokevirtual 109, 3) := by decide +kernel
theorem dX4_takeBox_38 : decode cX4_takeBox 38 = .ok (.istore_n 3, 1) := by decide +kernel
theorem dX4_takeBox_39 : decode cX4_takeBox 39 = .ok (.aload_n 0, 1) := by decide +kernel
theorem dX4_takeBox_40 : decode cX4_takeBox 40 = .ok (.iconst 1, 1) := by decide +kernel
theorem dX4_takeBox_41 : decode cX4_takeBox 41 = .ok (.bipush 16, 2) := by decide +kernel
theorem dX4_takeBox_43 : decode cX4_takeBox 43 = .ok (.invokevirtual 109, 3) := by decide +kernel
theorem dX4_takeBox_46 : decode cX4_takeBox 46 = .ok (.istore 4, 2) := by decide +kernel
theorem dX4_takeBox_48 : decode cX4_takeBox 48 = .ok (.aload_n 0, 1) := by decide +kernel
theorem dX4_takeBox_49 : decode cX4_takeBox 49 = .ok (.iconst 1, 1) := by decide +kernel
theorem dX4_takeBox_50 : decode cX4_takeBox 50 = .ok (.bipush 16, 2) := by decide +kernel
theorem dX4_takeBox_52 : decode cX4_takeBox 52 = .ok (.invokevirtual 109, 3) := by decide +kernel
theorem dX4_takeBox_55 : decode cX4_takeBox 55 = .ok (.istore 5, 2) := by decide +kernel
theorem dX4_takeBox_57 : decode cX4_takeBox 57 = .ok (.aload_n 0, 1) := by decide +kernel
theorem dX4_takeBox_58 : decode cX4_takeBox 58 = .ok (.getfield 21, 3) := by decide +kernel
theorem dX4_takeBox_61 : decode cX4_takeBox 61 = .ok (.getfield 148, 3) := by decide +kernel
theorem dX4_takeBox_64 : decode cX4_takeBox 64 = .ok (.iload_n 1, 1) := by decide +kernel
theorem dX4_takeBox_65 : decode cX4_takeBox 65 = .ok (.aaload, 1) := by decide +kernel
theorem dX4_takeBox_66 : decode cX4_takeBox 66 = .ok (.iload_n 2, 1) := by decide +kernel
theorem dX4_takeBox_67 : decode cX4_takeBox 67 = .ok (.iload_n 3, 1) := by decide +kernel
theorem dX4_takeBox_68 : decode cX4_takeBox 68 = .ok (.iload 4, 2) := by decide +kernel
theorem dX4_takeBox_70 : decode cX4_takeBox 70 = .ok (.iload 5, 2) := by decide +kernel
theorem dX4_takeBox_72 : decode cX4_takeBox 72 = .ok (.invokevirtual 152, 3) := by decide +kernel
theorem dX4_takeBox_75 : decode cX4_takeBox 75 = .ok (.aload_n 0, 1) := by decide +kernel
theorem dX4_takeBox_76 : decode cX4_takeBox 76 = .ok (.getfield 21, 3) := by decide +kernel
theorem dX4_takeBox_79 : decode cX4_takeBox 79 = .ok (.dup, 1) := by decide +kernel
theorem dX4_takeBox_80 : decode cX4_takeBox 80 = .ok (.getfield 143, 3) := by decide +kernel
theorem dX4_takeBox_83 : decode cX4_takeBox 83 = .ok (.iconst 1, 1) := by decide +kernel
theorem dX4_takeBox_84 : decode cX4_takeBox 84 = .ok (.iadd, 1) := by decide +kernel
theorem dX4_takeBox_85 : decode cX4_takeBox 85 = .ok (.putfield 143, 3) := by decide +kernel
theorem dX4_takeBox_88 : decode cX4_takeBox 88 = .ok (.return_, 1) := by decide +kernel
set_option maxRecDepth 20000 in
theorem sX4_takeBox_0 {P : Option Value → AH → Prop} (h : AH) (r0 : Nat) (hf : (isO h 4 r0) ∧ ((isO h 3 (gF h r0 3)) ∧ (((gI h (gF h r0 3) 10) < 8 → Call mX4_ink [.ref r0] h (fun v h4 => ∃ z5 : Int32, v = some (.int z5) ∧ ((isO h4 4 r0) ∧ (Call mX4_number [.ref r0, .int 0, .int 15] h4 (fun v h7 => ∃ z8 : Int32, v = some (.int z8) ∧ ((isO h7 4 r0) ∧ (Call mX4_number [.ref r0, .int 0, .int 15] h7 (fun v h10 => ∃ z11 : Int32, v = some (.int z11) ∧ ((isO h10 4 r0) ∧ (Call mX4_number [.ref r0, .int 1, .int 16] h10 (fun v h13 => ∃ z14 : Int32, v = some (.int z14) ∧ ((isO h13 4 r0) ∧ (Call mX4_number [.ref r0, .int 1, .int 16] h13 (fun v h16 => ∃ z17 : Int32, v = some (.int z17) ∧ ((isO h16 4 r0) ∧ ((isO h16 3 (gF h16 r0 3)) ∧ ((isA h16 3 (gF h16 (gF h16 r0 3) 11)) ∧ ((vp_in z5 (ln (gF h16 (gF h16 r0 3) 11))) ∧ ((isO h16 0 (gF h16 (gF h16 (gF h16 r0 3) 11) z5.toNatClampNeg)) ∧ (Call mX0_addBox [.ref (gF h16 (gF h16 (gF h16 r0 3) 11) z5.toNatClampNeg), .int z8, .int z11, .int z14, .int z17] h16 (fun v h23 => v = none ∧ ((isO h23 4 r0) ∧ ((isO h23 3 (gF h23 r0 3)) ∧ (P none (sI h23 (gF h23 r0 3) 10 ((gI h23 (gF h23 r0 3) 10) + 1)))))))))))))))))))))))))) ∧ (¬ (gI h (gF h r0 3) 10) < 8 → Call mX4_refuse [.ref r0, .int 4] h (fun v h26 => v = none ∧ (P none h26)))))) : Rr mX4_takeBox 0 0 0 [(0, .ref r0)] [] h P := by
  refine R_aload_n dX4_takeBox_0 rfl 0 rfl ?_
  obtain ⟨ob1, hf⟩ := hf
  refine G4_3 dX4_takeBox_1 lfX4_21 ob1 ?_
  obtain ⟨ob2, hf⟩ := hf
  refine G3_10 dX4_takeBox_4 lfX4_143 ob2 ?_
  refine R_bipush (v := 8) dX4_takeBox_7 (by decide) ?_
  refine R_icmp_lt (tgt := 18) dX4_takeBox_9 (by decide) (fun b3 => ?_) (fun b3 => ?_)
  · have hf := hf.1 b3
    refine R_aload_n dX4_takeBox_18 rfl 0 rfl ?_
    refine R_callV (ci := 4) (N := mX4_ink) (as := []) (rest := []) (kc2 := 0) (ks2 := 0) dX4_takeBox_19 lmX4_128 oX4_ink (Nat.le_of_ble_eq_true rfl) rfl rfl (Nat.le_of_ble_eq_true rfl) rfl rfl ob1 ok4 (Call.mono hf ?_)
    rintro _ h4 ⟨z5, rfl, hf⟩
    refine R_istore_n dX4_takeBox_22 rfl (by decide) rfl ?_
    refine R_aload_n dX4_takeBox_23 rfl 1 rfl ?_
    refine R_iconst (v := 0) dX4_takeBox_24 (by decide) ?_
    refine R_bipush (v := 15) dX4_takeBox_25 (by decide) ?_
    obtain ⟨ob6, hf⟩ := hf
    refine R_callV (ci := 4) (N := mX4_number) (as := [.int 0, .int 15]) (rest := []) (kc2 := 0) (ks2 := 0) dX4_takeBox_27 lmX4_109 oX4_number (Nat.le_of_ble_eq_true rfl) rfl rfl (Nat.le_of_ble_eq_true rfl) rfl rfl ob6 ok4 (Call.mono hf ?_)
    rintro _ h7 ⟨z8, rfl, hf⟩
    refine R_istore_n dX4_takeBox_30 rfl (by decide) rfl ?_
    refine R_aload_n dX4_takeBox_31 rfl 2 rfl ?_
    refine R_iconst (v := 0) dX4_takeBox_32 (by decide) ?_
    refine R_bipush (v := 15) dX4_takeBox_33 (by decide) ?_
    obtain ⟨ob9, hf⟩ := hf
    refine R_callV (ci := 4) (N := mX4_number) (as := [.int 0, .int 15]) (rest := []) (kc2 := 0) (ks2 := 0) dX4_takeBox_35 lmX4_109 oX4_number (Nat.le_of_ble_eq_true rfl) rfl rfl (Nat.le_of_ble_eq_true rfl) rfl rfl ob9 ok4 (Call.mono hf ?_)
    rintro _ h10 ⟨z11, rfl, hf⟩
    refine R_istore_n dX4_takeBox_38 rfl (by decide) rfl ?_
    refine R_aload_n dX4_takeBox_39 rfl 3 rfl ?_
    refine R_iconst (v := 1) dX4_takeBox_40 (by decide) ?_
    refine R_bipush (v := 16) dX4_takeBox_41 (by decide) ?_
    obtain ⟨ob12, hf⟩ := hf
    refine R_callV (ci := 4) (N := mX4_number) (as := [.int 1, .int 16]) (rest := []) (kc2 := 0) (ks2 := 0) dX4_takeBox_43 lmX4_109 oX4_number (Nat.le_of_ble_eq_true rfl) rfl rfl (Nat.le_of_ble_eq_true rfl) rfl rfl ob12 ok4 (Call.mono hf ?_)
    rintro _ h13 ⟨z14, rfl, hf⟩
    refine R_istore dX4_takeBox_46 (by decide) rfl ?_
    refine R_aload_n dX4_takeBox_48 rfl 4 rfl ?_
    refine R_iconst (v := 1) dX4_takeBox_49 (by decide) ?_
    refine R_bipush (v := 16) dX4_takeBox_50 (by decide) ?_
    obtain ⟨ob15, hf⟩ := hf
    refine R_callV (ci := 4) (N := mX4_number) (as := [.int 1, .int 16]) (rest := []) (kc2 := 0) (ks2 := 0) dX4_takeBox_52 lmX4_109 oX4_number (Nat.le_of_ble_eq_true rfl) rfl rfl (Nat.le_of_ble_eq_true rfl) rfl rfl ob15 ok4 (Call.mono hf ?_)
    rintro _ h16 ⟨z17, rfl, hf⟩
    refine R_istore dX4_takeBox_55 (by decide) rfl ?_
    refine R_aload_n dX4_takeBox_57 rfl 5 rfl ?_
    obtain ⟨ob18, hf⟩ := hf
    refine G4_3 dX4_takeBox_58 lfX4_21 ob18 ?_
    obtain ⟨ob19, hf⟩ := hf
    refine G3_11 dX4_takeBox_61 lfX4_148 ob19 ?_
    refine R_iload_n dX4_takeBox_64 rfl 4 rfl ?_
    obtain ⟨ob20, hf⟩ := hf
    obtain ⟨ob21, hf⟩ := hf
    refine R_aaload (t := 3) (by decide) dX4_takeBox_65 ob20 ob21 ?_
    refine R_iload_n dX4_takeBox_66 rfl 3 rfl ?_
    refine R_iload_n dX4_takeBox_67 rfl 2 rfl ?_
    refine R_iload dX4_takeBox_68 1 rfl ?_
    refine R_iload dX4_takeBox_70 0 rfl ?_
    obtain ⟨ob22, hf⟩ := hf
    refine R_callV (ci := 0) (N := mX0_addBox) (as := [.int z8, .int z11, .int z14, .int z17]) (rest := []) (kc2 := 0) (ks2 := 0) dX4_takeBox_72 lmX4_152 oX0_addBox (Nat.le_of_ble_eq_true rfl) rfl rfl (Nat.le_of_ble_eq_true rfl) rfl rfl ob22 ok0 (Call.mono hf ?_)
    rintro _ h23 ⟨rfl, hf⟩
    refine R_aload_n dX4_takeBox_75 rfl 5 rfl ?_
    obtain ⟨ob24, hf⟩ := hf
    refine G4_3 dX4_takeBox_76 lfX4_21 ob24 ?_
    refine R_dup dX4_takeBox_79 rfl ?_
    obtain ⟨ob25, hf⟩ := hf
    refine G3_10 dX4_takeBox_80 lfX4_143 ob25 ?_
    refine R_iconst (v := 1) dX4_takeBox_83 (by decide) ?_
    refine R_iadd dX4_takeBox_84 ?_
    refine S3_10 dX4_takeBox_85 lfX4_143 ob25 ?_
    exact R_ret dX4_takeBox_88 rfl hf
  · have hf := hf.2 b3
    refine R_aload_n dX4_takeBox_12 rfl 0 rfl ?_
    refine R_iconst (v := 4) dX4_takeBox_13 (by decide) ?_
    refine R_callV (ci := 4) (N := mX4_refuse) (as := [.int 4]) (rest := []) (kc2 := 0) (ks2 := 0) dX4_takeBox_14 lmX4_99 oX4_refuse (Nat.le_of_ble_eq_true rfl) rfl rfl (Nat.le_of_ble_eq_true rfl) rfl rfl ob1 ok4 (Call.mono hf ?_)
    rintro _ h26 ⟨rfl, hf⟩
    exact R_ret dX4_takeBox_17 rfl hf
theorem dX4_takeLies_0 : decode cX4_takeLies 0 = .ok (.aload_n 0, 1) := by decide +kernel
theorem dX4_takeLies_1 : decode cX4_takeLies 1 = .ok (.invokevirtual 128, 3) := by decide +kernel
theorem dX4_takeLies_4 : decode cX4_takeLies 4 = .ok (.istore_n 1, 1) := by decide +kernel
theorem dX4_takeLies_5 : decode cX4_takeLies 5 = .ok (.aload_n 0, 1) := by decide +kernel
theorem dX4_takeLies_6 : decode cX4_takeLies 6 = .ok (.invokevirtual 128, 3) := by decide +kernel
theorem dX4_takeLies_9 : decode cX4_takeLies 9 = .ok (.istore_n 2, 1) := by decide +kernel
theorem dX4_takeLies_10 : decode cX4_takeLies 10 = .ok (.iload_n 1, 1) := by decide +kernel
theorem dX4_takeLies_11 : decode cX4_takeLies 11 = .ok (.iconst 4, 1) := by decide +kernel
theorem dX4_takeLies_12 : decode cX4_takeLies 12 = .ok (.imul, 1) := by decide +kernel
theorem dX4_takeLies_13 : decode cX4_takeLies 13 = .ok (.iload_n 2, 1) := by decide +kernel
theorem dX4_takeLies_14 : decode cX4_takeLies 14 = .ok (.iadd, 1) := by decide +kernel
theorem dX4_takeLies_15 : decode cX4_takeLies 15 = .ok (.istore_n 3, 1) := by decide +kernel
theorem dX4_takeLies_16 : decode cX4_takeLies 16 = .ok (.iload_n 1, 1) := by decide +kernel
theorem dX4_takeLies_17 : decode cX4_takeLies 17 = .ok (.iload_n 2, 1) := by decide +kernel
theorem dX4_takeLies_18 : decode cX4_takeLies 18 = .ok (.if_icmp .eq 14, 3) := by decide +kernel
theorem dX4_takeLies_21 : decode cX4_takeLies 21 = .ok (.aload_n 0, 1) := by decide +kernel
theorem dX4_takeLies_22 : decode cX4_takeLies 22 = .ok (.getfield 35, 3) := by decide +kernel
theorem dX4_takeLies_25 : decode cX4_takeLies 25 = .ok (.iload_n 3, 1) := by decide +kernel
theorem dX4_takeLies_26 : decode cX4_takeLies 26 = .ok (.ishr, 1) := by decide +kernel
theorem dX4_takeLies_27 : decode cX4_takeLies 27 = .ok (.iconst 1, 1) := by decide +kernel
theorem dX4_takeLies_28 : decode cX4_takeLies 28 = .ok (.iand, 1) := by decide +kernel
theorem dX4_takeLies_29 : decode cX4_takeLies 29 = .ok (.ifCond .eq 8, 3) := by decide +kernel
theorem dX4_takeLies_32 : decode cX4_takeLies 32 = .ok (.aload_n 0, 1) := by decide +kernel
theorem dX4_takeLies_33 : decode cX4_takeLies 33 = .ok (.iconst 3, 1) := by decide +kernel
theorem dX4_takeLies_34 : decode cX4_takeLies 34 = .ok (.invokevirtual 99, 3) := by decide +kernel
theorem dX4_takeLies_37 : decode cX4_takeLies 37 = .ok (.aload_n 0, 1) := by decide +kernel
theorem dX4_takeLies_38 : decode cX4_takeLies 38 = .ok (.dup, 1) := by decide +kernel
theorem dX4_takeLies_39 : decode cX4_takeLies 39 = .ok (.getfield 35, 3) := by decide +kernel
theorem dX4_takeLies_42 : decode cX4_takeLies 42 = .ok (.iconst 1, 1) := by decide +kernel
theorem dX4_takeLies_43 : decode cX4_takeLies 43 = .ok (.iload_n 3, 1) := by decide +kernel
theorem dX4_takeLies_44 : decode cX4_takeLies 44 = .ok (.ishl, 1) := by decide +kernel
theorem dX4_takeLies_45 : decode cX4_takeLies 45 = .ok (.ior, 1) := by decide +kernel
theorem dX4_takeLies_46 : decode cX4_takeLies 46 = .ok (.putfield 35, 3) := by decide +kernel
theorem dX4_takeLies_49 : decode cX4_takeLies 49 = .ok (.aload_n 0, 1) := by decide +kernel
theorem dX4_takeLies_50 : decode cX4_takeLies 50 = .ok (.getfield 21, 3) := by decide +kernel
theorem dX4_takeLies_53 : decode cX4_takeLies 53 = .ok (.getfield 168, 3) := by decide +kernel
theorem dX4_takeLies_56 : decode cX4_takeLies 56 = .ok (.iload_n 3, 1) := by decide +kernel
theorem dX4_takeLies_57 : decode cX4_takeLies 57 = .ok (.aload_n 0, 1) := by decide +kernel
theorem dX4_takeLies_58 : decode cX4_takeLies 58 = .ok (.iconst 0, 1) := by decide +kernel
theorem dX4_takeLies_59 : decode cX4_takeLies 59 = .ok (.bipush 100, 2) := by decide +kernel
theorem dX4_takeLies_61 : decode cX4_takeLies 61 = .ok (.invokevirtual 109, 3) := by decide +kernel
theorem dX4_takeLies_64 : decode cX4_takeLies 64 = .ok (.iastore, 1) := by decide +kernel
theorem dX4_takeLies_65 : decode cX4_takeLies 65 = .ok (.return_, 1) := by decide +kernel
set_option maxRecDepth 20000 in
theorem sX4_takeLies_0 {P : Option Value → AH → Prop} (h : AH) (r0 : Nat) (hf : (isO h 4 r0) ∧ (Call mX4_ink [.ref r0] h (fun v h2 => ∃ z3 : Int32, v = some (.int z3) ∧ ((isO h2 4 r0) ∧ (Call mX4_ink [.ref r0] h2 (fun v h5 => ∃ z6 : Int32, v = some (.int z6) ∧ ((z3 = z6 → (isO h5 4 r0) ∧ (Call mX4_refuse [.ref r0, .int 3] h5 (fun v h9 => v = none ∧ ((isO h9 4 r0) ∧ ((isO h9 3 (gF h9 r0 3)) ∧ (Call mX4_number [.ref r0, .int 0, .int 100] (sI h9 r0 2 ((gI h9 r0 2) ||| ((1 : Int32) <<< (((z3 * 4) + z6) &&& 31)))) (fun v h12 => ∃ z13 : Int32, v = some (.int z13) ∧ ((isA h12 0 (gF h9 (gF h9 r0 3) 15)) ∧ ((vp_in ((z3 * 4) + z6) (ln (gF h9 (gF h9 r0 3) 15))) ∧ (P none (sI h12 (gF h9 (gF h9 r0 3) 15) ((z3 * 4) + z6).toNatClampNeg z13))))))))))) ∧ (¬ z3 = z6 → (isO h5 4 r0) ∧ (((((gI h5 r0 2) >>> (((z3 * 4) + z6) &&& 31)) &&& 1) = 0 → (isO h5 3 (gF h5 r0 3)) ∧ (Call mX4_number [.ref r0, .int 0, .int 100] (sI h5 r0 2 ((gI h5 r0 2) ||| ((1 : Int32) <<< (((z3 * 4) + z6) &&& 31)))) (fun v h19 => ∃ z20 : Int32, v = some (.int z20) ∧ ((isA h19 0 (gF h5 (gF h5 r0 3) 15)) ∧ ((vp_in ((z3 * 4) + z6) (ln (gF h5 (gF h5 r0 3) 15))) ∧ (P none (sI h19 (gF h5 (gF h5 r0 3) 15) ((z3 * 4) + z6).toNatClampNeg z20))))))) ∧ (¬ (((gI h5 r0 2) >>> (((z3 * 4) + z6) &&& 31)) &&& 1) = 0 → Call mX4_refuse [.ref r0, .int 3] h5 (fun v h23 => v = none ∧ ((isO h23 4 r0) ∧ ((isO h23 3 (gF h23 r0 3)) ∧ (Call mX4_number [.ref r0, .int 0, .int 100] (sI h23 r0 2 ((gI h23 r0 2) ||| ((1 : Int32) <<< (((z3 * 4) + z6) &&& 31)))) (fun v h26 => ∃ z27 : Int32, v = some (.int z27) ∧ ((isA h26 0 (gF h23 (gF h23 r0 3) 15)) ∧ ((vp_in ((z3 * 4) + z6) (ln (gF h23 (gF h23 r0 3) 15))) ∧ (P none (sI h26 (gF h23 (gF h23 r0 3) 15) ((z3 * 4) + z6).toNatClampNeg z27))))))))))))))))))) : Rr mX4_takeLies 0 0 0 [(0, .ref r0)] [] h P := by
  refine R_aload_n dX4_takeLies_0 rfl 0 rfl ?_
  obtain ⟨ob1, hf⟩ := hf
  refine R_callV (ci := 4) (N := mX4_ink) (as := []) (rest := []) (kc2 := 0) (ks2 := 0) dX4_takeLies_1 lmX4_128 oX4_ink (Nat.le_of_ble_eq_true rfl) rfl rfl (Nat.le_of_ble_eq_true rfl) rfl rfl ob1 ok4 (Call.mono hf ?_)
  rintro _ h2 ⟨z3, rfl, hf⟩
  refine R_istore_n dX4_takeLies_4 rfl (by decide) rfl ?_
  refine R_aload_n dX4_takeLies_5 rfl 1 rfl ?_
  obtain ⟨ob4, hf⟩ := hf
  refine R_callV (ci := 4) (N := mX4_ink) (as := []) (rest := []) (kc2 := 0) (ks2 := 0) dX4_takeLies_6 lmX4_128 oX4_ink (Nat.le_of_ble_eq_true rfl) rfl rfl (Nat.le_of_ble_eq_true rfl) rfl rfl ob4 ok4 (Call.mono hf ?_)
  rintro _ h5 ⟨z6, rfl, hf⟩
  refine R_istore_n dX4_takeLies_9 rfl (by decide) rfl ?_
  refine R_iload_n dX4_takeLies_10 rfl 1 rfl ?_
  refine R_iconst (v := 4) dX4_takeLies_11 (by decide) ?_
  refine R_imul dX4_takeLies_12 ?_
  refine R_iload_n dX4_takeLies_13 rfl 0 rfl ?_
  refine R_iadd dX4_takeLies_14 ?_
  refine R_istore_n dX4_takeLies_15 rfl (by decide) rfl ?_
  refine R_iload_n dX4_takeLies_16 rfl 2 rfl ?_
  refine R_iload_n dX4_takeLies_17 rfl 1 rfl ?_
  refine R_icmp_eq (tgt := 32) dX4_takeLies_18 (by decide) (fun b7 => ?_) (fun b7 => ?_)
  · have hf := hf.1 b7
    refine R_aload_n dX4_takeLies_32 rfl 3 rfl ?_
    refine R_iconst (v := 3) dX4_takeLies_33 (by decide) ?_
    obtain ⟨ob8, hf⟩ := hf
    refine R_callV (ci := 4) (N := mX4_refuse) (as := [.int 3]) (rest := []) (kc2 := 0) (ks2 := 0) dX4_takeLies_34 lmX4_99 oX4_refuse (Nat.le_of_ble_eq_true rfl) rfl rfl (Nat.le_of_ble_eq_true rfl) rfl rfl ob8 ok4 (Call.mono hf ?_)
    rintro _ h9 ⟨rfl, hf⟩
    refine R_aload_n dX4_takeLies_37 rfl 3 rfl ?_
    refine R_dup dX4_takeLies_38 rfl ?_
    obtain ⟨ob10, hf⟩ := hf
    refine G4_2 dX4_takeLies_39 lfX4_35 ob10 ?_
    refine R_iconst (v := 1) dX4_takeLies_42 (by decide) ?_
    refine R_iload_n dX4_takeLies_43 rfl 0 rfl ?_
    refine R_ishl dX4_takeLies_44 ?_
    refine R_ior dX4_takeLies_45 ?_
    refine S4_2 dX4_takeLies_46 lfX4_35 ob10 ?_
    refine R_aload_n dX4_takeLies_49 rfl 3 rfl ?_
    refine G4_3 dX4_takeLies_50 lfX4_21 ob10 ?_
    refine R_eqF (y := gF h9 r0 3) rfl ?_
    obtain ⟨ob11, hf⟩ := hf
    refine G3_15 dX4_takeLies_53 lfX4_168 ob11 ?_
    refine R_eqF (y := gF h9 (gF h9 r0 3) 15) rfl ?_
    refine R_iload_n dX4_takeLies_56 rfl 0 rfl ?_
    refine R_aload_n dX4_takeLies_57 rfl 3 rfl ?_
    refine R_iconst (v := 0) dX4_takeLies_58 (by decide) ?_
    refine R_bipush (v := 100) dX4_takeLies_59 (by decide) ?_
    refine R_callV (ci := 4) (N := mX4_number) (as := [.int 0, .int 100]) (rest := [.int ((z3 * 4) + z6), .ref (gF h9 (gF h9 r0 3) 15)]) (kc2 := 0) (ks2 := 0) dX4_takeLies_61 lmX4_109 oX4_number (Nat.le_of_ble_eq_true rfl) rfl rfl (Nat.le_of_ble_eq_true rfl) rfl rfl ob10 ok4 (Call.mono hf ?_)
    rintro _ h12 ⟨z13, rfl, hf⟩
    obtain ⟨ob14, hf⟩ := hf
    obtain ⟨ob15, hf⟩ := hf
    refine R_iastore dX4_takeLies_64 ob14 ob15 ?_
    exact R_ret dX4_takeLies_65 rfl hf
  · have hf := hf.2 b7
    refine R_aload_n dX4_takeLies_21 rfl 3 rfl ?_
    obtain ⟨ob16, hf⟩ := hf
    refine G4_2 dX4_takeLies_22 lfX4_35 ob16 ?_
    refine R_iload_n dX4_takeLies_25 rfl 0 rfl ?_
    refine R_ishr dX4_takeLies_26 ?_
    refine R_iconst (v := 1) dX4_takeLies_27 (by decide) ?_
    refine R_iand dX4_takeLies_28 ?_
    refine R_if_eq (tgt := 37) dX4_takeLies_29 (by decide) (fun b17 => ?_) (fun b17 => ?_)
    · have hf := hf.1 b17
      refine R_aload_n dX4_takeLies_37 rfl 3 rfl ?_
      refine R_dup dX4_takeLies_38 rfl ?_
      refine G4_2 dX4_takeLies_39 lfX4_35 ob16 ?_
      refine R_iconst (v := 1) dX4_takeLies_42 (by decide) ?_
      refine R_iload_n dX4_takeLies_43 rfl 0 rfl ?_
      refine R_ishl dX4_takeLies_44 ?_
      refine R_ior dX4_takeLies_45 ?_
      refine S4_2 dX4_takeLies_46 lfX4_35 ob16 ?_
      refine R_aload_n dX4_takeLies_49 rfl 3 rfl ?_
      refine G4_3 dX4_takeLies_50 lfX4_21 ob16 ?_
      refine R_eqF (y := gF h5 r0 3) rfl ?_
      obtain ⟨ob18, hf⟩ := hf
      refine G3_15 dX4_takeLies_53 lfX4_168 ob18 ?_
      refine R_eqF (y := gF h5 (gF h5 r0 3) 15) rfl ?_
      refine R_iload_n dX4_takeLies_56 rfl 0 rfl ?_
      refine R_aload_n dX4_takeLies_57 rfl 3 rfl ?_
      refine R_iconst (v := 0) dX4_takeLies_58 (by decide) ?_
      refine R_bipush (v := 100) dX4_takeLies_59 (by decide) ?_
      refine R_callV (ci := 4) (N := mX4_number) (as := [.int 0, .int 100]) (rest := [.int ((z3 * 4) + z6), .ref (gF h5 (gF h5 r0 3) 15)]) (kc2 := 0) (ks2 := 0) dX4_takeLies_61 lmX4_109 oX4_number (Nat.le_of_ble_eq_true rfl) rfl rfl (Nat.le_of_ble_eq_true rfl) rfl rfl ob16 ok4 (Call.mono hf ?_)
      rintro _ h19 ⟨z20, rfl, hf⟩
      obtain ⟨ob21, hf⟩ := hf
      obtain ⟨ob22, hf⟩ := hf
      refine R_iastore dX4_takeLies_64 ob21 ob22 ?_
      exact R_ret dX4_takeLies_65 rfl hf
    · have hf := hf.2 b17
      refine R_aload_n dX4_takeLies_32 rfl 3 rfl ?_
      refine R_iconst (v := 3) dX4_takeLies_33 (by decide) ?_
      refine R_callV (ci := 4) (N := mX4_refuse) (as := [.int 3]) (rest := []) (kc2 := 0) (ks2 := 0) dX4_takeLies_34 lmX4_99 oX4_refuse (Nat.le_of_ble_eq_true rfl) rfl rfl (Nat.le_of_ble_eq_true rfl) rfl rfl ob16 ok4 (Call.mono hf ?_)
      rintro _ h23 ⟨rfl, hf⟩
      refine R_aload_n dX4_takeLies_37 rfl 3 rfl ?_
      refine R_dup dX4_takeLies_38 rfl ?_
      obtain ⟨ob24, hf⟩ := hf
      refine G4_2 dX4_takeLies_39 lfX4_35 ob24 ?_
      refine R_iconst (v := 1) dX4_takeLies_42 (by decide) ?_
      refine R_iload_n dX4_takeLies_43 rfl 0 rfl ?_
      refine R_ishl dX4_takeLies_44 ?_
      refine R_ior dX4_takeLies_45 ?_
      refine S4_2 dX4_takeLies_46 lfX4_35 ob24 ?_
      refine R_aload_n dX4_takeLies_49 rfl 3 rfl ?_
      refine G4_3 dX4_takeLies_50 lfX4_21 ob24 ?_
      refine R_eqF (y := gF h23 r0 3) rfl ?_
      obtain ⟨ob25, hf⟩ := hf
      refine G3_15 dX4_takeLies_53 lfX4_168 ob25 ?_
      refine R_eqF (y := gF h23 (gF h23 r0 3) 15) rfl ?_
      refine R_iload_n dX4_takeLies_56 rfl 0 rfl ?_
      refine R_aload_n dX4_takeLies_57 rfl 3 rfl ?_
      refine R_iconst (v := 0) dX4_takeLies_58 (by decide) ?_
      refine R_bipush (v := 100) dX4_takeLies_59 (by decide) ?_
      refine R_callV (ci := 4) (N := mX4_number) (as := [.int 0, .int 100]) (rest := [.int ((z3 * 4) + z6), .ref (gF h23 (gF h23 r0 3) 15)]) (kc2 := 0) (ks2 := 0) dX4_takeLies_61 lmX4_109 oX4_number (Nat.le_of_ble_eq_true rfl) rfl rfl (Nat.le_of_ble_eq_true rfl) rfl rfl ob24 ok4 (Call.mono hf ?_)
      rintro _ h26 ⟨z27, rfl, hf⟩
      obtain ⟨ob28, hf⟩ := hf
      obtain ⟨ob29, hf⟩ := hf
      refine R_iastore dX4_takeLies_64 ob28 ob29 ?_
      exact R_ret dX4_takeLies_65 rfl hf
theorem dX4_takeScrew_0 : decode cX4_takeScrew 0 = .ok (.aload_n 0, 1) := by decide +kernel
theorem dX4_takeScrew_1 : decode cX4_takeScrew 1 = .ok (.invokevirtual 128, 3) := by decide +kernel
theorem dX4_takeScrew_4 : decode cX4_takeScrew 4 = .ok (.istore_n 1, 1) := by decide +kernel
theorem dX4_takeScrew_5 : decode cX4_takeScrew 5 = .ok (.aload_n 0, 1) := by decide +kernel
theorem dX4_takeScrew_6 : decode cX4_takeScrew 6 = .ok (.getfield 21, 3) := by decide +kernel
theorem dX4_takeScrew_9 : decode cX4_takeScrew 9 = .ok (.getfield 132, 3) := by decide +kernel
theorem dX4_takeScrew_12 : decode cX4_takeScrew 12 = .ok (.iload_n 1, 1) := by decide +kernel
theorem dX4_takeScrew_13 : decode cX4_takeScrew 13 = .ok (.iaload, 1) := by decide +kernel
theorem dX4_takeScrew_14 : decode cX4_takeScrew 14 = .ok (.iconst 3, 1) := by decide +kernel
theorem dX4_takeScrew_15 : decode cX4_takeScrew 15 = .ok (.if_icmp .lt 9, 3) := by decide +kernel
theorem dX4_takeScrew_18 : decode cX4_takeScrew 18 = .ok (.aload_n 0, 1) := by decide +kernel
theorem dX4_takeScrew_19 : decode cX4_takeScrew 19 = .ok (.iconst 4, 1) := by decide +kernel
theorem dX4_takeScrew_20 : decode cX4_takeScrew 20 = .ok (.invokevirtual 99, 3) := by decide +kernel
theorem dX4_takeScrew_23 : decode cX4_takeScrew 23 = .ok (.return_, 1) := by decide +kernel
theorem dX4_takeScrew_24 : decode cX4_takeScrew 24 = .ok (.iconst 0, 1) := by decide +kernel
theorem dX4_takeScrew_25 : decode cX4_takeScrew 25 = .ok (.istore_n 2, 1) := by decide +kernel
theorem dX4_takeScrew_26 : decode cX4_takeScrew 26 = .ok (.iload_n 2, 1) := by decide +kernel
theorem dX4_takeScrew_27 : decode cX4_takeScrew 27 = .ok (.iconst 3, 1) := by decide +kernel
theorem dX4_takeScrew_28 : decode cX4_takeScrew 28 = .ok (.if_icmp .ge 33, 3) := by decide +kernel
theorem dX4_takeScrew_31 : decode cX4_takeScrew 31 = .ok (.aload_n 0, 1) := by decide +kernel
theorem dX4_takeScrew_32 : decode cX4_takeScrew 32 = .ok (.getfield 21, 3) := by decide +kernel
theorem dX4_takeScrew_35 : decode cX4_takeScrew 35 = .ok (.iload_n 1, 1) := by decide +kernel
theorem dX4_takeScrew_36 : decode cX4_takeScrew 36 = .ok (.aload_n 0, 1) := by decide +kernel
theorem dX4_takeScrew_37 : decode cX4_takeScrew 37 = .ok (.getfield 21, 3) := by decide +kernel
theorem dX4_takeScrew_40 : decode cX4_takeScrew 40 = .ok (.getfield 132, 3) := by decide +kernel
theorem dX4_takeScrew_43 : decode cX4_takeScrew 43 = .ok (.iload_n 1, 1) := by decide +kernel
theorem dX4_takeScrew_44 : decode cX4_takeScrew 44 = .ok (.iaload, 1) := by decide +kernel
theorem dX4_takeScrew_45 : decode cX4_takeScrew 45 = .ok (.iload_n 2, 1) := by decide +kernel
theorem dX4_takeScrew_46 : decode cX4_takeScrew 46 = .ok (.aload_n 0, 1) := by decide +kernel
theorem dX4_takeScrew_47 : decode cX4_takeScrew 47 = .ok (.bipush 20, 2) := by decide +kernel
theorem dX4_takeScrew_49 : decode cX4_takeScrew 49 = .ok (.invokevirtual 135, 3) := by decide +kernel
theorem dX4_takeScrew_52 : decode cX4_takeScrew 52 = .ok (.invokevirtual 139, 3) := by decide +kernel
theorem dX4_takeScrew_55 : decode cX4_takeScrew 55 = .ok (.iinc 2 1, 3) := by decide +kernel
theorem dX4_takeScrew_58 : decode cX4_takeScrew 58 = .ok (.goto (-32), 3) := by decide +kernel
theorem dX4_takeScrew_61 : decode cX4_takeScrew 61 = .ok (.aload_n 0, 1) := by decide +kernel
theorem dX4_takeScrew_62 : decode cX4_takeScrew 62 = .ok (.getfield 21, 3) := by decide +kernel
theorem dX4_takeScrew_65 : decode cX4_takeScrew 65 = .ok (.getfield 132, 3) := by decide +kernel
theorem dX4_takeScrew_68 : decode cX4_takeScrew 68 = .ok (.iload_n 1, 1) := by decide +kernel
theorem dX4_takeScrew_69 : decode cX4_takeScrew 69 = .ok (.dup2, 1) := by decide +kernel
theorem dX4_takeScrew_70 : decode cX4_takeScrew 70 = .ok (.iaload, 1) := by decide +kernel
theorem dX4_takeScrew_71 : decode cX4_takeScrew 71 = .ok (.iconst 1, 1) := by decide +kernel
theorem dX4_takeScrew_72 : decode cX4_takeScrew 72 = .ok (.iadd, 1) := by decide +kernel
theorem dX4_takeScrew_73 : decode cX4_takeScrew 73 = .ok (.iastore, 1) := by decide +kernel
theorem dX4_takeScrew_74 : decode cX4_takeScrew 74 = .ok (.return_, 1) := by decide +kernel
set_option maxRecDepth 20000 in
theorem sX4_takeScrew_0 {P : Option Value → AH → Prop} (h : AH) (r0 : Nat) (hf : (isO h 4 r0) ∧ (Call mX4_ink [.ref r0] h (fun v h2 => ∃ z3 : Int32, v = some (.int z3) ∧ ((isO h2 4 r0) ∧ ((isO h2 3 (gF h2 r0 3)) ∧ ((isA h2 0 (gF h2 (gF h2 r0 3) 7)) ∧ ((vp_in z3 (ln (gF h2 (gF h2 r0 3) 7))) ∧ (((gI h2 (gF h2 (gF h2 r0 3) 7) z3.toNatClampNeg) < 3 → Rr mX4_takeScrew 0 0 26 [(0, .ref r0), (1, .int z3), (2, .int 0)] [] h2 P) ∧ (¬ (gI h2 (gF h2 (gF h2 r0 3) 7) z3.toNatClampNeg) < 3 → Call mX4_refuse [.ref r0, .int 4] h2 (fun v h9 => v = none ∧ (P none h9))))))))))) : Rr mX4_takeScrew 0 0 0 [(0, .ref r0)] [] h P := by
  refine R_aload_n dX4_takeScrew_0 rfl 0 rfl ?_
  obtain ⟨ob1, hf⟩ := hf
  refine R_callV (ci := 4) (N := mX4_ink) (as := []) (rest := []) (kc2 := 0) (ks2 := 0) dX4_takeScrew_1 lmX4_128 oX4_ink (Nat.le_of_ble_eq_true rfl) rfl rfl (Nat.le_of_ble_eq_true rfl) rfl rfl ob1 ok4 (Call.mono hf ?_)
  rintro _ h2 ⟨z3, rfl, hf⟩
  refine R_istore_n dX4_takeScrew_4 rfl (by decide) rfl ?_
  refine R_aload_n dX4_takeScrew_5 rfl 1 rfl ?_
  obtain ⟨ob4, hf⟩ := hf
  refine G4_3 dX4_takeScrew_6 lfX4_21 ob4 ?_
  obtain ⟨ob5, hf⟩ := hf
  refine G3_7 dX4_takeScrew_9 lfX4_132 ob5 ?_
  refine R_iload_n dX4_takeScrew_12 rfl 0 rfl ?_
  obtain ⟨ob6, hf⟩ := hf
  obtain ⟨ob7, hf⟩ := hf
  refine R_iaload dX4_takeScrew_13 ob6 ob7 ?_
  refine R_iconst (v := 3) dX4_takeScrew_14 (by decide) ?_
  refine R_icmp_lt (tgt := 24) dX4_takeScrew_15 (by decide) (fun b8 => ?_) (fun b8 => ?_)
  · have hf := hf.1 b8
    refine R_iconst (v := 0) dX4_takeScrew_24 (by decide) ?_
    refine R_istore_n dX4_takeScrew_25 rfl (by decide) rfl ?_
    exact R_sub [2, 1, 0] rfl hf
  · have hf := hf.2 b8
    refine R_aload_n dX4_takeScrew_18 rfl 1 rfl ?_
    refine R_iconst (v := 4) dX4_takeScrew_19 (by decide) ?_
    refine R_callV (ci := 4) (N := mX4_refuse) (as := [.int 4]) (rest := []) (kc2 := 0) (ks2 := 0) dX4_takeScrew_20 lmX4_99 oX4_refuse (Nat.le_of_ble_eq_true rfl) rfl rfl (Nat.le_of_ble_eq_true rfl) rfl rfl ob4 ok4 (Call.mono hf ?_)
    rintro _ h9 ⟨rfl, hf⟩
    exact R_ret dX4_takeScrew_23 rfl hf
set_option maxRecDepth 20000 in
theorem sX4_takeScrew_26 {P : Option Value → AH → Prop} (h : AH) (r0 : Nat) (x1 : Int32) (x2 : Int32) (hf : (3 ≤ x2 → (isO h 4 r0) ∧ ((isO h 3 (gF h r0 3)) ∧ ((isA h 0 (gF h (gF h r0 3) 7)) ∧ ((vp_in x1 (ln (gF h (gF h r0 3) 7))) ∧ (P none (sI h (gF h (gF h r0 3) 7) x1.toNatClampNeg ((gI h (gF h (gF h r0 3) 7) x1.toNatClampNeg) + 1))))))) ∧ (¬ 3 ≤ x2 → (isO h 4 r0) ∧ ((isO h 3 (gF h r0 3)) ∧ ((isA h 0 (gF h (gF h r0 3) 7)) ∧ ((vp_in x1 (ln (gF h (gF h r0 3) 7))) ∧ (Call mX4_signedNumber [.ref r0, .int 20] h (fun v h10 => ∃ z11 : Int32, v = some (.int z11) ∧ ((isO h10 3 (gF h r0 3)) ∧ (Call mX3_putScrewNumber [.ref (gF h r0 3), .int x1, .int (gI h (gF h (gF h r0 3) 7) x1.toNatClampNeg), .int x2, .int z11] h10 (fun v h13 => v = none ∧ (Rr mX4_takeScrew 0 0 26 [(0, .ref r0), (1, .int x1), (2, .int (x2 + 1))] [] h13 P))))))))))) : Rr mX4_takeScrew 0 0 26 [(0, .ref r0), (1, .int x1), (2, .int x2)] [] h P := by
  refine R_iload_n dX4_takeScrew_26 rfl 2 rfl ?_
  refine R_iconst (v := 3) dX4_takeScrew_27 (by decide) ?_
  refine R_icmp_ge (tgt := 61) dX4_takeScrew_28 (by decide) (fun b1 => ?_) (fun b1 => ?_)
  · have hf := hf.1 b1
    refine R_aload_n dX4_takeScrew_61 rfl 0 rfl ?_
    obtain ⟨ob2, hf⟩ := hf
    refine G4_3 dX4_takeScrew_62 lfX4_21 ob2 ?_
    obtain ⟨ob3, hf⟩ := hf
    refine G3_7 dX4_takeScrew_65 lfX4_132 ob3 ?_
    refine R_iload_n dX4_takeScrew_68 rfl 1 rfl ?_
    refine R_dup2 dX4_takeScrew_69 rfl rfl ?_
    obtain ⟨ob4, hf⟩ := hf
    obtain ⟨ob5, hf⟩ := hf
    refine R_iaload dX4_takeScrew_70 ob4 ob5 ?_
    refine R_iconst (v := 1) dX4_takeScrew_71 (by decide) ?_
    refine R_iadd dX4_takeScrew_72 ?_
    refine R_iastore dX4_takeScrew_73 ob4 ob5 ?_
    exact R_ret dX4_takeScrew_74 rfl hf
  · have hf := hf.2 b1
    refine R_aload_n dX4_takeScrew_31 rfl 0 rfl ?_
    obtain ⟨ob6, hf⟩ := hf
    refine G4_3 dX4_takeScrew_32 lfX4_21 ob6 ?_
    refine R_iload_n dX4_takeScrew_35 rfl 1 rfl ?_
    refine R_aload_n dX4_takeScrew_36 rfl 0 rfl ?_
    refine G4_3 dX4_takeScrew_37 lfX4_21 ob6 ?_
    obtain ⟨ob7, hf⟩ := hf
    refine G3_7 dX4_takeScrew_40 lfX4_132 ob7 ?_
    refine R_iload_n dX4_takeScrew_43 rfl 1 rfl ?_
    obtain ⟨ob8, hf⟩ := hf
    obtain ⟨ob9, hf⟩ := hf
    refine R_iaload dX4_takeScrew_44 ob8 ob9 ?_
    refine R_iload_n dX4_takeScrew_45 rfl 2 rfl ?_
    refine R_aload_n dX4_takeScrew_46 rfl 0 rfl ?_
    refine R_bipush (v := 20) dX4_takeScrew_47 (by decide) ?_
    refine R_callV (ci := 4) (N := mX4_signedNumber) (as := [.int 20]) (rest := [.int x2, .int (gI h (gF h (gF h r0 3) 7) x1.toNatClampNeg), .int x1, .ref (gF h r0 3)]) (kc2 := 0) (ks2 := 0) dX4_takeScrew_49 lmX4_135 oX4_signedNumber (Nat.le_of_ble_eq_true rfl) rfl rfl (Nat.le_of_ble_eq_true rfl) rfl rfl ob6 ok4 (Call.mono hf ?_)
    rintro _ h10 ⟨z11, rfl, hf⟩
    obtain ⟨ob12, hf⟩ := hf
    refine R_callV (ci := 3) (N := mX3_putScrewNumber) (as := [.int x1, .int (gI h (gF h (gF h r0 3) 7) x1.toNatClampNeg), .int x2, .int z11]) (rest := []) (kc2 := 0) (ks2 := 0) dX4_takeScrew_52 lmX4_139 oX3_putScrewNumber (Nat.le_of_ble_eq_true rfl) rfl rfl (Nat.le_of_ble_eq_true rfl) rfl rfl ob12 ok3 (Call.mono hf ?_)
    rintro _ h13 ⟨rfl, hf⟩
    refine R_iinc (v := x2 + 1) dX4_takeScrew_55 2 rfl rfl (by decide) rfl ?_
    refine R_goto (tgt := 26) dX4_takeScrew_58 (by decide) ?_
    exact R_sub [1, 2, 0] rfl hf
theorem dX12_readScrew_0 : decode cX12_readScrew 0 = .ok (.aload_n 0, 1) := by decide +kernel
theorem dX12_readScrew_1 : decode cX12_readScrew 1 = .ok (.invokevirtual 169, 3) := by decide +kernel
theorem dX12_readScrew_4 : decode cX12_readScrew 4 = .ok (.aload_n 0, 1) := by decide +kernel
theorem dX12_readScrew_5 : decode cX12_readScrew 5 = .ok (.invokevirtual 221, 3) := by decide +kernel
theorem dX12_readScrew_8 : decode cX12_readScrew 8 = .ok (.ifCond .ne 9, 3) := by decide +kernel
theorem dX12_readScrew_11 : decode cX12_readScrew 11 = .ok (.aload_n 0, 1) := by decide +kernel
theorem dX12_readScrew_12 : decode cX12_readScrew 12 = .ok (.iconst 1, 1) := by decide +kernel
theorem dX12_readScrew_13 : decode cX12_readScrew 13 = .ok (.invokevirtual 175, 3) := by decide +kernel
theorem dX12_readScrew_16 : decode cX12_readScrew 16 = .ok (.ireturn, 1) := by decide +kernel
theorem dX12_readScrew_17 : decode cX12_readScrew 17 = .ok (.aload_n 0, 1) := by decide +kernel
theorem dX12_readScrew_18 : decode cX12_readScrew 18 = .ok (.getfield 149, 3) := by decide +kernel
theorem dX12_readScrew_21 : decode cX12_readScrew 21 = .ok (.istore_n 1, 1) := by decide +kernel
theorem dX12_readScrew_22 : decode cX12_readScrew 22 = .ok (.aload_n 0, 1) := by decide +kernel
theorem dX12_readScrew_23 : decode cX12_readScrew 23 = .ok (.getfield 27, 3) := by decide +kernel
theorem dX12_readScrew_26 : decode cX12_readScrew 26 = .ok (.iconst 4, 1) := by decide +kernel
theorem dX12_readScrew_27 : decode cX12_readScrew 27 = .ok (.iload_n 1, 1) := by decide +kernel
theorem dX12_readScrew_28 : decode cX12_readScrew 28 = .ok (.iadd, 1) := by decide +kernel
theorem dX12_readScrew_29 : decode cX12_readScrew 29 = .ok (.iaload, 1) := by decide +kernel
theorem dX12_readScrew_30 : decode cX12_readScrew 30 = .ok (.istore_n 2, 1) := by decide +kernel
theorem dX12_readScrew_31 : decode cX12_readScrew 31 = .ok (.iload_n 2, 1) := by decide +kernel
theorem dX12_readScrew_32 : decode cX12_readScrew 32 = .ok (.iconst 3, 1) := by decide +kernel
theorem dX12_readScrew_33 : decode cX12_readScrew 33 = .ok (.if_icmp .ne 9, 3) := by decide +kernel
theorem dX12_readScrew_36 : decode cX12_readScrew 36 = .ok (.aload_n 0, 1) := by decide +kernel
theorem dX12_readScrew_37 : decode cX12_readScrew 37 = .ok (.iconst 4, 1) := by decide +kernel
theorem dX12_readScrew_38 : decode cX12_readScrew 38 = .ok (.invokevirtual 175, 3) := by decide +kernel
theorem dX12_readScrew_41 : decode cX12_readScrew 41 = .ok (.ireturn, 1) := by decide +kernel
theorem dX12_readScrew_42 : decode cX12_readScrew 42 = .ok (.aload_n 0, 1) := by decide +kernel
theorem dX12_readScrew_43 : decode cX12_readScrew 43 = .ok (.invokevirtual 169, 3) := by decide +kernel
theorem dX12_readScrew_46 : decode cX12_readScrew 46 = .ok (.iconst 0, 1) := by decide +kernel
theorem dX12_readScrew_47 : decode cX12_readScrew 47 = .ok (.istore_n 3, 1) := by decide +kernel
theorem dX12_readScrew_48 : decode cX12_readScrew 48 = .ok (.iload_n 3, 1) := by decide +kernel
theorem dX12_readScrew_49 : decode cX12_readScrew 49 = .ok (.iconst 3, 1) := by decide +kernel
theorem dX12_readScrew_50 : decode cX12_readScrew 50 = .ok (.if_icmp .ge 42, 3) := by decide +kernel
theorem dX12_readScrew_53 : decode cX12_readScrew 53 = .ok (.aload_n 0, 1) := by decide +kernel
theorem dX12_readScrew_54 : decode cX12_readScrew 54 = .ok (.bipush 20, 2) := by decide +kernel
theorem dX12_readScrew_56 : decode cX12_readScrew 56 = .ok (.invokevirtual 225, 3) := by decide +kernel
theorem dX12_readScrew_59 : decode cX12_readScrew 59 = .ok (.ifCond .ne 5, 3) := by decide +kernel
theorem dX12_readScrew_62 : decode cX12_readScrew 62 = .ok (.iconst 0, 1) := by decide +kernel
theorem dX12_readScrew_63 : decode cX12_readScrew 63 = .ok (.ireturn, 1) := by decide +kernel
theorem dX12_readScrew_64 : decode cX12_readScrew 64 = .ok (.aload_n 0, 1) := by decide +kernel
theorem dX12_readScrew_65 : decode cX12_readScrew 65 = .ok (.getfield 30, 3) := by decide +kernel
theorem dX12_readScrew_68 : decode cX12_readScrew 68 = .ok (.bipush 36, 2) := by decide +kernel
theorem dX12_readScrew_70 : decode cX12_readScrew 70 = .ok (.bipush 9, 2) := by decide +kernel
theorem dX12_readScrew_72 : decode cX12_readScrew 72 = .ok (.iload_n 1, 1) := by decide +kernel
theorem dX12_readScrew_73 : decode cX12_readScrew 73 = .ok (.imul, 1) := by decide +kernel
theorem dX12_readScrew_74 : decode cX12_readScrew 74 = .ok (.iadd, 1) := by decide +kernel
theorem dX12_readScrew_75 : decode cX12_readScrew 75 = .ok (.iconst 3, 1) := by decide +kernel
theorem dX12_readScrew_76 : decode cX12_readScrew 76 = .ok (.iload_n 2, 1) := by decide +kernel
theorem dX12_readScrew_77 : decode cX12_readScrew 77 = .ok (.imul, 1) := by decide +kernel
theorem dX12_readScrew_78 : decode cX12_readScrew 78 = .ok (.iadd, 1) := by decide +kernel
theorem dX12_readScrew_79 : decode cX12_readScrew 79 = .ok (.iload_n 3, 1) := by decide +kernel
theorem dX12_readScrew_80 : decode cX12_readScrew 80 = .ok (.iadd, 1) := by decide +kernel
theorem dX12_readScrew_81 : decode cX12_readScrew 81 = .ok (.aload_n 0, 1) := by decide +kernel
theorem dX12_readScrew_82 : decode cX12_readScrew 82 = .ok (.getfield 182, 3) := by decide +kernel
theorem dX12_readScrew_85 : decode cX12_readScrew 85 = .ok (.iastore, 1) := by decide +kernel
theorem dX12_readScrew_86 : decode cX12_readScrew 86 = .ok (.iinc 3 1, 3) := by decide +kernel
theorem dX12_readScrew_89 : decode cX12_readScrew 89 = .ok (.goto (-41), 3) := by decide +kernel
theorem dX12_readScrew_92 : decode cX12_readScrew 92 = .ok (.aload_n 0, 1) := by decide +kernel
theorem dX12_readScrew_93 : decode cX12_readScrew 93 = .ok (.getfield 27, 3) := by decide +kernel
theorem dX12_readScrew_96 : decode cX12_readScrew 96 = .ok (.iconst 4, 1) := by decide +kernel
theorem dX12_readScrew_97 : decode cX12_readScrew 97 = .ok (.iload_n 1, 1) := by decide +kernel
theorem dX12_readScrew_98 : decode cX12_readScrew 98 = .ok (.iadd, 1) := by decide +kernel
theorem dX12_readScrew_99 : decode cX12_readScrew 99 = .ok (.dup2, 1) := by decide +kernel
theorem dX12_readScrew_100 : decode cX12_readScrew 100 = .ok (.iaload, 1) := by decide +kernel
theorem dX12_readScrew_101 : decode cX12_readScrew 101 = .ok (.iconst 1, 1) := by decide +kernel
theorem dX12_readScrew_102 : decode cX12_readScrew 102 = .ok (.iadd, 1) := by decide +kernel
theorem dX12_readScrew_103 : decode cX12_readScrew 103 = .ok (.iastore, 1) := by decide +kernel
theorem dX12_readScrew_104 : decode cX12_readScrew 104 = .ok (.iconst 1, 1) := by decide +kernel
theorem dX12_readScrew_105 : decode cX12_readScrew 105 = .ok (.ireturn, 1) := by decide +kernel
set_option maxRecDepth 20000 in
theorem sX12_readScrew_0 {P : Option Value → AH → Prop} (h : AH) (r0 : Nat) (hf : (isO h 12 r0) ∧ (Call mX12_scan [.ref r0] h (fun v h2 => v = none ∧ ((isO h2 12 r0) ∧ ((((gI h2 r0 3) = 1 ∧ (¬ (gI h2 r0 4) < 0 ∧ ¬ 3 < (gI h2 r0 4))) → (isA h2 0 (gF h2 r0 14)) ∧ ((vp_in (4 + (gI h2 r0 4)) (ln (gF h2 r0 14))) ∧ ((¬ (gI h2 (gF h2 r0 14) (4 + (gI h2 r0 4)).toNatClampNeg) = 3 → Call mX12_scan [.ref r0] h2 (fun v h8 => v = none ∧ (Rr mX12_readScrew 0 0 48 [(0, .ref r0), (1, .int (gI h2 r0 4)), (2, .int (gI h2 (gF h2 r0 14) (4 + (gI h2 r0 4)).toNatClampNeg)), (3, .int 0)] [] h8 P))) ∧ ((gI h2 (gF h2 r0 14) (4 + (gI h2 r0 4)).toNatClampNeg) = 3 → Call mX12_fails [.ref r0, .int 4] h2 (fun v h9 => ∃ z10 : Int32, v = some (.int z10) ∧ ((z10 = 0 ∨ z10 = 1) ∧ (P (some (.int z10)) h9))))))) ∧ (¬ ((gI h2 r0 3) = 1 ∧ (¬ (gI h2 r0 4) < 0 ∧ ¬ 3 < (gI h2 r0 4))) → Call mX12_fails [.ref r0, .int 1] h2 (fun v h12 => ∃ z13 : Int32, v = some (.int z13) ∧ ((z13 = 0 ∨ z13 = 1) ∧ (P (some (.int z13)) h12))))))))) : Rr mX12_readScrew 0 0 0 [(0, .ref r0)] [] h P := by
  refine R_aload_n dX12_readScrew_0 rfl 0 rfl ?_
  obtain ⟨ob1, hf⟩ := hf
  refine R_callV (ci := 12) (N := mX12_scan) (as := []) (rest := []) (kc2 := 0) (ks2 := 0) dX12_readScrew_1 lmX12_169 oX12_scan (Nat.le_of_ble_eq_true rfl) rfl rfl (Nat.le_of_ble_eq_true rfl) rfl rfl ob1 ok12 (Call.mono hf ?_)
  rintro _ h2 ⟨rfl, hf⟩
  refine R_aload_n dX12_readScrew_4 rfl 0 rfl ?_
  obtain ⟨ob3, hf⟩ := hf
  refine R_callV (ci := 12) (N := mX12_isInk) (as := []) (rest := []) (kc2 := 0) (ks2 := 0) dX12_readScrew_5 lmX12_221 oX12_isInk (Nat.le_of_ble_eq_true rfl) rfl rfl (Nat.le_of_ble_eq_true rfl) rfl rfl ob3 ok12 (aX12_isInk ob3 ?_)
  refine R_if_ne_b (tgt := 17) dX12_readScrew_8 (by decide) (fun b4 => ?_) (fun b4 => ?_)
  · have hf := hf.1 b4
    refine R_aload_n dX12_readScrew_17 rfl 0 rfl ?_
    refine G12_4 dX12_readScrew_18 lfX12_149 ob3 ?_
    refine R_istore_n dX12_readScrew_21 rfl (by decide) rfl ?_
    refine R_aload_n dX12_readScrew_22 rfl 1 rfl ?_
    refine G12_14 dX12_readScrew_23 lfX12_27 ob3 ?_
    refine R_iconst (v := 4) dX12_readScrew_26 (by decide) ?_
    refine R_iload_n dX12_readScrew_27 rfl 0 rfl ?_
    refine R_iadd dX12_readScrew_28 ?_
    obtain ⟨ob5, hf⟩ := hf
    obtain ⟨ob6, hf⟩ := hf
    refine R_iaload dX12_readScrew_29 ob5 ob6 ?_
    refine R_istore_n dX12_readScrew_30 rfl (by decide) rfl ?_
    refine R_iload_n dX12_readScrew_31 rfl 0 rfl ?_
    refine R_iconst (v := 3) dX12_readScrew_32 (by decide) ?_
    refine R_icmp_ne (tgt := 42) dX12_readScrew_33 (by decide) (fun b7 => ?_) (fun b7 => ?_)
    · have hf := hf.1 b7
      refine R_aload_n dX12_readScrew_42 rfl 2 rfl ?_
      refine R_callV (ci := 12) (N := mX12_scan) (as := []) (rest := []) (kc2 := 0) (ks2 := 0) dX12_readScrew_43 lmX12_169 oX12_scan (Nat.le_of_ble_eq_true rfl) rfl rfl (Nat.le_of_ble_eq_true rfl) rfl rfl ob3 ok12 (Call.mono hf ?_)
      rintro _ h8 ⟨rfl, hf⟩
      refine R_iconst (v := 0) dX12_readScrew_46 (by decide) ?_
      refine R_istore_n dX12_readScrew_47 rfl (by decide) rfl ?_
      exact R_sub [3, 2, 1, 0] rfl hf
    · have hf := hf.2 b7
      refine R_aload_n dX12_readScrew_36 rfl 2 rfl ?_
      refine R_iconst (v := 4) dX12_readScrew_37 (by decide) ?_
      refine R_callV (ci := 12) (N := mX12_fails) (as := [.int 4]) (rest := []) (kc2 := 0) (ks2 := 0) dX12_readScrew_38 lmX12_175 oX12_fails (Nat.le_of_ble_eq_true rfl) rfl rfl (Nat.le_of_ble_eq_true rfl) rfl rfl ob3 ok12 (Call.mono hf ?_)
      rintro _ h9 ⟨z10, rfl, hf⟩
      obtain ⟨ob11, hf⟩ := hf
      exact R_iret dX12_readScrew_41 rfl (nb_n ob11) hf
  · have hf := hf.2 b4
    refine R_aload_n dX12_readScrew_11 rfl 0 rfl ?_
    refine R_iconst (v := 1) dX12_readScrew_12 (by decide) ?_
    refine R_callV (ci := 12) (N := mX12_fails) (as := [.int 1]) (rest := []) (kc2 := 0) (ks2 := 0) dX12_readScrew_13 lmX12_175 oX12_fails (Nat.le_of_ble_eq_true rfl) rfl rfl (Nat.le_of_ble_eq_true rfl) rfl rfl ob3 ok12 (Call.mono hf ?_)
    rintro _ h12 ⟨z13, rfl, hf⟩
    obtain ⟨ob14, hf⟩ := hf
    exact R_iret dX12_readScrew_16 rfl (nb_n ob14) hf
set_option maxRecDepth 20000 in
theorem sX12_readScrew_48 {P : Option Value → AH → Prop} (h : AH) (r0 : Nat) (x1 : Int32) (x2 : Int32) (x3 : Int32) (hf : (3 ≤ x3 → (isO h 12 r0) ∧ ((isA h 0 (gF h r0 14)) ∧ ((vp_in (4 + x1) (ln (gF h r0 14))) ∧ (P (some (.int 1)) (sI h (gF h r0 14) (4 + x1).toNatClampNeg ((gI h (gF h r0 14) (4 + x1).toNatClampNeg) + 1)))))) ∧ (¬ 3 ≤ x3 → (isO h 12 r0) ∧ (Call mX12_readSigned [.ref r0, .int 20] h (fun v h6 => ∃ z7 : Int32, v = some (.int z7) ∧ ((¬ z7 = 0 → (isO h6 12 r0) ∧ ((isA h6 0 (gF h6 r0 15)) ∧ ((vp_in (((36 + (9 * x1)) + (3 * x2)) + x3) (ln (gF h6 r0 15))) ∧ (Rr mX12_readScrew 0 0 48 [(0, .ref r0), (1, .int x1), (2, .int x2), (3, .int (x3 + 1))] [] (sI h6 (gF h6 r0 15) (((36 + (9 * x1)) + (3 * x2)) + x3).toNatClampNeg (gI h6 r0 10)) P)))) ∧ (z7 = 0 → P (some (.int 0)) h6)))))) : Rr mX12_readScrew 0 0 48 [(0, .ref r0), (1, .int x1), (2, .int x2), (3, .int x3)] [] h P := by
  refine R_iload_n dX12_readScrew_48 rfl 3 rfl ?_
  refine R_iconst (v := 3) dX12_readScrew_49 (by decide) ?_
  refine R_icmp_ge (tgt := 92) dX12_readScrew_50 (by decide) (fun b1 => ?_) (fun b1 => ?_)
  · have hf := hf.1 b1
    refine R_aload_n dX12_readScrew_92 rfl 0 rfl ?_
    obtain ⟨ob2, hf⟩ := hf
    refine G12_14 dX12_readScrew_93 lfX12_27 ob2 ?_
    refine R_iconst (v := 4) dX12_readScrew_96 (by decide) ?_
    refine R_iload_n dX12_readScrew_97 rfl 1 rfl ?_
    refine R_iadd dX12_readScrew_98 ?_
    refine R_dup2 dX12_readScrew_99 rfl rfl ?_
    obtain ⟨ob3, hf⟩ := hf
    obtain ⟨ob4, hf⟩ := hf
    refine R_iaload dX12_readScrew_100 ob3 ob4 ?_
    refine R_iconst (v := 1) dX12_readScrew_101 (by decide) ?_
    refine R_iadd dX12_readScrew_102 ?_
    refine R_iastore dX12_readScrew_103 ob3 ob4 ?_
    refine R_iconst (v := 1) dX12_readScrew_104 (by decide) ?_
    exact R_iret dX12_readScrew_105 rfl rfl hf
  · have hf := hf.2 b1
    refine R_aload_n dX12_readScrew_53 rfl 0 rfl ?_
    refine R_bipush (v := 20) dX12_readScrew_54 (by decide) ?_
    obtain ⟨ob5, hf⟩ := hf
    refine R_callV (ci := 12) (N := mX12_readSigned) (as := [.int 20]) (rest := []) (kc2 := 0) (ks2 := 0) dX12_readScrew_56 lmX12_225 oX12_readSigned (Nat.le_of_ble_eq_true rfl) rfl rfl (Nat.le_of_ble_eq_true rfl) rfl rfl ob5 ok12 (Call.mono hf ?_)
    rintro _ h6 ⟨z7, rfl, hf⟩
    refine R_if_ne (tgt := 64) dX12_readScrew_59 (by decide) (fun b8 => ?_) (fun b8 => ?_)
    · have hf := hf.1 b8
      refine R_aload_n dX12_readScrew_64 rfl 0 rfl ?_
      obtain ⟨ob9, hf⟩ := hf
      refine G12_15 dX12_readScrew_65 lfX12_30 ob9 ?_
      refine R_bipush (v := 36) dX12_readScrew_68 (by decide) ?_
      refine R_bipush (v := 9) dX12_readScrew_70 (by decide) ?_
      refine R_iload_n dX12_readScrew_72 rfl 1 rfl ?_
      refine R_imul dX12_readScrew_73 ?_
      refine R_iadd dX12_readScrew_74 ?_
      refine R_iconst (v := 3) dX12_readScrew_75 (by decide) ?_
      refine R_iload_n dX12_readScrew_76 rfl 2 rfl ?_
      refine R_imul dX12_readScrew_77 ?_
      refine R_iadd dX12_readScrew_78 ?_
      refine R_iload_n dX12_readScrew_79 rfl 3 rfl ?_
      refine R_iadd dX12_readScrew_80 ?_
      refine R_aload_n dX12_readScrew_81 rfl 0 rfl ?_
      refine G12_10 dX12_readScrew_82 lfX12_182 ob9 ?_
      obtain ⟨ob10, hf⟩ := hf
      obtain ⟨ob11, hf⟩ := hf
      refine R_iastore dX12_readScrew_85 ob10 ob11 ?_
      refine R_iinc (v := x3 + 1) dX12_readScrew_86 3 rfl rfl (by decide) rfl ?_
      refine R_goto (tgt := 48) dX12_readScrew_89 (by decide) ?_
      exact R_sub [1, 2, 3, 0] rfl hf
    · have hf := hf.2 b8
      refine R_iconst (v := 0) dX12_readScrew_62 (by decide) ?_
      exact R_iret dX12_readScrew_63 rfl rfl hf
theorem dX4_takeClause_0 : decode cX4_takeClause 0 = .ok (.aload_n 0, 1) := by decide +kernel
theorem dX4_takeClause_1 : decode cX4_takeClause 1 = .ok (.getfield 12, 3) := by decide +kernel
theorem dX4_takeClause_4 : decode cX4_takeClause 4 = .ok (.ldc 59, 2) := by decide +kernel
theorem dX4_takeClause_6 : decode cX4_takeClause 6 = .ok (.invokevirtual 61, 3) := by decide +kernel
theorem dX4_takeClause_9 : decode cX4_takeClause 9 = .ok (.tableswitch 164 0 9 #[55, 62, 79, 95, 112, 129, 136, 143, 150, 157], 55) := by decide +kernel
theorem dX4_takeClause_64 : decode cX4_takeClause 64 = .ok (.aload_n 0, 1) := by decide +kernel
theorem dX4_takeClause_65 : decode cX4_takeClause 65 = .ok (.invokevirtual 65, 3) := by decide +kernel
theorem dX4_takeClause_68 : decode cX4_takeClause 68 = .ok (.goto 110, 3) := by decide +kernel
theorem dX4_takeClause_71 : decode cX4_takeClause 71 = .ok (.aload_n 0, 1) := by decide +kernel
theorem dX4_takeClause_72 : decode cX4_takeClause 72 = .ok (.getfield 21, 3) := by decide +kernel
theorem dX4_takeClause_75 : decode cX4_takeClause 75 = .ok (.aload_n 0, 1) := by decide +kernel
theorem dX4_takeClause_76 : decode cX4_takeClause 76 = .ok (.iconst 1, 1) := by decide +kernel
theorem dX4_takeClause_77 : decode cX4_takeClause 77 = .ok (.bipush 9, 2) := by decide +kernel
theorem dX4_takeClause_79 : decode cX4_takeClause 79 = .ok (.invokevirtual 68, 3) := by decide +kernel
theorem dX4_takeClause_82 : decode cX4_takeClause 82 = .ok (.putfield 72, 3) := by decide +kernel
theorem dX4_takeClause_85 : decode cX4_takeClause 85 = .ok (.goto 93, 3) := by decide +kernel
theorem dX4_takeClause_88 : decode cX4_takeClause 88 = .ok (.aload_n 0, 1) := by decide +kernel
theorem dX4_takeClause_89 : decode cX4_takeClause 89 = .ok (.getfield 21, 3) := by decide +kernel
theorem dX4_takeClause_92 : decode cX4_takeClause 92 = .ok (.aload_n 0, 1) := by decide +kernel
theorem dX4_takeClause_93 : decode cX4_takeClause 93 = .ok (.iconst 2, 1) := by decide +kernel
theorem dX4_takeClause_94 : decode cX4_takeClause 94 = .ok (.iconst 4, 1) := by decide +kernel
theorem dX4_takeClause_95 : decode cX4_takeClause 95 = .ok (.invokevirtual 68, 3) := by decide +kernel
theorem dX4_takeClause_98 : decode cX4_takeClause 98 = .ok (.putfield 75, 3) := by decide +kernel
theorem dX4_takeClause_101 : decode cX4_takeClause 101 = .ok (.goto 77, 3) := by decide +kernel
theorem dX4_takeClause_104 : decode cX4_takeClause 104 = .ok (.aload_n 0, 1) := by decide +kernel
theorem dX4_takeClause_105 : decode cX4_takeClause 105 = .ok (.getfield 21, 3) := by decide +kernel
theorem dX4_takeClause_108 : decode cX4_takeClause 108 = .ok (.aload_n 0, 1) := by decide +kernel
theorem dX4_takeClause_109 : decode cX4_takeClause 109 = .ok (.iconst 3, 1) := by decide +kernel
theorem dX4_takeClause_110 : decode cX4_takeClause 110 = .ok (.bipush 99, 2) := by decide +kernel
theorem dX4_takeClause_112 : decode cX4_takeClause 112 = .ok (.invokevirtual 68, 3) := by decide +kernel
theorem dX4_takeClause_115 : decode cX4_takeClause 115 = .ok (.putfield 78, 3) := by decide +kernel
theorem dX4_takeClause_118 : decode cX4_takeClause 118 = .ok (.goto 60, 3) := by decide +kernel
theorem dX4_takeClause_121 : decode cX4_takeClause 121 = .ok (.aload_n 0, 1) := by decide +kernel
theorem dX4_takeClause_122 : decode cX4_takeClause 122 = .ok (.getfield 21, 3) := by decide +kernel
theorem dX4_takeClause_125 : decode cX4_takeClause 125 = .ok (.aload_n 0, 1) := by decide +kernel
theorem dX4_takeClause_126 : decode cX4_takeClause 126 = .ok (.iconst 4, 1) := by decide +kernel
theorem dX4_takeClause_127 : decode cX4_takeClause 127 = .ok (.bipush 99, 2) := by decide +kernel
theorem dX4_takeClause_129 : decode cX4_takeClause 129 = .ok (.invokevirtual 68, 3) := by decide +kernel
theorem dX4_takeClause_132 : decode cX4_takeClause 132 = .ok (.putfield 81, 3) := by decide +kernel
theorem dX4_takeClause_135 : decode cX4_takeClause 135 = .ok (.goto 43, 3) := by decide +kernel
theorem dX4_takeClause_138 : decode cX4_takeClause 138 = .ok (.aload_n 0, 1) := by decide +kernel
theorem dX4_takeClause_139 : decode cX4_takeClause 139 = .ok (.invokevirtual 84, 3) := by decide +kernel
theorem dX4_takeClause_142 : decode cX4_takeClause 142 = .ok (.goto 36, 3) := by decide +kernel
theorem dX4_takeClause_145 : decode cX4_takeClause 145 = .ok (.aload_n 0, 1) := by decide +kernel
theorem dX4_takeClause_146 : decode cX4_takeClause 146 = .ok (.invokevirtual 87, 3) := by decide +kernel
theorem dX4_takeClause_149 : decode cX4_takeClause 149 = .ok (.goto 29, 3) := by decide +kernel
theorem dX4_takeClause_152 : decode cX4_takeClause 152 = .ok (.aload_n 0, 1) := by decide +kernel
theorem dX4_takeClause_153 : decode cX4_takeClause 153 = .ok (.invokevirtual 90, 3) := by decide +kernel
theorem dX4_takeClause_156 : decode cX4_takeClause 156 = .ok (.goto 22, 3) := by decide +kernel
theorem dX4_takeClause_159 : decode cX4_takeClause 159 = .ok (.aload_n 0, 1) := by decide +kernel
theorem dX4_takeClause_160 : decode cX4_takeClause 160 = .ok (.invokevirtual 93, 3) := by decide +kernel
theorem dX4_takeClause_163 : decode cX4_takeClause 163 = .ok (.goto 15, 3) := by decide +kernel
theorem dX4_takeClause_166 : decode cX4_takeClause 166 = .ok (.aload_n 0, 1) := by decide +kernel
theorem dX4_takeClause_167 : decode cX4_takeClause 167 = .ok (.invokevirtual 96, 3) := by decide +kernel
theorem dX4_takeClause_170 : decode cX4_takeClause 170 = .ok (.goto 8, 3) := by decide +kernel
theorem dX4_takeClause_173 : decode cX4_takeClause 173 = .ok (.aload_n 0, 1) := by decide +kernel
theorem dX4_takeClause_174 : decode cX4_takeClause 174 = .ok (.iconst 1, 1) := by decide +kernel
theorem dX4_takeClause_175 : decode cX4_takeClause 175 = .ok (.invokevirtual 99, 3) := by decide +kernel
theorem dX4_takeClause_178 : decode cX4_takeClause 178 = .ok (.return_, 1) := by decide +kernel
set_option maxRecDepth 20000 in
theorem sX4_takeClause_0 {P : Option Value → AH → Prop} (h : AH) (r0 : Nat) (hf : (isO h 4 r0) ∧ ((isO h 9 (gF h r0 0)) ∧ (Call mX9_wordIn [.ref (gF h r0 0), .ref (1000 + 0)] h (fun v h3 => ∃ z4 : Int32, v = some (.int z4) ∧ ((z4 = 0 → (isO h3 4 r0) ∧ (Call mX4_takeSheet [.ref r0] h3 (fun v h7 => v = none ∧ (P none h7)))) ∧ (¬ z4 = 0 → (z4 = 1 → (isO h3 4 r0) ∧ (Call mX4_onlyNumber [.ref r0, .int 1, .int 9] h3 (fun v h10 => ∃ z11 : Int32, v = some (.int z11) ∧ ((isO h10 3 (gF h3 r0 3)) ∧ (P none (sI h10 (gF h3 r0 3) 6 z11)))))) ∧ (¬ z4 = 1 → (z4 = 2 → (isO h3 4 r0) ∧ (Call mX4_onlyNumber [.ref r0, .int 2, .int 4] h3 (fun v h15 => ∃ z16 : Int32, v = some (.int z16) ∧ ((isO h15 3 (gF h3 r0 3)) ∧ (P none (sI h15 (gF h3 r0 3) 9 z16)))))) ∧ (¬ z4 = 2 → (z4 = 3 → (isO h3 4 r0) ∧ (Call mX4_onlyNumber [.ref r0, .int 3, .int 99] h3 (fun v h20 => ∃ z21 : Int32, v = some (.int z21) ∧ ((isO h20 3 (gF h3 r0 3)) ∧ (P none (sI h20 (gF h3 r0 3) 12 z21)))))) ∧ (¬ z4 = 3 → (z4 = 4 → (isO h3 4 r0) ∧ (Call mX4_onlyNumber [.ref r0, .int 4, .int 99] h3 (fun v h25 => ∃ z26 : Int32, v = some (.int z26) ∧ ((isO h25 3 (gF h3 r0 3)) ∧ (P none (sI h25 (gF h3 r0 3) 13 z26)))))) ∧ (¬ z4 = 4 → (z4 = 5 → (isO h3 4 r0) ∧ (Call mX4_takeMark [.ref r0] h3 (fun v h30 => v = none ∧ (P none h30)))) ∧ (¬ z4 = 5 → (z4 = 6 → (isO h3 4 r0) ∧ (Call mX4_takeScrew [.ref r0] h3 (fun v h33 => v = none ∧ (P none h33)))) ∧ (¬ z4 = 6 → (z4 = 7 → (isO h3 4 r0) ∧ (Call mX4_takeBox [.ref r0] h3 (fun v h36 => v = none ∧ (P none h36)))) ∧ (¬ z4 = 7 → (z4 = 8 → (isO h3 4 r0) ∧ (Call mX4_takeScreen [.ref r0] h3 (fun v h39 => v = none ∧ (P none h39)))) ∧ (¬ z4 = 8 → (z4 = 9 → (isO h3 4 r0) ∧ (Call mX4_takeLies [.ref r0] h3 (fun v h42 => v = none ∧ (P none h42)))) ∧ (¬ z4 = 9 → (isO h3 4 r0) ∧ (Call mX4_refuse [.ref r0, .int 1] h3 (fun v h44 => v = none ∧ (P none h44)))))))))))))))))) : Rr mX4_takeClause 0 0 0 [(0, .ref r0)] [] h P := by
  refine R_aload_n dX4_takeClause_0 rfl 0 rfl ?_
  obtain ⟨ob1, hf⟩ := hf
  refine G4_0 dX4_takeClause_1 lfX4_12 ob1 ?_
  refine R_ldcS 0 dX4_takeClause_4 rfl ?_
  obtain ⟨ob2, hf⟩ := hf
  refine R_callV (ci := 9) (N := mX9_wordIn) (as := [.ref (1000 + 0)]) (rest := []) (kc2 := 0) (ks2 := 0) dX4_takeClause_6 lmX4_61 oX9_wordIn (Nat.le_of_ble_eq_true rfl) rfl rfl (Nat.le_of_ble_eq_true rfl) rfl rfl ob2 ok9 (Call.mono hf ?_)
  rintro _ h3 ⟨z4, rfl, hf⟩
  by_cases b5 : z4 = 0
  · have hf := hf.1 b5
    refine R_tableIn (off := 55) (tgt := 64) dX4_takeClause_9 (by rw [b5]; decide) (by rw [b5]; decide) (by rw [b5]; decide) (by decide) ?_
    refine R_aload_n dX4_takeClause_64 rfl 0 rfl ?_
    obtain ⟨ob6, hf⟩ := hf
    refine R_callV (ci := 4) (N := mX4_takeSheet) (as := []) (rest := []) (kc2 := 0) (ks2 := 0) dX4_takeClause_65 lmX4_65 oX4_takeSheet (Nat.le_of_ble_eq_true rfl) rfl rfl (Nat.le_of_ble_eq_true rfl) rfl rfl ob6 ok4 (Call.mono hf ?_)
    rintro _ h7 ⟨rfl, hf⟩
    refine R_goto (tgt := 178) dX4_takeClause_68 (by decide) ?_
    exact R_ret dX4_takeClause_178 rfl hf
  have hf := hf.2 b5
  by_cases b8 : z4 = 1
  · have hf := hf.1 b8
    refine R_tableIn (off := 62) (tgt := 71) dX4_takeClause_9 (by rw [b8]; decide) (by rw [b8]; decide) (by rw [b8]; decide) (by decide) ?_
    refine R_aload_n dX4_takeClause_71 rfl 0 rfl ?_
    obtain ⟨ob9, hf⟩ := hf
    refine G4_3 dX4_takeClause_72 lfX4_21 ob9 ?_
    refine R_aload_n dX4_takeClause_75 rfl 0 rfl ?_
    refine R_iconst (v := 1) dX4_takeClause_76 (by decide) ?_
    refine R_bipush (v := 9) dX4_takeClause_77 (by decide) ?_
    refine R_callV (ci := 4) (N := mX4_onlyNumber) (as := [.int 1, .int 9]) (rest := [.ref (gF h3 r0 3)]) (kc2 := 0) (ks2 := 0) dX4_takeClause_79 lmX4_68 oX4_onlyNumber (Nat.le_of_ble_eq_true rfl) rfl rfl (Nat.le_of_ble_eq_true rfl) rfl rfl ob9 ok4 (Call.mono hf ?_)
    rintro _ h10 ⟨z11, rfl, hf⟩
    obtain ⟨ob12, hf⟩ := hf
    refine S3_6 dX4_takeClause_82 lfX4_72 ob12 ?_
    refine R_goto (tgt := 178) dX4_takeClause_85 (by decide) ?_
    exact R_ret dX4_takeClause_178 rfl hf
  have hf := hf.2 b8
  by_cases b13 : z4 = 2
  · have hf := hf.1 b13
    refine R_tableIn (off := 79) (tgt := 88) dX4_takeClause_9 (by rw [b13]; decide) (by rw [b13]; decide) (by rw [b13]; decide) (by decide) ?_
    refine R_aload_n dX4_takeClause_88 rfl 0 rfl ?_
    obtain ⟨ob14, hf⟩ := hf
    refine G4_3 dX4_takeClause_89 lfX4_21 ob14 ?_
    refine R_aload_n dX4_takeClause_92 rfl 0 rfl ?_
    refine R_iconst (v := 2) dX4_takeClause_93 (by decide) ?_
    refine R_iconst (v := 4) dX4_takeClause_94 (by decide) ?_
    refine R_callV (ci := 4) (N := mX4_onlyNumber) (as := [.int 2, .int 4]) (rest := [.ref (gF h3 r0 3)]) (kc2 := 0) (ks2 := 0) dX4_takeClause_95 lmX4_68 oX4_onlyNumber (Nat.le_of_ble_eq_true rfl) rfl rfl (Nat.le_of_ble_eq_true rfl) rfl rfl ob14 ok4 (Call.mono hf ?_)
    rintro _ h15 ⟨z16, rfl, hf⟩
    obtain ⟨ob17, hf⟩ := hf
    refine S3_9 dX4_takeClause_98 lfX4_75 ob17 ?_
    refine R_goto (tgt := 178) dX4_takeClause_101 (by decide) ?_
    exact R_ret dX4_takeClause_178 rfl hf
  have hf := hf.2 b13
  by_cases b18 : z4 = 3
  · have hf := hf.1 b18
    refine R_tableIn (off := 95) (tgt := 104) dX4_takeClause_9 (by rw [b18]; decide) (by rw [b18]; decide) (by rw [b18]; decide) (by decide) ?_
    refine R_aload_n dX4_takeClause_104 rfl 0 rfl ?_
    obtain ⟨ob19, hf⟩ := hf
    refine G4_3 dX4_takeClause_105 lfX4_21 ob19 ?_
    refine R_aload_n dX4_takeClause_108 rfl 0 rfl ?_
    refine R_iconst (v := 3) dX4_takeClause_109 (by decide) ?_
    refine R_bipush (v := 99) dX4_takeClause_110 (by decide) ?_
    refine R_callV (ci := 4) (N := mX4_onlyNumber) (as := [.int 3, .int 99]) (rest := [.ref (gF h3 r0 3)]) (kc2 := 0) (ks2 := 0) dX4_takeClause_112 lmX4_68 oX4_onlyNumber (Nat.le_of_ble_eq_true rfl) rfl rfl (Nat.le_of_ble_eq_true rfl) rfl rfl ob19 ok4 (Call.mono hf ?_)
    rintro _ h20 ⟨z21, rfl, hf⟩
    obtain ⟨ob22, hf⟩ := hf
    refine S3_12 dX4_takeClause_115 lfX4_78 ob22 ?_
    refine R_goto (tgt := 178) dX4_takeClause_118 (by decide) ?_
    exact R_ret dX4_takeClause_178 rfl hf
  have hf := hf.2 b18
  by_cases b23 : z4 = 4
  · have hf := hf.1 b23
    refine R_tableIn (off := 112) (tgt := 121) dX4_takeClause_9 (by rw [b23]; decide) (by rw [b23]; decide) (by rw [b23]; decide) (by decide) ?_
    refine R_aload_n dX4_takeClause_121 rfl 0 rfl ?_
    obtain ⟨ob24, hf⟩ := hf
    refine G4_3 dX4_takeClause_122 lfX4_21 ob24 ?_
    refine R_aload_n dX4_takeClause_125 rfl 0 rfl ?_
    refine R_iconst (v := 4) dX4_takeClause_126 (by decide) ?_
    refine R_bipush (v := 99) dX4_takeClause_127 (by decide) ?_
    refine R_callV (ci := 4) (N := mX4_onlyNumber) (as := [.int 4, .int 99]) (rest := [.ref (gF h3 r0 3)]) (kc2 := 0) (ks2 := 0) dX4_takeClause_129 lmX4_68 oX4_onlyNumber (Nat.le_of_ble_eq_true rfl) rfl rfl (Nat.le_of_ble_eq_true rfl) rfl rfl ob24 ok4 (Call.mono hf ?_)
    rintro _ h25 ⟨z26, rfl, hf⟩
    obtain ⟨ob27, hf⟩ := hf
    refine S3_13 dX4_takeClause_132 lfX4_81 ob27 ?_
    refine R_goto (tgt := 178) dX4_takeClause_135 (by decide) ?_
    exact R_ret dX4_takeClause_178 rfl hf
  have hf := hf.2 b23
  by_cases b28 : z4 = 5
  · have hf := hf.1 b28
    refine R_tableIn (off := 129) (tgt := 138) dX4_takeClause_9 (by rw [b28]; decide) (by rw [b28]; decide) (by rw [b28]; decide) (by decide) ?_
    refine R_aload_n dX4_takeClause_138 rfl 0 rfl ?_
    obtain ⟨ob29, hf⟩ := hf
    refine R_callV (ci := 4) (N := mX4_takeMark) (as := []) (rest := []) (kc2 := 0) (ks2 := 0) dX4_takeClause_139 lmX4_84 oX4_takeMark (Nat.le_of_ble_eq_true rfl) rfl rfl (Nat.le_of_ble_eq_true rfl) rfl rfl ob29 ok4 (Call.mono hf ?_)
    rintro _ h30 ⟨rfl, hf⟩
    refine R_goto (tgt := 178) dX4_takeClause_142 (by decide) ?_
    exact R_ret dX4_takeClause_178 rfl hf
  have hf := hf.2 b28
  by_cases b31 : z4 = 6
  · have hf := hf.1 b31
    refine R_tableIn (off := 136) (tgt := 145) dX4_takeClause_9 (by rw [b31]; decide) (by rw [b31]; decide) (by rw [b31]; decide) (by decide) ?_
    refine R_aload_n dX4_takeClause_145 rfl 0 rfl ?_
    obtain ⟨ob32, hf⟩ := hf
    refine R_callV (ci := 4) (N := mX4_takeScrew) (as := []) (rest := []) (kc2 := 0) (ks2 := 0) dX4_takeClause_146 lmX4_87 oX4_takeScrew (Nat.le_of_ble_eq_true rfl) rfl rfl (Nat.le_of_ble_eq_true rfl) rfl rfl ob32 ok4 (Call.mono hf ?_)
    rintro _ h33 ⟨rfl, hf⟩
    refine R_goto (tgt := 178) dX4_takeClause_149 (by decide) ?_
    exact R_ret dX4_takeClause_178 rfl hf
  have hf := hf.2 b31
  by_cases b34 : z4 = 7
  · have hf := hf.1 b34
    refine R_tableIn (off := 143) (tgt := 152) dX4_takeClause_9 (by rw [b34]; decide) (by rw [b34]; decide) (by rw [b34]; decide) (by decide) ?_
    refine R_aload_n dX4_takeClause_152 rfl 0 rfl ?_
    obtain ⟨ob35, hf⟩ := hf
    refine R_callV (ci := 4) (N := mX4_takeBox) (as := []) (rest := []) (kc2 := 0) (ks2 := 0) dX4_takeClause_153 lmX4_90 oX4_takeBox (Nat.le_of_ble_eq_true rfl) rfl rfl (Nat.le_of_ble_eq_true rfl) rfl rfl ob35 ok4 (Call.mono hf ?_)
    rintro _ h36 ⟨rfl, hf⟩
    refine R_goto (tgt := 178) dX4_takeClause_156 (by decide) ?_
    exact R_ret dX4_takeClause_178 rfl hf
  have hf := hf.2 b34
  by_cases b37 : z4 = 8
  · have hf := hf.1 b37
    refine R_tableIn (off := 150) (tgt := 159) dX4_takeClause_9 (by rw [b37]; decide) (by rw [b37]; decide) (by rw [b37]; decide) (by decide) ?_
    refine R_aload_n dX4_takeClause_159 rfl 0 rfl ?_
    obtain ⟨ob38, hf⟩ := hf
    refine R_callV (ci := 4) (N := mX4_takeScreen) (as := []) (rest := []) (kc2 := 0) (ks2 := 0) dX4_takeClause_160 lmX4_93 oX4_takeScreen (Nat.le_of_ble_eq_true rfl) rfl rfl (Nat.le_of_ble_eq_true rfl) rfl rfl ob38 ok4 (Call.mono hf ?_)
    rintro _ h39 ⟨rfl, hf⟩
    refine R_goto (tgt := 178) dX4_takeClause_163 (by decide) ?_
    exact R_ret dX4_takeClause_178 rfl hf
  have hf := hf.2 b37
  by_cases b40 : z4 = 9
  · have hf := hf.1 b40
    refine R_tableIn (off := 157) (tgt := 166) dX4_takeClause_9 (by rw [b40]; decide) (by rw [b40]; decide) (by rw [b40]; decide) (by decide) ?_
    refine R_aload_n dX4_takeClause_166 rfl 0 rfl ?_
    obtain ⟨ob41, hf⟩ := hf
    refine R_callV (ci := 4) (N := mX4_takeLies) (as := []) (rest := []) (kc2 := 0) (ks2 := 0) dX4_takeClause_167 lmX4_96 oX4_takeLies (Nat.le_of_ble_eq_true rfl) rfl rfl (Nat.le_of_ble_eq_true rfl) rfl rfl ob41 ok4 (Call.mono hf ?_)
    rintro _ h42 ⟨rfl, hf⟩
    refine R_goto (tgt := 178) dX4_takeClause_170 (by decide) ?_
    exact R_ret dX4_takeClause_178 rfl hf
  have hf := hf.2 b40
  refine R_tableOut (tgt := 173) dX4_takeClause_9 (by have q0 := lv_neT (a := 0) b5 (by decide); have q1 := lv_neT (a := 1) b8 (by decide); have q2 := lv_neT (a := 2) b13 (by decide); have q3 := lv_neT (a := 3) b18 (by decide); have q4 := lv_neT (a := 4) b23 (by decide); have q5 := lv_neT (a := 5) b28 (by decide); have q6 := lv_neT (a := 6) b31 (by decide); have q7 := lv_neT (a := 7) b34 (by decide); have q8 := lv_neT (a := 8) b37 (by decide); have q9 := lv_neT (a := 9) b40 (by decide); omega) (by decide) ?_
  refine R_aload_n dX4_takeClause_173 rfl 0 rfl ?_
  refine R_iconst (v := 1) dX4_takeClause_174 (by decide) ?_
  obtain ⟨ob43, hf⟩ := hf
  refine R_callV (ci := 4) (N := mX4_refuse) (as := [.int 1]) (rest := []) (kc2 := 0) (ks2 := 0) dX4_takeClause_175 lmX4_99 oX4_refuse (Nat.le_of_ble_eq_true rfl) rfl rfl (Nat.le_of_ble_eq_true rfl) rfl rfl ob43 ok4 (Call.mono hf ?_)
  rintro _ h44 ⟨rfl, hf⟩
  exact R_ret dX4_takeClause_178 rfl hf
theorem dX12_readClause_0 : decode cX12_readClause 0 = .ok (.aload_n 0, 1) := by decide +kernel
theorem dX12_readClause_1 : decode cX12_readClause 1 = .ok (.getfield 152, 3) := by decide +kernel
theorem dX12_readClause_4 : decode cX12_readClause 4 = .ok (.iconst 1, 1) := by decide +kernel
theorem dX12_readClause_5 : decode cX12_readClause 5 = .ok (.if_icmp .ne 10, 3) := by decide +kernel
theorem dX12_readClause_8 : decode cX12_readClause 8 = .ok (.aload_n 0, 1) := by decide +kernel
theorem dX12_readClause_9 : decode cX12_readClause 9 = .ok (.getfield 149, 3) := by decide +kernel
theorem dX12_readClause_12 : decode cX12_readClause 12 = .ok (.goto 4, 3) := by decide +kernel
theorem dX12_readClause_15 : decode cX12_readClause 15 = .ok (.iconst (-1), 1) := by decide +kernel
theorem dX12_readClause_16 : decode cX12_readClause 16 = .ok (.istore_n 1, 1) := by decide +kernel
theorem dX12_readClause_17 : decode cX12_readClause 17 = .ok (.iload_n 1, 1) := by decide +kernel
theorem dX12_readClause_18 : decode cX12_readClause 18 = .ok (.tableswitch 121 4 13 #[54, 59, 64, 73, 78, 86, 91, 101, 111, 116], 54) := by decide +kernel
theorem dX12_readClause_72 : decode cX12_readClause 72 = .ok (.aload_n 0, 1) := by decide +kernel
theorem dX12_readClause_73 : decode cX12_readClause 73 = .ok (.invokevirtual 229, 3) := by decide +kernel
theorem dX12_readClause_76 : decode cX12_readClause 76 = .ok (.ireturn, 1) := by decide +kernel
theorem dX12_readClause_77 : decode cX12_readClause 77 = .ok (.aload_n 0, 1) := by decide +kernel
theorem dX12_readClause_78 : decode cX12_readClause 78 = .ok (.invokevirtual 232, 3) := by decide +kernel
theorem dX12_readClause_81 : decode cX12_readClause 81 = .ok (.ireturn, 1) := by decide +kernel
theorem dX12_readClause_82 : decode cX12_readClause 82 = .ok (.aload_n 0, 1) := by decide +kernel
theorem dX12_readClause_83 : decode cX12_readClause 83 = .ok (.iload_n 1, 1) := by decide +kernel
theorem dX12_readClause_84 : decode cX12_readClause 84 = .ok (.iconst 3, 1) := by decide +kernel
theorem dX12_readClause_85 : decode cX12_readClause 85 = .ok (.bipush 9, 2) := by decide +kernel
theorem dX12_readClause_87 : decode cX12_readClause 87 = .ok (.invokevirtual 235, 3) := by decide +kernel
theorem dX12_readClause_90 : decode cX12_readClause 90 = .ok (.ireturn, 1) := by decide +kernel
theorem dX12_readClause_91 : decode cX12_readClause 91 = .ok (.aload_n 0, 1) := by decide +kernel
theorem dX12_readClause_92 : decode cX12_readClause 92 = .ok (.invokevirtual 238, 3) := by decide +kernel
theorem dX12_readClause_95 : decode cX12_readClause 95 = .ok (.ireturn, 1) := by decide +kernel
theorem dX12_readClause_96 : decode cX12_readClause 96 = .ok (.aload_n 0, 1) := by decide +kernel
theorem dX12_readClause_97 : decode cX12_readClause 97 = .ok (.iload_n 1, 1) := by decide +kernel
theorem dX12_readClause_98 : decode cX12_readClause 98 = .ok (.iconst 4, 1) := by decide +kernel
theorem dX12_readClause_99 : decode cX12_readClause 99 = .ok (.iconst 4, 1) := by decide +kernel
theorem dX12_readClause_100 : decode cX12_readClause 100 = .ok (.invokevirtual 235, 3) := by decide +kernel
theorem dX12_readClause_103 : decode cX12_readClause 103 = .ok (.ireturn, 1) := by decide +kernel
theorem dX12_readClause_104 : decode cX12_readClause 104 = .ok (.aload_n 0, 1) := by decide +kernel
theorem dX12_readClause_105 : decode cX12_readClause 105 = .ok (.invokevirtual 241, 3) := by decide +kernel
theorem dX12_readClause_108 : decode cX12_readClause 108 = .ok (.ireturn, 1) := by decide +kernel
theorem dX12_readClause_109 : decode cX12_readClause 109 = .ok (.aload_n 0, 1) := by decide +kernel
theorem dX12_readClause_110 : decode cX12_readClause 110 = .ok (.iload_n 1, 1) := by decide +kernel
theorem dX12_readClause_111 : decode cX12_readClause 111 = .ok (.bipush 6, 2) := by decide +kernel
theorem dX12_readClause_113 : decode cX12_readClause 113 = .ok (.bipush 99, 2) := by decide +kernel
theorem dX12_readClause_115 : decode cX12_readClause 115 = .ok (.invokevirtual 235, 3) := by decide +kernel
theorem dX12_readClause_118 : decode cX12_readClause 118 = .ok (.ireturn, 1) := by decide +kernel
theorem dX12_readClause_119 : decode cX12_readClause 119 = .ok (.aload_n 0, 1) := by decide +kernel
theorem dX12_readClause_120 : decode cX12_readClause 120 = .ok (.iload_n 1, 1) := by decide +kernel
theorem dX12_readClause_121 : decode cX12_readClause 121 = .ok (.bipush 7, 2) := by decide +kernel
theorem dX12_readClause_123 : decode cX12_readClause 123 = .ok (.bipush 99, 2) := by decide +kernel
theorem dX12_readClause_125 : decode cX12_readClause 125 = .ok (.invokevirtual 235, 3) := by decide +kernel
theorem dX12_readClause_128 : decode cX12_readClause 128 = .ok (.ireturn, 1) := by decide +kernel
theorem dX12_readClause_129 : decode cX12_readClause 129 = .ok (.aload_n 0, 1) := by decide +kernel
theorem dX12_readClause_130 : decode cX12_readClause 130 = .ok (.invokevirtual 244, 3) := by decide +kernel
theorem dX12_readClause_133 : decode cX12_readClause 133 = .ok (.ireturn, 1) := by decide +kernel
theorem dX12_readClause_134 : decode cX12_readClause 134 = .ok (.aload_n 0, 1) := by decide +kernel
theorem dX12_readClause_135 : decode cX12_readClause 135 = .ok (.invokevirtual 247, 3) := by decide +kernel
theorem dX12_readClause_138 : decode cX12_readClause 138 = .ok (.ireturn, 1) := by decide +kernel
theorem dX12_readClause_139 : decode cX12_readClause 139 = .ok (.aload_n 0, 1) := by decide +kernel
theorem dX12_readClause_140 : decode cX12_readClause 140 = .ok (.iconst 1, 1) := by decide +kernel
theorem dX12_readClause_141 : decode cX12_readClause 141 = .ok (.invokevirtual 175, 3) := by decide +kernel
theorem dX12_readClause_144 : decode cX12_readClause 144 = .ok (.ireturn, 1) := by decide +kernel
set_option maxRecDepth 20000 in
theorem sX12_readClause_0 {P : Option Value → AH → Prop} (h : AH) (r0 : Nat) (hf : (isO h 12 r0) ∧ (∀ z3 : Int32, z3 = (if (gI h r0 3) = 1 then (gI h r0 4) else (-1)) → ((z3 = 4 → Call mX12_readSheet [.ref r0] h (fun v h5 => ∃ z6 : Int32, v = some (.int z6) ∧ ((z6 = 0 ∨ z6 = 1) ∧ (P (some (.int z6)) h5)))) ∧ (¬ z3 = 4 → (z3 = 5 → Call mX12_readMark [.ref r0] h (fun v h9 => ∃ z10 : Int32, v = some (.int z10) ∧ ((z10 = 0 ∨ z10 = 1) ∧ (P (some (.int z10)) h9)))) ∧ (¬ z3 = 5 → (z3 = 6 → Call mX12_readOne [.ref r0, .int z3, .int 3, .int 9] h (fun v h13 => ∃ z14 : Int32, v = some (.int z14) ∧ ((z14 = 0 ∨ z14 = 1) ∧ (P (some (.int z14)) h13)))) ∧ (¬ z3 = 6 → (z3 = 7 → Call mX12_readScrew [.ref r0] h (fun v h17 => ∃ z18 : Int32, v = some (.int z18) ∧ ((z18 = 0 ∨ z18 = 1) ∧ (P (some (.int z18)) h17)))) ∧ (¬ z3 = 7 → (z3 = 8 → Call mX12_readOne [.ref r0, .int z3, .int 4, .int 4] h (fun v h21 => ∃ z22 : Int32, v = some (.int z22) ∧ ((z22 = 0 ∨ z22 = 1) ∧ (P (some (.int z22)) h21)))) ∧ (¬ z3 = 8 → (z3 = 9 → Call mX12_readBox [.ref r0] h (fun v h25 => ∃ z26 : Int32, v = some (.int z26) ∧ ((z26 = 0 ∨ z26 = 1) ∧ (P (some (.int z26)) h25)))) ∧ (¬ z3 = 9 → (z3 = 10 → Call mX12_readOne [.ref r0, .int z3, .int 6, .int 99] h (fun v h29 => ∃ z30 : Int32, v = some (.int z30) ∧ ((z30 = 0 ∨ z30 = 1) ∧ (P (some (.int z30)) h29)))) ∧ (¬ z3 = 10 → (z3 = 11 → Call mX12_readOne [.ref r0, .int z3, .int 7, .int 99] h (fun v h33 => ∃ z34 : Int32, v = some (.int z34) ∧ ((z34 = 0 ∨ z34 = 1) ∧ (P (some (.int z34)) h33)))) ∧ (¬ z3 = 11 → (z3 = 12 → Call mX12_readScreen [.ref r0] h (fun v h37 => ∃ z38 : Int32, v = some (.int z38) ∧ ((z38 = 0 ∨ z38 = 1) ∧ (P (some (.int z38)) h37)))) ∧ (¬ z3 = 12 → (z3 = 13 → Call mX12_readLies [.ref r0] h (fun v h41 => ∃ z42 : Int32, v = some (.int z42) ∧ ((z42 = 0 ∨ z42 = 1) ∧ (P (some (.int z42)) h41)))) ∧ (¬ z3 = 13 → Call mX12_fails [.ref r0, .int 1] h (fun v h44 => ∃ z45 : Int32, v = some (.int z45) ∧ ((z45 = 0 ∨ z45 = 1) ∧ (P (some (.int z45)) h44)))))))))))))))) : Rr mX12_readClause 0 0 0 [(0, .ref r0)] [] h P := by
  refine R_aload_n dX12_readClause_0 rfl 0 rfl ?_
  obtain ⟨ob1, hf⟩ := hf
  refine G12_3 dX12_readClause_1 lfX12_152 ob1 ?_
  refine R_iconst (v := 1) dX12_readClause_4 (by decide) ?_
  have key : ∀ z3 : Int32, z3 = (if (gI h r0 3) = 1 then (gI h r0 4) else (-1)) → Rr mX12_readClause 0 0 16 [(0, .ref r0)] [.int z3] h P := by
    intro z3 ez3
    have hf := hf z3 ez3
    refine R_istore_n dX12_readClause_16 rfl (by decide) rfl ?_
    refine R_iload_n dX12_readClause_17 rfl 0 rfl ?_
    by_cases b4 : z3 = 4
    · have hf := hf.1 b4
      refine R_tableIn (off := 54) (tgt := 72) dX12_readClause_18 (by rw [b4]; decide) (by rw [b4]; decide) (by rw [b4]; decide) (by decide) ?_
      refine R_aload_n dX12_readClause_72 rfl 1 rfl ?_
      refine R_callV (ci := 12) (N := mX12_readSheet) (as := []) (rest := []) (kc2 := 0) (ks2 := 0) dX12_readClause_73 lmX12_229 oX12_readSheet (Nat.le_of_ble_eq_true rfl) rfl rfl (Nat.le_of_ble_eq_true rfl) rfl rfl ob1 ok12 (Call.mono hf ?_)
      rintro _ h5 ⟨z6, rfl, hf⟩
      obtain ⟨ob7, hf⟩ := hf
      exact R_iret dX12_readClause_76 rfl (nb_n ob7) hf
    have hf := hf.2 b4
    by_cases b8 : z3 = 5
    · have hf := hf.1 b8
      refine R_tableIn (off := 59) (tgt := 77) dX12_readClause_18 (by rw [b8]; decide) (by rw [b8]; decide) (by rw [b8]; decide) (by decide) ?_
      refine R_aload_n dX12_readClause_77 rfl 1 rfl ?_
      refine R_callV (ci := 12) (N := mX12_readMark) (as := []) (rest := []) (kc2 := 0) (ks2 := 0) dX12_readClause_78 lmX12_232 oX12_readMark (Nat.le_of_ble_eq_true rfl) rfl rfl (Nat.le_of_ble_eq_true rfl) rfl rfl ob1 ok12 (Call.mono hf ?_)
      rintro _ h9 ⟨z10, rfl, hf⟩
      obtain ⟨ob11, hf⟩ := hf
      exact R_iret dX12_readClause_81 rfl (nb_n ob11) hf
    have hf := hf.2 b8
    by_cases b12 : z3 = 6
    · have hf := hf.1 b12
      refine R_tableIn (off := 64) (tgt := 82) dX12_readClause_18 (by rw [b12]; decide) (by rw [b12]; decide) (by rw [b12]; decide) (by decide) ?_
      refine R_aload_n dX12_readClause_82 rfl 1 rfl ?_
      refine R_iload_n dX12_readClause_83 rfl 0 rfl ?_
      refine R_iconst (v := 3) dX12_readClause_84 (by decide) ?_
      refine R_bipush (v := 9) dX12_readClause_85 (by decide) ?_
      refine R_callV (ci := 12) (N := mX12_readOne) (as := [.int z3, .int 3, .int 9]) (rest := []) (kc2 := 0) (ks2 := 0) dX12_readClause_87 lmX12_235 oX12_readOne (Nat.le_of_ble_eq_true rfl) rfl rfl (Nat.le_of_ble_eq_true rfl) rfl rfl ob1 ok12 (Call.mono hf ?_)
      rintro _ h13 ⟨z14, rfl, hf⟩
      obtain ⟨ob15, hf⟩ := hf
      exact R_iret dX12_readClause_90 rfl (nb_n ob15) hf
    have hf := hf.2 b12
    by_cases b16 : z3 = 7
    · have hf := hf.1 b16
      refine R_tableIn (off := 73) (tgt := 91) dX12_readClause_18 (by rw [b16]; decide) (by rw [b16]; decide) (by rw [b16]; decide) (by decide) ?_
      refine R_aload_n dX12_readClause_91 rfl 1 rfl ?_
      refine R_callV (ci := 12) (N := mX12_readScrew) (as := []) (rest := []) (kc2 := 0) (ks2 := 0) dX12_readClause_92 lmX12_238 oX12_readScrew (Nat.le_of_ble_eq_true rfl) rfl rfl (Nat.le_of_ble_eq_true rfl) rfl rfl ob1 ok12 (Call.mono hf ?_)
      rintro _ h17 ⟨z18, rfl, hf⟩
      obtain ⟨ob19, hf⟩ := hf
      exact R_iret dX12_readClause_95 rfl (nb_n ob19) hf
    have hf := hf.2 b16
    by_cases b20 : z3 = 8
    · have hf := hf.1 b20
      refine R_tableIn (off := 78) (tgt := 96) dX12_readClause_18 (by rw [b20]; decide) (by rw [b20]; decide) (by rw [b20]; decide) (by decide) ?_
      refine R_aload_n dX12_readClause_96 rfl 1 rfl ?_
      refine R_iload_n dX12_readClause_97 rfl 0 rfl ?_
      refine R_iconst (v := 4) dX12_readClause_98 (by decide) ?_
      refine R_iconst (v := 4) dX12_readClause_99 (by decide) ?_
      refine R_callV (ci := 12) (N := mX12_readOne) (as := [.int z3, .int 4, .int 4]) (rest := []) (kc2 := 0) (ks2 := 0) dX12_readClause_100 lmX12_235 oX12_readOne (Nat.le_of_ble_eq_true rfl) rfl rfl (Nat.le_of_ble_eq_true rfl) rfl rfl ob1 ok12 (Call.mono hf ?_)
      rintro _ h21 ⟨z22, rfl, hf⟩
      obtain ⟨ob23, hf⟩ := hf
      exact R_iret dX12_readClause_103 rfl (nb_n ob23) hf
    have hf := hf.2 b20
    by_cases b24 : z3 = 9
    · have hf := hf.1 b24
      refine R_tableIn (off := 86) (tgt := 104) dX12_readClause_18 (by rw [b24]; decide) (by rw [b24]; decide) (by rw [b24]; decide) (by decide) ?_
      refine R_aload_n dX12_readClause_104 rfl 1 rfl ?_
      refine R_callV (ci := 12) (N := mX12_readBox) (as := []) (rest := []) (kc2 := 0) (ks2 := 0) dX12_readClause_105 lmX12_241 oX12_readBox (Nat.le_of_ble_eq_true rfl) rfl rfl (Nat.le_of_ble_eq_true rfl) rfl rfl ob1 ok12 (Call.mono hf ?_)
      rintro _ h25 ⟨z26, rfl, hf⟩
      obtain ⟨ob27, hf⟩ := hf
      exact R_iret dX12_readClause_108 rfl (nb_n ob27) hf
    have hf := hf.2 b24
    by_cases b28 : z3 = 10
    · have hf := hf.1 b28
      refine R_tableIn (off := 91) (tgt := 109) dX12_readClause_18 (by rw [b28]; decide) (by rw [b28]; decide) (by rw [b28]; decide) (by decide) ?_
      refine R_aload_n dX12_readClause_109 rfl 1 rfl ?_
      refine R_iload_n dX12_readClause_110 rfl 0 rfl ?_
      refine R_bipush (v := 6) dX12_readClause_111 (by decide) ?_
      refine R_bipush (v := 99) dX12_readClause_113 (by decide) ?_
      refine R_callV (ci := 12) (N := mX12_readOne) (as := [.int z3, .int 6, .int 99]) (rest := []) (kc2 := 0) (ks2 := 0) dX12_readClause_115 lmX12_235 oX12_readOne (Nat.le_of_ble_eq_true rfl) rfl rfl (Nat.le_of_ble_eq_true rfl) rfl rfl ob1 ok12 (Call.mono hf ?_)
      rintro _ h29 ⟨z30, rfl, hf⟩
      obtain ⟨ob31, hf⟩ := hf
      exact R_iret dX12_readClause_118 rfl (nb_n ob31) hf
    have hf := hf.2 b28
    by_cases b32 : z3 = 11
    · have hf := hf.1 b32
      refine R_tableIn (off := 101) (tgt := 119) dX12_readClause_18 (by rw [b32]; decide) (by rw [b32]; decide) (by rw [b32]; decide) (by decide) ?_
      refine R_aload_n dX12_readClause_119 rfl 1 rfl ?_
      refine R_iload_n dX12_readClause_120 rfl 0 rfl ?_
      refine R_bipush (v := 7) dX12_readClause_121 (by decide) ?_
      refine R_bipush (v := 99) dX12_readClause_123 (by decide) ?_
      refine R_callV (ci := 12) (N := mX12_readOne) (as := [.int z3, .int 7, .int 99]) (rest := []) (kc2 := 0) (ks2 := 0) dX12_readClause_125 lmX12_235 oX12_readOne (Nat.le_of_ble_eq_true rfl) rfl rfl (Nat.le_of_ble_eq_true rfl) rfl rfl ob1 ok12 (Call.mono hf ?_)
      rintro _ h33 ⟨z34, rfl, hf⟩
      obtain ⟨ob35, hf⟩ := hf
      exact R_iret dX12_readClause_128 rfl (nb_n ob35) hf
    have hf := hf.2 b32
    by_cases b36 : z3 = 12
    · have hf := hf.1 b36
      refine R_tableIn (off := 111) (tgt := 129) dX12_readClause_18 (by rw [b36]; decide) (by rw [b36]; decide) (by rw [b36]; decide) (by decide) ?_
      refine R_aload_n dX12_readClause_129 rfl 1 rfl ?_
      refine R_callV (ci := 12) (N := mX12_readScreen) (as := []) (rest := []) (kc2 := 0) (ks2 := 0) dX12_readClause_130 lmX12_244 oX12_readScreen (Nat.le_of_ble_eq_true rfl) rfl rfl (Nat.le_of_ble_eq_true rfl) rfl rfl ob1 ok12 (Call.mono hf ?_)
      rintro _ h37 ⟨z38, rfl, hf⟩
      obtain ⟨ob39, hf⟩ := hf
      exact R_iret dX12_readClause_133 rfl (nb_n ob39) hf
    have hf := hf.2 b36
    by_cases b40 : z3 = 13
    · have hf := hf.1 b40
      refine R_tableIn (off := 116) (tgt := 134) dX12_readClause_18 (by rw [b40]; decide) (by rw [b40]; decide) (by rw [b40]; decide) (by decide) ?_
      refine R_aload_n dX12_readClause_134 rfl 1 rfl ?_
      refine R_callV (ci := 12) (N := mX12_readLies) (as := []) (rest := []) (kc2 := 0) (ks2 := 0) dX12_readClause_135 lmX12_247 oX12_readLies (Nat.le_of_ble_eq_true rfl) rfl rfl (Nat.le_of_ble_eq_true rfl) rfl rfl ob1 ok12 (Call.mono hf ?_)
      rintro _ h41 ⟨z42, rfl, hf⟩
      obtain ⟨ob43, hf⟩ := hf
      exact R_iret dX12_readClause_138 rfl (nb_n ob43) hf
    have hf := hf.2 b40
    refine R_tableOut (tgt := 139) dX12_readClause_18 (by have q0 := lv_neT (a := 4) b4 (by decide); have q1 := lv_neT (a := 5) b8 (by decide); have q2 := lv_neT (a := 6) b12 (by decide); have q3 := lv_neT (a := 7) b16 (by decide); have q4 := lv_neT (a := 8) b20 (by decide); have q5 := lv_neT (a := 9) b24 (by decide); have q6 := lv_neT (a := 10) b28 (by decide); have q7 := lv_neT (a := 11) b32 (by decide); have q8 := lv_neT (a := 12) b36 (by decide); have q9 := lv_neT (a := 13) b40 (by decide); omega) (by decide) ?_
    refine R_aload_n dX12_readClause_139 rfl 1 rfl ?_
    refine R_iconst (v := 1) dX12_readClause_140 (by decide) ?_
    refine R_callV (ci := 12) (N := mX12_fails) (as := [.int 1]) (rest := []) (kc2 := 0) (ks2 := 0) dX12_readClause_141 lmX12_175 oX12_fails (Nat.le_of_ble_eq_true rfl) rfl rfl (Nat.le_of_ble_eq_true rfl) rfl rfl ob1 ok12 (Call.mono hf ?_)
    rintro _ h44 ⟨z45, rfl, hf⟩
    obtain ⟨ob46, hf⟩ := hf
    exact R_iret dX12_readClause_144 rfl (nb_n ob46) hf
  refine R_icmp_ne (tgt := 15) dX12_readClause_5 (by decide) (fun b2 => ?_) (fun b2 => ?_)
  · refine R_iconst (v := (-1)) dX12_readClause_15 (by decide) ?_
    exact R_sub [0] rfl (key _ (by rw [if_neg b2]))
  · refine R_aload_n dX12_readClause_8 rfl 0 rfl ?_
    refine G12_4 dX12_readClause_9 lfX12_149 ob1 ?_
    refine R_goto (tgt := 16) dX12_readClause_12 (by decide) ?_
    exact R_sub [0] rfl (key _ (by rw [if_pos b2]))
