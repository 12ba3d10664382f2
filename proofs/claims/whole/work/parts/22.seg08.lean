theorem dX3_forget_0 : decode cX3_forget 0 = .ok (.aload_n 0, 1) := by decide +kernel
theorem dX3_forget_1 : decode cX3_forget 1 = .ok (.iconst 0, 1) := by decide +kernel
theorem dX3_forget_2 : decode cX3_forget 2 = .ok (.putfield 47, 3) := by decide +kernel
theorem dX3_forget_5 : decode cX3_forget 5 = .ok (.aload_n 0, 1) := by decide +kernel
theorem dX3_forget_6 : decode cX3_forget 6 = .ok (.bipush 100, 2) := by decide +kernel
theorem dX3_forget_8 : decode cX3_forget 8 = .ok (.putfield 51, 3) := by decide +kernel
theorem dX3_forget_11 : decode cX3_forget 11 = .ok (.aload_n 0, 1) := by decide +kernel
theorem dX3_forget_12 : decode cX3_forget 12 = .ok (.bipush 100, 2) := by decide +kernel
theorem dX3_forget_14 : decode cX3_forget 14 = .ok (.putfield 54, 3) := by decide +kernel
theorem dX3_forget_17 : decode cX3_forget 17 = .ok (.aload_n 0, 1) := by decide +kernel
theorem dX3_forget_18 : decode cX3_forget 18 = .ok (.iconst 0, 1) := by decide +kernel
theorem dX3_forget_19 : decode cX3_forget 19 = .ok (.putfield 57, 3) := by decide +kernel
theorem dX3_forget_22 : decode cX3_forget 22 = .ok (.aload_n 0, 1) := by decide +kernel
theorem dX3_forget_23 : decode cX3_forget 23 = .ok (.iconst 1, 1) := by decide +kernel
theorem dX3_forget_24 : decode cX3_forget 24 = .ok (.putfield 60, 3) := by decide +kernel
theorem dX3_forget_27 : decode cX3_forget 27 = .ok (.aload_n 0, 1) := by decide +kernel
theorem dX3_forget_28 : decode cX3_forget 28 = .ok (.getfield 18, 3) := by decide +kernel
theorem dX3_forget_31 : decode cX3_forget 31 = .ok (.iconst 0, 1) := by decide +kernel
theorem dX3_forget_32 : decode cX3_forget 32 = .ok (.invokestatic 63, 3) := by decide +kernel
theorem dX3_forget_35 : decode cX3_forget 35 = .ok (.aload_n 0, 1) := by decide +kernel
theorem dX3_forget_36 : decode cX3_forget 36 = .ok (.iconst 2, 1) := by decide +kernel
theorem dX3_forget_37 : decode cX3_forget 37 = .ok (.putfield 69, 3) := by decide +kernel
theorem dX3_forget_40 : decode cX3_forget 40 = .ok (.aload_n 0, 1) := by decide +kernel
theorem dX3_forget_41 : decode cX3_forget 41 = .ok (.iconst 0, 1) := by decide +kernel
theorem dX3_forget_42 : decode cX3_forget 42 = .ok (.putfield 72, 3) := by decide +kernel
theorem dX3_forget_45 : decode cX3_forget 45 = .ok (.iconst 0, 1) := by decide +kernel
theorem dX3_forget_46 : decode cX3_forget 46 = .ok (.istore_n 1, 1) := by decide +kernel
theorem dX3_forget_47 : decode cX3_forget 47 = .ok (.iload_n 1, 1) := by decide +kernel
theorem dX3_forget_48 : decode cX3_forget 48 = .ok (.iconst 4, 1) := by decide +kernel
theorem dX3_forget_49 : decode cX3_forget 49 = .ok (.if_icmp .ge 18, 3) := by decide +kernel
theorem dX3_forget_52 : decode cX3_forget 52 = .ok (.aload_n 0, 1) := by decide +kernel
theorem dX3_forget_53 : decode cX3_forget 53 = .ok (.getfield 30, 3) := by decide +kernel
theorem dX3_forget_56 : decode cX3_forget 56 = .ok (.iload_n 1, 1) := by decide +kernel
theorem dX3_forget_57 : decode cX3_forget 57 = .ok (.aaload, 1) := by decide +kernel
theorem dX3_forget_58 : decode cX3_forget 58 = .ok (.invokevirtual 75, 3) := by decide +kernel
theorem dX3_forget_61 : decode cX3_forget 61 = .ok (.iinc 1 1, 3) := by decide +kernel
theorem dX3_forget_64 : decode cX3_forget 64 = .ok (.goto (-17), 3) := by decide +kernel
theorem dX3_forget_67 : decode cX3_forget 67 = .ok (.aload_n 0, 1) := by decide +kernel
theorem dX3_forget_68 : decode cX3_forget 68 = .ok (.iconst 3, 1) := by decide +kernel
theorem dX3_forget_69 : decode cX3_forget 69 = .ok (.putfield 78, 3) := by decide +kernel
theorem dX3_forget_72 : decode cX3_forget 72 = .ok (.aload_n 0, 1) := by decide +kernel
theorem dX3_forget_73 : decode cX3_forget 73 = .ok (.iconst 1, 1) := by decide +kernel
theorem dX3_forget_74 : decode cX3_forget 74 = .ok (.putfield 81, 3) := by decide +kernel
theorem dX3_forget_77 : decode cX3_forget 77 = .ok (.aload_n 0, 1) := by decide +kernel
theorem dX3_forget_78 : decode cX3_forget 78 = .ok (.getfield 37, 3) := by decide +kernel
theorem dX3_forget_81 : decode cX3_forget 81 = .ok (.iconst 0, 1) := by decide +kernel
theorem dX3_forget_82 : decode cX3_forget 82 = .ok (.putfield 84, 3) := by decide +kernel
theorem dX3_forget_85 : decode cX3_forget 85 = .ok (.aload_n 0, 1) := by decide +kernel
theorem dX3_forget_86 : decode cX3_forget 86 = .ok (.getfield 41, 3) := by decide +kernel
theorem dX3_forget_89 : decode cX3_forget 89 = .ok (.bipush 100, 2) := by decide +kernel
theorem dX3_forget_91 : decode cX3_forget 91 = .ok (.invokestatic 63, 3) := by decide +kernel
theorem dX3_forget_94 : decode cX3_forget 94 = .ok (.return_, 1) := by decide +kernel
set_option maxRecDepth 20000 in
theorem sX3_forget_0 {P : Option Value → AH → Prop} (h : AH) (r0 : Nat) (hf : (isO h 3 r0) ∧ (Call mJ7_fill_53178 [.ref (gF (sI (sI (sI (sI (sI h r0 0 0) r0 1 100) r0 2 100) r0 3 0) r0 6 1) r0 7), .int 0] (sI (sI (sI (sI (sI h r0 0 0) r0 1 100) r0 2 100) r0 3 0) r0 6 1) (fun v h2 => v = none ∧ ((isO h2 3 r0) ∧ (Rr mX3_forget 0 0 47 [(0, .ref r0), (1, .int 0)] [] (sI (sI h2 r0 9 2) r0 10 0) P))))) : Rr mX3_forget 0 0 0 [(0, .ref r0)] [] h P := by
  refine R_aload_n dX3_forget_0 rfl 0 rfl ?_
  refine R_iconst (v := 0) dX3_forget_1 (by decide) ?_
  obtain ⟨ob1, hf⟩ := hf
  refine S3_0 dX3_forget_2 lfX3_47 ob1 ?_
  refine R_aload_n dX3_forget_5 rfl 0 rfl ?_
  refine R_bipush (v := 100) dX3_forget_6 (by decide) ?_
  refine S3_1 dX3_forget_8 lfX3_51 ob1 ?_
  refine R_aload_n dX3_forget_11 rfl 0 rfl ?_
  refine R_bipush (v := 100) dX3_forget_12 (by decide) ?_
  refine S3_2 dX3_forget_14 lfX3_54 ob1 ?_
  refine R_aload_n dX3_forget_17 rfl 0 rfl ?_
  refine R_iconst (v := 0) dX3_forget_18 (by decide) ?_
  refine S3_3 dX3_forget_19 lfX3_57 ob1 ?_
  refine R_aload_n dX3_forget_22 rfl 0 rfl ?_
  refine R_iconst (v := 1) dX3_forget_23 (by decide) ?_
  refine S3_6 dX3_forget_24 lfX3_60 ob1 ?_
  refine R_aload_n dX3_forget_27 rfl 0 rfl ?_
  refine G3_7 dX3_forget_28 lfX3_18 ob1 ?_
  refine R_iconst (v := 0) dX3_forget_31 (by decide) ?_
  refine R_callS (N := mJ7_fill_53178) (as := [.ref (gF (sI (sI (sI (sI (sI h r0 0 0) r0 1 100) r0 2 100) r0 3 0) r0 6 1) r0 7), .int 0]) (rest := []) (kc2 := 0) (ks2 := 0) dX3_forget_32 lmX3_63 oJ7_fill_53178 (Nat.le_of_ble_eq_true rfl) rfl rfl (Nat.le_of_ble_eq_true rfl) rfl rfl (Call.mono hf ?_)
  rintro _ h2 ⟨rfl, hf⟩
  refine R_aload_n dX3_forget_35 rfl 0 rfl ?_
  refine R_iconst (v := 2) dX3_forget_36 (by decide) ?_
  obtain ⟨ob3, hf⟩ := hf
  refine S3_9 dX3_forget_37 lfX3_69 ob3 ?_
  refine R_aload_n dX3_forget_40 rfl 0 rfl ?_
  refine R_iconst (v := 0) dX3_forget_41 (by decide) ?_
  refine S3_10 dX3_forget_42 lfX3_72 ob3 ?_
  refine R_iconst (v := 0) dX3_forget_45 (by decide) ?_
  refine R_istore_n dX3_forget_46 rfl (by decide) rfl ?_
  exact R_sub [1, 0] rfl hf
set_option maxRecDepth 20000 in
theorem sX3_forget_47 {P : Option Value → AH → Prop} (h : AH) (r0 : Nat) (x1 : Int32) (hf : (4 ≤ x1 → (isO h 3 r0) ∧ ((isO h 8 (gF (sI (sI h r0 12 3) r0 13 1) r0 14)) ∧ (Call mJ7_fill_53178 [.ref (gF (sI (sI (sI h r0 12 3) r0 13 1) (gF (sI (sI h r0 12 3) r0 13 1) r0 14) 0 0) r0 15), .int 100] (sI (sI (sI h r0 12 3) r0 13 1) (gF (sI (sI h r0 12 3) r0 13 1) r0 14) 0 0) (fun v h4 => v = none ∧ (P none h4))))) ∧ (¬ 4 ≤ x1 → (isO h 3 r0) ∧ ((isA h 3 (gF h r0 11)) ∧ ((vp_in x1 (ln (gF h r0 11))) ∧ ((isO h 0 (gF h (gF h r0 11) x1.toNatClampNeg)) ∧ (Call mX0_clear [.ref (gF h (gF h r0 11) x1.toNatClampNeg)] h (fun v h9 => v = none ∧ (Rr mX3_forget 0 0 47 [(0, .ref r0), (1, .int (x1 + 1))] [] h9 P)))))))) : Rr mX3_forget 0 0 47 [(0, .ref r0), (1, .int x1)] [] h P := by
  refine R_iload_n dX3_forget_47 rfl 1 rfl ?_
  refine R_iconst (v := 4) dX3_forget_48 (by decide) ?_
  refine R_icmp_ge (tgt := 67) dX3_forget_49 (by decide) (fun b1 => ?_) (fun b1 => ?_)
  · have hf := hf.1 b1
    refine R_aload_n dX3_forget_67 rfl 0 rfl ?_
    refine R_iconst (v := 3) dX3_forget_68 (by decide) ?_
    obtain ⟨ob2, hf⟩ := hf
    refine S3_12 dX3_forget_69 lfX3_78 ob2 ?_
    refine R_aload_n dX3_forget_72 rfl 0 rfl ?_
    refine R_iconst (v := 1) dX3_forget_73 (by decide) ?_
    refine S3_13 dX3_forget_74 lfX3_81 ob2 ?_
    refine R_aload_n dX3_forget_77 rfl 0 rfl ?_
    refine G3_14 dX3_forget_78 lfX3_37 ob2 ?_
    refine R_iconst (v := 0) dX3_forget_81 (by decide) ?_
    obtain ⟨ob3, hf⟩ := hf
    refine S8_0 dX3_forget_82 lfX3_84 ob3 ?_
    refine R_aload_n dX3_forget_85 rfl 0 rfl ?_
    refine G3_15 dX3_forget_86 lfX3_41 ob2 ?_
    refine R_bipush (v := 100) dX3_forget_89 (by decide) ?_
    refine R_callS (N := mJ7_fill_53178) (as := [.ref (gF (sI (sI (sI h r0 12 3) r0 13 1) (gF (sI (sI h r0 12 3) r0 13 1) r0 14) 0 0) r0 15), .int 100]) (rest := []) (kc2 := 0) (ks2 := 0) dX3_forget_91 lmX3_63 oJ7_fill_53178 (Nat.le_of_ble_eq_true rfl) rfl rfl (Nat.le_of_ble_eq_true rfl) rfl rfl (Call.mono hf ?_)
    rintro _ h4 ⟨rfl, hf⟩
    exact R_ret dX3_forget_94 rfl hf
  · have hf := hf.2 b1
    refine R_aload_n dX3_forget_52 rfl 0 rfl ?_
    obtain ⟨ob5, hf⟩ := hf
    refine G3_11 dX3_forget_53 lfX3_30 ob5 ?_
    refine R_iload_n dX3_forget_56 rfl 1 rfl ?_
    obtain ⟨ob6, hf⟩ := hf
    obtain ⟨ob7, hf⟩ := hf
    refine R_aaload (t := 3) (by decide) dX3_forget_57 ob6 ob7 ?_
    obtain ⟨ob8, hf⟩ := hf
    refine R_callV (ci := 0) (N := mX0_clear) (as := []) (rest := []) (kc2 := 0) (ks2 := 0) dX3_forget_58 lmX3_75 oX0_clear (Nat.le_of_ble_eq_true rfl) rfl rfl (Nat.le_of_ble_eq_true rfl) rfl rfl ob8 ok0 (Call.mono hf ?_)
    rintro _ h9 ⟨rfl, hf⟩
    refine R_iinc (v := x1 + 1) dX3_forget_61 1 rfl rfl (by decide) rfl ?_
    refine R_goto (tgt := 47) dX3_forget_64 (by decide) ?_
    exact R_sub [1, 0] rfl hf
theorem dX5_lay_0 : decode cX5_lay 0 = .ok (.aload_n 0, 1) := by decide +kernel
theorem dX5_lay_1 : decode cX5_lay 1 = .ok (.aload_n 1, 1) := by decide +kernel
theorem dX5_lay_2 : decode cX5_lay 2 = .ok (.getfield 35, 3) := by decide +kernel
theorem dX5_lay_5 : decode cX5_lay 5 = .ok (.putfield 41, 3) := by decide +kernel
theorem dX5_lay_8 : decode cX5_lay 8 = .ok (.aload_n 0, 1) := by decide +kernel
theorem dX5_lay_9 : decode cX5_lay 9 = .ok (.aload_n 1, 1) := by decide +kernel
theorem dX5_lay_10 : decode cX5_lay 10 = .ok (.getfield 44, 3) := by decide +kernel
theorem dX5_lay_13 : decode cX5_lay 13 = .ok (.putfield 47, 3) := by decide +kernel
theorem dX5_lay_16 : decode cX5_lay 16 = .ok (.aload_n 0, 1) := by decide +kernel
theorem dX5_lay_17 : decode cX5_lay 17 = .ok (.getfield 21, 3) := by decide +kernel
theorem dX5_lay_20 : decode cX5_lay 20 = .ok (.aload_n 1, 1) := by decide +kernel
theorem dX5_lay_21 : decode cX5_lay 21 = .ok (.getfield 50, 3) := by decide +kernel
theorem dX5_lay_24 : decode cX5_lay 24 = .ok (.iload_n 2, 1) := by decide +kernel
theorem dX5_lay_25 : decode cX5_lay 25 = .ok (.aaload, 1) := by decide +kernel
theorem dX5_lay_26 : decode cX5_lay 26 = .ok (.invokevirtual 54, 3) := by decide +kernel
theorem dX5_lay_29 : decode cX5_lay 29 = .ok (.aload_n 0, 1) := by decide +kernel
theorem dX5_lay_30 : decode cX5_lay 30 = .ok (.getfield 25, 3) := by decide +kernel
theorem dX5_lay_33 : decode cX5_lay 33 = .ok (.aload_n 1, 1) := by decide +kernel
theorem dX5_lay_34 : decode cX5_lay 34 = .ok (.getfield 50, 3) := by decide +kernel
theorem dX5_lay_37 : decode cX5_lay 37 = .ok (.iload_n 3, 1) := by decide +kernel
theorem dX5_lay_38 : decode cX5_lay 38 = .ok (.aaload, 1) := by decide +kernel
theorem dX5_lay_39 : decode cX5_lay 39 = .ok (.invokevirtual 54, 3) := by decide +kernel
theorem dX5_lay_42 : decode cX5_lay 42 = .ok (.iconst 0, 1) := by decide +kernel
theorem dX5_lay_43 : decode cX5_lay 43 = .ok (.istore 6, 2) := by decide +kernel
theorem dX5_lay_45 : decode cX5_lay 45 = .ok (.iload 6, 2) := by decide +kernel
theorem dX5_lay_47 : decode cX5_lay 47 = .ok (.iconst 4, 1) := by decide +kernel
theorem dX5_lay_48 : decode cX5_lay 48 = .ok (.if_icmp .ge 65, 3) := by decide +kernel
theorem dX5_lay_51 : decode cX5_lay 51 = .ok (.aload_n 0, 1) := by decide +kernel
theorem dX5_lay_52 : decode cX5_lay 52 = .ok (.getfield 11, 3) := by decide +kernel
theorem dX5_lay_55 : decode cX5_lay 55 = .ok (.iload 6, 2) := by decide +kernel
theorem dX5_lay_57 : decode cX5_lay 57 = .ok (.aload_n 0, 1) := by decide +kernel
theorem dX5_lay_58 : decode cX5_lay 58 = .ok (.getfield 21, 3) := by decide +kernel
theorem dX5_lay_61 : decode cX5_lay 61 = .ok (.getfield 58, 3) := by decide +kernel
theorem dX5_lay_64 : decode cX5_lay 64 = .ok (.iload 6, 2) := by decide +kernel
theorem dX5_lay_66 : decode cX5_lay 66 = .ok (.laload, 1) := by decide +kernel
theorem dX5_lay_67 : decode cX5_lay 67 = .ok (.aload_n 0, 1) := by decide +kernel
theorem dX5_lay_68 : decode cX5_lay 68 = .ok (.getfield 25, 3) := by decide +kernel
theorem dX5_lay_71 : decode cX5_lay 71 = .ok (.getfield 58, 3) := by decide +kernel
theorem dX5_lay_74 : decode cX5_lay 74 = .ok (.iload 6, 2) := by decide +kernel
theorem dX5_lay_76 : decode cX5_lay 76 = .ok (.laload, 1) := by decide +kernel
theorem dX5_lay_77 : decode cX5_lay 77 = .ok (.lor, 1) := by decide +kernel
theorem dX5_lay_78 : decode cX5_lay 78 = .ok (.lastore, 1) := by decide +kernel
theorem dX5_lay_79 : decode cX5_lay 79 = .ok (.aload_n 0, 1) := by decide +kernel
theorem dX5_lay_80 : decode cX5_lay 80 = .ok (.getfield 17, 3) := by decide +kernel
theorem dX5_lay_83 : decode cX5_lay 83 = .ok (.iload 6, 2) := by decide +kernel
theorem dX5_lay_85 : decode cX5_lay 85 = .ok (.aload_n 0, 1) := by decide +kernel
theorem dX5_lay_86 : decode cX5_lay 86 = .ok (.getfield 21, 3) := by decide +kernel
theorem dX5_lay_89 : decode cX5_lay 89 = .ok (.getfield 58, 3) := by decide +kernel
theorem dX5_lay_92 : decode cX5_lay 92 = .ok (.iload 6, 2) := by decide +kernel
theorem dX5_lay_94 : decode cX5_lay 94 = .ok (.laload, 1) := by decide +kernel
theorem dX5_lay_95 : decode cX5_lay 95 = .ok (.aload_n 0, 1) := by decide +kernel
theorem dX5_lay_96 : decode cX5_lay 96 = .ok (.getfield 25, 3) := by decide +kernel
theorem dX5_lay_99 : decode cX5_lay 99 = .ok (.getfield 58, 3) := by decide +kernel
theorem dX5_lay_102 : decode cX5_lay 102 = .ok (.iload 6, 2) := by decide +kernel
theorem dX5_lay_104 : decode cX5_lay 104 = .ok (.laload, 1) := by decide +kernel
theorem dX5_lay_105 : decode cX5_lay 105 = .ok (.land, 1) := by decide +kernel
theorem dX5_lay_106 : decode cX5_lay 106 = .ok (.lastore, 1) := by decide +kernel
theorem dX5_lay_107 : decode cX5_lay 107 = .ok (.iinc 6 1, 3) := by decide +kernel
theorem dX5_lay_110 : decode cX5_lay 110 = .ok (.goto (-65), 3) := by decide +kernel
theorem dX5_lay_113 : decode cX5_lay 113 = .ok (.aload_n 0, 1) := by decide +kernel
theorem dX5_lay_114 : decode cX5_lay 114 = .ok (.getfield 21, 3) := by decide +kernel
theorem dX5_lay_117 : decode cX5_lay 117 = .ok (.iload 4, 2) := by decide +kernel
theorem dX5_lay_119 : decode cX5_lay 119 = .ok (.invokevirtual 61, 3) := by decide +kernel
theorem dX5_lay_122 : decode cX5_lay 122 = .ok (.aload_n 0, 1) := by decide +kernel
theorem dX5_lay_123 : decode cX5_lay 123 = .ok (.getfield 25, 3) := by decide +kernel
theorem dX5_lay_126 : decode cX5_lay 126 = .ok (.iload 5, 2) := by decide +kernel
theorem dX5_lay_128 : decode cX5_lay 128 = .ok (.invokevirtual 61, 3) := by decide +kernel
theorem dX5_lay_131 : decode cX5_lay 131 = .ok (.return_, 1) := by decide +kernel
set_option maxRecDepth 20000 in
theorem sX5_lay_0 {P : Option Value → AH → Prop} (h : AH) (r0 : Nat) (r1 : Nat) (x2 : Int32) (x3 : Int32) (x4 : Int32) (x5 : Int32) (hf : (isO h 3 r1) ∧ ((isO h 5 r0) ∧ ((isA h 3 (gF (sI (sI h r0 0 (gI h r1 12)) r0 1 (gI (sI h r0 0 (gI h r1 12)) r1 13)) r1 11)) ∧ ((vp_in x2 (ln (gF (sI (sI h r0 0 (gI h r1 12)) r0 1 (gI (sI h r0 0 (gI h r1 12)) r1 13)) r1 11))) ∧ ((isO h 0 (gF (sI (sI h r0 0 (gI h r1 12)) r0 1 (gI (sI h r0 0 (gI h r1 12)) r1 13)) r0 4)) ∧ ((isO h 0 (gF (sI (sI h r0 0 (gI h r1 12)) r0 1 (gI (sI h r0 0 (gI h r1 12)) r1 13)) (gF (sI (sI h r0 0 (gI h r1 12)) r0 1 (gI (sI h r0 0 (gI h r1 12)) r1 13)) r1 11) x2.toNatClampNeg)) ∧ ((isA h 1 (gF h (gF (sI (sI h r0 0 (gI h r1 12)) r0 1 (gI (sI h r0 0 (gI h r1 12)) r1 13)) (gF (sI (sI h r0 0 (gI h r1 12)) r0 1 (gI (sI h r0 0 (gI h r1 12)) r1 13)) r1 11) x2.toNatClampNeg) 0)) ∧ ((isA h 1 (gF h (gF (sI (sI h r0 0 (gI h r1 12)) r0 1 (gI (sI h r0 0 (gI h r1 12)) r1 13)) r0 4) 0)) ∧ (((Int32.toNatClampNeg 0) + (Int32.toNatClampNeg 4) ≤ ln (gF (sI (sI h r0 0 (gI h r1 12)) r0 1 (gI (sI h r0 0 (gI h r1 12)) r1 13)) (gF (sI (sI h r0 0 (gI h r1 12)) r0 1 (gI (sI h r0 0 (gI h r1 12)) r1 13)) (gF (sI (sI h r0 0 (gI h r1 12)) r0 1 (gI (sI h r0 0 (gI h r1 12)) r1 13)) r1 11) x2.toNatClampNeg) 0)) ∧ (((Int32.toNatClampNeg 0) + (Int32.toNatClampNeg 4) ≤ ln (gF (sI (sI h r0 0 (gI h r1 12)) r0 1 (gI (sI h r0 0 (gI h r1 12)) r1 13)) (gF (sI (sI h r0 0 (gI h r1 12)) r0 1 (gI (sI h r0 0 (gI h r1 12)) r1 13)) r0 4) 0)) ∧ ((isA h 3 (gF (rL (sI (sI h r0 0 (gI h r1 12)) r0 1 (gI (sI h r0 0 (gI h r1 12)) r1 13)) (gF (sI (sI h r0 0 (gI h r1 12)) r0 1 (gI (sI h r0 0 (gI h r1 12)) r1 13)) (gF (sI (sI h r0 0 (gI h r1 12)) r0 1 (gI (sI h r0 0 (gI h r1 12)) r1 13)) r0 4) 0) (va_cpy (gL (sI (sI h r0 0 (gI h r1 12)) r0 1 (gI (sI h r0 0 (gI h r1 12)) r1 13)) (gF (sI (sI h r0 0 (gI h r1 12)) r0 1 (gI (sI h r0 0 (gI h r1 12)) r1 13)) (gF (sI (sI h r0 0 (gI h r1 12)) r0 1 (gI (sI h r0 0 (gI h r1 12)) r1 13)) (gF (sI (sI h r0 0 (gI h r1 12)) r0 1 (gI (sI h r0 0 (gI h r1 12)) r1 13)) r1 11) x2.toNatClampNeg) 0)) (gL (sI (sI h r0 0 (gI h r1 12)) r0 1 (gI (sI h r0 0 (gI h r1 12)) r1 13)) (gF (sI (sI h r0 0 (gI h r1 12)) r0 1 (gI (sI h r0 0 (gI h r1 12)) r1 13)) (gF (sI (sI h r0 0 (gI h r1 12)) r0 1 (gI (sI h r0 0 (gI h r1 12)) r1 13)) r0 4) 0)) (Int32.toNatClampNeg 0) (Int32.toNatClampNeg 0) (Int32.toNatClampNeg 4))) r1 11)) ∧ ((vp_in x3 (ln (gF (rL (sI (sI h r0 0 (gI h r1 12)) r0 1 (gI (sI h r0 0 (gI h r1 12)) r1 13)) (gF (sI (sI h r0 0 (gI h r1 12)) r0 1 (gI (sI h r0 0 (gI h r1 12)) r1 13)) (gF (sI (sI h r0 0 (gI h r1 12)) r0 1 (gI (sI h r0 0 (gI h r1 12)) r1 13)) r0 4) 0) (va_cpy (gL (sI (sI h r0 0 (gI h r1 12)) r0 1 (gI (sI h r0 0 (gI h r1 12)) r1 13)) (gF (sI (sI h r0 0 (gI h r1 12)) r0 1 (gI (sI h r0 0 (gI h r1 12)) r1 13)) (gF (sI (sI h r0 0 (gI h r1 12)) r0 1 (gI (sI h r0 0 (gI h r1 12)) r1 13)) (gF (sI (sI h r0 0 (gI h r1 12)) r0 1 (gI (sI h r0 0 (gI h r1 12)) r1 13)) r1 11) x2.toNatClampNeg) 0)) (gL (sI (sI h r0 0 (gI h r1 12)) r0 1 (gI (sI h r0 0 (gI h r1 12)) r1 13)) (gF (sI (sI h r0 0 (gI h r1 12)) r0 1 (gI (sI h r0 0 (gI h r1 12)) r1 13)) (gF (sI (sI h r0 0 (gI h r1 12)) r0 1 (gI (sI h r0 0 (gI h r1 12)) r1 13)) r0 4) 0)) (Int32.toNatClampNeg 0) (Int32.toNatClampNeg 0) (Int32.toNatClampNeg 4))) r1 11))) ∧ ((isO h 0 (gF (rL (sI (sI h r0 0 (gI h r1 12)) r0 1 (gI (sI h r0 0 (gI h r1 12)) r1 13)) (gF (sI (sI h r0 0 (gI h r1 12)) r0 1 (gI (sI h r0 0 (gI h r1 12)) r1 13)) (gF (sI (sI h r0 0 (gI h r1 12)) r0 1 (gI (sI h r0 0 (gI h r1 12)) r1 13)) r0 4) 0) (va_cpy (gL (sI (sI h r0 0 (gI h r1 12)) r0 1 (gI (sI h r0 0 (gI h r1 12)) r1 13)) (gF (sI (sI h r0 0 (gI h r1 12)) r0 1 (gI (sI h r0 0 (gI h r1 12)) r1 13)) (gF (sI (sI h r0 0 (gI h r1 12)) r0 1 (gI (sI h r0 0 (gI h r1 12)) r1 13)) (gF (sI (sI h r0 0 (gI h r1 12)) r0 1 (gI (sI h r0 0 (gI h r1 12)) r1 13)) r1 11) x2.toNatClampNeg) 0)) (gL (sI (sI h r0 0 (gI h r1 12)) r0 1 (gI (sI h r0 0 (gI h r1 12)) r1 13)) (gF (sI (sI h r0 0 (gI h r1 12)) r0 1 (gI (sI h r0 0 (gI h r1 12)) r1 13)) (gF (sI (sI h r0 0 (gI h r1 12)) r0 1 (gI (sI h r0 0 (gI h r1 12)) r1 13)) r0 4) 0)) (Int32.toNatClampNeg 0) (Int32.toNatClampNeg 0) (Int32.toNatClampNeg 4))) r0 5)) ∧ ((isO h 0 (gF (rL (sI (sI h r0 0 (gI h r1 12)) r0 1 (gI (sI h r0 0 (gI h r1 12)) r1 13)) (gF (sI (sI h r0 0 (gI h r1 12)) r0 1 (gI (sI h r0 0 (gI h r1 12)) r1 13)) (gF (sI (sI h r0 0 (gI h r1 12)) r0 1 (gI (sI h r0 0 (gI h r1 12)) r1 13)) r0 4) 0) (va_cpy (gL (sI (sI h r0 0 (gI h r1 12)) r0 1 (gI (sI h r0 0 (gI h r1 12)) r1 13)) (gF (sI (sI h r0 0 (gI h r1 12)) r0 1 (gI (sI h r0 0 (gI h r1 12)) r1 13)) (gF (sI (sI h r0 0 (gI h r1 12)) r0 1 (gI (sI h r0 0 (gI h r1 12)) r1 13)) (gF (sI (sI h r0 0 (gI h r1 12)) r0 1 (gI (sI h r0 0 (gI h r1 12)) r1 13)) r1 11) x2.toNatClampNeg) 0)) (gL (sI (sI h r0 0 (gI h r1 12)) r0 1 (gI (sI h r0 0 (gI h r1 12)) r1 13)) (gF (sI (sI h r0 0 (gI h r1 12)) r0 1 (gI (sI h r0 0 (gI h r1 12)) r1 13)) (gF (sI (sI h r0 0 (gI h r1 12)) r0 1 (gI (sI h r0 0 (gI h r1 12)) r1 13)) r0 4) 0)) (Int32.toNatClampNeg 0) (Int32.toNatClampNeg 0) (Int32.toNatClampNeg 4))) (gF (rL (sI (sI h r0 0 (gI h r1 12)) r0 1 (gI (sI h r0 0 (gI h r1 12)) r1 13)) (gF (sI (sI h r0 0 (gI h r1 12)) r0 1 (gI (sI h r0 0 (gI h r1 12)) r1 13)) (gF (sI (sI h r0 0 (gI h r1 12)) r0 1 (gI (sI h r0 0 (gI h r1 12)) r1 13)) r0 4) 0) (va_cpy (gL (sI (sI h r0 0 (gI h r1 12)) r0 1 (gI (sI h r0 0 (gI h r1 12)) r1 13)) (gF (sI (sI h r0 0 (gI h r1 12)) r0 1 (gI (sI h r0 0 (gI h r1 12)) r1 13)) (gF (sI (sI h r0 0 (gI h r1 12)) r0 1 (gI (sI h r0 0 (gI h r1 12)) r1 13)) (gF (sI (sI h r0 0 (gI h r1 12)) r0 1 (gI (sI h r0 0 (gI h r1 12)) r1 13)) r1 11) x2.toNatClampNeg) 0)) (gL (sI (sI h r0 0 (gI h r1 12)) r0 1 (gI (sI h r0 0 (gI h r1 12)) r1 13)) (gF (sI (sI h r0 0 (gI h r1 12)) r0 1 (gI (sI h r0 0 (gI h r1 12)) r1 13)) (gF (sI (sI h r0 0 (gI h r1 12)) r0 1 (gI (sI h r0 0 (gI h r1 12)) r1 13)) r0 4) 0)) (Int32.toNatClampNeg 0) (Int32.toNatClampNeg 0) (Int32.toNatClampNeg 4))) r1 11) x3.toNatClampNeg)) ∧ ((isA h 1 (gF h (gF (rL (sI (sI h r0 0 (gI h r1 12)) r0 1 (gI (sI h r0 0 (gI h r1 12)) r1 13)) (gF (sI (sI h r0 0 (gI h r1 12)) r0 1 (gI (sI h r0 0 (gI h r1 12)) r1 13)) (gF (sI (sI h r0 0 (gI h r1 12)) r0 1 (gI (sI h r0 0 (gI h r1 12)) r1 13)) r0 4) 0) (va_cpy (gL (sI (sI h r0 0 (gI h r1 12)) r0 1 (gI (sI h r0 0 (gI h r1 12)) r1 13)) (gF (sI (sI h r0 0 (gI h r1 12)) r0 1 (gI (sI h r0 0 (gI h r1 12)) r1 13)) (gF (sI (sI h r0 0 (gI h r1 12)) r0 1 (gI (sI h r0 0 (gI h r1 12)) r1 13)) (gF (sI (sI h r0 0 (gI h r1 12)) r0 1 (gI (sI h r0 0 (gI h r1 12)) r1 13)) r1 11) x2.toNatClampNeg) 0)) (gL (sI (sI h r0 0 (gI h r1 12)) r0 1 (gI (sI h r0 0 (gI h r1 12)) r1 13)) (gF (sI (sI h r0 0 (gI h r1 12)) r0 1 (gI (sI h r0 0 (gI h r1 12)) r1 13)) (gF (sI (sI h r0 0 (gI h r1 12)) r0 1 (gI (sI h r0 0 (gI h r1 12)) r1 13)) r0 4) 0)) (Int32.toNatClampNeg 0) (Int32.toNatClampNeg 0) (Int32.toNatClampNeg 4))) (gF (rL (sI (sI h r0 0 (gI h r1 12)) r0 1 (gI (sI h r0 0 (gI h r1 12)) r1 13)) (gF (sI (sI h r0 0 (gI h r1 12)) r0 1 (gI (sI h r0 0 (gI h r1 12)) r1 13)) (gF (sI (sI h r0 0 (gI h r1 12)) r0 1 (gI (sI h r0 0 (gI h r1 12)) r1 13)) r0 4) 0) (va_cpy (gL (sI (sI h r0 0 (gI h r1 12)) r0 1 (gI (sI h r0 0 (gI h r1 12)) r1 13)) (gF (sI (sI h r0 0 (gI h r1 12)) r0 1 (gI (sI h r0 0 (gI h r1 12)) r1 13)) (gF (sI (sI h r0 0 (gI h r1 12)) r0 1 (gI (sI h r0 0 (gI h r1 12)) r1 13)) (gF (sI (sI h r0 0 (gI h r1 12)) r0 1 (gI (sI h r0 0 (gI h r1 12)) r1 13)) r1 11) x2.toNatClampNeg) 0)) (gL (sI (sI h r0 0 (gI h r1 12)) r0 1 (gI (sI h r0 0 (gI h r1 12)) r1 13)) (gF (sI (sI h r0 0 (gI h r1 12)) r0 1 (gI (sI h r0 0 (gI h r1 12)) r1 13)) (gF (sI (sI h r0 0 (gI h r1 12)) r0 1 (gI (sI h r0 0 (gI h r1 12)) r1 13)) r0 4) 0)) (Int32.toNatClampNeg 0) (Int32.toNatClampNeg 0) (Int32.toNatClampNeg 4))) r1 11) x3.toNatClampNeg) 0)) ∧ ((isA h 1 (gF h (gF (rL (sI (sI h r0 0 (gI h r1 12)) r0 1 (gI (sI h r0 0 (gI h r1 12)) r1 13)) (gF (sI (sI h r0 0 (gI h r1 12)) r0 1 (gI (sI h r0 0 (gI h r1 12)) r1 13)) (gF (sI (sI h r0 0 (gI h r1 12)) r0 1 (gI (sI h r0 0 (gI h r1 12)) r1 13)) r0 4) 0) (va_cpy (gL (sI (sI h r0 0 (gI h r1 12)) r0 1 (gI (sI h r0 0 (gI h r1 12)) r1 13)) (gF (sI (sI h r0 0 (gI h r1 12)) r0 1 (gI (sI h r0 0 (gI h r1 12)) r1 13)) (gF (sI (sI h r0 0 (gI h r1 12)) r0 1 (gI (sI h r0 0 (gI h r1 12)) r1 13)) (gF (sI (sI h r0 0 (gI h r1 12)) r0 1 (gI (sI h r0 0 (gI h r1 12)) r1 13)) r1 11) x2.toNatClampNeg) 0)) (gL (sI (sI h r0 0 (gI h r1 12)) r0 1 (gI (sI h r0 0 (gI h r1 12)) r1 13)) (gF (sI (sI h r0 0 (gI h r1 12)) r0 1 (gI (sI h r0 0 (gI h r1 12)) r1 13)) (gF (sI (sI h r0 0 (gI h r1 12)) r0 1 (gI (sI h r0 0 (gI h r1 12)) r1 13)) r0 4) 0)) (Int32.toNatClampNeg 0) (Int32.toNatClampNeg 0) (Int32.toNatClampNeg 4))) r0 5) 0)) ∧ (((Int32.toNatClampNeg 0) + (Int32.toNatClampNeg 4) ≤ ln (gF (rL (sI (sI h r0 0 (gI h r1 12)) r0 1 (gI (sI h r0 0 (gI h r1 12)) r1 13)) (gF (sI (sI h r0 0 (gI h r1 12)) r0 1 (gI (sI h r0 0 (gI h r1 12)) r1 13)) (gF (sI (sI h r0 0 (gI h r1 12)) r0 1 (gI (sI h r0 0 (gI h r1 12)) r1 13)) r0 4) 0) (va_cpy (gL (sI (sI h r0 0 (gI h r1 12)) r0 1 (gI (sI h r0 0 (gI h r1 12)) r1 13)) (gF (sI (sI h r0 0 (gI h r1 12)) r0 1 (gI (sI h r0 0 (gI h r1 12)) r1 13)) (gF (sI (sI h r0 0 (gI h r1 12)) r0 1 (gI (sI h r0 0 (gI h r1 12)) r1 13)) (gF (sI (sI h r0 0 (gI h r1 12)) r0 1 (gI (sI h r0 0 (gI h r1 12)) r1 13)) r1 11) x2.toNatClampNeg) 0)) (gL (sI (sI h r0 0 (gI h r1 12)) r0 1 (gI (sI h r0 0 (gI h r1 12)) r1 13)) (gF (sI (sI h r0 0 (gI h r1 12)) r0 1 (gI (sI h r0 0 (gI h r1 12)) r1 13)) (gF (sI (sI h r0 0 (gI h r1 12)) r0 1 (gI (sI h r0 0 (gI h r1 12)) r1 13)) r0 4) 0)) (Int32.toNatClampNeg 0) (Int32.toNatClampNeg 0) (Int32.toNatClampNeg 4))) (gF (rL (sI (sI h r0 0 (gI h r1 12)) r0 1 (gI (sI h r0 0 (gI h r1 12)) r1 13)) (gF (sI (sI h r0 0 (gI h r1 12)) r0 1 (gI (sI h r0 0 (gI h r1 12)) r1 13)) (gF (sI (sI h r0 0 (gI h r1 12)) r0 1 (gI (sI h r0 0 (gI h r1 12)) r1 13)) r0 4) 0) (va_cpy (gL (sI (sI h r0 0 (gI h r1 12)) r0 1 (gI (sI h r0 0 (gI h r1 12)) r1 13)) (gF (sI (sI h r0 0 (gI h r1 12)) r0 1 (gI (sI h r0 0 (gI h r1 12)) r1 13)) (gF (sI (sI h r0 0 (gI h r1 12)) r0 1 (gI (sI h r0 0 (gI h r1 12)) r1 13)) (gF (sI (sI h r0 0 (gI h r1 12)) r0 1 (gI (sI h r0 0 (gI h r1 12)) r1 13)) r1 11) x2.toNatClampNeg) 0)) (gL (sI (sI h r0 0 (gI h r1 12)) r0 1 (gI (sI h r0 0 (gI h r1 12)) r1 13)) (gF (sI (sI h r0 0 (gI h r1 12)) r0 1 (gI (sI h r0 0 (gI h r1 12)) r1 13)) (gF (sI (sI h r0 0 (gI h r1 12)) r0 1 (gI (sI h r0 0 (gI h r1 12)) r1 13)) r0 4) 0)) (Int32.toNatClampNeg 0) (Int32.toNatClampNeg 0) (Int32.toNatClampNeg 4))) (gF (rL (sI (sI h r0 0 (gI h r1 12)) r0 1 (gI (sI h r0 0 (gI h r1 12)) r1 13)) (gF (sI (sI h r0 0 (gI h r1 12)) r0 1 (gI (sI h r0 0 (gI h r1 12)) r1 13)) (gF (sI (sI h r0 0 (gI h r1 12)) r0 1 (gI (sI h r0 0 (gI h r1 12)) r1 13)) r0 4) 0) (va_cpy (gL (sI (sI h r0 0 (gI h r1 12)) r0 1 (gI (sI h r0 0 (gI h r1 12)) r1 13)) (gF (sI (sI h r0 0 (gI h r1 12)) r0 1 (gI (sI h r0 0 (gI h r1 12)) r1 13)) (gF (sI (sI h r0 0 (gI h r1 12)) r0 1 (gI (sI h r0 0 (gI h r1 12)) r1 13)) (gF (sI (sI h r0 0 (gI h r1 12)) r0 1 (gI (sI h r0 0 (gI h r1 12)) r1 13)) r1 11) x2.toNatClampNeg) 0)) (gL (sI (sI h r0 0 (gI h r1 12)) r0 1 (gI (sI h r0 0 (gI h r1 12)) r1 13)) (gF (sI (sI h r0 0 (gI h r1 12)) r0 1 (gI (sI h r0 0 (gI h r1 12)) r1 13)) (gF (sI (sI h r0 0 (gI h r1 12)) r0 1 (gI (sI h r0 0 (gI h r1 12)) r1 13)) r0 4) 0)) (Int32.toNatClampNeg 0) (Int32.toNatClampNeg 0) (Int32.toNatClampNeg 4))) r1 11) x3.toNatClampNeg) 0)) ∧ (((Int32.toNatClampNeg 0) + (Int32.toNatClampNeg 4) ≤ ln (gF (rL (sI (sI h r0 0 (gI h r1 12)) r0 1 (gI (sI h r0 0 (gI h r1 12)) r1 13)) (gF (sI (sI h r0 0 (gI h r1 12)) r0 1 (gI (sI h r0 0 (gI h r1 12)) r1 13)) (gF (sI (sI h r0 0 (gI h r1 12)) r0 1 (gI (sI h r0 0 (gI h r1 12)) r1 13)) r0 4) 0) (va_cpy (gL (sI (sI h r0 0 (gI h r1 12)) r0 1 (gI (sI h r0 0 (gI h r1 12)) r1 13)) (gF (sI (sI h r0 0 (gI h r1 12)) r0 1 (gI (sI h r0 0 (gI h r1 12)) r1 13)) (gF (sI (sI h r0 0 (gI h r1 12)) r0 1 (gI (sI h r0 0 (gI h r1 12)) r1 13)) (gF (sI (sI h r0 0 (gI h r1 12)) r0 1 (gI (sI h r0 0 (gI h r1 12)) r1 13)) r1 11) x2.toNatClampNeg) 0)) (gL (sI (sI h r0 0 (gI h r1 12)) r0 1 (gI (sI h r0 0 (gI h r1 12)) r1 13)) (gF (sI (sI h r0 0 (gI h r1 12)) r0 1 (gI (sI h r0 0 (gI h r1 12)) r1 13)) (gF (sI (sI h r0 0 (gI h r1 12)) r0 1 (gI (sI h r0 0 (gI h r1 12)) r1 13)) r0 4) 0)) (Int32.toNatClampNeg 0) (Int32.toNatClampNeg 0) (Int32.toNatClampNeg 4))) (gF (rL (sI (sI h r0 0 (gI h r1 12)) r0 1 (gI (sI h r0 0 (gI h r1 12)) r1 13)) (gF (sI (sI h r0 0 (gI h r1 12)) r0 1 (gI (sI h r0 0 (gI h r1 12)) r1 13)) (gF (sI (sI h r0 0 (gI h r1 12)) r0 1 (gI (sI h r0 0 (gI h r1 12)) r1 13)) r0 4) 0) (va_cpy (gL (sI (sI h r0 0 (gI h r1 12)) r0 1 (gI (sI h r0 0 (gI h r1 12)) r1 13)) (gF (sI (sI h r0 0 (gI h r1 12)) r0 1 (gI (sI h r0 0 (gI h r1 12)) r1 13)) (gF (sI (sI h r0 0 (gI h r1 12)) r0 1 (gI (sI h r0 0 (gI h r1 12)) r1 13)) (gF (sI (sI h r0 0 (gI h r1 12)) r0 1 (gI (sI h r0 0 (gI h r1 12)) r1 13)) r1 11) x2.toNatClampNeg) 0)) (gL (sI (sI h r0 0 (gI h r1 12)) r0 1 (gI (sI h r0 0 (gI h r1 12)) r1 13)) (gF (sI (sI h r0 0 (gI h r1 12)) r0 1 (gI (sI h r0 0 (gI h r1 12)) r1 13)) (gF (sI (sI h r0 0 (gI h r1 12)) r0 1 (gI (sI h r0 0 (gI h r1 12)) r1 13)) r0 4) 0)) (Int32.toNatClampNeg 0) (Int32.toNatClampNeg 0) (Int32.toNatClampNeg 4))) r0 5) 0)) ∧ (Rr mX5_lay 0 0 45 [(0, .ref r0), (4, .int x4), (5, .int x5), (6, .int 0)] [] (rL (rL (sI (sI h r0 0 (gI h r1 12)) r0 1 (gI (sI h r0 0 (gI h r1 12)) r1 13)) (gF (sI (sI h r0 0 (gI h r1 12)) r0 1 (gI (sI h r0 0 (gI h r1 12)) r1 13)) (gF (sI (sI h r0 0 (gI h r1 12)) r0 1 (gI (sI h r0 0 (gI h r1 12)) r1 13)) r0 4) 0) (va_cpy (gL (sI (sI h r0 0 (gI h r1 12)) r0 1 (gI (sI h r0 0 (gI h r1 12)) r1 13)) (gF (sI (sI h r0 0 (gI h r1 12)) r0 1 (gI (sI h r0 0 (gI h r1 12)) r1 13)) (gF (sI (sI h r0 0 (gI h r1 12)) r0 1 (gI (sI h r0 0 (gI h r1 12)) r1 13)) (gF (sI (sI h r0 0 (gI h r1 12)) r0 1 (gI (sI h r0 0 (gI h r1 12)) r1 13)) r1 11) x2.toNatClampNeg) 0)) (gL (sI (sI h r0 0 (gI h r1 12)) r0 1 (gI (sI h r0 0 (gI h r1 12)) r1 13)) (gF (sI (sI h r0 0 (gI h r1 12)) r0 1 (gI (sI h r0 0 (gI h r1 12)) r1 13)) (gF (sI (sI h r0 0 (gI h r1 12)) r0 1 (gI (sI h r0 0 (gI h r1 12)) r1 13)) r0 4) 0)) (Int32.toNatClampNeg 0) (Int32.toNatClampNeg 0) (Int32.toNatClampNeg 4))) (gF (rL (sI (sI h r0 0 (gI h r1 12)) r0 1 (gI (sI h r0 0 (gI h r1 12)) r1 13)) (gF (sI (sI h r0 0 (gI h r1 12)) r0 1 (gI (sI h r0 0 (gI h r1 12)) r1 13)) (gF (sI (sI h r0 0 (gI h r1 12)) r0 1 (gI (sI h r0 0 (gI h r1 12)) r1 13)) r0 4) 0) (va_cpy (gL (sI (sI h r0 0 (gI h r1 12)) r0 1 (gI (sI h r0 0 (gI h r1 12)) r1 13)) (gF (sI (sI h r0 0 (gI h r1 12)) r0 1 (gI (sI h r0 0 (gI h r1 12)) r1 13)) (gF (sI (sI h r0 0 (gI h r1 12)) r0 1 (gI (sI h r0 0 (gI h r1 12)) r1 13)) (gF (sI (sI h r0 0 (gI h r1 12)) r0 1 (gI (sI h r0 0 (gI h r1 12)) r1 13)) r1 11) x2.toNatClampNeg) 0)) (gL (sI (sI h r0 0 (gI h r1 12)) r0 1 (gI (sI h r0 0 (gI h r1 12)) r1 13)) (gF (sI (sI h r0 0 (gI h r1 12)) r0 1 (gI (sI h r0 0 (gI h r1 12)) r1 13)) (gF (sI (sI h r0 0 (gI h r1 12)) r0 1 (gI (sI h r0 0 (gI h r1 12)) r1 13)) r0 4) 0)) (Int32.toNatClampNeg 0) (Int32.toNatClampNeg 0) (Int32.toNatClampNeg 4))) (gF (rL (sI (sI h r0 0 (gI h r1 12)) r0 1 (gI (sI h r0 0 (gI h r1 12)) r1 13)) (gF (sI (sI h r0 0 (gI h r1 12)) r0 1 (gI (sI h r0 0 (gI h r1 12)) r1 13)) (gF (sI (sI h r0 0 (gI h r1 12)) r0 1 (gI (sI h r0 0 (gI h r1 12)) r1 13)) r0 4) 0) (va_cpy (gL (sI (sI h r0 0 (gI h r1 12)) r0 1 (gI (sI h r0 0 (gI h r1 12)) r1 13)) (gF (sI (sI h r0 0 (gI h r1 12)) r0 1 (gI (sI h r0 0 (gI h r1 12)) r1 13)) (gF (sI (sI h r0 0 (gI h r1 12)) r0 1 (gI (sI h r0 0 (gI h r1 12)) r1 13)) (gF (sI (sI h r0 0 (gI h r1 12)) r0 1 (gI (sI h r0 0 (gI h r1 12)) r1 13)) r1 11) x2.toNatClampNeg) 0)) (gL (sI (sI h r0 0 (gI h r1 12)) r0 1 (gI (sI h r0 0 (gI h r1 12)) r1 13)) (gF (sI (sI h r0 0 (gI h r1 12)) r0 1 (gI (sI h r0 0 (gI h r1 12)) r1 13)) (gF (sI (sI h r0 0 (gI h r1 12)) r0 1 (gI (sI h r0 0 (gI h r1 12)) r1 13)) r0 4) 0)) (Int32.toNatClampNeg 0) (Int32.toNatClampNeg 0) (Int32.toNatClampNeg 4))) r0 5) 0) (va_cpy (gL (rL (sI (sI h r0 0 (gI h r1 12)) r0 1 (gI (sI h r0 0 (gI h r1 12)) r1 13)) (gF (sI (sI h r0 0 (gI h r1 12)) r0 1 (gI (sI h r0 0 (gI h r1 12)) r1 13)) (gF (sI (sI h r0 0 (gI h r1 12)) r0 1 (gI (sI h r0 0 (gI h r1 12)) r1 13)) r0 4) 0) (va_cpy (gL (sI (sI h r0 0 (gI h r1 12)) r0 1 (gI (sI h r0 0 (gI h r1 12)) r1 13)) (gF (sI (sI h r0 0 (gI h r1 12)) r0 1 (gI (sI h r0 0 (gI h r1 12)) r1 13)) (gF (sI (sI h r0 0 (gI h r1 12)) r0 1 (gI (sI h r0 0 (gI h r1 12)) r1 13)) (gF (sI (sI h r0 0 (gI h r1 12)) r0 1 (gI (sI h r0 0 (gI h r1 12)) r1 13)) r1 11) x2.toNatClampNeg) 0)) (gL (sI (sI h r0 0 (gI h r1 12)) r0 1 (gI (sI h r0 0 (gI h r1 12)) r1 13)) (gF (sI (sI h r0 0 (gI h r1 12)) r0 1 (gI (sI h r0 0 (gI h r1 12)) r1 13)) (gF (sI (sI h r0 0 (gI h r1 12)) r0 1 (gI (sI h r0 0 (gI h r1 12)) r1 13)) r0 4) 0)) (Int32.toNatClampNeg 0) (Int32.toNatClampNeg 0) (Int32.toNatClampNeg 4))) (gF (rL (sI (sI h r0 0 (gI h r1 12)) r0 1 (gI (sI h r0 0 (gI h r1 12)) r1 13)) (gF (sI (sI h r0 0 (gI h r1 12)) r0 1 (gI (sI h r0 0 (gI h r1 12)) r1 13)) (gF (sI (sI h r0 0 (gI h r1 12)) r0 1 (gI (sI h r0 0 (gI h r1 12)) r1 13)) r0 4) 0) (va_cpy (gL (sI (sI h r0 0 (gI h r1 12)) r0 1 (gI (sI h r0 0 (gI h r1 12)) r1 13)) (gF (sI (sI h r0 0 (gI h r1 12)) r0 1 (gI (sI h r0 0 (gI h r1 12)) r1 13)) (gF (sI (sI h r0 0 (gI h r1 12)) r0 1 (gI (sI h r0 0 (gI h r1 12)) r1 13)) (gF (sI (sI h r0 0 (gI h r1 12)) r0 1 (gI (sI h r0 0 (gI h r1 12)) r1 13)) r1 11) x2.toNatClampNeg) 0)) (gL (sI (sI h r0 0 (gI h r1 12)) r0 1 (gI (sI h r0 0 (gI h r1 12)) r1 13)) (gF (sI (sI h r0 0 (gI h r1 12)) r0 1 (gI (sI h r0 0 (gI h r1 12)) r1 13)) (gF (sI (sI h r0 0 (gI h r1 12)) r0 1 (gI (sI h r0 0 (gI h r1 12)) r1 13)) r0 4) 0)) (Int32.toNatClampNeg 0) (Int32.toNatClampNeg 0) (Int32.toNatClampNeg 4))) (gF (rL (sI (sI h r0 0 (gI h r1 12)) r0 1 (gI (sI h r0 0 (gI h r1 12)) r1 13)) (gF (sI (sI h r0 0 (gI h r1 12)) r0 1 (gI (sI h r0 0 (gI h r1 12)) r1 13)) (gF (sI (sI h r0 0 (gI h r1 12)) r0 1 (gI (sI h r0 0 (gI h r1 12)) r1 13)) r0 4) 0) (va_cpy (gL (sI (sI h r0 0 (gI h r1 12)) r0 1 (gI (sI h r0 0 (gI h r1 12)) r1 13)) (gF (sI (sI h r0 0 (gI h r1 12)) r0 1 (gI (sI h r0 0 (gI h r1 12)) r1 13)) (gF (sI (sI h r0 0 (gI h r1 12)) r0 1 (gI (sI h r0 0 (gI h r1 12)) r1 13)) (gF (sI (sI h r0 0 (gI h r1 12)) r0 1 (gI (sI h r0 0 (gI h r1 12)) r1 13)) r1 11) x2.toNatClampNeg) 0)) (gL (sI (sI h r0 0 (gI h r1 12)) r0 1 (gI (sI h r0 0 (gI h r1 12)) r1 13)) (gF (sI (sI h r0 0 (gI h r1 12)) r0 1 (gI (sI h r0 0 (gI h r1 12)) r1 13)) (gF (sI (sI h r0 0 (gI h r1 12)) r0 1 (gI (sI h r0 0 (gI h r1 12)) r1 13)) r0 4) 0)) (Int32.toNatClampNeg 0) (Int32.toNatClampNeg 0) (Int32.toNatClampNeg 4))) (gF (rL (sI (sI h r0 0 (gI h r1 12)) r0 1 (gI (sI h r0 0 (gI h r1 12)) r1 13)) (gF (sI (sI h r0 0 (gI h r1 12)) r0 1 (gI (sI h r0 0 (gI h r1 12)) r1 13)) (gF (sI (sI h r0 0 (gI h r1 12)) r0 1 (gI (sI h r0 0 (gI h r1 12)) r1 13)) r0 4) 0) (va_cpy (gL (sI (sI h r0 0 (gI h r1 12)) r0 1 (gI (sI h r0 0 (gI h r1 12)) r1 13)) (gF (sI (sI h r0 0 (gI h r1 12)) r0 1 (gI (sI h r0 0 (gI h r1 12)) r1 13)) (gF (sI (sI h r0 0 (gI h r1 12)) r0 1 (gI (sI h r0 0 (gI h r1 12)) r1 13)) (gF (sI (sI h r0 0 (gI h r1 12)) r0 1 (gI (sI h r0 0 (gI h r1 12)) r1 13)) r1 11) x2.toNatClampNeg) 0)) (gL (sI (sI h r0 0 (gI h r1 12)) r0 1 (gI (sI h r0 0 (gI h r1 12)) r1 13)) (gF (sI (sI h r0 0 (gI h r1 12)) r0 1 (gI (sI h r0 0 (gI h r1 12)) r1 13)) (gF (sI (sI h r0 0 (gI h r1 12)) r0 1 (gI (sI h r0 0 (gI h r1 12)) r1 13)) r0 4) 0)) (Int32.toNatClampNeg 0) (Int32.toNatClampNeg 0) (Int32.toNatClampNeg 4))) r1 11) x3.toNatClampNeg) 0)) (gL (rL (sI (sI h r0 0 (gI h r1 12)) r0 1 (gI (sI h r0 0 (gI h r1 12)) r1 13)) (gF (sI (sI h r0 0 (gI h r1 12)) r0 1 (gI (sI h r0 0 (gI h r1 12)) r1 13)) (gF (sI (sI h r0 0 (gI h r1 12)) r0 1 (gI (sI h r0 0 (gI h r1 12)) r1 13)) r0 4) 0) (va_cpy (gL (sI (sI h r0 0 (gI h r1 12)) r0 1 (gI (sI h r0 0 (gI h r1 12)) r1 13)) (gF (sI (sI h r0 0 (gI h r1 12)) r0 1 (gI (sI h r0 0 (gI h r1 12)) r1 13)) (gF (sI (sI h r0 0 (gI h r1 12)) r0 1 (gI (sI h r0 0 (gI h r1 12)) r1 13)) (gF (sI (sI h r0 0 (gI h r1 12)) r0 1 (gI (sI h r0 0 (gI h r1 12)) r1 13)) r1 11) x2.toNatClampNeg) 0)) (gL (sI (sI h r0 0 (gI h r1 12)) r0 1 (gI (sI h r0 0 (gI h r1 12)) r1 13)) (gF (sI (sI h r0 0 (gI h r1 12)) r0 1 (gI (sI h r0 0 (gI h r1 12)) r1 13)) (gF (sI (sI h r0 0 (gI h r1 12)) r0 1 (gI (sI h r0 0 (gI h r1 12)) r1 13)) r0 4) 0)) (Int32.toNatClampNeg 0) (Int32.toNatClampNeg 0) (Int32.toNatClampNeg 4))) (gF (rL (sI (sI h r0 0 (gI h r1 12)) r0 1 (gI (sI h r0 0 (gI h r1 12)) r1 13)) (gF (sI (sI h r0 0 (gI h r1 12)) r0 1 (gI (sI h r0 0 (gI h r1 12)) r1 13)) (gF (sI (sI h r0 0 (gI h r1 12)) r0 1 (gI (sI h r0 0 (gI h r1 12)) r1 13)) r0 4) 0) (va_cpy (gL (sI (sI h r0 0 (gI h r1 12)) r0 1 (gI (sI h r0 0 (gI h r1 12)) r1 13)) (gF (sI (sI h r0 0 (gI h r1 12)) r0 1 (gI (sI h r0 0 (gI h r1 12)) r1 13)) (gF (sI (sI h r0 0 (gI h r1 12)) r0 1 (gI (sI h r0 0 (gI h r1 12)) r1 13)) (gF (sI (sI h r0 0 (gI h r1 12)) r0 1 (gI (sI h r0 0 (gI h r1 12)) r1 13)) r1 11) x2.toNatClampNeg) 0)) (gL (sI (sI h r0 0 (gI h r1 12)) r0 1 (gI (sI h r0 0 (gI h r1 12)) r1 13)) (gF (sI (sI h r0 0 (gI h r1 12)) r0 1 (gI (sI h r0 0 (gI h r1 12)) r1 13)) (gF (sI (sI h r0 0 (gI h r1 12)) r0 1 (gI (sI h r0 0 (gI h r1 12)) r1 13)) r0 4) 0)) (Int32.toNatClampNeg 0) (Int32.toNatClampNeg 0) (Int32.toNatClampNeg 4))) (gF (rL (sI (sI h r0 0 (gI h r1 12)) r0 1 (gI (sI h r0 0 (gI h r1 12)) r1 13)) (gF (sI (sI h r0 0 (gI h r1 12)) r0 1 (gI (sI h r0 0 (gI h r1 12)) r1 13)) (gF (sI (sI h r0 0 (gI h r1 12)) r0 1 (gI (sI h r0 0 (gI h r1 12)) r1 13)) r0 4) 0) (va_cpy (gL (sI (sI h r0 0 (gI h r1 12)) r0 1 (gI (sI h r0 0 (gI h r1 12)) r1 13)) (gF (sI (sI h r0 0 (gI h r1 12)) r0 1 (gI (sI h r0 0 (gI h r1 12)) r1 13)) (gF (sI (sI h r0 0 (gI h r1 12)) r0 1 (gI (sI h r0 0 (gI h r1 12)) r1 13)) (gF (sI (sI h r0 0 (gI h r1 12)) r0 1 (gI (sI h r0 0 (gI h r1 12)) r1 13)) r1 11) x2.toNatClampNeg) 0)) (gL (sI (sI h r0 0 (gI h r1 12)) r0 1 (gI (sI h r0 0 (gI h r1 12)) r1 13)) (gF (sI (sI h r0 0 (gI h r1 12)) r0 1 (gI (sI h r0 0 (gI h r1 12)) r1 13)) (gF (sI (sI h r0 0 (gI h r1 12)) r0 1 (gI (sI h r0 0 (gI h r1 12)) r1 13)) r0 4) 0)) (Int32.toNatClampNeg 0) (Int32.toNatClampNeg 0) (Int32.toNatClampNeg 4))) r0 5) 0)) (Int32.toNatClampNeg 0) (Int32.toNatClampNeg 0) (Int32.toNatClampNeg 4))) P))))))))))))))))))) : Rr mX5_lay 0 0 0 [(0, .ref r0), (1, .ref r1), (2, .int x2), (3, .int x3), (4, .int x4), (5, .int x5)] [] h P := by
  refine R_aload_n dX5_lay_0 rfl 0 rfl ?_
  refine R_aload_n dX5_lay_1 rfl 1 rfl ?_
  obtain ⟨ob1, hf⟩ := hf
  refine G3_12 dX5_lay_2 lfX5_35 ob1 ?_
  obtain ⟨ob2, hf⟩ := hf
  refine S5_0 dX5_lay_5 lfX5_41 ob2 ?_
  refine R_aload_n dX5_lay_8 rfl 0 rfl ?_
  refine R_aload_n dX5_lay_9 rfl 1 rfl ?_
  refine G3_13 dX5_lay_10 lfX5_44 ob1 ?_
  refine S5_1 dX5_lay_13 lfX5_47 ob2 ?_
  refine R_aload_n dX5_lay_16 rfl 0 rfl ?_
  refine G5_4 dX5_lay_17 lfX5_21 ob2 ?_
  refine R_aload_n dX5_lay_20 rfl 1 rfl ?_
  refine G3_11 dX5_lay_21 lfX5_50 ob1 ?_
  refine R_iload_n dX5_lay_24 rfl 2 rfl ?_
  obtain ⟨ob3, hf⟩ := hf
  obtain ⟨ob4, hf⟩ := hf
  refine R_aaload (t := 3) (by decide) dX5_lay_25 ob3 ob4 ?_
  obtain ⟨ob5, hf⟩ := hf
  obtain ⟨ob6, hf⟩ := hf
  obtain ⟨ob7, hf⟩ := hf
  obtain ⟨ob8, hf⟩ := hf
  obtain ⟨ob9, hf⟩ := hf
  obtain ⟨ob10, hf⟩ := hf
  refine R_callV (ci := 0) (N := mX0_copy) (as := [.ref (gF (sI (sI h r0 0 (gI h r1 12)) r0 1 (gI (sI h r0 0 (gI h r1 12)) r1 13)) (gF (sI (sI h r0 0 (gI h r1 12)) r0 1 (gI (sI h r0 0 (gI h r1 12)) r1 13)) r1 11) x2.toNatClampNeg)]) (rest := []) (kc2 := 0) (ks2 := 0) dX5_lay_26 lmX5_54 oX0_copy (Nat.le_of_ble_eq_true rfl) rfl rfl (Nat.le_of_ble_eq_true rfl) rfl rfl ob5 ok0 (aX0_copy ob6 ob5 ob7 ob8 ob9 ob10 ?_)
  refine R_aload_n dX5_lay_29 rfl 0 rfl ?_
  refine G5_5 dX5_lay_30 lfX5_25 ob2 ?_
  refine R_aload_n dX5_lay_33 rfl 1 rfl ?_
  refine G3_11 dX5_lay_34 lfX5_50 ob1 ?_
  refine R_iload_n dX5_lay_37 rfl 3 rfl ?_
  obtain ⟨ob11, hf⟩ := hf
  obtain ⟨ob12, hf⟩ := hf
  refine R_aaload (t := 3) (by decide) dX5_lay_38 ob11 ob12 ?_
  obtain ⟨ob13, hf⟩ := hf
  obtain ⟨ob14, hf⟩ := hf
  obtain ⟨ob15, hf⟩ := hf
  obtain ⟨ob16, hf⟩ := hf
  obtain ⟨ob17, hf⟩ := hf
  obtain ⟨ob18, hf⟩ := hf
  refine R_callV (ci := 0) (N := mX0_copy) (as := [.ref (gF (rL (sI (sI h r0 0 (gI h r1 12)) r0 1 (gI (sI h r0 0 (gI h r1 12)) r1 13)) (gF (sI (sI h r0 0 (gI h r1 12)) r0 1 (gI (sI h r0 0 (gI h r1 12)) r1 13)) (gF (sI (sI h r0 0 (gI h r1 12)) r0 1 (gI (sI h r0 0 (gI h r1 12)) r1 13)) r0 4) 0) (va_cpy (gL (sI (sI h r0 0 (gI h r1 12)) r0 1 (gI (sI h r0 0 (gI h r1 12)) r1 13)) (gF (sI (sI h r0 0 (gI h r1 12)) r0 1 (gI (sI h r0 0 (gI h r1 12)) r1 13)) (gF (sI (sI h r0 0 (gI h r1 12)) r0 1 (gI (sI h r0 0 (gI h r1 12)) r1 13)) (gF (sI (sI h r0 0 (gI h r1 12)) r0 1 (gI (sI h r0 0 (gI h r1 12)) r1 13)) r1 11) x2.toNatClampNeg) 0)) (gL (sI (sI h r0 0 (gI h r1 12)) r0 1 (gI (sI h r0 0 (gI h r1 12)) r1 13)) (gF (sI (sI h r0 0 (gI h r1 12)) r0 1 (gI (sI h r0 0 (gI h r1 12)) r1 13)) (gF (sI (sI h r0 0 (gI h r1 12)) r0 1 (gI (sI h r0 0 (gI h r1 12)) r1 13)) r0 4) 0)) (Int32.toNatClampNeg 0) (Int32.toNatClampNeg 0) (Int32.toNatClampNeg 4))) (gF (rL (sI (sI h r0 0 (gI h r1 12)) r0 1 (gI (sI h r0 0 (gI h r1 12)) r1 13)) (gF (sI (sI h r0 0 (gI h r1 12)) r0 1 (gI (sI h r0 0 (gI h r1 12)) r1 13)) (gF (sI (sI h r0 0 (gI h r1 12)) r0 1 (gI (sI h r0 0 (gI h r1 12)) r1 13)) r0 4) 0) (va_cpy (gL (sI (sI h r0 0 (gI h r1 12)) r0 1 (gI (sI h r0 0 (gI h r1 12)) r1 13)) (gF (sI (sI h r0 0 (gI h r1 12)) r0 1 (gI (sI h r0 0 (gI h r1 12)) r1 13)) (gF (sI (sI h r0 0 (gI h r1 12)) r0 1 (gI (sI h r0 0 (gI h r1 12)) r1 13)) (gF (sI (sI h r0 0 (gI h r1 12)) r0 1 (gI (sI h r0 0 (gI h r1 12)) r1 13)) r1 11) x2.toNatClampNeg) 0)) (gL (sI (sI h r0 0 (gI h r1 12)) r0 1 (gI (sI h r0 0 (gI h r1 12)) r1 13)) (gF (sI (sI h r0 0 (gI h r1 12)) r0 1 (gI (sI h r0 0 (gI h r1 12)) r1 13)) (gF (sI (sI h r0 0 (gI h r1 12)) r0 1 (gI (sI h r0 0 (gI h r1 12)) r1 13)) r0 4) 0)) (Int32.toNatClampNeg 0) (Int32.toNatClampNeg 0) (Int32.toNatClampNeg 4))) r1 11) x3.toNatClampNeg)]) (rest := []) (kc2 := 0) (ks2 := 0) dX5_lay_39 lmX5_54 oX0_copy (Nat.le_of_ble_eq_true rfl) rfl rfl (Nat.le_of_ble_eq_true rfl) rfl rfl ob13 ok0 (aX0_copy ob14 ob13 ob15 ob16 ob17 ob18 ?_)
  refine R_iconst (v := 0) dX5_lay_42 (by decide) ?_
  refine R_istore dX5_lay_43 (by decide) rfl ?_
  exact R_sub [1, 5, 6, 0] rfl hf
set_option maxRecDepth 20000 in
theorem sX5_lay_45 {P : Option Value → AH → Prop} (h : AH) (r0 : Nat) (x4 : Int32) (x5 : Int32) (x6 : Int32) (hf : (4 ≤ x6 → (isO h 5 r0) ∧ ((isO h 0 (gF h r0 4)) ∧ (Call mX0_grow [.ref (gF h r0 4), .int x4] h (fun v h4 => v = none ∧ ((isO h4 5 r0) ∧ ((isO h4 0 (gF h4 r0 5)) ∧ (Call mX0_grow [.ref (gF h4 r0 5), .int x5] h4 (fun v h7 => v = none ∧ (P none h7))))))))) ∧ (¬ 4 ≤ x6 → (isO h 5 r0) ∧ ((isO h 0 (gF h r0 4)) ∧ ((isA h 1 (gF h (gF h r0 4) 0)) ∧ ((vp_in x6 (ln (gF h (gF h r0 4) 0))) ∧ ((isO h 0 (gF h r0 5)) ∧ ((isA h 1 (gF h (gF h r0 5) 0)) ∧ ((vp_in x6 (ln (gF h (gF h r0 5) 0))) ∧ ((isA h 1 (gF h r0 2)) ∧ ((vp_in x6 (ln (gF h r0 2))) ∧ ((isO h 0 (gF (sL h (gF h r0 2) x6.toNatClampNeg ((gL h (gF h (gF h r0 4) 0) x6.toNatClampNeg) ||| (gL h (gF h (gF h r0 5) 0) x6.toNatClampNeg))) r0 4)) ∧ ((isA h 1 (gF (sL h (gF h r0 2) x6.toNatClampNeg ((gL h (gF h (gF h r0 4) 0) x6.toNatClampNeg) ||| (gL h (gF h (gF h r0 5) 0) x6.toNatClampNeg))) (gF (sL h (gF h r0 2) x6.toNatClampNeg ((gL h (gF h (gF h r0 4) 0) x6.toNatClampNeg) ||| (gL h (gF h (gF h r0 5) 0) x6.toNatClampNeg))) r0 4) 0)) ∧ ((vp_in x6 (ln (gF (sL h (gF h r0 2) x6.toNatClampNeg ((gL h (gF h (gF h r0 4) 0) x6.toNatClampNeg) ||| (gL h (gF h (gF h r0 5) 0) x6.toNatClampNeg))) (gF (sL h (gF h r0 2) x6.toNatClampNeg ((gL h (gF h (gF h r0 4) 0) x6.toNatClampNeg) ||| (gL h (gF h (gF h r0 5) 0) x6.toNatClampNeg))) r0 4) 0))) ∧ ((isO h 0 (gF (sL h (gF h r0 2) x6.toNatClampNeg ((gL h (gF h (gF h r0 4) 0) x6.toNatClampNeg) ||| (gL h (gF h (gF h r0 5) 0) x6.toNatClampNeg))) r0 5)) ∧ ((isA h 1 (gF (sL h (gF h r0 2) x6.toNatClampNeg ((gL h (gF h (gF h r0 4) 0) x6.toNatClampNeg) ||| (gL h (gF h (gF h r0 5) 0) x6.toNatClampNeg))) (gF (sL h (gF h r0 2) x6.toNatClampNeg ((gL h (gF h (gF h r0 4) 0) x6.toNatClampNeg) ||| (gL h (gF h (gF h r0 5) 0) x6.toNatClampNeg))) r0 5) 0)) ∧ ((vp_in x6 (ln (gF (sL h (gF h r0 2) x6.toNatClampNeg ((gL h (gF h (gF h r0 4) 0) x6.toNatClampNeg) ||| (gL h (gF h (gF h r0 5) 0) x6.toNatClampNeg))) (gF (sL h (gF h r0 2) x6.toNatClampNeg ((gL h (gF h (gF h r0 4) 0) x6.toNatClampNeg) ||| (gL h (gF h (gF h r0 5) 0) x6.toNatClampNeg))) r0 5) 0))) ∧ ((isA h 1 (gF (sL h (gF h r0 2) x6.toNatClampNeg ((gL h (gF h (gF h r0 4) 0) x6.toNatClampNeg) ||| (gL h (gF h (gF h r0 5) 0) x6.toNatClampNeg))) r0 3)) ∧ ((vp_in x6 (ln (gF (sL h (gF h r0 2) x6.toNatClampNeg ((gL h (gF h (gF h r0 4) 0) x6.toNatClampNeg) ||| (gL h (gF h (gF h r0 5) 0) x6.toNatClampNeg))) r0 3))) ∧ (Rr mX5_lay 0 0 45 [(0, .ref r0), (4, .int x4), (5, .int x5), (6, .int (x6 + 1))] [] (sL (sL h (gF h r0 2) x6.toNatClampNeg ((gL h (gF h (gF h r0 4) 0) x6.toNatClampNeg) ||| (gL h (gF h (gF h r0 5) 0) x6.toNatClampNeg))) (gF (sL h (gF h r0 2) x6.toNatClampNeg ((gL h (gF h (gF h r0 4) 0) x6.toNatClampNeg) ||| (gL h (gF h (gF h r0 5) 0) x6.toNatClampNeg))) r0 3) x6.toNatClampNeg ((gL (sL h (gF h r0 2) x6.toNatClampNeg ((gL h (gF h (gF h r0 4) 0) x6.toNatClampNeg) ||| (gL h (gF h (gF h r0 5) 0) x6.toNatClampNeg))) (gF (sL h (gF h r0 2) x6.toNatClampNeg ((gL h (gF h (gF h r0 4) 0) x6.toNatClampNeg) ||| (gL h (gF h (gF h r0 5) 0) x6.toNatClampNeg))) (gF (sL h (gF h r0 2) x6.toNatClampNeg ((gL h (gF h (gF h r0 4) 0) x6.toNatClampNeg) ||| (gL h (gF h (gF h r0 5) 0) x6.toNatClampNeg))) r0 4) 0) x6.toNatClampNeg) &&& (gL (sL h (gF h r0 2) x6.toNatClampNeg ((gL h (gF h (gF h r0 4) 0) x6.toNatClampNeg) ||| (gL h (gF h (gF h r0 5) 0) x6.toNatClampNeg))) (gF (sL h (gF h r0 2) x6.toNatClampNeg ((gL h (gF h (gF h r0 4) 0) x6.toNatClampNeg) ||| (gL h (gF h (gF h r0 5) 0) x6.toNatClampNeg))) (gF (sL h (gF h r0 2) x6.toNatClampNeg ((gL h (gF h (gF h r0 4) 0) x6.toNatClampNeg) ||| (gL h (gF h (gF h r0 5) 0) x6.toNatClampNeg))) r0 5) 0) x6.toNatClampNeg))) P))))))))))))))))))) : Rr mX5_lay 0 0 45 [(0, .ref r0), (4, .int x4), (5, .int x5), (6, .int x6)] [] h P := by
  refine R_iload dX5_lay_45 3 rfl ?_
  refine R_iconst (v := 4) dX5_lay_47 (by decide) ?_
  refine R_icmp_ge (tgt := 113) dX5_lay_48 (by decide) (fun b1 => ?_) (fun b1 => ?_)
  · have hf := hf.1 b1
    refine R_aload_n dX5_lay_113 rfl 0 rfl ?_
    obtain ⟨ob2, hf⟩ := hf
    refine G5_4 dX5_lay_114 lfX5_21 ob2 ?_
    refine R_iload dX5_lay_117 1 rfl ?_
    obtain ⟨ob3, hf⟩ := hf
    refine R_callV (ci := 0) (N := mX0_grow) (as := [.int x4]) (rest := []) (kc2 := 0) (ks2 := 0) dX5_lay_119 lmX5_61 oX0_grow (Nat.le_of_ble_eq_true rfl) rfl rfl (Nat.le_of_ble_eq_true rfl) rfl rfl ob3 ok0 (Call.mono hf ?_)
    rintro _ h4 ⟨rfl, hf⟩
    refine R_aload_n dX5_lay_122 rfl 0 rfl ?_
    obtain ⟨ob5, hf⟩ := hf
    refine G5_5 dX5_lay_123 lfX5_25 ob5 ?_
    refine R_iload dX5_lay_126 2 rfl ?_
    obtain ⟨ob6, hf⟩ := hf
    refine R_callV (ci := 0) (N := mX0_grow) (as := [.int x5]) (rest := []) (kc2 := 0) (ks2 := 0) dX5_lay_128 lmX5_61 oX0_grow (Nat.le_of_ble_eq_true rfl) rfl rfl (Nat.le_of_ble_eq_true rfl) rfl rfl ob6 ok0 (Call.mono hf ?_)
    rintro _ h7 ⟨rfl, hf⟩
    exact R_ret dX5_lay_131 rfl hf
  · have hf := hf.2 b1
    refine R_aload_n dX5_lay_51 rfl 0 rfl ?_
    obtain ⟨ob8, hf⟩ := hf
    refine G5_2 dX5_lay_52 lfX5_11 ob8 ?_
    refine R_iload dX5_lay_55 3 rfl ?_
    refine R_aload_n dX5_lay_57 rfl 0 rfl ?_
    refine G5_4 dX5_lay_58 lfX5_21 ob8 ?_
    obtain ⟨ob9, hf⟩ := hf
    refine G0_0 dX5_lay_61 lfX5_58 ob9 ?_
    refine R_iload dX5_lay_64 3 rfl ?_
    obtain ⟨ob10, hf⟩ := hf
    obtain ⟨ob11, hf⟩ := hf
    refine R_laload dX5_lay_66 ob10 ob11 ?_
    refine R_aload_n dX5_lay_67 rfl 0 rfl ?_
    refine G5_5 dX5_lay_68 lfX5_25 ob8 ?_
    obtain ⟨ob12, hf⟩ := hf
    refine G0_0 dX5_lay_71 lfX5_58 ob12 ?_
    refine R_iload dX5_lay_74 3 rfl ?_
    obtain ⟨ob13, hf⟩ := hf
    obtain ⟨ob14, hf⟩ := hf
    refine R_laload dX5_lay_76 ob13 ob14 ?_
    refine R_lor dX5_lay_77 ?_
    obtain ⟨ob15, hf⟩ := hf
    obtain ⟨ob16, hf⟩ := hf
    refine R_lastore dX5_lay_78 ob15 ob16 ?_
    refine R_aload_n dX5_lay_79 rfl 0 rfl ?_
    refine G5_3 dX5_lay_80 lfX5_17 ob8 ?_
    refine R_iload dX5_lay_83 3 rfl ?_
    refine R_aload_n dX5_lay_85 rfl 0 rfl ?_
    refine G5_4 dX5_lay_86 lfX5_21 ob8 ?_
    obtain ⟨ob17, hf⟩ := hf
    refine G0_0 dX5_lay_89 lfX5_58 ob17 ?_
    refine R_iload dX5_lay_92 3 rfl ?_
    obtain ⟨ob18, hf⟩ := hf
    obtain ⟨ob19, hf⟩ := hf
    refine R_laload dX5_lay_94 ob18 ob19 ?_
    refine R_aload_n dX5_lay_95 rfl 0 rfl ?_
    refine G5_5 dX5_lay_96 lfX5_25 ob8 ?_
    obtain ⟨ob20, hf⟩ := hf
    refine G0_0 dX5_lay_99 lfX5_58 ob20 ?_
    refine R_iload dX5_lay_102 3 rfl ?_
    obtain ⟨ob21, hf⟩ := hf
    obtain ⟨ob22, hf⟩ := hf
    refine R_laload dX5_lay_104 ob21 ob22 ?_
    refine R_land dX5_lay_105 ?_
    obtain ⟨ob23, hf⟩ := hf
    obtain ⟨ob24, hf⟩ := hf
    refine R_lastore dX5_lay_106 ob23 ob24 ?_
    refine R_iinc (v := x6 + 1) dX5_lay_107 3 rfl rfl (by decide) rfl ?_
    refine R_goto (tgt := 45) dX5_lay_110 (by decide) ?_
    exact R_sub [1, 2, 3, 0] rfl hf
theorem dX5_slip_0 : decode cX5_slip 0 = .ok (.aload_n 0, 1) := by decide +kernel
theorem dX5_slip_1 : decode cX5_slip 1 = .ok (.getfield 28, 3) := by decide +kernel
theorem dX5_slip_4 : decode cX5_slip 4 = .ok (.aload_n 0, 1) := by decide +kernel
theorem dX5_slip_5 : decode cX5_slip 5 = .ok (.getfield 25, 3) := by decide +kernel
theorem dX5_slip_8 : decode cX5_slip 8 = .ok (.invokevirtual 54, 3) := by decide +kernel
theorem dX5_slip_11 : decode cX5_slip 11 = .ok (.aload_n 0, 1) := by decide +kernel
theorem dX5_slip_12 : decode cX5_slip 12 = .ok (.getfield 28, 3) := by decide +kernel
theorem dX5_slip_15 : decode cX5_slip 15 = .ok (.iload_n 1, 1) := by decide +kernel
theorem dX5_slip_16 : decode cX5_slip 16 = .ok (.iload_n 2, 1) := by decide +kernel
theorem dX5_slip_17 : decode cX5_slip 17 = .ok (.invokevirtual 65, 3) := by decide +kernel
theorem dX5_slip_20 : decode cX5_slip 20 = .ok (.aload_n 0, 1) := by decide +kernel
theorem dX5_slip_21 : decode cX5_slip 21 = .ok (.iconst 0, 1) := by decide +kernel
theorem dX5_slip_22 : decode cX5_slip 22 = .ok (.putfield 69, 3) := by decide +kernel
theorem dX5_slip_25 : decode cX5_slip 25 = .ok (.aload_n 0, 1) := by decide +kernel
theorem dX5_slip_26 : decode cX5_slip 26 = .ok (.iconst 0, 1) := by decide +kernel
theorem dX5_slip_27 : decode cX5_slip 27 = .ok (.putfield 72, 3) := by decide +kernel
theorem dX5_slip_30 : decode cX5_slip 30 = .ok (.iconst 0, 1) := by decide +kernel
theorem dX5_slip_31 : decode cX5_slip 31 = .ok (.istore_n 3, 1) := by decide +kernel
theorem dX5_slip_32 : decode cX5_slip 32 = .ok (.iload_n 3, 1) := by decide +kernel
theorem dX5_slip_33 : decode cX5_slip 33 = .ok (.iconst 4, 1) := by decide +kernel
theorem dX5_slip_34 : decode cX5_slip 34 = .ok (.if_icmp .ge 87, 3) := by decide +kernel
theorem dX5_slip_37 : decode cX5_slip 37 = .ok (.aload_n 0, 1) := by decide +kernel
theorem dX5_slip_38 : decode cX5_slip 38 = .ok (.getfield 21, 3) := by decide +kernel
theorem dX5_slip_41 : decode cX5_slip 41 = .ok (.getfield 58, 3) := by decide +kernel
theorem dX5_slip_44 : decode cX5_slip 44 = .ok (.iload_n 3, 1) := by decide +kernel
theorem dX5_slip_45 : decode cX5_slip 45 = .ok (.laload, 1) := by decide +kernel
theorem dX5_slip_46 : decode cX5_slip 46 = .ok (.lstore 4, 2) := by decide +kernel
theorem dX5_slip_48 : decode cX5_slip 48 = .ok (.aload_n 0, 1) := by decide +kernel
theorem dX5_slip_49 : decode cX5_slip 49 = .ok (.getfield 28, 3) := by decide +kernel
theorem dX5_slip_52 : decode cX5_slip 52 = .ok (.getfield 58, 3) := by decide +kernel
theorem dX5_slip_55 : decode cX5_slip 55 = .ok (.iload_n 3, 1) := by decide +kernel
theorem dX5_slip_56 : decode cX5_slip 56 = .ok (.laload, 1) := by decide +kernel
theorem dX5_slip_57 : decode cX5_slip 57 = .ok (.lstore 6, 2) := by decide +kernel
theorem dX5_slip_59 : decode cX5_slip 59 = .ok (.aload_n 0, 1) := by decide +kernel
theorem dX5_slip_60 : decode cX5_slip 60 = .ok (.dup, 1) := by decide +kernel
theorem dX5_slip_61 : decode cX5_slip 61 = .ok (.getfield 69, 3) := by decide +kernel
theorem dX5_slip_64 : decode cX5_slip 64 = .ok (.aload_n 0, 1) := by decide +kernel
theorem dX5_slip_65 : decode cX5_slip 65 = .ok (.getfield 11, 3) := by decide +kernel
theorem dX5_slip_68 : decode cX5_slip 68 = .ok (.iload_n 3, 1) := by decide +kernel
theorem dX5_slip_69 : decode cX5_slip 69 = .ok (.laload, 1) := by decide +kernel
theorem dX5_slip_70 : decode cX5_slip 70 = .ok (.lload 4, 2) := by decide +kernel
theorem dX5_slip_72 : decode cX5_slip 72 = .ok (.lload 6, 2) := by decide +kernel
theorem dX5_slip_74 : decode cX5_slip 74 = .ok (.lor, 1) := by decide +kernel
theorem dX5_slip_75 : decode cX5_slip 75 = .ok (.ldc2_w 75, 3) := by decide +kernel
theorem dX5_slip_78 : decode cX5_slip 78 = .ok (.lxor, 1) := by decide +kernel
theorem dX5_slip_79 : decode cX5_slip 79 = .ok (.land, 1) := by decide +kernel
theorem dX5_slip_80 : decode cX5_slip 80 = .ok (.invokestatic 77, 3) := by decide +kernel
theorem dX5_slip_83 : decode cX5_slip 83 = .ok (.iadd, 1) := by decide +kernel
theorem dX5_slip_84 : decode cX5_slip 84 = .ok (.putfield 69, 3) := by decide +kernel
theorem dX5_slip_87 : decode cX5_slip 87 = .ok (.aload_n 0, 1) := by decide +kernel
theorem dX5_slip_88 : decode cX5_slip 88 = .ok (.dup, 1) := by decide +kernel
theorem dX5_slip_89 : decode cX5_slip 89 = .ok (.getfield 72, 3) := by decide +kernel
theorem dX5_slip_92 : decode cX5_slip 92 = .ok (.lload 4, 2) := by decide +kernel
theorem dX5_slip_94 : decode cX5_slip 94 = .ok (.lload 6, 2) := by decide +kernel
theorem dX5_slip_96 : decode cX5_slip 96 = .ok (.land, 1) := by decide +kernel
theorem dX5_slip_97 : decode cX5_slip 97 = .ok (.aload_n 0, 1) := by decide +kernel
theorem dX5_slip_98 : decode cX5_slip 98 = .ok (.getfield 17, 3) := by decide +kernel
theorem dX5_slip_101 : decode cX5_slip 101 = .ok (.iload_n 3, 1) := by decide +kernel
theorem dX5_slip_102 : decode cX5_slip 102 = .ok (.laload, 1) := by decide +kernel
theorem dX5_slip_103 : decode cX5_slip 103 = .ok (.ldc2_w 75, 3) := by decide +kernel
theorem dX5_slip_106 : decode cX5_slip 106 = .ok (.lxor, 1) := by decide +kernel
theorem dX5_slip_107 : decode cX5_slip 107 = .ok (.land, 1) := by decide +kernel
theorem dX5_slip_108 : decode cX5_slip 108 = .ok (.invokestatic 77, 3) := by decide +kernel
theorem dX5_slip_111 : decode cX5_slip 111 = .ok (.iadd, 1) := by decide +kernel
theorem dX5_slip_112 : decode cX5_slip 112 = .ok (.putfield 72, 3) := by decide +kernel
theorem dX5_slip_115 : decode cX5_slip 115 = .ok (.iinc 3 1, 3) := by decide +kernel
theorem dX5_slip_118 : decode cX5_slip 118 = .ok (.goto (-86), 3) := by decide +kernel
theorem dX5_slip_121 : decode cX5_slip 121 = .ok (.aload_n 0, 1) := by decide +kernel
theorem dX5_slip_122 : decode cX5_slip 122 = .ok (.getfield 41, 3) := by decide +kernel
theorem dX5_slip_125 : decode cX5_slip 125 = .ok (.aload_n 0, 1) := by decide +kernel
theorem dX5_slip_126 : decode cX5_slip 126 = .ok (.getfield 69, 3) := by decide +kernel
theorem dX5_slip_129 : decode cX5_slip 129 = .ok (.imul, 1) := by decide +kernel
theorem dX5_slip_130 : decode cX5_slip 130 = .ok (.aload_n 0, 1) := by decide +kernel
theorem dX5_slip_131 : decode cX5_slip 131 = .ok (.getfield 47, 3) := by decide +kernel
theorem dX5_slip_134 : decode cX5_slip 134 = .ok (.aload_n 0, 1) := by decide +kernel
theorem dX5_slip_135 : decode cX5_slip 135 = .ok (.getfield 72, 3) := by decide +kernel
theorem dX5_slip_138 : decode cX5_slip 138 = .ok (.imul, 1) := by decide +kernel
theorem dX5_slip_139 : decode cX5_slip 139 = .ok (.iadd, 1) := by decide +kernel
theorem dX5_slip_140 : decode cX5_slip 140 = .ok (.ireturn, 1) := by decide +kernel
set_option maxRecDepth 20000 in
theorem sX5_slip_0 {P : Option Value → AH → Prop} (h : AH) (r0 : Nat) (x1 : Int32) (x2 : Int32) (hf : (isO h 5 r0) ∧ ((isO h 0 (gF h r0 6)) ∧ ((isO h 0 (gF h r0 5)) ∧ ((isA h 1 (gF h (gF h r0 5) 0)) ∧ ((isA h 1 (gF h (gF h r0 6) 0)) ∧ (((Int32.toNatClampNeg 0) + (Int32.toNatClampNeg 4) ≤ ln (gF h (gF h r0 5) 0)) ∧ (((Int32.toNatClampNeg 0) + (Int32.toNatClampNeg 4) ≤ ln (gF h (gF h r0 6) 0)) ∧ ((isO h 0 (gF (rL h (gF h (gF h r0 6) 0) (va_cpy (gL h (gF h (gF h r0 5) 0)) (gL h (gF h (gF h r0 6) 0)) (Int32.toNatClampNeg 0) (Int32.toNatClampNeg 0) (Int32.toNatClampNeg 4))) r0 6)) ∧ (Call mX0_move [.ref (gF (rL h (gF h (gF h r0 6) 0) (va_cpy (gL h (gF h (gF h r0 5) 0)) (gL h (gF h (gF h r0 6) 0)) (Int32.toNatClampNeg 0) (Int32.toNatClampNeg 0) (Int32.toNatClampNeg 4))) r0 6), .int x1, .int x2] (rL h (gF h (gF h r0 6) 0) (va_cpy (gL h (gF h (gF h r0 5) 0)) (gL h (gF h (gF h r0 6) 0)) (Int32.toNatClampNeg 0) (Int32.toNatClampNeg 0) (Int32.toNatClampNeg 4))) (fun v h9 => v = none ∧ ((isO h9 5 r0) ∧ (Rr mX5_slip 0 0 32 [(0, .ref r0), (3, .int 0)] [] (sI (sI h9 r0 7 0) r0 8 0) P)))))))))))) : Rr mX5_slip 0 0 0 [(0, .ref r0), (1, .int x1), (2, .int x2)] [] h P := by
  refine R_aload_n dX5_slip_0 rfl 0 rfl ?_
  obtain ⟨ob1, hf⟩ := hf
  refine G5_6 dX5_slip_1 lfX5_28 ob1 ?_
  refine R_aload_n dX5_slip_4 rfl 0 rfl ?_
  refine G5_5 dX5_slip_5 lfX5_25 ob1 ?_
  obtain ⟨ob2, hf⟩ := hf
  obtain ⟨ob3, hf⟩ := hf
  obtain ⟨ob4, hf⟩ := hf
  obtain ⟨ob5, hf⟩ := hf
  obtain ⟨ob6, hf⟩ := hf
  obtain ⟨ob7, hf⟩ := hf
  refine R_callV (ci := 0) (N := mX0_copy) (as := [.ref (gF h r0 5)]) (rest := []) (kc2 := 0) (ks2 := 0) dX5_slip_8 lmX5_54 oX0_copy (Nat.le_of_ble_eq_true rfl) rfl rfl (Nat.le_of_ble_eq_true rfl) rfl rfl ob2 ok0 (aX0_copy ob3 ob2 ob4 ob5 ob6 ob7 ?_)
  refine R_aload_n dX5_slip_11 rfl 0 rfl ?_
  refine G5_6 dX5_slip_12 lfX5_28 ob1 ?_
  refine R_iload_n dX5_slip_15 rfl 1 rfl ?_
  refine R_iload_n dX5_slip_16 rfl 2 rfl ?_
  obtain ⟨ob8, hf⟩ := hf
  refine R_callV (ci := 0) (N := mX0_move) (as := [.int x1, .int x2]) (rest := []) (kc2 := 0) (ks2 := 0) dX5_slip_17 lmX5_65 oX0_move (Nat.le_of_ble_eq_true rfl) rfl rfl (Nat.le_of_ble_eq_true rfl) rfl rfl ob8 ok0 (Call.mono hf ?_)
  rintro _ h9 ⟨rfl, hf⟩
  refine R_aload_n dX5_slip_20 rfl 0 rfl ?_
  refine R_iconst (v := 0) dX5_slip_21 (by decide) ?_
  obtain ⟨ob10, hf⟩ := hf
  refine S5_7 dX5_slip_22 lfX5_69 ob10 ?_
  refine R_aload_n dX5_slip_25 rfl 0 rfl ?_
  refine R_iconst (v := 0) dX5_slip_26 (by decide) ?_
  refine S5_8 dX5_slip_27 lfX5_72 ob10 ?_
  refine R_iconst (v := 0) dX5_slip_30 (by decide) ?_
  refine R_istore_n dX5_slip_31 rfl (by decide) rfl ?_
  exact R_sub [1, 0] rfl hf
set_option maxRecDepth 20000 in
theorem sX5_slip_32 {P : Option Value → AH → Prop} (h : AH) (r0 : Nat) (x3 : Int32) (hf : (4 ≤ x3 → (isO h 5 r0) ∧ (P (some (.int (((gI h r0 0) * (gI h r0 7)) + ((gI h r0 1) * (gI h r0 8))))) h)) ∧ (¬ 4 ≤ x3 → (isO h 5 r0) ∧ ((isO h 0 (gF h r0 4)) ∧ ((isA h 1 (gF h (gF h r0 4) 0)) ∧ ((vp_in x3 (ln (gF h (gF h r0 4) 0))) ∧ ((isO h 0 (gF h r0 6)) ∧ ((isA h 1 (gF h (gF h r0 6) 0)) ∧ ((vp_in x3 (ln (gF h (gF h r0 6) 0))) ∧ ((isA h 1 (gF h r0 2)) ∧ ((vp_in x3 (ln (gF h r0 2))) ∧ (Call mJ13_bitCount_95d88 [.long ((gL h (gF h r0 2) x3.toNatClampNeg) &&& (((gL h (gF h (gF h r0 4) 0) x3.toNatClampNeg) ||| (gL h (gF h (gF h r0 6) 0) x3.toNatClampNeg)) ^^^ (-1)))] h (fun v h12 => ∃ z13 : Int32, v = some (.int z13) ∧ ((isO h12 5 r0) ∧ ((isA h12 1 (gF (sI h12 r0 7 ((gI h r0 7) + z13)) r0 3)) ∧ ((vp_in x3 (ln (gF (sI h12 r0 7 ((gI h r0 7) + z13)) r0 3))) ∧ (Call mJ13_bitCount_95d88 [.long (((gL h (gF h (gF h r0 4) 0) x3.toNatClampNeg) &&& (gL h (gF h (gF h r0 6) 0) x3.toNatClampNeg)) &&& ((gL (sI h12 r0 7 ((gI h r0 7) + z13)) (gF (sI h12 r0 7 ((gI h r0 7) + z13)) r0 3) x3.toNatClampNeg) ^^^ (-1)))] (sI h12 r0 7 ((gI h r0 7) + z13)) (fun v h17 => ∃ z18 : Int32, v = some (.int z18) ∧ ((isO h17 5 r0) ∧ (Rr mX5_slip 0 0 32 [(0, .ref r0), (3, .int (x3 + 1))] [] (sI h17 r0 8 ((gI (sI h12 r0 7 ((gI h r0 7) + z13)) r0 8) + z18)) P))))))))))))))))))) : Rr mX5_slip 0 0 32 [(0, .ref r0), (3, .int x3)] [] h P := by
  refine R_iload_n dX5_slip_32 rfl 1 rfl ?_
  refine R_iconst (v := 4) dX5_slip_33 (by decide) ?_
  refine R_icmp_ge (tgt := 121) dX5_slip_34 (by decide) (fun b1 => ?_) (fun b1 => ?_)
  · have hf := hf.1 b1
    refine R_aload_n dX5_slip_121 rfl 0 rfl ?_
    obtain ⟨ob2, hf⟩ := hf
    refine G5_0 dX5_slip_122 lfX5_41 ob2 ?_
    refine R_aload_n dX5_slip_125 rfl 0 rfl ?_
    refine G5_7 dX5_slip_126 lfX5_69 ob2 ?_
    refine R_imul dX5_slip_129 ?_
    refine R_aload_n dX5_slip_130 rfl 0 rfl ?_
    refine G5_1 dX5_slip_131 lfX5_47 ob2 ?_
    refine R_aload_n dX5_slip_134 rfl 0 rfl ?_
    refine G5_8 dX5_slip_135 lfX5_72 ob2 ?_
    refine R_imul dX5_slip_138 ?_
    refine R_iadd dX5_slip_139 ?_
    exact R_iret dX5_slip_140 rfl rfl hf
  · have hf := hf.2 b1
    refine R_aload_n dX5_slip_37 rfl 0 rfl ?_
    obtain ⟨ob3, hf⟩ := hf
    refine G5_4 dX5_slip_38 lfX5_21 ob3 ?_
    obtain ⟨ob4, hf⟩ := hf
    refine G0_0 dX5_slip_41 lfX5_58 ob4 ?_
    refine R_iload_n dX5_slip_44 rfl 1 rfl ?_
    obtain ⟨ob5, hf⟩ := hf
    obtain ⟨ob6, hf⟩ := hf
    refine R_laload dX5_slip_45 ob5 ob6 ?_
    refine R_lstore dX5_slip_46 (by decide) rfl ?_
    refine R_aload_n dX5_slip_48 rfl 1 rfl ?_
    refine G5_6 dX5_slip_49 lfX5_28 ob3 ?_
    obtain ⟨ob7, hf⟩ := hf
    refine G0_0 dX5_slip_52 lfX5_58 ob7 ?_
    refine R_iload_n dX5_slip_55 rfl 2 rfl ?_
    obtain ⟨ob8, hf⟩ := hf
    obtain ⟨ob9, hf⟩ := hf
    refine R_laload dX5_slip_56 ob8 ob9 ?_
    refine R_lstore dX5_slip_57 (by decide) rfl ?_
    refine R_aload_n dX5_slip_59 rfl 2 rfl ?_
    refine R_dup dX5_slip_60 rfl ?_
    refine G5_7 dX5_slip_61 lfX5_69 ob3 ?_
    refine R_aload_n dX5_slip_64 rfl 2 rfl ?_
    refine G5_2 dX5_slip_65 lfX5_11 ob3 ?_
    refine R_iload_n dX5_slip_68 rfl 3 rfl ?_
    obtain ⟨ob10, hf⟩ := hf
    obtain ⟨ob11, hf⟩ := hf
    refine R_laload dX5_slip_69 ob10 ob11 ?_
    refine R_lload dX5_slip_70 1 rfl ?_
    refine R_lload dX5_slip_72 0 rfl ?_
    refine R_lor dX5_slip_74 ?_
    refine R_ldc2 (v := (-1)) dX5_slip_75 lcX5_75 ?_
    refine R_lxor dX5_slip_78 ?_
    refine R_land dX5_slip_79 ?_
    refine R_callS (N := mJ13_bitCount_95d88) (as := [.long ((gL h (gF h r0 2) x3.toNatClampNeg) &&& (((gL h (gF h (gF h r0 4) 0) x3.toNatClampNeg) ||| (gL h (gF h (gF h r0 6) 0) x3.toNatClampNeg)) ^^^ (-1)))]) (rest := [.int (gI h r0 7), .ref r0]) (kc2 := 0) (ks2 := 0) dX5_slip_80 lmX5_77 oJ13_bitCount_95d88 (Nat.le_of_ble_eq_true rfl) rfl rfl (Nat.le_of_ble_eq_true rfl) rfl rfl (Call.mono hf ?_)
    rintro _ h12 ⟨z13, rfl, hf⟩
    refine R_iadd dX5_slip_83 ?_
    obtain ⟨ob14, hf⟩ := hf
    refine S5_7 dX5_slip_84 lfX5_69 ob14 ?_
    refine R_aload_n dX5_slip_87 rfl 2 rfl ?_
    refine R_dup dX5_slip_88 rfl ?_
    refine G5_8 dX5_slip_89 lfX5_72 ob14 ?_
    refine R_lload dX5_slip_92 1 rfl ?_
    refine R_lload dX5_slip_94 0 rfl ?_
    refine R_land dX5_slip_96 ?_
    refine R_aload_n dX5_slip_97 rfl 2 rfl ?_
    refine G5_3 dX5_slip_98 lfX5_17 ob14 ?_
    refine R_iload_n dX5_slip_101 rfl 3 rfl ?_
    obtain ⟨ob15, hf⟩ := hf
    obtain ⟨ob16, hf⟩ := hf
    refine R_laload dX5_slip_102 ob15 ob16 ?_
    refine R_ldc2 (v := (-1)) dX5_slip_103 lcX5_75 ?_
    refine R_lxor dX5_slip_106 ?_
    refine R_land dX5_slip_107 ?_
    refine R_callS (N := mJ13_bitCount_95d88) (as := [.long (((gL h (gF h (gF h r0 4) 0) x3.toNatClampNeg) &&& (gL h (gF h (gF h r0 6) 0) x3.toNatClampNeg)) &&& ((gL (sI h12 r0 7 ((gI h r0 7) + z13)) (gF (sI h12 r0 7 ((gI h r0 7) + z13)) r0 3) x3.toNatClampNeg) ^^^ (-1)))]) (rest := [.int (gI (sI h12 r0 7 ((gI h r0 7) + z13)) r0 8), .ref r0]) (kc2 := 0) (ks2 := 0) dX5_slip_108 lmX5_77 oJ13_bitCount_95d88 (Nat.le_of_ble_eq_true rfl) rfl rfl (Nat.le_of_ble_eq_true rfl) rfl rfl (Call.mono hf ?_)
    rintro _ h17 ⟨z18, rfl, hf⟩
    refine R_iadd dX5_slip_111 ?_
    obtain ⟨ob19, hf⟩ := hf
    refine S5_8 dX5_slip_112 lfX5_72 ob19 ?_
    refine R_iinc (v := x3 + 1) dX5_slip_115 3 rfl rfl (by decide) rfl ?_
    refine R_goto (tgt := 32) dX5_slip_118 (by decide) ?_
    exact R_sub [3, 0] rfl hf
theorem dX6_badOfRow_0 : decode cX6_badOfRow 0 = .ok (.aload_n 0, 1) := by decide +kernel
theorem dX6_badOfRow_1 : decode cX6_badOfRow 1 = .ok (.getfield 24, 3) := by decide +kernel
theorem dX6_badOfRow_4 : decode cX6_badOfRow 4 = .ok (.istore_n 3, 1) := by decide +kernel
theorem dX6_badOfRow_5 : decode cX6_badOfRow 5 = .ok (.aload_n 0, 1) := by decide +kernel
theorem dX6_badOfRow_6 : decode cX6_badOfRow 6 = .ok (.getfield 27, 3) := by decide +kernel
theorem dX6_badOfRow_9 : decode cX6_badOfRow 9 = .ok (.istore 4, 2) := by decide +kernel
theorem dX6_badOfRow_11 : decode cX6_badOfRow 11 = .ok (.aload_n 0, 1) := by decide +kernel
theorem dX6_badOfRow_12 : decode cX6_badOfRow 12 = .ok (.getfield 30, 3) := by decide +kernel
theorem dX6_badOfRow_15 : decode cX6_badOfRow 15 = .ok (.istore 5, 2) := by decide +kernel
theorem dX6_badOfRow_17 : decode cX6_badOfRow 17 = .ok (.iconst 0, 1) := by decide +kernel
theorem dX6_badOfRow_18 : decode cX6_badOfRow 18 = .ok (.istore 6, 2) := by decide +kernel
theorem dX6_badOfRow_20 : decode cX6_badOfRow 20 = .ok (.iload 6, 2) := by decide +kernel
theorem dX6_badOfRow_22 : decode cX6_badOfRow 22 = .ok (.aload_n 0, 1) := by decide +kernel
theorem dX6_badOfRow_23 : decode cX6_badOfRow 23 = .ok (.getfield 20, 3) := by decide +kernel
theorem dX6_badOfRow_26 : decode cX6_badOfRow 26 = .ok (.if_icmp .ge 70, 3) := by decide +kernel
theorem dX6_badOfRow_29 : decode cX6_badOfRow 29 = .ok (.iload_n 3, 1) := by decide +kernel
theorem dX6_badOfRow_30 : decode cX6_badOfRow 30 = .ok (.aload_n 0, 1) := by decide +kernel
theorem dX6_badOfRow_31 : decode cX6_badOfRow 31 = .ok (.getfield 11, 3) := by decide +kernel
theorem dX6_badOfRow_34 : decode cX6_badOfRow 34 = .ok (.iload 6, 2) := by decide +kernel
theorem dX6_badOfRow_36 : decode cX6_badOfRow 36 = .ok (.iaload, 1) := by decide +kernel
theorem dX6_badOfRow_37 : decode cX6_badOfRow 37 = .ok (.aload_n 1, 1) := by decide +kernel
theorem dX6_badOfRow_38 : decode cX6_badOfRow 38 = .ok (.iload_n 2, 1) := by decide +kernel
theorem dX6_badOfRow_39 : decode cX6_badOfRow 39 = .ok (.iload 6, 2) := by decide +kernel
theorem dX6_badOfRow_41 : decode cX6_badOfRow 41 = .ok (.iconst 0, 1) := by decide +kernel
theorem dX6_badOfRow_42 : decode cX6_badOfRow 42 = .ok (.invokevirtual 73, 3) := by decide +kernel
theorem dX6_badOfRow_45 : decode cX6_badOfRow 45 = .ok (.imul, 1) := by decide +kernel
theorem dX6_badOfRow_46 : decode cX6_badOfRow 46 = .ok (.iadd, 1) := by decide +kernel
theorem dX6_badOfRow_47 : decode cX6_badOfRow 47 = .ok (.istore_n 3, 1) := by decide +kernel
theorem dX6_badOfRow_48 : decode cX6_badOfRow 48 = .ok (.iload 4, 2) := by decide +kernel
theorem dX6_badOfRow_50 : decode cX6_badOfRow 50 = .ok (.aload_n 0, 1) := by decide +kernel
theorem dX6_badOfRow_51 : decode cX6_badOfRow 51 = .ok (.getfield 11, 3) := by decide +kernel
theorem dX6_badOfRow_54 : decode cX6_badOfRow 54 = .ok (.iload 6, 2) := by decide +kernel
theorem dX6_badOfRow_56 : decode cX6_badOfRow 56 = .ok (.iaload, 1) := by decide +kernel
theorem dX6_badOfRow_57 : decode cX6_badOfRow 57 = .ok (.aload_n 1, 1) := by decide +kernel
theorem dX6_badOfRow_58 : decode cX6_badOfRow 58 = .ok (.iload_n 2, 1) := by decide +kernel
theorem dX6_badOfRow_59 : decode cX6_badOfRow 59 = .ok (.iload 6, 2) := by decide +kernel
theorem dX6_badOfRow_61 : decode cX6_badOfRow 61 = .ok (.iconst 1, 1) := by decide +kernel
theorem dX6_badOfRow_62 : decode cX6_badOfRow 62 = .ok (.invokevirtual 73, 3) := by decide +kernel
theorem dX6_badOfRow_65 : decode cX6_badOfRow 65 = .ok (.imul, 1) := by decide +kernel
theorem dX6_badOfRow_66 : decode cX6_badOfRow 66 = .ok (.iadd, 1) := by decide +kernel
theorem dX6_badOfRow_67 : decode cX6_badOfRow 67 = .ok (.istore 4, 2) := by decide +kernel
theorem dX6_badOfRow_69 : decode cX6_badOfRow 69 = .ok (.iload 5, 2) := by decide +kernel
theorem dX6_badOfRow_71 : decode cX6_badOfRow 71 = .ok (.aload_n 0, 1) := by decide +kernel
theorem dX6_badOfRow_72 : decode cX6_badOfRow 72 = .ok (.getfield 11, 3) := by decide +kernel
theorem dX6_badOfRow_75 : decode cX6_badOfRow 75 = .ok (.iload 6, 2) := by decide +kernel
theorem dX6_badOfRow_77 : decode cX6_badOfRow 77 = .ok (.iaload, 1) := by decide +kernel
theorem dX6_badOfRow_78 : decode cX6_badOfRow 78 = .ok (.aload_n 1, 1) := by decide +kernel
theorem dX6_badOfRow_79 : decode cX6_badOfRow 79 = .ok (.iload_n 2, 1) := by decide +kernel
theorem dX6_badOfRow_80 : decode cX6_badOfRow 80 = .ok (.iload 6, 2) := by decide +kernel
theorem dX6_badOfRow_82 : decode cX6_badOfRow 82 = .ok (.iconst 2, 1) := by decide +kernel
theorem dX6_badOfRow_83 : decode cX6_badOfRow 83 = .ok (.invokevirtual 73, 3) := by decide +kernel
theorem dX6_badOfRow_86 : decode cX6_badOfRow 86 = .ok (.imul, 1) := by decide +kernel
theorem dX6_badOfRow_87 : decode cX6_badOfRow 87 = .ok (.iadd, 1) := by decide +kernel
theorem dX6_badOfRow_88 : decode cX6_badOfRow 88 = .ok (.istore 5, 2) := by decide +kernel
theorem dX6_badOfRow_90 : decode cX6_badOfRow 90 = .ok (.iinc 6 1, 3) := by decide +kernel
theorem dX6_badOfRow_93 : decode cX6_badOfRow 93 = .ok (.goto (-73), 3) := by decide +kernel
theorem dX6_badOfRow_96 : decode cX6_badOfRow 96 = .ok (.aload_n 0, 1) := by decide +kernel
theorem dX6_badOfRow_97 : decode cX6_badOfRow 97 = .ok (.aload_n 1, 1) := by decide +kernel
theorem dX6_badOfRow_98 : decode cX6_badOfRow 98 = .ok (.iload_n 3, 1) := by decide +kernel
theorem dX6_badOfRow_99 : decode cX6_badOfRow 99 = .ok (.iload 4, 2) := by decide +kernel
theorem dX6_badOfRow_101 : decode cX6_badOfRow 101 = .ok (.iload 5, 2) := by decide +kernel
theorem dX6_badOfRow_103 : decode cX6_badOfRow 103 = .ok (.invokevirtual 77, 3) := by decide +kernel
theorem dX6_badOfRow_106 : decode cX6_badOfRow 106 = .ok (.ireturn, 1) := by decide +kernel
set_option maxRecDepth 20000 in
theorem sX6_badOfRow_0 {P : Option Value → AH → Prop} (h : AH) (r0 : Nat) (r1 : Nat) (x2 : Int32) (hf : (isO h 6 r0) ∧ (Rr mX6_badOfRow 0 0 20 [(0, .ref r0), (1, .ref r1), (2, .int x2), (3, .int (gI h r0 0)), (4, .int (gI h r0 1)), (5, .int (gI h r0 2)), (6, .int 0)] [] h P)) : Rr mX6_badOfRow 0 0 0 [(0, .ref r0), (1, .ref r1), (2, .int x2)] [] h P := by
  refine R_aload_n dX6_badOfRow_0 rfl 0 rfl ?_
  obtain ⟨ob1, hf⟩ := hf
  refine G6_0 dX6_badOfRow_1 lfX6_24 ob1 ?_
  refine R_istore_n dX6_badOfRow_4 rfl (by decide) rfl ?_
  refine R_aload_n dX6_badOfRow_5 rfl 1 rfl ?_
  refine G6_1 dX6_badOfRow_6 lfX6_27 ob1 ?_
  refine R_istore dX6_badOfRow_9 (by decide) rfl ?_
  refine R_aload_n dX6_badOfRow_11 rfl 2 rfl ?_
  refine G6_2 dX6_badOfRow_12 lfX6_30 ob1 ?_
  refine R_istore dX6_badOfRow_15 (by decide) rfl ?_
  refine R_iconst (v := 0) dX6_badOfRow_17 (by decide) ?_
  refine R_istore dX6_badOfRow_18 (by decide) rfl ?_
  exact R_sub [4, 5, 6, 3, 2, 1, 0] rfl hf
set_option maxRecDepth 20000 in
theorem sX6_badOfRow_20 {P : Option Value → AH → Prop} (h : AH) (r0 : Nat) (r1 : Nat) (x2 : Int32) (x3 : Int32) (x4 : Int32) (x5 : Int32) (x6 : Int32) (hf : (isO h 6 r0) ∧ (((gI h r0 5) ≤ x6 → Call mX6_badOf [.ref r0, .ref r1, .int x3, .int x4, .int x5] h (fun v h3 => ∃ z4 : Int32, v = some (.int z4) ∧ (P (some (.int z4)) h3))) ∧ (¬ (gI h r0 5) ≤ x6 → (isA h 0 (gF h r0 4)) ∧ ((vp_in x6 (ln (gF h r0 4))) ∧ ((isO h 3 r1) ∧ (Call mX3_screwNumber [.ref r1, .int x2, .int x6, .int 0] h (fun v h8 => ∃ z9 : Int32, v = some (.int z9) ∧ ((isO h8 6 r0) ∧ ((isA h8 0 (gF h8 r0 4)) ∧ ((vp_in x6 (ln (gF h8 r0 4))) ∧ ((isO h8 3 r1) ∧ (Call mX3_screwNumber [.ref r1, .int x2, .int x6, .int 1] h8 (fun v h14 => ∃ z15 : Int32, v = some (.int z15) ∧ ((isO h14 6 r0) ∧ ((isA h14 0 (gF h14 r0 4)) ∧ ((vp_in x6 (ln (gF h14 r0 4))) ∧ ((isO h14 3 r1) ∧ (Call mX3_screwNumber [.ref r1, .int x2, .int x6, .int 2] h14 (fun v h20 => ∃ z21 : Int32, v = some (.int z21) ∧ (Rr mX6_badOfRow 0 0 20 [(0, .ref r0), (1, .ref r1), (2, .int x2), (3, .int (x3 + ((gI h (gF h r0 4) x6.toNatClampNeg) * z9))), (4, .int (x4 + ((gI h8 (gF h8 r0 4) x6.toNatClampNeg) * z15))), (5, .int (x5 + ((gI h14 (gF h14 r0 4) x6.toNatClampNeg) * z21))), (6, .int (x6 + 1))] [] h20 P)))))))))))))))))))) : Rr mX6_badOfRow 0 0 20 [(0, .ref r0), (1, .ref r1), (2, .int x2), (3, .int x3), (4, .int x4), (5, .int x5), (6, .int x6)] [] h P := by
  refine R_iload dX6_badOfRow_20 6 rfl ?_
  refine R_aload_n dX6_badOfRow_22 rfl 0 rfl ?_
  obtain ⟨ob1, hf⟩ := hf
  refine G6_5 dX6_badOfRow_23 lfX6_20 ob1 ?_
  refine R_icmp_ge (tgt := 96) dX6_badOfRow_26 (by decide) (fun b2 => ?_) (fun b2 => ?_)
  · have hf := hf.1 b2
    refine R_aload_n dX6_badOfRow_96 rfl 0 rfl ?_
    refine R_aload_n dX6_badOfRow_97 rfl 1 rfl ?_
    refine R_iload_n dX6_badOfRow_98 rfl 3 rfl ?_
    refine R_iload dX6_badOfRow_99 4 rfl ?_
    refine R_iload dX6_badOfRow_101 5 rfl ?_
    refine R_callV (ci := 6) (N := mX6_badOf) (as := [.ref r1, .int x3, .int x4, .int x5]) (rest := []) (kc2 := 0) (ks2 := 0) dX6_badOfRow_103 lmX6_77 oX6_badOf (Nat.le_of_ble_eq_true rfl) rfl rfl (Nat.le_of_ble_eq_true rfl) rfl rfl ob1 ok6 (Call.mono hf ?_)
    rintro _ h3 ⟨z4, rfl, hf⟩
    exact R_iret dX6_badOfRow_106 rfl rfl hf
  · have hf := hf.2 b2
    refine R_iload_n dX6_badOfRow_29 rfl 3 rfl ?_
    refine R_aload_n dX6_badOfRow_30 rfl 0 rfl ?_
    refine G6_4 dX6_badOfRow_31 lfX6_11 ob1 ?_
    refine R_iload dX6_badOfRow_34 6 rfl ?_
    obtain ⟨ob5, hf⟩ := hf
    obtain ⟨ob6, hf⟩ := hf
    refine R_iaload dX6_badOfRow_36 ob5 ob6 ?_
    refine R_aload_n dX6_badOfRow_37 rfl 1 rfl ?_
    refine R_iload_n dX6_badOfRow_38 rfl 2 rfl ?_
    refine R_iload dX6_badOfRow_39 6 rfl ?_
    refine R_iconst (v := 0) dX6_badOfRow_41 (by decide) ?_
    obtain ⟨ob7, hf⟩ := hf
    refine R_callV (ci := 3) (N := mX3_screwNumber) (as := [.int x2, .int x6, .int 0]) (rest := [.int (gI h (gF h r0 4) x6.toNatClampNeg), .int x3]) (kc2 := 0) (ks2 := 0) dX6_badOfRow_42 lmX6_73 oX3_screwNumber (Nat.le_of_ble_eq_true rfl) rfl rfl (Nat.le_of_ble_eq_true rfl) rfl rfl ob7 ok3 (Call.mono hf ?_)
    rintro _ h8 ⟨z9, rfl, hf⟩
    refine R_imul dX6_badOfRow_45 ?_
    refine R_iadd dX6_badOfRow_46 ?_
    refine R_istore_n dX6_badOfRow_47 rfl (by decide) rfl ?_
    refine R_iload dX6_badOfRow_48 4 rfl ?_
    refine R_aload_n dX6_badOfRow_50 rfl 1 rfl ?_
    obtain ⟨ob10, hf⟩ := hf
    refine G6_4 dX6_badOfRow_51 lfX6_11 ob10 ?_
    refine R_iload dX6_badOfRow_54 6 rfl ?_
    obtain ⟨ob11, hf⟩ := hf
    obtain ⟨ob12, hf⟩ := hf
    refine R_iaload dX6_badOfRow_56 ob11 ob12 ?_
    refine R_aload_n dX6_badOfRow_57 rfl 2 rfl ?_
    refine R_iload_n dX6_badOfRow_58 rfl 3 rfl ?_
    refine R_iload dX6_badOfRow_59 6 rfl ?_
    refine R_iconst (v := 1) dX6_badOfRow_61 (by decide) ?_
    obtain ⟨ob13, hf⟩ := hf
    refine R_callV (ci := 3) (N := mX3_screwNumber) (as := [.int x2, .int x6, .int 1]) (rest := [.int (gI h8 (gF h8 r0 4) x6.toNatClampNeg), .int x4]) (kc2 := 0) (ks2 := 0) dX6_badOfRow_62 lmX6_73 oX3_screwNumber (Nat.le_of_ble_eq_true rfl) rfl rfl (Nat.le_of_ble_eq_true rfl) rfl rfl ob13 ok3 (Call.mono hf ?_)
    rintro _ h14 ⟨z15, rfl, hf⟩
    refine R_imul dX6_badOfRow_65 ?_
    refine R_iadd dX6_badOfRow_66 ?_
    refine R_istore dX6_badOfRow_67 (by decide) rfl ?_
    refine R_iload dX6_badOfRow_69 5 rfl ?_
    refine R_aload_n dX6_badOfRow_71 rfl 2 rfl ?_
    obtain ⟨ob16, hf⟩ := hf
    refine G6_4 dX6_badOfRow_72 lfX6_11 ob16 ?_
    refine R_iload dX6_badOfRow_75 6 rfl ?_
    obtain ⟨ob17, hf⟩ := hf
    obtain ⟨ob18, hf⟩ := hf
    refine R_iaload dX6_badOfRow_77 ob17 ob18 ?_
    refine R_aload_n dX6_badOfRow_78 rfl 3 rfl ?_
    refine R_iload_n dX6_badOfRow_79 rfl 4 rfl ?_
    refine R_iload dX6_badOfRow_80 6 rfl ?_
    refine R_iconst (v := 2) dX6_badOfRow_82 (by decide) ?_
    obtain ⟨ob19, hf⟩ := hf
    refine R_callV (ci := 3) (N := mX3_screwNumber) (as := [.int x2, .int x6, .int 2]) (rest := [.int (gI h14 (gF h14 r0 4) x6.toNatClampNeg), .int x5]) (kc2 := 0) (ks2 := 0) dX6_badOfRow_83 lmX6_73 oX3_screwNumber (Nat.le_of_ble_eq_true rfl) rfl rfl (Nat.le_of_ble_eq_true rfl) rfl rfl ob19 ok3 (Call.mono hf ?_)
    rintro _ h20 ⟨z21, rfl, hf⟩
    refine R_imul dX6_badOfRow_86 ?_
    refine R_iadd dX6_badOfRow_87 ?_
    refine R_istore dX6_badOfRow_88 (by decide) rfl ?_
    refine R_iinc (v := x6 + 1) dX6_badOfRow_90 6 rfl rfl (by decide) rfl ?_
    refine R_goto (tgt := 20) dX6_badOfRow_93 (by decide) ?_
    exact R_sub [4, 5, 6, 3, 2, 1, 0] rfl hf
theorem dX8_leastBeat_0 : decode cX8_leastBeat 0 = .ok (.aload_n 0, 1) := by decide +kernel
theorem dX8_leastBeat_1 : decode cX8_leastBeat 1 = .ok (.iload_n 1, 1) := by decide +kernel
theorem dX8_leastBeat_2 : decode cX8_leastBeat 2 = .ok (.iload_n 2, 1) := by decide +kernel
theorem dX8_leastBeat_3 : decode cX8_leastBeat 3 = .ok (.invokevirtual 47, 3) := by decide +kernel
theorem dX8_leastBeat_6 : decode cX8_leastBeat 6 = .ok (.aload_n 0, 1) := by decide +kernel
theorem dX8_leastBeat_7 : decode cX8_leastBeat 7 = .ok (.iload_n 1, 1) := by decide +kernel
theorem dX8_leastBeat_8 : decode cX8_leastBeat 8 = .ok (.iload_n 3, 1) := by decide +kernel
theorem dX8_leastBeat_9 : decode cX8_leastBeat 9 = .ok (.invokevirtual 47, 3) := by decide +kernel
theorem dX8_leastBeat_12 : decode cX8_leastBeat 12 = .ok (.aload_n 0, 1) := by decide +kernel
theorem dX8_leastBeat_13 : decode cX8_leastBeat 13 = .ok (.iload_n 1, 1) := by decide +kernel
theorem dX8_leastBeat_14 : decode cX8_leastBeat 14 = .ok (.iload 4, 2) := by decide +kernel
theorem dX8_leastBeat_16 : decode cX8_leastBeat 16 = .ok (.invokevirtual 47, 3) := by decide +kernel
theorem dX8_leastBeat_19 : decode cX8_leastBeat 19 = .ok (.invokestatic 33, 3) := by decide +kernel
theorem dX8_leastBeat_22 : decode cX8_leastBeat 22 = .ok (.invokestatic 33, 3) := by decide +kernel
theorem dX8_leastBeat_25 : decode cX8_leastBeat 25 = .ok (.istore 5, 2) := by decide +kernel
theorem dX8_leastBeat_27 : decode cX8_leastBeat 27 = .ok (.aload_n 0, 1) := by decide +kernel
theorem dX8_leastBeat_28 : decode cX8_leastBeat 28 = .ok (.iload_n 2, 1) := by decide +kernel
theorem dX8_leastBeat_29 : decode cX8_leastBeat 29 = .ok (.iload_n 3, 1) := by decide +kernel
theorem dX8_leastBeat_30 : decode cX8_leastBeat 30 = .ok (.invokevirtual 47, 3) := by decide +kernel
theorem dX8_leastBeat_33 : decode cX8_leastBeat 33 = .ok (.aload_n 0, 1) := by decide +kernel
theorem dX8_leastBeat_34 : decode cX8_leastBeat 34 = .ok (.iload_n 2, 1) := by decide +kernel
theorem dX8_leastBeat_35 : decode cX8_leastBeat 35 = .ok (.iload 4, 2) := by decide +kernel
theorem dX8_leastBeat_37 : decode cX8_leastBeat 37 = .ok (.invokevirtual 47, 3) := by decide +kernel
theorem dX8_leastBeat_40 : decode cX8_leastBeat 40 = .ok (.aload_n 0, 1) := by decide +kernel
theorem dX8_leastBeat_41 : decode cX8_leastBeat 41 = .ok (.iload_n 3, 1) := by decide +kernel
theorem dX8_leastBeat_42 : decode cX8_leastBeat 42 = .ok (.iload 4, 2) := by decide +kernel
theorem dX8_leastBeat_44 : decode cX8_leastBeat 44 = .ok (.invokevirtual 47, 3) := by decide +kernel
theorem dX8_leastBeat_47 : decode cX8_leastBeat 47 = .ok (.invokestatic 33, 3) := by decide +kernel
theorem dX8_leastBeat_50 : decode cX8_leastBeat 50 = .ok (.invokestatic 33, 3) := by decide +kernel
theorem dX8_leastBeat_53 : decode cX8_leastBeat 53 = .ok (.istore 6, 2) := by decide +kernel
theorem dX8_leastBeat_55 : decode cX8_leastBeat 55 = .ok (.iload 5, 2) := by decide +kernel
theorem dX8_leastBeat_57 : decode cX8_leastBeat 57 = .ok (.iload 6, 2) := by decide +kernel
theorem dX8_leastBeat_59 : decode cX8_leastBeat 59 = .ok (.invokestatic 33, 3) := by decide +kernel
theorem dX8_leastBeat_62 : decode cX8_leastBeat 62 = .ok (.ireturn, 1) := by decide +kernel
set_option maxRecDepth 20000 in
theorem sX8_leastBeat_0 {P : Option Value → AH → Prop} (h : AH) (r0 : Nat) (x1 : Int32) (x2 : Int32) (x3 : Int32) (x4 : Int32) (hf : (isO h 8 r0) ∧ (Call mX8_beatOf [.ref r0, .int x1, .int x2] h (fun v h2 => ∃ z3 : Int32, v = some (.int z3) ∧ ((isO h2 8 r0) ∧ (Call mX8_beatOf [.ref r0, .int x1, .int x3] h2 (fun v h5 => ∃ z6 : Int32, v = some (.int z6) ∧ ((isO h5 8 r0) ∧ (Call mX8_beatOf [.ref r0, .int x1, .int x4] h5 (fun v h8 => ∃ z9 : Int32, v = some (.int z9) ∧ ((isO h8 8 r0) ∧ (Call mX8_beatOf [.ref r0, .int x2, .int x3] h8 (fun v h11 => ∃ z12 : Int32, v = some (.int z12) ∧ ((isO h11 8 r0) ∧ (Call mX8_beatOf [.ref r0, .int x2, .int x4] h11 (fun v h14 => ∃ z15 : Int32, v = some (.int z15) ∧ ((isO h14 8 r0) ∧ (Call mX8_beatOf [.ref r0, .int x3, .int x4] h14 (fun v h17 => ∃ z18 : Int32, v = some (.int z18) ∧ (P (some (.int (imin (imin z3 (imin z6 z9)) (imin z12 (imin z15 z18))))) h17))))))))))))))))))) : Rr mX8_leastBeat 0 0 0 [(0, .ref r0), (1, .int x1), (2, .int x2), (3, .int x3), (4, .int x4)] [] h P := by
  refine R_aload_n dX8_leastBeat_0 rfl 0 rfl ?_
  refine R_iload_n dX8_leastBeat_1 rfl 1 rfl ?_
  refine R_iload_n dX8_leastBeat_2 rfl 2 rfl ?_
  obtain ⟨ob1, hf⟩ := hf
  refine R_callV (ci := 8) (N := mX8_beatOf) (as := [.int x1, .int x2]) (rest := []) (kc2 := 0) (ks2 := 0) dX8_leastBeat_3 lmX8_47 oX8_beatOf (Nat.le_of_ble_eq_true rfl) rfl rfl (Nat.le_of_ble_eq_true rfl) rfl rfl ob1 ok8 (Call.mono hf ?_)
  rintro _ h2 ⟨z3, rfl, hf⟩
  refine R_aload_n dX8_leastBeat_6 rfl 0 rfl ?_
  refine R_iload_n dX8_leastBeat_7 rfl 1 rfl ?_
  refine R_iload_n dX8_leastBeat_8 rfl 3 rfl ?_
  obtain ⟨ob4, hf⟩ := hf
  refine R_callV (ci := 8) (N := mX8_beatOf) (as := [.int x1, .int x3]) (rest := [.int z3]) (kc2 := 0) (ks2 := 0) dX8_leastBeat_9 lmX8_47 oX8_beatOf (Nat.le_of_ble_eq_true rfl) rfl rfl (Nat.le_of_ble_eq_true rfl) rfl rfl ob4 ok8 (Call.mono hf ?_)
  rintro _ h5 ⟨z6, rfl, hf⟩
  refine R_aload_n dX8_leastBeat_12 rfl 0 rfl ?_
  refine R_iload_n dX8_leastBeat_13 rfl 1 rfl ?_
  refine R_iload dX8_leastBeat_14 4 rfl ?_
  obtain ⟨ob7, hf⟩ := hf
  refine R_callV (ci := 8) (N := mX8_beatOf) (as := [.int x1, .int x4]) (rest := [.int z6, .int z3]) (kc2 := 0) (ks2 := 0) dX8_leastBeat_16 lmX8_47 oX8_beatOf (Nat.le_of_ble_eq_true rfl) rfl rfl (Nat.le_of_ble_eq_true rfl) rfl rfl ob7 ok8 (Call.mono hf ?_)
  rintro _ h8 ⟨z9, rfl, hf⟩
  refine R_mmin dX8_leastBeat_19 lmX8_33 (by decide) (Nat.le_of_ble_eq_true rfl) ?_
  refine R_mmin dX8_leastBeat_22 lmX8_33 (by decide) (Nat.le_of_ble_eq_true rfl) ?_
  refine R_istore dX8_leastBeat_25 (by decide) rfl ?_
  refine R_aload_n dX8_leastBeat_27 rfl 1 rfl ?_
  refine R_iload_n dX8_leastBeat_28 rfl 3 rfl ?_
  refine R_iload_n dX8_leastBeat_29 rfl 4 rfl ?_
  obtain ⟨ob10, hf⟩ := hf
  refine R_callV (ci := 8) (N := mX8_beatOf) (as := [.int x2, .int x3]) (rest := []) (kc2 := 0) (ks2 := 0) dX8_leastBeat_30 lmX8_47 oX8_beatOf (Nat.le_of_ble_eq_true rfl) rfl rfl (Nat.le_of_ble_eq_true rfl) rfl rfl ob10 ok8 (Call.mono hf ?_)
  rintro _ h11 ⟨z12, rfl, hf⟩
  refine R_aload_n dX8_leastBeat_33 rfl 1 rfl ?_
  refine R_iload_n dX8_leastBeat_34 rfl 3 rfl ?_
  refine R_iload dX8_leastBeat_35 5 rfl ?_
  obtain ⟨ob13, hf⟩ := hf
  refine R_callV (ci := 8) (N := mX8_beatOf) (as := [.int x2, .int x4]) (rest := [.int z12]) (kc2 := 0) (ks2 := 0) dX8_leastBeat_37 lmX8_47 oX8_beatOf (Nat.le_of_ble_eq_true rfl) rfl rfl (Nat.le_of_ble_eq_true rfl) rfl rfl ob13 ok8 (Call.mono hf ?_)
  rintro _ h14 ⟨z15, rfl, hf⟩
  refine R_aload_n dX8_leastBeat_40 rfl 1 rfl ?_
  refine R_iload_n dX8_leastBeat_41 rfl 4 rfl ?_
  refine R_iload dX8_leastBeat_42 5 rfl ?_
  obtain ⟨ob16, hf⟩ := hf
  refine R_callV (ci := 8) (N := mX8_beatOf) (as := [.int x3, .int x4]) (rest := [.int z15, .int z12]) (kc2 := 0) (ks2 := 0) dX8_leastBeat_44 lmX8_47 oX8_beatOf (Nat.le_of_ble_eq_true rfl) rfl rfl (Nat.le_of_ble_eq_true rfl) rfl rfl ob16 ok8 (Call.mono hf ?_)
  rintro _ h17 ⟨z18, rfl, hf⟩
  refine R_mmin dX8_leastBeat_47 lmX8_33 (by decide) (Nat.le_of_ble_eq_true rfl) ?_
  refine R_mmin dX8_leastBeat_50 lmX8_33 (by decide) (Nat.le_of_ble_eq_true rfl) ?_
  refine R_istore dX8_leastBeat_53 (by decide) rfl ?_
  refine R_iload dX8_leastBeat_55 1 rfl ?_
  refine R_iload dX8_leastBeat_57 0 rfl ?_
  refine R_mmin dX8_leastBeat_59 lmX8_33 (by decide) (Nat.le_of_ble_eq_true rfl) ?_
  exact R_iret dX8_leastBeat_62 rfl rfl hf
theorem dX9_next_0 : decode cX9_next 0 = .ok (.aload_n 0, 1) := by decide +kernel
theorem dX9_next_1 : decode cX9_next 1 = .ok (.getfield 19, 3) := by decide +kernel
theorem dX9_next_4 : decode cX9_next 4 = .ok (.aload_n 0, 1) := by decide +kernel
theorem dX9_next_5 : decode cX9_next 5 = .ok (.getfield 15, 3) := by decide +kernel
theorem dX9_next_8 : decode cX9_next 8 = .ok (.if_icmp .ge 31, 3) := by decide +kernel
theorem dX9_next_11 : decode cX9_next 11 = .ok (.aload_n 0, 1) := by decide +kernel
theorem dX9_next_12 : decode cX9_next 12 = .ok (.getfield 11, 3) := by decide +kernel
theorem dX9_next_15 : decode cX9_next 15 = .ok (.aload_n 0, 1) := by decide +kernel
theorem dX9_next_16 : decode cX9_next 16 = .ok (.getfield 19, 3) := by decide +kernel
theorem dX9_next_19 : decode cX9_next 19 = .ok (.baload, 1) := by decide +kernel
theorem dX9_next_20 : decode cX9_next 20 = .ok (.invokestatic 22, 3) := by decide +kernel
theorem dX9_next_23 : decode cX9_next 23 = .ok (.ifCond .eq 16, 3) := by decide +kernel
theorem dX9_next_26 : decode cX9_next 26 = .ok (.aload_n 0, 1) := by decide +kernel
theorem dX9_next_27 : decode cX9_next 27 = .ok (.dup, 1) := by decide +kernel
theorem dX9_next_28 : decode cX9_next 28 = .ok (.getfield 19, 3) := by decide +kernel
theorem dX9_next_31 : decode cX9_next 31 = .ok (.iconst 1, 1) := by decide +kernel
theorem dX9_next_32 : decode cX9_next 32 = .ok (.iadd, 1) := by decide +kernel
theorem dX9_next_33 : decode cX9_next 33 = .ok (.putfield 19, 3) := by decide +kernel
theorem dX9_next_36 : decode cX9_next 36 = .ok (.goto (-36), 3) := by decide +kernel
theorem dX9_next_39 : decode cX9_next 39 = .ok (.aload_n 0, 1) := by decide +kernel
theorem dX9_next_40 : decode cX9_next 40 = .ok (.aload_n 0, 1) := by decide +kernel
theorem dX9_next_41 : decode cX9_next 41 = .ok (.getfield 19, 3) := by decide +kernel
theorem dX9_next_44 : decode cX9_next 44 = .ok (.putfield 26, 3) := by decide +kernel
theorem dX9_next_47 : decode cX9_next 47 = .ok (.aload_n 0, 1) := by decide +kernel
theorem dX9_next_48 : decode cX9_next 48 = .ok (.iconst 0, 1) := by decide +kernel
theorem dX9_next_49 : decode cX9_next 49 = .ok (.putfield 29, 3) := by decide +kernel
theorem dX9_next_52 : decode cX9_next 52 = .ok (.aload_n 0, 1) := by decide +kernel
theorem dX9_next_53 : decode cX9_next 53 = .ok (.getfield 19, 3) := by decide +kernel
theorem dX9_next_56 : decode cX9_next 56 = .ok (.aload_n 0, 1) := by decide +kernel
theorem dX9_next_57 : decode cX9_next 57 = .ok (.getfield 15, 3) := by decide +kernel
theorem dX9_next_60 : decode cX9_next 60 = .ok (.if_icmp .lt 11, 3) := by decide +kernel
theorem dX9_next_63 : decode cX9_next 63 = .ok (.aload_n 0, 1) := by decide +kernel
theorem dX9_next_64 : decode cX9_next 64 = .ok (.iconst 0, 1) := by decide +kernel
theorem dX9_next_65 : decode cX9_next 65 = .ok (.putfield 32, 3) := by decide +kernel
theorem dX9_next_68 : decode cX9_next 68 = .ok (.goto 60, 3) := by decide +kernel
theorem dX9_next_71 : decode cX9_next 71 = .ok (.aload_n 0, 1) := by decide +kernel
theorem dX9_next_72 : decode cX9_next 72 = .ok (.getfield 11, 3) := by decide +kernel
theorem dX9_next_75 : decode cX9_next 75 = .ok (.aload_n 0, 1) := by decide +kernel
theorem dX9_next_76 : decode cX9_next 76 = .ok (.getfield 19, 3) := by decide +kernel
theorem dX9_next_79 : decode cX9_next 79 = .ok (.baload, 1) := by decide +kernel
theorem dX9_next_80 : decode cX9_next 80 = .ok (.invokestatic 35, 3) := by decide +kernel
theorem dX9_next_83 : decode cX9_next 83 = .ok (.ifCond .eq 10, 3) := by decide +kernel
theorem dX9_next_86 : decode cX9_next 86 = .ok (.aload_n 0, 1) := by decide +kernel
theorem dX9_next_87 : decode cX9_next 87 = .ok (.invokevirtual 38, 3) := by decide +kernel
theorem dX9_next_90 : decode cX9_next 90 = .ok (.goto 38, 3) := by decide +kernel
theorem dX9_next_93 : decode cX9_next 93 = .ok (.aload_n 0, 1) := by decide +kernel
theorem dX9_next_94 : decode cX9_next 94 = .ok (.getfield 11, 3) := by decide +kernel
theorem dX9_next_97 : decode cX9_next 97 = .ok (.aload_n 0, 1) := by decide +kernel
theorem dX9_next_98 : decode cX9_next 98 = .ok (.getfield 19, 3) := by decide +kernel
theorem dX9_next_101 : decode cX9_next 101 = .ok (.baload, 1) := by decide +kernel
theorem dX9_next_102 : decode cX9_next 102 = .ok (.invokestatic 41, 3) := by decide +kernel
theorem dX9_next_105 : decode cX9_next 105 = .ok (.ifCond .eq 10, 3) := by decide +kernel
theorem dX9_next_108 : decode cX9_next 108 = .ok (.aload_n 0, 1) := by decide +kernel
theorem dX9_next_109 : decode cX9_next 109 = .ok (.invokevirtual 44, 3) := by decide +kernel
theorem dX9_next_112 : decode cX9_next 112 = .ok (.goto 16, 3) := by decide +kernel
theorem dX9_next_115 : decode cX9_next 115 = .ok (.aload_n 0, 1) := by decide +kernel
theorem dX9_next_116 : decode cX9_next 116 = .ok (.aload_n 0, 1) := by decide +kernel
theorem dX9_next_117 : decode cX9_next 117 = .ok (.getfield 11, 3) := by decide +kernel
theorem dX9_next_120 : decode cX9_next 120 = .ok (.aload_n 0, 1) := by decide +kernel
theorem dX9_next_121 : decode cX9_next 121 = .ok (.getfield 19, 3) := by decide +kernel
theorem dX9_next_124 : decode cX9_next 124 = .ok (.baload, 1) := by decide +kernel
theorem dX9_next_125 : decode cX9_next 125 = .ok (.invokevirtual 47, 3) := by decide +kernel
theorem dX9_next_128 : decode cX9_next 128 = .ok (.return_, 1) := by decide +kernel
set_option maxRecDepth 20000 in
theorem sX9_next_0 {P : Option Value → AH → Prop} (h : AH) (r0 : Nat) (hf : (isO h 9 r0) ∧ (((gI h r0 2) ≤ (gI h r0 1) → ((gI (sI (sI h r0 4 (gI h r0 1)) r0 5 0) r0 1) < (gI (sI (sI h r0 4 (gI h r0 1)) r0 5 0) r0 2) → (isA h 2 (gF (sI (sI h r0 4 (gI h r0 1)) r0 5 0) r0 0)) ∧ ((vp_in (gI (sI (sI h r0 4 (gI h r0 1)) r0 5 0) r0 1) (ln (gF (sI (sI h r0 4 (gI h r0 1)) r0 5 0) r0 0))) ∧ ((¬ (¬ (gI (sI (sI h r0 4 (gI h r0 1)) r0 5 0) (gF (sI (sI h r0 4 (gI h r0 1)) r0 5 0) r0 0) (gI (sI (sI h r0 4 (gI h r0 1)) r0 5 0) r0 1).toNatClampNeg) < 97 ∧ ¬ 122 < (gI (sI (sI h r0 4 (gI h r0 1)) r0 5 0) (gF (sI (sI h r0 4 (gI h r0 1)) r0 5 0) r0 0) (gI (sI (sI h r0 4 (gI h r0 1)) r0 5 0) r0 1).toNatClampNeg)) → (¬ (¬ (gI (sI (sI h r0 4 (gI h r0 1)) r0 5 0) (gF (sI (sI h r0 4 (gI h r0 1)) r0 5 0) r0 0) (gI (sI (sI h r0 4 (gI h r0 1)) r0 5 0) r0 1).toNatClampNeg) < 48 ∧ ¬ 57 < (gI (sI (sI h r0 4 (gI h r0 1)) r0 5 0) (gF (sI (sI h r0 4 (gI h r0 1)) r0 5 0) r0 0) (gI (sI (sI h r0 4 (gI h r0 1)) r0 5 0) r0 1).toNatClampNeg)) → Call mX9_takeSign [.ref r0, .int (gI (sI (sI h r0 4 (gI h r0 1)) r0 5 0) (gF (sI (sI h r0 4 (gI h r0 1)) r0 5 0) r0 0) (gI (sI (sI h r0 4 (gI h r0 1)) r0 5 0) r0 1).toNatClampNeg)] (sI (sI h r0 4 (gI h r0 1)) r0 5 0) (fun v h8 => v = none ∧ (P none h8))) ∧ ((¬ (gI (sI (sI h r0 4 (gI h r0 1)) r0 5 0) (gF (sI (sI h r0 4 (gI h r0 1)) r0 5 0) r0 0) (gI (sI (sI h r0 4 (gI h r0 1)) r0 5 0) r0 1).toNatClampNeg) < 48 ∧ ¬ 57 < (gI (sI (sI h r0 4 (gI h r0 1)) r0 5 0) (gF (sI (sI h r0 4 (gI h r0 1)) r0 5 0) r0 0) (gI (sI (sI h r0 4 (gI h r0 1)) r0 5 0) r0 1).toNatClampNeg)) → Call mX9_takeNumber [.ref r0] (sI (sI h r0 4 (gI h r0 1)) r0 5 0) (fun v h9 => v = none ∧ (P none h9)))) ∧ ((¬ (gI (sI (sI h r0 4 (gI h r0 1)) r0 5 0) (gF (sI (sI h r0 4 (gI h r0 1)) r0 5 0) r0 0) (gI (sI (sI h r0 4 (gI h r0 1)) r0 5 0) r0 1).toNatClampNeg) < 97 ∧ ¬ 122 < (gI (sI (sI h r0 4 (gI h r0 1)) r0 5 0) (gF (sI (sI h r0 4 (gI h r0 1)) r0 5 0) r0 0) (gI (sI (sI h r0 4 (gI h r0 1)) r0 5 0) r0 1).toNatClampNeg)) → Call mX9_takeWord [.ref r0] (sI (sI h r0 4 (gI h r0 1)) r0 5 0) (fun v h10 => v = none ∧ (P none h10)))))) ∧ (¬ (gI (sI (sI h r0 4 (gI h r0 1)) r0 5 0) r0 1) < (gI (sI (sI h r0 4 (gI h r0 1)) r0 5 0) r0 2) → P none (sI (sI (sI h r0 4 (gI h r0 1)) r0 5 0) r0 3 0))) ∧ (¬ (gI h r0 2) ≤ (gI h r0 1) → (isA h 2 (gF h r0 0)) ∧ ((vp_in (gI h r0 1) (ln (gF h r0 0))) ∧ ((¬ ((gI h (gF h r0 0) (gI h r0 1).toNatClampNeg) = 32 ∨ ((gI h (gF h r0 0) (gI h r0 1).toNatClampNeg) = 10)) → ((gI (sI (sI h r0 4 (gI h r0 1)) r0 5 0) r0 1) < (gI (sI (sI h r0 4 (gI h r0 1)) r0 5 0) r0 2) → (isA h 2 (gF (sI (sI h r0 4 (gI h r0 1)) r0 5 0) r0 0)) ∧ ((vp_in (gI (sI (sI h r0 4 (gI h r0 1)) r0 5 0) r0 1) (ln (gF (sI (sI h r0 4 (gI h r0 1)) r0 5 0) r0 0))) ∧ ((¬ (¬ (gI (sI (sI h r0 4 (gI h r0 1)) r0 5 0) (gF (sI (sI h r0 4 (gI h r0 1)) r0 5 0) r0 0) (gI (sI (sI h r0 4 (gI h r0 1)) r0 5 0) r0 1).toNatClampNeg) < 97 ∧ ¬ 122 < (gI (sI (sI h r0 4 (gI h r0 1)) r0 5 0) (gF (sI (sI h r0 4 (gI h r0 1)) r0 5 0) r0 0) (gI (sI (sI h r0 4 (gI h r0 1)) r0 5 0) r0 1).toNatClampNeg)) → (¬ (¬ (gI (sI (sI h r0 4 (gI h r0 1)) r0 5 0) (gF (sI (sI h r0 4 (gI h r0 1)) r0 5 0) r0 0) (gI (sI (sI h r0 4 (gI h r0 1)) r0 5 0) r0 1).toNatClampNeg) < 48 ∧ ¬ 57 < (gI (sI (sI h r0 4 (gI h r0 1)) r0 5 0) (gF (sI (sI h r0 4 (gI h r0 1)) r0 5 0) r0 0) (gI (sI (sI h r0 4 (gI h r0 1)) r0 5 0) r0 1).toNatClampNeg)) → Call mX9_takeSign [.ref r0, .int (gI (sI (sI h r0 4 (gI h r0 1)) r0 5 0) (gF (sI (sI h r0 4 (gI h r0 1)) r0 5 0) r0 0) (gI (sI (sI h r0 4 (gI h r0 1)) r0 5 0) r0 1).toNatClampNeg)] (sI (sI h r0 4 (gI h r0 1)) r0 5 0) (fun v h19 => v = none ∧ (P none h19))) ∧ ((¬ (gI (sI (sI h r0 4 (gI h r0 1)) r0 5 0) (gF (sI (sI h r0 4 (gI h r0 1)) r0 5 0) r0 0) (gI (sI (sI h r0 4 (gI h r0 1)) r0 5 0) r0 1).toNatClampNeg) < 48 ∧ ¬ 57 < (gI (sI (sI h r0 4 (gI h r0 1)) r0 5 0) (gF (sI (sI h r0 4 (gI h r0 1)) r0 5 0) r0 0) (gI (sI (sI h r0 4 (gI h r0 1)) r0 5 0) r0 1).toNatClampNeg)) → Call mX9_takeNumber [.ref r0] (sI (sI h r0 4 (gI h r0 1)) r0 5 0) (fun v h20 => v = none ∧ (P none h20)))) ∧ ((¬ (gI (sI (sI h r0 4 (gI h r0 1)) r0 5 0) (gF (sI (sI h r0 4 (gI h r0 1)) r0 5 0) r0 0) (gI (sI (sI h r0 4 (gI h r0 1)) r0 5 0) r0 1).toNatClampNeg) < 97 ∧ ¬ 122 < (gI (sI (sI h r0 4 (gI h r0 1)) r0 5 0) (gF (sI (sI h r0 4 (gI h r0 1)) r0 5 0) r0 0) (gI (sI (sI h r0 4 (gI h r0 1)) r0 5 0) r0 1).toNatClampNeg)) → Call mX9_takeWord [.ref r0] (sI (sI h r0 4 (gI h r0 1)) r0 5 0) (fun v h21 => v = none ∧ (P none h21)))))) ∧ (¬ (gI (sI (sI h r0 4 (gI h r0 1)) r0 5 0) r0 1) < (gI (sI (sI h r0 4 (gI h r0 1)) r0 5 0) r0 2) → P none (sI (sI (sI h r0 4 (gI h r0 1)) r0 5 0) r0 3 0))) ∧ (((gI h (gF h r0 0) (gI h r0 1).toNatClampNeg) = 32 ∨ ((gI h (gF h r0 0) (gI h r0 1).toNatClampNeg) = 10)) → Rr mX9_next 0 0 0 [(0, .ref r0)] [] (sI h r0 1 ((gI h r0 1) + 1)) P)))))) : Rr mX9_next 0 0 0 [(0, .ref r0)] [] h P := by
  refine R_aload_n dX9_next_0 rfl 0 rfl ?_
  obtain ⟨ob1, hf⟩ := hf
  refine G9_1 dX9_next_1 lfX9_19 ob1 ?_
  refine R_aload_n dX9_next_4 rfl 0 rfl ?_
  refine G9_2 dX9_next_5 lfX9_15 ob1 ?_
  refine R_icmp_ge (tgt := 39) dX9_next_8 (by decide) (fun b2 => ?_) (fun b2 => ?_)
  · have hf := hf.1 b2
    refine R_aload_n dX9_next_39 rfl 0 rfl ?_
    refine R_aload_n dX9_next_40 rfl 0 rfl ?_
    refine G9_1 dX9_next_41 lfX9_19 ob1 ?_
    refine S9_4 dX9_next_44 lfX9_26 ob1 ?_
    refine R_aload_n dX9_next_47 rfl 0 rfl ?_
    refine R_iconst (v := 0) dX9_next_48 (by decide) ?_
    refine S9_5 dX9_next_49 lfX9_29 ob1 ?_
    refine R_aload_n dX9_next_52 rfl 0 rfl ?_
    refine G9_1 dX9_next_53 lfX9_19 ob1 ?_
    refine R_aload_n dX9_next_56 rfl 0 rfl ?_
    refine G9_2 dX9_next_57 lfX9_15 ob1 ?_
    refine R_icmp_lt (tgt := 71) dX9_next_60 (by decide) (fun b3 => ?_) (fun b3 => ?_)
    · have hf := hf.1 b3
      refine R_aload_n dX9_next_71 rfl 0 rfl ?_
      refine G9_0 dX9_next_72 lfX9_11 ob1 ?_
      refine R_aload_n dX9_next_75 rfl 0 rfl ?_
      refine G9_1 dX9_next_76 lfX9_19 ob1 ?_
      obtain ⟨ob4, hf⟩ := hf
      obtain ⟨ob5, hf⟩ := hf
      refine R_baload dX9_next_79 ob4 ob5 ?_
      refine R_callS (N := mX9_isLetter) (as := [.int (gI (sI (sI h r0 4 (gI h r0 1)) r0 5 0) (gF (sI (sI h r0 4 (gI h r0 1)) r0 5 0) r0 0) (gI (sI (sI h r0 4 (gI h r0 1)) r0 5 0) r0 1).toNatClampNeg)]) (rest := []) (kc2 := 0) (ks2 := 0) dX9_next_80 lmX9_35 oX9_isLetter (Nat.le_of_ble_eq_true rfl) rfl rfl (Nat.le_of_ble_eq_true rfl) rfl rfl (aX9_isLetter  ?_)
      refine R_if_eq_b (tgt := 93) dX9_next_83 (by decide) (fun b6 => ?_) (fun b6 => ?_)
      · have hf := hf.1 b6
        refine R_aload_n dX9_next_93 rfl 0 rfl ?_
        refine G9_0 dX9_next_94 lfX9_11 ob1 ?_
        refine R_aload_n dX9_next_97 rfl 0 rfl ?_
        refine G9_1 dX9_next_98 lfX9_19 ob1 ?_
        refine R_baload dX9_next_101 ob4 ob5 ?_
        refine R_callS (N := mX9_isDigit) (as := [.int (gI (sI (sI h r0 4 (gI h r0 1)) r0 5 0) (gF (sI (sI h r0 4 (gI h r0 1)) r0 5 0) r0 0) (gI (sI (sI h r0 4 (gI h r0 1)) r0 5 0) r0 1).toNatClampNeg)]) (rest := []) (kc2 := 0) (ks2 := 0) dX9_next_102 lmX9_41 oX9_isDigit (Nat.le_of_ble_eq_true rfl) rfl rfl (Nat.le_of_ble_eq_true rfl) rfl rfl (aX9_isDigit  ?_)
        refine R_if_eq_b (tgt := 115) dX9_next_105 (by decide) (fun b7 => ?_) (fun b7 => ?_)
        · have hf := hf.1 b7
          refine R_aload_n dX9_next_115 rfl 0 rfl ?_
          refine R_aload_n dX9_next_116 rfl 0 rfl ?_
          refine G9_0 dX9_next_117 lfX9_11 ob1 ?_
          refine R_aload_n dX9_next_120 rfl 0 rfl ?_
          refine G9_1 dX9_next_121 lfX9_19 ob1 ?_
          refine R_baload dX9_next_124 ob4 ob5 ?_
          refine R_callV (ci := 9) (N := mX9_takeSign) (as := [.int (gI (sI (sI h r0 4 (gI h r0 1)) r0 5 0) (gF (sI (sI h r0 4 (gI h r0 1)) r0 5 0) r0 0) (gI (sI (sI h r0 4 (gI h r0 1)) r0 5 0) r0 1).toNatClampNeg)]) (rest := []) (kc2 := 0) (ks2 := 0) dX9_next_125 lmX9_47 oX9_takeSign (Nat.le_of_ble_eq_true rfl) rfl rfl (Nat.le_of_ble_eq_true rfl) rfl rfl ob1 ok9 (Call.mono hf ?_)
          rintro _ h8 ⟨rfl, hf⟩
          exact R_ret dX9_next_128 rfl hf
        · have hf := hf.2 b7
          refine R_aload_n dX9_next_108 rfl 0 rfl ?_
          refine R_callV (ci := 9) (N := mX9_takeNumber) (as := []) (rest := []) (kc2 := 0) (ks2 := 0) dX9_next_109 lmX9_44 oX9_takeNumber (Nat.le_of_ble_eq_true rfl) rfl rfl (Nat.le_of_ble_eq_true rfl) rfl rfl ob1 ok9 (Call.mono hf ?_)
          rintro _ h9 ⟨rfl, hf⟩
          refine R_goto (tgt := 128) dX9_next_112 (by decide) ?_
          exact R_ret dX9_next_128 rfl hf
      · have hf := hf.2 b6
        refine R_aload_n dX9_next_86 rfl 0 rfl ?_
        refine R_callV (ci := 9) (N := mX9_takeWord) (as := []) (rest := []) (kc2 := 0) (ks2 := 0) dX9_next_87 lmX9_38 oX9_takeWord (Nat.le_of_ble_eq_true rfl) rfl rfl (Nat.le_of_ble_eq_true rfl) rfl rfl ob1 ok9 (Call.mono hf ?_)
        rintro _ h10 ⟨rfl, hf⟩
        refine R_goto (tgt := 128) dX9_next_90 (by decide) ?_
        exact R_ret dX9_next_128 rfl hf
    · have hf := hf.2 b3
      refine R_aload_n dX9_next_63 rfl 0 rfl ?_
      refine R_iconst (v := 0) dX9_next_64 (by decide) ?_
      refine S9_3 dX9_next_65 lfX9_32 ob1 ?_
      refine R_goto (tgt := 128) dX9_next_68 (by decide) ?_
      exact R_ret dX9_next_128 rfl hf
  · have hf := hf.2 b2
    refine R_aload_n dX9_next_11 rfl 0 rfl ?_
    refine G9_0 dX9_next_12 lfX9_11 ob1 ?_
    refine R_aload_n dX9_next_15 rfl 0 rfl ?_
    refine G9_1 dX9_next_16 lfX9_19 ob1 ?_
    obtain ⟨ob11, hf⟩ := hf
    obtain ⟨ob12, hf⟩ := hf
    refine R_baload dX9_next_19 ob11 ob12 ?_
    refine R_callS (N := mX9_isBlank) (as := [.int (gI h (gF h r0 0) (gI h r0 1).toNatClampNeg)]) (rest := []) (kc2 := 0) (ks2 := 0) dX9_next_20 lmX9_22 oX9_isBlank (Nat.le_of_ble_eq_true rfl) rfl rfl (Nat.le_of_ble_eq_true rfl) rfl rfl (aX9_isBlank  ?_)
    refine R_if_eq_b (tgt := 39) dX9_next_23 (by decide) (fun b13 => ?_) (fun b13 => ?_)
    · have hf := hf.1 b13
      refine R_aload_n dX9_next_39 rfl 0 rfl ?_
      refine R_aload_n dX9_next_40 rfl 0 rfl ?_
      refine G9_1 dX9_next_41 lfX9_19 ob1 ?_
      refine S9_4 dX9_next_44 lfX9_26 ob1 ?_
      refine R_aload_n dX9_next_47 rfl 0 rfl ?_
      refine R_iconst (v := 0) dX9_next_48 (by decide) ?_
      refine S9_5 dX9_next_49 lfX9_29 ob1 ?_
      refine R_aload_n dX9_next_52 rfl 0 rfl ?_
      refine G9_1 dX9_next_53 lfX9_19 ob1 ?_
      refine R_aload_n dX9_next_56 rfl 0 rfl ?_
      refine G9_2 dX9_next_57 lfX9_15 ob1 ?_
      refine R_icmp_lt (tgt := 71) dX9_next_60 (by decide) (fun b14 => ?_) (fun b14 => ?_)
      · have hf := hf.1 b14
        refine R_aload_n dX9_next_71 rfl 0 rfl ?_
        refine G9_0 dX9_next_72 lfX9_11 ob1 ?_
        refine R_aload_n dX9_next_75 rfl 0 rfl ?_
        refine G9_1 dX9_next_76 lfX9_19 ob1 ?_
        obtain ⟨ob15, hf⟩ := hf
        obtain ⟨ob16, hf⟩ := hf
        refine R_baload dX9_next_79 ob15 ob16 ?_
        refine R_callS (N := mX9_isLetter) (as := [.int (gI (sI (sI h r0 4 (gI h r0 1)) r0 5 0) (gF (sI (sI h r0 4 (gI h r0 1)) r0 5 0) r0 0) (gI (sI (sI h r0 4 (gI h r0 1)) r0 5 0) r0 1).toNatClampNeg)]) (rest := []) (kc2 := 0) (ks2 := 0) dX9_next_80 lmX9_35 oX9_isLetter (Nat.le_of_ble_eq_true rfl) rfl rfl (Nat.le_of_ble_eq_true rfl) rfl rfl (aX9_isLetter  ?_)
        refine R_if_eq_b (tgt := 93) dX9_next_83 (by decide) (fun b17 => ?_) (fun b17 => ?_)
        · have hf := hf.1 b17
          refine R_aload_n dX9_next_93 rfl 0 rfl ?_
          refine G9_0 dX9_next_94 lfX9_11 ob1 ?_
          refine R_aload_n dX9_next_97 rfl 0 rfl ?_
          refine G9_1 dX9_next_98 lfX9_19 ob1 ?_
          refine R_baload dX9_next_101 ob15 ob16 ?_
          refine R_callS (N := mX9_isDigit) (as := [.int (gI (sI (sI h r0 4 (gI h r0 1)) r0 5 0) (gF (sI (sI h r0 4 (gI h r0 1)) r0 5 0) r0 0) (gI (sI (sI h r0 4 (gI h r0 1)) r0 5 0) r0 1).toNatClampNeg)]) (rest := []) (kc2 := 0) (ks2 := 0) dX9_next_102 lmX9_41 oX9_isDigit (Nat.le_of_ble_eq_true rfl) rfl rfl (Nat.le_of_ble_eq_true rfl) rfl rfl (aX9_isDigit  ?_)
          refine R_if_eq_b (tgt := 115) dX9_next_105 (by decide) (fun b18 => ?_) (fun b18 => ?_)
          · have hf := hf.1 b18
            refine R_aload_n dX9_next_115 rfl 0 rfl ?_
            refine R_aload_n dX9_next_116 rfl 0 rfl ?_
            refine G9_0 dX9_next_117 lfX9_11 ob1 ?_
            refine R_aload_n dX9_next_120 rfl 0 rfl ?_
            refine G9_1 dX9_next_121 lfX9_19 ob1 ?_
            refine R_baload dX9_next_124 ob15 ob16 ?_
            refine R_callV (ci := 9) (N := mX9_takeSign) (as := [.int (gI (sI (sI h r0 4 (gI h r0 1)) r0 5 0) (gF (sI (sI h r0 4 (gI h r0 1)) r0 5 0) r0 0) (gI (sI (sI h r0 4 (gI h r0 1)) r0 5 0) r0 1).toNatClampNeg)]) (rest := []) (kc2 := 0) (ks2 := 0) dX9_next_125 lmX9_47 oX9_takeSign (Nat.le_of_ble_eq_true rfl) rfl rfl (Nat.le_of_ble_eq_true rfl) rfl rfl ob1 ok9 (Call.mono hf ?_)
            rintro _ h19 ⟨rfl, hf⟩
            exact R_ret dX9_next_128 rfl hf
          · have hf := hf.2 b18
            refine R_aload_n dX9_next_108 rfl 0 rfl ?_
            refine R_callV (ci := 9) (N := mX9_takeNumber) (as := []) (rest := []) (kc2 := 0) (ks2 := 0) dX9_next_109 lmX9_44 oX9_takeNumber (Nat.le_of_ble_eq_true rfl) rfl rfl (Nat.le_of_ble_eq_true rfl) rfl rfl ob1 ok9 (Call.mono hf ?_)
            rintro _ h20 ⟨rfl, hf⟩
            refine R_goto (tgt := 128) dX9_next_112 (by decide) ?_
            exact R_ret dX9_next_128 rfl hf
        · have hf := hf.2 b17
          refine R_aload_n dX9_next_86 rfl 0 rfl ?_
          refine R_callV (ci := 9) (N := mX9_takeWord) (as := []) (rest := []) (kc2 := 0) (ks2 := 0) dX9_next_87 lmX9_38 oX9_takeWord (Nat.le_of_ble_eq_true rfl) rfl rfl (Nat.le_of_ble_eq_true rfl) rfl rfl ob1 ok9 (Call.mono hf ?_)
          rintro _ h21 ⟨rfl, hf⟩
          refine R_goto (tgt := 128) dX9_next_90 (by decide) ?_
          exact R_ret dX9_next_128 rfl hf
      · have hf := hf.2 b14
        refine R_aload_n dX9_next_63 rfl 0 rfl ?_
        refine R_iconst (v := 0) dX9_next_64 (by decide) ?_
        refine S9_3 dX9_next_65 lfX9_32 ob1 ?_
        refine R_goto (tgt := 128) dX9_next_68 (by decide) ?_
        exact R_ret dX9_next_128 rfl hf
    · have hf := hf.2 b13
      refine R_aload_n dX9_next_26 rfl 0 rfl ?_
      refine R_dup dX9_next_27 rfl ?_
      refine G9_1 dX9_next_28 lfX9_19 ob1 ?_
      refine R_iconst (v := 1) dX9_next_31 (by decide) ?_
      refine R_iadd dX9_next_32 ?_
      refine S9_1 dX9_next_33 lfX9_19 ob1 ?_
      refine R_goto (tgt := 0) dX9_next_36 (by decide) ?_
      exact R_sub [0] rfl hf
theorem dX10_takeLayers_0 : decode cX10_takeLayers 0 = .ok (.iconst 0, 1) := by decide +kernel
theorem dX10_takeLayers_1 : decode cX10_takeLayers 1 = .ok (.istore_n 1, 1) := by decide +kernel
theorem dX10_takeLayers_2 : decode cX10_takeLayers 2 = .ok (.aload_n 0, 1) := by decide +kernel
theorem dX10_takeLayers_3 : decode cX10_takeLayers 3 = .ok (.iconst 0, 1) := by decide +kernel
theorem dX10_takeLayers_4 : decode cX10_takeLayers 4 = .ok (.putfield 58, 3) := by decide +kernel
theorem dX10_takeLayers_7 : decode cX10_takeLayers 7 = .ok (.iconst 0, 1) := by decide +kernel
theorem dX10_takeLayers_8 : decode cX10_takeLayers 8 = .ok (.istore_n 2, 1) := by decide +kernel
theorem dX10_takeLayers_9 : decode cX10_takeLayers 9 = .ok (.iload_n 2, 1) := by decide +kernel
theorem dX10_takeLayers_10 : decode cX10_takeLayers 10 = .ok (.aload_n 0, 1) := by decide +kernel
theorem dX10_takeLayers_11 : decode cX10_takeLayers 11 = .ok (.getfield 29, 3) := by decide +kernel
theorem dX10_takeLayers_14 : decode cX10_takeLayers 14 = .ok (.if_icmp .ge 33, 3) := by decide +kernel
theorem dX10_takeLayers_17 : decode cX10_takeLayers 17 = .ok (.aload_n 0, 1) := by decide +kernel
theorem dX10_takeLayers_18 : decode cX10_takeLayers 18 = .ok (.iload_n 2, 1) := by decide +kernel
theorem dX10_takeLayers_19 : decode cX10_takeLayers 19 = .ok (.iload_n 1, 1) := by decide +kernel
theorem dX10_takeLayers_20 : decode cX10_takeLayers 20 = .ok (.invokevirtual 45, 3) := by decide +kernel
theorem dX10_takeLayers_23 : decode cX10_takeLayers 23 = .ok (.istore_n 1, 1) := by decide +kernel
theorem dX10_takeLayers_24 : decode cX10_takeLayers 24 = .ok (.aload_n 0, 1) := by decide +kernel
theorem dX10_takeLayers_25 : decode cX10_takeLayers 25 = .ok (.getfield 26, 3) := by decide +kernel
theorem dX10_takeLayers_28 : decode cX10_takeLayers 28 = .ok (.iload_n 2, 1) := by decide +kernel
theorem dX10_takeLayers_29 : decode cX10_takeLayers 29 = .ok (.iload_n 1, 1) := by decide +kernel
theorem dX10_takeLayers_30 : decode cX10_takeLayers 30 = .ok (.iastore, 1) := by decide +kernel
theorem dX10_takeLayers_31 : decode cX10_takeLayers 31 = .ok (.aload_n 0, 1) := by decide +kernel
theorem dX10_takeLayers_32 : decode cX10_takeLayers 32 = .ok (.dup, 1) := by decide +kernel
theorem dX10_takeLayers_33 : decode cX10_takeLayers 33 = .ok (.getfield 58, 3) := by decide +kernel
theorem dX10_takeLayers_36 : decode cX10_takeLayers 36 = .ok (.iload_n 1, 1) := by decide +kernel
theorem dX10_takeLayers_37 : decode cX10_takeLayers 37 = .ok (.iadd, 1) := by decide +kernel
theorem dX10_takeLayers_38 : decode cX10_takeLayers 38 = .ok (.putfield 58, 3) := by decide +kernel
theorem dX10_takeLayers_41 : decode cX10_takeLayers 41 = .ok (.iinc 2 1, 3) := by decide +kernel
theorem dX10_takeLayers_44 : decode cX10_takeLayers 44 = .ok (.goto (-35), 3) := by decide +kernel
theorem dX10_takeLayers_47 : decode cX10_takeLayers 47 = .ok (.return_, 1) := by decide +kernel
set_option maxRecDepth 20000 in
theorem sX10_takeLayers_0 {P : Option Value → AH → Prop} (h : AH) (r0 : Nat) (hf : (isO h 10 r0) ∧ (Rr mX10_takeLayers 0 0 9 [(0, .ref r0), (1, .int 0), (2, .int 0)] [] (sI h r0 6 0) P)) : Rr mX10_takeLayers 0 0 0 [(0, .ref r0)] [] h P := by
  refine R_iconst (v := 0) dX10_takeLayers_0 (by decide) ?_
  refine R_istore_n dX10_takeLayers_1 rfl (by decide) rfl ?_
  refine R_aload_n dX10_takeLayers_2 rfl 1 rfl ?_
  refine R_iconst (v := 0) dX10_takeLayers_3 (by decide) ?_
  obtain ⟨ob1, hf⟩ := hf
  refine S10_6 dX10_takeLayers_4 lfX10_58 ob1 ?_
  refine R_iconst (v := 0) dX10_takeLayers_7 (by decide) ?_
  refine R_istore_n dX10_takeLayers_8 rfl (by decide) rfl ?_
  exact R_sub [2, 1, 0] rfl hf
set_option maxRecDepth 20000 in
theorem sX10_takeLayers_9 {P : Option Value → AH → Prop} (h : AH) (r0 : Nat) (x1 : Int32) (x2 : Int32) (hf : (isO h 10 r0) ∧ (((gI h r0 4) ≤ x2 → P none h) ∧ (¬ (gI h r0 4) ≤ x2 → Call mX10_lightest [.ref r0, .int x2, .int x1] h (fun v h3 => ∃ z4 : Int32, v = some (.int z4) ∧ ((isO h3 10 r0) ∧ ((isA h3 0 (gF h3 r0 5)) ∧ ((vp_in x2 (ln (gF h3 r0 5))) ∧ (Rr mX10_takeLayers 0 0 9 [(0, .ref r0), (1, .int z4), (2, .int (x2 + 1))] [] (sI (sI h3 (gF h3 r0 5) x2.toNatClampNeg z4) r0 6 ((gI (sI h3 (gF h3 r0 5) x2.toNatClampNeg z4) r0 6) + z4)) P)))))))) : Rr mX10_takeLayers 0 0 9 [(0, .ref r0), (1, .int x1), (2, .int x2)] [] h P := by
  refine R_iload_n dX10_takeLayers_9 rfl 2 rfl ?_
  refine R_aload_n dX10_takeLayers_10 rfl 0 rfl ?_
  obtain ⟨ob1, hf⟩ := hf
  refine G10_4 dX10_takeLayers_11 lfX10_29 ob1 ?_
  refine R_icmp_ge (tgt := 47) dX10_takeLayers_14 (by decide) (fun b2 => ?_) (fun b2 => ?_)
  · have hf := hf.1 b2
    exact R_ret dX10_takeLayers_47 rfl hf
  · have hf := hf.2 b2
    refine R_aload_n dX10_takeLayers_17 rfl 0 rfl ?_
    refine R_iload_n dX10_takeLayers_18 rfl 2 rfl ?_
    refine R_iload_n dX10_takeLayers_19 rfl 1 rfl ?_
    refine R_callV (ci := 10) (N := mX10_lightest) (as := [.int x2, .int x1]) (rest := []) (kc2 := 0) (ks2 := 0) dX10_takeLayers_20 lmX10_45 oX10_lightest (Nat.le_of_ble_eq_true rfl) rfl rfl (Nat.le_of_ble_eq_true rfl) rfl rfl ob1 ok10 (Call.mono hf ?_)
    rintro _ h3 ⟨z4, rfl, hf⟩
    refine R_istore_n dX10_takeLayers_23 rfl (by decide) rfl ?_
    refine R_aload_n dX10_takeLayers_24 rfl 1 rfl ?_
    obtain ⟨ob5, hf⟩ := hf
    refine G10_5 dX10_takeLayers_25 lfX10_26 ob5 ?_
    refine R_iload_n dX10_takeLayers_28 rfl 2 rfl ?_
    refine R_iload_n dX10_takeLayers_29 rfl 0 rfl ?_
    obtain ⟨ob6, hf⟩ := hf
    obtain ⟨ob7, hf⟩ := hf
    refine R_iastore dX10_takeLayers_30 ob6 ob7 ?_
    refine R_aload_n dX10_takeLayers_31 rfl 1 rfl ?_
    refine R_dup dX10_takeLayers_32 rfl ?_
    refine G10_6 dX10_takeLayers_33 lfX10_58 ob5 ?_
    refine R_iload_n dX10_takeLayers_36 rfl 0 rfl ?_
    refine R_iadd dX10_takeLayers_37 ?_
    refine S10_6 dX10_takeLayers_38 lfX10_58 ob5 ?_
    refine R_iinc (v := x2 + 1) dX10_takeLayers_41 2 rfl rfl (by decide) rfl ?_
    refine R_goto (tgt := 9) dX10_takeLayers_44 (by decide) ?_
    exact R_sub [2, 1, 0] rfl hf
theorem dX11_causesOf_0 : decode cX11_causesOf 0 = .ok (.aload_n 0, 1) := by decide +kernel
theorem dX11_causesOf_1 : decode cX11_causesOf 1 = .ok (.iconst 0, 1) := by decide +kernel
theorem dX11_causesOf_2 : decode cX11_causesOf 2 = .ok (.iload_n 1, 1) := by decide +kernel
theorem dX11_causesOf_3 : decode cX11_causesOf 3 = .ok (.iconst 0, 1) := by decide +kernel
theorem dX11_causesOf_4 : decode cX11_causesOf 4 = .ok (.invokevirtual 310, 3) := by decide +kernel
theorem dX11_causesOf_7 : decode cX11_causesOf 7 = .ok (.iload_n 2, 1) := by decide +kernel
theorem dX11_causesOf_8 : decode cX11_causesOf 8 = .ok (.if_icmp .gt 5, 3) := by decide +kernel
theorem dX11_causesOf_11 : decode cX11_causesOf 11 = .ok (.iconst 1, 1) := by decide +kernel
theorem dX11_causesOf_12 : decode cX11_causesOf 12 = .ok (.ireturn, 1) := by decide +kernel
theorem dX11_causesOf_13 : decode cX11_causesOf 13 = .ok (.aload_n 0, 1) := by decide +kernel
theorem dX11_causesOf_14 : decode cX11_causesOf 14 = .ok (.iload_n 1, 1) := by decide +kernel
theorem dX11_causesOf_15 : decode cX11_causesOf 15 = .ok (.iload_n 2, 1) := by decide +kernel
theorem dX11_causesOf_16 : decode cX11_causesOf 16 = .ok (.invokevirtual 313, 3) := by decide +kernel
theorem dX11_causesOf_19 : decode cX11_causesOf 19 = .ok (.ifCond .eq 7, 3) := by decide +kernel
theorem dX11_causesOf_22 : decode cX11_causesOf 22 = .ok (.iconst 2, 1) := by decide +kernel
theorem dX11_causesOf_23 : decode cX11_causesOf 23 = .ok (.goto 4, 3) := by decide +kernel
theorem dX11_causesOf_26 : decode cX11_causesOf 26 = .ok (.iconst 0, 1) := by decide +kernel
theorem dX11_causesOf_27 : decode cX11_causesOf 27 = .ok (.istore_n 3, 1) := by decide +kernel
theorem dX11_causesOf_28 : decode cX11_causesOf 28 = .ok (.aload_n 0, 1) := by decide +kernel
theorem dX11_causesOf_29 : decode cX11_causesOf 29 = .ok (.iload_n 1, 1) := by decide +kernel
theorem dX11_causesOf_30 : decode cX11_causesOf 30 = .ok (.iload_n 2, 1) := by decide +kernel
theorem dX11_causesOf_31 : decode cX11_causesOf 31 = .ok (.invokevirtual 316, 3) := by decide +kernel
theorem dX11_causesOf_34 : decode cX11_causesOf 34 = .ok (.ifCond .eq 9, 3) := by decide +kernel
theorem dX11_causesOf_37 : decode cX11_causesOf 37 = .ok (.iload_n 3, 1) := by decide +kernel
theorem dX11_causesOf_38 : decode cX11_causesOf 38 = .ok (.iconst 4, 1) := by decide +kernel
theorem dX11_causesOf_39 : decode cX11_causesOf 39 = .ok (.ior, 1) := by decide +kernel
theorem dX11_causesOf_40 : decode cX11_causesOf 40 = .ok (.goto 4, 3) := by decide +kernel
theorem dX11_causesOf_43 : decode cX11_causesOf 43 = .ok (.iload_n 3, 1) := by decide +kernel
theorem dX11_causesOf_44 : decode cX11_causesOf 44 = .ok (.ireturn, 1) := by decide +kernel
set_option maxRecDepth 20000 in
theorem sX11_causesOf_0 {P : Option Value → AH → Prop} (h : AH) (r0 : Nat) (x1 : Int32) (x2 : Int32) (hf : (isO h 11 r0) ∧ (Call mX11_breadthOf [.ref r0, .int 0, .int x1, .int 0] h (fun v h2 => ∃ z3 : Int32, v = some (.int z3) ∧ ((x2 < z3 → (isO h2 11 r0) ∧ (Call mX11_isJump [.ref r0, .int x1, .int x2] h2 (fun v h6 => ∃ z7 : Int32, v = some (.int z7) ∧ (∀ z9 : Int32, z9 = (if z7 = 0 then 0 else 2) → ((isO h6 11 r0) ∧ (Call mX11_isDrift [.ref r0, .int x1, .int x2] h6 (fun v h11 => ∃ z12 : Int32, v = some (.int z12) ∧ (∀ z14 : Int32, z14 = (if z12 = 0 then z9 else (z9 ||| 4)) → (P (some (.int z14)) h11))))))))) ∧ (¬ x2 < z3 → P (some (.int 1)) h2))))) : Rr mX11_causesOf 0 0 0 [(0, .ref r0), (1, .int x1), (2, .int x2)] [] h P := by
  refine R_aload_n dX11_causesOf_0 rfl 0 rfl ?_
  refine R_iconst (v := 0) dX11_causesOf_1 (by decide) ?_
  refine R_iload_n dX11_causesOf_2 rfl 1 rfl ?_
  refine R_iconst (v := 0) dX11_causesOf_3 (by decide) ?_
  obtain ⟨ob1, hf⟩ := hf
  refine R_callV (ci := 11) (N := mX11_breadthOf) (as := [.int 0, .int x1, .int 0]) (rest := []) (kc2 := 0) (ks2 := 0) dX11_causesOf_4 lmX11_310 oX11_breadthOf (Nat.le_of_ble_eq_true rfl) rfl rfl (Nat.le_of_ble_eq_true rfl) rfl rfl ob1 ok11 (Call.mono hf ?_)
  rintro _ h2 ⟨z3, rfl, hf⟩
  refine R_iload_n dX11_causesOf_7 rfl 2 rfl ?_
  refine R_icmp_gt (tgt := 13) dX11_causesOf_8 (by decide) (fun b4 => ?_) (fun b4 => ?_)
  · have hf := hf.1 b4
    refine R_aload_n dX11_causesOf_13 rfl 0 rfl ?_
    refine R_iload_n dX11_causesOf_14 rfl 1 rfl ?_
    refine R_iload_n dX11_causesOf_15 rfl 2 rfl ?_
    obtain ⟨ob5, hf⟩ := hf
    refine R_callV (ci := 11) (N := mX11_isJump) (as := [.int x1, .int x2]) (rest := []) (kc2 := 0) (ks2 := 0) dX11_causesOf_16 lmX11_313 oX11_isJump (Nat.le_of_ble_eq_true rfl) rfl rfl (Nat.le_of_ble_eq_true rfl) rfl rfl ob5 ok11 (Call.mono hf ?_)
    rintro _ h6 ⟨z7, rfl, hf⟩
    have key : ∀ z9 : Int32, z9 = (if z7 = 0 then 0 else 2) → Rr mX11_causesOf 0 0 27 [(0, .ref r0), (1, .int x1), (2, .int x2)] [.int z9] h6 P := by
      intro z9 ez9
      have hf := hf z9 ez9
      refine R_istore_n dX11_causesOf_27 rfl (by decide) rfl ?_
      refine R_aload_n dX11_causesOf_28 rfl 1 rfl ?_
      refine R_iload_n dX11_causesOf_29 rfl 2 rfl ?_
      refine R_iload_n dX11_causesOf_30 rfl 3 rfl ?_
      obtain ⟨ob10, hf⟩ := hf
      refine R_callV (ci := 11) (N := mX11_isDrift) (as := [.int x1, .int x2]) (rest := []) (kc2 := 0) (ks2 := 0) dX11_causesOf_31 lmX11_316 oX11_isDrift (Nat.le_of_ble_eq_true rfl) rfl rfl (Nat.le_of_ble_eq_true rfl) rfl rfl ob10 ok11 (Call.mono hf ?_)
      rintro _ h11 ⟨z12, rfl, hf⟩
      have key : ∀ z14 : Int32, z14 = (if z12 = 0 then z9 else (z9 ||| 4)) → Rr mX11_causesOf 0 0 44 [] [.int z14] h11 P := by
        intro z14 ez14
        have hf := hf z14 ez14
        exact R_iret dX11_causesOf_44 rfl rfl hf
      refine R_if_eq (tgt := 43) dX11_causesOf_34 (by decide) (fun b13 => ?_) (fun b13 => ?_)
      · refine R_iload_n dX11_causesOf_43 rfl 0 rfl ?_
        exact R_sub [] rfl (key _ (by rw [if_pos b13]))
      · refine R_iload_n dX11_causesOf_37 rfl 0 rfl ?_
        refine R_iconst (v := 4) dX11_causesOf_38 (by decide) ?_
        refine R_ior dX11_causesOf_39 ?_
        refine R_goto (tgt := 44) dX11_causesOf_40 (by decide) ?_
        exact R_sub [] rfl (key _ (by rw [if_neg b13]))
    refine R_if_eq (tgt := 26) dX11_causesOf_19 (by decide) (fun b8 => ?_) (fun b8 => ?_)
    · refine R_iconst (v := 0) dX11_causesOf_26 (by decide) ?_
      exact R_sub [0, 1, 2] rfl (key _ (by rw [if_pos b8]))
    · refine R_iconst (v := 2) dX11_causesOf_22 (by decide) ?_
      refine R_goto (tgt := 27) dX11_causesOf_23 (by decide) ?_
      exact R_sub [0, 1, 2] rfl (key _ (by rw [if_neg b8]))
  · have hf := hf.2 b4
    refine R_iconst (v := 1) dX11_causesOf_11 (by decide) ?_
    exact R_iret dX11_causesOf_12 rfl rfl hf
theorem dX11_cost_0 : decode cX11_cost 0 = .ok (.iload_n 1, 1) := by decide +kernel
theorem dX11_cost_1 : decode cX11_cost 1 = .ok (.iload_n 2, 1) := by decide +kernel
theorem dX11_cost_2 : decode cX11_cost 2 = .ok (.iload_n 3, 1) := by decide +kernel
theorem dX11_cost_3 : decode cX11_cost 3 = .ok (.iload 4, 2) := by decide +kernel
theorem dX11_cost_5 : decode cX11_cost 5 = .ok (.invokestatic 327, 3) := by decide +kernel
theorem dX11_cost_8 : decode cX11_cost 8 = .ok (.ifCond .eq 13, 3) := by decide +kernel
theorem dX11_cost_11 : decode cX11_cost 11 = .ok (.iload 5, 2) := by decide +kernel
theorem dX11_cost_13 : decode cX11_cost 13 = .ok (.iload 6, 2) := by decide +kernel
theorem dX11_cost_15 : decode cX11_cost 15 = .ok (.invokestatic 330, 3) := by decide +kernel
theorem dX11_cost_18 : decode cX11_cost 18 = .ok (.ifCond .ne 7, 3) := by decide +kernel
theorem dX11_cost_21 : decode cX11_cost 21 = .ok (.ldc2_w 333, 3) := by decide +kernel
theorem dX11_cost_24 : decode cX11_cost 24 = .ok (.lreturn, 1) := by decide +kernel
theorem dX11_cost_25 : decode cX11_cost 25 = .ok (.aload_n 0, 1) := by decide +kernel
theorem dX11_cost_26 : decode cX11_cost 26 = .ok (.getfield 81, 3) := by decide +kernel
theorem dX11_cost_29 : decode cX11_cost 29 = .ok (.iload_n 1, 1) := by decide +kernel
theorem dX11_cost_30 : decode cX11_cost 30 = .ok (.iload_n 2, 1) := by decide +kernel
theorem dX11_cost_31 : decode cX11_cost 31 = .ok (.iload_n 3, 1) := by decide +kernel
theorem dX11_cost_32 : decode cX11_cost 32 = .ok (.iload 4, 2) := by decide +kernel
theorem dX11_cost_34 : decode cX11_cost 34 = .ok (.iload 5, 2) := by decide +kernel
theorem dX11_cost_36 : decode cX11_cost 36 = .ok (.iload 6, 2) := by decide +kernel
theorem dX11_cost_38 : decode cX11_cost 38 = .ok (.invokevirtual 335, 3) := by decide +kernel
theorem dX11_cost_41 : decode cX11_cost 41 = .ok (.aload_n 0, 1) := by decide +kernel
theorem dX11_cost_42 : decode cX11_cost 42 = .ok (.getfield 81, 3) := by decide +kernel
theorem dX11_cost_45 : decode cX11_cost 45 = .ok (.getfield 339, 3) := by decide +kernel
theorem dX11_cost_48 : decode cX11_cost 48 = .ok (.aload_n 0, 1) := by decide +kernel
theorem dX11_cost_49 : decode cX11_cost 49 = .ok (.getfield 81, 3) := by decide +kernel
theorem dX11_cost_52 : decode cX11_cost 52 = .ok (.getfield 343, 3) := by decide +kernel
theorem dX11_cost_55 : decode cX11_cost 55 = .ok (.invokestatic 346, 3) := by decide +kernel
theorem dX11_cost_58 : decode cX11_cost 58 = .ok (.lreturn, 1) := by decide +kernel
set_option maxRecDepth 20000 in
theorem sX11_cost_0 {P : Option Value → AH → Prop} (h : AH) (r0 : Nat) (x1 : Int32) (x2 : Int32) (x3 : Int32) (x4 : Int32) (x5 : Int32) (x6 : Int32) (hf : (¬ (¬ x1 < 1 ∧ ¬ 8 < x1 ∧ ¬ x2 < 0 ∧ ¬ 6 < x2 ∧ (¬ x3 < 0 ∧ ¬ 999 < x3) ∧ (¬ x4 < 0 ∧ ¬ 999 < x4)) → P (some (.long (-2))) h) ∧ ((¬ x1 < 1 ∧ ¬ 8 < x1 ∧ ¬ x2 < 0 ∧ ¬ 6 < x2 ∧ (¬ x3 < 0 ∧ ¬ 999 < x3) ∧ (¬ x4 < 0 ∧ ¬ 999 < x4)) → (((¬ x5 < 0 ∧ ¬ 10 < x5) ∧ (¬ x6 < 0 ∧ ¬ 10 < x6) ∧ ¬ 10 < (x5 + x6)) → (isO h 11 r0) ∧ ((isO h 2 (gF h r0 12)) ∧ (Call mX2_weigh [.ref (gF h r0 12), .int x1, .int x2, .int x3, .int x4, .int x5, .int x6] h (fun v h5 => v = none ∧ ((isO h5 11 r0) ∧ ((isO h5 2 (gF h5 r0 12)) ∧ (P (some (.long (lmin (gL h5 (gF h5 r0 12) 2) (gL h5 (gF h5 r0 12) 3)))) h5))))))) ∧ (¬ ((¬ x5 < 0 ∧ ¬ 10 < x5) ∧ (¬ x6 < 0 ∧ ¬ 10 < x6) ∧ ¬ 10 < (x5 + x6)) → P (some (.long (-2))) h))) : Rr mX11_cost 0 0 0 [(0, .ref r0), (1, .int x1), (2, .int x2), (3, .int x3), (4, .int x4), (5, .int x5), (6, .int x6)] [] h P := by
  refine R_iload_n dX11_cost_0 rfl 1 rfl ?_
  refine R_iload_n dX11_cost_1 rfl 2 rfl ?_
  refine R_iload_n dX11_cost_2 rfl 3 rfl ?_
  refine R_iload dX11_cost_3 4 rfl ?_
  refine R_callS (N := mX2_areBounds) (as := [.int x1, .int x2, .int x3, .int x4]) (rest := []) (kc2 := 0) (ks2 := 0) dX11_cost_5 lmX11_327 oX2_areBounds (Nat.le_of_ble_eq_true rfl) rfl rfl (Nat.le_of_ble_eq_true rfl) rfl rfl (aX2_areBounds  ?_)
  refine R_if_eq_b (tgt := 21) dX11_cost_8 (by decide) (fun b1 => ?_) (fun b1 => ?_)
  · have hf := hf.1 b1
    refine R_ldc2 (v := (-2)) dX11_cost_21 lcX11_333 ?_
    exact R_lret dX11_cost_24 rfl hf
  · have hf := hf.2 b1
    refine R_iload dX11_cost_11 5 rfl ?_
    refine R_iload dX11_cost_13 6 rfl ?_
    refine R_callS (N := mX2_areChances) (as := [.int x5, .int x6]) (rest := []) (kc2 := 0) (ks2 := 0) dX11_cost_15 lmX11_330 oX2_areChances (Nat.le_of_ble_eq_true rfl) rfl rfl (Nat.le_of_ble_eq_true rfl) rfl rfl (aX2_areChances  ?_)
    refine R_if_ne_b (tgt := 25) dX11_cost_18 (by decide) (fun b2 => ?_) (fun b2 => ?_)
    · have hf := hf.1 b2
      refine R_aload_n dX11_cost_25 rfl 0 rfl ?_
      obtain ⟨ob3, hf⟩ := hf
      refine G11_12 dX11_cost_26 lfX11_81 ob3 ?_
      refine R_iload_n dX11_cost_29 rfl 1 rfl ?_
      refine R_iload_n dX11_cost_30 rfl 2 rfl ?_
      refine R_iload_n dX11_cost_31 rfl 3 rfl ?_
      refine R_iload dX11_cost_32 4 rfl ?_
      refine R_iload dX11_cost_34 5 rfl ?_
      refine R_iload dX11_cost_36 6 rfl ?_
      obtain ⟨ob4, hf⟩ := hf
      refine R_callV (ci := 2) (N := mX2_weigh) (as := [.int x1, .int x2, .int x3, .int x4, .int x5, .int x6]) (rest := []) (kc2 := 0) (ks2 := 0) dX11_cost_38 lmX11_335 oX2_weigh (Nat.le_of_ble_eq_true rfl) rfl rfl (Nat.le_of_ble_eq_true rfl) rfl rfl ob4 ok2 (Call.mono hf ?_)
      rintro _ h5 ⟨rfl, hf⟩
      refine R_aload_n dX11_cost_41 rfl 0 rfl ?_
      obtain ⟨ob6, hf⟩ := hf
      refine G11_12 dX11_cost_42 lfX11_81 ob6 ?_
      obtain ⟨ob7, hf⟩ := hf
      refine G2_2 dX11_cost_45 lfX11_339 ob7 ?_
      refine R_aload_n dX11_cost_48 rfl 0 rfl ?_
      refine G11_12 dX11_cost_49 lfX11_81 ob6 ?_
      refine G2_3 dX11_cost_52 lfX11_343 ob7 ?_
      refine R_mminL dX11_cost_55 lmX11_346 (by decide) (Nat.le_of_ble_eq_true rfl) ?_
      exact R_lret dX11_cost_58 rfl hf
    · have hf := hf.2 b2
      refine R_ldc2 (v := (-2)) dX11_cost_21 lcX11_333 ?_
      exact R_lret dX11_cost_24 rfl hf
theorem dX11_findOrder_0 : decode cX11_findOrder 0 = .ok (.iconst (-1), 1) := by decide +kernel
theorem dX11_findOrder_1 : decode cX11_findOrder 1 = .ok (.istore_n 1, 1) := by decide +kernel
theorem dX11_findOrder_2 : decode cX11_findOrder 2 = .ok (.iconst 0, 1) := by decide +kernel
theorem dX11_findOrder_3 : decode cX11_findOrder 3 = .ok (.istore_n 2, 1) := by decide +kernel
theorem dX11_findOrder_4 : decode cX11_findOrder 4 = .ok (.iload_n 2, 1) := by decide +kernel
theorem dX11_findOrder_5 : decode cX11_findOrder 5 = .ok (.iconst 4, 1) := by decide +kernel
theorem dX11_findOrder_6 : decode cX11_findOrder 6 = .ok (.if_icmp .ge 99, 3) := by decide +kernel
theorem dX11_findOrder_9 : decode cX11_findOrder 9 = .ok (.iconst 0, 1) := by decide +kernel
theorem dX11_findOrder_10 : decode cX11_findOrder 10 = .ok (.istore_n 3, 1) := by decide +kernel
theorem dX11_findOrder_11 : decode cX11_findOrder 11 = .ok (.iload_n 3, 1) := by decide +kernel
theorem dX11_findOrder_12 : decode cX11_findOrder 12 = .ok (.iconst 4, 1) := by decide +kernel
theorem dX11_findOrder_13 : decode cX11_findOrder 13 = .ok (.if_icmp .ge 86, 3) := by decide +kernel
theorem dX11_findOrder_16 : decode cX11_findOrder 16 = .ok (.iconst 0, 1) := by decide +kernel
theorem dX11_findOrder_17 : decode cX11_findOrder 17 = .ok (.istore 4, 2) := by decide +kernel
theorem dX11_findOrder_19 : decode cX11_findOrder 19 = .ok (.iload 4, 2) := by decide +kernel
theorem dX11_findOrder_21 : decode cX11_findOrder 21 = .ok (.iconst 4, 1) := by decide +kernel
theorem dX11_findOrder_22 : decode cX11_findOrder 22 = .ok (.if_icmp .ge 71, 3) := by decide +kernel
theorem dX11_findOrder_25 : decode cX11_findOrder 25 = .ok (.bipush 6, 2) := by decide +kernel
theorem dX11_findOrder_27 : decode cX11_findOrder 27 = .ok (.iload_n 2, 1) := by decide +kernel
theorem dX11_findOrder_28 : decode cX11_findOrder 28 = .ok (.isub, 1) := by decide +kernel
theorem dX11_findOrder_29 : decode cX11_findOrder 29 = .ok (.iload_n 3, 1) := by decide +kernel
theorem dX11_findOrder_30 : decode cX11_findOrder 30 = .ok (.isub, 1) := by decide +kernel
theorem dX11_findOrder_31 : decode cX11_findOrder 31 = .ok (.iload 4, 2) := by decide +kernel
theorem dX11_findOrder_33 : decode cX11_findOrder 33 = .ok (.isub, 1) := by decide +kernel
theorem dX11_findOrder_34 : decode cX11_findOrder 34 = .ok (.istore 5, 2) := by decide +kernel
theorem dX11_findOrder_36 : decode cX11_findOrder 36 = .ok (.aload_n 0, 1) := by decide +kernel
theorem dX11_findOrder_37 : decode cX11_findOrder 37 = .ok (.iload_n 2, 1) := by decide +kernel
theorem dX11_findOrder_38 : decode cX11_findOrder 38 = .ok (.iload_n 3, 1) := by decide +kernel
theorem dX11_findOrder_39 : decode cX11_findOrder 39 = .ok (.iload 4, 2) := by decide +kernel
theorem dX11_findOrder_41 : decode cX11_findOrder 41 = .ok (.iload 5, 2) := by decide +kernel
theorem dX11_findOrder_43 : decode cX11_findOrder 43 = .ok (.invokevirtual 382, 3) := by decide +kernel
theorem dX11_findOrder_46 : decode cX11_findOrder 46 = .ok (.istore 6, 2) := by decide +kernel
theorem dX11_findOrder_48 : decode cX11_findOrder 48 = .ok (.iload 6, 2) := by decide +kernel
theorem dX11_findOrder_50 : decode cX11_findOrder 50 = .ok (.iload_n 1, 1) := by decide +kernel
theorem dX11_findOrder_51 : decode cX11_findOrder 51 = .ok (.if_icmp .le 36, 3) := by decide +kernel
theorem dX11_findOrder_54 : decode cX11_findOrder 54 = .ok (.iload 6, 2) := by decide +kernel
theorem dX11_findOrder_56 : decode cX11_findOrder 56 = .ok (.istore_n 1, 1) := by decide +kernel
theorem dX11_findOrder_57 : decode cX11_findOrder 57 = .ok (.aload_n 0, 1) := by decide +kernel
theorem dX11_findOrder_58 : decode cX11_findOrder 58 = .ok (.getfield 92, 3) := by decide +kernel
theorem dX11_findOrder_61 : decode cX11_findOrder 61 = .ok (.iconst 0, 1) := by decide +kernel
theorem dX11_findOrder_62 : decode cX11_findOrder 62 = .ok (.iload_n 2, 1) := by decide +kernel
theorem dX11_findOrder_63 : decode cX11_findOrder 63 = .ok (.iastore, 1) := by decide +kernel
theorem dX11_findOrder_64 : decode cX11_findOrder 64 = .ok (.aload_n 0, 1) := by decide +kernel
theorem dX11_findOrder_65 : decode cX11_findOrder 65 = .ok (.getfield 92, 3) := by decide +kernel
theorem dX11_findOrder_68 : decode cX11_findOrder 68 = .ok (.iconst 1, 1) := by decide +kernel
theorem dX11_findOrder_69 : decode cX11_findOrder 69 = .ok (.iload_n 3, 1) := by decide +kernel
theorem dX11_findOrder_70 : decode cX11_findOrder 70 = .ok (.iastore, 1) := by decide +kernel
theorem dX11_findOrder_71 : decode cX11_findOrder 71 = .ok (.aload_n 0, 1) := by decide +kernel
theorem dX11_findOrder_72 : decode cX11_findOrder 72 = .ok (.getfield 92, 3) := by decide +kernel
theorem dX11_findOrder_75 : decode cX11_findOrder 75 = .ok (.iconst 2, 1) := by decide +kernel
theorem dX11_findOrder_76 : decode cX11_findOrder 76 = .ok (.iload 4, 2) := by decide +kernel
theorem dX11_findOrder_78 : decode cX11_findOrder 78 = .ok (.iastore, 1) := by decide +kernel
theorem dX11_findOrder_79 : decode cX11_findOrder 79 = .ok (.aload_n 0, 1) := by decide +kernel
theorem dX11_findOrder_80 : decode cX11_findOrder 80 = .ok (.getfield 92, 3) := by decide +kernel
theorem dX11_findOrder_83 : decode cX11_findOrder 83 = .ok (.iconst 3, 1) := by decide +kernel
theorem dX11_findOrder_84 : decode cX11_findOrder 84 = .ok (.iload 5, 2) := by decide +kernel
theorem dX11_findOrder_86 : decode cX11_findOrder 86 = .ok (.iastore, 1) := by decide +kernel
theorem dX11_findOrder_87 : decode cX11_findOrder 87 = .ok (.iinc 4 1, 3) := by decide +kernel
theorem dX11_findOrder_90 : decode cX11_findOrder 90 = .ok (.goto (-71), 3) := by decide +kernel
theorem dX11_findOrder_93 : decode cX11_findOrder 93 = .ok (.iinc 3 1, 3) := by decide +kernel
theorem dX11_findOrder_96 : decode cX11_findOrder 96 = .ok (.goto (-85), 3) := by decide +kernel
theorem dX11_findOrder_99 : decode cX11_findOrder 99 = .ok (.iinc 2 1, 3) := by decide +kernel
theorem dX11_findOrder_102 : decode cX11_findOrder 102 = .ok (.goto (-98), 3) := by decide +kernel
theorem dX11_findOrder_105 : decode cX11_findOrder 105 = .ok (.iload_n 1, 1) := by decide +kernel
theorem dX11_findOrder_106 : decode cX11_findOrder 106 = .ok (.ireturn, 1) := by decide +kernel
set_option maxRecDepth 20000 in
theorem sX11_findOrder_0 {P : Option Value → AH → Prop} (h : AH) (r0 : Nat) (hf : Rr mX11_findOrder 0 0 4 [(0, .ref r0), (1, .int (-1)), (2, .int 0)] [] h P) : Rr mX11_findOrder 0 0 0 [(0, .ref r0)] [] h P := by
  refine R_iconst (v := (-1)) dX11_findOrder_0 (by decide) ?_
  refine R_istore_n dX11_findOrder_1 rfl (by decide) rfl ?_
  refine R_iconst (v := 0) dX11_findOrder_2 (by decide) ?_
  refine R_istore_n dX11_findOrder_3 rfl (by decide) rfl ?_
  exact R_sub [2, 1, 0] rfl hf
set_option maxRecDepth 20000 in
theorem sX11_findOrder_4 {P : Option Value → AH → Prop} (h : AH) (r0 : Nat) (x1 : Int32) (x2 : Int32) (hf : (4 ≤ x2 → P (some (.int x1)) h) ∧ (¬ 4 ≤ x2 → Rr mX11_findOrder 0 0 11 [(0, .ref r0), (1, .int x1), (2, .int x2), (3, .int 0)] [] h P)) : Rr mX11_findOrder 0 0 4 [(0, .ref r0), (1, .int x1), (2, .int x2)] [] h P := by
  refine R_iload_n dX11_findOrder_4 rfl 2 rfl ?_
  refine R_iconst (v := 4) dX11_findOrder_5 (by decide) ?_
  refine R_icmp_ge (tgt := 105) dX11_findOrder_6 (by decide) (fun b1 => ?_) (fun b1 => ?_)
  · have hf := hf.1 b1
    refine R_iload_n dX11_findOrder_105 rfl 1 rfl ?_
    exact R_iret dX11_findOrder_106 rfl rfl hf
  · have hf := hf.2 b1
    refine R_iconst (v := 0) dX11_findOrder_9 (by decide) ?_
    refine R_istore_n dX11_findOrder_10 rfl (by decide) rfl ?_
    exact R_sub [1, 2, 3, 0] rfl hf
set_option maxRecDepth 20000 in
theorem sX11_findOrder_11 {P : Option Value → AH → Prop} (h : AH) (r0 : Nat) (x1 : Int32) (x2 : Int32) (x3 : Int32) (hf : (4 ≤ x3 → Rr mX11_findOrder 0 0 4 [(0, .ref r0), (1, .int x1), (2, .int (x2 + 1))] [] h P) ∧ (¬ 4 ≤ x3 → Rr mX11_findOrder 0 0 19 [(0, .ref r0), (1, .int x1), (2, .int x2), (3, .int x3), (4, .int 0)] [] h P)) : Rr mX11_findOrder 0 0 11 [(0, .ref r0), (1, .int x1), (2, .int x2), (3, .int x3)] [] h P := by
  refine R_iload_n dX11_findOrder_11 rfl 3 rfl ?_
  refine R_iconst (v := 4) dX11_findOrder_12 (by decide) ?_
  refine R_icmp_ge (tgt := 99) dX11_findOrder_13 (by decide) (fun b1 => ?_) (fun b1 => ?_)
  · have hf := hf.1 b1
    refine R_iinc (v := x2 + 1) dX11_findOrder_99 2 rfl rfl (by decide) rfl ?_
    refine R_goto (tgt := 4) dX11_findOrder_102 (by decide) ?_
    exact R_sub [1, 2, 0] rfl hf
  · have hf := hf.2 b1
    refine R_iconst (v := 0) dX11_findOrder_16 (by decide) ?_
    refine R_istore dX11_findOrder_17 (by decide) rfl ?_
    exact R_sub [1, 2, 3, 4, 0] rfl hf
set_option maxRecDepth 20000 in
theorem sX11_findOrder_19 {P : Option Value → AH → Prop} (h : AH) (r0 : Nat) (x1 : Int32) (x2 : Int32) (x3 : Int32) (x4 : Int32) (hf : (4 ≤ x4 → Rr mX11_findOrder 0 0 11 [(0, .ref r0), (1, .int x1), (2, .int x2), (3, .int (x3 + 1))] [] h P) ∧ (¬ 4 ≤ x4 → (isO h 11 r0) ∧ (Call mX11_sumOf [.ref r0, .int x2, .int x3, .int x4, .int (((6 - x2) - x3) - x4)] h (fun v h3 => ∃ z4 : Int32, v = some (.int z4) ∧ ((z4 ≤ x1 → Rr mX11_findOrder 0 0 19 [(0, .ref r0), (1, .int x1), (2, .int x2), (3, .int x3), (4, .int (x4 + 1))] [] h3 P) ∧ (¬ z4 ≤ x1 → (isO h3 11 r0) ∧ ((isA h3 0 (gF h3 r0 14)) ∧ ((vp_in 0 (ln (gF h3 r0 14))) ∧ ((isA h3 0 (gF (sI h3 (gF h3 r0 14) (Int32.toNatClampNeg 0) x2) r0 14)) ∧ ((vp_in 1 (ln (gF (sI h3 (gF h3 r0 14) (Int32.toNatClampNeg 0) x2) r0 14))) ∧ ((isA h3 0 (gF (sI (sI h3 (gF h3 r0 14) (Int32.toNatClampNeg 0) x2) (gF (sI h3 (gF h3 r0 14) (Int32.toNatClampNeg 0) x2) r0 14) (Int32.toNatClampNeg 1) x3) r0 14)) ∧ ((vp_in 2 (ln (gF (sI (sI h3 (gF h3 r0 14) (Int32.toNatClampNeg 0) x2) (gF (sI h3 (gF h3 r0 14) (Int32.toNatClampNeg 0) x2) r0 14) (Int32.toNatClampNeg 1) x3) r0 14))) ∧ ((isA h3 0 (gF (sI (sI (sI h3 (gF h3 r0 14) (Int32.toNatClampNeg 0) x2) (gF (sI h3 (gF h3 r0 14) (Int32.toNatClampNeg 0) x2) r0 14) (Int32.toNatClampNeg 1) x3) (gF (sI (sI h3 (gF h3 r0 14) (Int32.toNatClampNeg 0) x2) (gF (sI h3 (gF h3 r0 14) (Int32.toNatClampNeg 0) x2) r0 14) (Int32.toNatClampNeg 1) x3) r0 14) (Int32.toNatClampNeg 2) x4) r0 14)) ∧ ((vp_in 3 (ln (gF (sI (sI (sI h3 (gF h3 r0 14) (Int32.toNatClampNeg 0) x2) (gF (sI h3 (gF h3 r0 14) (Int32.toNatClampNeg 0) x2) r0 14) (Int32.toNatClampNeg 1) x3) (gF (sI (sI h3 (gF h3 r0 14) (Int32.toNatClampNeg 0) x2) (gF (sI h3 (gF h3 r0 14) (Int32.toNatClampNeg 0) x2) r0 14) (Int32.toNatClampNeg 1) x3) r0 14) (Int32.toNatClampNeg 2) x4) r0 14))) ∧ (Rr mX11_findOrder 0 0 19 [(0, .ref r0), (1, .int z4), (2, .int x2), (3, .int x3), (4, .int (x4 + 1))] [] (sI (sI (sI (sI h3 (gF h3 r0 14) (Int32.toNatClampNeg 0) x2) (gF (sI h3 (gF h3 r0 14) (Int32.toNatClampNeg 0) x2) r0 14) (Int32.toNatClampNeg 1) x3) (gF (sI (sI h3 (gF h3 r0 14) (Int32.toNatClampNeg 0) x2) (gF (sI h3 (gF h3 r0 14) (Int32.toNatClampNeg 0) x2) r0 14) (Int32.toNatClampNeg 1) x3) r0 14) (Int32.toNatClampNeg 2) x4) (gF (sI (sI (sI h3 (gF h3 r0 14) (Int32.toNatClampNeg 0) x2) (gF (sI h3 (gF h3 r0 14) (Int32.toNatClampNeg 0) x2) r0 14) (Int32.toNatClampNeg 1) x3) (gF (sI (sI h3 (gF h3 r0 14) (Int32.toNatClampNeg 0) x2) (gF (sI h3 (gF h3 r0 14) (Int32.toNatClampNeg 0) x2) r0 14) (Int32.toNatClampNeg 1) x3) r0 14) (Int32.toNatClampNeg 2) x4) r0 14) (Int32.toNatClampNeg 3) (((6 - x2) - x3) - x4)) P))))))))))))))) : Rr mX11_findOrder 0 0 19 [(0, .ref r0), (1, .int x1), (2, .int x2), (3, .int x3), (4, .int x4)] [] h P := by
  refine R_iload dX11_findOrder_19 4 rfl ?_
  refine R_iconst (v := 4) dX11_findOrder_21 (by decide) ?_
  refine R_icmp_ge (tgt := 93) dX11_findOrder_22 (by decide) (fun b1 => ?_) (fun b1 => ?_)
  · have hf := hf.1 b1
    refine R_iinc (v := x3 + 1) dX11_findOrder_93 3 rfl rfl (by decide) rfl ?_
    refine R_goto (tgt := 11) dX11_findOrder_96 (by decide) ?_
    exact R_sub [1, 2, 3, 0] rfl hf
  · have hf := hf.2 b1
    refine R_bipush (v := 6) dX11_findOrder_25 (by decide) ?_
    refine R_iload_n dX11_findOrder_27 rfl 2 rfl ?_
    refine R_isub dX11_findOrder_28 ?_
    refine R_iload_n dX11_findOrder_29 rfl 3 rfl ?_
    refine R_isub dX11_findOrder_30 ?_
    refine R_iload dX11_findOrder_31 4 rfl ?_
    refine R_isub dX11_findOrder_33 ?_
    refine R_istore dX11_findOrder_34 (by decide) rfl ?_
    refine R_aload_n dX11_findOrder_36 rfl 1 rfl ?_
    refine R_iload_n dX11_findOrder_37 rfl 3 rfl ?_
    refine R_iload_n dX11_findOrder_38 rfl 4 rfl ?_
    refine R_iload dX11_findOrder_39 5 rfl ?_
    refine R_iload dX11_findOrder_41 0 rfl ?_
    obtain ⟨ob2, hf⟩ := hf
    refine R_callV (ci := 11) (N := mX11_sumOf) (as := [.int x2, .int x3, .int x4, .int (((6 - x2) - x3) - x4)]) (rest := []) (kc2 := 0) (ks2 := 0) dX11_findOrder_43 lmX11_382 oX11_sumOf (Nat.le_of_ble_eq_true rfl) rfl rfl (Nat.le_of_ble_eq_true rfl) rfl rfl ob2 ok11 (Call.mono hf ?_)
    rintro _ h3 ⟨z4, rfl, hf⟩
    refine R_istore dX11_findOrder_46 (by decide) rfl ?_
    refine R_iload dX11_findOrder_48 0 rfl ?_
    refine R_iload_n dX11_findOrder_50 rfl 3 rfl ?_
    refine R_icmp_le (tgt := 87) dX11_findOrder_51 (by decide) (fun b5 => ?_) (fun b5 => ?_)
    · have hf := hf.1 b5
      refine R_iinc (v := x4 + 1) dX11_findOrder_87 6 rfl rfl (by decide) rfl ?_
      refine R_goto (tgt := 19) dX11_findOrder_90 (by decide) ?_
      exact R_sub [3, 4, 5, 6, 0] rfl hf
    · have hf := hf.2 b5
      refine R_iload dX11_findOrder_54 0 rfl ?_
      refine R_istore_n dX11_findOrder_56 rfl (by decide) rfl ?_
      refine R_aload_n dX11_findOrder_57 rfl 3 rfl ?_
      obtain ⟨ob6, hf⟩ := hf
      refine G11_14 dX11_findOrder_58 lfX11_92 ob6 ?_
      refine R_iconst (v := 0) dX11_findOrder_61 (by decide) ?_
      refine R_iload_n dX11_findOrder_62 rfl 4 rfl ?_
      obtain ⟨ob7, hf⟩ := hf
      obtain ⟨ob8, hf⟩ := hf
      refine R_iastore dX11_findOrder_63 ob7 ob8 ?_
      refine R_aload_n dX11_findOrder_64 rfl 3 rfl ?_
      refine G11_14 dX11_findOrder_65 lfX11_92 ob6 ?_
      refine R_iconst (v := 1) dX11_findOrder_68 (by decide) ?_
      refine R_iload_n dX11_findOrder_69 rfl 5 rfl ?_
      obtain ⟨ob9, hf⟩ := hf
      obtain ⟨ob10, hf⟩ := hf
      refine R_iastore dX11_findOrder_70 ob9 ob10 ?_
      refine R_aload_n dX11_findOrder_71 rfl 3 rfl ?_
      refine G11_14 dX11_findOrder_72 lfX11_92 ob6 ?_
      refine R_iconst (v := 2) dX11_findOrder_75 (by decide) ?_
      refine R_iload dX11_findOrder_76 6 rfl ?_
      obtain ⟨ob11, hf⟩ := hf
      obtain ⟨ob12, hf⟩ := hf
      refine R_iastore dX11_findOrder_78 ob11 ob12 ?_
      refine R_aload_n dX11_findOrder_79 rfl 3 rfl ?_
      refine G11_14 dX11_findOrder_80 lfX11_92 ob6 ?_
      refine R_iconst (v := 3) dX11_findOrder_83 (by decide) ?_
      refine R_iload dX11_findOrder_84 2 rfl ?_
      obtain ⟨ob13, hf⟩ := hf
      obtain ⟨ob14, hf⟩ := hf
      refine R_iastore dX11_findOrder_86 ob13 ob14 ?_
      refine R_iinc (v := x4 + 1) dX11_findOrder_87 6 rfl rfl (by decide) rfl ?_
      refine R_goto (tgt := 19) dX11_findOrder_90 (by decide) ?_
      exact R_sub [4, 1, 5, 6, 0] rfl hf
theorem dX11_halt_0 : decode cX11_halt 0 = .ok (.iload_n 1, 1) := by decide +kernel
theorem dX11_halt_1 : decode cX11_halt 1 = .ok (.iload_n 2, 1) := by decide +kernel
theorem dX11_halt_2 : decode cX11_halt 2 = .ok (.iload_n 3, 1) := by decide +kernel
theorem dX11_halt_3 : decode cX11_halt 3 = .ok (.iload 4, 2) := by decide +kernel
theorem dX11_halt_5 : decode cX11_halt 5 = .ok (.invokestatic 327, 3) := by decide +kernel
theorem dX11_halt_8 : decode cX11_halt 8 = .ok (.ifCond .eq 13, 3) := by decide +kernel
theorem dX11_halt_11 : decode cX11_halt 11 = .ok (.iload 5, 2) := by decide +kernel
theorem dX11_halt_13 : decode cX11_halt 13 = .ok (.iload 6, 2) := by decide +kernel
theorem dX11_halt_15 : decode cX11_halt 15 = .ok (.invokestatic 330, 3) := by decide +kernel
theorem dX11_halt_18 : decode cX11_halt 18 = .ok (.ifCond .ne 6, 3) := by decide +kernel
theorem dX11_halt_21 : decode cX11_halt 21 = .ok (.bipush (-2), 2) := by decide +kernel
theorem dX11_halt_23 : decode cX11_halt 23 = .ok (.ireturn, 1) := by decide +kernel
theorem dX11_halt_24 : decode cX11_halt 24 = .ok (.aload_n 0, 1) := by decide +kernel
theorem dX11_halt_25 : decode cX11_halt 25 = .ok (.getfield 81, 3) := by decide +kernel
theorem dX11_halt_28 : decode cX11_halt 28 = .ok (.iload_n 1, 1) := by decide +kernel
theorem dX11_halt_29 : decode cX11_halt 29 = .ok (.iload_n 2, 1) := by decide +kernel
theorem dX11_halt_30 : decode cX11_halt 30 = .ok (.iload_n 3, 1) := by decide +kernel
theorem dX11_halt_31 : decode cX11_halt 31 = .ok (.iload 4, 2) := by decide +kernel
theorem dX11_halt_33 : decode cX11_halt 33 = .ok (.iload 5, 2) := by decide +kernel
theorem dX11_halt_35 : decode cX11_halt 35 = .ok (.iload 6, 2) := by decide +kernel
theorem dX11_halt_37 : decode cX11_halt 37 = .ok (.invokevirtual 335, 3) := by decide +kernel
theorem dX11_halt_40 : decode cX11_halt 40 = .ok (.aload_n 0, 1) := by decide +kernel
theorem dX11_halt_41 : decode cX11_halt 41 = .ok (.getfield 81, 3) := by decide +kernel
theorem dX11_halt_44 : decode cX11_halt 44 = .ok (.getfield 343, 3) := by decide +kernel
theorem dX11_halt_47 : decode cX11_halt 47 = .ok (.aload_n 0, 1) := by decide +kernel
theorem dX11_halt_48 : decode cX11_halt 48 = .ok (.getfield 81, 3) := by decide +kernel
theorem dX11_halt_51 : decode cX11_halt 51 = .ok (.getfield 339, 3) := by decide +kernel
theorem dX11_halt_54 : decode cX11_halt 54 = .ok (.lcmp, 1) := by decide +kernel
theorem dX11_halt_55 : decode cX11_halt 55 = .ok (.ifCond .ge 7, 3) := by decide +kernel
theorem dX11_halt_58 : decode cX11_halt 58 = .ok (.iconst 1, 1) := by decide +kernel
theorem dX11_halt_59 : decode cX11_halt 59 = .ok (.goto 4, 3) := by decide +kernel
theorem dX11_halt_62 : decode cX11_halt 62 = .ok (.iconst 0, 1) := by decide +kernel
theorem dX11_halt_63 : decode cX11_halt 63 = .ok (.ireturn, 1) := by decide +kernel
set_option maxRecDepth 20000 in
theorem sX11_halt_0 {P : Option Value → AH → Prop} (h : AH) (r0 : Nat) (x1 : Int32) (x2 : Int32) (x3 : Int32) (x4 : Int32) (x5 : Int32) (x6 : Int32) (hf : (¬ (¬ x1 < 1 ∧ ¬ 8 < x1 ∧ ¬ x2 < 0 ∧ ¬ 6 < x2 ∧ (¬ x3 < 0 ∧ ¬ 999 < x3) ∧ (¬ x4 < 0 ∧ ¬ 999 < x4)) → P (some (.int (-2))) h) ∧ ((¬ x1 < 1 ∧ ¬ 8 < x1 ∧ ¬ x2 < 0 ∧ ¬ 6 < x2 ∧ (¬ x3 < 0 ∧ ¬ 999 < x3) ∧ (¬ x4 < 0 ∧ ¬ 999 < x4)) → (((¬ x5 < 0 ∧ ¬ 10 < x5) ∧ (¬ x6 < 0 ∧ ¬ 10 < x6) ∧ ¬ 10 < (x5 + x6)) → (isO h 11 r0) ∧ ((isO h 2 (gF h r0 12)) ∧ (Call mX2_weigh [.ref (gF h r0 12), .int x1, .int x2, .int x3, .int x4, .int x5, .int x6] h (fun v h5 => v = none ∧ ((isO h5 11 r0) ∧ ((isO h5 2 (gF h5 r0 12)) ∧ (P (some (.int (bi (¬ 0 ≤ (lg_cmp (gL h5 (gF h5 r0 12) 3) (gL h5 (gF h5 r0 12) 2)))))) h5))))))) ∧ (¬ ((¬ x5 < 0 ∧ ¬ 10 < x5) ∧ (¬ x6 < 0 ∧ ¬ 10 < x6) ∧ ¬ 10 < (x5 + x6)) → P (some (.int (-2))) h))) : Rr mX11_halt 0 0 0 [(0, .ref r0), (1, .int x1), (2, .int x2), (3, .int x3), (4, .int x4), (5, .int x5), (6, .int x6)] [] h P := by
  refine R_iload_n dX11_halt_0 rfl 1 rfl ?_
  refine R_iload_n dX11_halt_1 rfl 2 rfl ?_
  refine R_iload_n dX11_halt_2 rfl 3 rfl ?_
  refine R_iload dX11_halt_3 4 rfl ?_
  refine R_callS (N := mX2_areBounds) (as := [.int x1, .int x2, .int x3, .int x4]) (rest := []) (kc2 := 0) (ks2 := 0) dX11_halt_5 lmX11_327 oX2_areBounds (Nat.le_of_ble_eq_true rfl) rfl rfl (Nat.le_of_ble_eq_true rfl) rfl rfl (aX2_areBounds  ?_)
  refine R_if_eq_b (tgt := 21) dX11_halt_8 (by decide) (fun b1 => ?_) (fun b1 => ?_)
  · have hf := hf.1 b1
    refine R_bipush (v := (-2)) dX11_halt_21 (by decide) ?_
    exact R_iret dX11_halt_23 rfl rfl hf
  · have hf := hf.2 b1
    refine R_iload dX11_halt_11 5 rfl ?_
    refine R_iload dX11_halt_13 6 rfl ?_
    refine R_callS (N := mX2_areChances) (as := [.int x5, .int x6]) (rest := []) (kc2 := 0) (ks2 := 0) dX11_halt_15 lmX11_330 oX2_areChances (Nat.le_of_ble_eq_true rfl) rfl rfl (Nat.le_of_ble_eq_true rfl) rfl rfl (aX2_areChances  ?_)
    refine R_if_ne_b (tgt := 24) dX11_halt_18 (by decide) (fun b2 => ?_) (fun b2 => ?_)
    · have hf := hf.1 b2
      refine R_aload_n dX11_halt_24 rfl 0 rfl ?_
      obtain ⟨ob3, hf⟩ := hf
      refine G11_12 dX11_halt_25 lfX11_81 ob3 ?_
      refine R_iload_n dX11_halt_28 rfl 1 rfl ?_
      refine R_iload_n dX11_halt_29 rfl 2 rfl ?_
      refine R_iload_n dX11_halt_30 rfl 3 rfl ?_
      refine R_iload dX11_halt_31 4 rfl ?_
      refine R_iload dX11_halt_33 5 rfl ?_
      refine R_iload dX11_halt_35 6 rfl ?_
      obtain ⟨ob4, hf⟩ := hf
      refine R_callV (ci := 2) (N := mX2_weigh) (as := [.int x1, .int x2, .int x3, .int x4, .int x5, .int x6]) (rest := []) (kc2 := 0) (ks2 := 0) dX11_halt_37 lmX11_335 oX2_weigh (Nat.le_of_ble_eq_true rfl) rfl rfl (Nat.le_of_ble_eq_true rfl) rfl rfl ob4 ok2 (Call.mono hf ?_)
      rintro _ h5 ⟨rfl, hf⟩
      refine R_aload_n dX11_halt_40 rfl 0 rfl ?_
      obtain ⟨ob6, hf⟩ := hf
      refine G11_12 dX11_halt_41 lfX11_81 ob6 ?_
      obtain ⟨ob7, hf⟩ := hf
      refine G2_3 dX11_halt_44 lfX11_343 ob7 ?_
      refine R_aload_n dX11_halt_47 rfl 0 rfl ?_
      refine G11_12 dX11_halt_48 lfX11_81 ob6 ?_
      refine G2_2 dX11_halt_51 lfX11_339 ob7 ?_
      refine R_lcmp dX11_halt_54 ?_
      have key :  Rr mX11_halt 0 0 63 [] [.int (bi (¬ 0 ≤ (lg_cmp (gL h5 (gF h5 r0 12) 3) (gL h5 (gF h5 r0 12) 2))))] h5 P := by
        exact R_iret dX11_halt_63 rfl rfl hf
      refine R_if_ge (tgt := 62) dX11_halt_55 (by decide) (fun b8 => ?_) (fun b8 => ?_)
      · refine R_iconst (v := 0) dX11_halt_62 (by decide) ?_
        have kb := key
        rw [show bi (¬ 0 ≤ (lg_cmp (gL h5 (gF h5 r0 12) 3) (gL h5 (gF h5 r0 12) 2))) = 0 from by simp only [bi, b8, false_and, and_false, true_and, and_true, not_true_eq_false, not_false_eq_true, if_true, if_false, true_or, or_true, false_or, or_false, reduceIte]] at kb
        exact R_sub [] rfl kb
      · refine R_iconst (v := 1) dX11_halt_58 (by decide) ?_
        refine R_goto (tgt := 63) dX11_halt_59 (by decide) ?_
        have kb := key
        rw [show bi (¬ 0 ≤ (lg_cmp (gL h5 (gF h5 r0 12) 3) (gL h5 (gF h5 r0 12) 2))) = 1 from by simp only [bi, b8, false_and, and_false, true_and, and_true, not_true_eq_false, not_false_eq_true, if_true, if_false, true_or, or_true, false_or, or_false, reduceIte]] at kb
        exact R_sub [] rfl kb
    · have hf := hf.2 b2
      refine R_bipush (v := (-2)) dX11_halt_21 (by decide) ?_
      exact R_iret dX11_halt_23 rfl rfl hf
theorem dX11_held_0 : decode cX11_held 0 = .ok (.iload_n 1, 1) := by decide +kernel
theorem dX11_held_1 : decode cX11_held 1 = .ok (.invokestatic 289, 3) := by decide +kernel
theorem dX11_held_4 : decode cX11_held 4 = .ok (.ifCond .eq 25, 3) := by decide +kernel
theorem dX11_held_7 : decode cX11_held 7 = .ok (.iload_n 2, 1) := by decide +kernel
theorem dX11_held_8 : decode cX11_held 8 = .ok (.invokestatic 289, 3) := by decide +kernel
theorem dX11_held_11 : decode cX11_held 11 = .ok (.ifCond .eq 18, 3) := by decide +kernel
theorem dX11_held_14 : decode cX11_held 14 = .ok (.iload_n 3, 1) := by decide +kernel
theorem dX11_held_15 : decode cX11_held 15 = .ok (.invokestatic 289, 3) := by decide +kernel
theorem dX11_held_18 : decode cX11_held 18 = .ok (.ifCond .eq 11, 3) := by decide +kernel
theorem dX11_held_21 : decode cX11_held 21 = .ok (.iload 4, 2) := by decide +kernel
theorem dX11_held_23 : decode cX11_held 23 = .ok (.invokestatic 289, 3) := by decide +kernel
theorem dX11_held_26 : decode cX11_held 26 = .ok (.ifCond .ne 6, 3) := by decide +kernel
theorem dX11_held_29 : decode cX11_held 29 = .ok (.bipush (-2), 2) := by decide +kernel
theorem dX11_held_31 : decode cX11_held 31 = .ok (.ireturn, 1) := by decide +kernel
theorem dX11_held_32 : decode cX11_held 32 = .ok (.aload_n 0, 1) := by decide +kernel
theorem dX11_held_33 : decode cX11_held 33 = .ok (.getfield 283, 3) := by decide +kernel
theorem dX11_held_36 : decode cX11_held 36 = .ok (.ifCond .ne 6, 3) := by decide +kernel
theorem dX11_held_39 : decode cX11_held 39 = .ok (.bipush (-4), 2) := by decide +kernel
theorem dX11_held_41 : decode cX11_held 41 = .ok (.ireturn, 1) := by decide +kernel
theorem dX11_held_42 : decode cX11_held 42 = .ok (.aload_n 0, 1) := by decide +kernel
theorem dX11_held_43 : decode cX11_held 43 = .ok (.getfield 71, 3) := by decide +kernel
theorem dX11_held_46 : decode cX11_held 46 = .ok (.invokevirtual 277, 3) := by decide +kernel
theorem dX11_held_49 : decode cX11_held 49 = .ok (.aload_n 0, 1) := by decide +kernel
theorem dX11_held_50 : decode cX11_held 50 = .ok (.iconst 0, 1) := by decide +kernel
theorem dX11_held_51 : decode cX11_held 51 = .ok (.iload_n 1, 1) := by decide +kernel
theorem dX11_held_52 : decode cX11_held 52 = .ok (.invokevirtual 292, 3) := by decide +kernel
theorem dX11_held_55 : decode cX11_held 55 = .ok (.aload_n 0, 1) := by decide +kernel
theorem dX11_held_56 : decode cX11_held 56 = .ok (.iconst 1, 1) := by decide +kernel
theorem dX11_held_57 : decode cX11_held 57 = .ok (.iload_n 2, 1) := by decide +kernel
theorem dX11_held_58 : decode cX11_held 58 = .ok (.invokevirtual 292, 3) := by decide +kernel
theorem dX11_held_61 : decode cX11_held 61 = .ok (.aload_n 0, 1) := by decide +kernel
theorem dX11_held_62 : decode cX11_held 62 = .ok (.iconst 2, 1) := by decide +kernel
theorem dX11_held_63 : decode cX11_held 63 = .ok (.iload_n 3, 1) := by decide +kernel
theorem dX11_held_64 : decode cX11_held 64 = .ok (.invokevirtual 292, 3) := by decide +kernel
theorem dX11_held_67 : decode cX11_held 67 = .ok (.aload_n 0, 1) := by decide +kernel
theorem dX11_held_68 : decode cX11_held 68 = .ok (.iconst 3, 1) := by decide +kernel
theorem dX11_held_69 : decode cX11_held 69 = .ok (.iload 4, 2) := by decide +kernel
theorem dX11_held_71 : decode cX11_held 71 = .ok (.invokevirtual 292, 3) := by decide +kernel
theorem dX11_held_74 : decode cX11_held 74 = .ok (.aload_n 0, 1) := by decide +kernel
theorem dX11_held_75 : decode cX11_held 75 = .ok (.getfield 71, 3) := by decide +kernel
theorem dX11_held_78 : decode cX11_held 78 = .ok (.invokevirtual 286, 3) := by decide +kernel
theorem dX11_held_81 : decode cX11_held 81 = .ok (.ireturn, 1) := by decide +kernel
set_option maxRecDepth 20000 in
theorem sX11_held_0 {P : Option Value → AH → Prop} (h : AH) (r0 : Nat) (x1 : Int32) (x2 : Int32) (x3 : Int32) (x4 : Int32) (hf : (¬ (¬ x1 < 0 ∧ ¬ 24 < x1) → P (some (.int (-2))) h) ∧ ((¬ x1 < 0 ∧ ¬ 24 < x1) → (¬ (¬ x2 < 0 ∧ ¬ 24 < x2) → P (some (.int (-2))) h) ∧ ((¬ x2 < 0 ∧ ¬ 24 < x2) → (¬ (¬ x3 < 0 ∧ ¬ 24 < x3) → P (some (.int (-2))) h) ∧ ((¬ x3 < 0 ∧ ¬ 24 < x3) → ((¬ x4 < 0 ∧ ¬ 24 < x4) → (isO h 11 r0) ∧ ((¬ (gI h r0 8) = 0 → (isO h 0 (gF h r0 10)) ∧ (Call mX0_clear [.ref (gF h r0 10)] h (fun v h8 => v = none ∧ ((isO h8 11 r0) ∧ (Call mX11_markUnlike [.ref r0, .int 0, .int x1] h8 (fun v h10 => v = none ∧ ((isO h10 11 r0) ∧ (Call mX11_markUnlike [.ref r0, .int 1, .int x2] h10 (fun v h12 => v = none ∧ ((isO h12 11 r0) ∧ (Call mX11_markUnlike [.ref r0, .int 2, .int x3] h12 (fun v h14 => v = none ∧ ((isO h14 11 r0) ∧ (Call mX11_markUnlike [.ref r0, .int 3, .int x4] h14 (fun v h16 => v = none ∧ ((isO h16 11 r0) ∧ ((isO h16 0 (gF h16 r0 10)) ∧ (Call mX0_cells [.ref (gF h16 r0 10)] h16 (fun v h19 => ∃ z20 : Int32, v = some (.int z20) ∧ (P (some (.int z20)) h19)))))))))))))))))))) ∧ ((gI h r0 8) = 0 → P (some (.int (-4))) h))) ∧ (¬ (¬ x4 < 0 ∧ ¬ 24 < x4) → P (some (.int (-2))) h))))) : Rr mX11_held 0 0 0 [(0, .ref r0), (1, .int x1), (2, .int x2), (3, .int x3), (4, .int x4)] [] h P := by
  refine R_iload_n dX11_held_0 rfl 1 rfl ?_
  refine R_callS (N := mX11_isShiftCode) (as := [.int x1]) (rest := []) (kc2 := 0) (ks2 := 0) dX11_held_1 lmX11_289 oX11_isShiftCode (Nat.le_of_ble_eq_true rfl) rfl rfl (Nat.le_of_ble_eq_true rfl) rfl rfl (aX11_isShiftCode  ?_)
  refine R_if_eq_b (tgt := 29) dX11_held_4 (by decide) (fun b1 => ?_) (fun b1 => ?_)
  · have hf := hf.1 b1
    refine R_bipush (v := (-2)) dX11_held_29 (by decide) ?_
    exact R_iret dX11_held_31 rfl rfl hf
  · have hf := hf.2 b1
    refine R_iload_n dX11_held_7 rfl 2 rfl ?_
    refine R_callS (N := mX11_isShiftCode) (as := [.int x2]) (rest := []) (kc2 := 0) (ks2 := 0) dX11_held_8 lmX11_289 oX11_isShiftCode (Nat.le_of_ble_eq_true rfl) rfl rfl (Nat.le_of_ble_eq_true rfl) rfl rfl (aX11_isShiftCode  ?_)
    refine R_if_eq_b (tgt := 29) dX11_held_11 (by decide) (fun b2 => ?_) (fun b2 => ?_)
    · have hf := hf.1 b2
      refine R_bipush (v := (-2)) dX11_held_29 (by decide) ?_
      exact R_iret dX11_held_31 rfl rfl hf
    · have hf := hf.2 b2
      refine R_iload_n dX11_held_14 rfl 3 rfl ?_
      refine R_callS (N := mX11_isShiftCode) (as := [.int x3]) (rest := []) (kc2 := 0) (ks2 := 0) dX11_held_15 lmX11_289 oX11_isShiftCode (Nat.le_of_ble_eq_true rfl) rfl rfl (Nat.le_of_ble_eq_true rfl) rfl rfl (aX11_isShiftCode  ?_)
      refine R_if_eq_b (tgt := 29) dX11_held_18 (by decide) (fun b3 => ?_) (fun b3 => ?_)
      · have hf := hf.1 b3
        refine R_bipush (v := (-2)) dX11_held_29 (by decide) ?_
        exact R_iret dX11_held_31 rfl rfl hf
      · have hf := hf.2 b3
        refine R_iload dX11_held_21 4 rfl ?_
        refine R_callS (N := mX11_isShiftCode) (as := [.int x4]) (rest := []) (kc2 := 0) (ks2 := 0) dX11_held_23 lmX11_289 oX11_isShiftCode (Nat.le_of_ble_eq_true rfl) rfl rfl (Nat.le_of_ble_eq_true rfl) rfl rfl (aX11_isShiftCode  ?_)
        refine R_if_ne_b (tgt := 32) dX11_held_26 (by decide) (fun b4 => ?_) (fun b4 => ?_)
        · have hf := hf.1 b4
          refine R_aload_n dX11_held_32 rfl 0 rfl ?_
          obtain ⟨ob5, hf⟩ := hf
          refine G11_8 dX11_held_33 lfX11_283 ob5 ?_
          refine R_if_ne (tgt := 42) dX11_held_36 (by decide) (fun b6 => ?_) (fun b6 => ?_)
          · have hf := hf.1 b6
            refine R_aload_n dX11_held_42 rfl 0 rfl ?_
            refine G11_10 dX11_held_43 lfX11_71 ob5 ?_
            obtain ⟨ob7, hf⟩ := hf
            refine R_callV (ci := 0) (N := mX0_clear) (as := []) (rest := []) (kc2 := 0) (ks2 := 0) dX11_held_46 lmX11_277 oX0_clear (Nat.le_of_ble_eq_true rfl) rfl rfl (Nat.le_of_ble_eq_true rfl) rfl rfl ob7 ok0 (Call.mono hf ?_)
            rintro _ h8 ⟨rfl, hf⟩
            refine R_aload_n dX11_held_49 rfl 0 rfl ?_
            refine R_iconst (v := 0) dX11_held_50 (by decide) ?_
            refine R_iload_n dX11_held_51 rfl 1 rfl ?_
            obtain ⟨ob9, hf⟩ := hf
            refine R_callV (ci := 11) (N := mX11_markUnlike) (as := [.int 0, .int x1]) (rest := []) (kc2 := 0) (ks2 := 0) dX11_held_52 lmX11_292 oX11_markUnlike (Nat.le_of_ble_eq_true rfl) rfl rfl (Nat.le_of_ble_eq_true rfl) rfl rfl ob9 ok11 (Call.mono hf ?_)
            rintro _ h10 ⟨rfl, hf⟩
            refine R_aload_n dX11_held_55 rfl 0 rfl ?_
            refine R_iconst (v := 1) dX11_held_56 (by decide) ?_
            refine R_iload_n dX11_held_57 rfl 2 rfl ?_
            obtain ⟨ob11, hf⟩ := hf
            refine R_callV (ci := 11) (N := mX11_markUnlike) (as := [.int 1, .int x2]) (rest := []) (kc2 := 0) (ks2 := 0) dX11_held_58 lmX11_292 oX11_markUnlike (Nat.le_of_ble_eq_true rfl) rfl rfl (Nat.le_of_ble_eq_true rfl) rfl rfl ob11 ok11 (Call.mono hf ?_)
            rintro _ h12 ⟨rfl, hf⟩
            refine R_aload_n dX11_held_61 rfl 0 rfl ?_
            refine R_iconst (v := 2) dX11_held_62 (by decide) ?_
            refine R_iload_n dX11_held_63 rfl 3 rfl ?_
            obtain ⟨ob13, hf⟩ := hf
            refine R_callV (ci := 11) (N := mX11_markUnlike) (as := [.int 2, .int x3]) (rest := []) (kc2 := 0) (ks2 := 0) dX11_held_64 lmX11_292 oX11_markUnlike (Nat.le_of_ble_eq_true rfl) rfl rfl (Nat.le_of_ble_eq_true rfl) rfl rfl ob13 ok11 (Call.mono hf ?_)
            rintro _ h14 ⟨rfl, hf⟩
            refine R_aload_n dX11_held_67 rfl 0 rfl ?_
            refine R_iconst (v := 3) dX11_held_68 (by decide) ?_
            refine R_iload dX11_held_69 4 rfl ?_
            obtain ⟨ob15, hf⟩ := hf
            refine R_callV (ci := 11) (N := mX11_markUnlike) (as := [.int 3, .int x4]) (rest := []) (kc2 := 0) (ks2 := 0) dX11_held_71 lmX11_292 oX11_markUnlike (Nat.le_of_ble_eq_true rfl) rfl rfl (Nat.le_of_ble_eq_true rfl) rfl rfl ob15 ok11 (Call.mono hf ?_)
            rintro _ h16 ⟨rfl, hf⟩
            refine R_aload_n dX11_held_74 rfl 0 rfl ?_
            obtain ⟨ob17, hf⟩ := hf
            refine G11_10 dX11_held_75 lfX11_71 ob17 ?_
            obtain ⟨ob18, hf⟩ := hf
            refine R_callV (ci := 0) (N := mX0_cells) (as := []) (rest := []) (kc2 := 0) (ks2 := 0) dX11_held_78 lmX11_286 oX0_cells (Nat.le_of_ble_eq_true rfl) rfl rfl (Nat.le_of_ble_eq_true rfl) rfl rfl ob18 ok0 (Call.mono hf ?_)
            rintro _ h19 ⟨z20, rfl, hf⟩
            exact R_iret dX11_held_81 rfl rfl hf
          · have hf := hf.2 b6
            refine R_bipush (v := (-4)) dX11_held_39 (by decide) ?_
            exact R_iret dX11_held_41 rfl rfl hf
        · have hf := hf.2 b4
          refine R_bipush (v := (-2)) dX11_held_29 (by decide) ?_
          exact R_iret dX11_held_31 rfl rfl hf
theorem dX11_seen_0 : decode cX11_seen 0 = .ok (.iload_n 1, 1) := by decide +kernel
theorem dX11_seen_1 : decode cX11_seen 1 = .ok (.iload_n 2, 1) := by decide +kernel
theorem dX11_seen_2 : decode cX11_seen 2 = .ok (.invokestatic 236, 3) := by decide +kernel
theorem dX11_seen_5 : decode cX11_seen 5 = .ok (.ifCond .eq 18, 3) := by decide +kernel
theorem dX11_seen_8 : decode cX11_seen 8 = .ok (.iload_n 3, 1) := by decide +kernel
theorem dX11_seen_9 : decode cX11_seen 9 = .ok (.invokestatic 220, 3) := by decide +kernel
theorem dX11_seen_12 : decode cX11_seen 12 = .ok (.ifCond .eq 11, 3) := by decide +kernel
theorem dX11_seen_15 : decode cX11_seen 15 = .ok (.iload 4, 2) := by decide +kernel
theorem dX11_seen_17 : decode cX11_seen 17 = .ok (.invokestatic 220, 3) := by decide +kernel
theorem dX11_seen_20 : decode cX11_seen 20 = .ok (.ifCond .ne 6, 3) := by decide +kernel
theorem dX11_seen_23 : decode cX11_seen 23 = .ok (.bipush (-2), 2) := by decide +kernel
theorem dX11_seen_25 : decode cX11_seen 25 = .ok (.ireturn, 1) := by decide +kernel
theorem dX11_seen_26 : decode cX11_seen 26 = .ok (.iload 5, 2) := by decide +kernel
theorem dX11_seen_28 : decode cX11_seen 28 = .ok (.invokestatic 240, 3) := by decide +kernel
theorem dX11_seen_31 : decode cX11_seen 31 = .ok (.ifCond .eq 22, 3) := by decide +kernel
theorem dX11_seen_34 : decode cX11_seen 34 = .ok (.iload 6, 2) := by decide +kernel
theorem dX11_seen_36 : decode cX11_seen 36 = .ok (.invokestatic 240, 3) := by decide +kernel
theorem dX11_seen_39 : decode cX11_seen 39 = .ok (.ifCond .eq 14, 3) := by decide +kernel
theorem dX11_seen_42 : decode cX11_seen 42 = .ok (.iload 7, 2) := by decide +kernel
theorem dX11_seen_44 : decode cX11_seen 44 = .ok (.ifCond .lt 9, 3) := by decide +kernel
theorem dX11_seen_47 : decode cX11_seen 47 = .ok (.iload 7, 2) := by decide +kernel
theorem dX11_seen_49 : decode cX11_seen 49 = .ok (.iconst 2, 1) := by decide +kernel
theorem dX11_seen_50 : decode cX11_seen 50 = .ok (.if_icmp .le 6, 3) := by decide +kernel
theorem dX11_seen_53 : decode cX11_seen 53 = .ok (.bipush (-2), 2) := by decide +kernel
theorem dX11_seen_55 : decode cX11_seen 55 = .ok (.ireturn, 1) := by decide +kernel
theorem dX11_seen_56 : decode cX11_seen 56 = .ok (.aload_n 0, 1) := by decide +kernel
theorem dX11_seen_57 : decode cX11_seen 57 = .ok (.getfield 52, 3) := by decide +kernel
theorem dX11_seen_60 : decode cX11_seen 60 = .ok (.aload_n 0, 1) := by decide +kernel
theorem dX11_seen_61 : decode cX11_seen 61 = .ok (.getfield 24, 3) := by decide +kernel
theorem dX11_seen_64 : decode cX11_seen 64 = .ok (.iload_n 1, 1) := by decide +kernel
theorem dX11_seen_65 : decode cX11_seen 65 = .ok (.iload_n 2, 1) := by decide +kernel
theorem dX11_seen_66 : decode cX11_seen 66 = .ok (.iload_n 3, 1) := by decide +kernel
theorem dX11_seen_67 : decode cX11_seen 67 = .ok (.iload 4, 2) := by decide +kernel
theorem dX11_seen_69 : decode cX11_seen 69 = .ok (.invokevirtual 243, 3) := by decide +kernel
theorem dX11_seen_72 : decode cX11_seen 72 = .ok (.aload_n 0, 1) := by decide +kernel
theorem dX11_seen_73 : decode cX11_seen 73 = .ok (.getfield 52, 3) := by decide +kernel
theorem dX11_seen_76 : decode cX11_seen 76 = .ok (.iload 5, 2) := by decide +kernel
theorem dX11_seen_78 : decode cX11_seen 78 = .ok (.iload 6, 2) := by decide +kernel
theorem dX11_seen_80 : decode cX11_seen 80 = .ok (.invokevirtual 247, 3) := by decide +kernel
theorem dX11_seen_83 : decode cX11_seen 83 = .ok (.istore 8, 2) := by decide +kernel
theorem dX11_seen_85 : decode cX11_seen 85 = .ok (.iload 7, 2) := by decide +kernel
theorem dX11_seen_87 : decode cX11_seen 87 = .ok (.lookupswitch 41 #[(0, 25), (1, 33)], 25) := by decide +kernel
theorem dX11_seen_112 : decode cX11_seen 112 = .ok (.aload_n 0, 1) := by decide +kernel
theorem dX11_seen_113 : decode cX11_seen 113 = .ok (.getfield 52, 3) := by decide +kernel
theorem dX11_seen_116 : decode cX11_seen 116 = .ok (.getfield 251, 3) := by decide +kernel
theorem dX11_seen_119 : decode cX11_seen 119 = .ok (.ireturn, 1) := by decide +kernel
theorem dX11_seen_120 : decode cX11_seen 120 = .ok (.aload_n 0, 1) := by decide +kernel
theorem dX11_seen_121 : decode cX11_seen 121 = .ok (.getfield 52, 3) := by decide +kernel
theorem dX11_seen_124 : decode cX11_seen 124 = .ok (.getfield 254, 3) := by decide +kernel
theorem dX11_seen_127 : decode cX11_seen 127 = .ok (.ireturn, 1) := by decide +kernel
theorem dX11_seen_128 : decode cX11_seen 128 = .ok (.iload 8, 2) := by decide +kernel
theorem dX11_seen_130 : decode cX11_seen 130 = .ok (.ireturn, 1) := by decide +kernel
set_option maxRecDepth 20000 in
theorem sX11_seen_0 {P : Option Value → AH → Prop} (h : AH) (r0 : Nat) (x1 : Int32) (x2 : Int32) (x3 : Int32) (x4 : Int32) (x5 : Int32) (x6 : Int32) (x7 : Int32) (hf : (¬ ((¬ x1 < 0 ∧ ¬ 4 ≤ x1) ∧ (¬ x2 < 0 ∧ ¬ 4 ≤ x2) ∧ ¬ x1 = x2) → P (some (.int (-2))) h) ∧ (((¬ x1 < 0 ∧ ¬ 4 ≤ x1) ∧ (¬ x2 < 0 ∧ ¬ 4 ≤ x2) ∧ ¬ x1 = x2) → (¬ (¬ x3 < (-2) ∧ ¬ 2 < x3) → P (some (.int (-2))) h) ∧ ((¬ x3 < (-2) ∧ ¬ 2 < x3) → ((¬ x4 < (-2) ∧ ¬ 2 < x4) → (¬ (¬ x5 < (-2) ∧ ¬ 2 < x5) → P (some (.int (-2))) h) ∧ ((¬ x5 < (-2) ∧ ¬ 2 < x5) → (¬ (¬ x6 < (-2) ∧ ¬ 2 < x6) → P (some (.int (-2))) h) ∧ ((¬ x6 < (-2) ∧ ¬ 2 < x6) → (x7 < 0 → P (some (.int (-2))) h) ∧ (¬ x7 < 0 → (x7 ≤ 2 → (isO h 11 r0) ∧ ((isO h 5 (gF h r0 6)) ∧ (Call mX5_lay [.ref (gF h r0 6), .ref (gF h r0 2), .int x1, .int x2, .int x3, .int x4] h (fun v h10 => v = none ∧ ((isO h10 11 r0) ∧ ((isO h10 5 (gF h10 r0 6)) ∧ (Call mX5_slip [.ref (gF h10 r0 6), .int x5, .int x6] h10 (fun v h13 => ∃ z14 : Int32, v = some (.int z14) ∧ ((x7 = 0 → (isO h13 11 r0) ∧ ((isO h13 5 (gF h13 r0 6)) ∧ (P (some (.int (gI h13 (gF h13 r0 6) 7))) h13))) ∧ (¬ x7 = 0 → (x7 = 1 → (isO h13 11 r0) ∧ ((isO h13 5 (gF h13 r0 6)) ∧ (P (some (.int (gI h13 (gF h13 r0 6) 8))) h13))) ∧ (¬ x7 = 1 → P (some (.int z14)) h13))))))))))) ∧ (¬ x7 ≤ 2 → P (some (.int (-2))) h))))) ∧ (¬ (¬ x4 < (-2) ∧ ¬ 2 < x4) → P (some (.int (-2))) h)))) : Rr mX11_seen 0 0 0 [(0, .ref r0), (1, .int x1), (2, .int x2), (3, .int x3), (4, .int x4), (5, .int x5), (6, .int x6), (7, .int x7)] [] h P := by
  refine R_iload_n dX11_seen_0 rfl 1 rfl ?_
  refine R_iload_n dX11_seen_1 rfl 2 rfl ?_
  refine R_callS (N := mX11_areUnlikeInks) (as := [.int x1, .int x2]) (rest := []) (kc2 := 0) (ks2 := 0) dX11_seen_2 lmX11_236 oX11_areUnlikeInks (Nat.le_of_ble_eq_true rfl) rfl rfl (Nat.le_of_ble_eq_true rfl) rfl rfl (aX11_areUnlikeInks  ?_)
  refine R_if_eq_b (tgt := 23) dX11_seen_5 (by decide) (fun b1 => ?_) (fun b1 => ?_)
  · have hf := hf.1 b1
    refine R_bipush (v := (-2)) dX11_seen_23 (by decide) ?_
    exact R_iret dX11_seen_25 rfl rfl hf
  · have hf := hf.2 b1
    refine R_iload_n dX11_seen_8 rfl 3 rfl ?_
    refine R_callS (N := mX11_isSpread) (as := [.int x3]) (rest := []) (kc2 := 0) (ks2 := 0) dX11_seen_9 lmX11_220 oX11_isSpread (Nat.le_of_ble_eq_true rfl) rfl rfl (Nat.le_of_ble_eq_true rfl) rfl rfl (aX11_isSpread  ?_)
    refine R_if_eq_b (tgt := 23) dX11_seen_12 (by decide) (fun b2 => ?_) (fun b2 => ?_)
    · have hf := hf.1 b2
      refine R_bipush (v := (-2)) dX11_seen_23 (by decide) ?_
      exact R_iret dX11_seen_25 rfl rfl hf
    · have hf := hf.2 b2
      refine R_iload dX11_seen_15 4 rfl ?_
      refine R_callS (N := mX11_isSpread) (as := [.int x4]) (rest := []) (kc2 := 0) (ks2 := 0) dX11_seen_17 lmX11_220 oX11_isSpread (Nat.le_of_ble_eq_true rfl) rfl rfl (Nat.le_of_ble_eq_true rfl) rfl rfl (aX11_isSpread  ?_)
      refine R_if_ne_b (tgt := 26) dX11_seen_20 (by decide) (fun b3 => ?_) (fun b3 => ?_)
      · have hf := hf.1 b3
        refine R_iload dX11_seen_26 5 rfl ?_
        refine R_callS (N := mX0_isShift) (as := [.int x5]) (rest := []) (kc2 := 0) (ks2 := 0) dX11_seen_28 lmX11_240 oX0_isShift (Nat.le_of_ble_eq_true rfl) rfl rfl (Nat.le_of_ble_eq_true rfl) rfl rfl (aX0_isShift  ?_)
        refine R_if_eq_b (tgt := 53) dX11_seen_31 (by decide) (fun b4 => ?_) (fun b4 => ?_)
        · have hf := hf.1 b4
          refine R_bipush (v := (-2)) dX11_seen_53 (by decide) ?_
          exact R_iret dX11_seen_55 rfl rfl hf
        · have hf := hf.2 b4
          refine R_iload dX11_seen_34 6 rfl ?_
          refine R_callS (N := mX0_isShift) (as := [.int x6]) (rest := []) (kc2 := 0) (ks2 := 0) dX11_seen_36 lmX11_240 oX0_isShift (Nat.le_of_ble_eq_true rfl) rfl rfl (Nat.le_of_ble_eq_true rfl) rfl rfl (aX0_isShift  ?_)
          refine R_if_eq_b (tgt := 53) dX11_seen_39 (by decide) (fun b5 => ?_) (fun b5 => ?_)
          · have hf := hf.1 b5
            refine R_bipush (v := (-2)) dX11_seen_53 (by decide) ?_
            exact R_iret dX11_seen_55 rfl rfl hf
          · have hf := hf.2 b5
            refine R_iload dX11_seen_42 7 rfl ?_
            refine R_if_lt (tgt := 53) dX11_seen_44 (by decide) (fun b6 => ?_) (fun b6 => ?_)
            · have hf := hf.1 b6
              refine R_bipush (v := (-2)) dX11_seen_53 (by decide) ?_
              exact R_iret dX11_seen_55 rfl rfl hf
            · have hf := hf.2 b6
              refine R_iload dX11_seen_47 7 rfl ?_
              refine R_iconst (v := 2) dX11_seen_49 (by decide) ?_
              refine R_icmp_le (tgt := 56) dX11_seen_50 (by decide) (fun b7 => ?_) (fun b7 => ?_)
              · have hf := hf.1 b7
                refine R_aload_n dX11_seen_56 rfl 0 rfl ?_
                obtain ⟨ob8, hf⟩ := hf
                refine G11_6 dX11_seen_57 lfX11_52 ob8 ?_
                refine R_aload_n dX11_seen_60 rfl 0 rfl ?_
                refine G11_2 dX11_seen_61 lfX11_24 ob8 ?_
                refine R_iload_n dX11_seen_64 rfl 1 rfl ?_
                refine R_iload_n dX11_seen_65 rfl 2 rfl ?_
                refine R_iload_n dX11_seen_66 rfl 3 rfl ?_
                refine R_iload dX11_seen_67 4 rfl ?_
                obtain ⟨ob9, hf⟩ := hf
                refine R_callV (ci := 5) (N := mX5_lay) (as := [.ref (gF h r0 2), .int x1, .int x2, .int x3, .int x4]) (rest := []) (kc2 := 0) (ks2 := 0) dX11_seen_69 lmX11_243 oX5_lay (Nat.le_of_ble_eq_true rfl) rfl rfl (Nat.le_of_ble_eq_true rfl) rfl rfl ob9 ok5 (Call.mono hf ?_)
                rintro _ h10 ⟨rfl, hf⟩
                refine R_aload_n dX11_seen_72 rfl 0 rfl ?_
                obtain ⟨ob11, hf⟩ := hf
                refine G11_6 dX11_seen_73 lfX11_52 ob11 ?_
                refine R_iload dX11_seen_76 5 rfl ?_
                refine R_iload dX11_seen_78 6 rfl ?_
                obtain ⟨ob12, hf⟩ := hf
                refine R_callV (ci := 5) (N := mX5_slip) (as := [.int x5, .int x6]) (rest := []) (kc2 := 0) (ks2 := 0) dX11_seen_80 lmX11_247 oX5_slip (Nat.le_of_ble_eq_true rfl) rfl rfl (Nat.le_of_ble_eq_true rfl) rfl rfl ob12 ok5 (Call.mono hf ?_)
                rintro _ h13 ⟨z14, rfl, hf⟩
                refine R_istore dX11_seen_83 (by decide) rfl ?_
                refine R_iload dX11_seen_85 8 rfl ?_
                by_cases b15 : x7 = 0
                · have hf := hf.1 b15
                  refine R_lookup (off := 25) (tgt := 112) dX11_seen_87 (by decide) (by rw [b15]; decide) (by decide) ?_
                  refine R_aload_n dX11_seen_112 rfl 1 rfl ?_
                  obtain ⟨ob16, hf⟩ := hf
                  refine G11_6 dX11_seen_113 lfX11_52 ob16 ?_
                  obtain ⟨ob17, hf⟩ := hf
                  refine G5_7 dX11_seen_116 lfX11_251 ob17 ?_
                  exact R_iret dX11_seen_119 rfl rfl hf
                have hf := hf.2 b15
                by_cases b18 : x7 = 1
                · have hf := hf.1 b18
                  refine R_lookup (off := 33) (tgt := 120) dX11_seen_87 (by decide) (by rw [b18]; decide) (by decide) ?_
                  refine R_aload_n dX11_seen_120 rfl 1 rfl ?_
                  obtain ⟨ob19, hf⟩ := hf
                  refine G11_6 dX11_seen_121 lfX11_52 ob19 ?_
                  obtain ⟨ob20, hf⟩ := hf
                  refine G5_8 dX11_seen_124 lfX11_254 ob20 ?_
                  exact R_iret dX11_seen_127 rfl rfl hf
                have hf := hf.2 b18
                refine R_lookup (off := 41) (tgt := 128) dX11_seen_87 (by decide) (by rw [lv_osw b15 (by decide)]; rw [lv_osw b18 (by decide)]; rfl) (by decide) ?_
                refine R_iload dX11_seen_128 0 rfl ?_
                exact R_iret dX11_seen_130 rfl rfl hf
              · have hf := hf.2 b7
                refine R_bipush (v := (-2)) dX11_seen_53 (by decide) ?_
                exact R_iret dX11_seen_55 rfl rfl hf
      · have hf := hf.2 b3
        refine R_bipush (v := (-2)) dX11_seen_23 (by decide) ?_
        exact R_iret dX11_seen_25 rfl rfl hf
theorem dX11_sum_0 : decode cX11_sum 0 = .ok (.iload_n 1, 1) := by decide +kernel
theorem dX11_sum_1 : decode cX11_sum 1 = .ok (.ifCond .lt 10, 3) := by decide +kernel
theorem dX11_sum_4 : decode cX11_sum 4 = .ok (.iload_n 1, 1) := by decide +kernel
theorem dX11_sum_5 : decode cX11_sum 5 = .ok (.sipush 9999, 3) := by decide +kernel
theorem dX11_sum_8 : decode cX11_sum 8 = .ok (.if_icmp .le 6, 3) := by decide +kernel
theorem dX11_sum_11 : decode cX11_sum 11 = .ok (.bipush (-2), 2) := by decide +kernel
theorem dX11_sum_13 : decode cX11_sum 13 = .ok (.ireturn, 1) := by decide +kernel
theorem dX11_sum_14 : decode cX11_sum 14 = .ok (.aload_n 0, 1) := by decide +kernel
theorem dX11_sum_15 : decode cX11_sum 15 = .ok (.iload_n 1, 1) := by decide +kernel
theorem dX11_sum_16 : decode cX11_sum 16 = .ok (.sipush 1000, 3) := by decide +kernel
theorem dX11_sum_19 : decode cX11_sum 19 = .ok (.idiv, 1) := by decide +kernel
theorem dX11_sum_20 : decode cX11_sum 20 = .ok (.iload_n 1, 1) := by decide +kernel
theorem dX11_sum_21 : decode cX11_sum 21 = .ok (.bipush 100, 2) := by decide +kernel
theorem dX11_sum_23 : decode cX11_sum 23 = .ok (.idiv, 1) := by decide +kernel
theorem dX11_sum_24 : decode cX11_sum 24 = .ok (.bipush 10, 2) := by decide +kernel
theorem dX11_sum_26 : decode cX11_sum 26 = .ok (.irem, 1) := by decide +kernel
theorem dX11_sum_27 : decode cX11_sum 27 = .ok (.iload_n 1, 1) := by decide +kernel
theorem dX11_sum_28 : decode cX11_sum 28 = .ok (.bipush 10, 2) := by decide +kernel
theorem dX11_sum_30 : decode cX11_sum 30 = .ok (.idiv, 1) := by decide +kernel
theorem dX11_sum_31 : decode cX11_sum 31 = .ok (.bipush 10, 2) := by decide +kernel
theorem dX11_sum_33 : decode cX11_sum 33 = .ok (.irem, 1) := by decide +kernel
theorem dX11_sum_34 : decode cX11_sum 34 = .ok (.iload_n 1, 1) := by decide +kernel
theorem dX11_sum_35 : decode cX11_sum 35 = .ok (.bipush 10, 2) := by decide +kernel
theorem dX11_sum_37 : decode cX11_sum 37 = .ok (.irem, 1) := by decide +kernel
theorem dX11_sum_38 : decode cX11_sum 38 = .ok (.invokevirtual 382, 3) := by decide +kernel
theorem dX11_sum_41 : decode cX11_sum 41 = .ok (.ireturn, 1) := by decide +kernel
set_option maxRecDepth 20000 in
theorem sX11_sum_0 {P : Option Value → AH → Prop} (h : AH) (r0 : Nat) (x1 : Int32) (hf : (x1 < 0 → P (some (.int (-2))) h) ∧ (¬ x1 < 0 → (x1 ≤ 9999 → (isO h 11 r0) ∧ (Call mX11_sumOf [.ref r0, .int (x1 / 1000), .int ((x1 / 100) % 10), .int ((x1 / 10) % 10), .int (x1 % 10)] h (fun v h4 => ∃ z5 : Int32, v = some (.int z5) ∧ (P (some (.int z5)) h4)))) ∧ (¬ x1 ≤ 9999 → P (some (.int (-2))) h))) : Rr mX11_sum 0 0 0 [(0, .ref r0), (1, .int x1)] [] h P := by
  refine R_iload_n dX11_sum_0 rfl 1 rfl ?_
  refine R_if_lt (tgt := 11) dX11_sum_1 (by decide) (fun b1 => ?_) (fun b1 => ?_)
  · have hf := hf.1 b1
    refine R_bipush (v := (-2)) dX11_sum_11 (by decide) ?_
    exact R_iret dX11_sum_13 rfl rfl hf
  · have hf := hf.2 b1
    refine R_iload_n dX11_sum_4 rfl 1 rfl ?_
    refine R_sipush (v := 9999) dX11_sum_5 (by decide) ?_
    refine R_icmp_le (tgt := 14) dX11_sum_8 (by decide) (fun b2 => ?_) (fun b2 => ?_)
    · have hf := hf.1 b2
      refine R_aload_n dX11_sum_14 rfl 0 rfl ?_
      refine R_iload_n dX11_sum_15 rfl 1 rfl ?_
      refine R_sipush (v := 1000) dX11_sum_16 (by decide) ?_
      refine R_idiv dX11_sum_19 (by decide) ?_
      refine R_iload_n dX11_sum_20 rfl 1 rfl ?_
      refine R_bipush (v := 100) dX11_sum_21 (by decide) ?_
      refine R_idiv dX11_sum_23 (by decide) ?_
      refine R_bipush (v := 10) dX11_sum_24 (by decide) ?_
      refine R_irem dX11_sum_26 (by decide) ?_
      refine R_iload_n dX11_sum_27 rfl 1 rfl ?_
      refine R_bipush (v := 10) dX11_sum_28 (by decide) ?_
      refine R_idiv dX11_sum_30 (by decide) ?_
      refine R_bipush (v := 10) dX11_sum_31 (by decide) ?_
      refine R_irem dX11_sum_33 (by decide) ?_
      refine R_iload_n dX11_sum_34 rfl 1 rfl ?_
      refine R_bipush (v := 10) dX11_sum_35 (by decide) ?_
      refine R_irem dX11_sum_37 (by decide) ?_
      obtain ⟨ob3, hf⟩ := hf
      refine R_callV (ci := 11) (N := mX11_sumOf) (as := [.int (x1 / 1000), .int ((x1 / 100) % 10), .int ((x1 / 10) % 10), .int (x1 % 10)]) (rest := []) (kc2 := 0) (ks2 := 0) dX11_sum_38 lmX11_382 oX11_sumOf (Nat.le_of_ble_eq_true rfl) rfl rfl (Nat.le_of_ble_eq_true rfl) rfl rfl ob3 ok11 (Call.mono hf ?_)
      rintro _ h4 ⟨z5, rfl, hf⟩
      exact R_iret dX11_sum_41 rfl rfl hf
    · have hf := hf.2 b2
      refine R_bipush (v := (-2)) dX11_sum_11 (by decide) ?_
      exact R_iret dX11_sum_13 rfl rfl hf
