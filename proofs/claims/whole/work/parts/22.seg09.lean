theorem dX12_keyAt_0 : decode cX12_keyAt 0 = .ok (.iconst 0, 1) := by decide +kernel
theorem dX12_keyAt_1 : decode cX12_keyAt 1 = .ok (.istore_n 3, 1) := by decide +kernel
theorem dX12_keyAt_2 : decode cX12_keyAt 2 = .ok (.iconst 0, 1) := by decide +kernel
theorem dX12_keyAt_3 : decode cX12_keyAt 3 = .ok (.istore 4, 2) := by decide +kernel
theorem dX12_keyAt_5 : decode cX12_keyAt 5 = .ok (.iconst 0, 1) := by decide +kernel
theorem dX12_keyAt_6 : decode cX12_keyAt 6 = .ok (.istore 5, 2) := by decide +kernel
theorem dX12_keyAt_8 : decode cX12_keyAt 8 = .ok (.iload 5, 2) := by decide +kernel
theorem dX12_keyAt_10 : decode cX12_keyAt 10 = .ok (.ldc 127, 2) := by decide +kernel
theorem dX12_keyAt_12 : decode cX12_keyAt 12 = .ok (.invokevirtual 129, 3) := by decide +kernel
theorem dX12_keyAt_15 : decode cX12_keyAt 15 = .ok (.if_icmp .ge 104, 3) := by decide +kernel
theorem dX12_keyAt_18 : decode cX12_keyAt 18 = .ok (.ldc 127, 2) := by decide +kernel
theorem dX12_keyAt_20 : decode cX12_keyAt 20 = .ok (.iload 5, 2) := by decide +kernel
theorem dX12_keyAt_22 : decode cX12_keyAt 22 = .ok (.invokevirtual 135, 3) := by decide +kernel
theorem dX12_keyAt_25 : decode cX12_keyAt 25 = .ok (.bipush 32, 2) := by decide +kernel
theorem dX12_keyAt_27 : decode cX12_keyAt 27 = .ok (.if_icmp .eq 6, 3) := by decide +kernel
theorem dX12_keyAt_30 : decode cX12_keyAt 30 = .ok (.goto 83, 3) := by decide +kernel
theorem dX12_keyAt_33 : decode cX12_keyAt 33 = .ok (.iload 5, 2) := by decide +kernel
theorem dX12_keyAt_35 : decode cX12_keyAt 35 = .ok (.iload 4, 2) := by decide +kernel
theorem dX12_keyAt_37 : decode cX12_keyAt 37 = .ok (.isub, 1) := by decide +kernel
theorem dX12_keyAt_38 : decode cX12_keyAt 38 = .ok (.iload_n 2, 1) := by decide +kernel
theorem dX12_keyAt_39 : decode cX12_keyAt 39 = .ok (.if_icmp .ne 7, 3) := by decide +kernel
theorem dX12_keyAt_42 : decode cX12_keyAt 42 = .ok (.iconst 1, 1) := by decide +kernel
theorem dX12_keyAt_43 : decode cX12_keyAt 43 = .ok (.goto 4, 3) := by decide +kernel
theorem dX12_keyAt_46 : decode cX12_keyAt 46 = .ok (.iconst 0, 1) := by decide +kernel
theorem dX12_keyAt_47 : decode cX12_keyAt 47 = .ok (.istore 6, 2) := by decide +kernel
theorem dX12_keyAt_49 : decode cX12_keyAt 49 = .ok (.iconst 0, 1) := by decide +kernel
theorem dX12_keyAt_50 : decode cX12_keyAt 50 = .ok (.istore 7, 2) := by decide +kernel
theorem dX12_keyAt_52 : decode cX12_keyAt 52 = .ok (.iload 7, 2) := by decide +kernel
theorem dX12_keyAt_54 : decode cX12_keyAt 54 = .ok (.iload_n 2, 1) := by decide +kernel
theorem dX12_keyAt_55 : decode cX12_keyAt 55 = .ok (.if_icmp .ge 42, 3) := by decide +kernel
theorem dX12_keyAt_58 : decode cX12_keyAt 58 = .ok (.iload 6, 2) := by decide +kernel
theorem dX12_keyAt_60 : decode cX12_keyAt 60 = .ok (.ifCond .eq 37, 3) := by decide +kernel
theorem dX12_keyAt_63 : decode cX12_keyAt 63 = .ok (.ldc 127, 2) := by decide +kernel
theorem dX12_keyAt_65 : decode cX12_keyAt 65 = .ok (.iload 4, 2) := by decide +kernel
theorem dX12_keyAt_67 : decode cX12_keyAt 67 = .ok (.iload 7, 2) := by decide +kernel
theorem dX12_keyAt_69 : decode cX12_keyAt 69 = .ok (.iadd, 1) := by decide +kernel
theorem dX12_keyAt_70 : decode cX12_keyAt 70 = .ok (.invokevirtual 135, 3) := by decide +kernel
theorem dX12_keyAt_73 : decode cX12_keyAt 73 = .ok (.aload_n 0, 1) := by decide +kernel
theorem dX12_keyAt_74 : decode cX12_keyAt 74 = .ok (.iload_n 1, 1) := by decide +kernel
theorem dX12_keyAt_75 : decode cX12_keyAt 75 = .ok (.iload 7, 2) := by decide +kernel
theorem dX12_keyAt_77 : decode cX12_keyAt 77 = .ok (.iadd, 1) := by decide +kernel
theorem dX12_keyAt_78 : decode cX12_keyAt 78 = .ok (.invokevirtual 139, 3) := by decide +kernel
theorem dX12_keyAt_81 : decode cX12_keyAt 81 = .ok (.if_icmp .ne 7, 3) := by decide +kernel
theorem dX12_keyAt_84 : decode cX12_keyAt 84 = .ok (.iconst 1, 1) := by decide +kernel
theorem dX12_keyAt_85 : decode cX12_keyAt 85 = .ok (.goto 4, 3) := by decide +kernel
theorem dX12_keyAt_88 : decode cX12_keyAt 88 = .ok (.iconst 0, 1) := by decide +kernel
theorem dX12_keyAt_89 : decode cX12_keyAt 89 = .ok (.istore 6, 2) := by decide +kernel
theorem dX12_keyAt_91 : decode cX12_keyAt 91 = .ok (.iinc 7 1, 3) := by decide +kernel
theorem dX12_keyAt_94 : decode cX12_keyAt 94 = .ok (.goto (-42), 3) := by decide +kernel
theorem dX12_keyAt_97 : decode cX12_keyAt 97 = .ok (.iload 6, 2) := by decide +kernel
theorem dX12_keyAt_99 : decode cX12_keyAt 99 = .ok (.ifCond .eq 5, 3) := by decide +kernel
theorem dX12_keyAt_102 : decode cX12_keyAt 102 = .ok (.iload_n 3, 1) := by decide +kernel
theorem dX12_keyAt_103 : decode cX12_keyAt 103 = .ok (.ireturn, 1) := by decide +kernel
theorem dX12_keyAt_104 : decode cX12_keyAt 104 = .ok (.iinc 3 1, 3) := by decide +kernel
theorem dX12_keyAt_107 : decode cX12_keyAt 107 = .ok (.iload 5, 2) := by decide +kernel
theorem dX12_keyAt_109 : decode cX12_keyAt 109 = .ok (.iconst 1, 1) := by decide +kernel
theorem dX12_keyAt_110 : decode cX12_keyAt 110 = .ok (.iadd, 1) := by decide +kernel
theorem dX12_keyAt_111 : decode cX12_keyAt 111 = .ok (.istore 4, 2) := by decide +kernel
theorem dX12_keyAt_113 : decode cX12_keyAt 113 = .ok (.iinc 5 1, 3) := by decide +kernel
theorem dX12_keyAt_116 : decode cX12_keyAt 116 = .ok (.goto (-108), 3) := by decide +kernel
theorem dX12_keyAt_119 : decode cX12_keyAt 119 = .ok (.iconst (-1), 1) := by decide +kernel
theorem dX12_keyAt_120 : decode cX12_keyAt 120 = .ok (.ireturn, 1) := by decide +kernel
set_option maxRecDepth 20000 in
theorem sX12_keyAt_0 {P : Option Value → AH → Prop} (h : AH) (r0 : Nat) (x1 : Int32) (x2 : Int32) (hf : Rr mX12_keyAt 0 0 8 [(0, .ref r0), (1, .int x1), (2, .int x2), (3, .int 0), (4, .int 0), (5, .int 0)] [] h P) : Rr mX12_keyAt 0 0 0 [(0, .ref r0), (1, .int x1), (2, .int x2)] [] h P := by
  refine R_iconst (v := 0) dX12_keyAt_0 (by decide) ?_
  refine R_istore_n dX12_keyAt_1 rfl (by decide) rfl ?_
  refine R_iconst (v := 0) dX12_keyAt_2 (by decide) ?_
  refine R_istore dX12_keyAt_3 (by decide) rfl ?_
  refine R_iconst (v := 0) dX12_keyAt_5 (by decide) ?_
  refine R_istore dX12_keyAt_6 (by decide) rfl ?_
  exact R_sub [3, 4, 5, 2, 1, 0] rfl hf
set_option maxRecDepth 20000 in
theorem sX12_keyAt_8 {P : Option Value → AH → Prop} (h : AH) (r0 : Nat) (x1 : Int32) (x2 : Int32) (x3 : Int32) (x4 : Int32) (x5 : Int32) (hf : Call mJ0_length_8abf5 [.ref (1000 + 2)] h (fun v h1 => ∃ z2 : Int32, v = some (.int z2) ∧ ((z2 ≤ x5 → P (some (.int (-1))) h1) ∧ (¬ z2 ≤ x5 → Call mJ0_charAt_5068e [.ref (1000 + 2), .int x5] h1 (fun v h4 => ∃ z5 : Int32, v = some (.int z5) ∧ ((z5 = 32 → Rr mX12_keyAt 0 0 52 [(0, .ref r0), (1, .int x1), (2, .int x2), (3, .int x3), (4, .int x4), (5, .int x5), (6, .int (bi ((x5 - x4) = x2))), (7, .int 0)] [] h4 P) ∧ (¬ z5 = 32 → Rr mX12_keyAt 0 0 8 [(0, .ref r0), (1, .int x1), (2, .int x2), (3, .int x3), (4, .int x4), (5, .int (x5 + 1))] [] h4 P))))))) : Rr mX12_keyAt 0 0 8 [(0, .ref r0), (1, .int x1), (2, .int x2), (3, .int x3), (4, .int x4), (5, .int x5)] [] h P := by
  refine R_iload dX12_keyAt_8 5 rfl ?_
  refine R_ldcS 2 dX12_keyAt_10 rfl ?_
  refine R_callStr (j := 2) (N := mJ0_length_8abf5) (as := []) (rest := [.int x5]) (kc2 := 0) (ks2 := 0) dX12_keyAt_12 lmX12_129 oJ0_length_8abf5 rfl (Nat.le_of_ble_eq_true rfl) rfl rfl (Nat.le_of_ble_eq_true rfl) rfl rfl (by decide) (Call.mono hf ?_)
  rintro _ h1 ⟨z2, rfl, hf⟩
  refine R_icmp_ge (tgt := 119) dX12_keyAt_15 (by decide) (fun b3 => ?_) (fun b3 => ?_)
  · have hf := hf.1 b3
    refine R_iconst (v := (-1)) dX12_keyAt_119 (by decide) ?_
    exact R_iret dX12_keyAt_120 rfl rfl hf
  · have hf := hf.2 b3
    refine R_ldcS 2 dX12_keyAt_18 rfl ?_
    refine R_iload dX12_keyAt_20 5 rfl ?_
    refine R_callStr (j := 2) (N := mJ0_charAt_5068e) (as := [.int x5]) (rest := []) (kc2 := 0) (ks2 := 0) dX12_keyAt_22 lmX12_135 oJ0_charAt_5068e rfl (Nat.le_of_ble_eq_true rfl) rfl rfl (Nat.le_of_ble_eq_true rfl) rfl rfl (by decide) (Call.mono hf ?_)
    rintro _ h4 ⟨z5, rfl, hf⟩
    refine R_bipush (v := 32) dX12_keyAt_25 (by decide) ?_
    refine R_icmp_eq (tgt := 33) dX12_keyAt_27 (by decide) (fun b6 => ?_) (fun b6 => ?_)
    · have hf := hf.1 b6
      refine R_iload dX12_keyAt_33 5 rfl ?_
      refine R_iload dX12_keyAt_35 4 rfl ?_
      refine R_isub dX12_keyAt_37 ?_
      refine R_iload_n dX12_keyAt_38 rfl 2 rfl ?_
      have key :  Rr mX12_keyAt 0 0 47 [(0, .ref r0), (1, .int x1), (2, .int x2), (3, .int x3), (4, .int x4), (5, .int x5)] [.int (bi ((x5 - x4) = x2))] h4 P := by
        refine R_istore dX12_keyAt_47 (by decide) rfl ?_
        refine R_iconst (v := 0) dX12_keyAt_49 (by decide) ?_
        refine R_istore dX12_keyAt_50 (by decide) rfl ?_
        exact R_sub [2, 3, 4, 5, 6, 7, 1, 0] rfl hf
      refine R_icmp_ne (tgt := 46) dX12_keyAt_39 (by decide) (fun b7 => ?_) (fun b7 => ?_)
      · refine R_iconst (v := 0) dX12_keyAt_46 (by decide) ?_
        have kb := key
        rw [show bi ((x5 - x4) = x2) = 0 from by simp only [bi, b7, false_and, and_false, true_and, and_true, not_true_eq_false, not_false_eq_true, if_true, if_false, true_or, or_true, false_or, or_false, reduceIte]] at kb
        exact R_sub [0, 1, 2, 3, 4, 5] rfl kb
      · refine R_iconst (v := 1) dX12_keyAt_42 (by decide) ?_
        refine R_goto (tgt := 47) dX12_keyAt_43 (by decide) ?_
        have kb := key
        rw [show bi ((x5 - x4) = x2) = 1 from by simp only [bi, b7, false_and, and_false, true_and, and_true, not_true_eq_false, not_false_eq_true, if_true, if_false, true_or, or_true, false_or, or_false, reduceIte]] at kb
        exact R_sub [0, 1, 2, 3, 4, 5] rfl kb
    · have hf := hf.2 b6
      refine R_goto (tgt := 113) dX12_keyAt_30 (by decide) ?_
      refine R_iinc (v := x5 + 1) dX12_keyAt_113 5 rfl rfl (by decide) rfl ?_
      refine R_goto (tgt := 8) dX12_keyAt_116 (by decide) ?_
      exact R_sub [1, 2, 3, 4, 5, 0] rfl hf
set_option maxRecDepth 20000 in
theorem sX12_keyAt_52 {P : Option Value → AH → Prop} (h : AH) (r0 : Nat) (x1 : Int32) (x2 : Int32) (x3 : Int32) (x4 : Int32) (x5 : Int32) (x6 : Int32) (x7 : Int32) (hf : (x2 ≤ x7 → (x6 = 0 → Rr mX12_keyAt 0 0 8 [(0, .ref r0), (1, .int x1), (2, .int x2), (3, .int (x3 + 1)), (4, .int (x5 + 1)), (5, .int (x5 + 1))] [] h P) ∧ (¬ x6 = 0 → P (some (.int x3)) h)) ∧ (¬ x2 ≤ x7 → (x6 = 0 → (x6 = 0 → Rr mX12_keyAt 0 0 8 [(0, .ref r0), (1, .int x1), (2, .int x2), (3, .int (x3 + 1)), (4, .int (x5 + 1)), (5, .int (x5 + 1))] [] h P) ∧ (¬ x6 = 0 → P (some (.int x3)) h)) ∧ (¬ x6 = 0 → Call mJ0_charAt_5068e [.ref (1000 + 2), .int (x4 + x7)] h (fun v h5 => ∃ z6 : Int32, v = some (.int z6) ∧ ((isO h5 12 r0) ∧ ((isA h5 2 (gF h5 r0 0)) ∧ ((¬ (gI h5 r0 2) ≤ (x1 + x7) → vp_in (x1 + x7) (ln (gF h5 r0 0))) ∧ (Rr mX12_keyAt 0 0 52 [(0, .ref r0), (1, .int x1), (2, .int x2), (3, .int x3), (4, .int x4), (5, .int x5), (6, .int (bi (z6 = (if (gI h5 r0 2) ≤ (x1 + x7) then (-1) else ((gI h5 (gF h5 r0 0) (x1 + x7).toNatClampNeg) &&& 255))))), (7, .int (x7 + 1))] [] h5 P)))))))) : Rr mX12_keyAt 0 0 52 [(0, .ref r0), (1, .int x1), (2, .int x2), (3, .int x3), (4, .int x4), (5, .int x5), (6, .int x6), (7, .int x7)] [] h P := by
  refine R_iload dX12_keyAt_52 7 rfl ?_
  refine R_iload_n dX12_keyAt_54 rfl 2 rfl ?_
  refine R_icmp_ge (tgt := 97) dX12_keyAt_55 (by decide) (fun b1 => ?_) (fun b1 => ?_)
  · have hf := hf.1 b1
    refine R_iload dX12_keyAt_97 6 rfl ?_
    refine R_if_eq (tgt := 104) dX12_keyAt_99 (by decide) (fun b2 => ?_) (fun b2 => ?_)
    · have hf := hf.1 b2
      refine R_iinc (v := x3 + 1) dX12_keyAt_104 3 rfl rfl (by decide) rfl ?_
      refine R_iload dX12_keyAt_107 5 rfl ?_
      refine R_iconst (v := 1) dX12_keyAt_109 (by decide) ?_
      refine R_iadd dX12_keyAt_110 ?_
      refine R_istore dX12_keyAt_111 (by decide) rfl ?_
      refine R_iinc (v := x5 + 1) dX12_keyAt_113 5 rfl rfl (by decide) rfl ?_
      refine R_goto (tgt := 8) dX12_keyAt_116 (by decide) ?_
      exact R_sub [3, 4, 5, 2, 1, 0] rfl hf
    · have hf := hf.2 b2
      refine R_iload_n dX12_keyAt_102 rfl 3 rfl ?_
      exact R_iret dX12_keyAt_103 rfl rfl hf
  · have hf := hf.2 b1
    refine R_iload dX12_keyAt_58 6 rfl ?_
    refine R_if_eq (tgt := 97) dX12_keyAt_60 (by decide) (fun b3 => ?_) (fun b3 => ?_)
    · have hf := hf.1 b3
      refine R_iload dX12_keyAt_97 6 rfl ?_
      refine R_if_eq (tgt := 104) dX12_keyAt_99 (by decide) (fun b4 => ?_) (fun b4 => ?_)
      · have hf := hf.1 b4
        refine R_iinc (v := x3 + 1) dX12_keyAt_104 3 rfl rfl (by decide) rfl ?_
        refine R_iload dX12_keyAt_107 5 rfl ?_
        refine R_iconst (v := 1) dX12_keyAt_109 (by decide) ?_
        refine R_iadd dX12_keyAt_110 ?_
        refine R_istore dX12_keyAt_111 (by decide) rfl ?_
        refine R_iinc (v := x5 + 1) dX12_keyAt_113 5 rfl rfl (by decide) rfl ?_
        refine R_goto (tgt := 8) dX12_keyAt_116 (by decide) ?_
        exact R_sub [3, 4, 5, 2, 1, 0] rfl hf
      · have hf := hf.2 b4
        refine R_iload_n dX12_keyAt_102 rfl 3 rfl ?_
        exact R_iret dX12_keyAt_103 rfl rfl hf
    · have hf := hf.2 b3
      refine R_ldcS 2 dX12_keyAt_63 rfl ?_
      refine R_iload dX12_keyAt_65 4 rfl ?_
      refine R_iload dX12_keyAt_67 7 rfl ?_
      refine R_iadd dX12_keyAt_69 ?_
      refine R_callStr (j := 2) (N := mJ0_charAt_5068e) (as := [.int (x4 + x7)]) (rest := []) (kc2 := 0) (ks2 := 0) dX12_keyAt_70 lmX12_135 oJ0_charAt_5068e rfl (Nat.le_of_ble_eq_true rfl) rfl rfl (Nat.le_of_ble_eq_true rfl) rfl rfl (by decide) (Call.mono hf ?_)
      rintro _ h5 ⟨z6, rfl, hf⟩
      refine R_aload_n dX12_keyAt_73 rfl 0 rfl ?_
      refine R_iload_n dX12_keyAt_74 rfl 1 rfl ?_
      refine R_iload dX12_keyAt_75 7 rfl ?_
      refine R_iadd dX12_keyAt_77 ?_
      obtain ⟨ob7, hf⟩ := hf
      obtain ⟨ob8, hf⟩ := hf
      obtain ⟨ob9, hf⟩ := hf
      refine R_callV (ci := 12) (N := mX12_byteAt) (as := [.int (x1 + x7)]) (rest := [.int z6]) (kc2 := 0) (ks2 := 0) dX12_keyAt_78 lmX12_139 oX12_byteAt (Nat.le_of_ble_eq_true rfl) rfl rfl (Nat.le_of_ble_eq_true rfl) rfl rfl ob7 ok12 (aX12_byteAt ob7 ob8 ob9 ?_)
      have key :  Rr mX12_keyAt 0 0 89 [(0, .ref r0), (1, .int x1), (2, .int x2), (3, .int x3), (4, .int x4), (5, .int x5), (7, .int x7)] [.int (bi (z6 = (if (gI h5 r0 2) ≤ (x1 + x7) then (-1) else ((gI h5 (gF h5 r0 0) (x1 + x7).toNatClampNeg) &&& 255))))] h5 P := by
        refine R_istore dX12_keyAt_89 (by decide) rfl ?_
        refine R_iinc (v := x7 + 1) dX12_keyAt_91 7 rfl rfl (by decide) rfl ?_
        refine R_goto (tgt := 52) dX12_keyAt_94 (by decide) ?_
        exact R_sub [2, 3, 4, 5, 6, 7, 1, 0] rfl hf
      refine R_icmp_ne (tgt := 88) dX12_keyAt_81 (by decide) (fun b10 => ?_) (fun b10 => ?_)
      · refine R_iconst (v := 0) dX12_keyAt_88 (by decide) ?_
        have kb := key
        rw [show bi (z6 = (if (gI h5 r0 2) ≤ (x1 + x7) then (-1) else ((gI h5 (gF h5 r0 0) (x1 + x7).toNatClampNeg) &&& 255))) = 0 from by simp only [bi, b10, false_and, and_false, true_and, and_true, not_true_eq_false, not_false_eq_true, if_true, if_false, true_or, or_true, false_or, or_false, reduceIte]] at kb
        exact R_sub [0, 1, 2, 3, 4, 5, 7] rfl kb
      · refine R_iconst (v := 1) dX12_keyAt_84 (by decide) ?_
        refine R_goto (tgt := 89) dX12_keyAt_85 (by decide) ?_
        have kb := key
        rw [show bi (z6 = (if (gI h5 r0 2) ≤ (x1 + x7) then (-1) else ((gI h5 (gF h5 r0 0) (x1 + x7).toNatClampNeg) &&& 255))) = 1 from by simp only [bi, b10, false_and, and_false, true_and, and_true, not_true_eq_false, not_false_eq_true, if_true, if_false, true_or, or_true, false_or, or_false, reduceIte]] at kb
        exact R_sub [0, 1, 2, 3, 4, 5, 7] rfl kb
theorem dX9_spells_0 : decode cX9_spells 0 = .ok (.iconst 0, 1) := by decide +kernel
theorem dX9_spells_1 : decode cX9_spells 1 = .ok (.istore_n 3, 1) := by decide +kernel
theorem dX9_spells_2 : decode cX9_spells 2 = .ok (.iload_n 3, 1) := by decide +kernel
theorem dX9_spells_3 : decode cX9_spells 3 = .ok (.bipush 8, 2) := by decide +kernel
theorem dX9_spells_5 : decode cX9_spells 5 = .ok (.if_icmp .ge 54, 3) := by decide +kernel
theorem dX9_spells_8 : decode cX9_spells 8 = .ok (.aload_n 0, 1) := by decide +kernel
theorem dX9_spells_9 : decode cX9_spells 9 = .ok (.getfield 26, 3) := by decide +kernel
theorem dX9_spells_12 : decode cX9_spells 12 = .ok (.iload_n 3, 1) := by decide +kernel
theorem dX9_spells_13 : decode cX9_spells 13 = .ok (.iadd, 1) := by decide +kernel
theorem dX9_spells_14 : decode cX9_spells 14 = .ok (.aload_n 0, 1) := by decide +kernel
theorem dX9_spells_15 : decode cX9_spells 15 = .ok (.getfield 19, 3) := by decide +kernel
theorem dX9_spells_18 : decode cX9_spells 18 = .ok (.if_icmp .ge 17, 3) := by decide +kernel
theorem dX9_spells_21 : decode cX9_spells 21 = .ok (.aload_n 0, 1) := by decide +kernel
theorem dX9_spells_22 : decode cX9_spells 22 = .ok (.getfield 11, 3) := by decide +kernel
theorem dX9_spells_25 : decode cX9_spells 25 = .ok (.aload_n 0, 1) := by decide +kernel
theorem dX9_spells_26 : decode cX9_spells 26 = .ok (.getfield 26, 3) := by decide +kernel
theorem dX9_spells_29 : decode cX9_spells 29 = .ok (.iload_n 3, 1) := by decide +kernel
theorem dX9_spells_30 : decode cX9_spells 30 = .ok (.iadd, 1) := by decide +kernel
theorem dX9_spells_31 : decode cX9_spells 31 = .ok (.baload, 1) := by decide +kernel
theorem dX9_spells_32 : decode cX9_spells 32 = .ok (.goto 5, 3) := by decide +kernel
theorem dX9_spells_35 : decode cX9_spells 35 = .ok (.bipush 32, 2) := by decide +kernel
theorem dX9_spells_37 : decode cX9_spells 37 = .ok (.istore 4, 2) := by decide +kernel
theorem dX9_spells_39 : decode cX9_spells 39 = .ok (.aload_n 1, 1) := by decide +kernel
theorem dX9_spells_40 : decode cX9_spells 40 = .ok (.iload_n 2, 1) := by decide +kernel
theorem dX9_spells_41 : decode cX9_spells 41 = .ok (.iload_n 3, 1) := by decide +kernel
theorem dX9_spells_42 : decode cX9_spells 42 = .ok (.iadd, 1) := by decide +kernel
theorem dX9_spells_43 : decode cX9_spells 43 = .ok (.invokevirtual 60, 3) := by decide +kernel
theorem dX9_spells_46 : decode cX9_spells 46 = .ok (.iload 4, 2) := by decide +kernel
theorem dX9_spells_48 : decode cX9_spells 48 = .ok (.if_icmp .eq 5, 3) := by decide +kernel
theorem dX9_spells_51 : decode cX9_spells 51 = .ok (.iconst 0, 1) := by decide +kernel
theorem dX9_spells_52 : decode cX9_spells 52 = .ok (.ireturn, 1) := by decide +kernel
theorem dX9_spells_53 : decode cX9_spells 53 = .ok (.iinc 3 1, 3) := by decide +kernel
theorem dX9_spells_56 : decode cX9_spells 56 = .ok (.goto (-54), 3) := by decide +kernel
theorem dX9_spells_59 : decode cX9_spells 59 = .ok (.iconst 1, 1) := by decide +kernel
theorem dX9_spells_60 : decode cX9_spells 60 = .ok (.ireturn, 1) := by decide +kernel
set_option maxRecDepth 20000 in
theorem sX9_spells_0 {P : Option Value → AH → Prop} (h : AH) (r0 : Nat) (j1 : Nat) (x2 : Int32) (hf : Rr mX9_spells 0 0 2 [(0, .ref r0), (1, .ref (1000 + j1)), (2, .int x2), (3, .int 0)] [] h P) : Rr mX9_spells 0 0 0 [(0, .ref r0), (1, .ref (1000 + j1)), (2, .int x2)] [] h P := by
  refine R_iconst (v := 0) dX9_spells_0 (by decide) ?_
  refine R_istore_n dX9_spells_1 rfl (by decide) rfl ?_
  exact R_sub [1, 2, 3, 0] rfl hf
set_option maxRecDepth 20000 in
theorem sX9_spells_2 {P : Option Value → AH → Prop} (h : AH) (r0 : Nat) (j1 : Nat) (x2 : Int32) (x3 : Int32) (hf : (8 ≤ x3 → P (some (.int 1)) h) ∧ (¬ 8 ≤ x3 → (isO h 9 r0) ∧ ((isA h 2 (gF h r0 0)) ∧ ((¬ (gI h r0 1) ≤ ((gI h r0 4) + x3) → vp_in ((gI h r0 4) + x3) (ln (gF h r0 0))) ∧ (∀ z6 : Int32, z6 = (if (gI h r0 1) ≤ ((gI h r0 4) + x3) then 32 else (gI h (gF h r0 0) ((gI h r0 4) + x3).toNatClampNeg)) → ((j1 < 3) ∧ (Call mJ0_charAt_5068e [.ref (1000 + j1), .int (x2 + x3)] h (fun v h8 => ∃ z9 : Int32, v = some (.int z9) ∧ ((z9 = z6 → Rr mX9_spells 0 0 2 [(0, .ref r0), (1, .ref (1000 + j1)), (2, .int x2), (3, .int (x3 + 1))] [] h8 P) ∧ (¬ z9 = z6 → P (some (.int 0)) h8)))))))))) : Rr mX9_spells 0 0 2 [(0, .ref r0), (1, .ref (1000 + j1)), (2, .int x2), (3, .int x3)] [] h P := by
  refine R_iload_n dX9_spells_2 rfl 3 rfl ?_
  refine R_bipush (v := 8) dX9_spells_3 (by decide) ?_
  refine R_icmp_ge (tgt := 59) dX9_spells_5 (by decide) (fun b1 => ?_) (fun b1 => ?_)
  · have hf := hf.1 b1
    refine R_iconst (v := 1) dX9_spells_59 (by decide) ?_
    exact R_iret dX9_spells_60 rfl rfl hf
  · have hf := hf.2 b1
    refine R_aload_n dX9_spells_8 rfl 0 rfl ?_
    obtain ⟨ob2, hf⟩ := hf
    refine G9_4 dX9_spells_9 lfX9_26 ob2 ?_
    refine R_iload_n dX9_spells_12 rfl 3 rfl ?_
    refine R_iadd dX9_spells_13 ?_
    refine R_aload_n dX9_spells_14 rfl 0 rfl ?_
    refine G9_1 dX9_spells_15 lfX9_19 ob2 ?_
    obtain ⟨ob4, hf⟩ := hf
    obtain ⟨ob5, hf⟩ := hf
    have key : ∀ z6 : Int32, z6 = (if (gI h r0 1) ≤ ((gI h r0 4) + x3) then 32 else (gI h (gF h r0 0) ((gI h r0 4) + x3).toNatClampNeg)) → Rr mX9_spells 0 0 37 [(0, .ref r0), (1, .ref (1000 + j1)), (2, .int x2), (3, .int x3)] [.int z6] h P := by
      intro z6 ez6
      have hf := hf z6 ez6
      refine R_istore dX9_spells_37 (by decide) rfl ?_
      refine R_aload_n dX9_spells_39 rfl 2 rfl ?_
      refine R_iload_n dX9_spells_40 rfl 3 rfl ?_
      refine R_iload_n dX9_spells_41 rfl 4 rfl ?_
      refine R_iadd dX9_spells_42 ?_
      obtain ⟨ob7, hf⟩ := hf
      refine R_callStr (j := j1) (N := mJ0_charAt_5068e) (as := [.int (x2 + x3)]) (rest := []) (kc2 := 0) (ks2 := 0) dX9_spells_43 lmX9_60 oJ0_charAt_5068e rfl (Nat.le_of_ble_eq_true rfl) rfl rfl (Nat.le_of_ble_eq_true rfl) rfl rfl ob7 (Call.mono hf ?_)
      rintro _ h8 ⟨z9, rfl, hf⟩
      refine R_iload dX9_spells_46 0 rfl ?_
      refine R_icmp_eq (tgt := 53) dX9_spells_48 (by decide) (fun b10 => ?_) (fun b10 => ?_)
      · have hf := hf.1 b10
        refine R_iinc (v := x3 + 1) dX9_spells_53 4 rfl rfl (by decide) rfl ?_
        refine R_goto (tgt := 2) dX9_spells_56 (by decide) ?_
        exact R_sub [2, 3, 4, 0] rfl hf
      · have hf := hf.2 b10
        refine R_iconst (v := 0) dX9_spells_51 (by decide) ?_
        exact R_iret dX9_spells_52 rfl rfl hf
    refine R_icmp_ge (tgt := 35) dX9_spells_18 (by decide) (fun b3 => ?_) (fun b3 => ?_)
    · refine R_bipush (v := 32) dX9_spells_35 (by decide) ?_
      exact R_sub [0, 1, 2, 3] rfl (key _ (by rw [if_pos b3]))
    · refine R_aload_n dX9_spells_21 rfl 0 rfl ?_
      refine G9_0 dX9_spells_22 lfX9_11 ob2 ?_
      refine R_aload_n dX9_spells_25 rfl 0 rfl ?_
      refine G9_4 dX9_spells_26 lfX9_26 ob2 ?_
      refine R_iload_n dX9_spells_29 rfl 3 rfl ?_
      refine R_iadd dX9_spells_30 ?_
      refine R_baload dX9_spells_31 ob4 (ob5 b3) ?_
      refine R_goto (tgt := 37) dX9_spells_32 (by decide) ?_
      exact R_sub [0, 1, 2, 3] rfl (key _ (by rw [if_neg b3]))
theorem dX12_scan_0 : decode cX12_scan 0 = .ok (.aload_n 0, 1) := by decide +kernel
theorem dX12_scan_1 : decode cX12_scan 1 = .ok (.getfield 143, 3) := by decide +kernel
theorem dX12_scan_4 : decode cX12_scan 4 = .ok (.istore_n 1, 1) := by decide +kernel
theorem dX12_scan_5 : decode cX12_scan 5 = .ok (.aload_n 0, 1) := by decide +kernel
theorem dX12_scan_6 : decode cX12_scan 6 = .ok (.iload_n 1, 1) := by decide +kernel
theorem dX12_scan_7 : decode cX12_scan 7 = .ok (.invokevirtual 139, 3) := by decide +kernel
theorem dX12_scan_10 : decode cX12_scan 10 = .ok (.bipush 32, 2) := by decide +kernel
theorem dX12_scan_12 : decode cX12_scan 12 = .ok (.if_icmp .eq 13, 3) := by decide +kernel
theorem dX12_scan_15 : decode cX12_scan 15 = .ok (.aload_n 0, 1) := by decide +kernel
theorem dX12_scan_16 : decode cX12_scan 16 = .ok (.iload_n 1, 1) := by decide +kernel
theorem dX12_scan_17 : decode cX12_scan 17 = .ok (.invokevirtual 139, 3) := by decide +kernel
theorem dX12_scan_20 : decode cX12_scan 20 = .ok (.bipush 10, 2) := by decide +kernel
theorem dX12_scan_22 : decode cX12_scan 22 = .ok (.if_icmp .ne 9, 3) := by decide +kernel
theorem dX12_scan_25 : decode cX12_scan 25 = .ok (.iinc 1 1, 3) := by decide +kernel
theorem dX12_scan_28 : decode cX12_scan 28 = .ok (.goto (-23), 3) := by decide +kernel
theorem dX12_scan_31 : decode cX12_scan 31 = .ok (.aload_n 0, 1) := by decide +kernel
theorem dX12_scan_32 : decode cX12_scan 32 = .ok (.iload_n 1, 1) := by decide +kernel
theorem dX12_scan_33 : decode cX12_scan 33 = .ok (.putfield 146, 3) := by decide +kernel
theorem dX12_scan_36 : decode cX12_scan 36 = .ok (.aload_n 0, 1) := by decide +kernel
theorem dX12_scan_37 : decode cX12_scan 37 = .ok (.iload_n 1, 1) := by decide +kernel
theorem dX12_scan_38 : decode cX12_scan 38 = .ok (.invokevirtual 139, 3) := by decide +kernel
theorem dX12_scan_41 : decode cX12_scan 41 = .ok (.istore_n 2, 1) := by decide +kernel
theorem dX12_scan_42 : decode cX12_scan 42 = .ok (.iload_n 1, 1) := by decide +kernel
theorem dX12_scan_43 : decode cX12_scan 43 = .ok (.iconst 1, 1) := by decide +kernel
theorem dX12_scan_44 : decode cX12_scan 44 = .ok (.iadd, 1) := by decide +kernel
theorem dX12_scan_45 : decode cX12_scan 45 = .ok (.istore_n 3, 1) := by decide +kernel
theorem dX12_scan_46 : decode cX12_scan 46 = .ok (.aload_n 0, 1) := by decide +kernel
theorem dX12_scan_47 : decode cX12_scan 47 = .ok (.iconst (-1), 1) := by decide +kernel
theorem dX12_scan_48 : decode cX12_scan 48 = .ok (.putfield 149, 3) := by decide +kernel
theorem dX12_scan_51 : decode cX12_scan 51 = .ok (.iload_n 2, 1) := by decide +kernel
theorem dX12_scan_52 : decode cX12_scan 52 = .ok (.iconst (-1), 1) := by decide +kernel
theorem dX12_scan_53 : decode cX12_scan 53 = .ok (.if_icmp .ne 13, 3) := by decide +kernel
theorem dX12_scan_56 : decode cX12_scan 56 = .ok (.aload_n 0, 1) := by decide +kernel
theorem dX12_scan_57 : decode cX12_scan 57 = .ok (.iconst 5, 1) := by decide +kernel
theorem dX12_scan_58 : decode cX12_scan 58 = .ok (.putfield 152, 3) := by decide +kernel
theorem dX12_scan_61 : decode cX12_scan 61 = .ok (.iload_n 1, 1) := by decide +kernel
theorem dX12_scan_62 : decode cX12_scan 62 = .ok (.istore_n 3, 1) := by decide +kernel
theorem dX12_scan_63 : decode cX12_scan 63 = .ok (.goto 179, 3) := by decide +kernel
theorem dX12_scan_66 : decode cX12_scan 66 = .ok (.iload_n 2, 1) := by decide +kernel
theorem dX12_scan_67 : decode cX12_scan 67 = .ok (.invokestatic 155, 3) := by decide +kernel
theorem dX12_scan_70 : decode cX12_scan 70 = .ok (.ifCond .eq 62, 3) := by decide +kernel
theorem dX12_scan_73 : decode cX12_scan 73 = .ok (.iload_n 1, 1) := by decide +kernel
theorem dX12_scan_74 : decode cX12_scan 74 = .ok (.istore_n 3, 1) := by decide +kernel
theorem dX12_scan_75 : decode cX12_scan 75 = .ok (.aload_n 0, 1) := by decide +kernel
theorem dX12_scan_76 : decode cX12_scan 76 = .ok (.iload_n 3, 1) := by decide +kernel
theorem dX12_scan_77 : decode cX12_scan 77 = .ok (.invokevirtual 139, 3) := by decide +kernel
theorem dX12_scan_80 : decode cX12_scan 80 = .ok (.invokestatic 155, 3) := by decide +kernel
theorem dX12_scan_83 : decode cX12_scan 83 = .ok (.ifCond .eq 9, 3) := by decide +kernel
theorem dX12_scan_86 : decode cX12_scan 86 = .ok (.iinc 3 1, 3) := by decide +kernel
theorem dX12_scan_89 : decode cX12_scan 89 = .ok (.goto (-14), 3) := by decide +kernel
theorem dX12_scan_92 : decode cX12_scan 92 = .ok (.aload_n 0, 1) := by decide +kernel
theorem dX12_scan_93 : decode cX12_scan 93 = .ok (.iload_n 3, 1) := by decide +kernel
theorem dX12_scan_94 : decode cX12_scan 94 = .ok (.iload_n 1, 1) := by decide +kernel
theorem dX12_scan_95 : decode cX12_scan 95 = .ok (.isub, 1) := by decide +kernel
theorem dX12_scan_96 : decode cX12_scan 96 = .ok (.bipush 8, 2) := by decide +kernel
theorem dX12_scan_98 : decode cX12_scan 98 = .ok (.if_icmp .le 7, 3) := by decide +kernel
theorem dX12_scan_101 : decode cX12_scan 101 = .ok (.iconst 0, 1) := by decide +kernel
theorem dX12_scan_102 : decode cX12_scan 102 = .ok (.goto 4, 3) := by decide +kernel
theorem dX12_scan_105 : decode cX12_scan 105 = .ok (.iconst 1, 1) := by decide +kernel
theorem dX12_scan_106 : decode cX12_scan 106 = .ok (.putfield 152, 3) := by decide +kernel
theorem dX12_scan_109 : decode cX12_scan 109 = .ok (.aload_n 0, 1) := by decide +kernel
theorem dX12_scan_110 : decode cX12_scan 110 = .ok (.getfield 152, 3) := by decide +kernel
theorem dX12_scan_113 : decode cX12_scan 113 = .ok (.iconst 1, 1) := by decide +kernel
theorem dX12_scan_114 : decode cX12_scan 114 = .ok (.if_icmp .ne 128, 3) := by decide +kernel
theorem dX12_scan_117 : decode cX12_scan 117 = .ok (.aload_n 0, 1) := by decide +kernel
theorem dX12_scan_118 : decode cX12_scan 118 = .ok (.aload_n 0, 1) := by decide +kernel
theorem dX12_scan_119 : decode cX12_scan 119 = .ok (.iload_n 1, 1) := by decide +kernel
theorem dX12_scan_120 : decode cX12_scan 120 = .ok (.iload_n 3, 1) := by decide +kernel
theorem dX12_scan_121 : decode cX12_scan 121 = .ok (.iload_n 1, 1) := by decide +kernel
theorem dX12_scan_122 : decode cX12_scan 122 = .ok (.isub, 1) := by decide +kernel
theorem dX12_scan_123 : decode cX12_scan 123 = .ok (.invokevirtual 159, 3) := by decide +kernel
theorem dX12_scan_126 : decode cX12_scan 126 = .ok (.putfield 149, 3) := by decide +kernel
theorem dX12_scan_129 : decode cX12_scan 129 = .ok (.goto 113, 3) := by decide +kernel
theorem dX12_scan_132 : decode cX12_scan 132 = .ok (.iload_n 2, 1) := by decide +kernel
theorem dX12_scan_133 : decode cX12_scan 133 = .ok (.invokestatic 163, 3) := by decide +kernel
theorem dX12_scan_136 : decode cX12_scan 136 = .ok (.ifCond .eq 81, 3) := by decide +kernel
theorem dX12_scan_139 : decode cX12_scan 139 = .ok (.aload_n 0, 1) := by decide +kernel
theorem dX12_scan_140 : decode cX12_scan 140 = .ok (.iload_n 2, 1) := by decide +kernel
theorem dX12_scan_141 : decode cX12_scan 141 = .ok (.bipush 48, 2) := by decide +kernel
theorem dX12_scan_143 : decode cX12_scan 143 = .ok (.isub, 1) := by decide +kernel
theorem dX12_scan_144 : decode cX12_scan 144 = .ok (.putfield 166, 3) := by decide +kernel
theorem dX12_scan_147 : decode cX12_scan 147 = .ok (.aload_n 0, 1) := by decide +kernel
theorem dX12_scan_148 : decode cX12_scan 148 = .ok (.iload_n 3, 1) := by decide +kernel
theorem dX12_scan_149 : decode cX12_scan 149 = .ok (.invokevirtual 139, 3) := by decide +kernel
theorem dX12_scan_152 : decode cX12_scan 152 = .ok (.invokestatic 163, 3) := by decide +kernel
theorem dX12_scan_155 : decode cX12_scan 155 = .ok (.ifCond .eq 43, 3) := by decide +kernel
theorem dX12_scan_158 : decode cX12_scan 158 = .ok (.aload_n 0, 1) := by decide +kernel
theorem dX12_scan_159 : decode cX12_scan 159 = .ok (.iload_n 3, 1) := by decide +kernel
theorem dX12_scan_160 : decode cX12_scan 160 = .ok (.iload_n 1, 1) := by decide +kernel
theorem dX12_scan_161 : decode cX12_scan 161 = .ok (.isub, 1) := by decide +kernel
theorem dX12_scan_162 : decode cX12_scan 162 = .ok (.iconst 4, 1) := by decide +kernel
theorem dX12_scan_163 : decode cX12_scan 163 = .ok (.if_icmp .ge 22, 3) := by decide +kernel
theorem dX12_scan_166 : decode cX12_scan 166 = .ok (.bipush 10, 2) := by decide +kernel
theorem dX12_scan_168 : decode cX12_scan 168 = .ok (.aload_n 0, 1) := by decide +kernel
theorem dX12_scan_169 : decode cX12_scan 169 = .ok (.getfield 166, 3) := by decide +kernel
theorem dX12_scan_172 : decode cX12_scan 172 = .ok (.imul, 1) := by decide +kernel
theorem dX12_scan_173 : decode cX12_scan 173 = .ok (.aload_n 0, 1) := by decide +kernel
theorem dX12_scan_174 : decode cX12_scan 174 = .ok (.iload_n 3, 1) := by decide +kernel
theorem dX12_scan_175 : decode cX12_scan 175 = .ok (.invokevirtual 139, 3) := by decide +kernel
theorem dX12_scan_178 : decode cX12_scan 178 = .ok (.iadd, 1) := by decide +kernel
theorem dX12_scan_179 : decode cX12_scan 179 = .ok (.bipush 48, 2) := by decide +kernel
theorem dX12_scan_181 : decode cX12_scan 181 = .ok (.isub, 1) := by decide +kernel
theorem dX12_scan_182 : decode cX12_scan 182 = .ok (.goto 7, 3) := by decide +kernel
theorem dX12_scan_185 : decode cX12_scan 185 = .ok (.aload_n 0, 1) := by decide +kernel
theorem dX12_scan_186 : decode cX12_scan 186 = .ok (.getfield 166, 3) := by decide +kernel
theorem dX12_scan_189 : decode cX12_scan 189 = .ok (.putfield 166, 3) := by decide +kernel
theorem dX12_scan_192 : decode cX12_scan 192 = .ok (.iinc 3 1, 3) := by decide +kernel
theorem dX12_scan_195 : decode cX12_scan 195 = .ok (.goto (-48), 3) := by decide +kernel
theorem dX12_scan_198 : decode cX12_scan 198 = .ok (.aload_n 0, 1) := by decide +kernel
theorem dX12_scan_199 : decode cX12_scan 199 = .ok (.iload_n 3, 1) := by decide +kernel
theorem dX12_scan_200 : decode cX12_scan 200 = .ok (.iload_n 1, 1) := by decide +kernel
theorem dX12_scan_201 : decode cX12_scan 201 = .ok (.isub, 1) := by decide +kernel
theorem dX12_scan_202 : decode cX12_scan 202 = .ok (.iconst 4, 1) := by decide +kernel
theorem dX12_scan_203 : decode cX12_scan 203 = .ok (.if_icmp .le 7, 3) := by decide +kernel
theorem dX12_scan_206 : decode cX12_scan 206 = .ok (.iconst 0, 1) := by decide +kernel
theorem dX12_scan_207 : decode cX12_scan 207 = .ok (.goto 4, 3) := by decide +kernel
theorem dX12_scan_210 : decode cX12_scan 210 = .ok (.iconst 2, 1) := by decide +kernel
theorem dX12_scan_211 : decode cX12_scan 211 = .ok (.putfield 152, 3) := by decide +kernel
theorem dX12_scan_214 : decode cX12_scan 214 = .ok (.goto 28, 3) := by decide +kernel
theorem dX12_scan_217 : decode cX12_scan 217 = .ok (.aload_n 0, 1) := by decide +kernel
theorem dX12_scan_218 : decode cX12_scan 218 = .ok (.iload_n 2, 1) := by decide +kernel
theorem dX12_scan_219 : decode cX12_scan 219 = .ok (.bipush 59, 2) := by decide +kernel
theorem dX12_scan_221 : decode cX12_scan 221 = .ok (.if_icmp .ne 7, 3) := by decide +kernel
theorem dX12_scan_224 : decode cX12_scan 224 = .ok (.iconst 3, 1) := by decide +kernel
theorem dX12_scan_225 : decode cX12_scan 225 = .ok (.goto 14, 3) := by decide +kernel
theorem dX12_scan_228 : decode cX12_scan 228 = .ok (.iload_n 2, 1) := by decide +kernel
theorem dX12_scan_229 : decode cX12_scan 229 = .ok (.bipush 45, 2) := by decide +kernel
theorem dX12_scan_231 : decode cX12_scan 231 = .ok (.if_icmp .ne 7, 3) := by decide +kernel
theorem dX12_scan_234 : decode cX12_scan 234 = .ok (.iconst 4, 1) := by decide +kernel
theorem dX12_scan_235 : decode cX12_scan 235 = .ok (.goto 4, 3) := by decide +kernel
theorem dX12_scan_238 : decode cX12_scan 238 = .ok (.iconst 0, 1) := by decide +kernel
theorem dX12_scan_239 : decode cX12_scan 239 = .ok (.putfield 152, 3) := by decide +kernel
theorem dX12_scan_242 : decode cX12_scan 242 = .ok (.aload_n 0, 1) := by decide +kernel
theorem dX12_scan_243 : decode cX12_scan 243 = .ok (.iload_n 3, 1) := by decide +kernel
theorem dX12_scan_244 : decode cX12_scan 244 = .ok (.putfield 143, 3) := by decide +kernel
theorem dX12_scan_247 : decode cX12_scan 247 = .ok (.return_, 1) := by decide +kernel
set_option maxRecDepth 20000 in
theorem sX12_scan_0 {P : Option Value → AH → Prop} (h : AH) (r0 : Nat) (hf : (isO h 12 r0) ∧ (Rr mX12_scan 0 0 5 [(0, .ref r0), (1, .int (gI h r0 6))] [] h P)) : Rr mX12_scan 0 0 0 [(0, .ref r0)] [] h P := by
  refine R_aload_n dX12_scan_0 rfl 0 rfl ?_
  obtain ⟨ob1, hf⟩ := hf
  refine G12_6 dX12_scan_1 lfX12_143 ob1 ?_
  refine R_istore_n dX12_scan_4 rfl (by decide) rfl ?_
  exact R_sub [1, 0] rfl hf
set_option maxRecDepth 20000 in
theorem sX12_scan_5 {P : Option Value → AH → Prop} (h : AH) (r0 : Nat) (x1 : Int32) (hf : (isO h 12 r0) ∧ ((isA h 2 (gF h r0 0)) ∧ ((¬ (gI h r0 2) ≤ x1 → vp_in x1 (ln (gF h r0 0))) ∧ (((if (gI h r0 2) ≤ x1 then (-1) else ((gI h (gF h r0 0) x1.toNatClampNeg) &&& 255)) = 32 → Rr mX12_scan 0 0 5 [(0, .ref r0), (1, .int (x1 + 1))] [] h P) ∧ (¬ (if (gI h r0 2) ≤ x1 then (-1) else ((gI h (gF h r0 0) x1.toNatClampNeg) &&& 255)) = 32 → (¬ (if (gI h r0 2) ≤ x1 then (-1) else ((gI h (gF h r0 0) x1.toNatClampNeg) &&& 255)) = 10 → (¬ (gI (sI h r0 5 x1) r0 2) ≤ x1 → vp_in x1 (ln (gF (sI h r0 5 x1) r0 0))) ∧ ((¬ (if (gI (sI h r0 5 x1) r0 2) ≤ x1 then (-1) else ((gI (sI h r0 5 x1) (gF (sI h r0 5 x1) r0 0) x1.toNatClampNeg) &&& 255)) = (-1) → (¬ (¬ (if (gI (sI h r0 5 x1) r0 2) ≤ x1 then (-1) else ((gI (sI h r0 5 x1) (gF (sI h r0 5 x1) r0 0) x1.toNatClampNeg) &&& 255)) < 97 ∧ ¬ 122 < (if (gI (sI h r0 5 x1) r0 2) ≤ x1 then (-1) else ((gI (sI h r0 5 x1) (gF (sI h r0 5 x1) r0 0) x1.toNatClampNeg) &&& 255))) → (¬ (¬ (if (gI (sI h r0 5 x1) r0 2) ≤ x1 then (-1) else ((gI (sI h r0 5 x1) (gF (sI h r0 5 x1) r0 0) x1.toNatClampNeg) &&& 255)) < 48 ∧ ¬ 57 < (if (gI (sI h r0 5 x1) r0 2) ≤ x1 then (-1) else ((gI (sI h r0 5 x1) (gF (sI h r0 5 x1) r0 0) x1.toNatClampNeg) &&& 255))) → ∀ z12 : Int32, z12 = (if (if (gI (sI h r0 5 x1) r0 2) ≤ x1 then (-1) else ((gI (sI h r0 5 x1) (gF (sI h r0 5 x1) r0 0) x1.toNatClampNeg) &&& 255)) = 59 then 3 else (if (if (gI (sI h r0 5 x1) r0 2) ≤ x1 then (-1) else ((gI (sI h r0 5 x1) (gF (sI h r0 5 x1) r0 0) x1.toNatClampNeg) &&& 255)) = 45 then 4 else 0)) → (P none (sI (sI (sI (sI h r0 5 x1) r0 4 (-1)) r0 3 z12) r0 6 (x1 + 1)))) ∧ ((¬ (if (gI (sI h r0 5 x1) r0 2) ≤ x1 then (-1) else ((gI (sI h r0 5 x1) (gF (sI h r0 5 x1) r0 0) x1.toNatClampNeg) &&& 255)) < 48 ∧ ¬ 57 < (if (gI (sI h r0 5 x1) r0 2) ≤ x1 then (-1) else ((gI (sI h r0 5 x1) (gF (sI h r0 5 x1) r0 0) x1.toNatClampNeg) &&& 255))) → Rr mX12_scan 0 0 147 [(0, .ref r0), (1, .int x1), (3, .int (x1 + 1))] [] (sI (sI (sI h r0 5 x1) r0 4 (-1)) r0 7 ((if (gI (sI h r0 5 x1) r0 2) ≤ x1 then (-1) else ((gI (sI h r0 5 x1) (gF (sI h r0 5 x1) r0 0) x1.toNatClampNeg) &&& 255)) - 48)) P)) ∧ ((¬ (if (gI (sI h r0 5 x1) r0 2) ≤ x1 then (-1) else ((gI (sI h r0 5 x1) (gF (sI h r0 5 x1) r0 0) x1.toNatClampNeg) &&& 255)) < 97 ∧ ¬ 122 < (if (gI (sI h r0 5 x1) r0 2) ≤ x1 then (-1) else ((gI (sI h r0 5 x1) (gF (sI h r0 5 x1) r0 0) x1.toNatClampNeg) &&& 255))) → Rr mX12_scan 0 0 75 [(0, .ref r0), (1, .int x1), (3, .int x1)] [] (sI (sI h r0 5 x1) r0 4 (-1)) P)) ∧ ((if (gI (sI h r0 5 x1) r0 2) ≤ x1 then (-1) else ((gI (sI h r0 5 x1) (gF (sI h r0 5 x1) r0 0) x1.toNatClampNeg) &&& 255)) = (-1) → P none (sI (sI (sI (sI h r0 5 x1) r0 4 (-1)) r0 3 5) r0 6 x1)))) ∧ ((if (gI h r0 2) ≤ x1 then (-1) else ((gI h (gF h r0 0) x1.toNatClampNeg) &&& 255)) = 10 → Rr mX12_scan 0 0 5 [(0, .ref r0), (1, .int (x1 + 1))] [] h P)))))) : Rr mX12_scan 0 0 5 [(0, .ref r0), (1, .int x1)] [] h P := by
  refine R_aload_n dX12_scan_5 rfl 0 rfl ?_
  refine R_iload_n dX12_scan_6 rfl 1 rfl ?_
  obtain ⟨ob1, hf⟩ := hf
  obtain ⟨ob2, hf⟩ := hf
  obtain ⟨ob3, hf⟩ := hf
  refine R_callV (ci := 12) (N := mX12_byteAt) (as := [.int x1]) (rest := []) (kc2 := 0) (ks2 := 0) dX12_scan_7 lmX12_139 oX12_byteAt (Nat.le_of_ble_eq_true rfl) rfl rfl (Nat.le_of_ble_eq_true rfl) rfl rfl ob1 ok12 (aX12_byteAt ob1 ob2 ob3 ?_)
  refine R_bipush (v := 32) dX12_scan_10 (by decide) ?_
  refine R_icmp_eq (tgt := 25) dX12_scan_12 (by decide) (fun b4 => ?_) (fun b4 => ?_)
  · have hf := hf.1 b4
    refine R_iinc (v := x1 + 1) dX12_scan_25 1 rfl rfl (by decide) rfl ?_
    refine R_goto (tgt := 5) dX12_scan_28 (by decide) ?_
    exact R_sub [1, 0] rfl hf
  · have hf := hf.2 b4
    refine R_aload_n dX12_scan_15 rfl 0 rfl ?_
    refine R_iload_n dX12_scan_16 rfl 1 rfl ?_
    refine R_callV (ci := 12) (N := mX12_byteAt) (as := [.int x1]) (rest := []) (kc2 := 0) (ks2 := 0) dX12_scan_17 lmX12_139 oX12_byteAt (Nat.le_of_ble_eq_true rfl) rfl rfl (Nat.le_of_ble_eq_true rfl) rfl rfl ob1 ok12 (aX12_byteAt ob1 ob2 ob3 ?_)
    refine R_bipush (v := 10) dX12_scan_20 (by decide) ?_
    refine R_icmp_ne (tgt := 31) dX12_scan_22 (by decide) (fun b5 => ?_) (fun b5 => ?_)
    · have hf := hf.1 b5
      refine R_aload_n dX12_scan_31 rfl 0 rfl ?_
      refine R_iload_n dX12_scan_32 rfl 1 rfl ?_
      refine S12_5 dX12_scan_33 lfX12_146 ob1 ?_
      refine R_aload_n dX12_scan_36 rfl 0 rfl ?_
      refine R_iload_n dX12_scan_37 rfl 1 rfl ?_
      obtain ⟨ob6, hf⟩ := hf
      refine R_callV (ci := 12) (N := mX12_byteAt) (as := [.int x1]) (rest := []) (kc2 := 0) (ks2 := 0) dX12_scan_38 lmX12_139 oX12_byteAt (Nat.le_of_ble_eq_true rfl) rfl rfl (Nat.le_of_ble_eq_true rfl) rfl rfl ob1 ok12 (aX12_byteAt ob1 ob2 ob6 ?_)
      refine R_istore_n dX12_scan_41 rfl (by decide) rfl ?_
      refine R_iload_n dX12_scan_42 rfl 2 rfl ?_
      refine R_iconst (v := 1) dX12_scan_43 (by decide) ?_
      refine R_iadd dX12_scan_44 ?_
      refine R_istore_n dX12_scan_45 rfl (by decide) rfl ?_
      refine R_aload_n dX12_scan_46 rfl 2 rfl ?_
      refine R_iconst (v := (-1)) dX12_scan_47 (by decide) ?_
      refine S12_4 dX12_scan_48 lfX12_149 ob1 ?_
      refine R_iload_n dX12_scan_51 rfl 1 rfl ?_
      refine R_iconst (v := (-1)) dX12_scan_52 (by decide) ?_
      refine R_icmp_ne (tgt := 66) dX12_scan_53 (by decide) (fun b7 => ?_) (fun b7 => ?_)
      · have hf := hf.1 b7
        refine R_iload_n dX12_scan_66 rfl 1 rfl ?_
        refine R_callS (N := mX12_isSmall) (as := [.int (if (gI (sI h r0 5 x1) r0 2) ≤ x1 then (-1) else ((gI (sI h r0 5 x1) (gF (sI h r0 5 x1) r0 0) x1.toNatClampNeg) &&& 255))]) (rest := []) (kc2 := 0) (ks2 := 0) dX12_scan_67 lmX12_155 oX12_isSmall (Nat.le_of_ble_eq_true rfl) rfl rfl (Nat.le_of_ble_eq_true rfl) rfl rfl (aX12_isSmall  ?_)
        refine R_if_eq_b (tgt := 132) dX12_scan_70 (by decide) (fun b8 => ?_) (fun b8 => ?_)
        · have hf := hf.1 b8
          refine R_iload_n dX12_scan_132 rfl 1 rfl ?_
          refine R_callS (N := mX12_isDigit) (as := [.int (if (gI (sI h r0 5 x1) r0 2) ≤ x1 then (-1) else ((gI (sI h r0 5 x1) (gF (sI h r0 5 x1) r0 0) x1.toNatClampNeg) &&& 255))]) (rest := []) (kc2 := 0) (ks2 := 0) dX12_scan_133 lmX12_163 oX12_isDigit (Nat.le_of_ble_eq_true rfl) rfl rfl (Nat.le_of_ble_eq_true rfl) rfl rfl (aX12_isDigit  ?_)
          refine R_if_eq_b (tgt := 217) dX12_scan_136 (by decide) (fun b9 => ?_) (fun b9 => ?_)
          · have hf := hf.1 b9
            refine R_aload_n dX12_scan_217 rfl 2 rfl ?_
            refine R_iload_n dX12_scan_218 rfl 1 rfl ?_
            refine R_bipush (v := 59) dX12_scan_219 (by decide) ?_
            have key : ∀ z12 : Int32, z12 = (if (if (gI (sI h r0 5 x1) r0 2) ≤ x1 then (-1) else ((gI (sI h r0 5 x1) (gF (sI h r0 5 x1) r0 0) x1.toNatClampNeg) &&& 255)) = 59 then 3 else (if (if (gI (sI h r0 5 x1) r0 2) ≤ x1 then (-1) else ((gI (sI h r0 5 x1) (gF (sI h r0 5 x1) r0 0) x1.toNatClampNeg) &&& 255)) = 45 then 4 else 0)) → Rr mX12_scan 0 0 239 [(0, .ref r0), (3, .int (x1 + 1))] [.int z12, .ref r0] (sI (sI h r0 5 x1) r0 4 (-1)) P := by
              intro z12 ez12
              have hf := hf z12 ez12
              refine S12_3 dX12_scan_239 lfX12_152 ob1 ?_
              refine R_aload_n dX12_scan_242 rfl 0 rfl ?_
              refine R_iload_n dX12_scan_243 rfl 1 rfl ?_
              refine S12_6 dX12_scan_244 lfX12_143 ob1 ?_
              exact R_ret dX12_scan_247 rfl hf
            refine R_icmp_ne (tgt := 228) dX12_scan_221 (by decide) (fun b10 => ?_) (fun b10 => ?_)
            · refine R_iload_n dX12_scan_228 rfl 1 rfl ?_
              refine R_bipush (v := 45) dX12_scan_229 (by decide) ?_
              refine R_icmp_ne (tgt := 238) dX12_scan_231 (by decide) (fun b11 => ?_) (fun b11 => ?_)
              · refine R_iconst (v := 0) dX12_scan_238 (by decide) ?_
                exact R_sub [2, 0] rfl (key _ (by rw [if_neg b10, if_neg b11]))
              · refine R_iconst (v := 4) dX12_scan_234 (by decide) ?_
                refine R_goto (tgt := 239) dX12_scan_235 (by decide) ?_
                exact R_sub [2, 0] rfl (key _ (by rw [if_neg b10, if_pos b11]))
            · refine R_iconst (v := 3) dX12_scan_224 (by decide) ?_
              refine R_goto (tgt := 239) dX12_scan_225 (by decide) ?_
              exact R_sub [2, 0] rfl (key _ (by rw [if_pos b10]))
          · have hf := hf.2 b9
            refine R_aload_n dX12_scan_139 rfl 2 rfl ?_
            refine R_iload_n dX12_scan_140 rfl 1 rfl ?_
            refine R_bipush (v := 48) dX12_scan_141 (by decide) ?_
            refine R_isub dX12_scan_143 ?_
            refine S12_7 dX12_scan_144 lfX12_166 ob1 ?_
            exact R_sub [2, 3, 0] rfl hf
        · have hf := hf.2 b8
          refine R_iload_n dX12_scan_73 rfl 3 rfl ?_
          refine R_istore_n dX12_scan_74 rfl (by decide) rfl ?_
          exact R_sub [2, 3, 0] rfl hf
      · have hf := hf.2 b7
        refine R_aload_n dX12_scan_56 rfl 2 rfl ?_
        refine R_iconst (v := 5) dX12_scan_57 (by decide) ?_
        refine S12_3 dX12_scan_58 lfX12_152 ob1 ?_
        refine R_iload_n dX12_scan_61 rfl 3 rfl ?_
        refine R_istore_n dX12_scan_62 rfl (by decide) rfl ?_
        refine R_goto (tgt := 242) dX12_scan_63 (by decide) ?_
        refine R_aload_n dX12_scan_242 rfl 2 rfl ?_
        refine R_iload_n dX12_scan_243 rfl 0 rfl ?_
        refine S12_6 dX12_scan_244 lfX12_143 ob1 ?_
        exact R_ret dX12_scan_247 rfl hf
    · have hf := hf.2 b5
      refine R_iinc (v := x1 + 1) dX12_scan_25 1 rfl rfl (by decide) rfl ?_
      refine R_goto (tgt := 5) dX12_scan_28 (by decide) ?_
      exact R_sub [1, 0] rfl hf
set_option maxRecDepth 20000 in
theorem sX12_scan_75 {P : Option Value → AH → Prop} (h : AH) (r0 : Nat) (x1 : Int32) (x3 : Int32) (hf : (isO h 12 r0) ∧ ((isA h 2 (gF h r0 0)) ∧ ((¬ (gI h r0 2) ≤ x3 → vp_in x3 (ln (gF h r0 0))) ∧ ((¬ (¬ (if (gI h r0 2) ≤ x3 then (-1) else ((gI h (gF h r0 0) x3.toNatClampNeg) &&& 255)) < 97 ∧ ¬ 122 < (if (gI h r0 2) ≤ x3 then (-1) else ((gI h (gF h r0 0) x3.toNatClampNeg) &&& 255))) → (¬ ((bi ((x3 - x1) ≤ 8))) = 1 → P none (sI (sI h r0 3 (bi ((x3 - x1) ≤ 8))) r0 6 x3)) ∧ (((bi ((x3 - x1) ≤ 8))) = 1 → Call mX12_keyAt [.ref r0, .int x1, .int (x3 - x1)] (sI h r0 3 (bi ((x3 - x1) ≤ 8))) (fun v h7 => ∃ z8 : Int32, v = some (.int z8) ∧ ((isO h7 12 r0) ∧ (P none (sI (sI h7 r0 4 z8) r0 6 x3)))))) ∧ ((¬ (if (gI h r0 2) ≤ x3 then (-1) else ((gI h (gF h r0 0) x3.toNatClampNeg) &&& 255)) < 97 ∧ ¬ 122 < (if (gI h r0 2) ≤ x3 then (-1) else ((gI h (gF h r0 0) x3.toNatClampNeg) &&& 255))) → Rr mX12_scan 0 0 75 [(0, .ref r0), (1, .int x1), (3, .int (x3 + 1))] [] h P))))) : Rr mX12_scan 0 0 75 [(0, .ref r0), (1, .int x1), (3, .int x3)] [] h P := by
  refine R_aload_n dX12_scan_75 rfl 0 rfl ?_
  refine R_iload_n dX12_scan_76 rfl 2 rfl ?_
  obtain ⟨ob1, hf⟩ := hf
  obtain ⟨ob2, hf⟩ := hf
  obtain ⟨ob3, hf⟩ := hf
  refine R_callV (ci := 12) (N := mX12_byteAt) (as := [.int x3]) (rest := []) (kc2 := 0) (ks2 := 0) dX12_scan_77 lmX12_139 oX12_byteAt (Nat.le_of_ble_eq_true rfl) rfl rfl (Nat.le_of_ble_eq_true rfl) rfl rfl ob1 ok12 (aX12_byteAt ob1 ob2 ob3 ?_)
  refine R_callS (N := mX12_isSmall) (as := [.int (if (gI h r0 2) ≤ x3 then (-1) else ((gI h (gF h r0 0) x3.toNatClampNeg) &&& 255))]) (rest := []) (kc2 := 0) (ks2 := 0) dX12_scan_80 lmX12_155 oX12_isSmall (Nat.le_of_ble_eq_true rfl) rfl rfl (Nat.le_of_ble_eq_true rfl) rfl rfl (aX12_isSmall  ?_)
  refine R_if_eq_b (tgt := 92) dX12_scan_83 (by decide) (fun b4 => ?_) (fun b4 => ?_)
  · have hf := hf.1 b4
    refine R_aload_n dX12_scan_92 rfl 0 rfl ?_
    refine R_iload_n dX12_scan_93 rfl 2 rfl ?_
    refine R_iload_n dX12_scan_94 rfl 1 rfl ?_
    refine R_isub dX12_scan_95 ?_
    refine R_bipush (v := 8) dX12_scan_96 (by decide) ?_
    have key :  Rr mX12_scan 0 0 106 [(0, .ref r0), (1, .int x1), (3, .int x3)] [.int (bi ((x3 - x1) ≤ 8)), .ref r0] h P := by
      refine S12_3 dX12_scan_106 lfX12_152 ob1 ?_
      refine R_aload_n dX12_scan_109 rfl 0 rfl ?_
      refine G12_3 dX12_scan_110 lfX12_152 ob1 ?_
      refine R_eqI (y := (bi ((x3 - x1) ≤ 8))) rd_h ?_
      refine R_iconst (v := 1) dX12_scan_113 (by decide) ?_
      refine R_icmp_ne (tgt := 242) dX12_scan_114 (by decide) (fun b6 => ?_) (fun b6 => ?_)
      · have hf := hf.1 b6
        refine R_aload_n dX12_scan_242 rfl 0 rfl ?_
        refine R_iload_n dX12_scan_243 rfl 2 rfl ?_
        refine S12_6 dX12_scan_244 lfX12_143 ob1 ?_
        exact R_ret dX12_scan_247 rfl hf
      · have hf := hf.2 b6
        refine R_aload_n dX12_scan_117 rfl 0 rfl ?_
        refine R_aload_n dX12_scan_118 rfl 0 rfl ?_
        refine R_iload_n dX12_scan_119 rfl 1 rfl ?_
        refine R_iload_n dX12_scan_120 rfl 2 rfl ?_
        refine R_iload_n dX12_scan_121 rfl 1 rfl ?_
        refine R_isub dX12_scan_122 ?_
        refine R_callV (ci := 12) (N := mX12_keyAt) (as := [.int x1, .int (x3 - x1)]) (rest := [.ref r0]) (kc2 := 0) (ks2 := 0) dX12_scan_123 lmX12_159 oX12_keyAt (Nat.le_of_ble_eq_true rfl) rfl rfl (Nat.le_of_ble_eq_true rfl) rfl rfl ob1 ok12 (Call.mono hf ?_)
        rintro _ h7 ⟨z8, rfl, hf⟩
        obtain ⟨ob9, hf⟩ := hf
        refine S12_4 dX12_scan_126 lfX12_149 ob9 ?_
        refine R_goto (tgt := 242) dX12_scan_129 (by decide) ?_
        refine R_aload_n dX12_scan_242 rfl 0 rfl ?_
        refine R_iload_n dX12_scan_243 rfl 2 rfl ?_
        refine S12_6 dX12_scan_244 lfX12_143 ob9 ?_
        exact R_ret dX12_scan_247 rfl hf
    refine R_icmp_le (tgt := 105) dX12_scan_98 (by decide) (fun b5 => ?_) (fun b5 => ?_)
    · refine R_iconst (v := 1) dX12_scan_105 (by decide) ?_
      have kb := key
      rw [show bi ((x3 - x1) ≤ 8) = 1 from by simp only [bi, b5, false_and, and_false, true_and, and_true, not_true_eq_false, not_false_eq_true, if_true, if_false, true_or, or_true, false_or, or_false, reduceIte]] at kb
      exact R_sub [0, 1, 2] rfl kb
    · refine R_iconst (v := 0) dX12_scan_101 (by decide) ?_
      refine R_goto (tgt := 106) dX12_scan_102 (by decide) ?_
      have kb := key
      rw [show bi ((x3 - x1) ≤ 8) = 0 from by simp only [bi, b5, false_and, and_false, true_and, and_true, not_true_eq_false, not_false_eq_true, if_true, if_false, true_or, or_true, false_or, or_false, reduceIte]] at kb
      exact R_sub [0, 1, 2] rfl kb
  · have hf := hf.2 b4
    refine R_iinc (v := x3 + 1) dX12_scan_86 2 rfl rfl (by decide) rfl ?_
    refine R_goto (tgt := 75) dX12_scan_89 (by decide) ?_
    exact R_sub [1, 2, 0] rfl hf
set_option maxRecDepth 20000 in
theorem sX12_scan_147 {P : Option Value → AH → Prop} (h : AH) (r0 : Nat) (x1 : Int32) (x3 : Int32) (hf : (isO h 12 r0) ∧ ((isA h 2 (gF h r0 0)) ∧ ((¬ (gI h r0 2) ≤ x3 → vp_in x3 (ln (gF h r0 0))) ∧ ((¬ (¬ (if (gI h r0 2) ≤ x3 then (-1) else ((gI h (gF h r0 0) x3.toNatClampNeg) &&& 255)) < 48 ∧ ¬ 57 < (if (gI h r0 2) ≤ x3 then (-1) else ((gI h (gF h r0 0) x3.toNatClampNeg) &&& 255))) → ∀ z6 : Int32, z6 = (if (x3 - x1) ≤ 4 then 2 else 0) → (P none (sI (sI h r0 3 z6) r0 6 x3))) ∧ ((¬ (if (gI h r0 2) ≤ x3 then (-1) else ((gI h (gF h r0 0) x3.toNatClampNeg) &&& 255)) < 48 ∧ ¬ 57 < (if (gI h r0 2) ≤ x3 then (-1) else ((gI h (gF h r0 0) x3.toNatClampNeg) &&& 255))) → ∀ z8 : Int32, z8 = (if 4 ≤ (x3 - x1) then (gI h r0 7) else (((10 * (gI h r0 7)) + (if (gI h r0 2) ≤ x3 then (-1) else ((gI h (gF h r0 0) x3.toNatClampNeg) &&& 255))) - 48)) → (Rr mX12_scan 0 0 147 [(0, .ref r0), (1, .int x1), (3, .int (x3 + 1))] [] (sI h r0 7 z8) P)))))) : Rr mX12_scan 0 0 147 [(0, .ref r0), (1, .int x1), (3, .int x3)] [] h P := by
  refine R_aload_n dX12_scan_147 rfl 0 rfl ?_
  refine R_iload_n dX12_scan_148 rfl 2 rfl ?_
  obtain ⟨ob1, hf⟩ := hf
  obtain ⟨ob2, hf⟩ := hf
  obtain ⟨ob3, hf⟩ := hf
  refine R_callV (ci := 12) (N := mX12_byteAt) (as := [.int x3]) (rest := []) (kc2 := 0) (ks2 := 0) dX12_scan_149 lmX12_139 oX12_byteAt (Nat.le_of_ble_eq_true rfl) rfl rfl (Nat.le_of_ble_eq_true rfl) rfl rfl ob1 ok12 (aX12_byteAt ob1 ob2 ob3 ?_)
  refine R_callS (N := mX12_isDigit) (as := [.int (if (gI h r0 2) ≤ x3 then (-1) else ((gI h (gF h r0 0) x3.toNatClampNeg) &&& 255))]) (rest := []) (kc2 := 0) (ks2 := 0) dX12_scan_152 lmX12_163 oX12_isDigit (Nat.le_of_ble_eq_true rfl) rfl rfl (Nat.le_of_ble_eq_true rfl) rfl rfl (aX12_isDigit  ?_)
  refine R_if_eq_b (tgt := 198) dX12_scan_155 (by decide) (fun b4 => ?_) (fun b4 => ?_)
  · have hf := hf.1 b4
    refine R_aload_n dX12_scan_198 rfl 0 rfl ?_
    refine R_iload_n dX12_scan_199 rfl 2 rfl ?_
    refine R_iload_n dX12_scan_200 rfl 1 rfl ?_
    refine R_isub dX12_scan_201 ?_
    refine R_iconst (v := 4) dX12_scan_202 (by decide) ?_
    have key : ∀ z6 : Int32, z6 = (if (x3 - x1) ≤ 4 then 2 else 0) → Rr mX12_scan 0 0 211 [(0, .ref r0), (3, .int x3)] [.int z6, .ref r0] h P := by
      intro z6 ez6
      have hf := hf z6 ez6
      refine S12_3 dX12_scan_211 lfX12_152 ob1 ?_
      refine R_goto (tgt := 242) dX12_scan_214 (by decide) ?_
      refine R_aload_n dX12_scan_242 rfl 0 rfl ?_
      refine R_iload_n dX12_scan_243 rfl 1 rfl ?_
      refine S12_6 dX12_scan_244 lfX12_143 ob1 ?_
      exact R_ret dX12_scan_247 rfl hf
    refine R_icmp_le (tgt := 210) dX12_scan_203 (by decide) (fun b5 => ?_) (fun b5 => ?_)
    · refine R_iconst (v := 2) dX12_scan_210 (by decide) ?_
      exact R_sub [0, 2] rfl (key _ (by rw [if_pos b5]))
    · refine R_iconst (v := 0) dX12_scan_206 (by decide) ?_
      refine R_goto (tgt := 211) dX12_scan_207 (by decide) ?_
      exact R_sub [0, 2] rfl (key _ (by rw [if_neg b5]))
  · have hf := hf.2 b4
    refine R_aload_n dX12_scan_158 rfl 0 rfl ?_
    refine R_iload_n dX12_scan_159 rfl 2 rfl ?_
    refine R_iload_n dX12_scan_160 rfl 1 rfl ?_
    refine R_isub dX12_scan_161 ?_
    refine R_iconst (v := 4) dX12_scan_162 (by decide) ?_
    have key : ∀ z8 : Int32, z8 = (if 4 ≤ (x3 - x1) then (gI h r0 7) else (((10 * (gI h r0 7)) + (if (gI h r0 2) ≤ x3 then (-1) else ((gI h (gF h r0 0) x3.toNatClampNeg) &&& 255))) - 48)) → Rr mX12_scan 0 0 189 [(0, .ref r0), (1, .int x1), (3, .int x3)] [.int z8, .ref r0] h P := by
      intro z8 ez8
      have hf := hf z8 ez8
      refine S12_7 dX12_scan_189 lfX12_166 ob1 ?_
      refine R_iinc (v := x3 + 1) dX12_scan_192 2 rfl rfl (by decide) rfl ?_
      refine R_goto (tgt := 147) dX12_scan_195 (by decide) ?_
      exact R_sub [1, 2, 0] rfl hf
    refine R_icmp_ge (tgt := 185) dX12_scan_163 (by decide) (fun b7 => ?_) (fun b7 => ?_)
    · refine R_aload_n dX12_scan_185 rfl 0 rfl ?_
      refine G12_7 dX12_scan_186 lfX12_166 ob1 ?_
      exact R_sub [0, 1, 2] rfl (key _ (by rw [if_pos b7]))
    · refine R_bipush (v := 10) dX12_scan_166 (by decide) ?_
      refine R_aload_n dX12_scan_168 rfl 0 rfl ?_
      refine G12_7 dX12_scan_169 lfX12_166 ob1 ?_
      refine R_imul dX12_scan_172 ?_
      refine R_aload_n dX12_scan_173 rfl 0 rfl ?_
      refine R_iload_n dX12_scan_174 rfl 2 rfl ?_
      refine R_callV (ci := 12) (N := mX12_byteAt) (as := [.int x3]) (rest := [.int (10 * (gI h r0 7)), .ref r0]) (kc2 := 0) (ks2 := 0) dX12_scan_175 lmX12_139 oX12_byteAt (Nat.le_of_ble_eq_true rfl) rfl rfl (Nat.le_of_ble_eq_true rfl) rfl rfl ob1 ok12 (aX12_byteAt ob1 ob2 ob3 ?_)
      refine R_iadd dX12_scan_178 ?_
      refine R_bipush (v := 48) dX12_scan_179 (by decide) ?_
      refine R_isub dX12_scan_181 ?_
      refine R_goto (tgt := 189) dX12_scan_182 (by decide) ?_
      exact R_sub [0, 1, 2] rfl (key _ (by rw [if_neg b7]))
theorem dX9_wordIn_0 : decode cX9_wordIn 0 = .ok (.aload_n 0, 1) := by decide +kernel
theorem dX9_wordIn_1 : decode cX9_wordIn 1 = .ok (.getfield 32, 3) := by decide +kernel
theorem dX9_wordIn_4 : decode cX9_wordIn 4 = .ok (.iconst 1, 1) := by decide +kernel
theorem dX9_wordIn_5 : decode cX9_wordIn 5 = .ok (.if_icmp .eq 5, 3) := by decide +kernel
theorem dX9_wordIn_8 : decode cX9_wordIn 8 = .ok (.iconst (-1), 1) := by decide +kernel
theorem dX9_wordIn_9 : decode cX9_wordIn 9 = .ok (.ireturn, 1) := by decide +kernel
theorem dX9_wordIn_10 : decode cX9_wordIn 10 = .ok (.iconst 0, 1) := by decide +kernel
theorem dX9_wordIn_11 : decode cX9_wordIn 11 = .ok (.istore_n 2, 1) := by decide +kernel
theorem dX9_wordIn_12 : decode cX9_wordIn 12 = .ok (.iload_n 2, 1) := by decide +kernel
theorem dX9_wordIn_13 : decode cX9_wordIn 13 = .ok (.bipush 8, 2) := by decide +kernel
theorem dX9_wordIn_15 : decode cX9_wordIn 15 = .ok (.iadd, 1) := by decide +kernel
theorem dX9_wordIn_16 : decode cX9_wordIn 16 = .ok (.aload_n 1, 1) := by decide +kernel
theorem dX9_wordIn_17 : decode cX9_wordIn 17 = .ok (.invokevirtual 51, 3) := by decide +kernel
theorem dX9_wordIn_20 : decode cX9_wordIn 20 = .ok (.if_icmp .gt 23, 3) := by decide +kernel
theorem dX9_wordIn_23 : decode cX9_wordIn 23 = .ok (.aload_n 0, 1) := by decide +kernel
theorem dX9_wordIn_24 : decode cX9_wordIn 24 = .ok (.aload_n 1, 1) := by decide +kernel
theorem dX9_wordIn_25 : decode cX9_wordIn 25 = .ok (.iload_n 2, 1) := by decide +kernel
theorem dX9_wordIn_26 : decode cX9_wordIn 26 = .ok (.invokevirtual 56, 3) := by decide +kernel
theorem dX9_wordIn_29 : decode cX9_wordIn 29 = .ok (.ifCond .eq 8, 3) := by decide +kernel
theorem dX9_wordIn_32 : decode cX9_wordIn 32 = .ok (.iload_n 2, 1) := by decide +kernel
theorem dX9_wordIn_33 : decode cX9_wordIn 33 = .ok (.bipush 8, 2) := by decide +kernel
theorem dX9_wordIn_35 : decode cX9_wordIn 35 = .ok (.idiv, 1) := by decide +kernel
theorem dX9_wordIn_36 : decode cX9_wordIn 36 = .ok (.ireturn, 1) := by decide +kernel
theorem dX9_wordIn_37 : decode cX9_wordIn 37 = .ok (.iinc 2 8, 3) := by decide +kernel
theorem dX9_wordIn_40 : decode cX9_wordIn 40 = .ok (.goto (-28), 3) := by decide +kernel
theorem dX9_wordIn_43 : decode cX9_wordIn 43 = .ok (.iconst (-1), 1) := by decide +kernel
theorem dX9_wordIn_44 : decode cX9_wordIn 44 = .ok (.ireturn, 1) := by decide +kernel
set_option maxRecDepth 20000 in
theorem sX9_wordIn_0 {P : Option Value → AH → Prop} (h : AH) (r0 : Nat) (j1 : Nat) (hf : (isO h 9 r0) ∧ (((gI h r0 3) = 1 → Rr mX9_wordIn 0 0 12 [(0, .ref r0), (1, .ref (1000 + j1)), (2, .int 0)] [] h P) ∧ (¬ (gI h r0 3) = 1 → P (some (.int (-1))) h))) : Rr mX9_wordIn 0 0 0 [(0, .ref r0), (1, .ref (1000 + j1))] [] h P := by
  refine R_aload_n dX9_wordIn_0 rfl 0 rfl ?_
  obtain ⟨ob1, hf⟩ := hf
  refine G9_3 dX9_wordIn_1 lfX9_32 ob1 ?_
  refine R_iconst (v := 1) dX9_wordIn_4 (by decide) ?_
  refine R_icmp_eq (tgt := 10) dX9_wordIn_5 (by decide) (fun b2 => ?_) (fun b2 => ?_)
  · have hf := hf.1 b2
    refine R_iconst (v := 0) dX9_wordIn_10 (by decide) ?_
    refine R_istore_n dX9_wordIn_11 rfl (by decide) rfl ?_
    exact R_sub [1, 2, 0] rfl hf
  · have hf := hf.2 b2
    refine R_iconst (v := (-1)) dX9_wordIn_8 (by decide) ?_
    exact R_iret dX9_wordIn_9 rfl rfl hf
set_option maxRecDepth 20000 in
theorem sX9_wordIn_12 {P : Option Value → AH → Prop} (h : AH) (r0 : Nat) (j1 : Nat) (x2 : Int32) (hf : (j1 < 3) ∧ (Call mJ0_length_8abf5 [.ref (1000 + j1)] h (fun v h2 => ∃ z3 : Int32, v = some (.int z3) ∧ ((z3 < (x2 + 8) → P (some (.int (-1))) h2) ∧ (¬ z3 < (x2 + 8) → (isO h2 9 r0) ∧ (Call mX9_spells [.ref r0, .ref (1000 + j1), .int x2] h2 (fun v h6 => ∃ z7 : Int32, v = some (.int z7) ∧ ((z7 = 0 → Rr mX9_wordIn 0 0 12 [(0, .ref r0), (1, .ref (1000 + j1)), (2, .int (x2 + 8))] [] h6 P) ∧ (¬ z7 = 0 → P (some (.int (x2 / 8))) h6))))))))) : Rr mX9_wordIn 0 0 12 [(0, .ref r0), (1, .ref (1000 + j1)), (2, .int x2)] [] h P := by
  refine R_iload_n dX9_wordIn_12 rfl 2 rfl ?_
  refine R_bipush (v := 8) dX9_wordIn_13 (by decide) ?_
  refine R_iadd dX9_wordIn_15 ?_
  refine R_aload_n dX9_wordIn_16 rfl 1 rfl ?_
  obtain ⟨ob1, hf⟩ := hf
  refine R_callStr (j := j1) (N := mJ0_length_8abf5) (as := []) (rest := [.int (x2 + 8)]) (kc2 := 0) (ks2 := 0) dX9_wordIn_17 lmX9_51 oJ0_length_8abf5 rfl (Nat.le_of_ble_eq_true rfl) rfl rfl (Nat.le_of_ble_eq_true rfl) rfl rfl ob1 (Call.mono hf ?_)
  rintro _ h2 ⟨z3, rfl, hf⟩
  refine R_icmp_gt (tgt := 43) dX9_wordIn_20 (by decide) (fun b4 => ?_) (fun b4 => ?_)
  · have hf := hf.1 b4
    refine R_iconst (v := (-1)) dX9_wordIn_43 (by decide) ?_
    exact R_iret dX9_wordIn_44 rfl rfl hf
  · have hf := hf.2 b4
    refine R_aload_n dX9_wordIn_23 rfl 0 rfl ?_
    refine R_aload_n dX9_wordIn_24 rfl 1 rfl ?_
    refine R_iload_n dX9_wordIn_25 rfl 2 rfl ?_
    obtain ⟨ob5, hf⟩ := hf
    refine R_callV (ci := 9) (N := mX9_spells) (as := [.ref (1000 + j1), .int x2]) (rest := []) (kc2 := 0) (ks2 := 0) dX9_wordIn_26 lmX9_56 oX9_spells (Nat.le_of_ble_eq_true rfl) rfl rfl (Nat.le_of_ble_eq_true rfl) rfl rfl ob5 ok9 (Call.mono hf ?_)
    rintro _ h6 ⟨z7, rfl, hf⟩
    refine R_if_eq (tgt := 37) dX9_wordIn_29 (by decide) (fun b8 => ?_) (fun b8 => ?_)
    · have hf := hf.1 b8
      refine R_iinc (v := x2 + 8) dX9_wordIn_37 2 rfl rfl (by decide) rfl ?_
      refine R_goto (tgt := 12) dX9_wordIn_40 (by decide) ?_
      exact R_sub [1, 2, 0] rfl hf
    · have hf := hf.2 b8
      refine R_iload_n dX9_wordIn_32 rfl 2 rfl ?_
      refine R_bipush (v := 8) dX9_wordIn_33 (by decide) ?_
      refine R_idiv dX9_wordIn_35 (by decide) ?_
      exact R_iret dX9_wordIn_36 rfl rfl hf
theorem dX12_readNumber_0 : decode cX12_readNumber 0 = .ok (.aload_n 0, 1) := by decide +kernel
theorem dX12_readNumber_1 : decode cX12_readNumber 1 = .ok (.getfield 152, 3) := by decide +kernel
theorem dX12_readNumber_4 : decode cX12_readNumber 4 = .ok (.iconst 2, 1) := by decide +kernel
theorem dX12_readNumber_5 : decode cX12_readNumber 5 = .ok (.if_icmp .eq 9, 3) := by decide +kernel
theorem dX12_readNumber_8 : decode cX12_readNumber 8 = .ok (.aload_n 0, 1) := by decide +kernel
theorem dX12_readNumber_9 : decode cX12_readNumber 9 = .ok (.iconst 1, 1) := by decide +kernel
theorem dX12_readNumber_10 : decode cX12_readNumber 10 = .ok (.invokevirtual 175, 3) := by decide +kernel
theorem dX12_readNumber_13 : decode cX12_readNumber 13 = .ok (.ireturn, 1) := by decide +kernel
theorem dX12_readNumber_14 : decode cX12_readNumber 14 = .ok (.aload_n 0, 1) := by decide +kernel
theorem dX12_readNumber_15 : decode cX12_readNumber 15 = .ok (.getfield 166, 3) := by decide +kernel
theorem dX12_readNumber_18 : decode cX12_readNumber 18 = .ok (.iload_n 1, 1) := by decide +kernel
theorem dX12_readNumber_19 : decode cX12_readNumber 19 = .ok (.iload_n 2, 1) := by decide +kernel
theorem dX12_readNumber_20 : decode cX12_readNumber 20 = .ok (.invokestatic 178, 3) := by decide +kernel
theorem dX12_readNumber_23 : decode cX12_readNumber 23 = .ok (.ifCond .ne 9, 3) := by decide +kernel
theorem dX12_readNumber_26 : decode cX12_readNumber 26 = .ok (.aload_n 0, 1) := by decide +kernel
theorem dX12_readNumber_27 : decode cX12_readNumber 27 = .ok (.iconst 2, 1) := by decide +kernel
theorem dX12_readNumber_28 : decode cX12_readNumber 28 = .ok (.invokevirtual 175, 3) := by decide +kernel
theorem dX12_readNumber_31 : decode cX12_readNumber 31 = .ok (.ireturn, 1) := by decide +kernel
theorem dX12_readNumber_32 : decode cX12_readNumber 32 = .ok (.aload_n 0, 1) := by decide +kernel
theorem dX12_readNumber_33 : decode cX12_readNumber 33 = .ok (.aload_n 0, 1) := by decide +kernel
theorem dX12_readNumber_34 : decode cX12_readNumber 34 = .ok (.getfield 166, 3) := by decide +kernel
theorem dX12_readNumber_37 : decode cX12_readNumber 37 = .ok (.putfield 182, 3) := by decide +kernel
theorem dX12_readNumber_40 : decode cX12_readNumber 40 = .ok (.aload_n 0, 1) := by decide +kernel
theorem dX12_readNumber_41 : decode cX12_readNumber 41 = .ok (.invokevirtual 169, 3) := by decide +kernel
theorem dX12_readNumber_44 : decode cX12_readNumber 44 = .ok (.iconst 1, 1) := by decide +kernel
theorem dX12_readNumber_45 : decode cX12_readNumber 45 = .ok (.ireturn, 1) := by decide +kernel
set_option maxRecDepth 20000 in
theorem sX12_readNumber_0 {P : Option Value → AH → Prop} (h : AH) (r0 : Nat) (x1 : Int32) (x2 : Int32) (hf : (isO h 12 r0) ∧ (((gI h r0 3) = 2 → ((¬ (gI h r0 7) < x1 ∧ ¬ x2 < (gI h r0 7)) → Call mX12_scan [.ref r0] (sI h r0 10 (gI h r0 7)) (fun v h4 => v = none ∧ (P (some (.int 1)) h4))) ∧ (¬ (¬ (gI h r0 7) < x1 ∧ ¬ x2 < (gI h r0 7)) → Call mX12_fails [.ref r0, .int 2] h (fun v h5 => ∃ z6 : Int32, v = some (.int z6) ∧ ((z6 = 0 ∨ z6 = 1) ∧ (P (some (.int z6)) h5))))) ∧ (¬ (gI h r0 3) = 2 → Call mX12_fails [.ref r0, .int 1] h (fun v h8 => ∃ z9 : Int32, v = some (.int z9) ∧ ((z9 = 0 ∨ z9 = 1) ∧ (P (some (.int z9)) h8)))))) : Rr mX12_readNumber 0 0 0 [(0, .ref r0), (1, .int x1), (2, .int x2)] [] h P := by
  refine R_aload_n dX12_readNumber_0 rfl 0 rfl ?_
  obtain ⟨ob1, hf⟩ := hf
  refine G12_3 dX12_readNumber_1 lfX12_152 ob1 ?_
  refine R_iconst (v := 2) dX12_readNumber_4 (by decide) ?_
  refine R_icmp_eq (tgt := 14) dX12_readNumber_5 (by decide) (fun b2 => ?_) (fun b2 => ?_)
  · have hf := hf.1 b2
    refine R_aload_n dX12_readNumber_14 rfl 0 rfl ?_
    refine G12_7 dX12_readNumber_15 lfX12_166 ob1 ?_
    refine R_iload_n dX12_readNumber_18 rfl 1 rfl ?_
    refine R_iload_n dX12_readNumber_19 rfl 2 rfl ?_
    refine R_callS (N := mX12_in) (as := [.int (gI h r0 7), .int x1, .int x2]) (rest := []) (kc2 := 0) (ks2 := 0) dX12_readNumber_20 lmX12_178 oX12_in (Nat.le_of_ble_eq_true rfl) rfl rfl (Nat.le_of_ble_eq_true rfl) rfl rfl (aX12_in  ?_)
    refine R_if_ne_b (tgt := 32) dX12_readNumber_23 (by decide) (fun b3 => ?_) (fun b3 => ?_)
    · have hf := hf.1 b3
      refine R_aload_n dX12_readNumber_32 rfl 0 rfl ?_
      refine R_aload_n dX12_readNumber_33 rfl 0 rfl ?_
      refine G12_7 dX12_readNumber_34 lfX12_166 ob1 ?_
      refine S12_10 dX12_readNumber_37 lfX12_182 ob1 ?_
      refine R_aload_n dX12_readNumber_40 rfl 0 rfl ?_
      refine R_callV (ci := 12) (N := mX12_scan) (as := []) (rest := []) (kc2 := 0) (ks2 := 0) dX12_readNumber_41 lmX12_169 oX12_scan (Nat.le_of_ble_eq_true rfl) rfl rfl (Nat.le_of_ble_eq_true rfl) rfl rfl ob1 ok12 (Call.mono hf ?_)
      rintro _ h4 ⟨rfl, hf⟩
      refine R_iconst (v := 1) dX12_readNumber_44 (by decide) ?_
      exact R_iret dX12_readNumber_45 rfl rfl hf
    · have hf := hf.2 b3
      refine R_aload_n dX12_readNumber_26 rfl 0 rfl ?_
      refine R_iconst (v := 2) dX12_readNumber_27 (by decide) ?_
      refine R_callV (ci := 12) (N := mX12_fails) (as := [.int 2]) (rest := []) (kc2 := 0) (ks2 := 0) dX12_readNumber_28 lmX12_175 oX12_fails (Nat.le_of_ble_eq_true rfl) rfl rfl (Nat.le_of_ble_eq_true rfl) rfl rfl ob1 ok12 (Call.mono hf ?_)
      rintro _ h5 ⟨z6, rfl, hf⟩
      obtain ⟨ob7, hf⟩ := hf
      exact R_iret dX12_readNumber_31 rfl (nb_n ob7) hf
  · have hf := hf.2 b2
    refine R_aload_n dX12_readNumber_8 rfl 0 rfl ?_
    refine R_iconst (v := 1) dX12_readNumber_9 (by decide) ?_
    refine R_callV (ci := 12) (N := mX12_fails) (as := [.int 1]) (rest := []) (kc2 := 0) (ks2 := 0) dX12_readNumber_10 lmX12_175 oX12_fails (Nat.le_of_ble_eq_true rfl) rfl rfl (Nat.le_of_ble_eq_true rfl) rfl rfl ob1 ok12 (Call.mono hf ?_)
    rintro _ h8 ⟨z9, rfl, hf⟩
    obtain ⟨ob10, hf⟩ := hf
    exact R_iret dX12_readNumber_13 rfl (nb_n ob10) hf
theorem dX12_start_0 : decode cX12_start 0 = .ok (.aload_n 0, 1) := by decide +kernel
theorem dX12_start_1 : decode cX12_start 1 = .ok (.aload_n 0, 1) := by decide +kernel
theorem dX12_start_2 : decode cX12_start 2 = .ok (.getfield 121, 3) := by decide +kernel
theorem dX12_start_5 : decode cX12_start 5 = .ok (.putfield 124, 3) := by decide +kernel
theorem dX12_start_8 : decode cX12_start 8 = .ok (.aload_n 0, 1) := by decide +kernel
theorem dX12_start_9 : decode cX12_start 9 = .ok (.iconst 0, 1) := by decide +kernel
theorem dX12_start_10 : decode cX12_start 10 = .ok (.putfield 121, 3) := by decide +kernel
theorem dX12_start_13 : decode cX12_start 13 = .ok (.aload_n 0, 1) := by decide +kernel
theorem dX12_start_14 : decode cX12_start 14 = .ok (.iconst 0, 1) := by decide +kernel
theorem dX12_start_15 : decode cX12_start 15 = .ok (.putfield 143, 3) := by decide +kernel
theorem dX12_start_18 : decode cX12_start 18 = .ok (.aload_n 0, 1) := by decide +kernel
theorem dX12_start_19 : decode cX12_start 19 = .ok (.invokevirtual 169, 3) := by decide +kernel
theorem dX12_start_22 : decode cX12_start 22 = .ok (.return_, 1) := by decide +kernel
set_option maxRecDepth 20000 in
theorem sX12_start_0 {P : Option Value → AH → Prop} (h : AH) (r0 : Nat) (hf : (isO h 12 r0) ∧ (Call mX12_scan [.ref r0] (sI (sI (sI h r0 2 (gI h r0 1)) r0 1 0) r0 6 0) (fun v h2 => v = none ∧ (P none h2)))) : Rr mX12_start 0 0 0 [(0, .ref r0)] [] h P := by
  refine R_aload_n dX12_start_0 rfl 0 rfl ?_
  refine R_aload_n dX12_start_1 rfl 0 rfl ?_
  obtain ⟨ob1, hf⟩ := hf
  refine G12_1 dX12_start_2 lfX12_121 ob1 ?_
  refine S12_2 dX12_start_5 lfX12_124 ob1 ?_
  refine R_aload_n dX12_start_8 rfl 0 rfl ?_
  refine R_iconst (v := 0) dX12_start_9 (by decide) ?_
  refine S12_1 dX12_start_10 lfX12_121 ob1 ?_
  refine R_aload_n dX12_start_13 rfl 0 rfl ?_
  refine R_iconst (v := 0) dX12_start_14 (by decide) ?_
  refine S12_6 dX12_start_15 lfX12_143 ob1 ?_
  refine R_aload_n dX12_start_18 rfl 0 rfl ?_
  refine R_callV (ci := 12) (N := mX12_scan) (as := []) (rest := []) (kc2 := 0) (ks2 := 0) dX12_start_19 lmX12_169 oX12_scan (Nat.le_of_ble_eq_true rfl) rfl rfl (Nat.le_of_ble_eq_true rfl) rfl rfl ob1 ok12 (Call.mono hf ?_)
  rintro _ h2 ⟨rfl, hf⟩
  exact R_ret dX12_start_22 rfl hf
theorem dX4_ink_0 : decode cX4_ink 0 = .ok (.aload_n 0, 1) := by decide +kernel
theorem dX4_ink_1 : decode cX4_ink 1 = .ok (.getfield 38, 3) := by decide +kernel
theorem dX4_ink_4 : decode cX4_ink 4 = .ok (.ifCond .eq 5, 3) := by decide +kernel
theorem dX4_ink_7 : decode cX4_ink 7 = .ok (.iconst 0, 1) := by decide +kernel
theorem dX4_ink_8 : decode cX4_ink 8 = .ok (.ireturn, 1) := by decide +kernel
theorem dX4_ink_9 : decode cX4_ink 9 = .ok (.aload_n 0, 1) := by decide +kernel
theorem dX4_ink_10 : decode cX4_ink 10 = .ok (.getfield 12, 3) := by decide +kernel
theorem dX4_ink_13 : decode cX4_ink 13 = .ok (.invokevirtual 44, 3) := by decide +kernel
theorem dX4_ink_16 : decode cX4_ink 16 = .ok (.aload_n 0, 1) := by decide +kernel
theorem dX4_ink_17 : decode cX4_ink 17 = .ok (.getfield 12, 3) := by decide +kernel
theorem dX4_ink_20 : decode cX4_ink 20 = .ok (.ldc 171, 2) := by decide +kernel
theorem dX4_ink_22 : decode cX4_ink 22 = .ok (.invokevirtual 61, 3) := by decide +kernel
theorem dX4_ink_25 : decode cX4_ink 25 = .ok (.istore_n 1, 1) := by decide +kernel
theorem dX4_ink_26 : decode cX4_ink 26 = .ok (.iload_n 1, 1) := by decide +kernel
theorem dX4_ink_27 : decode cX4_ink 27 = .ok (.invokestatic 173, 3) := by decide +kernel
theorem dX4_ink_30 : decode cX4_ink 30 = .ok (.ifCond .ne 10, 3) := by decide +kernel
theorem dX4_ink_33 : decode cX4_ink 33 = .ok (.aload_n 0, 1) := by decide +kernel
theorem dX4_ink_34 : decode cX4_ink 34 = .ok (.iconst 1, 1) := by decide +kernel
theorem dX4_ink_35 : decode cX4_ink 35 = .ok (.invokevirtual 99, 3) := by decide +kernel
theorem dX4_ink_38 : decode cX4_ink 38 = .ok (.iconst 0, 1) := by decide +kernel
theorem dX4_ink_39 : decode cX4_ink 39 = .ok (.ireturn, 1) := by decide +kernel
theorem dX4_ink_40 : decode cX4_ink 40 = .ok (.iload_n 1, 1) := by decide +kernel
theorem dX4_ink_41 : decode cX4_ink 41 = .ok (.ireturn, 1) := by decide +kernel
set_option maxRecDepth 20000 in
theorem sX4_ink_0 {P : Option Value → AH → Prop} (h : AH) (r0 : Nat) (hf : (isO h 4 r0) ∧ (((gI h r0 4) = 0 → (isO h 9 (gF h r0 0)) ∧ (Call mX9_next [.ref (gF h r0 0)] h (fun v h4 => v = none ∧ ((isO h4 4 r0) ∧ ((isO h4 9 (gF h4 r0 0)) ∧ (Call mX9_wordIn [.ref (gF h4 r0 0), .ref (1000 + 1)] h4 (fun v h7 => ∃ z8 : Int32, v = some (.int z8) ∧ (((¬ z8 < 0 ∧ ¬ 4 ≤ z8) → P (some (.int z8)) h7) ∧ (¬ (¬ z8 < 0 ∧ ¬ 4 ≤ z8) → (isO h7 4 r0) ∧ (Call mX4_refuse [.ref r0, .int 1] h7 (fun v h11 => v = none ∧ (P (some (.int 0)) h11)))))))))))) ∧ (¬ (gI h r0 4) = 0 → P (some (.int 0)) h))) : Rr mX4_ink 0 0 0 [(0, .ref r0)] [] h P := by
  refine R_aload_n dX4_ink_0 rfl 0 rfl ?_
  obtain ⟨ob1, hf⟩ := hf
  refine G4_4 dX4_ink_1 lfX4_38 ob1 ?_
  refine R_if_eq (tgt := 9) dX4_ink_4 (by decide) (fun b2 => ?_) (fun b2 => ?_)
  · have hf := hf.1 b2
    refine R_aload_n dX4_ink_9 rfl 0 rfl ?_
    refine G4_0 dX4_ink_10 lfX4_12 ob1 ?_
    obtain ⟨ob3, hf⟩ := hf
    refine R_callV (ci := 9) (N := mX9_next) (as := []) (rest := []) (kc2 := 0) (ks2 := 0) dX4_ink_13 lmX4_44 oX9_next (Nat.le_of_ble_eq_true rfl) rfl rfl (Nat.le_of_ble_eq_true rfl) rfl rfl ob3 ok9 (Call.mono hf ?_)
    rintro _ h4 ⟨rfl, hf⟩
    refine R_aload_n dX4_ink_16 rfl 0 rfl ?_
    obtain ⟨ob5, hf⟩ := hf
    refine G4_0 dX4_ink_17 lfX4_12 ob5 ?_
    refine R_ldcS 1 dX4_ink_20 rfl ?_
    obtain ⟨ob6, hf⟩ := hf
    refine R_callV (ci := 9) (N := mX9_wordIn) (as := [.ref (1000 + 1)]) (rest := []) (kc2 := 0) (ks2 := 0) dX4_ink_22 lmX4_61 oX9_wordIn (Nat.le_of_ble_eq_true rfl) rfl rfl (Nat.le_of_ble_eq_true rfl) rfl rfl ob6 ok9 (Call.mono hf ?_)
    rintro _ h7 ⟨z8, rfl, hf⟩
    refine R_istore_n dX4_ink_25 rfl (by decide) rfl ?_
    refine R_iload_n dX4_ink_26 rfl 0 rfl ?_
    refine R_callSN (N := mX11_isInk) (as := [.int z8]) (rest := []) (kc2 := 0) (ks2 := 0) dX4_ink_27 lnX4_173 oX11_isInk (Nat.le_of_ble_eq_true rfl) rfl rfl (Nat.le_of_ble_eq_true rfl) rfl rfl (aX11_isInk  ?_)
    refine R_if_ne_b (tgt := 40) dX4_ink_30 (by decide) (fun b9 => ?_) (fun b9 => ?_)
    · have hf := hf.1 b9
      refine R_iload_n dX4_ink_40 rfl 0 rfl ?_
      exact R_iret dX4_ink_41 rfl rfl hf
    · have hf := hf.2 b9
      refine R_aload_n dX4_ink_33 rfl 1 rfl ?_
      refine R_iconst (v := 1) dX4_ink_34 (by decide) ?_
      obtain ⟨ob10, hf⟩ := hf
      refine R_callV (ci := 4) (N := mX4_refuse) (as := [.int 1]) (rest := []) (kc2 := 0) (ks2 := 0) dX4_ink_35 lmX4_99 oX4_refuse (Nat.le_of_ble_eq_true rfl) rfl rfl (Nat.le_of_ble_eq_true rfl) rfl rfl ob10 ok4 (Call.mono hf ?_)
      rintro _ h11 ⟨rfl, hf⟩
      refine R_iconst (v := 0) dX4_ink_38 (by decide) ?_
      exact R_iret dX4_ink_39 rfl rfl hf
  · have hf := hf.2 b2
    refine R_iconst (v := 0) dX4_ink_7 (by decide) ?_
    exact R_iret dX4_ink_8 rfl rfl hf
theorem dX12_causes_0 : decode cX12_causes 0 = .ok (.aload_n 0, 1) := by decide +kernel
theorem dX12_causes_1 : decode cX12_causes 1 = .ok (.invokevirtual 250, 3) := by decide +kernel
theorem dX12_causes_4 : decode cX12_causes 4 = .ok (.iload_n 1, 1) := by decide +kernel
theorem dX12_causes_5 : decode cX12_causes 5 = .ok (.iconst 0, 1) := by decide +kernel
theorem dX12_causes_6 : decode cX12_causes 6 = .ok (.bipush 99, 2) := by decide +kernel
theorem dX12_causes_8 : decode cX12_causes 8 = .ok (.invokestatic 178, 3) := by decide +kernel
theorem dX12_causes_11 : decode cX12_causes 11 = .ok (.ifCond .ne 6, 3) := by decide +kernel
theorem dX12_causes_14 : decode cX12_causes 14 = .ok (.bipush (-2), 2) := by decide +kernel
theorem dX12_causes_16 : decode cX12_causes 16 = .ok (.ireturn, 1) := by decide +kernel
theorem dX12_causes_17 : decode cX12_causes 17 = .ok (.iconst 0, 1) := by decide +kernel
theorem dX12_causes_18 : decode cX12_causes 18 = .ok (.istore_n 2, 1) := by decide +kernel
theorem dX12_causes_19 : decode cX12_causes 19 = .ok (.aload_n 0, 1) := by decide +kernel
theorem dX12_causes_20 : decode cX12_causes 20 = .ok (.getfield 152, 3) := by decide +kernel
theorem dX12_causes_23 : decode cX12_causes 23 = .ok (.iconst 2, 1) := by decide +kernel
theorem dX12_causes_24 : decode cX12_causes 24 = .ok (.if_icmp .eq 11, 3) := by decide +kernel
theorem dX12_causes_27 : decode cX12_causes 27 = .ok (.aload_n 0, 1) := by decide +kernel
theorem dX12_causes_28 : decode cX12_causes 28 = .ok (.getfield 152, 3) := by decide +kernel
theorem dX12_causes_31 : decode cX12_causes 31 = .ok (.iconst 4, 1) := by decide +kernel
theorem dX12_causes_32 : decode cX12_causes 32 = .ok (.if_icmp .ne 83, 3) := by decide +kernel
theorem dX12_causes_35 : decode cX12_causes 35 = .ok (.aload_n 0, 1) := by decide +kernel
theorem dX12_causes_36 : decode cX12_causes 36 = .ok (.getfield 152, 3) := by decide +kernel
theorem dX12_causes_39 : decode cX12_causes 39 = .ok (.iconst 4, 1) := by decide +kernel
theorem dX12_causes_40 : decode cX12_causes 40 = .ok (.if_icmp .ne 7, 3) := by decide +kernel
theorem dX12_causes_43 : decode cX12_causes 43 = .ok (.iconst 1, 1) := by decide +kernel
theorem dX12_causes_44 : decode cX12_causes 44 = .ok (.goto 4, 3) := by decide +kernel
theorem dX12_causes_47 : decode cX12_causes 47 = .ok (.iconst 0, 1) := by decide +kernel
theorem dX12_causes_48 : decode cX12_causes 48 = .ok (.istore_n 3, 1) := by decide +kernel
theorem dX12_causes_49 : decode cX12_causes 49 = .ok (.iload_n 3, 1) := by decide +kernel
theorem dX12_causes_50 : decode cX12_causes 50 = .ok (.ifCond .eq 7, 3) := by decide +kernel
theorem dX12_causes_53 : decode cX12_causes 53 = .ok (.aload_n 0, 1) := by decide +kernel
theorem dX12_causes_54 : decode cX12_causes 54 = .ok (.invokevirtual 169, 3) := by decide +kernel
theorem dX12_causes_57 : decode cX12_causes 57 = .ok (.aload_n 0, 1) := by decide +kernel
theorem dX12_causes_58 : decode cX12_causes 58 = .ok (.getfield 152, 3) := by decide +kernel
theorem dX12_causes_61 : decode cX12_causes 61 = .ok (.iconst 2, 1) := by decide +kernel
theorem dX12_causes_62 : decode cX12_causes 62 = .ok (.if_icmp .ne 19, 3) := by decide +kernel
theorem dX12_causes_65 : decode cX12_causes 65 = .ok (.aload_n 0, 1) := by decide +kernel
theorem dX12_causes_66 : decode cX12_causes 66 = .ok (.getfield 166, 3) := by decide +kernel
theorem dX12_causes_69 : decode cX12_causes 69 = .ok (.sipush 999, 3) := by decide +kernel
theorem dX12_causes_72 : decode cX12_causes 72 = .ok (.if_icmp .gt 9, 3) := by decide +kernel
theorem dX12_causes_75 : decode cX12_causes 75 = .ok (.iload_n 2, 1) := by decide +kernel
theorem dX12_causes_76 : decode cX12_causes 76 = .ok (.bipush 24, 2) := by decide +kernel
theorem dX12_causes_78 : decode cX12_causes 78 = .ok (.if_icmp .ne 5, 3) := by decide +kernel
theorem dX12_causes_81 : decode cX12_causes 81 = .ok (.iconst (-1), 1) := by decide +kernel
theorem dX12_causes_82 : decode cX12_causes 82 = .ok (.ireturn, 1) := by decide +kernel
theorem dX12_causes_83 : decode cX12_causes 83 = .ok (.aload_n 0, 1) := by decide +kernel
theorem dX12_causes_84 : decode cX12_causes 84 = .ok (.getfield 99, 3) := by decide +kernel
theorem dX12_causes_87 : decode cX12_causes 87 = .ok (.iload_n 2, 1) := by decide +kernel
theorem dX12_causes_88 : decode cX12_causes 88 = .ok (.iload_n 3, 1) := by decide +kernel
theorem dX12_causes_89 : decode cX12_causes 89 = .ok (.ifCond .eq 11, 3) := by decide +kernel
theorem dX12_causes_92 : decode cX12_causes 92 = .ok (.aload_n 0, 1) := by decide +kernel
theorem dX12_causes_93 : decode cX12_causes 93 = .ok (.getfield 166, 3) := by decide +kernel
theorem dX12_causes_96 : decode cX12_causes 96 = .ok (.ineg, 1) := by decide +kernel
theorem dX12_causes_97 : decode cX12_causes 97 = .ok (.goto 7, 3) := by decide +kernel
theorem dX12_causes_100 : decode cX12_causes 100 = .ok (.aload_n 0, 1) := by decide +kernel
theorem dX12_causes_101 : decode cX12_causes 101 = .ok (.getfield 166, 3) := by decide +kernel
theorem dX12_causes_104 : decode cX12_causes 104 = .ok (.iastore, 1) := by decide +kernel
theorem dX12_causes_105 : decode cX12_causes 105 = .ok (.iinc 2 1, 3) := by decide +kernel
theorem dX12_causes_108 : decode cX12_causes 108 = .ok (.aload_n 0, 1) := by decide +kernel
theorem dX12_causes_109 : decode cX12_causes 109 = .ok (.invokevirtual 169, 3) := by decide +kernel
theorem dX12_causes_112 : decode cX12_causes 112 = .ok (.goto (-93), 3) := by decide +kernel
theorem dX12_causes_115 : decode cX12_causes 115 = .ok (.aload_n 0, 1) := by decide +kernel
theorem dX12_causes_116 : decode cX12_causes 116 = .ok (.getfield 152, 3) := by decide +kernel
theorem dX12_causes_119 : decode cX12_causes 119 = .ok (.iconst 5, 1) := by decide +kernel
theorem dX12_causes_120 : decode cX12_causes 120 = .ok (.if_icmp .ne 7, 3) := by decide +kernel
theorem dX12_causes_123 : decode cX12_causes 123 = .ok (.iload_n 2, 1) := by decide +kernel
theorem dX12_causes_124 : decode cX12_causes 124 = .ok (.ifCond .ne 5, 3) := by decide +kernel
theorem dX12_causes_127 : decode cX12_causes 127 = .ok (.iconst (-1), 1) := by decide +kernel
theorem dX12_causes_128 : decode cX12_causes 128 = .ok (.ireturn, 1) := by decide +kernel
theorem dX12_causes_129 : decode cX12_causes 129 = .ok (.aload_n 0, 1) := by decide +kernel
theorem dX12_causes_130 : decode cX12_causes 130 = .ok (.iconst 0, 1) := by decide +kernel
theorem dX12_causes_131 : decode cX12_causes 131 = .ok (.iload_n 2, 1) := by decide +kernel
theorem dX12_causes_132 : decode cX12_causes 132 = .ok (.iconst 0, 1) := by decide +kernel
theorem dX12_causes_133 : decode cX12_causes 133 = .ok (.iload_n 1, 1) := by decide +kernel
theorem dX12_causes_134 : decode cX12_causes 134 = .ok (.invokevirtual 342, 3) := by decide +kernel
theorem dX12_causes_137 : decode cX12_causes 137 = .ok (.ifCond .eq 5, 3) := by decide +kernel
theorem dX12_causes_140 : decode cX12_causes 140 = .ok (.iconst 1, 1) := by decide +kernel
theorem dX12_causes_141 : decode cX12_causes 141 = .ok (.ireturn, 1) := by decide +kernel
theorem dX12_causes_142 : decode cX12_causes 142 = .ok (.iconst 0, 1) := by decide +kernel
theorem dX12_causes_143 : decode cX12_causes 143 = .ok (.istore_n 3, 1) := by decide +kernel
theorem dX12_causes_144 : decode cX12_causes 144 = .ok (.iconst 1, 1) := by decide +kernel
theorem dX12_causes_145 : decode cX12_causes 145 = .ok (.istore 4, 2) := by decide +kernel
theorem dX12_causes_147 : decode cX12_causes 147 = .ok (.iload 4, 2) := by decide +kernel
theorem dX12_causes_149 : decode cX12_causes 149 = .ok (.iload_n 2, 1) := by decide +kernel
theorem dX12_causes_150 : decode cX12_causes 150 = .ok (.if_icmp .ge 37, 3) := by decide +kernel
theorem dX12_causes_153 : decode cX12_causes 153 = .ok (.aload_n 0, 1) := by decide +kernel
theorem dX12_causes_154 : decode cX12_causes 154 = .ok (.iconst 0, 1) := by decide +kernel
theorem dX12_causes_155 : decode cX12_causes 155 = .ok (.iload 4, 2) := by decide +kernel
theorem dX12_causes_157 : decode cX12_causes 157 = .ok (.iconst 0, 1) := by decide +kernel
theorem dX12_causes_158 : decode cX12_causes 158 = .ok (.iload_n 1, 1) := by decide +kernel
theorem dX12_causes_159 : decode cX12_causes 159 = .ok (.invokevirtual 342, 3) := by decide +kernel
theorem dX12_causes_162 : decode cX12_causes 162 = .ok (.ifCond .eq 19, 3) := by decide +kernel
theorem dX12_causes_165 : decode cX12_causes 165 = .ok (.aload_n 0, 1) := by decide +kernel
theorem dX12_causes_166 : decode cX12_causes 166 = .ok (.iload 4, 2) := by decide +kernel
theorem dX12_causes_168 : decode cX12_causes 168 = .ok (.iload_n 2, 1) := by decide +kernel
theorem dX12_causes_169 : decode cX12_causes 169 = .ok (.iconst 0, 1) := by decide +kernel
theorem dX12_causes_170 : decode cX12_causes 170 = .ok (.iload_n 1, 1) := by decide +kernel
theorem dX12_causes_171 : decode cX12_causes 171 = .ok (.invokevirtual 342, 3) := by decide +kernel
theorem dX12_causes_174 : decode cX12_causes 174 = .ok (.ifCond .eq 7, 3) := by decide +kernel
theorem dX12_causes_177 : decode cX12_causes 177 = .ok (.iload_n 3, 1) := by decide +kernel
theorem dX12_causes_178 : decode cX12_causes 178 = .ok (.iconst 2, 1) := by decide +kernel
theorem dX12_causes_179 : decode cX12_causes 179 = .ok (.ior, 1) := by decide +kernel
theorem dX12_causes_180 : decode cX12_causes 180 = .ok (.istore_n 3, 1) := by decide +kernel
theorem dX12_causes_181 : decode cX12_causes 181 = .ok (.iinc 4 1, 3) := by decide +kernel
theorem dX12_causes_184 : decode cX12_causes 184 = .ok (.goto (-37), 3) := by decide +kernel
theorem dX12_causes_187 : decode cX12_causes 187 = .ok (.bipush (-50), 2) := by decide +kernel
theorem dX12_causes_189 : decode cX12_causes 189 = .ok (.istore 4, 2) := by decide +kernel
theorem dX12_causes_191 : decode cX12_causes 191 = .ok (.iload 4, 2) := by decide +kernel
theorem dX12_causes_193 : decode cX12_causes 193 = .ok (.bipush 51, 2) := by decide +kernel
theorem dX12_causes_195 : decode cX12_causes 195 = .ok (.if_icmp .ge 30, 3) := by decide +kernel
theorem dX12_causes_198 : decode cX12_causes 198 = .ok (.iload 4, 2) := by decide +kernel
theorem dX12_causes_200 : decode cX12_causes 200 = .ok (.ifCond .eq 19, 3) := by decide +kernel
theorem dX12_causes_203 : decode cX12_causes 203 = .ok (.aload_n 0, 1) := by decide +kernel
theorem dX12_causes_204 : decode cX12_causes 204 = .ok (.iconst 0, 1) := by decide +kernel
theorem dX12_causes_205 : decode cX12_causes 205 = .ok (.iload_n 2, 1) := by decide +kernel
theorem dX12_causes_206 : decode cX12_causes 206 = .ok (.iload 4, 2) := by decide +kernel
theorem dX12_causes_208 : decode cX12_causes 208 = .ok (.iload_n 1, 1) := by decide +kernel
theorem dX12_causes_209 : decode cX12_causes 209 = .ok (.invokevirtual 342, 3) := by decide +kernel
theorem dX12_causes_212 : decode cX12_causes 212 = .ok (.ifCond .eq 7, 3) := by decide +kernel
theorem dX12_causes_215 : decode cX12_causes 215 = .ok (.iload_n 3, 1) := by decide +kernel
theorem dX12_causes_216 : decode cX12_causes 216 = .ok (.iconst 4, 1) := by decide +kernel
theorem dX12_causes_217 : decode cX12_causes 217 = .ok (.ior, 1) := by decide +kernel
theorem dX12_causes_218 : decode cX12_causes 218 = .ok (.istore_n 3, 1) := by decide +kernel
theorem dX12_causes_219 : decode cX12_causes 219 = .ok (.iinc 4 1, 3) := by decide +kernel
theorem dX12_causes_222 : decode cX12_causes 222 = .ok (.goto (-31), 3) := by decide +kernel
theorem dX12_causes_225 : decode cX12_causes 225 = .ok (.iload_n 3, 1) := by decide +kernel
theorem dX12_causes_226 : decode cX12_causes 226 = .ok (.ireturn, 1) := by decide +kernel
set_option maxRecDepth 20000 in
theorem sX12_causes_0 {P : Option Value → AH → Prop} (h : AH) (r0 : Nat) (x1 : Int32) (hf : (isO h 12 r0) ∧ (Call mX12_start [.ref r0] h (fun v h2 => v = none ∧ (((¬ x1 < 0 ∧ ¬ 99 < x1) → Rr mX12_causes 0 0 19 [(0, .ref r0), (1, .int x1), (2, .int 0)] [] h2 P) ∧ (¬ (¬ x1 < 0 ∧ ¬ 99 < x1) → P (some (.int (-2))) h2))))) : Rr mX12_causes 0 0 0 [(0, .ref r0), (1, .int x1)] [] h P := by
  refine R_aload_n dX12_causes_0 rfl 0 rfl ?_
  obtain ⟨ob1, hf⟩ := hf
  refine R_callV (ci := 12) (N := mX12_start) (as := []) (rest := []) (kc2 := 0) (ks2 := 0) dX12_causes_1 lmX12_250 oX12_start (Nat.le_of_ble_eq_true rfl) rfl rfl (Nat.le_of_ble_eq_true rfl) rfl rfl ob1 ok12 (Call.mono hf ?_)
  rintro _ h2 ⟨rfl, hf⟩
  refine R_iload_n dX12_causes_4 rfl 1 rfl ?_
  refine R_iconst (v := 0) dX12_causes_5 (by decide) ?_
  refine R_bipush (v := 99) dX12_causes_6 (by decide) ?_
  refine R_callS (N := mX12_in) (as := [.int x1, .int 0, .int 99]) (rest := []) (kc2 := 0) (ks2 := 0) dX12_causes_8 lmX12_178 oX12_in (Nat.le_of_ble_eq_true rfl) rfl rfl (Nat.le_of_ble_eq_true rfl) rfl rfl (aX12_in  ?_)
  refine R_if_ne_b (tgt := 17) dX12_causes_11 (by decide) (fun b3 => ?_) (fun b3 => ?_)
  · have hf := hf.1 b3
    refine R_iconst (v := 0) dX12_causes_17 (by decide) ?_
    refine R_istore_n dX12_causes_18 rfl (by decide) rfl ?_
    exact R_sub [1, 2, 0] rfl hf
  · have hf := hf.2 b3
    refine R_bipush (v := (-2)) dX12_causes_14 (by decide) ?_
    exact R_iret dX12_causes_16 rfl rfl hf
set_option maxRecDepth 20000 in
theorem sX12_causes_19 {P : Option Value → AH → Prop} (h : AH) (r0 : Nat) (x1 : Int32) (x2 : Int32) (hf : (isO h 12 r0) ∧ (((gI h r0 3) = 2 → (¬ ((gI h r0 3) = 4) → (¬ (gI h r0 3) = 2 → P (some (.int (-1))) h) ∧ ((gI h r0 3) = 2 → (999 < (gI h r0 7) → P (some (.int (-1))) h) ∧ (¬ 999 < (gI h r0 7) → (¬ x2 = 24 → ∀ z9 : Int32, z9 = (if ((gI h r0 3) = 4) then (-(gI h r0 7)) else (gI h r0 7)) → ((isA h 0 (gF h r0 53)) ∧ ((vp_in x2 (ln (gF h r0 53))) ∧ (Call mX12_scan [.ref r0] (sI h (gF h r0 53) x2.toNatClampNeg z9) (fun v h12 => v = none ∧ (Rr mX12_causes 0 0 19 [(0, .ref r0), (1, .int x1), (2, .int (x2 + 1))] [] h12 P)))))) ∧ (x2 = 24 → P (some (.int (-1))) h)))) ∧ (((gI h r0 3) = 4) → Call mX12_scan [.ref r0] h (fun v h13 => v = none ∧ ((isO h13 12 r0) ∧ ((¬ (gI h13 r0 3) = 2 → P (some (.int (-1))) h13) ∧ ((gI h13 r0 3) = 2 → (999 < (gI h13 r0 7) → P (some (.int (-1))) h13) ∧ (¬ 999 < (gI h13 r0 7) → (¬ x2 = 24 → ∀ z19 : Int32, z19 = (if ((gI h r0 3) = 4) then (-(gI h13 r0 7)) else (gI h13 r0 7)) → ((isA h13 0 (gF h13 r0 53)) ∧ ((vp_in x2 (ln (gF h13 r0 53))) ∧ (Call mX12_scan [.ref r0] (sI h13 (gF h13 r0 53) x2.toNatClampNeg z19) (fun v h22 => v = none ∧ (Rr mX12_causes 0 0 19 [(0, .ref r0), (1, .int x1), (2, .int (x2 + 1))] [] h22 P)))))) ∧ (x2 = 24 → P (some (.int (-1))) h13)))))))) ∧ (¬ (gI h r0 3) = 2 → (¬ (gI h r0 3) = 4 → (¬ (gI h r0 3) = 5 → P (some (.int (-1))) h) ∧ ((gI h r0 3) = 5 → (¬ x2 = 0 → Call mX12_isLevel [.ref r0, .int 0, .int x2, .int 0, .int x1] h (fun v h26 => ∃ z27 : Int32, v = some (.int z27) ∧ ((z27 = 0 → Rr mX12_causes 0 0 147 [(0, .ref r0), (1, .int x1), (2, .int x2), (3, .int 0), (4, .int 1)] [] h26 P) ∧ (¬ z27 = 0 → P (some (.int 1)) h26)))) ∧ (x2 = 0 → P (some (.int (-1))) h))) ∧ ((gI h r0 3) = 4 → (¬ ((gI h r0 3) = 4) → (¬ (gI h r0 3) = 2 → P (some (.int (-1))) h) ∧ ((gI h r0 3) = 2 → (999 < (gI h r0 7) → P (some (.int (-1))) h) ∧ (¬ 999 < (gI h r0 7) → (¬ x2 = 24 → ∀ z35 : Int32, z35 = (if ((gI h r0 3) = 4) then (-(gI h r0 7)) else (gI h r0 7)) → ((isA h 0 (gF h r0 53)) ∧ ((vp_in x2 (ln (gF h r0 53))) ∧ (Call mX12_scan [.ref r0] (sI h (gF h r0 53) x2.toNatClampNeg z35) (fun v h38 => v = none ∧ (Rr mX12_causes 0 0 19 [(0, .ref r0), (1, .int x1), (2, .int (x2 + 1))] [] h38 P)))))) ∧ (x2 = 24 → P (some (.int (-1))) h)))) ∧ (((gI h r0 3) = 4) → Call mX12_scan [.ref r0] h (fun v h39 => v = none ∧ ((isO h39 12 r0) ∧ ((¬ (gI h39 r0 3) = 2 → P (some (.int (-1))) h39) ∧ ((gI h39 r0 3) = 2 → (999 < (gI h39 r0 7) → P (some (.int (-1))) h39) ∧ (¬ 999 < (gI h39 r0 7) → (¬ x2 = 24 → ∀ z45 : Int32, z45 = (if ((gI h r0 3) = 4) then (-(gI h39 r0 7)) else (gI h39 r0 7)) → ((isA h39 0 (gF h39 r0 53)) ∧ ((vp_in x2 (ln (gF h39 r0 53))) ∧ (Call mX12_scan [.ref r0] (sI h39 (gF h39 r0 53) x2.toNatClampNeg z45) (fun v h48 => v = none ∧ (Rr mX12_causes 0 0 19 [(0, .ref r0), (1, .int x1), (2, .int (x2 + 1))] [] h48 P)))))) ∧ (x2 = 24 → P (some (.int (-1))) h39))))))))))) : Rr mX12_causes 0 0 19 [(0, .ref r0), (1, .int x1), (2, .int x2)] [] h P := by
  refine R_aload_n dX12_causes_19 rfl 0 rfl ?_
  obtain ⟨ob1, hf⟩ := hf
  refine G12_3 dX12_causes_20 lfX12_152 ob1 ?_
  refine R_iconst (v := 2) dX12_causes_23 (by decide) ?_
  refine R_icmp_eq (tgt := 35) dX12_causes_24 (by decide) (fun b2 => ?_) (fun b2 => ?_)
  · have hf := hf.1 b2
    refine R_aload_n dX12_causes_35 rfl 0 rfl ?_
    refine G12_3 dX12_causes_36 lfX12_152 ob1 ?_
    refine R_iconst (v := 4) dX12_causes_39 (by decide) ?_
    have key :  Rr mX12_causes 0 0 48 [(0, .ref r0), (1, .int x1), (2, .int x2)] [.int (bi ((gI h r0 3) = 4))] h P := by
      refine R_istore_n dX12_causes_48 rfl (by decide) rfl ?_
      refine R_iload_n dX12_causes_49 rfl 0 rfl ?_
      refine R_if_eq_b (tgt := 57) dX12_causes_50 (by decide) (fun b4 => ?_) (fun b4 => ?_)
      · have hf := hf.1 b4
        refine R_aload_n dX12_causes_57 rfl 1 rfl ?_
        refine G12_3 dX12_causes_58 lfX12_152 ob1 ?_
        refine R_iconst (v := 2) dX12_causes_61 (by decide) ?_
        refine R_icmp_ne (tgt := 81) dX12_causes_62 (by decide) (fun b5 => ?_) (fun b5 => ?_)
        · have hf := hf.1 b5
          refine R_iconst (v := (-1)) dX12_causes_81 (by decide) ?_
          exact R_iret dX12_causes_82 rfl rfl hf
        · have hf := hf.2 b5
          refine R_aload_n dX12_causes_65 rfl 1 rfl ?_
          refine G12_7 dX12_causes_66 lfX12_166 ob1 ?_
          refine R_sipush (v := 999) dX12_causes_69 (by decide) ?_
          refine R_icmp_gt (tgt := 81) dX12_causes_72 (by decide) (fun b6 => ?_) (fun b6 => ?_)
          · have hf := hf.1 b6
            refine R_iconst (v := (-1)) dX12_causes_81 (by decide) ?_
            exact R_iret dX12_causes_82 rfl rfl hf
          · have hf := hf.2 b6
            refine R_iload_n dX12_causes_75 rfl 3 rfl ?_
            refine R_bipush (v := 24) dX12_causes_76 (by decide) ?_
            refine R_icmp_ne (tgt := 83) dX12_causes_78 (by decide) (fun b7 => ?_) (fun b7 => ?_)
            · have hf := hf.1 b7
              refine R_aload_n dX12_causes_83 rfl 1 rfl ?_
              refine G12_53 dX12_causes_84 lfX12_99 ob1 ?_
              refine R_iload_n dX12_causes_87 rfl 3 rfl ?_
              refine R_iload_n dX12_causes_88 rfl 0 rfl ?_
              have key : ∀ z9 : Int32, z9 = (if ((gI h r0 3) = 4) then (-(gI h r0 7)) else (gI h r0 7)) → Rr mX12_causes 0 0 104 [(0, .ref r0), (1, .int x1), (2, .int x2)] [.int z9, .int x2, .ref (gF h r0 53)] h P := by
                intro z9 ez9
                have hf := hf z9 ez9
                obtain ⟨ob10, hf⟩ := hf
                obtain ⟨ob11, hf⟩ := hf
                refine R_iastore dX12_causes_104 ob10 ob11 ?_
                refine R_iinc (v := x2 + 1) dX12_causes_105 2 rfl rfl (by decide) rfl ?_
                refine R_aload_n dX12_causes_108 rfl 1 rfl ?_
                refine R_callV (ci := 12) (N := mX12_scan) (as := []) (rest := []) (kc2 := 0) (ks2 := 0) dX12_causes_109 lmX12_169 oX12_scan (Nat.le_of_ble_eq_true rfl) rfl rfl (Nat.le_of_ble_eq_true rfl) rfl rfl ob1 ok12 (Call.mono hf ?_)
                rintro _ h12 ⟨rfl, hf⟩
                refine R_goto (tgt := 19) dX12_causes_112 (by decide) ?_
                exact R_sub [1, 2, 0] rfl hf
              refine R_if_eq_b (tgt := 100) dX12_causes_89 (by decide) (fun b8 => ?_) (fun b8 => ?_)
              · refine R_aload_n dX12_causes_100 rfl 1 rfl ?_
                refine G12_7 dX12_causes_101 lfX12_166 ob1 ?_
                exact R_sub [1, 2, 3] rfl (key _ (by rw [if_neg b8]))
              · refine R_aload_n dX12_causes_92 rfl 1 rfl ?_
                refine G12_7 dX12_causes_93 lfX12_166 ob1 ?_
                refine R_ineg dX12_causes_96 ?_
                refine R_goto (tgt := 104) dX12_causes_97 (by decide) ?_
                exact R_sub [1, 2, 3] rfl (key _ (by rw [if_pos b8]))
            · have hf := hf.2 b7
              refine R_iconst (v := (-1)) dX12_causes_81 (by decide) ?_
              exact R_iret dX12_causes_82 rfl rfl hf
      · have hf := hf.2 b4
        refine R_aload_n dX12_causes_53 rfl 1 rfl ?_
        refine R_callV (ci := 12) (N := mX12_scan) (as := []) (rest := []) (kc2 := 0) (ks2 := 0) dX12_causes_54 lmX12_169 oX12_scan (Nat.le_of_ble_eq_true rfl) rfl rfl (Nat.le_of_ble_eq_true rfl) rfl rfl ob1 ok12 (Call.mono hf ?_)
        rintro _ h13 ⟨rfl, hf⟩
        refine R_aload_n dX12_causes_57 rfl 1 rfl ?_
        obtain ⟨ob14, hf⟩ := hf
        refine G12_3 dX12_causes_58 lfX12_152 ob14 ?_
        refine R_iconst (v := 2) dX12_causes_61 (by decide) ?_
        refine R_icmp_ne (tgt := 81) dX12_causes_62 (by decide) (fun b15 => ?_) (fun b15 => ?_)
        · have hf := hf.1 b15
          refine R_iconst (v := (-1)) dX12_causes_81 (by decide) ?_
          exact R_iret dX12_causes_82 rfl rfl hf
        · have hf := hf.2 b15
          refine R_aload_n dX12_causes_65 rfl 1 rfl ?_
          refine G12_7 dX12_causes_66 lfX12_166 ob14 ?_
          refine R_sipush (v := 999) dX12_causes_69 (by decide) ?_
          refine R_icmp_gt (tgt := 81) dX12_causes_72 (by decide) (fun b16 => ?_) (fun b16 => ?_)
          · have hf := hf.1 b16
            refine R_iconst (v := (-1)) dX12_causes_81 (by decide) ?_
            exact R_iret dX12_causes_82 rfl rfl hf
          · have hf := hf.2 b16
            refine R_iload_n dX12_causes_75 rfl 3 rfl ?_
            refine R_bipush (v := 24) dX12_causes_76 (by decide) ?_
            refine R_icmp_ne (tgt := 83) dX12_causes_78 (by decide) (fun b17 => ?_) (fun b17 => ?_)
            · have hf := hf.1 b17
              refine R_aload_n dX12_causes_83 rfl 1 rfl ?_
              refine G12_53 dX12_causes_84 lfX12_99 ob14 ?_
              refine R_iload_n dX12_causes_87 rfl 3 rfl ?_
              refine R_iload_n dX12_causes_88 rfl 0 rfl ?_
              have key : ∀ z19 : Int32, z19 = (if ((gI h r0 3) = 4) then (-(gI h13 r0 7)) else (gI h13 r0 7)) → Rr mX12_causes 0 0 104 [(0, .ref r0), (1, .int x1), (2, .int x2)] [.int z19, .int x2, .ref (gF h13 r0 53)] h13 P := by
                intro z19 ez19
                have hf := hf z19 ez19
                obtain ⟨ob20, hf⟩ := hf
                obtain ⟨ob21, hf⟩ := hf
                refine R_iastore dX12_causes_104 ob20 ob21 ?_
                refine R_iinc (v := x2 + 1) dX12_causes_105 2 rfl rfl (by decide) rfl ?_
                refine R_aload_n dX12_causes_108 rfl 1 rfl ?_
                refine R_callV (ci := 12) (N := mX12_scan) (as := []) (rest := []) (kc2 := 0) (ks2 := 0) dX12_causes_109 lmX12_169 oX12_scan (Nat.le_of_ble_eq_true rfl) rfl rfl (Nat.le_of_ble_eq_true rfl) rfl rfl ob14 ok12 (Call.mono hf ?_)
                rintro _ h22 ⟨rfl, hf⟩
                refine R_goto (tgt := 19) dX12_causes_112 (by decide) ?_
                exact R_sub [1, 2, 0] rfl hf
              refine R_if_eq_b (tgt := 100) dX12_causes_89 (by decide) (fun b18 => ?_) (fun b18 => ?_)
              · refine R_aload_n dX12_causes_100 rfl 1 rfl ?_
                refine G12_7 dX12_causes_101 lfX12_166 ob14 ?_
                exact R_sub [1, 2, 3] rfl (key _ (by rw [if_neg b18]))
              · refine R_aload_n dX12_causes_92 rfl 1 rfl ?_
                refine G12_7 dX12_causes_93 lfX12_166 ob14 ?_
                refine R_ineg dX12_causes_96 ?_
                refine R_goto (tgt := 104) dX12_causes_97 (by decide) ?_
                exact R_sub [1, 2, 3] rfl (key _ (by rw [if_pos b18]))
            · have hf := hf.2 b17
              refine R_iconst (v := (-1)) dX12_causes_81 (by decide) ?_
              exact R_iret dX12_causes_82 rfl rfl hf
    refine R_icmp_ne (tgt := 47) dX12_causes_40 (by decide) (fun b3 => ?_) (fun b3 => ?_)
    · refine R_iconst (v := 0) dX12_causes_47 (by decide) ?_
      have kb := key
      rw [show bi ((gI h r0 3) = 4) = 0 from by simp only [bi, b3, false_and, and_false, true_and, and_true, not_true_eq_false, not_false_eq_true, if_true, if_false, true_or, or_true, false_or, or_false, reduceIte]] at kb
      exact R_sub [0, 1, 2] rfl kb
    · refine R_iconst (v := 1) dX12_causes_43 (by decide) ?_
      refine R_goto (tgt := 48) dX12_causes_44 (by decide) ?_
      have kb := key
      rw [show bi ((gI h r0 3) = 4) = 1 from by simp only [bi, b3, false_and, and_false, true_and, and_true, not_true_eq_false, not_false_eq_true, if_true, if_false, true_or, or_true, false_or, or_false, reduceIte]] at kb
      exact R_sub [0, 1, 2] rfl kb
  · have hf := hf.2 b2
    refine R_aload_n dX12_causes_27 rfl 0 rfl ?_
    refine G12_3 dX12_causes_28 lfX12_152 ob1 ?_
    refine R_iconst (v := 4) dX12_causes_31 (by decide) ?_
    refine R_icmp_ne (tgt := 115) dX12_causes_32 (by decide) (fun b23 => ?_) (fun b23 => ?_)
    · have hf := hf.1 b23
      refine R_aload_n dX12_causes_115 rfl 0 rfl ?_
      refine G12_3 dX12_causes_116 lfX12_152 ob1 ?_
      refine R_iconst (v := 5) dX12_causes_119 (by decide) ?_
      refine R_icmp_ne (tgt := 127) dX12_causes_120 (by decide) (fun b24 => ?_) (fun b24 => ?_)
      · have hf := hf.1 b24
        refine R_iconst (v := (-1)) dX12_causes_127 (by decide) ?_
        exact R_iret dX12_causes_128 rfl rfl hf
      · have hf := hf.2 b24
        refine R_iload_n dX12_causes_123 rfl 2 rfl ?_
        refine R_if_ne (tgt := 129) dX12_causes_124 (by decide) (fun b25 => ?_) (fun b25 => ?_)
        · have hf := hf.1 b25
          refine R_aload_n dX12_causes_129 rfl 0 rfl ?_
          refine R_iconst (v := 0) dX12_causes_130 (by decide) ?_
          refine R_iload_n dX12_causes_131 rfl 2 rfl ?_
          refine R_iconst (v := 0) dX12_causes_132 (by decide) ?_
          refine R_iload_n dX12_causes_133 rfl 1 rfl ?_
          refine R_callV (ci := 12) (N := mX12_isLevel) (as := [.int 0, .int x2, .int 0, .int x1]) (rest := []) (kc2 := 0) (ks2 := 0) dX12_causes_134 lmX12_342 oX12_isLevel (Nat.le_of_ble_eq_true rfl) rfl rfl (Nat.le_of_ble_eq_true rfl) rfl rfl ob1 ok12 (Call.mono hf ?_)
          rintro _ h26 ⟨z27, rfl, hf⟩
          refine R_if_eq (tgt := 142) dX12_causes_137 (by decide) (fun b28 => ?_) (fun b28 => ?_)
          · have hf := hf.1 b28
            refine R_iconst (v := 0) dX12_causes_142 (by decide) ?_
            refine R_istore_n dX12_causes_143 rfl (by decide) rfl ?_
            refine R_iconst (v := 1) dX12_causes_144 (by decide) ?_
            refine R_istore dX12_causes_145 (by decide) rfl ?_
            exact R_sub [2, 3, 4, 1, 0] rfl hf
          · have hf := hf.2 b28
            refine R_iconst (v := 1) dX12_causes_140 (by decide) ?_
            exact R_iret dX12_causes_141 rfl rfl hf
        · have hf := hf.2 b25
          refine R_iconst (v := (-1)) dX12_causes_127 (by decide) ?_
          exact R_iret dX12_causes_128 rfl rfl hf
    · have hf := hf.2 b23
      refine R_aload_n dX12_causes_35 rfl 0 rfl ?_
      refine G12_3 dX12_causes_36 lfX12_152 ob1 ?_
      refine R_iconst (v := 4) dX12_causes_39 (by decide) ?_
      have key :  Rr mX12_causes 0 0 48 [(0, .ref r0), (1, .int x1), (2, .int x2)] [.int (bi ((gI h r0 3) = 4))] h P := by
        refine R_istore_n dX12_causes_48 rfl (by decide) rfl ?_
        refine R_iload_n dX12_causes_49 rfl 0 rfl ?_
        refine R_if_eq_b (tgt := 57) dX12_causes_50 (by decide) (fun b30 => ?_) (fun b30 => ?_)
        · have hf := hf.1 b30
          refine R_aload_n dX12_causes_57 rfl 1 rfl ?_
          refine G12_3 dX12_causes_58 lfX12_152 ob1 ?_
          refine R_iconst (v := 2) dX12_causes_61 (by decide) ?_
          refine R_icmp_ne (tgt := 81) dX12_causes_62 (by decide) (fun b31 => ?_) (fun b31 => ?_)
          · have hf := hf.1 b31
            refine R_iconst (v := (-1)) dX12_causes_81 (by decide) ?_
            exact R_iret dX12_causes_82 rfl rfl hf
          · have hf := hf.2 b31
            refine R_aload_n dX12_causes_65 rfl 1 rfl ?_
            refine G12_7 dX12_causes_66 lfX12_166 ob1 ?_
            refine R_sipush (v := 999) dX12_causes_69 (by decide) ?_
            refine R_icmp_gt (tgt := 81) dX12_causes_72 (by decide) (fun b32 => ?_) (fun b32 => ?_)
            · have hf := hf.1 b32
              refine R_iconst (v := (-1)) dX12_causes_81 (by decide) ?_
              exact R_iret dX12_causes_82 rfl rfl hf
            · have hf := hf.2 b32
              refine R_iload_n dX12_causes_75 rfl 3 rfl ?_
              refine R_bipush (v := 24) dX12_causes_76 (by decide) ?_
              refine R_icmp_ne (tgt := 83) dX12_causes_78 (by decide) (fun b33 => ?_) (fun b33 => ?_)
              · have hf := hf.1 b33
                refine R_aload_n dX12_causes_83 rfl 1 rfl ?_
                refine G12_53 dX12_causes_84 lfX12_99 ob1 ?_
                refine R_iload_n dX12_causes_87 rfl 3 rfl ?_
                refine R_iload_n dX12_causes_88 rfl 0 rfl ?_
                have key : ∀ z35 : Int32, z35 = (if ((gI h r0 3) = 4) then (-(gI h r0 7)) else (gI h r0 7)) → Rr mX12_causes 0 0 104 [(0, .ref r0), (1, .int x1), (2, .int x2)] [.int z35, .int x2, .ref (gF h r0 53)] h P := by
                  intro z35 ez35
                  have hf := hf z35 ez35
                  obtain ⟨ob36, hf⟩ := hf
                  obtain ⟨ob37, hf⟩ := hf
                  refine R_iastore dX12_causes_104 ob36 ob37 ?_
                  refine R_iinc (v := x2 + 1) dX12_causes_105 2 rfl rfl (by decide) rfl ?_
                  refine R_aload_n dX12_causes_108 rfl 1 rfl ?_
                  refine R_callV (ci := 12) (N := mX12_scan) (as := []) (rest := []) (kc2 := 0) (ks2 := 0) dX12_causes_109 lmX12_169 oX12_scan (Nat.le_of_ble_eq_true rfl) rfl rfl (Nat.le_of_ble_eq_true rfl) rfl rfl ob1 ok12 (Call.mono hf ?_)
                  rintro _ h38 ⟨rfl, hf⟩
                  refine R_goto (tgt := 19) dX12_causes_112 (by decide) ?_
                  exact R_sub [1, 2, 0] rfl hf
                refine R_if_eq_b (tgt := 100) dX12_causes_89 (by decide) (fun b34 => ?_) (fun b34 => ?_)
                · refine R_aload_n dX12_causes_100 rfl 1 rfl ?_
                  refine G12_7 dX12_causes_101 lfX12_166 ob1 ?_
                  exact R_sub [1, 2, 3] rfl (key _ (by rw [if_neg b34]))
                · refine R_aload_n dX12_causes_92 rfl 1 rfl ?_
                  refine G12_7 dX12_causes_93 lfX12_166 ob1 ?_
                  refine R_ineg dX12_causes_96 ?_
                  refine R_goto (tgt := 104) dX12_causes_97 (by decide) ?_
                  exact R_sub [1, 2, 3] rfl (key _ (by rw [if_pos b34]))
              · have hf := hf.2 b33
                refine R_iconst (v := (-1)) dX12_causes_81 (by decide) ?_
                exact R_iret dX12_causes_82 rfl rfl hf
        · have hf := hf.2 b30
          refine R_aload_n dX12_causes_53 rfl 1 rfl ?_
          refine R_callV (ci := 12) (N := mX12_scan) (as := []) (rest := []) (kc2 := 0) (ks2 := 0) dX12_causes_54 lmX12_169 oX12_scan (Nat.le_of_ble_eq_true rfl) rfl rfl (Nat.le_of_ble_eq_true rfl) rfl rfl ob1 ok12 (Call.mono hf ?_)
          rintro _ h39 ⟨rfl, hf⟩
          refine R_aload_n dX12_causes_57 rfl 1 rfl ?_
          obtain ⟨ob40, hf⟩ := hf
          refine G12_3 dX12_causes_58 lfX12_152 ob40 ?_
          refine R_iconst (v := 2) dX12_causes_61 (by decide) ?_
          refine R_icmp_ne (tgt := 81) dX12_causes_62 (by decide) (fun b41 => ?_) (fun b41 => ?_)
          · have hf := hf.1 b41
            refine R_iconst (v := (-1)) dX12_causes_81 (by decide) ?_
            exact R_iret dX12_causes_82 rfl rfl hf
          · have hf := hf.2 b41
            refine R_aload_n dX12_causes_65 rfl 1 rfl ?_
            refine G12_7 dX12_causes_66 lfX12_166 ob40 ?_
            refine R_sipush (v := 999) dX12_causes_69 (by decide) ?_
            refine R_icmp_gt (tgt := 81) dX12_causes_72 (by decide) (fun b42 => ?_) (fun b42 => ?_)
            · have hf := hf.1 b42
              refine R_iconst (v := (-1)) dX12_causes_81 (by decide) ?_
              exact R_iret dX12_causes_82 rfl rfl hf
            · have hf := hf.2 b42
              refine R_iload_n dX12_causes_75 rfl 3 rfl ?_
              refine R_bipush (v := 24) dX12_causes_76 (by decide) ?_
              refine R_icmp_ne (tgt := 83) dX12_causes_78 (by decide) (fun b43 => ?_) (fun b43 => ?_)
              · have hf := hf.1 b43
                refine R_aload_n dX12_causes_83 rfl 1 rfl ?_
                refine G12_53 dX12_causes_84 lfX12_99 ob40 ?_
                refine R_iload_n dX12_causes_87 rfl 3 rfl ?_
                refine R_iload_n dX12_causes_88 rfl 0 rfl ?_
                have key : ∀ z45 : Int32, z45 = (if ((gI h r0 3) = 4) then (-(gI h39 r0 7)) else (gI h39 r0 7)) → Rr mX12_causes 0 0 104 [(0, .ref r0), (1, .int x1), (2, .int x2)] [.int z45, .int x2, .ref (gF h39 r0 53)] h39 P := by
                  intro z45 ez45
                  have hf := hf z45 ez45
                  obtain ⟨ob46, hf⟩ := hf
                  obtain ⟨ob47, hf⟩ := hf
                  refine R_iastore dX12_causes_104 ob46 ob47 ?_
                  refine R_iinc (v := x2 + 1) dX12_causes_105 2 rfl rfl (by decide) rfl ?_
                  refine R_aload_n dX12_causes_108 rfl 1 rfl ?_
                  refine R_callV (ci := 12) (N := mX12_scan) (as := []) (rest := []) (kc2 := 0) (ks2 := 0) dX12_causes_109 lmX12_169 oX12_scan (Nat.le_of_ble_eq_true rfl) rfl rfl (Nat.le_of_ble_eq_true rfl) rfl rfl ob40 ok12 (Call.mono hf ?_)
                  rintro _ h48 ⟨rfl, hf⟩
                  refine R_goto (tgt := 19) dX12_causes_112 (by decide) ?_
                  exact R_sub [1, 2, 0] rfl hf
                refine R_if_eq_b (tgt := 100) dX12_causes_89 (by decide) (fun b44 => ?_) (fun b44 => ?_)
                · refine R_aload_n dX12_causes_100 rfl 1 rfl ?_
                  refine G12_7 dX12_causes_101 lfX12_166 ob40 ?_
                  exact R_sub [1, 2, 3] rfl (key _ (by rw [if_neg b44]))
                · refine R_aload_n dX12_causes_92 rfl 1 rfl ?_
                  refine G12_7 dX12_causes_93 lfX12_166 ob40 ?_
                  refine R_ineg dX12_causes_96 ?_
                  refine R_goto (tgt := 104) dX12_causes_97 (by decide) ?_
                  exact R_sub [1, 2, 3] rfl (key _ (by rw [if_pos b44]))
              · have hf := hf.2 b43
                refine R_iconst (v := (-1)) dX12_causes_81 (by decide) ?_
                exact R_iret dX12_causes_82 rfl rfl hf
      refine R_icmp_ne (tgt := 47) dX12_causes_40 (by decide) (fun b29 => ?_) (fun b29 => ?_)
      · refine R_iconst (v := 0) dX12_causes_47 (by decide) ?_
        have kb := key
        rw [show bi ((gI h r0 3) = 4) = 0 from by simp only [bi, b29, false_and, and_false, true_and, and_true, not_true_eq_false, not_false_eq_true, if_true, if_false, true_or, or_true, false_or, or_false, reduceIte]] at kb
        exact R_sub [0, 1, 2] rfl kb
      · refine R_iconst (v := 1) dX12_causes_43 (by decide) ?_
        refine R_goto (tgt := 48) dX12_causes_44 (by decide) ?_
        have kb := key
        rw [show bi ((gI h r0 3) = 4) = 1 from by simp only [bi, b29, false_and, and_false, true_and, and_true, not_true_eq_false, not_false_eq_true, if_true, if_false, true_or, or_true, false_or, or_false, reduceIte]] at kb
        exact R_sub [0, 1, 2] rfl kb
set_option maxRecDepth 20000 in
theorem sX12_causes_147 {P : Option Value → AH → Prop} (h : AH) (r0 : Nat) (x1 : Int32) (x2 : Int32) (x3 : Int32) (x4 : Int32) (hf : (x2 ≤ x4 → Rr mX12_causes 0 0 191 [(0, .ref r0), (1, .int x1), (2, .int x2), (3, .int x3), (4, .int (-50))] [] h P) ∧ (¬ x2 ≤ x4 → (isO h 12 r0) ∧ (Call mX12_isLevel [.ref r0, .int 0, .int x4, .int 0, .int x1] h (fun v h3 => ∃ z4 : Int32, v = some (.int z4) ∧ ((z4 = 0 → Rr mX12_causes 0 0 147 [(0, .ref r0), (1, .int x1), (2, .int x2), (3, .int x3), (4, .int (x4 + 1))] [] h3 P) ∧ (¬ z4 = 0 → (isO h3 12 r0) ∧ (Call mX12_isLevel [.ref r0, .int x4, .int x2, .int 0, .int x1] h3 (fun v h7 => ∃ z8 : Int32, v = some (.int z8) ∧ (∀ z10 : Int32, z10 = (if z8 = 0 then x3 else (x3 ||| 2)) → (Rr mX12_causes 0 0 147 [(0, .ref r0), (1, .int x1), (2, .int x2), (3, .int z10), (4, .int (x4 + 1))] [] h7 P)))))))))) : Rr mX12_causes 0 0 147 [(0, .ref r0), (1, .int x1), (2, .int x2), (3, .int x3), (4, .int x4)] [] h P := by
  refine R_iload dX12_causes_147 4 rfl ?_
  refine R_iload_n dX12_causes_149 rfl 2 rfl ?_
  refine R_icmp_ge (tgt := 187) dX12_causes_150 (by decide) (fun b1 => ?_) (fun b1 => ?_)
  · have hf := hf.1 b1
    refine R_bipush (v := (-50)) dX12_causes_187 (by decide) ?_
    refine R_istore dX12_causes_189 (by decide) rfl ?_
    exact R_sub [1, 2, 3, 4, 0] rfl hf
  · have hf := hf.2 b1
    refine R_aload_n dX12_causes_153 rfl 0 rfl ?_
    refine R_iconst (v := 0) dX12_causes_154 (by decide) ?_
    refine R_iload dX12_causes_155 4 rfl ?_
    refine R_iconst (v := 0) dX12_causes_157 (by decide) ?_
    refine R_iload_n dX12_causes_158 rfl 1 rfl ?_
    obtain ⟨ob2, hf⟩ := hf
    refine R_callV (ci := 12) (N := mX12_isLevel) (as := [.int 0, .int x4, .int 0, .int x1]) (rest := []) (kc2 := 0) (ks2 := 0) dX12_causes_159 lmX12_342 oX12_isLevel (Nat.le_of_ble_eq_true rfl) rfl rfl (Nat.le_of_ble_eq_true rfl) rfl rfl ob2 ok12 (Call.mono hf ?_)
    rintro _ h3 ⟨z4, rfl, hf⟩
    refine R_if_eq (tgt := 181) dX12_causes_162 (by decide) (fun b5 => ?_) (fun b5 => ?_)
    · have hf := hf.1 b5
      refine R_iinc (v := x4 + 1) dX12_causes_181 4 rfl rfl (by decide) rfl ?_
      refine R_goto (tgt := 147) dX12_causes_184 (by decide) ?_
      exact R_sub [1, 2, 3, 4, 0] rfl hf
    · have hf := hf.2 b5
      refine R_aload_n dX12_causes_165 rfl 0 rfl ?_
      refine R_iload dX12_causes_166 4 rfl ?_
      refine R_iload_n dX12_causes_168 rfl 2 rfl ?_
      refine R_iconst (v := 0) dX12_causes_169 (by decide) ?_
      refine R_iload_n dX12_causes_170 rfl 1 rfl ?_
      obtain ⟨ob6, hf⟩ := hf
      refine R_callV (ci := 12) (N := mX12_isLevel) (as := [.int x4, .int x2, .int 0, .int x1]) (rest := []) (kc2 := 0) (ks2 := 0) dX12_causes_171 lmX12_342 oX12_isLevel (Nat.le_of_ble_eq_true rfl) rfl rfl (Nat.le_of_ble_eq_true rfl) rfl rfl ob6 ok12 (Call.mono hf ?_)
      rintro _ h7 ⟨z8, rfl, hf⟩
      have key : ∀ z10 : Int32, z10 = (if z8 = 0 then x3 else (x3 ||| 2)) → Rr mX12_causes 0 0 181 [(0, .ref r0), (1, .int x1), (2, .int x2), (3, .int z10), (4, .int x4)] [] h7 P := by
        intro z10 ez10
        have hf := hf z10 ez10
        refine R_iinc (v := x4 + 1) dX12_causes_181 4 rfl rfl (by decide) rfl ?_
        refine R_goto (tgt := 147) dX12_causes_184 (by decide) ?_
        exact R_sub [1, 2, 3, 4, 0] rfl hf
      refine R_if_eq (tgt := 181) dX12_causes_174 (by decide) (fun b9 => ?_) (fun b9 => ?_)
      · exact R_sub [0, 1, 2, 3, 4] rfl (key _ (by rw [if_pos b9]))
      · refine R_iload_n dX12_causes_177 rfl 3 rfl ?_
        refine R_iconst (v := 2) dX12_causes_178 (by decide) ?_
        refine R_ior dX12_causes_179 ?_
        refine R_istore_n dX12_causes_180 rfl (by decide) rfl ?_
        exact R_sub [1, 2, 3, 0, 4] rfl (key _ (by rw [if_neg b9]))
set_option maxRecDepth 20000 in
theorem sX12_causes_191 {P : Option Value → AH → Prop} (h : AH) (r0 : Nat) (x1 : Int32) (x2 : Int32) (x3 : Int32) (x4 : Int32) (hf : (51 ≤ x4 → P (some (.int x3)) h) ∧ (¬ 51 ≤ x4 → (x4 = 0 → Rr mX12_causes 0 0 191 [(0, .ref r0), (1, .int x1), (2, .int x2), (3, .int x3), (4, .int (x4 + 1))] [] h P) ∧ (¬ x4 = 0 → (isO h 12 r0) ∧ (Call mX12_isLevel [.ref r0, .int 0, .int x2, .int x4, .int x1] h (fun v h4 => ∃ z5 : Int32, v = some (.int z5) ∧ (∀ z7 : Int32, z7 = (if z5 = 0 then x3 else (x3 ||| 4)) → (Rr mX12_causes 0 0 191 [(0, .ref r0), (1, .int x1), (2, .int x2), (3, .int z7), (4, .int (x4 + 1))] [] h4 P))))))) : Rr mX12_causes 0 0 191 [(0, .ref r0), (1, .int x1), (2, .int x2), (3, .int x3), (4, .int x4)] [] h P := by
  refine R_iload dX12_causes_191 4 rfl ?_
  refine R_bipush (v := 51) dX12_causes_193 (by decide) ?_
  refine R_icmp_ge (tgt := 225) dX12_causes_195 (by decide) (fun b1 => ?_) (fun b1 => ?_)
  · have hf := hf.1 b1
    refine R_iload_n dX12_causes_225 rfl 3 rfl ?_
    exact R_iret dX12_causes_226 rfl rfl hf
  · have hf := hf.2 b1
    refine R_iload dX12_causes_198 4 rfl ?_
    refine R_if_eq (tgt := 219) dX12_causes_200 (by decide) (fun b2 => ?_) (fun b2 => ?_)
    · have hf := hf.1 b2
      refine R_iinc (v := x4 + 1) dX12_causes_219 4 rfl rfl (by decide) rfl ?_
      refine R_goto (tgt := 191) dX12_causes_222 (by decide) ?_
      exact R_sub [1, 2, 3, 4, 0] rfl hf
    · have hf := hf.2 b2
      refine R_aload_n dX12_causes_203 rfl 0 rfl ?_
      refine R_iconst (v := 0) dX12_causes_204 (by decide) ?_
      refine R_iload_n dX12_causes_205 rfl 2 rfl ?_
      refine R_iload dX12_causes_206 4 rfl ?_
      refine R_iload_n dX12_causes_208 rfl 1 rfl ?_
      obtain ⟨ob3, hf⟩ := hf
      refine R_callV (ci := 12) (N := mX12_isLevel) (as := [.int 0, .int x2, .int x4, .int x1]) (rest := []) (kc2 := 0) (ks2 := 0) dX12_causes_209 lmX12_342 oX12_isLevel (Nat.le_of_ble_eq_true rfl) rfl rfl (Nat.le_of_ble_eq_true rfl) rfl rfl ob3 ok12 (Call.mono hf ?_)
      rintro _ h4 ⟨z5, rfl, hf⟩
      have key : ∀ z7 : Int32, z7 = (if z5 = 0 then x3 else (x3 ||| 4)) → Rr mX12_causes 0 0 219 [(0, .ref r0), (1, .int x1), (2, .int x2), (3, .int z7), (4, .int x4)] [] h4 P := by
        intro z7 ez7
        have hf := hf z7 ez7
        refine R_iinc (v := x4 + 1) dX12_causes_219 4 rfl rfl (by decide) rfl ?_
        refine R_goto (tgt := 191) dX12_causes_222 (by decide) ?_
        exact R_sub [1, 2, 3, 4, 0] rfl hf
      refine R_if_eq (tgt := 219) dX12_causes_212 (by decide) (fun b6 => ?_) (fun b6 => ?_)
      · exact R_sub [0, 1, 2, 3, 4] rfl (key _ (by rw [if_pos b6]))
      · refine R_iload_n dX12_causes_215 rfl 3 rfl ?_
        refine R_iconst (v := 4) dX12_causes_216 (by decide) ?_
        refine R_ior dX12_causes_217 ?_
        refine R_istore_n dX12_causes_218 rfl (by decide) rfl ?_
        exact R_sub [1, 2, 3, 0, 4] rfl (key _ (by rw [if_neg b6]))
theorem dX12_readBox_0 : decode cX12_readBox 0 = .ok (.aload_n 0, 1) := by decide +kernel
theorem dX12_readBox_1 : decode cX12_readBox 1 = .ok (.getfield 17, 3) := by decide +kernel
theorem dX12_readBox_4 : decode cX12_readBox 4 = .ok (.bipush 14, 2) := by decide +kernel
theorem dX12_readBox_6 : decode cX12_readBox 6 = .ok (.iaload, 1) := by decide +kernel
theorem dX12_readBox_7 : decode cX12_readBox 7 = .ok (.bipush 8, 2) := by decide +kernel
theorem dX12_readBox_9 : decode cX12_readBox 9 = .ok (.if_icmp .ne 9, 3) := by decide +kernel
theorem dX12_readBox_12 : decode cX12_readBox 12 = .ok (.aload_n 0, 1) := by decide +kernel
theorem dX12_readBox_13 : decode cX12_readBox 13 = .ok (.iconst 4, 1) := by decide +kernel
theorem dX12_readBox_14 : decode cX12_readBox 14 = .ok (.invokevirtual 175, 3) := by decide +kernel
theorem dX12_readBox_17 : decode cX12_readBox 17 = .ok (.ireturn, 1) := by decide +kernel
theorem dX12_readBox_18 : decode cX12_readBox 18 = .ok (.aload_n 0, 1) := by decide +kernel
theorem dX12_readBox_19 : decode cX12_readBox 19 = .ok (.invokevirtual 169, 3) := by decide +kernel
theorem dX12_readBox_22 : decode cX12_readBox 22 = .ok (.aload_n 0, 1) := by decide +kernel
theorem dX12_readBox_23 : decode cX12_readBox 23 = .ok (.invokevirtual 221, 3) := by decide +kernel
theorem dX12_readBox_26 : decode cX12_readBox 26 = .ok (.ifCond .ne 9, 3) := by decide +kernel
theorem dX12_readBox_29 : decode cX12_readBox 29 = .ok (.aload_n 0, 1) := by decide +kernel
theorem dX12_readBox_30 : decode cX12_readBox 30 = .ok (.iconst 1, 1) := by decide +kernel
theorem dX12_readBox_31 : decode cX12_readBox 31 = .ok (.invokevirtual 175, 3) := by decide +kernel
theorem dX12_readBox_34 : decode cX12_readBox 34 = .ok (.ireturn, 1) := by decide +kernel
theorem dX12_readBox_35 : decode cX12_readBox 35 = .ok (.aload_n 0, 1) := by decide +kernel
theorem dX12_readBox_36 : decode cX12_readBox 36 = .ok (.getfield 149, 3) := by decide +kernel
theorem dX12_readBox_39 : decode cX12_readBox 39 = .ok (.istore_n 1, 1) := by decide +kernel
theorem dX12_readBox_40 : decode cX12_readBox 40 = .ok (.aload_n 0, 1) := by decide +kernel
theorem dX12_readBox_41 : decode cX12_readBox 41 = .ok (.invokevirtual 169, 3) := by decide +kernel
theorem dX12_readBox_44 : decode cX12_readBox 44 = .ok (.aload_n 0, 1) := by decide +kernel
theorem dX12_readBox_45 : decode cX12_readBox 45 = .ok (.iconst 0, 1) := by decide +kernel
theorem dX12_readBox_46 : decode cX12_readBox 46 = .ok (.bipush 15, 2) := by decide +kernel
theorem dX12_readBox_48 : decode cX12_readBox 48 = .ok (.invokevirtual 185, 3) := by decide +kernel
theorem dX12_readBox_51 : decode cX12_readBox 51 = .ok (.ifCond .ne 5, 3) := by decide +kernel
theorem dX12_readBox_54 : decode cX12_readBox 54 = .ok (.iconst 0, 1) := by decide +kernel
theorem dX12_readBox_55 : decode cX12_readBox 55 = .ok (.ireturn, 1) := by decide +kernel
theorem dX12_readBox_56 : decode cX12_readBox 56 = .ok (.aload_n 0, 1) := by decide +kernel
theorem dX12_readBox_57 : decode cX12_readBox 57 = .ok (.getfield 182, 3) := by decide +kernel
theorem dX12_readBox_60 : decode cX12_readBox 60 = .ok (.istore_n 2, 1) := by decide +kernel
theorem dX12_readBox_61 : decode cX12_readBox 61 = .ok (.aload_n 0, 1) := by decide +kernel
theorem dX12_readBox_62 : decode cX12_readBox 62 = .ok (.iconst 0, 1) := by decide +kernel
theorem dX12_readBox_63 : decode cX12_readBox 63 = .ok (.bipush 15, 2) := by decide +kernel
theorem dX12_readBox_65 : decode cX12_readBox 65 = .ok (.invokevirtual 185, 3) := by decide +kernel
theorem dX12_readBox_68 : decode cX12_readBox 68 = .ok (.ifCond .ne 5, 3) := by decide +kernel
theorem dX12_readBox_71 : decode cX12_readBox 71 = .ok (.iconst 0, 1) := by decide +kernel
theorem dX12_readBox_72 : decode cX12_readBox 72 = .ok (.ireturn, 1) := by decide +kernel
theorem dX12_readBox_73 : decode cX12_readBox 73 = .ok (.aload_n 0, 1) := by decide +kernel
theorem dX12_readBox_74 : decode cX12_readBox 74 = .ok (.getfield 182, 3) := by decide +kernel
theorem dX12_readBox_77 : decode cX12_readBox 77 = .ok (.istore_n 3, 1) := by decide +kernel
theorem dX12_readBox_78 : decode cX12_readBox 78 = .ok (.aload_n 0, 1) := by decide +kernel
theorem dX12_readBox_79 : decode cX12_readBox 79 = .ok (.iconst 1, 1) := by decide +kernel
theorem dX12_readBox_80 : decode cX12_readBox 80 = .ok (.bipush 16, 2) := by decide +kernel
theorem dX12_readBox_82 : decode cX12_readBox 82 = .ok (.invokevirtual 185, 3) := by decide +kernel
theorem dX12_readBox_85 : decode cX12_readBox 85 = .ok (.ifCond .ne 5, 3) := by decide +kernel
theorem dX12_readBox_88 : decode cX12_readBox 88 = .ok (.iconst 0, 1) := by decide +kernel
theorem dX12_readBox_89 : decode cX12_readBox 89 = .ok (.ireturn, 1) := by decide +kernel
theorem dX12_readBox_90 : decode cX12_readBox 90 = .ok (.aload_n 0, 1) := by decide +kernel
theorem dX12_readBox_91 : decode cX12_readBox 91 = .ok (.getfield 182, 3) := by decide +kernel
theorem dX12_readBox_94 : decode cX12_readBox 94 = .ok (.istore 4, 2) := by decide +kernel
theorem dX12_readBox_96 : decode cX12_readBox 96 = .ok (.aload_n 0, 1) := by decide +kernel
theorem dX12_readBox_97 : decode cX12_readBox 97 = .ok (.iconst 1, 1) := by decide +kernel
theorem dX12_readBox_98 : decode cX12_readBox 98 = .ok (.bipush 16, 2) := by decide +kernel
theorem dX12_readBox_100 : decode cX12_readBox 100 = .ok (.invokevirtual 185, 3) := by decide +kernel
theorem dX12_readBox_103 : decode cX12_readBox 103 = .ok (.ifCond .ne 5, 3) := by decide +kernel
theorem dX12_readBox_106 : decode cX12_readBox 106 = .ok (.iconst 0, 1) := by decide +kernel
theorem dX12_readBox_107 : decode cX12_readBox 107 = .ok (.ireturn, 1) := by decide +kernel
theorem dX12_readBox_108 : decode cX12_readBox 108 = .ok (.iload_n 3, 1) := by decide +kernel
theorem dX12_readBox_109 : decode cX12_readBox 109 = .ok (.istore 5, 2) := by decide +kernel
theorem dX12_readBox_111 : decode cX12_readBox 111 = .ok (.iload 5, 2) := by decide +kernel
theorem dX12_readBox_113 : decode cX12_readBox 113 = .ok (.iload_n 3, 1) := by decide +kernel
theorem dX12_readBox_114 : decode cX12_readBox 114 = .ok (.aload_n 0, 1) := by decide +kernel
theorem dX12_readBox_115 : decode cX12_readBox 115 = .ok (.getfield 182, 3) := by decide +kernel
theorem dX12_readBox_118 : decode cX12_readBox 118 = .ok (.iadd, 1) := by decide +kernel
theorem dX12_readBox_119 : decode cX12_readBox 119 = .ok (.if_icmp .ge 44, 3) := by decide +kernel
theorem dX12_readBox_122 : decode cX12_readBox 122 = .ok (.iload 5, 2) := by decide +kernel
theorem dX12_readBox_124 : decode cX12_readBox 124 = .ok (.bipush 16, 2) := by decide +kernel
theorem dX12_readBox_126 : decode cX12_readBox 126 = .ok (.if_icmp .ge 37, 3) := by decide +kernel
theorem dX12_readBox_129 : decode cX12_readBox 129 = .ok (.aload_n 0, 1) := by decide +kernel
theorem dX12_readBox_130 : decode cX12_readBox 130 = .ok (.getfield 33, 3) := by decide +kernel
theorem dX12_readBox_133 : decode cX12_readBox 133 = .ok (.bipush 16, 2) := by decide +kernel
theorem dX12_readBox_135 : decode cX12_readBox 135 = .ok (.iconst 4, 1) := by decide +kernel
theorem dX12_readBox_136 : decode cX12_readBox 136 = .ok (.iload_n 1, 1) := by decide +kernel
theorem dX12_readBox_137 : decode cX12_readBox 137 = .ok (.iadd, 1) := by decide +kernel
theorem dX12_readBox_138 : decode cX12_readBox 138 = .ok (.imul, 1) := by decide +kernel
theorem dX12_readBox_139 : decode cX12_readBox 139 = .ok (.iload 5, 2) := by decide +kernel
theorem dX12_readBox_141 : decode cX12_readBox 141 = .ok (.iadd, 1) := by decide +kernel
theorem dX12_readBox_142 : decode cX12_readBox 142 = .ok (.dup2, 1) := by decide +kernel
theorem dX12_readBox_143 : decode cX12_readBox 143 = .ok (.iaload, 1) := by decide +kernel
theorem dX12_readBox_144 : decode cX12_readBox 144 = .ok (.iconst 1, 1) := by decide +kernel
theorem dX12_readBox_145 : decode cX12_readBox 145 = .ok (.iload 4, 2) := by decide +kernel
theorem dX12_readBox_147 : decode cX12_readBox 147 = .ok (.ishl, 1) := by decide +kernel
theorem dX12_readBox_148 : decode cX12_readBox 148 = .ok (.iconst 1, 1) := by decide +kernel
theorem dX12_readBox_149 : decode cX12_readBox 149 = .ok (.isub, 1) := by decide +kernel
theorem dX12_readBox_150 : decode cX12_readBox 150 = .ok (.iload_n 2, 1) := by decide +kernel
theorem dX12_readBox_151 : decode cX12_readBox 151 = .ok (.ishl, 1) := by decide +kernel
theorem dX12_readBox_152 : decode cX12_readBox 152 = .ok (.ldc 228, 2) := by decide +kernel
theorem dX12_readBox_154 : decode cX12_readBox 154 = .ok (.iand, 1) := by decide +kernel
theorem dX12_readBox_155 : decode cX12_readBox 155 = .ok (.ior, 1) := by decide +kernel
theorem dX12_readBox_156 : decode cX12_readBox 156 = .ok (.iastore, 1) := by decide +kernel
theorem dX12_readBox_157 : decode cX12_readBox 157 = .ok (.iinc 5 1, 3) := by decide +kernel
theorem dX12_readBox_160 : decode cX12_readBox 160 = .ok (.goto (-49), 3) := by decide +kernel
theorem dX12_readBox_163 : decode cX12_readBox 163 = .ok (.aload_n 0, 1) := by decide +kernel
theorem dX12_readBox_164 : decode cX12_readBox 164 = .ok (.getfield 17, 3) := by decide +kernel
theorem dX12_readBox_167 : decode cX12_readBox 167 = .ok (.bipush 14, 2) := by decide +kernel
theorem dX12_readBox_169 : decode cX12_readBox 169 = .ok (.dup2, 1) := by decide +kernel
theorem dX12_readBox_170 : decode cX12_readBox 170 = .ok (.iaload, 1) := by decide +kernel
theorem dX12_readBox_171 : decode cX12_readBox 171 = .ok (.iconst 1, 1) := by decide +kernel
theorem dX12_readBox_172 : decode cX12_readBox 172 = .ok (.iadd, 1) := by decide +kernel
theorem dX12_readBox_173 : decode cX12_readBox 173 = .ok (.iastore, 1) := by decide +kernel
theorem dX12_readBox_174 : decode cX12_readBox 174 = .ok (.iconst 1, 1) := by decide +kernel
theorem dX12_readBox_175 : decode cX12_readBox 175 = .ok (.ireturn, 1) := by decide +kernel
set_option maxRecDepth 20000 in
theorem sX12_readBox_0 {P : Option Value → AH → Prop} (h : AH) (r0 : Nat) (hf : (isO h 12 r0) ∧ ((isA h 0 (gF h r0 11)) ∧ ((vp_in 14 (ln (gF h r0 11))) ∧ ((¬ (gI h (gF h r0 11) (Int32.toNatClampNeg 14)) = 8 → Call mX12_scan [.ref r0] h (fun v h5 => v = none ∧ ((isO h5 12 r0) ∧ ((((gI h5 r0 3) = 1 ∧ (¬ (gI h5 r0 4) < 0 ∧ ¬ 3 < (gI h5 r0 4))) → Call mX12_scan [.ref r0] h5 (fun v h8 => v = none ∧ ((isO h8 12 r0) ∧ (Call mX12_readNumber [.ref r0, .int 0, .int 15] h8 (fun v h10 => ∃ z11 : Int32, v = some (.int z11) ∧ ((¬ z11 = 0 → (isO h10 12 r0) ∧ (Call mX12_readNumber [.ref r0, .int 0, .int 15] h10 (fun v h14 => ∃ z15 : Int32, v = some (.int z15) ∧ ((¬ z15 = 0 → (isO h14 12 r0) ∧ (Call mX12_readNumber [.ref r0, .int 1, .int 16] h14 (fun v h18 => ∃ z19 : Int32, v = some (.int z19) ∧ ((¬ z19 = 0 → (isO h18 12 r0) ∧ (Call mX12_readNumber [.ref r0, .int 1, .int 16] h18 (fun v h22 => ∃ z23 : Int32, v = some (.int z23) ∧ ((¬ z23 = 0 → Rr mX12_readBox 0 0 111 [(0, .ref r0), (1, .int (gI h5 r0 4)), (2, .int (gI h10 r0 10)), (3, .int (gI h14 r0 10)), (4, .int (gI h18 r0 10)), (5, .int (gI h14 r0 10))] [] h22 P) ∧ (z23 = 0 → P (some (.int 0)) h22))))) ∧ (z19 = 0 → P (some (.int 0)) h18))))) ∧ (z15 = 0 → P (some (.int 0)) h14))))) ∧ (z11 = 0 → P (some (.int 0)) h10))))))) ∧ (¬ ((gI h5 r0 3) = 1 ∧ (¬ (gI h5 r0 4) < 0 ∧ ¬ 3 < (gI h5 r0 4))) → Call mX12_fails [.ref r0, .int 1] h5 (fun v h25 => ∃ z26 : Int32, v = some (.int z26) ∧ ((z26 = 0 ∨ z26 = 1) ∧ (P (some (.int z26)) h25)))))))) ∧ ((gI h (gF h r0 11) (Int32.toNatClampNeg 14)) = 8 → Call mX12_fails [.ref r0, .int 4] h (fun v h28 => ∃ z29 : Int32, v = some (.int z29) ∧ ((z29 = 0 ∨ z29 = 1) ∧ (P (some (.int z29)) h28)))))))) : Rr mX12_readBox 0 0 0 [(0, .ref r0)] [] h P := by
  refine R_aload_n dX12_readBox_0 rfl 0 rfl ?_
  obtain ⟨ob1, hf⟩ := hf
  refine G12_11 dX12_readBox_1 lfX12_17 ob1 ?_
  refine R_bipush (v := 14) dX12_readBox_4 (by decide) ?_
  obtain ⟨ob2, hf⟩ := hf
  obtain ⟨ob3, hf⟩ := hf
  refine R_iaload dX12_readBox_6 ob2 ob3 ?_
  refine R_bipush (v := 8) dX12_readBox_7 (by decide) ?_
  refine R_icmp_ne (tgt := 18) dX12_readBox_9 (by decide) (fun b4 => ?_) (fun b4 => ?_)
  · have hf := hf.1 b4
    refine R_aload_n dX12_readBox_18 rfl 0 rfl ?_
    refine R_callV (ci := 12) (N := mX12_scan) (as := []) (rest := []) (kc2 := 0) (ks2 := 0) dX12_readBox_19 lmX12_169 oX12_scan (Nat.le_of_ble_eq_true rfl) rfl rfl (Nat.le_of_ble_eq_true rfl) rfl rfl ob1 ok12 (Call.mono hf ?_)
    rintro _ h5 ⟨rfl, hf⟩
    refine R_aload_n dX12_readBox_22 rfl 0 rfl ?_
    obtain ⟨ob6, hf⟩ := hf
    refine R_callV (ci := 12) (N := mX12_isInk) (as := []) (rest := []) (kc2 := 0) (ks2 := 0) dX12_readBox_23 lmX12_221 oX12_isInk (Nat.le_of_ble_eq_true rfl) rfl rfl (Nat.le_of_ble_eq_true rfl) rfl rfl ob6 ok12 (aX12_isInk ob6 ?_)
    refine R_if_ne_b (tgt := 35) dX12_readBox_26 (by decide) (fun b7 => ?_) (fun b7 => ?_)
    · have hf := hf.1 b7
      refine R_aload_n dX12_readBox_35 rfl 0 rfl ?_
      refine G12_4 dX12_readBox_36 lfX12_149 ob6 ?_
      refine R_istore_n dX12_readBox_39 rfl (by decide) rfl ?_
      refine R_aload_n dX12_readBox_40 rfl 1 rfl ?_
      refine R_callV (ci := 12) (N := mX12_scan) (as := []) (rest := []) (kc2 := 0) (ks2 := 0) dX12_readBox_41 lmX12_169 oX12_scan (Nat.le_of_ble_eq_true rfl) rfl rfl (Nat.le_of_ble_eq_true rfl) rfl rfl ob6 ok12 (Call.mono hf ?_)
      rintro _ h8 ⟨rfl, hf⟩
      refine R_aload_n dX12_readBox_44 rfl 1 rfl ?_
      refine R_iconst (v := 0) dX12_readBox_45 (by decide) ?_
      refine R_bipush (v := 15) dX12_readBox_46 (by decide) ?_
      obtain ⟨ob9, hf⟩ := hf
      refine R_callV (ci := 12) (N := mX12_readNumber) (as := [.int 0, .int 15]) (rest := []) (kc2 := 0) (ks2 := 0) dX12_readBox_48 lmX12_185 oX12_readNumber (Nat.le_of_ble_eq_true rfl) rfl rfl (Nat.le_of_ble_eq_true rfl) rfl rfl ob9 ok12 (Call.mono hf ?_)
      rintro _ h10 ⟨z11, rfl, hf⟩
      refine R_if_ne (tgt := 56) dX12_readBox_51 (by decide) (fun b12 => ?_) (fun b12 => ?_)
      · have hf := hf.1 b12
        refine R_aload_n dX12_readBox_56 rfl 1 rfl ?_
        obtain ⟨ob13, hf⟩ := hf
        refine G12_10 dX12_readBox_57 lfX12_182 ob13 ?_
        refine R_istore_n dX12_readBox_60 rfl (by decide) rfl ?_
        refine R_aload_n dX12_readBox_61 rfl 2 rfl ?_
        refine R_iconst (v := 0) dX12_readBox_62 (by decide) ?_
        refine R_bipush (v := 15) dX12_readBox_63 (by decide) ?_
        refine R_callV (ci := 12) (N := mX12_readNumber) (as := [.int 0, .int 15]) (rest := []) (kc2 := 0) (ks2 := 0) dX12_readBox_65 lmX12_185 oX12_readNumber (Nat.le_of_ble_eq_true rfl) rfl rfl (Nat.le_of_ble_eq_true rfl) rfl rfl ob13 ok12 (Call.mono hf ?_)
        rintro _ h14 ⟨z15, rfl, hf⟩
        refine R_if_ne (tgt := 73) dX12_readBox_68 (by decide) (fun b16 => ?_) (fun b16 => ?_)
        · have hf := hf.1 b16
          refine R_aload_n dX12_readBox_73 rfl 2 rfl ?_
          obtain ⟨ob17, hf⟩ := hf
          refine G12_10 dX12_readBox_74 lfX12_182 ob17 ?_
          refine R_istore_n dX12_readBox_77 rfl (by decide) rfl ?_
          refine R_aload_n dX12_readBox_78 rfl 3 rfl ?_
          refine R_iconst (v := 1) dX12_readBox_79 (by decide) ?_
          refine R_bipush (v := 16) dX12_readBox_80 (by decide) ?_
          refine R_callV (ci := 12) (N := mX12_readNumber) (as := [.int 1, .int 16]) (rest := []) (kc2 := 0) (ks2 := 0) dX12_readBox_82 lmX12_185 oX12_readNumber (Nat.le_of_ble_eq_true rfl) rfl rfl (Nat.le_of_ble_eq_true rfl) rfl rfl ob17 ok12 (Call.mono hf ?_)
          rintro _ h18 ⟨z19, rfl, hf⟩
          refine R_if_ne (tgt := 90) dX12_readBox_85 (by decide) (fun b20 => ?_) (fun b20 => ?_)
          · have hf := hf.1 b20
            refine R_aload_n dX12_readBox_90 rfl 3 rfl ?_
            obtain ⟨ob21, hf⟩ := hf
            refine G12_10 dX12_readBox_91 lfX12_182 ob21 ?_
            refine R_istore dX12_readBox_94 (by decide) rfl ?_
            refine R_aload_n dX12_readBox_96 rfl 4 rfl ?_
            refine R_iconst (v := 1) dX12_readBox_97 (by decide) ?_
            refine R_bipush (v := 16) dX12_readBox_98 (by decide) ?_
            refine R_callV (ci := 12) (N := mX12_readNumber) (as := [.int 1, .int 16]) (rest := []) (kc2 := 0) (ks2 := 0) dX12_readBox_100 lmX12_185 oX12_readNumber (Nat.le_of_ble_eq_true rfl) rfl rfl (Nat.le_of_ble_eq_true rfl) rfl rfl ob21 ok12 (Call.mono hf ?_)
            rintro _ h22 ⟨z23, rfl, hf⟩
            refine R_if_ne (tgt := 108) dX12_readBox_103 (by decide) (fun b24 => ?_) (fun b24 => ?_)
            · have hf := hf.1 b24
              refine R_iload_n dX12_readBox_108 rfl 1 rfl ?_
              refine R_istore dX12_readBox_109 (by decide) rfl ?_
              exact R_sub [5, 4, 3, 2, 1, 0] rfl hf
            · have hf := hf.2 b24
              refine R_iconst (v := 0) dX12_readBox_106 (by decide) ?_
              exact R_iret dX12_readBox_107 rfl rfl hf
          · have hf := hf.2 b20
            refine R_iconst (v := 0) dX12_readBox_88 (by decide) ?_
            exact R_iret dX12_readBox_89 rfl rfl hf
        · have hf := hf.2 b16
          refine R_iconst (v := 0) dX12_readBox_71 (by decide) ?_
          exact R_iret dX12_readBox_72 rfl rfl hf
      · have hf := hf.2 b12
        refine R_iconst (v := 0) dX12_readBox_54 (by decide) ?_
        exact R_iret dX12_readBox_55 rfl rfl hf
    · have hf := hf.2 b7
      refine R_aload_n dX12_readBox_29 rfl 0 rfl ?_
      refine R_iconst (v := 1) dX12_readBox_30 (by decide) ?_
      refine R_callV (ci := 12) (N := mX12_fails) (as := [.int 1]) (rest := []) (kc2 := 0) (ks2 := 0) dX12_readBox_31 lmX12_175 oX12_fails (Nat.le_of_ble_eq_true rfl) rfl rfl (Nat.le_of_ble_eq_true rfl) rfl rfl ob6 ok12 (Call.mono hf ?_)
      rintro _ h25 ⟨z26, rfl, hf⟩
      obtain ⟨ob27, hf⟩ := hf
      exact R_iret dX12_readBox_34 rfl (nb_n ob27) hf
  · have hf := hf.2 b4
    refine R_aload_n dX12_readBox_12 rfl 0 rfl ?_
    refine R_iconst (v := 4) dX12_readBox_13 (by decide) ?_
    refine R_callV (ci := 12) (N := mX12_fails) (as := [.int 4]) (rest := []) (kc2 := 0) (ks2 := 0) dX12_readBox_14 lmX12_175 oX12_fails (Nat.le_of_ble_eq_true rfl) rfl rfl (Nat.le_of_ble_eq_true rfl) rfl rfl ob1 ok12 (Call.mono hf ?_)
    rintro _ h28 ⟨z29, rfl, hf⟩
    obtain ⟨ob30, hf⟩ := hf
    exact R_iret dX12_readBox_17 rfl (nb_n ob30) hf
set_option maxRecDepth 20000 in
theorem sX12_readBox_111 {P : Option Value → AH → Prop} (h : AH) (r0 : Nat) (x1 : Int32) (x2 : Int32) (x3 : Int32) (x4 : Int32) (x5 : Int32) (hf : (isO h 12 r0) ∧ (((x3 + (gI h r0 10)) ≤ x5 → (isA h 0 (gF h r0 11)) ∧ ((vp_in 14 (ln (gF h r0 11))) ∧ (P (some (.int 1)) (sI h (gF h r0 11) (Int32.toNatClampNeg 14) ((gI h (gF h r0 11) (Int32.toNatClampNeg 14)) + 1))))) ∧ (¬ (x3 + (gI h r0 10)) ≤ x5 → (16 ≤ x5 → (isA h 0 (gF h r0 11)) ∧ ((vp_in 14 (ln (gF h r0 11))) ∧ (P (some (.int 1)) (sI h (gF h r0 11) (Int32.toNatClampNeg 14) ((gI h (gF h r0 11) (Int32.toNatClampNeg 14)) + 1))))) ∧ (¬ 16 ≤ x5 → (isA h 0 (gF h r0 16)) ∧ ((vp_in ((16 * (4 + x1)) + x5) (ln (gF h r0 16))) ∧ (Rr mX12_readBox 0 0 111 [(0, .ref r0), (1, .int x1), (2, .int x2), (3, .int x3), (4, .int x4), (5, .int (x5 + 1))] [] (sI h (gF h r0 16) ((16 * (4 + x1)) + x5).toNatClampNeg ((gI h (gF h r0 16) ((16 * (4 + x1)) + x5).toNatClampNeg) ||| (((((1 : Int32) <<< (x4 &&& 31)) - 1) <<< (x2 &&& 31)) &&& 65535))) P)))))) : Rr mX12_readBox 0 0 111 [(0, .ref r0), (1, .int x1), (2, .int x2), (3, .int x3), (4, .int x4), (5, .int x5)] [] h P := by
  refine R_iload dX12_readBox_111 5 rfl ?_
  refine R_iload_n dX12_readBox_113 rfl 3 rfl ?_
  refine R_aload_n dX12_readBox_114 rfl 0 rfl ?_
  obtain ⟨ob1, hf⟩ := hf
  refine G12_10 dX12_readBox_115 lfX12_182 ob1 ?_
  refine R_iadd dX12_readBox_118 ?_
  refine R_icmp_ge (tgt := 163) dX12_readBox_119 (by decide) (fun b2 => ?_) (fun b2 => ?_)
  · have hf := hf.1 b2
    refine R_aload_n dX12_readBox_163 rfl 0 rfl ?_
    refine G12_11 dX12_readBox_164 lfX12_17 ob1 ?_
    refine R_bipush (v := 14) dX12_readBox_167 (by decide) ?_
    refine R_dup2 dX12_readBox_169 rfl rfl ?_
    obtain ⟨ob3, hf⟩ := hf
    obtain ⟨ob4, hf⟩ := hf
    refine R_iaload dX12_readBox_170 ob3 ob4 ?_
    refine R_iconst (v := 1) dX12_readBox_171 (by decide) ?_
    refine R_iadd dX12_readBox_172 ?_
    refine R_iastore dX12_readBox_173 ob3 ob4 ?_
    refine R_iconst (v := 1) dX12_readBox_174 (by decide) ?_
    exact R_iret dX12_readBox_175 rfl rfl hf
  · have hf := hf.2 b2
    refine R_iload dX12_readBox_122 5 rfl ?_
    refine R_bipush (v := 16) dX12_readBox_124 (by decide) ?_
    refine R_icmp_ge (tgt := 163) dX12_readBox_126 (by decide) (fun b5 => ?_) (fun b5 => ?_)
    · have hf := hf.1 b5
      refine R_aload_n dX12_readBox_163 rfl 0 rfl ?_
      refine G12_11 dX12_readBox_164 lfX12_17 ob1 ?_
      refine R_bipush (v := 14) dX12_readBox_167 (by decide) ?_
      refine R_dup2 dX12_readBox_169 rfl rfl ?_
      obtain ⟨ob6, hf⟩ := hf
      obtain ⟨ob7, hf⟩ := hf
      refine R_iaload dX12_readBox_170 ob6 ob7 ?_
      refine R_iconst (v := 1) dX12_readBox_171 (by decide) ?_
      refine R_iadd dX12_readBox_172 ?_
      refine R_iastore dX12_readBox_173 ob6 ob7 ?_
      refine R_iconst (v := 1) dX12_readBox_174 (by decide) ?_
      exact R_iret dX12_readBox_175 rfl rfl hf
    · have hf := hf.2 b5
      refine R_aload_n dX12_readBox_129 rfl 0 rfl ?_
      refine G12_16 dX12_readBox_130 lfX12_33 ob1 ?_
      refine R_bipush (v := 16) dX12_readBox_133 (by decide) ?_
      refine R_iconst (v := 4) dX12_readBox_135 (by decide) ?_
      refine R_iload_n dX12_readBox_136 rfl 1 rfl ?_
      refine R_iadd dX12_readBox_137 ?_
      refine R_imul dX12_readBox_138 ?_
      refine R_iload dX12_readBox_139 5 rfl ?_
      refine R_iadd dX12_readBox_141 ?_
      refine R_dup2 dX12_readBox_142 rfl rfl ?_
      obtain ⟨ob8, hf⟩ := hf
      obtain ⟨ob9, hf⟩ := hf
      refine R_iaload dX12_readBox_143 ob8 ob9 ?_
      refine R_iconst (v := 1) dX12_readBox_144 (by decide) ?_
      refine R_iload dX12_readBox_145 4 rfl ?_
      refine R_ishl dX12_readBox_147 ?_
      refine R_iconst (v := 1) dX12_readBox_148 (by decide) ?_
      refine R_isub dX12_readBox_149 ?_
      refine R_iload_n dX12_readBox_150 rfl 2 rfl ?_
      refine R_ishl dX12_readBox_151 ?_
      refine R_ldc (v := 65535) dX12_readBox_152 lcX12_228 ?_
      refine R_iand dX12_readBox_154 ?_
      refine R_ior dX12_readBox_155 ?_
      refine R_iastore dX12_readBox_156 ob8 ob9 ?_
      refine R_iinc (v := x5 + 1) dX12_readBox_157 5 rfl rfl (by decide) rfl ?_
      refine R_goto (tgt := 111) dX12_readBox_160 (by decide) ?_
      exact R_sub [1, 2, 3, 4, 5, 0] rfl hf
theorem dX12_readLies_0 : decode cX12_readLies 0 = .ok (.aload_n 0, 1) := by decide +kernel
theorem dX12_readLies_1 : decode cX12_readLies 1 = .ok (.invokevirtual 169, 3) := by decide +kernel
theorem dX12_readLies_4 : decode cX12_readLies 4 = .ok (.aload_n 0, 1) := by decide +kernel
theorem dX12_readLies_5 : decode cX12_readLies 5 = .ok (.invokevirtual 221, 3) := by decide +kernel
theorem dX12_readLies_8 : decode cX12_readLies 8 = .ok (.ifCond .ne 9, 3) := by decide +kernel
theorem dX12_readLies_11 : decode cX12_readLies 11 = .ok (.aload_n 0, 1) := by decide +kernel
theorem dX12_readLies_12 : decode cX12_readLies 12 = .ok (.iconst 1, 1) := by decide +kernel
theorem dX12_readLies_13 : decode cX12_readLies 13 = .ok (.invokevirtual 175, 3) := by decide +kernel
theorem dX12_readLies_16 : decode cX12_readLies 16 = .ok (.ireturn, 1) := by decide +kernel
theorem dX12_readLies_17 : decode cX12_readLies 17 = .ok (.aload_n 0, 1) := by decide +kernel
theorem dX12_readLies_18 : decode cX12_readLies 18 = .ok (.getfield 149, 3) := by decide +kernel
theorem dX12_readLies_21 : decode cX12_readLies 21 = .ok (.istore_n 1, 1) := by decide +kernel
theorem dX12_readLies_22 : decode cX12_readLies 22 = .ok (.aload_n 0, 1) := by decide +kernel
theorem dX12_readLies_23 : decode cX12_readLies 23 = .ok (.invokevirtual 169, 3) := by decide +kernel
theorem dX12_readLies_26 : decode cX12_readLies 26 = .ok (.aload_n 0, 1) := by decide +kernel
theorem dX12_readLies_27 : decode cX12_readLies 27 = .ok (.invokevirtual 221, 3) := by decide +kernel
theorem dX12_readLies_30 : decode cX12_readLies 30 = .ok (.ifCond .ne 9, 3) := by decide +kernel
theorem dX12_readLies_33 : decode cX12_readLies 33 = .ok (.aload_n 0, 1) := by decide +kernel
theorem dX12_readLies_34 : decode cX12_readLies 34 = .ok (.iconst 1, 1) := by decide +kernel
theorem dX12_readLies_35 : decode cX12_readLies 35 = .ok (.invokevirtual 175, 3) := by decide +kernel
theorem dX12_readLies_38 : decode cX12_readLies 38 = .ok (.ireturn, 1) := by decide +kernel
theorem dX12_readLies_39 : decode cX12_readLies 39 = .ok (.iconst 4, 1) := by decide +kernel
theorem dX12_readLies_40 : decode cX12_readLies 40 = .ok (.iload_n 1, 1) := by decide +kernel
theorem dX12_readLies_41 : decode cX12_readLies 41 = .ok (.imul, 1) := by decide +kernel
theorem dX12_readLies_42 : decode cX12_readLies 42 = .ok (.aload_n 0, 1) := by decide +kernel
theorem dX12_readLies_43 : decode cX12_readLies 43 = .ok (.getfield 149, 3) := by decide +kernel
theorem dX12_readLies_46 : decode cX12_readLies 46 = .ok (.iadd, 1) := by decide +kernel
theorem dX12_readLies_47 : decode cX12_readLies 47 = .ok (.istore_n 2, 1) := by decide +kernel
theorem dX12_readLies_48 : decode cX12_readLies 48 = .ok (.iload_n 1, 1) := by decide +kernel
theorem dX12_readLies_49 : decode cX12_readLies 49 = .ok (.aload_n 0, 1) := by decide +kernel
theorem dX12_readLies_50 : decode cX12_readLies 50 = .ok (.getfield 149, 3) := by decide +kernel
theorem dX12_readLies_53 : decode cX12_readLies 53 = .ok (.if_icmp .eq 15, 3) := by decide +kernel
theorem dX12_readLies_56 : decode cX12_readLies 56 = .ok (.aload_n 0, 1) := by decide +kernel
theorem dX12_readLies_57 : decode cX12_readLies 57 = .ok (.getfield 192, 3) := by decide +kernel
theorem dX12_readLies_60 : decode cX12_readLies 60 = .ok (.iload_n 2, 1) := by decide +kernel
theorem dX12_readLies_61 : decode cX12_readLies 61 = .ok (.ishr, 1) := by decide +kernel
theorem dX12_readLies_62 : decode cX12_readLies 62 = .ok (.iconst 1, 1) := by decide +kernel
theorem dX12_readLies_63 : decode cX12_readLies 63 = .ok (.iand, 1) := by decide +kernel
theorem dX12_readLies_64 : decode cX12_readLies 64 = .ok (.iconst 1, 1) := by decide +kernel
theorem dX12_readLies_65 : decode cX12_readLies 65 = .ok (.if_icmp .ne 9, 3) := by decide +kernel
theorem dX12_readLies_68 : decode cX12_readLies 68 = .ok (.aload_n 0, 1) := by decide +kernel
theorem dX12_readLies_69 : decode cX12_readLies 69 = .ok (.iconst 3, 1) := by decide +kernel
theorem dX12_readLies_70 : decode cX12_readLies 70 = .ok (.invokevirtual 175, 3) := by decide +kernel
theorem dX12_readLies_73 : decode cX12_readLies 73 = .ok (.ireturn, 1) := by decide +kernel
theorem dX12_readLies_74 : decode cX12_readLies 74 = .ok (.aload_n 0, 1) := by decide +kernel
theorem dX12_readLies_75 : decode cX12_readLies 75 = .ok (.dup, 1) := by decide +kernel
theorem dX12_readLies_76 : decode cX12_readLies 76 = .ok (.getfield 192, 3) := by decide +kernel
theorem dX12_readLies_79 : decode cX12_readLies 79 = .ok (.iconst 1, 1) := by decide +kernel
theorem dX12_readLies_80 : decode cX12_readLies 80 = .ok (.iload_n 2, 1) := by decide +kernel
theorem dX12_readLies_81 : decode cX12_readLies 81 = .ok (.ishl, 1) := by decide +kernel
theorem dX12_readLies_82 : decode cX12_readLies 82 = .ok (.ior, 1) := by decide +kernel
theorem dX12_readLies_83 : decode cX12_readLies 83 = .ok (.putfield 192, 3) := by decide +kernel
theorem dX12_readLies_86 : decode cX12_readLies 86 = .ok (.aload_n 0, 1) := by decide +kernel
theorem dX12_readLies_87 : decode cX12_readLies 87 = .ok (.invokevirtual 169, 3) := by decide +kernel
theorem dX12_readLies_90 : decode cX12_readLies 90 = .ok (.aload_n 0, 1) := by decide +kernel
theorem dX12_readLies_91 : decode cX12_readLies 91 = .ok (.iconst 0, 1) := by decide +kernel
theorem dX12_readLies_92 : decode cX12_readLies 92 = .ok (.bipush 100, 2) := by decide +kernel
theorem dX12_readLies_94 : decode cX12_readLies 94 = .ok (.invokevirtual 185, 3) := by decide +kernel
theorem dX12_readLies_97 : decode cX12_readLies 97 = .ok (.ifCond .ne 5, 3) := by decide +kernel
theorem dX12_readLies_100 : decode cX12_readLies 100 = .ok (.iconst 0, 1) := by decide +kernel
theorem dX12_readLies_101 : decode cX12_readLies 101 = .ok (.ireturn, 1) := by decide +kernel
theorem dX12_readLies_102 : decode cX12_readLies 102 = .ok (.aload_n 0, 1) := by decide +kernel
theorem dX12_readLies_103 : decode cX12_readLies 103 = .ok (.getfield 42, 3) := by decide +kernel
theorem dX12_readLies_106 : decode cX12_readLies 106 = .ok (.bipush 16, 2) := by decide +kernel
theorem dX12_readLies_108 : decode cX12_readLies 108 = .ok (.iload_n 2, 1) := by decide +kernel
theorem dX12_readLies_109 : decode cX12_readLies 109 = .ok (.iadd, 1) := by decide +kernel
theorem dX12_readLies_110 : decode cX12_readLies 110 = .ok (.aload_n 0, 1) := by decide +kernel
theorem dX12_readLies_111 : decode cX12_readLies 111 = .ok (.getfield 182, 3) := by decide +kernel
theorem dX12_readLies_114 : decode cX12_readLies 114 = .ok (.iastore, 1) := by decide +kernel
theorem dX12_readLies_115 : decode cX12_readLies 115 = .ok (.iconst 1, 1) := by decide +kernel
theorem dX12_readLies_116 : decode cX12_readLies 116 = .ok (.ireturn, 1) := by decide +kernel
set_option maxRecDepth 20000 in
theorem sX12_readLies_0 {P : Option Value → AH → Prop} (h : AH) (r0 : Nat) (hf : (isO h 12 r0) ∧ (Call mX12_scan [.ref r0] h (fun v h2 => v = none ∧ ((isO h2 12 r0) ∧ ((((gI h2 r0 3) = 1 ∧ (¬ (gI h2 r0 4) < 0 ∧ ¬ 3 < (gI h2 r0 4))) → Call mX12_scan [.ref r0] h2 (fun v h5 => v = none ∧ ((isO h5 12 r0) ∧ ((((gI h5 r0 3) = 1 ∧ (¬ (gI h5 r0 4) < 0 ∧ ¬ 3 < (gI h5 r0 4))) → ((gI h2 r0 4) = (gI h5 r0 4) → Call mX12_fails [.ref r0, .int 3] h5 (fun v h9 => ∃ z10 : Int32, v = some (.int z10) ∧ ((z10 = 0 ∨ z10 = 1) ∧ (P (some (.int z10)) h9)))) ∧ (¬ (gI h2 r0 4) = (gI h5 r0 4) → (¬ (((gI h5 r0 22) >>> (((4 * (gI h2 r0 4)) + (gI h5 r0 4)) &&& 31)) &&& 1) = 1 → Call mX12_scan [.ref r0] (sI h5 r0 22 ((gI h5 r0 22) ||| ((1 : Int32) <<< (((4 * (gI h2 r0 4)) + (gI h5 r0 4)) &&& 31)))) (fun v h13 => v = none ∧ ((isO h13 12 r0) ∧ (Call mX12_readNumber [.ref r0, .int 0, .int 100] h13 (fun v h15 => ∃ z16 : Int32, v = some (.int z16) ∧ ((¬ z16 = 0 → (isO h15 12 r0) ∧ ((isA h15 0 (gF h15 r0 19)) ∧ ((vp_in (16 + ((4 * (gI h2 r0 4)) + (gI h5 r0 4))) (ln (gF h15 r0 19))) ∧ (P (some (.int 1)) (sI h15 (gF h15 r0 19) (16 + ((4 * (gI h2 r0 4)) + (gI h5 r0 4))).toNatClampNeg (gI h15 r0 10)))))) ∧ (z16 = 0 → P (some (.int 0)) h15))))))) ∧ ((((gI h5 r0 22) >>> (((4 * (gI h2 r0 4)) + (gI h5 r0 4)) &&& 31)) &&& 1) = 1 → Call mX12_fails [.ref r0, .int 3] h5 (fun v h21 => ∃ z22 : Int32, v = some (.int z22) ∧ ((z22 = 0 ∨ z22 = 1) ∧ (P (some (.int z22)) h21)))))) ∧ (¬ ((gI h5 r0 3) = 1 ∧ (¬ (gI h5 r0 4) < 0 ∧ ¬ 3 < (gI h5 r0 4))) → Call mX12_fails [.ref r0, .int 1] h5 (fun v h24 => ∃ z25 : Int32, v = some (.int z25) ∧ ((z25 = 0 ∨ z25 = 1) ∧ (P (some (.int z25)) h24)))))))) ∧ (¬ ((gI h2 r0 3) = 1 ∧ (¬ (gI h2 r0 4) < 0 ∧ ¬ 3 < (gI h2 r0 4))) → Call mX12_fails [.ref r0, .int 1] h2 (fun v h27 => ∃ z28 : Int32, v = some (.int z28) ∧ ((z28 = 0 ∨ z28 = 1) ∧ (P (some (.int z28)) h27))))))))) : Rr mX12_readLies 0 0 0 [(0, .ref r0)] [] h P := by
  refine R_aload_n dX12_readLies_0 rfl 0 rfl ?_
  obtain ⟨ob1, hf⟩ := hf
  refine R_callV (ci := 12) (N := mX12_scan) (as := []) (rest := []) (kc2 := 0) (ks2 := 0) dX12_readLies_1 lmX12_169 oX12_scan (Nat.le_of_ble_eq_true rfl) rfl rfl (Nat.le_of_ble_eq_true rfl) rfl rfl ob1 ok12 (Call.mono hf ?_)
  rintro _ h2 ⟨rfl, hf⟩
  refine R_aload_n dX12_readLies_4 rfl 0 rfl ?_
  obtain ⟨ob3, hf⟩ := hf
  refine R_callV (ci := 12) (N := mX12_isInk) (as := []) (rest := []) (kc2 := 0) (ks2 := 0) dX12_readLies_5 lmX12_221 oX12_isInk (Nat.le_of_ble_eq_true rfl) rfl rfl (Nat.le_of_ble_eq_true rfl) rfl rfl ob3 ok12 (aX12_isInk ob3 ?_)
  refine R_if_ne_b (tgt := 17) dX12_readLies_8 (by decide) (fun b4 => ?_) (fun b4 => ?_)
  · have hf := hf.1 b4
    refine R_aload_n dX12_readLies_17 rfl 0 rfl ?_
    refine G12_4 dX12_readLies_18 lfX12_149 ob3 ?_
    refine R_istore_n dX12_readLies_21 rfl (by decide) rfl ?_
    refine R_aload_n dX12_readLies_22 rfl 1 rfl ?_
    refine R_callV (ci := 12) (N := mX12_scan) (as := []) (rest := []) (kc2 := 0) (ks2 := 0) dX12_readLies_23 lmX12_169 oX12_scan (Nat.le_of_ble_eq_true rfl) rfl rfl (Nat.le_of_ble_eq_true rfl) rfl rfl ob3 ok12 (Call.mono hf ?_)
    rintro _ h5 ⟨rfl, hf⟩
    refine R_aload_n dX12_readLies_26 rfl 1 rfl ?_
    obtain ⟨ob6, hf⟩ := hf
    refine R_callV (ci := 12) (N := mX12_isInk) (as := []) (rest := []) (kc2 := 0) (ks2 := 0) dX12_readLies_27 lmX12_221 oX12_isInk (Nat.le_of_ble_eq_true rfl) rfl rfl (Nat.le_of_ble_eq_true rfl) rfl rfl ob6 ok12 (aX12_isInk ob6 ?_)
    refine R_if_ne_b (tgt := 39) dX12_readLies_30 (by decide) (fun b7 => ?_) (fun b7 => ?_)
    · have hf := hf.1 b7
      refine R_iconst (v := 4) dX12_readLies_39 (by decide) ?_
      refine R_iload_n dX12_readLies_40 rfl 0 rfl ?_
      refine R_imul dX12_readLies_41 ?_
      refine R_aload_n dX12_readLies_42 rfl 1 rfl ?_
      refine G12_4 dX12_readLies_43 lfX12_149 ob6 ?_
      refine R_iadd dX12_readLies_46 ?_
      refine R_istore_n dX12_readLies_47 rfl (by decide) rfl ?_
      refine R_iload_n dX12_readLies_48 rfl 1 rfl ?_
      refine R_aload_n dX12_readLies_49 rfl 2 rfl ?_
      refine G12_4 dX12_readLies_50 lfX12_149 ob6 ?_
      refine R_icmp_eq (tgt := 68) dX12_readLies_53 (by decide) (fun b8 => ?_) (fun b8 => ?_)
      · have hf := hf.1 b8
        refine R_aload_n dX12_readLies_68 rfl 2 rfl ?_
        refine R_iconst (v := 3) dX12_readLies_69 (by decide) ?_
        refine R_callV (ci := 12) (N := mX12_fails) (as := [.int 3]) (rest := []) (kc2 := 0) (ks2 := 0) dX12_readLies_70 lmX12_175 oX12_fails (Nat.le_of_ble_eq_true rfl) rfl rfl (Nat.le_of_ble_eq_true rfl) rfl rfl ob6 ok12 (Call.mono hf ?_)
        rintro _ h9 ⟨z10, rfl, hf⟩
        obtain ⟨ob11, hf⟩ := hf
        exact R_iret dX12_readLies_73 rfl (nb_n ob11) hf
      · have hf := hf.2 b8
        refine R_aload_n dX12_readLies_56 rfl 2 rfl ?_
        refine G12_22 dX12_readLies_57 lfX12_192 ob6 ?_
        refine R_iload_n dX12_readLies_60 rfl 0 rfl ?_
        refine R_ishr dX12_readLies_61 ?_
        refine R_iconst (v := 1) dX12_readLies_62 (by decide) ?_
        refine R_iand dX12_readLies_63 ?_
        refine R_iconst (v := 1) dX12_readLies_64 (by decide) ?_
        refine R_icmp_ne (tgt := 74) dX12_readLies_65 (by decide) (fun b12 => ?_) (fun b12 => ?_)
        · have hf := hf.1 b12
          refine R_aload_n dX12_readLies_74 rfl 2 rfl ?_
          refine R_dup dX12_readLies_75 rfl ?_
          refine G12_22 dX12_readLies_76 lfX12_192 ob6 ?_
          refine R_iconst (v := 1) dX12_readLies_79 (by decide) ?_
          refine R_iload_n dX12_readLies_80 rfl 0 rfl ?_
          refine R_ishl dX12_readLies_81 ?_
          refine R_ior dX12_readLies_82 ?_
          refine S12_22 dX12_readLies_83 lfX12_192 ob6 ?_
          refine R_aload_n dX12_readLies_86 rfl 2 rfl ?_
          refine R_callV (ci := 12) (N := mX12_scan) (as := []) (rest := []) (kc2 := 0) (ks2 := 0) dX12_readLies_87 lmX12_169 oX12_scan (Nat.le_of_ble_eq_true rfl) rfl rfl (Nat.le_of_ble_eq_true rfl) rfl rfl ob6 ok12 (Call.mono hf ?_)
          rintro _ h13 ⟨rfl, hf⟩
          refine R_aload_n dX12_readLies_90 rfl 2 rfl ?_
          refine R_iconst (v := 0) dX12_readLies_91 (by decide) ?_
          refine R_bipush (v := 100) dX12_readLies_92 (by decide) ?_
          obtain ⟨ob14, hf⟩ := hf
          refine R_callV (ci := 12) (N := mX12_readNumber) (as := [.int 0, .int 100]) (rest := []) (kc2 := 0) (ks2 := 0) dX12_readLies_94 lmX12_185 oX12_readNumber (Nat.le_of_ble_eq_true rfl) rfl rfl (Nat.le_of_ble_eq_true rfl) rfl rfl ob14 ok12 (Call.mono hf ?_)
          rintro _ h15 ⟨z16, rfl, hf⟩
          refine R_if_ne (tgt := 102) dX12_readLies_97 (by decide) (fun b17 => ?_) (fun b17 => ?_)
          · have hf := hf.1 b17
            refine R_aload_n dX12_readLies_102 rfl 2 rfl ?_
            obtain ⟨ob18, hf⟩ := hf
            refine G12_19 dX12_readLies_103 lfX12_42 ob18 ?_
            refine R_bipush (v := 16) dX12_readLies_106 (by decide) ?_
            refine R_iload_n dX12_readLies_108 rfl 0 rfl ?_
            refine R_iadd dX12_readLies_109 ?_
            refine R_aload_n dX12_readLies_110 rfl 2 rfl ?_
            refine G12_10 dX12_readLies_111 lfX12_182 ob18 ?_
            obtain ⟨ob19, hf⟩ := hf
            obtain ⟨ob20, hf⟩ := hf
            refine R_iastore dX12_readLies_114 ob19 ob20 ?_
            refine R_iconst (v := 1) dX12_readLies_115 (by decide) ?_
            exact R_iret dX12_readLies_116 rfl rfl hf
          · have hf := hf.2 b17
            refine R_iconst (v := 0) dX12_readLies_100 (by decide) ?_
            exact R_iret dX12_readLies_101 rfl rfl hf
        · have hf := hf.2 b12
          refine R_aload_n dX12_readLies_68 rfl 2 rfl ?_
          refine R_iconst (v := 3) dX12_readLies_69 (by decide) ?_
          refine R_callV (ci := 12) (N := mX12_fails) (as := [.int 3]) (rest := []) (kc2 := 0) (ks2 := 0) dX12_readLies_70 lmX12_175 oX12_fails (Nat.le_of_ble_eq_true rfl) rfl rfl (Nat.le_of_ble_eq_true rfl) rfl rfl ob6 ok12 (Call.mono hf ?_)
          rintro _ h21 ⟨z22, rfl, hf⟩
          obtain ⟨ob23, hf⟩ := hf
          exact R_iret dX12_readLies_73 rfl (nb_n ob23) hf
    · have hf := hf.2 b7
      refine R_aload_n dX12_readLies_33 rfl 1 rfl ?_
      refine R_iconst (v := 1) dX12_readLies_34 (by decide) ?_
      refine R_callV (ci := 12) (N := mX12_fails) (as := [.int 1]) (rest := []) (kc2 := 0) (ks2 := 0) dX12_readLies_35 lmX12_175 oX12_fails (Nat.le_of_ble_eq_true rfl) rfl rfl (Nat.le_of_ble_eq_true rfl) rfl rfl ob6 ok12 (Call.mono hf ?_)
      rintro _ h24 ⟨z25, rfl, hf⟩
      obtain ⟨ob26, hf⟩ := hf
      exact R_iret dX12_readLies_38 rfl (nb_n ob26) hf
  · have hf := hf.2 b4
    refine R_aload_n dX12_readLies_11 rfl 0 rfl ?_
    refine R_iconst (v := 1) dX12_readLies_12 (by decide) ?_
    refine R_callV (ci := 12) (N := mX12_fails) (as := [.int 1]) (rest := []) (kc2 := 0) (ks2 := 0) dX12_readLies_13 lmX12_175 oX12_fails (Nat.le_of_ble_eq_true rfl) rfl rfl (Nat.le_of_ble_eq_true rfl) rfl rfl ob3 ok12 (Call.mono hf ?_)
    rintro _ h27 ⟨z28, rfl, hf⟩
    obtain ⟨ob29, hf⟩ := hf
    exact R_iret dX12_readLies_16 rfl (nb_n ob29) hf
theorem dX12_readMark_0 : decode cX12_readMark 0 = .ok (.aload_n 0, 1) := by decide +kernel
theorem dX12_readMark_1 : decode cX12_readMark 1 = .ok (.getfield 17, 3) := by decide +kernel
theorem dX12_readMark_4 : decode cX12_readMark 4 = .ok (.bipush 11, 2) := by decide +kernel
theorem dX12_readMark_6 : decode cX12_readMark 6 = .ok (.iaload, 1) := by decide +kernel
theorem dX12_readMark_7 : decode cX12_readMark 7 = .ok (.istore_n 1, 1) := by decide +kernel
theorem dX12_readMark_8 : decode cX12_readMark 8 = .ok (.iload_n 1, 1) := by decide +kernel
theorem dX12_readMark_9 : decode cX12_readMark 9 = .ok (.bipush 8, 2) := by decide +kernel
theorem dX12_readMark_11 : decode cX12_readMark 11 = .ok (.if_icmp .ne 9, 3) := by decide +kernel
theorem dX12_readMark_14 : decode cX12_readMark 14 = .ok (.aload_n 0, 1) := by decide +kernel
theorem dX12_readMark_15 : decode cX12_readMark 15 = .ok (.iconst 4, 1) := by decide +kernel
theorem dX12_readMark_16 : decode cX12_readMark 16 = .ok (.invokevirtual 175, 3) := by decide +kernel
theorem dX12_readMark_19 : decode cX12_readMark 19 = .ok (.ireturn, 1) := by decide +kernel
theorem dX12_readMark_20 : decode cX12_readMark 20 = .ok (.aload_n 0, 1) := by decide +kernel
theorem dX12_readMark_21 : decode cX12_readMark 21 = .ok (.invokevirtual 169, 3) := by decide +kernel
theorem dX12_readMark_24 : decode cX12_readMark 24 = .ok (.aload_n 0, 1) := by decide +kernel
theorem dX12_readMark_25 : decode cX12_readMark 25 = .ok (.iconst 0, 1) := by decide +kernel
theorem dX12_readMark_26 : decode cX12_readMark 26 = .ok (.aload_n 0, 1) := by decide +kernel
theorem dX12_readMark_27 : decode cX12_readMark 27 = .ok (.getfield 17, 3) := by decide +kernel
theorem dX12_readMark_30 : decode cX12_readMark 30 = .ok (.bipush 9, 2) := by decide +kernel
theorem dX12_readMark_32 : decode cX12_readMark 32 = .ok (.iaload, 1) := by decide +kernel
theorem dX12_readMark_33 : decode cX12_readMark 33 = .ok (.invokevirtual 185, 3) := by decide +kernel
theorem dX12_readMark_36 : decode cX12_readMark 36 = .ok (.ifCond .ne 5, 3) := by decide +kernel
theorem dX12_readMark_39 : decode cX12_readMark 39 = .ok (.iconst 0, 1) := by decide +kernel
theorem dX12_readMark_40 : decode cX12_readMark 40 = .ok (.ireturn, 1) := by decide +kernel
theorem dX12_readMark_41 : decode cX12_readMark 41 = .ok (.aload_n 0, 1) := by decide +kernel
theorem dX12_readMark_42 : decode cX12_readMark 42 = .ok (.getfield 21, 3) := by decide +kernel
theorem dX12_readMark_45 : decode cX12_readMark 45 = .ok (.bipush 8, 2) := by decide +kernel
theorem dX12_readMark_47 : decode cX12_readMark 47 = .ok (.iload_n 1, 1) := by decide +kernel
theorem dX12_readMark_48 : decode cX12_readMark 48 = .ok (.iadd, 1) := by decide +kernel
theorem dX12_readMark_49 : decode cX12_readMark 49 = .ok (.aload_n 0, 1) := by decide +kernel
theorem dX12_readMark_50 : decode cX12_readMark 50 = .ok (.getfield 182, 3) := by decide +kernel
theorem dX12_readMark_53 : decode cX12_readMark 53 = .ok (.iastore, 1) := by decide +kernel
theorem dX12_readMark_54 : decode cX12_readMark 54 = .ok (.aload_n 0, 1) := by decide +kernel
theorem dX12_readMark_55 : decode cX12_readMark 55 = .ok (.iconst 0, 1) := by decide +kernel
theorem dX12_readMark_56 : decode cX12_readMark 56 = .ok (.aload_n 0, 1) := by decide +kernel
theorem dX12_readMark_57 : decode cX12_readMark 57 = .ok (.getfield 17, 3) := by decide +kernel
theorem dX12_readMark_60 : decode cX12_readMark 60 = .ok (.bipush 10, 2) := by decide +kernel
theorem dX12_readMark_62 : decode cX12_readMark 62 = .ok (.iaload, 1) := by decide +kernel
theorem dX12_readMark_63 : decode cX12_readMark 63 = .ok (.invokevirtual 185, 3) := by decide +kernel
theorem dX12_readMark_66 : decode cX12_readMark 66 = .ok (.ifCond .ne 5, 3) := by decide +kernel
theorem dX12_readMark_69 : decode cX12_readMark 69 = .ok (.iconst 0, 1) := by decide +kernel
theorem dX12_readMark_70 : decode cX12_readMark 70 = .ok (.ireturn, 1) := by decide +kernel
theorem dX12_readMark_71 : decode cX12_readMark 71 = .ok (.aload_n 0, 1) := by decide +kernel
theorem dX12_readMark_72 : decode cX12_readMark 72 = .ok (.getfield 24, 3) := by decide +kernel
theorem dX12_readMark_75 : decode cX12_readMark 75 = .ok (.bipush 8, 2) := by decide +kernel
theorem dX12_readMark_77 : decode cX12_readMark 77 = .ok (.iload_n 1, 1) := by decide +kernel
theorem dX12_readMark_78 : decode cX12_readMark 78 = .ok (.iadd, 1) := by decide +kernel
theorem dX12_readMark_79 : decode cX12_readMark 79 = .ok (.aload_n 0, 1) := by decide +kernel
theorem dX12_readMark_80 : decode cX12_readMark 80 = .ok (.getfield 182, 3) := by decide +kernel
theorem dX12_readMark_83 : decode cX12_readMark 83 = .ok (.iastore, 1) := by decide +kernel
theorem dX12_readMark_84 : decode cX12_readMark 84 = .ok (.aload_n 0, 1) := by decide +kernel
theorem dX12_readMark_85 : decode cX12_readMark 85 = .ok (.getfield 17, 3) := by decide +kernel
theorem dX12_readMark_88 : decode cX12_readMark 88 = .ok (.bipush 11, 2) := by decide +kernel
theorem dX12_readMark_90 : decode cX12_readMark 90 = .ok (.dup2, 1) := by decide +kernel
theorem dX12_readMark_91 : decode cX12_readMark 91 = .ok (.iaload, 1) := by decide +kernel
theorem dX12_readMark_92 : decode cX12_readMark 92 = .ok (.iconst 1, 1) := by decide +kernel
theorem dX12_readMark_93 : decode cX12_readMark 93 = .ok (.iadd, 1) := by decide +kernel
theorem dX12_readMark_94 : decode cX12_readMark 94 = .ok (.iastore, 1) := by decide +kernel
theorem dX12_readMark_95 : decode cX12_readMark 95 = .ok (.iconst 1, 1) := by decide +kernel
theorem dX12_readMark_96 : decode cX12_readMark 96 = .ok (.ireturn, 1) := by decide +kernel
set_option maxRecDepth 20000 in
theorem sX12_readMark_0 {P : Option Value → AH → Prop} (h : AH) (r0 : Nat) (hf : (isO h 12 r0) ∧ ((isA h 0 (gF h r0 11)) ∧ ((vp_in 11 (ln (gF h r0 11))) ∧ ((¬ (gI h (gF h r0 11) (Int32.toNatClampNeg 11)) = 8 → Call mX12_scan [.ref r0] h (fun v h5 => v = none ∧ ((isO h5 12 r0) ∧ ((isA h5 0 (gF h5 r0 11)) ∧ ((vp_in 9 (ln (gF h5 r0 11))) ∧ (Call mX12_readNumber [.ref r0, .int 0, .int (gI h5 (gF h5 r0 11) (Int32.toNatClampNeg 9))] h5 (fun v h9 => ∃ z10 : Int32, v = some (.int z10) ∧ ((¬ z10 = 0 → (isO h9 12 r0) ∧ ((isA h9 0 (gF h9 r0 12)) ∧ ((vp_in (8 + (gI h (gF h r0 11) (Int32.toNatClampNeg 11))) (ln (gF h9 r0 12))) ∧ ((isA h9 0 (gF h9 r0 11)) ∧ ((vp_in 10 (ln (gF h9 r0 11))) ∧ (Call mX12_readNumber [.ref r0, .int 0, .int (gI (sI h9 (gF h9 r0 12) (8 + (gI h (gF h r0 11) (Int32.toNatClampNeg 11))).toNatClampNeg (gI h9 r0 10)) (gF h9 r0 11) (Int32.toNatClampNeg 10))] (sI h9 (gF h9 r0 12) (8 + (gI h (gF h r0 11) (Int32.toNatClampNeg 11))).toNatClampNeg (gI h9 r0 10)) (fun v h17 => ∃ z18 : Int32, v = some (.int z18) ∧ ((¬ z18 = 0 → (isO h17 12 r0) ∧ ((isA h17 0 (gF h17 r0 13)) ∧ ((vp_in (8 + (gI h (gF h r0 11) (Int32.toNatClampNeg 11))) (ln (gF h17 r0 13))) ∧ ((isA h17 0 (gF h17 r0 11)) ∧ ((vp_in 11 (ln (gF h17 r0 11))) ∧ (P (some (.int 1)) (sI (sI h17 (gF h17 r0 13) (8 + (gI h (gF h r0 11) (Int32.toNatClampNeg 11))).toNatClampNeg (gI h17 r0 10)) (gF h17 r0 11) (Int32.toNatClampNeg 11) ((gI (sI h17 (gF h17 r0 13) (8 + (gI h (gF h r0 11) (Int32.toNatClampNeg 11))).toNatClampNeg (gI h17 r0 10)) (gF h17 r0 11) (Int32.toNatClampNeg 11)) + 1)))))))) ∧ (z18 = 0 → P (some (.int 0)) h17))))))))) ∧ (z10 = 0 → P (some (.int 0)) h9))))))))) ∧ ((gI h (gF h r0 11) (Int32.toNatClampNeg 11)) = 8 → Call mX12_fails [.ref r0, .int 4] h (fun v h25 => ∃ z26 : Int32, v = some (.int z26) ∧ ((z26 = 0 ∨ z26 = 1) ∧ (P (some (.int z26)) h25)))))))) : Rr mX12_readMark 0 0 0 [(0, .ref r0)] [] h P := by
  refine R_aload_n dX12_readMark_0 rfl 0 rfl ?_
  obtain ⟨ob1, hf⟩ := hf
  refine G12_11 dX12_readMark_1 lfX12_17 ob1 ?_
  refine R_bipush (v := 11) dX12_readMark_4 (by decide) ?_
  obtain ⟨ob2, hf⟩ := hf
  obtain ⟨ob3, hf⟩ := hf
  refine R_iaload dX12_readMark_6 ob2 ob3 ?_
  refine R_istore_n dX12_readMark_7 rfl (by decide) rfl ?_
  refine R_iload_n dX12_readMark_8 rfl 0 rfl ?_
  refine R_bipush (v := 8) dX12_readMark_9 (by decide) ?_
  refine R_icmp_ne (tgt := 20) dX12_readMark_11 (by decide) (fun b4 => ?_) (fun b4 => ?_)
  · have hf := hf.1 b4
    refine R_aload_n dX12_readMark_20 rfl 1 rfl ?_
    refine R_callV (ci := 12) (N := mX12_scan) (as := []) (rest := []) (kc2 := 0) (ks2 := 0) dX12_readMark_21 lmX12_169 oX12_scan (Nat.le_of_ble_eq_true rfl) rfl rfl (Nat.le_of_ble_eq_true rfl) rfl rfl ob1 ok12 (Call.mono hf ?_)
    rintro _ h5 ⟨rfl, hf⟩
    refine R_aload_n dX12_readMark_24 rfl 1 rfl ?_
    refine R_iconst (v := 0) dX12_readMark_25 (by decide) ?_
    refine R_aload_n dX12_readMark_26 rfl 1 rfl ?_
    obtain ⟨ob6, hf⟩ := hf
    refine G12_11 dX12_readMark_27 lfX12_17 ob6 ?_
    refine R_bipush (v := 9) dX12_readMark_30 (by decide) ?_
    obtain ⟨ob7, hf⟩ := hf
    obtain ⟨ob8, hf⟩ := hf
    refine R_iaload dX12_readMark_32 ob7 ob8 ?_
    refine R_callV (ci := 12) (N := mX12_readNumber) (as := [.int 0, .int (gI h5 (gF h5 r0 11) (Int32.toNatClampNeg 9))]) (rest := []) (kc2 := 0) (ks2 := 0) dX12_readMark_33 lmX12_185 oX12_readNumber (Nat.le_of_ble_eq_true rfl) rfl rfl (Nat.le_of_ble_eq_true rfl) rfl rfl ob6 ok12 (Call.mono hf ?_)
    rintro _ h9 ⟨z10, rfl, hf⟩
    refine R_if_ne (tgt := 41) dX12_readMark_36 (by decide) (fun b11 => ?_) (fun b11 => ?_)
    · have hf := hf.1 b11
      refine R_aload_n dX12_readMark_41 rfl 1 rfl ?_
      obtain ⟨ob12, hf⟩ := hf
      refine G12_12 dX12_readMark_42 lfX12_21 ob12 ?_
      refine R_bipush (v := 8) dX12_readMark_45 (by decide) ?_
      refine R_iload_n dX12_readMark_47 rfl 0 rfl ?_
      refine R_iadd dX12_readMark_48 ?_
      refine R_aload_n dX12_readMark_49 rfl 1 rfl ?_
      refine G12_10 dX12_readMark_50 lfX12_182 ob12 ?_
      obtain ⟨ob13, hf⟩ := hf
      obtain ⟨ob14, hf⟩ := hf
      refine R_iastore dX12_readMark_53 ob13 ob14 ?_
      refine R_aload_n dX12_readMark_54 rfl 1 rfl ?_
      refine R_iconst (v := 0) dX12_readMark_55 (by decide) ?_
      refine R_aload_n dX12_readMark_56 rfl 1 rfl ?_
      refine G12_11 dX12_readMark_57 lfX12_17 ob12 ?_
      refine R_eqF (y := gF h9 r0 11) rfl ?_
      refine R_bipush (v := 10) dX12_readMark_60 (by decide) ?_
      obtain ⟨ob15, hf⟩ := hf
      obtain ⟨ob16, hf⟩ := hf
      refine R_iaload dX12_readMark_62 ob15 ob16 ?_
      refine R_callV (ci := 12) (N := mX12_readNumber) (as := [.int 0, .int (gI (sI h9 (gF h9 r0 12) (8 + (gI h (gF h r0 11) (Int32.toNatClampNeg 11))).toNatClampNeg (gI h9 r0 10)) (gF h9 r0 11) (Int32.toNatClampNeg 10))]) (rest := []) (kc2 := 0) (ks2 := 0) dX12_readMark_63 lmX12_185 oX12_readNumber (Nat.le_of_ble_eq_true rfl) rfl rfl (Nat.le_of_ble_eq_true rfl) rfl rfl ob12 ok12 (Call.mono hf ?_)
      rintro _ h17 ⟨z18, rfl, hf⟩
      refine R_if_ne (tgt := 71) dX12_readMark_66 (by decide) (fun b19 => ?_) (fun b19 => ?_)
      · have hf := hf.1 b19
        refine R_aload_n dX12_readMark_71 rfl 1 rfl ?_
        obtain ⟨ob20, hf⟩ := hf
        refine G12_13 dX12_readMark_72 lfX12_24 ob20 ?_
        refine R_bipush (v := 8) dX12_readMark_75 (by decide) ?_
        refine R_iload_n dX12_readMark_77 rfl 0 rfl ?_
        refine R_iadd dX12_readMark_78 ?_
        refine R_aload_n dX12_readMark_79 rfl 1 rfl ?_
        refine G12_10 dX12_readMark_80 lfX12_182 ob20 ?_
        obtain ⟨ob21, hf⟩ := hf
        obtain ⟨ob22, hf⟩ := hf
        refine R_iastore dX12_readMark_83 ob21 ob22 ?_
        refine R_aload_n dX12_readMark_84 rfl 1 rfl ?_
        refine G12_11 dX12_readMark_85 lfX12_17 ob20 ?_
        refine R_eqF (y := gF h17 r0 11) rfl ?_
        refine R_bipush (v := 11) dX12_readMark_88 (by decide) ?_
        refine R_dup2 dX12_readMark_90 rfl rfl ?_
        obtain ⟨ob23, hf⟩ := hf
        obtain ⟨ob24, hf⟩ := hf
        refine R_iaload dX12_readMark_91 ob23 ob24 ?_
        refine R_iconst (v := 1) dX12_readMark_92 (by decide) ?_
        refine R_iadd dX12_readMark_93 ?_
        refine R_iastore dX12_readMark_94 ob23 ob24 ?_
        refine R_iconst (v := 1) dX12_readMark_95 (by decide) ?_
        exact R_iret dX12_readMark_96 rfl rfl hf
      · have hf := hf.2 b19
        refine R_iconst (v := 0) dX12_readMark_69 (by decide) ?_
        exact R_iret dX12_readMark_70 rfl rfl hf
    · have hf := hf.2 b11
      refine R_iconst (v := 0) dX12_readMark_39 (by decide) ?_
      exact R_iret dX12_readMark_40 rfl rfl hf
  · have hf := hf.2 b4
    refine R_aload_n dX12_readMark_14 rfl 1 rfl ?_
    refine R_iconst (v := 4) dX12_readMark_15 (by decide) ?_
    refine R_callV (ci := 12) (N := mX12_fails) (as := [.int 4]) (rest := []) (kc2 := 0) (ks2 := 0) dX12_readMark_16 lmX12_175 oX12_fails (Nat.le_of_ble_eq_true rfl) rfl rfl (Nat.le_of_ble_eq_true rfl) rfl rfl ob1 ok12 (Call.mono hf ?_)
    rintro _ h25 ⟨z26, rfl, hf⟩
    obtain ⟨ob27, hf⟩ := hf
    exact R_iret dX12_readMark_19 rfl (nb_n ob27) hf
theorem dX12_readOne_0 : decode cX12_readOne 0 = .ok (.aload_n 0, 1) := by decide +kernel
theorem dX12_readOne_1 : decode cX12_readOne 1 = .ok (.iload_n 1, 1) := by decide +kernel
theorem dX12_readOne_2 : decode cX12_readOne 2 = .ok (.invokevirtual 218, 3) := by decide +kernel
theorem dX12_readOne_5 : decode cX12_readOne 5 = .ok (.ifCond .eq 9, 3) := by decide +kernel
theorem dX12_readOne_8 : decode cX12_readOne 8 = .ok (.aload_n 0, 1) := by decide +kernel
theorem dX12_readOne_9 : decode cX12_readOne 9 = .ok (.iconst 3, 1) := by decide +kernel
theorem dX12_readOne_10 : decode cX12_readOne 10 = .ok (.invokevirtual 175, 3) := by decide +kernel
theorem dX12_readOne_13 : decode cX12_readOne 13 = .ok (.ireturn, 1) := by decide +kernel
theorem dX12_readOne_14 : decode cX12_readOne 14 = .ok (.aload_n 0, 1) := by decide +kernel
theorem dX12_readOne_15 : decode cX12_readOne 15 = .ok (.invokevirtual 169, 3) := by decide +kernel
theorem dX12_readOne_18 : decode cX12_readOne 18 = .ok (.aload_n 0, 1) := by decide +kernel
theorem dX12_readOne_19 : decode cX12_readOne 19 = .ok (.iconst 0, 1) := by decide +kernel
theorem dX12_readOne_20 : decode cX12_readOne 20 = .ok (.iload_n 3, 1) := by decide +kernel
theorem dX12_readOne_21 : decode cX12_readOne 21 = .ok (.invokevirtual 185, 3) := by decide +kernel
theorem dX12_readOne_24 : decode cX12_readOne 24 = .ok (.ifCond .ne 5, 3) := by decide +kernel
theorem dX12_readOne_27 : decode cX12_readOne 27 = .ok (.iconst 0, 1) := by decide +kernel
theorem dX12_readOne_28 : decode cX12_readOne 28 = .ok (.ireturn, 1) := by decide +kernel
theorem dX12_readOne_29 : decode cX12_readOne 29 = .ok (.aload_n 0, 1) := by decide +kernel
theorem dX12_readOne_30 : decode cX12_readOne 30 = .ok (.getfield 17, 3) := by decide +kernel
theorem dX12_readOne_33 : decode cX12_readOne 33 = .ok (.bipush 9, 2) := by decide +kernel
theorem dX12_readOne_35 : decode cX12_readOne 35 = .ok (.iload_n 2, 1) := by decide +kernel
theorem dX12_readOne_36 : decode cX12_readOne 36 = .ok (.iadd, 1) := by decide +kernel
theorem dX12_readOne_37 : decode cX12_readOne 37 = .ok (.aload_n 0, 1) := by decide +kernel
theorem dX12_readOne_38 : decode cX12_readOne 38 = .ok (.getfield 182, 3) := by decide +kernel
theorem dX12_readOne_41 : decode cX12_readOne 41 = .ok (.iastore, 1) := by decide +kernel
theorem dX12_readOne_42 : decode cX12_readOne 42 = .ok (.iconst 1, 1) := by decide +kernel
theorem dX12_readOne_43 : decode cX12_readOne 43 = .ok (.ireturn, 1) := by decide +kernel
set_option maxRecDepth 20000 in
theorem sX12_readOne_0 {P : Option Value → AH → Prop} (h : AH) (r0 : Nat) (x1 : Int32) (x2 : Int32) (x3 : Int32) (hf : (isO h 12 r0) ∧ ((¬ ((((gI h r0 21) >>> (x1 &&& 31)) &&& 1) = 1) → Call mX12_scan [.ref r0] (sI h r0 21 ((gI h r0 21) ||| ((1 : Int32) <<< (x1 &&& 31)))) (fun v h3 => v = none ∧ ((isO h3 12 r0) ∧ (Call mX12_readNumber [.ref r0, .int 0, .int x3] h3 (fun v h5 => ∃ z6 : Int32, v = some (.int z6) ∧ ((¬ z6 = 0 → (isO h5 12 r0) ∧ ((isA h5 0 (gF h5 r0 11)) ∧ ((vp_in (9 + x2) (ln (gF h5 r0 11))) ∧ (P (some (.int 1)) (sI h5 (gF h5 r0 11) (9 + x2).toNatClampNeg (gI h5 r0 10)))))) ∧ (z6 = 0 → P (some (.int 0)) h5))))))) ∧ (((((gI h r0 21) >>> (x1 &&& 31)) &&& 1) = 1) → Call mX12_fails [.ref r0, .int 3] (sI h r0 21 ((gI h r0 21) ||| ((1 : Int32) <<< (x1 &&& 31)))) (fun v h11 => ∃ z12 : Int32, v = some (.int z12) ∧ ((z12 = 0 ∨ z12 = 1) ∧ (P (some (.int z12)) h11)))))) : Rr mX12_readOne 0 0 0 [(0, .ref r0), (1, .int x1), (2, .int x2), (3, .int x3)] [] h P := by
  refine R_aload_n dX12_readOne_0 rfl 0 rfl ?_
  refine R_iload_n dX12_readOne_1 rfl 1 rfl ?_
  obtain ⟨ob1, hf⟩ := hf
  refine R_callV (ci := 12) (N := mX12_isAgain) (as := [.int x1]) (rest := []) (kc2 := 0) (ks2 := 0) dX12_readOne_2 lmX12_218 oX12_isAgain (Nat.le_of_ble_eq_true rfl) rfl rfl (Nat.le_of_ble_eq_true rfl) rfl rfl ob1 ok12 (aX12_isAgain ob1 ?_)
  refine R_if_eq_b (tgt := 14) dX12_readOne_5 (by decide) (fun b2 => ?_) (fun b2 => ?_)
  · have hf := hf.1 b2
    refine R_aload_n dX12_readOne_14 rfl 0 rfl ?_
    refine R_callV (ci := 12) (N := mX12_scan) (as := []) (rest := []) (kc2 := 0) (ks2 := 0) dX12_readOne_15 lmX12_169 oX12_scan (Nat.le_of_ble_eq_true rfl) rfl rfl (Nat.le_of_ble_eq_true rfl) rfl rfl ob1 ok12 (Call.mono hf ?_)
    rintro _ h3 ⟨rfl, hf⟩
    refine R_aload_n dX12_readOne_18 rfl 0 rfl ?_
    refine R_iconst (v := 0) dX12_readOne_19 (by decide) ?_
    refine R_iload_n dX12_readOne_20 rfl 3 rfl ?_
    obtain ⟨ob4, hf⟩ := hf
    refine R_callV (ci := 12) (N := mX12_readNumber) (as := [.int 0, .int x3]) (rest := []) (kc2 := 0) (ks2 := 0) dX12_readOne_21 lmX12_185 oX12_readNumber (Nat.le_of_ble_eq_true rfl) rfl rfl (Nat.le_of_ble_eq_true rfl) rfl rfl ob4 ok12 (Call.mono hf ?_)
    rintro _ h5 ⟨z6, rfl, hf⟩
    refine R_if_ne (tgt := 29) dX12_readOne_24 (by decide) (fun b7 => ?_) (fun b7 => ?_)
    · have hf := hf.1 b7
      refine R_aload_n dX12_readOne_29 rfl 0 rfl ?_
      obtain ⟨ob8, hf⟩ := hf
      refine G12_11 dX12_readOne_30 lfX12_17 ob8 ?_
      refine R_bipush (v := 9) dX12_readOne_33 (by decide) ?_
      refine R_iload_n dX12_readOne_35 rfl 2 rfl ?_
      refine R_iadd dX12_readOne_36 ?_
      refine R_aload_n dX12_readOne_37 rfl 0 rfl ?_
      refine G12_10 dX12_readOne_38 lfX12_182 ob8 ?_
      obtain ⟨ob9, hf⟩ := hf
      obtain ⟨ob10, hf⟩ := hf
      refine R_iastore dX12_readOne_41 ob9 ob10 ?_
      refine R_iconst (v := 1) dX12_readOne_42 (by decide) ?_
      exact R_iret dX12_readOne_43 rfl rfl hf
    · have hf := hf.2 b7
      refine R_iconst (v := 0) dX12_readOne_27 (by decide) ?_
      exact R_iret dX12_readOne_28 rfl rfl hf
  · have hf := hf.2 b2
    refine R_aload_n dX12_readOne_8 rfl 0 rfl ?_
    refine R_iconst (v := 3) dX12_readOne_9 (by decide) ?_
    refine R_callV (ci := 12) (N := mX12_fails) (as := [.int 3]) (rest := []) (kc2 := 0) (ks2 := 0) dX12_readOne_10 lmX12_175 oX12_fails (Nat.le_of_ble_eq_true rfl) rfl rfl (Nat.le_of_ble_eq_true rfl) rfl rfl ob1 ok12 (Call.mono hf ?_)
    rintro _ h11 ⟨z12, rfl, hf⟩
    obtain ⟨ob13, hf⟩ := hf
    exact R_iret dX12_readOne_13 rfl (nb_n ob13) hf
