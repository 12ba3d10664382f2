theorem dX12_layers_0 : decode cX12_layers 0 = .ok (.iload_n 1, 1) := by decide +kernel
theorem dX12_layers_1 : decode cX12_layers 1 = .ok (.iconst (-1), 1) := by decide +kernel
theorem dX12_layers_2 : decode cX12_layers 2 = .ok (.if_icmp .eq 28, 3) := by decide +kernel
theorem dX12_layers_5 : decode cX12_layers 5 = .ok (.iload_n 1, 1) := by decide +kernel
theorem dX12_layers_6 : decode cX12_layers 6 = .ok (.iconst 0, 1) := by decide +kernel
theorem dX12_layers_7 : decode cX12_layers 7 = .ok (.aload_n 0, 1) := by decide +kernel
theorem dX12_layers_8 : decode cX12_layers 8 = .ok (.getfield 215, 3) := by decide +kernel
theorem dX12_layers_11 : decode cX12_layers 11 = .ok (.iconst 1, 1) := by decide +kernel
theorem dX12_layers_12 : decode cX12_layers 12 = .ok (.isub, 1) := by decide +kernel
theorem dX12_layers_13 : decode cX12_layers 13 = .ok (.invokestatic 178, 3) := by decide +kernel
theorem dX12_layers_16 : decode cX12_layers 16 = .ok (.ifCond .eq 12, 3) := by decide +kernel
theorem dX12_layers_19 : decode cX12_layers 19 = .ok (.aload_n 0, 1) := by decide +kernel
theorem dX12_layers_20 : decode cX12_layers 20 = .ok (.getfield 106, 3) := by decide +kernel
theorem dX12_layers_23 : decode cX12_layers 23 = .ok (.iload_n 1, 1) := by decide +kernel
theorem dX12_layers_24 : decode cX12_layers 24 = .ok (.iaload, 1) := by decide +kernel
theorem dX12_layers_25 : decode cX12_layers 25 = .ok (.goto 4, 3) := by decide +kernel
theorem dX12_layers_28 : decode cX12_layers 28 = .ok (.iconst (-1), 1) := by decide +kernel
theorem dX12_layers_29 : decode cX12_layers 29 = .ok (.ireturn, 1) := by decide +kernel
theorem dX12_layers_30 : decode cX12_layers 30 = .ok (.aload_n 0, 1) := by decide +kernel
theorem dX12_layers_31 : decode cX12_layers 31 = .ok (.getfield 215, 3) := by decide +kernel
theorem dX12_layers_34 : decode cX12_layers 34 = .ok (.ifCond .ne 5, 3) := by decide +kernel
theorem dX12_layers_37 : decode cX12_layers 37 = .ok (.iconst (-1), 1) := by decide +kernel
theorem dX12_layers_38 : decode cX12_layers 38 = .ok (.ireturn, 1) := by decide +kernel
theorem dX12_layers_39 : decode cX12_layers 39 = .ok (.iconst 0, 1) := by decide +kernel
theorem dX12_layers_40 : decode cX12_layers 40 = .ok (.istore_n 2, 1) := by decide +kernel
theorem dX12_layers_41 : decode cX12_layers 41 = .ok (.iconst 0, 1) := by decide +kernel
theorem dX12_layers_42 : decode cX12_layers 42 = .ok (.istore_n 3, 1) := by decide +kernel
theorem dX12_layers_43 : decode cX12_layers 43 = .ok (.iload_n 3, 1) := by decide +kernel
theorem dX12_layers_44 : decode cX12_layers 44 = .ok (.aload_n 0, 1) := by decide +kernel
theorem dX12_layers_45 : decode cX12_layers 45 = .ok (.getfield 215, 3) := by decide +kernel
theorem dX12_layers_48 : decode cX12_layers 48 = .ok (.if_icmp .ge 18, 3) := by decide +kernel
theorem dX12_layers_51 : decode cX12_layers 51 = .ok (.iload_n 2, 1) := by decide +kernel
theorem dX12_layers_52 : decode cX12_layers 52 = .ok (.aload_n 0, 1) := by decide +kernel
theorem dX12_layers_53 : decode cX12_layers 53 = .ok (.getfield 106, 3) := by decide +kernel
theorem dX12_layers_56 : decode cX12_layers 56 = .ok (.iload_n 3, 1) := by decide +kernel
theorem dX12_layers_57 : decode cX12_layers 57 = .ok (.iaload, 1) := by decide +kernel
theorem dX12_layers_58 : decode cX12_layers 58 = .ok (.iadd, 1) := by decide +kernel
theorem dX12_layers_59 : decode cX12_layers 59 = .ok (.istore_n 2, 1) := by decide +kernel
theorem dX12_layers_60 : decode cX12_layers 60 = .ok (.iinc 3 1, 3) := by decide +kernel
theorem dX12_layers_63 : decode cX12_layers 63 = .ok (.goto (-20), 3) := by decide +kernel
theorem dX12_layers_66 : decode cX12_layers 66 = .ok (.iload_n 2, 1) := by decide +kernel
theorem dX12_layers_67 : decode cX12_layers 67 = .ok (.ireturn, 1) := by decide +kernel
set_option maxRecDepth 20000 in
theorem sX12_layers_0 {P : Option Value → AH → Prop} (h : AH) (r0 : Nat) (x1 : Int32) (hf : (x1 = (-1) → (isO h 12 r0) ∧ ((¬ (gI h r0 55) = 0 → Rr mX12_layers 0 0 43 [(0, .ref r0), (2, .int 0), (3, .int 0)] [] h P) ∧ ((gI h r0 55) = 0 → P (some (.int (-1))) h))) ∧ (¬ x1 = (-1) → (isO h 12 r0) ∧ ((isA h 0 (gF h r0 56)) ∧ (((¬ x1 < 0 ∧ ¬ ((gI h r0 55) - 1) < x1) → vp_in x1 (ln (gF h r0 56))) ∧ (∀ z8 : Int32, z8 = (if (¬ x1 < 0 ∧ ¬ ((gI h r0 55) - 1) < x1) then (gI h (gF h r0 56) x1.toNatClampNeg) else (-1)) → (P (some (.int z8)) h)))))) : Rr mX12_layers 0 0 0 [(0, .ref r0), (1, .int x1)] [] h P := by
  refine R_iload_n dX12_layers_0 rfl 1 rfl ?_
  refine R_iconst (v := (-1)) dX12_layers_1 (by decide) ?_
  refine R_icmp_eq (tgt := 30) dX12_layers_2 (by decide) (fun b1 => ?_) (fun b1 => ?_)
  · have hf := hf.1 b1
    refine R_aload_n dX12_layers_30 rfl 0 rfl ?_
    obtain ⟨ob2, hf⟩ := hf
    refine G12_55 dX12_layers_31 lfX12_215 ob2 ?_
    refine R_if_ne (tgt := 39) dX12_layers_34 (by decide) (fun b3 => ?_) (fun b3 => ?_)
    · have hf := hf.1 b3
      refine R_iconst (v := 0) dX12_layers_39 (by decide) ?_
      refine R_istore_n dX12_layers_40 rfl (by decide) rfl ?_
      refine R_iconst (v := 0) dX12_layers_41 (by decide) ?_
      refine R_istore_n dX12_layers_42 rfl (by decide) rfl ?_
      exact R_sub [2, 1, 0] rfl hf
    · have hf := hf.2 b3
      refine R_iconst (v := (-1)) dX12_layers_37 (by decide) ?_
      exact R_iret dX12_layers_38 rfl rfl hf
  · have hf := hf.2 b1
    refine R_iload_n dX12_layers_5 rfl 1 rfl ?_
    refine R_iconst (v := 0) dX12_layers_6 (by decide) ?_
    refine R_aload_n dX12_layers_7 rfl 0 rfl ?_
    obtain ⟨ob4, hf⟩ := hf
    refine G12_55 dX12_layers_8 lfX12_215 ob4 ?_
    refine R_iconst (v := 1) dX12_layers_11 (by decide) ?_
    refine R_isub dX12_layers_12 ?_
    refine R_callS (N := mX12_in) (as := [.int x1, .int 0, .int ((gI h r0 55) - 1)]) (rest := []) (kc2 := 0) (ks2 := 0) dX12_layers_13 lmX12_178 oX12_in (Nat.le_of_ble_eq_true rfl) rfl rfl (Nat.le_of_ble_eq_true rfl) rfl rfl (aX12_in  ?_)
    obtain ⟨ob6, hf⟩ := hf
    obtain ⟨ob7, hf⟩ := hf
    have key : ∀ z8 : Int32, z8 = (if (¬ x1 < 0 ∧ ¬ ((gI h r0 55) - 1) < x1) then (gI h (gF h r0 56) x1.toNatClampNeg) else (-1)) → Rr mX12_layers 0 0 29 [] [.int z8] h P := by
      intro z8 ez8
      have hf := hf z8 ez8
      exact R_iret dX12_layers_29 rfl rfl hf
    refine R_if_eq_b (tgt := 28) dX12_layers_16 (by decide) (fun b5 => ?_) (fun b5 => ?_)
    · refine R_iconst (v := (-1)) dX12_layers_28 (by decide) ?_
      exact R_sub [] rfl (key _ (by rw [if_neg b5]))
    · refine R_aload_n dX12_layers_19 rfl 0 rfl ?_
      refine G12_56 dX12_layers_20 lfX12_106 ob4 ?_
      refine R_iload_n dX12_layers_23 rfl 1 rfl ?_
      refine R_iaload dX12_layers_24 ob6 (ob7 b5) ?_
      refine R_goto (tgt := 29) dX12_layers_25 (by decide) ?_
      exact R_sub [] rfl (key _ (by rw [if_pos b5]))
set_option maxRecDepth 20000 in
theorem sX12_layers_43 {P : Option Value → AH → Prop} (h : AH) (r0 : Nat) (x2 : Int32) (x3 : Int32) (hf : (isO h 12 r0) ∧ (((gI h r0 55) ≤ x3 → P (some (.int x2)) h) ∧ (¬ (gI h r0 55) ≤ x3 → (isA h 0 (gF h r0 56)) ∧ ((vp_in x3 (ln (gF h r0 56))) ∧ (Rr mX12_layers 0 0 43 [(0, .ref r0), (2, .int (x2 + (gI h (gF h r0 56) x3.toNatClampNeg))), (3, .int (x3 + 1))] [] h P))))) : Rr mX12_layers 0 0 43 [(0, .ref r0), (2, .int x2), (3, .int x3)] [] h P := by
  refine R_iload_n dX12_layers_43 rfl 2 rfl ?_
  refine R_aload_n dX12_layers_44 rfl 0 rfl ?_
  obtain ⟨ob1, hf⟩ := hf
  refine G12_55 dX12_layers_45 lfX12_215 ob1 ?_
  refine R_icmp_ge (tgt := 66) dX12_layers_48 (by decide) (fun b2 => ?_) (fun b2 => ?_)
  · have hf := hf.1 b2
    refine R_iload_n dX12_layers_66 rfl 1 rfl ?_
    exact R_iret dX12_layers_67 rfl rfl hf
  · have hf := hf.2 b2
    refine R_iload_n dX12_layers_51 rfl 1 rfl ?_
    refine R_aload_n dX12_layers_52 rfl 0 rfl ?_
    refine G12_56 dX12_layers_53 lfX12_106 ob1 ?_
    refine R_iload_n dX12_layers_56 rfl 2 rfl ?_
    obtain ⟨ob3, hf⟩ := hf
    obtain ⟨ob4, hf⟩ := hf
    refine R_iaload dX12_layers_57 ob3 ob4 ?_
    refine R_iadd dX12_layers_58 ?_
    refine R_istore_n dX12_layers_59 rfl (by decide) rfl ?_
    refine R_iinc (v := x3 + 1) dX12_layers_60 2 rfl rfl (by decide) rfl ?_
    refine R_goto (tgt := 43) dX12_layers_63 (by decide) ?_
    exact R_sub [2, 1, 0] rfl hf
theorem dX12_makeMeans_0 : decode cX12_makeMeans 0 = .ok (.iconst 0, 1) := by decide +kernel
theorem dX12_makeMeans_1 : decode cX12_makeMeans 1 = .ok (.istore 6, 2) := by decide +kernel
theorem dX12_makeMeans_3 : decode cX12_makeMeans 3 = .ok (.iload 6, 2) := by decide +kernel
theorem dX12_makeMeans_5 : decode cX12_makeMeans 5 = .ok (.bipush 7, 2) := by decide +kernel
theorem dX12_makeMeans_7 : decode cX12_makeMeans 7 = .ok (.if_icmp .ge 17, 3) := by decide +kernel
theorem dX12_makeMeans_10 : decode cX12_makeMeans 10 = .ok (.aload_n 0, 1) := by decide +kernel
theorem dX12_makeMeans_11 : decode cX12_makeMeans 11 = .ok (.getfield 102, 3) := by decide +kernel
theorem dX12_makeMeans_14 : decode cX12_makeMeans 14 = .ok (.iload 6, 2) := by decide +kernel
theorem dX12_makeMeans_16 : decode cX12_makeMeans 16 = .ok (.lconst 0, 1) := by decide +kernel
theorem dX12_makeMeans_17 : decode cX12_makeMeans 17 = .ok (.lastore, 1) := by decide +kernel
theorem dX12_makeMeans_18 : decode cX12_makeMeans 18 = .ok (.iinc 6 1, 3) := by decide +kernel
theorem dX12_makeMeans_21 : decode cX12_makeMeans 21 = .ok (.goto (-18), 3) := by decide +kernel
theorem dX12_makeMeans_24 : decode cX12_makeMeans 24 = .ok (.lconst 1, 1) := by decide +kernel
theorem dX12_makeMeans_25 : decode cX12_makeMeans 25 = .ok (.lstore 6, 2) := by decide +kernel
theorem dX12_makeMeans_27 : decode cX12_makeMeans 27 = .ok (.iconst 1, 1) := by decide +kernel
theorem dX12_makeMeans_28 : decode cX12_makeMeans 28 = .ok (.istore 8, 2) := by decide +kernel
theorem dX12_makeMeans_30 : decode cX12_makeMeans 30 = .ok (.iload 8, 2) := by decide +kernel
theorem dX12_makeMeans_32 : decode cX12_makeMeans 32 = .ok (.iload_n 1, 1) := by decide +kernel
theorem dX12_makeMeans_33 : decode cX12_makeMeans 33 = .ok (.if_icmp .ge 126, 3) := by decide +kernel
theorem dX12_makeMeans_36 : decode cX12_makeMeans 36 = .ok (.ldc2_w 345, 3) := by decide +kernel
theorem dX12_makeMeans_39 : decode cX12_makeMeans 39 = .ok (.lload 6, 2) := by decide +kernel
theorem dX12_makeMeans_41 : decode cX12_makeMeans 41 = .ok (.lmul, 1) := by decide +kernel
theorem dX12_makeMeans_42 : decode cX12_makeMeans 42 = .ok (.lstore 6, 2) := by decide +kernel
theorem dX12_makeMeans_44 : decode cX12_makeMeans 44 = .ok (.lload 6, 2) := by decide +kernel
theorem dX12_makeMeans_46 : decode cX12_makeMeans 46 = .ok (.iload_n 3, 1) := by decide +kernel
theorem dX12_makeMeans_47 : decode cX12_makeMeans 47 = .ok (.i2l, 1) := by decide +kernel
theorem dX12_makeMeans_48 : decode cX12_makeMeans 48 = .ok (.lmul, 1) := by decide +kernel
theorem dX12_makeMeans_49 : decode cX12_makeMeans 49 = .ok (.aload_n 0, 1) := by decide +kernel
theorem dX12_makeMeans_50 : decode cX12_makeMeans 50 = .ok (.iconst 0, 1) := by decide +kernel
theorem dX12_makeMeans_51 : decode cX12_makeMeans 51 = .ok (.lload 6, 2) := by decide +kernel
theorem dX12_makeMeans_53 : decode cX12_makeMeans 53 = .ok (.iload_n 2, 1) := by decide +kernel
theorem dX12_makeMeans_54 : decode cX12_makeMeans 54 = .ok (.iload 4, 2) := by decide +kernel
theorem dX12_makeMeans_56 : decode cX12_makeMeans 56 = .ok (.iload 5, 2) := by decide +kernel
theorem dX12_makeMeans_58 : decode cX12_makeMeans 58 = .ok (.invokevirtual 347, 3) := by decide +kernel
theorem dX12_makeMeans_61 : decode cX12_makeMeans 61 = .ok (.ladd, 1) := by decide +kernel
theorem dX12_makeMeans_62 : decode cX12_makeMeans 62 = .ok (.lstore 9, 2) := by decide +kernel
theorem dX12_makeMeans_64 : decode cX12_makeMeans 64 = .ok (.iconst 0, 1) := by decide +kernel
theorem dX12_makeMeans_65 : decode cX12_makeMeans 65 = .ok (.istore 11, 2) := by decide +kernel
theorem dX12_makeMeans_67 : decode cX12_makeMeans 67 = .ok (.iload 11, 2) := by decide +kernel
theorem dX12_makeMeans_69 : decode cX12_makeMeans 69 = .ok (.bipush 7, 2) := by decide +kernel
theorem dX12_makeMeans_71 : decode cX12_makeMeans 71 = .ok (.if_icmp .ge 49, 3) := by decide +kernel
theorem dX12_makeMeans_74 : decode cX12_makeMeans 74 = .ok (.aload_n 0, 1) := by decide +kernel
theorem dX12_makeMeans_75 : decode cX12_makeMeans 75 = .ok (.iload 11, 2) := by decide +kernel
theorem dX12_makeMeans_77 : decode cX12_makeMeans 77 = .ok (.lload 6, 2) := by decide +kernel
theorem dX12_makeMeans_79 : decode cX12_makeMeans 79 = .ok (.iload_n 2, 1) := by decide +kernel
theorem dX12_makeMeans_80 : decode cX12_makeMeans 80 = .ok (.iload 4, 2) := by decide +kernel
theorem dX12_makeMeans_82 : decode cX12_makeMeans 82 = .ok (.iload 5, 2) := by decide +kernel
theorem dX12_makeMeans_84 : decode cX12_makeMeans 84 = .ok (.invokevirtual 347, 3) := by decide +kernel
theorem dX12_makeMeans_87 : decode cX12_makeMeans 87 = .ok (.lstore 12, 2) := by decide +kernel
theorem dX12_makeMeans_89 : decode cX12_makeMeans 89 = .ok (.aload_n 0, 1) := by decide +kernel
theorem dX12_makeMeans_90 : decode cX12_makeMeans 90 = .ok (.getfield 102, 3) := by decide +kernel
theorem dX12_makeMeans_93 : decode cX12_makeMeans 93 = .ok (.bipush 7, 2) := by decide +kernel
theorem dX12_makeMeans_95 : decode cX12_makeMeans 95 = .ok (.iload 11, 2) := by decide +kernel
theorem dX12_makeMeans_97 : decode cX12_makeMeans 97 = .ok (.iadd, 1) := by decide +kernel
theorem dX12_makeMeans_98 : decode cX12_makeMeans 98 = .ok (.lload 9, 2) := by decide +kernel
theorem dX12_makeMeans_100 : decode cX12_makeMeans 100 = .ok (.lload 12, 2) := by decide +kernel
theorem dX12_makeMeans_102 : decode cX12_makeMeans 102 = .ok (.lcmp, 1) := by decide +kernel
theorem dX12_makeMeans_103 : decode cX12_makeMeans 103 = .ok (.ifCond .ge 8, 3) := by decide +kernel
theorem dX12_makeMeans_106 : decode cX12_makeMeans 106 = .ok (.lload 9, 2) := by decide +kernel
theorem dX12_makeMeans_108 : decode cX12_makeMeans 108 = .ok (.goto 5, 3) := by decide +kernel
theorem dX12_makeMeans_111 : decode cX12_makeMeans 111 = .ok (.lload 12, 2) := by decide +kernel
theorem dX12_makeMeans_113 : decode cX12_makeMeans 113 = .ok (.lastore, 1) := by decide +kernel
theorem dX12_makeMeans_114 : decode cX12_makeMeans 114 = .ok (.iinc 11 1, 3) := by decide +kernel
theorem dX12_makeMeans_117 : decode cX12_makeMeans 117 = .ok (.goto (-50), 3) := by decide +kernel
theorem dX12_makeMeans_120 : decode cX12_makeMeans 120 = .ok (.iconst 0, 1) := by decide +kernel
theorem dX12_makeMeans_121 : decode cX12_makeMeans 121 = .ok (.istore 11, 2) := by decide +kernel
theorem dX12_makeMeans_123 : decode cX12_makeMeans 123 = .ok (.iload 11, 2) := by decide +kernel
theorem dX12_makeMeans_125 : decode cX12_makeMeans 125 = .ok (.bipush 7, 2) := by decide +kernel
theorem dX12_makeMeans_127 : decode cX12_makeMeans 127 = .ok (.if_icmp .ge 26, 3) := by decide +kernel
theorem dX12_makeMeans_130 : decode cX12_makeMeans 130 = .ok (.aload_n 0, 1) := by decide +kernel
theorem dX12_makeMeans_131 : decode cX12_makeMeans 131 = .ok (.getfield 102, 3) := by decide +kernel
theorem dX12_makeMeans_134 : decode cX12_makeMeans 134 = .ok (.iload 11, 2) := by decide +kernel
theorem dX12_makeMeans_136 : decode cX12_makeMeans 136 = .ok (.aload_n 0, 1) := by decide +kernel
theorem dX12_makeMeans_137 : decode cX12_makeMeans 137 = .ok (.getfield 102, 3) := by decide +kernel
theorem dX12_makeMeans_140 : decode cX12_makeMeans 140 = .ok (.bipush 7, 2) := by decide +kernel
theorem dX12_makeMeans_142 : decode cX12_makeMeans 142 = .ok (.iload 11, 2) := by decide +kernel
theorem dX12_makeMeans_144 : decode cX12_makeMeans 144 = .ok (.iadd, 1) := by decide +kernel
theorem dX12_makeMeans_145 : decode cX12_makeMeans 145 = .ok (.laload, 1) := by decide +kernel
theorem dX12_makeMeans_146 : decode cX12_makeMeans 146 = .ok (.lastore, 1) := by decide +kernel
theorem dX12_makeMeans_147 : decode cX12_makeMeans 147 = .ok (.iinc 11 1, 3) := by decide +kernel
theorem dX12_makeMeans_150 : decode cX12_makeMeans 150 = .ok (.goto (-27), 3) := by decide +kernel
theorem dX12_makeMeans_153 : decode cX12_makeMeans 153 = .ok (.iinc 8 1, 3) := by decide +kernel
theorem dX12_makeMeans_156 : decode cX12_makeMeans 156 = .ok (.goto (-126), 3) := by decide +kernel
theorem dX12_makeMeans_159 : decode cX12_makeMeans 159 = .ok (.ldc2_w 345, 3) := by decide +kernel
theorem dX12_makeMeans_162 : decode cX12_makeMeans 162 = .ok (.lload 6, 2) := by decide +kernel
theorem dX12_makeMeans_164 : decode cX12_makeMeans 164 = .ok (.lmul, 1) := by decide +kernel
theorem dX12_makeMeans_165 : decode cX12_makeMeans 165 = .ok (.lreturn, 1) := by decide +kernel
set_option maxRecDepth 20000 in
theorem sX12_makeMeans_0 {P : Option Value → AH → Prop} (h : AH) (r0 : Nat) (x1 : Int32) (x2 : Int32) (x3 : Int32) (x4 : Int32) (x5 : Int32) (hf : Rr mX12_makeMeans 0 0 3 [(0, .ref r0), (1, .int x1), (2, .int x2), (3, .int x3), (4, .int x4), (5, .int x5), (6, .int 0)] [] h P) : Rr mX12_makeMeans 0 0 0 [(0, .ref r0), (1, .int x1), (2, .int x2), (3, .int x3), (4, .int x4), (5, .int x5)] [] h P := by
  refine R_iconst (v := 0) dX12_makeMeans_0 (by decide) ?_
  refine R_istore dX12_makeMeans_1 (by decide) rfl ?_
  exact R_sub [1, 2, 3, 4, 5, 6, 0] rfl hf
set_option maxRecDepth 20000 in
theorem sX12_makeMeans_3 {P : Option Value → AH → Prop} (h : AH) (r0 : Nat) (x1 : Int32) (x2 : Int32) (x3 : Int32) (x4 : Int32) (x5 : Int32) (x6 : Int32) (hf : (7 ≤ x6 → Rr mX12_makeMeans 0 0 30 [(0, .ref r0), (1, .int x1), (2, .int x2), (3, .int x3), (4, .int x4), (5, .int x5), (6, .long 1), (8, .int 1)] [] h P) ∧ (¬ 7 ≤ x6 → (isO h 12 r0) ∧ ((isA h 1 (gF h r0 54)) ∧ ((vp_in x6 (ln (gF h r0 54))) ∧ (Rr mX12_makeMeans 0 0 3 [(0, .ref r0), (1, .int x1), (2, .int x2), (3, .int x3), (4, .int x4), (5, .int x5), (6, .int (x6 + 1))] [] (sL h (gF h r0 54) x6.toNatClampNeg 0) P))))) : Rr mX12_makeMeans 0 0 3 [(0, .ref r0), (1, .int x1), (2, .int x2), (3, .int x3), (4, .int x4), (5, .int x5), (6, .int x6)] [] h P := by
  refine R_iload dX12_makeMeans_3 6 rfl ?_
  refine R_bipush (v := 7) dX12_makeMeans_5 (by decide) ?_
  refine R_icmp_ge (tgt := 24) dX12_makeMeans_7 (by decide) (fun b1 => ?_) (fun b1 => ?_)
  · have hf := hf.1 b1
    refine R_lconst (v := 1) dX12_makeMeans_24 (by decide) ?_
    refine R_lstore dX12_makeMeans_25 (by decide) rfl ?_
    refine R_iconst (v := 1) dX12_makeMeans_27 (by decide) ?_
    refine R_istore dX12_makeMeans_28 (by decide) rfl ?_
    exact R_sub [2, 3, 4, 5, 6, 7, 1, 0] rfl hf
  · have hf := hf.2 b1
    refine R_aload_n dX12_makeMeans_10 rfl 0 rfl ?_
    obtain ⟨ob2, hf⟩ := hf
    refine G12_54 dX12_makeMeans_11 lfX12_102 ob2 ?_
    refine R_iload dX12_makeMeans_14 6 rfl ?_
    refine R_lconst (v := 0) dX12_makeMeans_16 (by decide) ?_
    obtain ⟨ob3, hf⟩ := hf
    obtain ⟨ob4, hf⟩ := hf
    refine R_lastore dX12_makeMeans_17 ob3 ob4 ?_
    refine R_iinc (v := x6 + 1) dX12_makeMeans_18 6 rfl rfl (by decide) rfl ?_
    refine R_goto (tgt := 3) dX12_makeMeans_21 (by decide) ?_
    exact R_sub [1, 2, 3, 4, 5, 6, 0] rfl hf
set_option maxRecDepth 20000 in
theorem sX12_makeMeans_30 {P : Option Value → AH → Prop} (h : AH) (r0 : Nat) (x1 : Int32) (x2 : Int32) (x3 : Int32) (x4 : Int32) (x5 : Int32) (y6 : Int64) (x8 : Int32) (hf : (x1 ≤ x8 → P (some (.long (10 * y6))) h) ∧ (¬ x1 ≤ x8 → (isO h 12 r0) ∧ (Call mX12_goOn [.ref r0, .int 0, .long (10 * y6), .int x2, .int x4, .int x5] h (fun v h3 => ∃ w4 : Int64, v = some (.long w4) ∧ (Rr mX12_makeMeans 0 0 67 [(0, .ref r0), (1, .int x1), (2, .int x2), (3, .int x3), (4, .int x4), (5, .int x5), (6, .long (10 * y6)), (8, .int x8), (9, .long (((10 * y6) * x3.toInt64) + w4)), (11, .int 0)] [] h3 P))))) : Rr mX12_makeMeans 0 0 30 [(0, .ref r0), (1, .int x1), (2, .int x2), (3, .int x3), (4, .int x4), (5, .int x5), (6, .long y6), (8, .int x8)] [] h P := by
  refine R_iload dX12_makeMeans_30 7 rfl ?_
  refine R_iload_n dX12_makeMeans_32 rfl 1 rfl ?_
  refine R_icmp_ge (tgt := 159) dX12_makeMeans_33 (by decide) (fun b1 => ?_) (fun b1 => ?_)
  · have hf := hf.1 b1
    refine R_ldc2 (v := 10) dX12_makeMeans_159 lcX12_345 ?_
    refine R_lload dX12_makeMeans_162 6 rfl ?_
    refine R_lmul dX12_makeMeans_164 ?_
    exact R_lret dX12_makeMeans_165 rfl hf
  · have hf := hf.2 b1
    refine R_ldc2 (v := 10) dX12_makeMeans_36 lcX12_345 ?_
    refine R_lload dX12_makeMeans_39 6 rfl ?_
    refine R_lmul dX12_makeMeans_41 ?_
    refine R_lstore dX12_makeMeans_42 (by decide) rfl ?_
    refine R_lload dX12_makeMeans_44 0 rfl ?_
    refine R_iload_n dX12_makeMeans_46 rfl 4 rfl ?_
    refine R_i2l dX12_makeMeans_47 ?_
    refine R_lmul dX12_makeMeans_48 ?_
    refine R_aload_n dX12_makeMeans_49 rfl 1 rfl ?_
    refine R_iconst (v := 0) dX12_makeMeans_50 (by decide) ?_
    refine R_lload dX12_makeMeans_51 0 rfl ?_
    refine R_iload_n dX12_makeMeans_53 rfl 3 rfl ?_
    refine R_iload dX12_makeMeans_54 5 rfl ?_
    refine R_iload dX12_makeMeans_56 6 rfl ?_
    obtain ⟨ob2, hf⟩ := hf
    refine R_callV (ci := 12) (N := mX12_goOn) (as := [.int 0, .long (10 * y6), .int x2, .int x4, .int x5]) (rest := [.long ((10 * y6) * x3.toInt64)]) (kc2 := 0) (ks2 := 0) dX12_makeMeans_58 lmX12_347 oX12_goOn (Nat.le_of_ble_eq_true rfl) rfl rfl (Nat.le_of_ble_eq_true rfl) rfl rfl ob2 ok12 (Call.mono hf ?_)
    rintro _ h3 ⟨w4, rfl, hf⟩
    refine R_ladd dX12_makeMeans_61 ?_
    refine R_lstore dX12_makeMeans_62 (by decide) rfl ?_
    refine R_iconst (v := 0) dX12_makeMeans_64 (by decide) ?_
    refine R_istore dX12_makeMeans_65 (by decide) rfl ?_
    exact R_sub [3, 4, 5, 6, 7, 8, 2, 9, 1, 0] rfl hf
set_option maxRecDepth 20000 in
theorem sX12_makeMeans_67 {P : Option Value → AH → Prop} (h : AH) (r0 : Nat) (x1 : Int32) (x2 : Int32) (x3 : Int32) (x4 : Int32) (x5 : Int32) (y6 : Int64) (x8 : Int32) (y9 : Int64) (x11 : Int32) (hf : (7 ≤ x11 → Rr mX12_makeMeans 0 0 123 [(0, .ref r0), (1, .int x1), (2, .int x2), (3, .int x3), (4, .int x4), (5, .int x5), (6, .long y6), (8, .int x8), (11, .int 0)] [] h P) ∧ (¬ 7 ≤ x11 → (isO h 12 r0) ∧ (Call mX12_goOn [.ref r0, .int x11, .long y6, .int x2, .int x4, .int x5] h (fun v h3 => ∃ w4 : Int64, v = some (.long w4) ∧ ((isO h3 12 r0) ∧ (∀ w7 : Int64, w7 = (if 0 ≤ (lg_cmp y9 w4) then w4 else y9) → ((isA h3 1 (gF h3 r0 54)) ∧ ((vp_in (7 + x11) (ln (gF h3 r0 54))) ∧ (Rr mX12_makeMeans 0 0 67 [(0, .ref r0), (1, .int x1), (2, .int x2), (3, .int x3), (4, .int x4), (5, .int x5), (6, .long y6), (8, .int x8), (9, .long y9), (11, .int (x11 + 1))] [] (sL h3 (gF h3 r0 54) (7 + x11).toNatClampNeg w7) P))))))))) : Rr mX12_makeMeans 0 0 67 [(0, .ref r0), (1, .int x1), (2, .int x2), (3, .int x3), (4, .int x4), (5, .int x5), (6, .long y6), (8, .int x8), (9, .long y9), (11, .int x11)] [] h P := by
  refine R_iload dX12_makeMeans_67 9 rfl ?_
  refine R_bipush (v := 7) dX12_makeMeans_69 (by decide) ?_
  refine R_icmp_ge (tgt := 120) dX12_makeMeans_71 (by decide) (fun b1 => ?_) (fun b1 => ?_)
  · have hf := hf.1 b1
    refine R_iconst (v := 0) dX12_makeMeans_120 (by decide) ?_
    refine R_istore dX12_makeMeans_121 (by decide) rfl ?_
    exact R_sub [1, 2, 3, 4, 5, 6, 7, 8, 0] rfl hf
  · have hf := hf.2 b1
    refine R_aload_n dX12_makeMeans_74 rfl 0 rfl ?_
    refine R_iload dX12_makeMeans_75 9 rfl ?_
    refine R_lload dX12_makeMeans_77 6 rfl ?_
    refine R_iload_n dX12_makeMeans_79 rfl 2 rfl ?_
    refine R_iload dX12_makeMeans_80 4 rfl ?_
    refine R_iload dX12_makeMeans_82 5 rfl ?_
    obtain ⟨ob2, hf⟩ := hf
    refine R_callV (ci := 12) (N := mX12_goOn) (as := [.int x11, .long y6, .int x2, .int x4, .int x5]) (rest := []) (kc2 := 0) (ks2 := 0) dX12_makeMeans_84 lmX12_347 oX12_goOn (Nat.le_of_ble_eq_true rfl) rfl rfl (Nat.le_of_ble_eq_true rfl) rfl rfl ob2 ok12 (Call.mono hf ?_)
    rintro _ h3 ⟨w4, rfl, hf⟩
    refine R_lstore dX12_makeMeans_87 (by decide) rfl ?_
    refine R_aload_n dX12_makeMeans_89 rfl 1 rfl ?_
    obtain ⟨ob5, hf⟩ := hf
    refine G12_54 dX12_makeMeans_90 lfX12_102 ob5 ?_
    refine R_bipush (v := 7) dX12_makeMeans_93 (by decide) ?_
    refine R_iload dX12_makeMeans_95 10 rfl ?_
    refine R_iadd dX12_makeMeans_97 ?_
    refine R_lload dX12_makeMeans_98 9 rfl ?_
    refine R_lload dX12_makeMeans_100 0 rfl ?_
    refine R_lcmp dX12_makeMeans_102 ?_
    have key : ∀ w7 : Int64, w7 = (if 0 ≤ (lg_cmp y9 w4) then w4 else y9) → Rr mX12_makeMeans 0 0 113 [(0, .ref r0), (1, .int x1), (2, .int x2), (3, .int x3), (4, .int x4), (5, .int x5), (6, .long y6), (8, .int x8), (9, .long y9), (11, .int x11)] [.long w7, .int (7 + x11), .ref (gF h3 r0 54)] h3 P := by
      intro w7 ew7
      have hf := hf w7 ew7
      obtain ⟨ob8, hf⟩ := hf
      obtain ⟨ob9, hf⟩ := hf
      refine R_lastore dX12_makeMeans_113 ob8 ob9 ?_
      refine R_iinc (v := x11 + 1) dX12_makeMeans_114 9 rfl rfl (by decide) rfl ?_
      refine R_goto (tgt := 67) dX12_makeMeans_117 (by decide) ?_
      exact R_sub [1, 2, 3, 4, 5, 6, 7, 8, 9, 0] rfl hf
    refine R_if_ge (tgt := 111) dX12_makeMeans_103 (by decide) (fun b6 => ?_) (fun b6 => ?_)
    · refine R_lload dX12_makeMeans_111 0 rfl ?_
      exact R_sub [1, 2, 3, 4, 5, 6, 7, 8, 9, 10] rfl (key _ (by rw [if_pos b6]))
    · refine R_lload dX12_makeMeans_106 9 rfl ?_
      refine R_goto (tgt := 113) dX12_makeMeans_108 (by decide) ?_
      exact R_sub [1, 2, 3, 4, 5, 6, 7, 8, 9, 10] rfl (key _ (by rw [if_neg b6]))
set_option maxRecDepth 20000 in
theorem sX12_makeMeans_123 {P : Option Value → AH → Prop} (h : AH) (r0 : Nat) (x1 : Int32) (x2 : Int32) (x3 : Int32) (x4 : Int32) (x5 : Int32) (y6 : Int64) (x8 : Int32) (x11 : Int32) (hf : (7 ≤ x11 → Rr mX12_makeMeans 0 0 30 [(0, .ref r0), (1, .int x1), (2, .int x2), (3, .int x3), (4, .int x4), (5, .int x5), (6, .long y6), (8, .int (x8 + 1))] [] h P) ∧ (¬ 7 ≤ x11 → (isO h 12 r0) ∧ ((isA h 1 (gF h r0 54)) ∧ ((vp_in (7 + x11) (ln (gF h r0 54))) ∧ ((vp_in x11 (ln (gF h r0 54))) ∧ (Rr mX12_makeMeans 0 0 123 [(0, .ref r0), (1, .int x1), (2, .int x2), (3, .int x3), (4, .int x4), (5, .int x5), (6, .long y6), (8, .int x8), (11, .int (x11 + 1))] [] (sL h (gF h r0 54) x11.toNatClampNeg (gL h (gF h r0 54) (7 + x11).toNatClampNeg)) P)))))) : Rr mX12_makeMeans 0 0 123 [(0, .ref r0), (1, .int x1), (2, .int x2), (3, .int x3), (4, .int x4), (5, .int x5), (6, .long y6), (8, .int x8), (11, .int x11)] [] h P := by
  refine R_iload dX12_makeMeans_123 8 rfl ?_
  refine R_bipush (v := 7) dX12_makeMeans_125 (by decide) ?_
  refine R_icmp_ge (tgt := 153) dX12_makeMeans_127 (by decide) (fun b1 => ?_) (fun b1 => ?_)
  · have hf := hf.1 b1
    refine R_iinc (v := x8 + 1) dX12_makeMeans_153 7 rfl rfl (by decide) rfl ?_
    refine R_goto (tgt := 30) dX12_makeMeans_156 (by decide) ?_
    exact R_sub [1, 2, 3, 4, 5, 6, 7, 0] rfl hf
  · have hf := hf.2 b1
    refine R_aload_n dX12_makeMeans_130 rfl 0 rfl ?_
    obtain ⟨ob2, hf⟩ := hf
    refine G12_54 dX12_makeMeans_131 lfX12_102 ob2 ?_
    refine R_iload dX12_makeMeans_134 8 rfl ?_
    refine R_aload_n dX12_makeMeans_136 rfl 0 rfl ?_
    refine G12_54 dX12_makeMeans_137 lfX12_102 ob2 ?_
    refine R_bipush (v := 7) dX12_makeMeans_140 (by decide) ?_
    refine R_iload dX12_makeMeans_142 8 rfl ?_
    refine R_iadd dX12_makeMeans_144 ?_
    obtain ⟨ob3, hf⟩ := hf
    obtain ⟨ob4, hf⟩ := hf
    refine R_laload dX12_makeMeans_145 ob3 ob4 ?_
    obtain ⟨ob5, hf⟩ := hf
    refine R_lastore dX12_makeMeans_146 ob3 ob5 ?_
    refine R_iinc (v := x11 + 1) dX12_makeMeans_147 8 rfl rfl (by decide) rfl ?_
    refine R_goto (tgt := 123) dX12_makeMeans_150 (by decide) ?_
    exact R_sub [1, 2, 3, 4, 5, 6, 7, 8, 0] rfl hf
theorem dX12_pulled_0 : decode cX12_pulled 0 = .ok (.iload_n 1, 1) := by decide +kernel
theorem dX12_pulled_1 : decode cX12_pulled 1 = .ok (.iconst 1, 1) := by decide +kernel
theorem dX12_pulled_2 : decode cX12_pulled 2 = .ok (.iconst 3, 1) := by decide +kernel
theorem dX12_pulled_3 : decode cX12_pulled 3 = .ok (.invokestatic 178, 3) := by decide +kernel
theorem dX12_pulled_6 : decode cX12_pulled 6 = .ok (.ifCond .eq 23, 3) := by decide +kernel
theorem dX12_pulled_9 : decode cX12_pulled 9 = .ok (.iload_n 2, 1) := by decide +kernel
theorem dX12_pulled_10 : decode cX12_pulled 10 = .ok (.iconst 0, 1) := by decide +kernel
theorem dX12_pulled_11 : decode cX12_pulled 11 = .ok (.sipush 200, 3) := by decide +kernel
theorem dX12_pulled_14 : decode cX12_pulled 14 = .ok (.invokestatic 178, 3) := by decide +kernel
theorem dX12_pulled_17 : decode cX12_pulled 17 = .ok (.ifCond .eq 12, 3) := by decide +kernel
theorem dX12_pulled_20 : decode cX12_pulled 20 = .ok (.iload_n 1, 1) := by decide +kernel
theorem dX12_pulled_21 : decode cX12_pulled 21 = .ok (.iload_n 2, 1) := by decide +kernel
theorem dX12_pulled_22 : decode cX12_pulled 22 = .ok (.imul, 1) := by decide +kernel
theorem dX12_pulled_23 : decode cX12_pulled 23 = .ok (.bipush 100, 2) := by decide +kernel
theorem dX12_pulled_25 : decode cX12_pulled 25 = .ok (.idiv, 1) := by decide +kernel
theorem dX12_pulled_26 : decode cX12_pulled 26 = .ok (.goto 5, 3) := by decide +kernel
theorem dX12_pulled_29 : decode cX12_pulled 29 = .ok (.bipush (-2), 2) := by decide +kernel
theorem dX12_pulled_31 : decode cX12_pulled 31 = .ok (.ireturn, 1) := by decide +kernel
set_option maxRecDepth 20000 in
theorem sX12_pulled_0 {P : Option Value → AH → Prop} (h : AH) (r0 : Nat) (x1 : Int32) (x2 : Int32) (hf : ∀ z3 : Int32, z3 = (if (¬ x1 < 1 ∧ ¬ 3 < x1) then (if (¬ x2 < 0 ∧ ¬ 200 < x2) then ((x1 * x2) / 100) else (-2)) else (-2)) → (P (some (.int z3)) h)) : Rr mX12_pulled 0 0 0 [(0, .ref r0), (1, .int x1), (2, .int x2)] [] h P := by
  refine R_iload_n dX12_pulled_0 rfl 1 rfl ?_
  refine R_iconst (v := 1) dX12_pulled_1 (by decide) ?_
  refine R_iconst (v := 3) dX12_pulled_2 (by decide) ?_
  refine R_callS (N := mX12_in) (as := [.int x1, .int 1, .int 3]) (rest := []) (kc2 := 0) (ks2 := 0) dX12_pulled_3 lmX12_178 oX12_in (Nat.le_of_ble_eq_true rfl) rfl rfl (Nat.le_of_ble_eq_true rfl) rfl rfl (aX12_in  ?_)
  have key : ∀ z3 : Int32, z3 = (if (¬ x1 < 1 ∧ ¬ 3 < x1) then (if (¬ x2 < 0 ∧ ¬ 200 < x2) then ((x1 * x2) / 100) else (-2)) else (-2)) → Rr mX12_pulled 0 0 31 [] [.int z3] h P := by
    intro z3 ez3
    have hf := hf z3 ez3
    exact R_iret dX12_pulled_31 rfl rfl hf
  refine R_if_eq_b (tgt := 29) dX12_pulled_6 (by decide) (fun b1 => ?_) (fun b1 => ?_)
  · refine R_bipush (v := (-2)) dX12_pulled_29 (by decide) ?_
    exact R_sub [] rfl (key _ (by rw [if_neg b1]))
  · refine R_iload_n dX12_pulled_9 rfl 2 rfl ?_
    refine R_iconst (v := 0) dX12_pulled_10 (by decide) ?_
    refine R_sipush (v := 200) dX12_pulled_11 (by decide) ?_
    refine R_callS (N := mX12_in) (as := [.int x2, .int 0, .int 200]) (rest := []) (kc2 := 0) (ks2 := 0) dX12_pulled_14 lmX12_178 oX12_in (Nat.le_of_ble_eq_true rfl) rfl rfl (Nat.le_of_ble_eq_true rfl) rfl rfl (aX12_in  ?_)
    refine R_if_eq_b (tgt := 29) dX12_pulled_17 (by decide) (fun b2 => ?_) (fun b2 => ?_)
    · refine R_bipush (v := (-2)) dX12_pulled_29 (by decide) ?_
      exact R_sub [] rfl (key _ (by rw [if_pos b1, if_neg b2]))
    · refine R_iload_n dX12_pulled_20 rfl 1 rfl ?_
      refine R_iload_n dX12_pulled_21 rfl 2 rfl ?_
      refine R_imul dX12_pulled_22 ?_
      refine R_bipush (v := 100) dX12_pulled_23 (by decide) ?_
      refine R_idiv dX12_pulled_25 (by decide) ?_
      refine R_goto (tgt := 31) dX12_pulled_26 (by decide) ?_
      exact R_sub [] rfl (key _ (by rw [if_pos b1, if_pos b2]))
theorem aX12_pulled {h : AH} {P : Option Value → AH → Prop} {r0 : Nat} {x1 : Int32} {x2 : Int32}  (k : P (some (.int (if (¬ x1 < 1 ∧ ¬ 3 < x1) then (if (¬ x2 < 0 ∧ ¬ 200 < x2) then ((x1 * x2) / 100) else (-2)) else (-2)))) h) : Call mX12_pulled [.ref r0, .int x1, .int x2] h P :=
  Call.ofR (by decide +kernel) (Nat.le_of_ble_eq_true rfl) (sX12_pulled_0 h r0 x1 x2 (fun z3 ez3 => by subst ez3; exact (k)))
theorem dX12_right_0 : decode cX12_right 0 = .ok (.iload_n 1, 1) := by decide +kernel
theorem dX12_right_1 : decode cX12_right 1 = .ok (.aload_n 0, 1) := by decide +kernel
theorem dX12_right_2 : decode cX12_right 2 = .ok (.getfield 205, 3) := by decide +kernel
theorem dX12_right_5 : decode cX12_right 5 = .ok (.sipush 999, 3) := by decide +kernel
theorem dX12_right_8 : decode cX12_right 8 = .ok (.invokestatic 178, 3) := by decide +kernel
theorem dX12_right_11 : decode cX12_right 11 = .ok (.ifCond .eq 40, 3) := by decide +kernel
theorem dX12_right_14 : decode cX12_right 14 = .ok (.iload_n 2, 1) := by decide +kernel
theorem dX12_right_15 : decode cX12_right 15 = .ok (.iconst 0, 1) := by decide +kernel
theorem dX12_right_16 : decode cX12_right 16 = .ok (.aload_n 0, 1) := by decide +kernel
theorem dX12_right_17 : decode cX12_right 17 = .ok (.getfield 199, 3) := by decide +kernel
theorem dX12_right_20 : decode cX12_right 20 = .ok (.iconst 1, 1) := by decide +kernel
theorem dX12_right_21 : decode cX12_right 21 = .ok (.isub, 1) := by decide +kernel
theorem dX12_right_22 : decode cX12_right 22 = .ok (.invokestatic 178, 3) := by decide +kernel
theorem dX12_right_25 : decode cX12_right 25 = .ok (.ifCond .eq 26, 3) := by decide +kernel
theorem dX12_right_28 : decode cX12_right 28 = .ok (.iload_n 3, 1) := by decide +kernel
theorem dX12_right_29 : decode cX12_right 29 = .ok (.bipush (-99), 2) := by decide +kernel
theorem dX12_right_31 : decode cX12_right 31 = .ok (.bipush 99, 2) := by decide +kernel
theorem dX12_right_33 : decode cX12_right 33 = .ok (.invokestatic 178, 3) := by decide +kernel
theorem dX12_right_36 : decode cX12_right 36 = .ok (.ifCond .eq 15, 3) := by decide +kernel
theorem dX12_right_39 : decode cX12_right 39 = .ok (.iload 4, 2) := by decide +kernel
theorem dX12_right_41 : decode cX12_right 41 = .ok (.bipush (-99), 2) := by decide +kernel
theorem dX12_right_43 : decode cX12_right 43 = .ok (.bipush 99, 2) := by decide +kernel
theorem dX12_right_45 : decode cX12_right 45 = .ok (.invokestatic 178, 3) := by decide +kernel
theorem dX12_right_48 : decode cX12_right 48 = .ok (.ifCond .ne 6, 3) := by decide +kernel
theorem dX12_right_51 : decode cX12_right 51 = .ok (.bipush (-2), 2) := by decide +kernel
theorem dX12_right_53 : decode cX12_right 53 = .ok (.ireturn, 1) := by decide +kernel
theorem dX12_right_54 : decode cX12_right 54 = .ok (.aload_n 0, 1) := by decide +kernel
theorem dX12_right_55 : decode cX12_right 55 = .ok (.getfield 202, 3) := by decide +kernel
theorem dX12_right_58 : decode cX12_right 58 = .ok (.bipush 20, 2) := by decide +kernel
theorem dX12_right_60 : decode cX12_right 60 = .ok (.if_icmp .ne 6, 3) := by decide +kernel
theorem dX12_right_63 : decode cX12_right 63 = .ok (.bipush (-3), 2) := by decide +kernel
theorem dX12_right_65 : decode cX12_right 65 = .ok (.ireturn, 1) := by decide +kernel
theorem dX12_right_66 : decode cX12_right 66 = .ok (.aload_n 0, 1) := by decide +kernel
theorem dX12_right_67 : decode cX12_right 67 = .ok (.iload_n 1, 1) := by decide +kernel
theorem dX12_right_68 : decode cX12_right 68 = .ok (.putfield 205, 3) := by decide +kernel
theorem dX12_right_71 : decode cX12_right 71 = .ok (.aload_n 0, 1) := by decide +kernel
theorem dX12_right_72 : decode cX12_right 72 = .ok (.getfield 60, 3) := by decide +kernel
theorem dX12_right_75 : decode cX12_right 75 = .ok (.aload_n 0, 1) := by decide +kernel
theorem dX12_right_76 : decode cX12_right 76 = .ok (.getfield 202, 3) := by decide +kernel
theorem dX12_right_79 : decode cX12_right 79 = .ok (.iload_n 1, 1) := by decide +kernel
theorem dX12_right_80 : decode cX12_right 80 = .ok (.iastore, 1) := by decide +kernel
theorem dX12_right_81 : decode cX12_right 81 = .ok (.aload_n 0, 1) := by decide +kernel
theorem dX12_right_82 : decode cX12_right 82 = .ok (.getfield 63, 3) := by decide +kernel
theorem dX12_right_85 : decode cX12_right 85 = .ok (.aload_n 0, 1) := by decide +kernel
theorem dX12_right_86 : decode cX12_right 86 = .ok (.getfield 202, 3) := by decide +kernel
theorem dX12_right_89 : decode cX12_right 89 = .ok (.iload_n 2, 1) := by decide +kernel
theorem dX12_right_90 : decode cX12_right 90 = .ok (.iastore, 1) := by decide +kernel
theorem dX12_right_91 : decode cX12_right 91 = .ok (.aload_n 0, 1) := by decide +kernel
theorem dX12_right_92 : decode cX12_right 92 = .ok (.getfield 66, 3) := by decide +kernel
theorem dX12_right_95 : decode cX12_right 95 = .ok (.aload_n 0, 1) := by decide +kernel
theorem dX12_right_96 : decode cX12_right 96 = .ok (.getfield 202, 3) := by decide +kernel
theorem dX12_right_99 : decode cX12_right 99 = .ok (.iload_n 3, 1) := by decide +kernel
theorem dX12_right_100 : decode cX12_right 100 = .ok (.iastore, 1) := by decide +kernel
theorem dX12_right_101 : decode cX12_right 101 = .ok (.aload_n 0, 1) := by decide +kernel
theorem dX12_right_102 : decode cX12_right 102 = .ok (.getfield 69, 3) := by decide +kernel
theorem dX12_right_105 : decode cX12_right 105 = .ok (.aload_n 0, 1) := by decide +kernel
theorem dX12_right_106 : decode cX12_right 106 = .ok (.getfield 202, 3) := by decide +kernel
theorem dX12_right_109 : decode cX12_right 109 = .ok (.iload 4, 2) := by decide +kernel
theorem dX12_right_111 : decode cX12_right 111 = .ok (.iastore, 1) := by decide +kernel
theorem dX12_right_112 : decode cX12_right 112 = .ok (.aload_n 0, 1) := by decide +kernel
theorem dX12_right_113 : decode cX12_right 113 = .ok (.dup, 1) := by decide +kernel
theorem dX12_right_114 : decode cX12_right 114 = .ok (.getfield 202, 3) := by decide +kernel
theorem dX12_right_117 : decode cX12_right 117 = .ok (.iconst 1, 1) := by decide +kernel
theorem dX12_right_118 : decode cX12_right 118 = .ok (.iadd, 1) := by decide +kernel
theorem dX12_right_119 : decode cX12_right 119 = .ok (.putfield 202, 3) := by decide +kernel
theorem dX12_right_122 : decode cX12_right 122 = .ok (.iconst 0, 1) := by decide +kernel
theorem dX12_right_123 : decode cX12_right 123 = .ok (.istore 5, 2) := by decide +kernel
theorem dX12_right_125 : decode cX12_right 125 = .ok (.iconst 0, 1) := by decide +kernel
theorem dX12_right_126 : decode cX12_right 126 = .ok (.istore 6, 2) := by decide +kernel
theorem dX12_right_128 : decode cX12_right 128 = .ok (.iload 6, 2) := by decide +kernel
theorem dX12_right_130 : decode cX12_right 130 = .ok (.aload_n 0, 1) := by decide +kernel
theorem dX12_right_131 : decode cX12_right 131 = .ok (.getfield 202, 3) := by decide +kernel
theorem dX12_right_134 : decode cX12_right 134 = .ok (.if_icmp .ge 30, 3) := by decide +kernel
theorem dX12_right_137 : decode cX12_right 137 = .ok (.iload 5, 2) := by decide +kernel
theorem dX12_right_139 : decode cX12_right 139 = .ok (.aload_n 0, 1) := by decide +kernel
theorem dX12_right_140 : decode cX12_right 140 = .ok (.getfield 63, 3) := by decide +kernel
theorem dX12_right_143 : decode cX12_right 143 = .ok (.iload 6, 2) := by decide +kernel
theorem dX12_right_145 : decode cX12_right 145 = .ok (.iaload, 1) := by decide +kernel
theorem dX12_right_146 : decode cX12_right 146 = .ok (.iload_n 2, 1) := by decide +kernel
theorem dX12_right_147 : decode cX12_right 147 = .ok (.if_icmp .ne 7, 3) := by decide +kernel
theorem dX12_right_150 : decode cX12_right 150 = .ok (.iconst 1, 1) := by decide +kernel
theorem dX12_right_151 : decode cX12_right 151 = .ok (.goto 4, 3) := by decide +kernel
theorem dX12_right_154 : decode cX12_right 154 = .ok (.iconst 0, 1) := by decide +kernel
theorem dX12_right_155 : decode cX12_right 155 = .ok (.iadd, 1) := by decide +kernel
theorem dX12_right_156 : decode cX12_right 156 = .ok (.istore 5, 2) := by decide +kernel
theorem dX12_right_158 : decode cX12_right 158 = .ok (.iinc 6 1, 3) := by decide +kernel
theorem dX12_right_161 : decode cX12_right 161 = .ok (.goto (-33), 3) := by decide +kernel
theorem dX12_right_164 : decode cX12_right 164 = .ok (.iload 5, 2) := by decide +kernel
theorem dX12_right_166 : decode cX12_right 166 = .ok (.ireturn, 1) := by decide +kernel
set_option maxRecDepth 20000 in
theorem sX12_right_0 {P : Option Value → AH → Prop} (h : AH) (r0 : Nat) (x1 : Int32) (x2 : Int32) (x3 : Int32) (x4 : Int32) (hf : (isO h 12 r0) ∧ ((¬ (¬ x1 < (gI h r0 25) ∧ ¬ 999 < x1) → P (some (.int (-2))) h) ∧ ((¬ x1 < (gI h r0 25) ∧ ¬ 999 < x1) → (¬ (¬ x2 < 0 ∧ ¬ ((gI h r0 23) - 1) < x2) → P (some (.int (-2))) h) ∧ ((¬ x2 < 0 ∧ ¬ ((gI h r0 23) - 1) < x2) → (¬ (¬ x3 < (-99) ∧ ¬ 99 < x3) → P (some (.int (-2))) h) ∧ ((¬ x3 < (-99) ∧ ¬ 99 < x3) → ((¬ x4 < (-99) ∧ ¬ 99 < x4) → (¬ (gI h r0 24) = 20 → (isA h 0 (gF h r0 31)) ∧ ((vp_in (gI h r0 24) (ln (gF h r0 31))) ∧ ((isA h 0 (gF h r0 32)) ∧ ((vp_in (gI h r0 24) (ln (gF h r0 32))) ∧ ((isA h 0 (gF h r0 33)) ∧ ((vp_in (gI h r0 24) (ln (gF h r0 33))) ∧ ((isA h 0 (gF h r0 34)) ∧ ((vp_in (gI h r0 24) (ln (gF h r0 34))) ∧ (Rr mX12_right 0 0 128 [(0, .ref r0), (2, .int x2), (5, .int 0), (6, .int 0)] [] (sI (sI (sI (sI (sI (sI h r0 25 x1) (gF h r0 31) (gI h r0 24).toNatClampNeg x1) (gF h r0 32) (gI h r0 24).toNatClampNeg x2) (gF h r0 33) (gI h r0 24).toNatClampNeg x3) (gF h r0 34) (gI h r0 24).toNatClampNeg x4) r0 24 ((gI h r0 24) + 1)) P))))))))) ∧ ((gI h r0 24) = 20 → P (some (.int (-3))) h)) ∧ (¬ (¬ x4 < (-99) ∧ ¬ 99 < x4) → P (some (.int (-2))) h)))))) : Rr mX12_right 0 0 0 [(0, .ref r0), (1, .int x1), (2, .int x2), (3, .int x3), (4, .int x4)] [] h P := by
  refine R_iload_n dX12_right_0 rfl 1 rfl ?_
  refine R_aload_n dX12_right_1 rfl 0 rfl ?_
  obtain ⟨ob1, hf⟩ := hf
  refine G12_25 dX12_right_2 lfX12_205 ob1 ?_
  refine R_sipush (v := 999) dX12_right_5 (by decide) ?_
  refine R_callS (N := mX12_in) (as := [.int x1, .int (gI h r0 25), .int 999]) (rest := []) (kc2 := 0) (ks2 := 0) dX12_right_8 lmX12_178 oX12_in (Nat.le_of_ble_eq_true rfl) rfl rfl (Nat.le_of_ble_eq_true rfl) rfl rfl (aX12_in  ?_)
  refine R_if_eq_b (tgt := 51) dX12_right_11 (by decide) (fun b2 => ?_) (fun b2 => ?_)
  · have hf := hf.1 b2
    refine R_bipush (v := (-2)) dX12_right_51 (by decide) ?_
    exact R_iret dX12_right_53 rfl rfl hf
  · have hf := hf.2 b2
    refine R_iload_n dX12_right_14 rfl 2 rfl ?_
    refine R_iconst (v := 0) dX12_right_15 (by decide) ?_
    refine R_aload_n dX12_right_16 rfl 0 rfl ?_
    refine G12_23 dX12_right_17 lfX12_199 ob1 ?_
    refine R_iconst (v := 1) dX12_right_20 (by decide) ?_
    refine R_isub dX12_right_21 ?_
    refine R_callS (N := mX12_in) (as := [.int x2, .int 0, .int ((gI h r0 23) - 1)]) (rest := []) (kc2 := 0) (ks2 := 0) dX12_right_22 lmX12_178 oX12_in (Nat.le_of_ble_eq_true rfl) rfl rfl (Nat.le_of_ble_eq_true rfl) rfl rfl (aX12_in  ?_)
    refine R_if_eq_b (tgt := 51) dX12_right_25 (by decide) (fun b3 => ?_) (fun b3 => ?_)
    · have hf := hf.1 b3
      refine R_bipush (v := (-2)) dX12_right_51 (by decide) ?_
      exact R_iret dX12_right_53 rfl rfl hf
    · have hf := hf.2 b3
      refine R_iload_n dX12_right_28 rfl 3 rfl ?_
      refine R_bipush (v := (-99)) dX12_right_29 (by decide) ?_
      refine R_bipush (v := 99) dX12_right_31 (by decide) ?_
      refine R_callS (N := mX12_in) (as := [.int x3, .int (-99), .int 99]) (rest := []) (kc2 := 0) (ks2 := 0) dX12_right_33 lmX12_178 oX12_in (Nat.le_of_ble_eq_true rfl) rfl rfl (Nat.le_of_ble_eq_true rfl) rfl rfl (aX12_in  ?_)
      refine R_if_eq_b (tgt := 51) dX12_right_36 (by decide) (fun b4 => ?_) (fun b4 => ?_)
      · have hf := hf.1 b4
        refine R_bipush (v := (-2)) dX12_right_51 (by decide) ?_
        exact R_iret dX12_right_53 rfl rfl hf
      · have hf := hf.2 b4
        refine R_iload dX12_right_39 4 rfl ?_
        refine R_bipush (v := (-99)) dX12_right_41 (by decide) ?_
        refine R_bipush (v := 99) dX12_right_43 (by decide) ?_
        refine R_callS (N := mX12_in) (as := [.int x4, .int (-99), .int 99]) (rest := []) (kc2 := 0) (ks2 := 0) dX12_right_45 lmX12_178 oX12_in (Nat.le_of_ble_eq_true rfl) rfl rfl (Nat.le_of_ble_eq_true rfl) rfl rfl (aX12_in  ?_)
        refine R_if_ne_b (tgt := 54) dX12_right_48 (by decide) (fun b5 => ?_) (fun b5 => ?_)
        · have hf := hf.1 b5
          refine R_aload_n dX12_right_54 rfl 0 rfl ?_
          refine G12_24 dX12_right_55 lfX12_202 ob1 ?_
          refine R_bipush (v := 20) dX12_right_58 (by decide) ?_
          refine R_icmp_ne (tgt := 66) dX12_right_60 (by decide) (fun b6 => ?_) (fun b6 => ?_)
          · have hf := hf.1 b6
            refine R_aload_n dX12_right_66 rfl 0 rfl ?_
            refine R_iload_n dX12_right_67 rfl 1 rfl ?_
            refine S12_25 dX12_right_68 lfX12_205 ob1 ?_
            refine R_aload_n dX12_right_71 rfl 0 rfl ?_
            refine G12_31 dX12_right_72 lfX12_60 ob1 ?_
            refine R_eqF (y := gF h r0 31) rfl ?_
            refine R_aload_n dX12_right_75 rfl 0 rfl ?_
            refine G12_24 dX12_right_76 lfX12_202 ob1 ?_
            refine R_eqI (y := gI h r0 24) (rd_k (by decide)) ?_
            refine R_iload_n dX12_right_79 rfl 1 rfl ?_
            obtain ⟨ob7, hf⟩ := hf
            obtain ⟨ob8, hf⟩ := hf
            refine R_iastore dX12_right_80 ob7 ob8 ?_
            refine R_aload_n dX12_right_81 rfl 0 rfl ?_
            refine G12_32 dX12_right_82 lfX12_63 ob1 ?_
            refine R_eqF (y := gF h r0 32) rfl ?_
            refine R_aload_n dX12_right_85 rfl 0 rfl ?_
            refine G12_24 dX12_right_86 lfX12_202 ob1 ?_
            refine R_eqI (y := gI h r0 24) ((rd_r (ne_oa ob1 ob7 (by decide))).trans (rd_k (by decide))) ?_
            refine R_iload_n dX12_right_89 rfl 2 rfl ?_
            obtain ⟨ob9, hf⟩ := hf
            obtain ⟨ob10, hf⟩ := hf
            refine R_iastore dX12_right_90 ob9 ob10 ?_
            refine R_aload_n dX12_right_91 rfl 0 rfl ?_
            refine G12_33 dX12_right_92 lfX12_66 ob1 ?_
            refine R_eqF (y := gF h r0 33) rfl ?_
            refine R_aload_n dX12_right_95 rfl 0 rfl ?_
            refine G12_24 dX12_right_96 lfX12_202 ob1 ?_
            refine R_eqI (y := gI h r0 24) ((rd_r (ne_oa ob1 ob9 (by decide))).trans ((rd_r (ne_oa ob1 ob7 (by decide))).trans (rd_k (by decide)))) ?_
            refine R_iload_n dX12_right_99 rfl 3 rfl ?_
            obtain ⟨ob11, hf⟩ := hf
            obtain ⟨ob12, hf⟩ := hf
            refine R_iastore dX12_right_100 ob11 ob12 ?_
            refine R_aload_n dX12_right_101 rfl 0 rfl ?_
            refine G12_34 dX12_right_102 lfX12_69 ob1 ?_
            refine R_eqF (y := gF h r0 34) rfl ?_
            refine R_aload_n dX12_right_105 rfl 0 rfl ?_
            refine G12_24 dX12_right_106 lfX12_202 ob1 ?_
            refine R_eqI (y := gI h r0 24) ((rd_r (ne_oa ob1 ob11 (by decide))).trans ((rd_r (ne_oa ob1 ob9 (by decide))).trans ((rd_r (ne_oa ob1 ob7 (by decide))).trans (rd_k (by decide))))) ?_
            refine R_iload dX12_right_109 4 rfl ?_
            obtain ⟨ob13, hf⟩ := hf
            obtain ⟨ob14, hf⟩ := hf
            refine R_iastore dX12_right_111 ob13 ob14 ?_
            refine R_aload_n dX12_right_112 rfl 0 rfl ?_
            refine R_dup dX12_right_113 rfl ?_
            refine G12_24 dX12_right_114 lfX12_202 ob1 ?_
            refine R_eqI (y := gI h r0 24) ((rd_r (ne_oa ob1 ob13 (by decide))).trans ((rd_r (ne_oa ob1 ob11 (by decide))).trans ((rd_r (ne_oa ob1 ob9 (by decide))).trans ((rd_r (ne_oa ob1 ob7 (by decide))).trans (rd_k (by decide)))))) ?_
            refine R_iconst (v := 1) dX12_right_117 (by decide) ?_
            refine R_iadd dX12_right_118 ?_
            refine S12_24 dX12_right_119 lfX12_202 ob1 ?_
            refine R_iconst (v := 0) dX12_right_122 (by decide) ?_
            refine R_istore dX12_right_123 (by decide) rfl ?_
            refine R_iconst (v := 0) dX12_right_125 (by decide) ?_
            refine R_istore dX12_right_126 (by decide) rfl ?_
            exact R_sub [2, 4, 1, 0] rfl hf
          · have hf := hf.2 b6
            refine R_bipush (v := (-3)) dX12_right_63 (by decide) ?_
            exact R_iret dX12_right_65 rfl rfl hf
        · have hf := hf.2 b5
          refine R_bipush (v := (-2)) dX12_right_51 (by decide) ?_
          exact R_iret dX12_right_53 rfl rfl hf
set_option maxRecDepth 20000 in
theorem sX12_right_128 {P : Option Value → AH → Prop} (h : AH) (r0 : Nat) (x2 : Int32) (x5 : Int32) (x6 : Int32) (hf : (isO h 12 r0) ∧ (((gI h r0 24) ≤ x6 → P (some (.int x5)) h) ∧ (¬ (gI h r0 24) ≤ x6 → (isA h 0 (gF h r0 32)) ∧ ((vp_in x6 (ln (gF h r0 32))) ∧ (Rr mX12_right 0 0 128 [(0, .ref r0), (2, .int x2), (5, .int (x5 + (bi ((gI h (gF h r0 32) x6.toNatClampNeg) = x2)))), (6, .int (x6 + 1))] [] h P))))) : Rr mX12_right 0 0 128 [(0, .ref r0), (2, .int x2), (5, .int x5), (6, .int x6)] [] h P := by
  refine R_iload dX12_right_128 3 rfl ?_
  refine R_aload_n dX12_right_130 rfl 0 rfl ?_
  obtain ⟨ob1, hf⟩ := hf
  refine G12_24 dX12_right_131 lfX12_202 ob1 ?_
  refine R_icmp_ge (tgt := 164) dX12_right_134 (by decide) (fun b2 => ?_) (fun b2 => ?_)
  · have hf := hf.1 b2
    refine R_iload dX12_right_164 2 rfl ?_
    exact R_iret dX12_right_166 rfl rfl hf
  · have hf := hf.2 b2
    refine R_iload dX12_right_137 2 rfl ?_
    refine R_aload_n dX12_right_139 rfl 0 rfl ?_
    refine G12_32 dX12_right_140 lfX12_63 ob1 ?_
    refine R_iload dX12_right_143 3 rfl ?_
    obtain ⟨ob3, hf⟩ := hf
    obtain ⟨ob4, hf⟩ := hf
    refine R_iaload dX12_right_145 ob3 ob4 ?_
    refine R_iload_n dX12_right_146 rfl 1 rfl ?_
    have key :  Rr mX12_right 0 0 155 [(0, .ref r0), (2, .int x2), (6, .int x6)] [.int (bi ((gI h (gF h r0 32) x6.toNatClampNeg) = x2)), .int x5] h P := by
      refine R_iadd dX12_right_155 ?_
      refine R_istore dX12_right_156 (by decide) rfl ?_
      refine R_iinc (v := x6 + 1) dX12_right_158 3 rfl rfl (by decide) rfl ?_
      refine R_goto (tgt := 128) dX12_right_161 (by decide) ?_
      exact R_sub [2, 3, 1, 0] rfl hf
    refine R_icmp_ne (tgt := 154) dX12_right_147 (by decide) (fun b5 => ?_) (fun b5 => ?_)
    · refine R_iconst (v := 0) dX12_right_154 (by decide) ?_
      have kb := key
      rw [show bi ((gI h (gF h r0 32) x6.toNatClampNeg) = x2) = 0 from by simp only [bi, b5, false_and, and_false, true_and, and_true, not_true_eq_false, not_false_eq_true, if_true, if_false, true_or, or_true, false_or, or_false, reduceIte]] at kb
      exact R_sub [0, 1, 3] rfl kb
    · refine R_iconst (v := 1) dX12_right_150 (by decide) ?_
      refine R_goto (tgt := 155) dX12_right_151 (by decide) ?_
      have kb := key
      rw [show bi ((gI h (gF h r0 32) x6.toNatClampNeg) = x2) = 1 from by simp only [bi, b5, false_and, and_false, true_and, and_true, not_true_eq_false, not_false_eq_true, if_true, if_false, true_or, or_true, false_or, or_false, reduceIte]] at kb
      exact R_sub [0, 1, 3] rfl kb
theorem dX12_settle_0 : decode cX12_settle 0 = .ok (.aload_n 0, 1) := by decide +kernel
theorem dX12_settle_1 : decode cX12_settle 1 = .ok (.getfield 17, 3) := by decide +kernel
theorem dX12_settle_4 : decode cX12_settle 4 = .ok (.bipush 9, 2) := by decide +kernel
theorem dX12_settle_6 : decode cX12_settle 6 = .ok (.invokestatic 195, 3) := by decide +kernel
theorem dX12_settle_9 : decode cX12_settle 9 = .ok (.aload_n 0, 1) := by decide +kernel
theorem dX12_settle_10 : decode cX12_settle 10 = .ok (.getfield 21, 3) := by decide +kernel
theorem dX12_settle_13 : decode cX12_settle 13 = .ok (.bipush 8, 2) := by decide +kernel
theorem dX12_settle_15 : decode cX12_settle 15 = .ok (.invokestatic 195, 3) := by decide +kernel
theorem dX12_settle_18 : decode cX12_settle 18 = .ok (.aload_n 0, 1) := by decide +kernel
theorem dX12_settle_19 : decode cX12_settle 19 = .ok (.getfield 24, 3) := by decide +kernel
theorem dX12_settle_22 : decode cX12_settle 22 = .ok (.bipush 8, 2) := by decide +kernel
theorem dX12_settle_24 : decode cX12_settle 24 = .ok (.invokestatic 195, 3) := by decide +kernel
theorem dX12_settle_27 : decode cX12_settle 27 = .ok (.aload_n 0, 1) := by decide +kernel
theorem dX12_settle_28 : decode cX12_settle 28 = .ok (.getfield 27, 3) := by decide +kernel
theorem dX12_settle_31 : decode cX12_settle 31 = .ok (.iconst 4, 1) := by decide +kernel
theorem dX12_settle_32 : decode cX12_settle 32 = .ok (.invokestatic 195, 3) := by decide +kernel
theorem dX12_settle_35 : decode cX12_settle 35 = .ok (.aload_n 0, 1) := by decide +kernel
theorem dX12_settle_36 : decode cX12_settle 36 = .ok (.getfield 30, 3) := by decide +kernel
theorem dX12_settle_39 : decode cX12_settle 39 = .ok (.bipush 36, 2) := by decide +kernel
theorem dX12_settle_41 : decode cX12_settle 41 = .ok (.invokestatic 195, 3) := by decide +kernel
theorem dX12_settle_44 : decode cX12_settle 44 = .ok (.aload_n 0, 1) := by decide +kernel
theorem dX12_settle_45 : decode cX12_settle 45 = .ok (.getfield 33, 3) := by decide +kernel
theorem dX12_settle_48 : decode cX12_settle 48 = .ok (.bipush 64, 2) := by decide +kernel
theorem dX12_settle_50 : decode cX12_settle 50 = .ok (.invokestatic 195, 3) := by decide +kernel
theorem dX12_settle_53 : decode cX12_settle 53 = .ok (.aload_n 0, 1) := by decide +kernel
theorem dX12_settle_54 : decode cX12_settle 54 = .ok (.getfield 36, 3) := by decide +kernel
theorem dX12_settle_57 : decode cX12_settle 57 = .ok (.bipush 8, 2) := by decide +kernel
theorem dX12_settle_59 : decode cX12_settle 59 = .ok (.invokestatic 195, 3) := by decide +kernel
theorem dX12_settle_62 : decode cX12_settle 62 = .ok (.aload_n 0, 1) := by decide +kernel
theorem dX12_settle_63 : decode cX12_settle 63 = .ok (.getfield 39, 3) := by decide +kernel
theorem dX12_settle_66 : decode cX12_settle 66 = .ok (.bipush 8, 2) := by decide +kernel
theorem dX12_settle_68 : decode cX12_settle 68 = .ok (.invokestatic 195, 3) := by decide +kernel
theorem dX12_settle_71 : decode cX12_settle 71 = .ok (.aload_n 0, 1) := by decide +kernel
theorem dX12_settle_72 : decode cX12_settle 72 = .ok (.getfield 42, 3) := by decide +kernel
theorem dX12_settle_75 : decode cX12_settle 75 = .ok (.bipush 16, 2) := by decide +kernel
theorem dX12_settle_77 : decode cX12_settle 77 = .ok (.invokestatic 195, 3) := by decide +kernel
theorem dX12_settle_80 : decode cX12_settle 80 = .ok (.aload_n 0, 1) := by decide +kernel
theorem dX12_settle_81 : decode cX12_settle 81 = .ok (.iconst 0, 1) := by decide +kernel
theorem dX12_settle_82 : decode cX12_settle 82 = .ok (.putfield 199, 3) := by decide +kernel
theorem dX12_settle_85 : decode cX12_settle 85 = .ok (.aload_n 0, 1) := by decide +kernel
theorem dX12_settle_86 : decode cX12_settle 86 = .ok (.iconst 0, 1) := by decide +kernel
theorem dX12_settle_87 : decode cX12_settle 87 = .ok (.putfield 202, 3) := by decide +kernel
theorem dX12_settle_90 : decode cX12_settle 90 = .ok (.aload_n 0, 1) := by decide +kernel
theorem dX12_settle_91 : decode cX12_settle 91 = .ok (.iconst 0, 1) := by decide +kernel
theorem dX12_settle_92 : decode cX12_settle 92 = .ok (.putfield 205, 3) := by decide +kernel
theorem dX12_settle_95 : decode cX12_settle 95 = .ok (.aload_n 0, 1) := by decide +kernel
theorem dX12_settle_96 : decode cX12_settle 96 = .ok (.iconst 0, 1) := by decide +kernel
theorem dX12_settle_97 : decode cX12_settle 97 = .ok (.putfield 208, 3) := by decide +kernel
theorem dX12_settle_100 : decode cX12_settle 100 = .ok (.aload_n 0, 1) := by decide +kernel
theorem dX12_settle_101 : decode cX12_settle 101 = .ok (.iconst 0, 1) := by decide +kernel
theorem dX12_settle_102 : decode cX12_settle 102 = .ok (.putfield 211, 3) := by decide +kernel
theorem dX12_settle_105 : decode cX12_settle 105 = .ok (.aload_n 0, 1) := by decide +kernel
theorem dX12_settle_106 : decode cX12_settle 106 = .ok (.iconst 0, 1) := by decide +kernel
theorem dX12_settle_107 : decode cX12_settle 107 = .ok (.putfield 215, 3) := by decide +kernel
theorem dX12_settle_110 : decode cX12_settle 110 = .ok (.return_, 1) := by decide +kernel
set_option maxRecDepth 20000 in
theorem sX12_settle_0 {P : Option Value → AH → Prop} (h : AH) (r0 : Nat) (hf : (isO h 12 r0) ∧ (Call mX12_comes [.ref (gF h r0 11), .int 9] h (fun v h2 => v = none ∧ ((isO h2 12 r0) ∧ (Call mX12_comes [.ref (gF h2 r0 12), .int 8] h2 (fun v h4 => v = none ∧ ((isO h4 12 r0) ∧ (Call mX12_comes [.ref (gF h4 r0 13), .int 8] h4 (fun v h6 => v = none ∧ ((isO h6 12 r0) ∧ (Call mX12_comes [.ref (gF h6 r0 14), .int 4] h6 (fun v h8 => v = none ∧ ((isO h8 12 r0) ∧ (Call mX12_comes [.ref (gF h8 r0 15), .int 36] h8 (fun v h10 => v = none ∧ ((isO h10 12 r0) ∧ (Call mX12_comes [.ref (gF h10 r0 16), .int 64] h10 (fun v h12 => v = none ∧ ((isO h12 12 r0) ∧ (Call mX12_comes [.ref (gF h12 r0 17), .int 8] h12 (fun v h14 => v = none ∧ ((isO h14 12 r0) ∧ (Call mX12_comes [.ref (gF h14 r0 18), .int 8] h14 (fun v h16 => v = none ∧ ((isO h16 12 r0) ∧ (Call mX12_comes [.ref (gF h16 r0 19), .int 16] h16 (fun v h18 => v = none ∧ ((isO h18 12 r0) ∧ (P none (sI (sI (sI (sI (sI (sI h18 r0 23 0) r0 24 0) r0 25 0) r0 43 0) r0 48 0) r0 55 0)))))))))))))))))))))))))))))) : Rr mX12_settle 0 0 0 [(0, .ref r0)] [] h P := by
  refine R_aload_n dX12_settle_0 rfl 0 rfl ?_
  obtain ⟨ob1, hf⟩ := hf
  refine G12_11 dX12_settle_1 lfX12_17 ob1 ?_
  refine R_bipush (v := 9) dX12_settle_4 (by decide) ?_
  refine R_callS (N := mX12_comes) (as := [.ref (gF h r0 11), .int 9]) (rest := []) (kc2 := 0) (ks2 := 0) dX12_settle_6 lmX12_195 oX12_comes (Nat.le_of_ble_eq_true rfl) rfl rfl (Nat.le_of_ble_eq_true rfl) rfl rfl (Call.mono hf ?_)
  rintro _ h2 ⟨rfl, hf⟩
  refine R_aload_n dX12_settle_9 rfl 0 rfl ?_
  obtain ⟨ob3, hf⟩ := hf
  refine G12_12 dX12_settle_10 lfX12_21 ob3 ?_
  refine R_bipush (v := 8) dX12_settle_13 (by decide) ?_
  refine R_callS (N := mX12_comes) (as := [.ref (gF h2 r0 12), .int 8]) (rest := []) (kc2 := 0) (ks2 := 0) dX12_settle_15 lmX12_195 oX12_comes (Nat.le_of_ble_eq_true rfl) rfl rfl (Nat.le_of_ble_eq_true rfl) rfl rfl (Call.mono hf ?_)
  rintro _ h4 ⟨rfl, hf⟩
  refine R_aload_n dX12_settle_18 rfl 0 rfl ?_
  obtain ⟨ob5, hf⟩ := hf
  refine G12_13 dX12_settle_19 lfX12_24 ob5 ?_
  refine R_bipush (v := 8) dX12_settle_22 (by decide) ?_
  refine R_callS (N := mX12_comes) (as := [.ref (gF h4 r0 13), .int 8]) (rest := []) (kc2 := 0) (ks2 := 0) dX12_settle_24 lmX12_195 oX12_comes (Nat.le_of_ble_eq_true rfl) rfl rfl (Nat.le_of_ble_eq_true rfl) rfl rfl (Call.mono hf ?_)
  rintro _ h6 ⟨rfl, hf⟩
  refine R_aload_n dX12_settle_27 rfl 0 rfl ?_
  obtain ⟨ob7, hf⟩ := hf
  refine G12_14 dX12_settle_28 lfX12_27 ob7 ?_
  refine R_iconst (v := 4) dX12_settle_31 (by decide) ?_
  refine R_callS (N := mX12_comes) (as := [.ref (gF h6 r0 14), .int 4]) (rest := []) (kc2 := 0) (ks2 := 0) dX12_settle_32 lmX12_195 oX12_comes (Nat.le_of_ble_eq_true rfl) rfl rfl (Nat.le_of_ble_eq_true rfl) rfl rfl (Call.mono hf ?_)
  rintro _ h8 ⟨rfl, hf⟩
  refine R_aload_n dX12_settle_35 rfl 0 rfl ?_
  obtain ⟨ob9, hf⟩ := hf
  refine G12_15 dX12_settle_36 lfX12_30 ob9 ?_
  refine R_bipush (v := 36) dX12_settle_39 (by decide) ?_
  refine R_callS (N := mX12_comes) (as := [.ref (gF h8 r0 15), .int 36]) (rest := []) (kc2 := 0) (ks2 := 0) dX12_settle_41 lmX12_195 oX12_comes (Nat.le_of_ble_eq_true rfl) rfl rfl (Nat.le_of_ble_eq_true rfl) rfl rfl (Call.mono hf ?_)
  rintro _ h10 ⟨rfl, hf⟩
  refine R_aload_n dX12_settle_44 rfl 0 rfl ?_
  obtain ⟨ob11, hf⟩ := hf
  refine G12_16 dX12_settle_45 lfX12_33 ob11 ?_
  refine R_bipush (v := 64) dX12_settle_48 (by decide) ?_
  refine R_callS (N := mX12_comes) (as := [.ref (gF h10 r0 16), .int 64]) (rest := []) (kc2 := 0) (ks2 := 0) dX12_settle_50 lmX12_195 oX12_comes (Nat.le_of_ble_eq_true rfl) rfl rfl (Nat.le_of_ble_eq_true rfl) rfl rfl (Call.mono hf ?_)
  rintro _ h12 ⟨rfl, hf⟩
  refine R_aload_n dX12_settle_53 rfl 0 rfl ?_
  obtain ⟨ob13, hf⟩ := hf
  refine G12_17 dX12_settle_54 lfX12_36 ob13 ?_
  refine R_bipush (v := 8) dX12_settle_57 (by decide) ?_
  refine R_callS (N := mX12_comes) (as := [.ref (gF h12 r0 17), .int 8]) (rest := []) (kc2 := 0) (ks2 := 0) dX12_settle_59 lmX12_195 oX12_comes (Nat.le_of_ble_eq_true rfl) rfl rfl (Nat.le_of_ble_eq_true rfl) rfl rfl (Call.mono hf ?_)
  rintro _ h14 ⟨rfl, hf⟩
  refine R_aload_n dX12_settle_62 rfl 0 rfl ?_
  obtain ⟨ob15, hf⟩ := hf
  refine G12_18 dX12_settle_63 lfX12_39 ob15 ?_
  refine R_bipush (v := 8) dX12_settle_66 (by decide) ?_
  refine R_callS (N := mX12_comes) (as := [.ref (gF h14 r0 18), .int 8]) (rest := []) (kc2 := 0) (ks2 := 0) dX12_settle_68 lmX12_195 oX12_comes (Nat.le_of_ble_eq_true rfl) rfl rfl (Nat.le_of_ble_eq_true rfl) rfl rfl (Call.mono hf ?_)
  rintro _ h16 ⟨rfl, hf⟩
  refine R_aload_n dX12_settle_71 rfl 0 rfl ?_
  obtain ⟨ob17, hf⟩ := hf
  refine G12_19 dX12_settle_72 lfX12_42 ob17 ?_
  refine R_bipush (v := 16) dX12_settle_75 (by decide) ?_
  refine R_callS (N := mX12_comes) (as := [.ref (gF h16 r0 19), .int 16]) (rest := []) (kc2 := 0) (ks2 := 0) dX12_settle_77 lmX12_195 oX12_comes (Nat.le_of_ble_eq_true rfl) rfl rfl (Nat.le_of_ble_eq_true rfl) rfl rfl (Call.mono hf ?_)
  rintro _ h18 ⟨rfl, hf⟩
  refine R_aload_n dX12_settle_80 rfl 0 rfl ?_
  refine R_iconst (v := 0) dX12_settle_81 (by decide) ?_
  obtain ⟨ob19, hf⟩ := hf
  refine S12_23 dX12_settle_82 lfX12_199 ob19 ?_
  refine R_aload_n dX12_settle_85 rfl 0 rfl ?_
  refine R_iconst (v := 0) dX12_settle_86 (by decide) ?_
  refine S12_24 dX12_settle_87 lfX12_202 ob19 ?_
  refine R_aload_n dX12_settle_90 rfl 0 rfl ?_
  refine R_iconst (v := 0) dX12_settle_91 (by decide) ?_
  refine S12_25 dX12_settle_92 lfX12_205 ob19 ?_
  refine R_aload_n dX12_settle_95 rfl 0 rfl ?_
  refine R_iconst (v := 0) dX12_settle_96 (by decide) ?_
  refine S12_43 dX12_settle_97 lfX12_208 ob19 ?_
  refine R_aload_n dX12_settle_100 rfl 0 rfl ?_
  refine R_iconst (v := 0) dX12_settle_101 (by decide) ?_
  refine S12_48 dX12_settle_102 lfX12_211 ob19 rfl rfl ?_
  refine R_aload_n dX12_settle_105 rfl 0 rfl ?_
  refine R_iconst (v := 0) dX12_settle_106 (by decide) ?_
  refine S12_55 dX12_settle_107 lfX12_215 ob19 ?_
  exact R_ret dX12_settle_110 rfl hf
theorem dX12_sign_0 : decode cX12_sign 0 = .ok (.aload_n 0, 1) := by decide +kernel
theorem dX12_sign_1 : decode cX12_sign 1 = .ok (.iconst 1, 1) := by decide +kernel
theorem dX12_sign_2 : decode cX12_sign 2 = .ok (.putfield 335, 3) := by decide +kernel
theorem dX12_sign_5 : decode cX12_sign 5 = .ok (.iconst 0, 1) := by decide +kernel
theorem dX12_sign_6 : decode cX12_sign 6 = .ok (.istore_n 1, 1) := by decide +kernel
theorem dX12_sign_7 : decode cX12_sign 7 = .ok (.iload_n 1, 1) := by decide +kernel
theorem dX12_sign_8 : decode cX12_sign 8 = .ok (.bipush 64, 2) := by decide +kernel
theorem dX12_sign_10 : decode cX12_sign 10 = .ok (.if_icmp .ge 21, 3) := by decide +kernel
theorem dX12_sign_13 : decode cX12_sign 13 = .ok (.aload_n 0, 1) := by decide +kernel
theorem dX12_sign_14 : decode cX12_sign 14 = .ok (.getfield 96, 3) := by decide +kernel
theorem dX12_sign_17 : decode cX12_sign 17 = .ok (.iload_n 1, 1) := by decide +kernel
theorem dX12_sign_18 : decode cX12_sign 18 = .ok (.aload_n 0, 1) := by decide +kernel
theorem dX12_sign_19 : decode cX12_sign 19 = .ok (.getfield 33, 3) := by decide +kernel
theorem dX12_sign_22 : decode cX12_sign 22 = .ok (.iload_n 1, 1) := by decide +kernel
theorem dX12_sign_23 : decode cX12_sign 23 = .ok (.iaload, 1) := by decide +kernel
theorem dX12_sign_24 : decode cX12_sign 24 = .ok (.iastore, 1) := by decide +kernel
theorem dX12_sign_25 : decode cX12_sign 25 = .ok (.iinc 1 1, 3) := by decide +kernel
theorem dX12_sign_28 : decode cX12_sign 28 = .ok (.goto (-21), 3) := by decide +kernel
theorem dX12_sign_31 : decode cX12_sign 31 = .ok (.iconst 0, 1) := by decide +kernel
theorem dX12_sign_32 : decode cX12_sign 32 = .ok (.istore_n 1, 1) := by decide +kernel
theorem dX12_sign_33 : decode cX12_sign 33 = .ok (.iconst 0, 1) := by decide +kernel
theorem dX12_sign_34 : decode cX12_sign 34 = .ok (.istore_n 2, 1) := by decide +kernel
theorem dX12_sign_35 : decode cX12_sign 35 = .ok (.iload_n 2, 1) := by decide +kernel
theorem dX12_sign_36 : decode cX12_sign 36 = .ok (.bipush 16, 2) := by decide +kernel
theorem dX12_sign_38 : decode cX12_sign 38 = .ok (.if_icmp .ge 51, 3) := by decide +kernel
theorem dX12_sign_41 : decode cX12_sign 41 = .ok (.iload_n 1, 1) := by decide +kernel
theorem dX12_sign_42 : decode cX12_sign 42 = .ok (.aload_n 0, 1) := by decide +kernel
theorem dX12_sign_43 : decode cX12_sign 43 = .ok (.getfield 33, 3) := by decide +kernel
theorem dX12_sign_46 : decode cX12_sign 46 = .ok (.iload_n 2, 1) := by decide +kernel
theorem dX12_sign_47 : decode cX12_sign 47 = .ok (.iaload, 1) := by decide +kernel
theorem dX12_sign_48 : decode cX12_sign 48 = .ok (.aload_n 0, 1) := by decide +kernel
theorem dX12_sign_49 : decode cX12_sign 49 = .ok (.getfield 33, 3) := by decide +kernel
theorem dX12_sign_52 : decode cX12_sign 52 = .ok (.bipush 16, 2) := by decide +kernel
theorem dX12_sign_54 : decode cX12_sign 54 = .ok (.iload_n 2, 1) := by decide +kernel
theorem dX12_sign_55 : decode cX12_sign 55 = .ok (.iadd, 1) := by decide +kernel
theorem dX12_sign_56 : decode cX12_sign 56 = .ok (.iaload, 1) := by decide +kernel
theorem dX12_sign_57 : decode cX12_sign 57 = .ok (.ior, 1) := by decide +kernel
theorem dX12_sign_58 : decode cX12_sign 58 = .ok (.aload_n 0, 1) := by decide +kernel
theorem dX12_sign_59 : decode cX12_sign 59 = .ok (.getfield 33, 3) := by decide +kernel
theorem dX12_sign_62 : decode cX12_sign 62 = .ok (.bipush 32, 2) := by decide +kernel
theorem dX12_sign_64 : decode cX12_sign 64 = .ok (.iload_n 2, 1) := by decide +kernel
theorem dX12_sign_65 : decode cX12_sign 65 = .ok (.iadd, 1) := by decide +kernel
theorem dX12_sign_66 : decode cX12_sign 66 = .ok (.iaload, 1) := by decide +kernel
theorem dX12_sign_67 : decode cX12_sign 67 = .ok (.ior, 1) := by decide +kernel
theorem dX12_sign_68 : decode cX12_sign 68 = .ok (.aload_n 0, 1) := by decide +kernel
theorem dX12_sign_69 : decode cX12_sign 69 = .ok (.getfield 33, 3) := by decide +kernel
theorem dX12_sign_72 : decode cX12_sign 72 = .ok (.bipush 48, 2) := by decide +kernel
theorem dX12_sign_74 : decode cX12_sign 74 = .ok (.iload_n 2, 1) := by decide +kernel
theorem dX12_sign_75 : decode cX12_sign 75 = .ok (.iadd, 1) := by decide +kernel
theorem dX12_sign_76 : decode cX12_sign 76 = .ok (.iaload, 1) := by decide +kernel
theorem dX12_sign_77 : decode cX12_sign 77 = .ok (.ior, 1) := by decide +kernel
theorem dX12_sign_78 : decode cX12_sign 78 = .ok (.invokestatic 316, 3) := by decide +kernel
theorem dX12_sign_81 : decode cX12_sign 81 = .ok (.iadd, 1) := by decide +kernel
theorem dX12_sign_82 : decode cX12_sign 82 = .ok (.istore_n 1, 1) := by decide +kernel
theorem dX12_sign_83 : decode cX12_sign 83 = .ok (.iinc 2 1, 3) := by decide +kernel
theorem dX12_sign_86 : decode cX12_sign 86 = .ok (.goto (-51), 3) := by decide +kernel
theorem dX12_sign_89 : decode cX12_sign 89 = .ok (.iload_n 1, 1) := by decide +kernel
theorem dX12_sign_90 : decode cX12_sign 90 = .ok (.ireturn, 1) := by decide +kernel
set_option maxRecDepth 20000 in
theorem sX12_sign_0 {P : Option Value → AH → Prop} (h : AH) (r0 : Nat) (hf : (isO h 12 r0) ∧ (Rr mX12_sign 0 0 7 [(0, .ref r0), (1, .int 0)] [] (sI h r0 51 1) P)) : Rr mX12_sign 0 0 0 [(0, .ref r0)] [] h P := by
  refine R_aload_n dX12_sign_0 rfl 0 rfl ?_
  refine R_iconst (v := 1) dX12_sign_1 (by decide) ?_
  obtain ⟨ob1, hf⟩ := hf
  refine S12_51 dX12_sign_2 lfX12_335 ob1 rfl rfl ?_
  refine R_iconst (v := 0) dX12_sign_5 (by decide) ?_
  refine R_istore_n dX12_sign_6 rfl (by decide) rfl ?_
  exact R_sub [1, 0] rfl hf
set_option maxRecDepth 20000 in
theorem sX12_sign_7 {P : Option Value → AH → Prop} (h : AH) (r0 : Nat) (x1 : Int32) (hf : (64 ≤ x1 → Rr mX12_sign 0 0 35 [(0, .ref r0), (1, .int 0), (2, .int 0)] [] h P) ∧ (¬ 64 ≤ x1 → (isO h 12 r0) ∧ ((isA h 0 (gF h r0 16)) ∧ ((vp_in x1 (ln (gF h r0 16))) ∧ ((isA h 0 (gF h r0 52)) ∧ ((vp_in x1 (ln (gF h r0 52))) ∧ (Rr mX12_sign 0 0 7 [(0, .ref r0), (1, .int (x1 + 1))] [] (sI h (gF h r0 52) x1.toNatClampNeg (gI h (gF h r0 16) x1.toNatClampNeg)) P))))))) : Rr mX12_sign 0 0 7 [(0, .ref r0), (1, .int x1)] [] h P := by
  refine R_iload_n dX12_sign_7 rfl 1 rfl ?_
  refine R_bipush (v := 64) dX12_sign_8 (by decide) ?_
  refine R_icmp_ge (tgt := 31) dX12_sign_10 (by decide) (fun b1 => ?_) (fun b1 => ?_)
  · have hf := hf.1 b1
    refine R_iconst (v := 0) dX12_sign_31 (by decide) ?_
    refine R_istore_n dX12_sign_32 rfl (by decide) rfl ?_
    refine R_iconst (v := 0) dX12_sign_33 (by decide) ?_
    refine R_istore_n dX12_sign_34 rfl (by decide) rfl ?_
    exact R_sub [2, 1, 0] rfl hf
  · have hf := hf.2 b1
    refine R_aload_n dX12_sign_13 rfl 0 rfl ?_
    obtain ⟨ob2, hf⟩ := hf
    refine G12_52 dX12_sign_14 lfX12_96 ob2 ?_
    refine R_iload_n dX12_sign_17 rfl 1 rfl ?_
    refine R_aload_n dX12_sign_18 rfl 0 rfl ?_
    refine G12_16 dX12_sign_19 lfX12_33 ob2 ?_
    refine R_iload_n dX12_sign_22 rfl 1 rfl ?_
    obtain ⟨ob3, hf⟩ := hf
    obtain ⟨ob4, hf⟩ := hf
    refine R_iaload dX12_sign_23 ob3 ob4 ?_
    obtain ⟨ob5, hf⟩ := hf
    obtain ⟨ob6, hf⟩ := hf
    refine R_iastore dX12_sign_24 ob5 ob6 ?_
    refine R_iinc (v := x1 + 1) dX12_sign_25 1 rfl rfl (by decide) rfl ?_
    refine R_goto (tgt := 7) dX12_sign_28 (by decide) ?_
    exact R_sub [1, 0] rfl hf
set_option maxRecDepth 20000 in
theorem sX12_sign_35 {P : Option Value → AH → Prop} (h : AH) (r0 : Nat) (x1 : Int32) (x2 : Int32) (hf : (16 ≤ x2 → P (some (.int x1)) h) ∧ (¬ 16 ≤ x2 → (isO h 12 r0) ∧ ((isA h 0 (gF h r0 16)) ∧ ((vp_in x2 (ln (gF h r0 16))) ∧ ((vp_in (16 + x2) (ln (gF h r0 16))) ∧ ((vp_in (32 + x2) (ln (gF h r0 16))) ∧ ((vp_in (48 + x2) (ln (gF h r0 16))) ∧ (Call mX12_bits [.int ((((gI h (gF h r0 16) x2.toNatClampNeg) ||| (gI h (gF h r0 16) (16 + x2).toNatClampNeg)) ||| (gI h (gF h r0 16) (32 + x2).toNatClampNeg)) ||| (gI h (gF h r0 16) (48 + x2).toNatClampNeg))] h (fun v h8 => ∃ z9 : Int32, v = some (.int z9) ∧ (Rr mX12_sign 0 0 35 [(0, .ref r0), (1, .int (x1 + z9)), (2, .int (x2 + 1))] [] h8 P)))))))))) : Rr mX12_sign 0 0 35 [(0, .ref r0), (1, .int x1), (2, .int x2)] [] h P := by
  refine R_iload_n dX12_sign_35 rfl 2 rfl ?_
  refine R_bipush (v := 16) dX12_sign_36 (by decide) ?_
  refine R_icmp_ge (tgt := 89) dX12_sign_38 (by decide) (fun b1 => ?_) (fun b1 => ?_)
  · have hf := hf.1 b1
    refine R_iload_n dX12_sign_89 rfl 1 rfl ?_
    exact R_iret dX12_sign_90 rfl rfl hf
  · have hf := hf.2 b1
    refine R_iload_n dX12_sign_41 rfl 1 rfl ?_
    refine R_aload_n dX12_sign_42 rfl 0 rfl ?_
    obtain ⟨ob2, hf⟩ := hf
    refine G12_16 dX12_sign_43 lfX12_33 ob2 ?_
    refine R_iload_n dX12_sign_46 rfl 2 rfl ?_
    obtain ⟨ob3, hf⟩ := hf
    obtain ⟨ob4, hf⟩ := hf
    refine R_iaload dX12_sign_47 ob3 ob4 ?_
    refine R_aload_n dX12_sign_48 rfl 0 rfl ?_
    refine G12_16 dX12_sign_49 lfX12_33 ob2 ?_
    refine R_bipush (v := 16) dX12_sign_52 (by decide) ?_
    refine R_iload_n dX12_sign_54 rfl 2 rfl ?_
    refine R_iadd dX12_sign_55 ?_
    obtain ⟨ob5, hf⟩ := hf
    refine R_iaload dX12_sign_56 ob3 ob5 ?_
    refine R_ior dX12_sign_57 ?_
    refine R_aload_n dX12_sign_58 rfl 0 rfl ?_
    refine G12_16 dX12_sign_59 lfX12_33 ob2 ?_
    refine R_bipush (v := 32) dX12_sign_62 (by decide) ?_
    refine R_iload_n dX12_sign_64 rfl 2 rfl ?_
    refine R_iadd dX12_sign_65 ?_
    obtain ⟨ob6, hf⟩ := hf
    refine R_iaload dX12_sign_66 ob3 ob6 ?_
    refine R_ior dX12_sign_67 ?_
    refine R_aload_n dX12_sign_68 rfl 0 rfl ?_
    refine G12_16 dX12_sign_69 lfX12_33 ob2 ?_
    refine R_bipush (v := 48) dX12_sign_72 (by decide) ?_
    refine R_iload_n dX12_sign_74 rfl 2 rfl ?_
    refine R_iadd dX12_sign_75 ?_
    obtain ⟨ob7, hf⟩ := hf
    refine R_iaload dX12_sign_76 ob3 ob7 ?_
    refine R_ior dX12_sign_77 ?_
    refine R_callS (N := mX12_bits) (as := [.int ((((gI h (gF h r0 16) x2.toNatClampNeg) ||| (gI h (gF h r0 16) (16 + x2).toNatClampNeg)) ||| (gI h (gF h r0 16) (32 + x2).toNatClampNeg)) ||| (gI h (gF h r0 16) (48 + x2).toNatClampNeg))]) (rest := [.int x1]) (kc2 := 0) (ks2 := 0) dX12_sign_78 lmX12_316 oX12_bits (Nat.le_of_ble_eq_true rfl) rfl rfl (Nat.le_of_ble_eq_true rfl) rfl rfl (Call.mono hf ?_)
    rintro _ h8 ⟨z9, rfl, hf⟩
    refine R_iadd dX12_sign_81 ?_
    refine R_istore_n dX12_sign_82 rfl (by decide) rfl ?_
    refine R_iinc (v := x2 + 1) dX12_sign_83 2 rfl rfl (by decide) rfl ?_
    refine R_goto (tgt := 35) dX12_sign_86 (by decide) ?_
    exact R_sub [2, 1, 0] rfl hf
theorem dX12_spreadTo_0 : decode cX12_spreadTo 0 = .ok (.iconst 0, 1) := by decide +kernel
theorem dX12_spreadTo_1 : decode cX12_spreadTo 1 = .ok (.istore 4, 2) := by decide +kernel
theorem dX12_spreadTo_3 : decode cX12_spreadTo 3 = .ok (.iload 4, 2) := by decide +kernel
theorem dX12_spreadTo_5 : decode cX12_spreadTo 5 = .ok (.bipush 16, 2) := by decide +kernel
theorem dX12_spreadTo_7 : decode cX12_spreadTo 7 = .ok (.if_icmp .ge 30, 3) := by decide +kernel
theorem dX12_spreadTo_10 : decode cX12_spreadTo 10 = .ok (.aload_n 0, 1) := by decide +kernel
theorem dX12_spreadTo_11 : decode cX12_spreadTo 11 = .ok (.getfield 93, 3) := by decide +kernel
theorem dX12_spreadTo_14 : decode cX12_spreadTo 14 = .ok (.iload_n 3, 1) := by decide +kernel
theorem dX12_spreadTo_15 : decode cX12_spreadTo 15 = .ok (.iload 4, 2) := by decide +kernel
theorem dX12_spreadTo_17 : decode cX12_spreadTo 17 = .ok (.iadd, 1) := by decide +kernel
theorem dX12_spreadTo_18 : decode cX12_spreadTo 18 = .ok (.aload_n 0, 1) := by decide +kernel
theorem dX12_spreadTo_19 : decode cX12_spreadTo 19 = .ok (.getfield 33, 3) := by decide +kernel
theorem dX12_spreadTo_22 : decode cX12_spreadTo 22 = .ok (.bipush 16, 2) := by decide +kernel
theorem dX12_spreadTo_24 : decode cX12_spreadTo 24 = .ok (.iload_n 1, 1) := by decide +kernel
theorem dX12_spreadTo_25 : decode cX12_spreadTo 25 = .ok (.imul, 1) := by decide +kernel
theorem dX12_spreadTo_26 : decode cX12_spreadTo 26 = .ok (.iload 4, 2) := by decide +kernel
theorem dX12_spreadTo_28 : decode cX12_spreadTo 28 = .ok (.iadd, 1) := by decide +kernel
theorem dX12_spreadTo_29 : decode cX12_spreadTo 29 = .ok (.iaload, 1) := by decide +kernel
theorem dX12_spreadTo_30 : decode cX12_spreadTo 30 = .ok (.iastore, 1) := by decide +kernel
theorem dX12_spreadTo_31 : decode cX12_spreadTo 31 = .ok (.iinc 4 1, 3) := by decide +kernel
theorem dX12_spreadTo_34 : decode cX12_spreadTo 34 = .ok (.goto (-31), 3) := by decide +kernel
theorem dX12_spreadTo_37 : decode cX12_spreadTo 37 = .ok (.iconst 0, 1) := by decide +kernel
theorem dX12_spreadTo_38 : decode cX12_spreadTo 38 = .ok (.istore 4, 2) := by decide +kernel
theorem dX12_spreadTo_40 : decode cX12_spreadTo 40 = .ok (.iload 4, 2) := by decide +kernel
theorem dX12_spreadTo_42 : decode cX12_spreadTo 42 = .ok (.iload_n 2, 1) := by decide +kernel
theorem dX12_spreadTo_43 : decode cX12_spreadTo 43 = .ok (.invokestatic 276, 3) := by decide +kernel
theorem dX12_spreadTo_46 : decode cX12_spreadTo 46 = .ok (.if_icmp .ge 219, 3) := by decide +kernel
theorem dX12_spreadTo_49 : decode cX12_spreadTo 49 = .ok (.iconst 0, 1) := by decide +kernel
theorem dX12_spreadTo_50 : decode cX12_spreadTo 50 = .ok (.istore 5, 2) := by decide +kernel
theorem dX12_spreadTo_52 : decode cX12_spreadTo 52 = .ok (.iload 5, 2) := by decide +kernel
theorem dX12_spreadTo_54 : decode cX12_spreadTo 54 = .ok (.bipush 16, 2) := by decide +kernel
theorem dX12_spreadTo_56 : decode cX12_spreadTo 56 = .ok (.if_icmp .ge 168, 3) := by decide +kernel
theorem dX12_spreadTo_59 : decode cX12_spreadTo 59 = .ok (.aload_n 0, 1) := by decide +kernel
theorem dX12_spreadTo_60 : decode cX12_spreadTo 60 = .ok (.getfield 93, 3) := by decide +kernel
theorem dX12_spreadTo_63 : decode cX12_spreadTo 63 = .ok (.iload_n 3, 1) := by decide +kernel
theorem dX12_spreadTo_64 : decode cX12_spreadTo 64 = .ok (.iload 5, 2) := by decide +kernel
theorem dX12_spreadTo_66 : decode cX12_spreadTo 66 = .ok (.iadd, 1) := by decide +kernel
theorem dX12_spreadTo_67 : decode cX12_spreadTo 67 = .ok (.iaload, 1) := by decide +kernel
theorem dX12_spreadTo_68 : decode cX12_spreadTo 68 = .ok (.istore 6, 2) := by decide +kernel
theorem dX12_spreadTo_70 : decode cX12_spreadTo 70 = .ok (.iload 5, 2) := by decide +kernel
theorem dX12_spreadTo_72 : decode cX12_spreadTo 72 = .ok (.iconst 1, 1) := by decide +kernel
theorem dX12_spreadTo_73 : decode cX12_spreadTo 73 = .ok (.iadd, 1) := by decide +kernel
theorem dX12_spreadTo_74 : decode cX12_spreadTo 74 = .ok (.bipush 16, 2) := by decide +kernel
theorem dX12_spreadTo_76 : decode cX12_spreadTo 76 = .ok (.if_icmp .ge 17, 3) := by decide +kernel
theorem dX12_spreadTo_79 : decode cX12_spreadTo 79 = .ok (.aload_n 0, 1) := by decide +kernel
theorem dX12_spreadTo_80 : decode cX12_spreadTo 80 = .ok (.getfield 93, 3) := by decide +kernel
theorem dX12_spreadTo_83 : decode cX12_spreadTo 83 = .ok (.iload_n 3, 1) := by decide +kernel
theorem dX12_spreadTo_84 : decode cX12_spreadTo 84 = .ok (.iload 5, 2) := by decide +kernel
theorem dX12_spreadTo_86 : decode cX12_spreadTo 86 = .ok (.iadd, 1) := by decide +kernel
theorem dX12_spreadTo_87 : decode cX12_spreadTo 87 = .ok (.iconst 1, 1) := by decide +kernel
theorem dX12_spreadTo_88 : decode cX12_spreadTo 88 = .ok (.iadd, 1) := by decide +kernel
theorem dX12_spreadTo_89 : decode cX12_spreadTo 89 = .ok (.iaload, 1) := by decide +kernel
theorem dX12_spreadTo_90 : decode cX12_spreadTo 90 = .ok (.goto 13, 3) := by decide +kernel
theorem dX12_spreadTo_93 : decode cX12_spreadTo 93 = .ok (.iload_n 2, 1) := by decide +kernel
theorem dX12_spreadTo_94 : decode cX12_spreadTo 94 = .ok (.ifCond .le 7, 3) := by decide +kernel
theorem dX12_spreadTo_97 : decode cX12_spreadTo 97 = .ok (.iconst 0, 1) := by decide +kernel
theorem dX12_spreadTo_98 : decode cX12_spreadTo 98 = .ok (.goto 5, 3) := by decide +kernel
theorem dX12_spreadTo_101 : decode cX12_spreadTo 101 = .ok (.ldc 228, 2) := by decide +kernel
theorem dX12_spreadTo_103 : decode cX12_spreadTo 103 = .ok (.istore 7, 2) := by decide +kernel
theorem dX12_spreadTo_105 : decode cX12_spreadTo 105 = .ok (.iload 5, 2) := by decide +kernel
theorem dX12_spreadTo_107 : decode cX12_spreadTo 107 = .ok (.ifCond .le 17, 3) := by decide +kernel
theorem dX12_spreadTo_110 : decode cX12_spreadTo 110 = .ok (.aload_n 0, 1) := by decide +kernel
theorem dX12_spreadTo_111 : decode cX12_spreadTo 111 = .ok (.getfield 93, 3) := by decide +kernel
theorem dX12_spreadTo_114 : decode cX12_spreadTo 114 = .ok (.iload_n 3, 1) := by decide +kernel
theorem dX12_spreadTo_115 : decode cX12_spreadTo 115 = .ok (.iload 5, 2) := by decide +kernel
theorem dX12_spreadTo_117 : decode cX12_spreadTo 117 = .ok (.iadd, 1) := by decide +kernel
theorem dX12_spreadTo_118 : decode cX12_spreadTo 118 = .ok (.iconst 1, 1) := by decide +kernel
theorem dX12_spreadTo_119 : decode cX12_spreadTo 119 = .ok (.isub, 1) := by decide +kernel
theorem dX12_spreadTo_120 : decode cX12_spreadTo 120 = .ok (.iaload, 1) := by decide +kernel
theorem dX12_spreadTo_121 : decode cX12_spreadTo 121 = .ok (.goto 13, 3) := by decide +kernel
theorem dX12_spreadTo_124 : decode cX12_spreadTo 124 = .ok (.iload_n 2, 1) := by decide +kernel
theorem dX12_spreadTo_125 : decode cX12_spreadTo 125 = .ok (.ifCond .le 7, 3) := by decide +kernel
theorem dX12_spreadTo_128 : decode cX12_spreadTo 128 = .ok (.iconst 0, 1) := by decide +kernel
theorem dX12_spreadTo_129 : decode cX12_spreadTo 129 = .ok (.goto 5, 3) := by decide +kernel
theorem dX12_spreadTo_132 : decode cX12_spreadTo 132 = .ok (.ldc 228, 2) := by decide +kernel
theorem dX12_spreadTo_134 : decode cX12_spreadTo 134 = .ok (.istore 8, 2) := by decide +kernel
theorem dX12_spreadTo_136 : decode cX12_spreadTo 136 = .ok (.iload 6, 2) := by decide +kernel
theorem dX12_spreadTo_138 : decode cX12_spreadTo 138 = .ok (.iconst 1, 1) := by decide +kernel
theorem dX12_spreadTo_139 : decode cX12_spreadTo 139 = .ok (.ishr, 1) := by decide +kernel
theorem dX12_spreadTo_140 : decode cX12_spreadTo 140 = .ok (.iload_n 2, 1) := by decide +kernel
theorem dX12_spreadTo_141 : decode cX12_spreadTo 141 = .ok (.ifCond .le 7, 3) := by decide +kernel
theorem dX12_spreadTo_144 : decode cX12_spreadTo 144 = .ok (.iconst 0, 1) := by decide +kernel
theorem dX12_spreadTo_145 : decode cX12_spreadTo 145 = .ok (.goto 6, 3) := by decide +kernel
theorem dX12_spreadTo_148 : decode cX12_spreadTo 148 = .ok (.ldc_w 299, 3) := by decide +kernel
theorem dX12_spreadTo_151 : decode cX12_spreadTo 151 = .ok (.ior, 1) := by decide +kernel
theorem dX12_spreadTo_152 : decode cX12_spreadTo 152 = .ok (.istore 9, 2) := by decide +kernel
theorem dX12_spreadTo_154 : decode cX12_spreadTo 154 = .ok (.iload 6, 2) := by decide +kernel
theorem dX12_spreadTo_156 : decode cX12_spreadTo 156 = .ok (.iconst 1, 1) := by decide +kernel
theorem dX12_spreadTo_157 : decode cX12_spreadTo 157 = .ok (.ishl, 1) := by decide +kernel
theorem dX12_spreadTo_158 : decode cX12_spreadTo 158 = .ok (.ldc 228, 2) := by decide +kernel
theorem dX12_spreadTo_160 : decode cX12_spreadTo 160 = .ok (.iand, 1) := by decide +kernel
theorem dX12_spreadTo_161 : decode cX12_spreadTo 161 = .ok (.iload_n 2, 1) := by decide +kernel
theorem dX12_spreadTo_162 : decode cX12_spreadTo 162 = .ok (.ifCond .le 7, 3) := by decide +kernel
theorem dX12_spreadTo_165 : decode cX12_spreadTo 165 = .ok (.iconst 0, 1) := by decide +kernel
theorem dX12_spreadTo_166 : decode cX12_spreadTo 166 = .ok (.goto 4, 3) := by decide +kernel
theorem dX12_spreadTo_169 : decode cX12_spreadTo 169 = .ok (.iconst 1, 1) := by decide +kernel
theorem dX12_spreadTo_170 : decode cX12_spreadTo 170 = .ok (.ior, 1) := by decide +kernel
theorem dX12_spreadTo_171 : decode cX12_spreadTo 171 = .ok (.istore 10, 2) := by decide +kernel
theorem dX12_spreadTo_173 : decode cX12_spreadTo 173 = .ok (.aload_n 0, 1) := by decide +kernel
theorem dX12_spreadTo_174 : decode cX12_spreadTo 174 = .ok (.getfield 93, 3) := by decide +kernel
theorem dX12_spreadTo_177 : decode cX12_spreadTo 177 = .ok (.bipush 32, 2) := by decide +kernel
theorem dX12_spreadTo_179 : decode cX12_spreadTo 179 = .ok (.iload 5, 2) := by decide +kernel
theorem dX12_spreadTo_181 : decode cX12_spreadTo 181 = .ok (.iadd, 1) := by decide +kernel
theorem dX12_spreadTo_182 : decode cX12_spreadTo 182 = .ok (.iload_n 2, 1) := by decide +kernel
theorem dX12_spreadTo_183 : decode cX12_spreadTo 183 = .ok (.ifCond .le 20, 3) := by decide +kernel
theorem dX12_spreadTo_186 : decode cX12_spreadTo 186 = .ok (.iload 6, 2) := by decide +kernel
theorem dX12_spreadTo_188 : decode cX12_spreadTo 188 = .ok (.iload 7, 2) := by decide +kernel
theorem dX12_spreadTo_190 : decode cX12_spreadTo 190 = .ok (.ior, 1) := by decide +kernel
theorem dX12_spreadTo_191 : decode cX12_spreadTo 191 = .ok (.iload 8, 2) := by decide +kernel
theorem dX12_spreadTo_193 : decode cX12_spreadTo 193 = .ok (.ior, 1) := by decide +kernel
theorem dX12_spreadTo_194 : decode cX12_spreadTo 194 = .ok (.iload 9, 2) := by decide +kernel
theorem dX12_spreadTo_196 : decode cX12_spreadTo 196 = .ok (.ior, 1) := by decide +kernel
theorem dX12_spreadTo_197 : decode cX12_spreadTo 197 = .ok (.iload 10, 2) := by decide +kernel
theorem dX12_spreadTo_199 : decode cX12_spreadTo 199 = .ok (.ior, 1) := by decide +kernel
theorem dX12_spreadTo_200 : decode cX12_spreadTo 200 = .ok (.goto 17, 3) := by decide +kernel
theorem dX12_spreadTo_203 : decode cX12_spreadTo 203 = .ok (.iload 6, 2) := by decide +kernel
theorem dX12_spreadTo_205 : decode cX12_spreadTo 205 = .ok (.iload 7, 2) := by decide +kernel
theorem dX12_spreadTo_207 : decode cX12_spreadTo 207 = .ok (.iand, 1) := by decide +kernel
theorem dX12_spreadTo_208 : decode cX12_spreadTo 208 = .ok (.iload 8, 2) := by decide +kernel
theorem dX12_spreadTo_210 : decode cX12_spreadTo 210 = .ok (.iand, 1) := by decide +kernel
theorem dX12_spreadTo_211 : decode cX12_spreadTo 211 = .ok (.iload 9, 2) := by decide +kernel
theorem dX12_spreadTo_213 : decode cX12_spreadTo 213 = .ok (.iand, 1) := by decide +kernel
theorem dX12_spreadTo_214 : decode cX12_spreadTo 214 = .ok (.iload 10, 2) := by decide +kernel
theorem dX12_spreadTo_216 : decode cX12_spreadTo 216 = .ok (.iand, 1) := by decide +kernel
theorem dX12_spreadTo_217 : decode cX12_spreadTo 217 = .ok (.iastore, 1) := by decide +kernel
theorem dX12_spreadTo_218 : decode cX12_spreadTo 218 = .ok (.iinc 5 1, 3) := by decide +kernel
theorem dX12_spreadTo_221 : decode cX12_spreadTo 221 = .ok (.goto (-169), 3) := by decide +kernel
theorem dX12_spreadTo_224 : decode cX12_spreadTo 224 = .ok (.iconst 0, 1) := by decide +kernel
theorem dX12_spreadTo_225 : decode cX12_spreadTo 225 = .ok (.istore 5, 2) := by decide +kernel
theorem dX12_spreadTo_227 : decode cX12_spreadTo 227 = .ok (.iload 5, 2) := by decide +kernel
theorem dX12_spreadTo_229 : decode cX12_spreadTo 229 = .ok (.bipush 16, 2) := by decide +kernel
theorem dX12_spreadTo_231 : decode cX12_spreadTo 231 = .ok (.if_icmp .ge 28, 3) := by decide +kernel
theorem dX12_spreadTo_234 : decode cX12_spreadTo 234 = .ok (.aload_n 0, 1) := by decide +kernel
theorem dX12_spreadTo_235 : decode cX12_spreadTo 235 = .ok (.getfield 93, 3) := by decide +kernel
theorem dX12_spreadTo_238 : decode cX12_spreadTo 238 = .ok (.iload_n 3, 1) := by decide +kernel
theorem dX12_spreadTo_239 : decode cX12_spreadTo 239 = .ok (.iload 5, 2) := by decide +kernel
theorem dX12_spreadTo_241 : decode cX12_spreadTo 241 = .ok (.iadd, 1) := by decide +kernel
theorem dX12_spreadTo_242 : decode cX12_spreadTo 242 = .ok (.aload_n 0, 1) := by decide +kernel
theorem dX12_spreadTo_243 : decode cX12_spreadTo 243 = .ok (.getfield 93, 3) := by decide +kernel
theorem dX12_spreadTo_246 : decode cX12_spreadTo 246 = .ok (.bipush 32, 2) := by decide +kernel
theorem dX12_spreadTo_248 : decode cX12_spreadTo 248 = .ok (.iload 5, 2) := by decide +kernel
theorem dX12_spreadTo_250 : decode cX12_spreadTo 250 = .ok (.iadd, 1) := by decide +kernel
theorem dX12_spreadTo_251 : decode cX12_spreadTo 251 = .ok (.iaload, 1) := by decide +kernel
theorem dX12_spreadTo_252 : decode cX12_spreadTo 252 = .ok (.iastore, 1) := by decide +kernel
theorem dX12_spreadTo_253 : decode cX12_spreadTo 253 = .ok (.iinc 5 1, 3) := by decide +kernel
theorem dX12_spreadTo_256 : decode cX12_spreadTo 256 = .ok (.goto (-29), 3) := by decide +kernel
theorem dX12_spreadTo_259 : decode cX12_spreadTo 259 = .ok (.iinc 4 1, 3) := by decide +kernel
theorem dX12_spreadTo_262 : decode cX12_spreadTo 262 = .ok (.goto (-222), 3) := by decide +kernel
theorem dX12_spreadTo_265 : decode cX12_spreadTo 265 = .ok (.return_, 1) := by decide +kernel
set_option maxRecDepth 20000 in
theorem sX12_spreadTo_0 {P : Option Value → AH → Prop} (h : AH) (r0 : Nat) (x1 : Int32) (x2 : Int32) (x3 : Int32) (hf : Rr mX12_spreadTo 0 0 3 [(0, .ref r0), (1, .int x1), (2, .int x2), (3, .int x3), (4, .int 0)] [] h P) : Rr mX12_spreadTo 0 0 0 [(0, .ref r0), (1, .int x1), (2, .int x2), (3, .int x3)] [] h P := by
  refine R_iconst (v := 0) dX12_spreadTo_0 (by decide) ?_
  refine R_istore dX12_spreadTo_1 (by decide) rfl ?_
  exact R_sub [1, 2, 3, 4, 0] rfl hf
set_option maxRecDepth 20000 in
theorem sX12_spreadTo_3 {P : Option Value → AH → Prop} (h : AH) (r0 : Nat) (x1 : Int32) (x2 : Int32) (x3 : Int32) (x4 : Int32) (hf : (16 ≤ x4 → Rr mX12_spreadTo 0 0 40 [(0, .ref r0), (2, .int x2), (3, .int x3), (4, .int 0)] [] h P) ∧ (¬ 16 ≤ x4 → (isO h 12 r0) ∧ ((isA h 0 (gF h r0 16)) ∧ ((vp_in ((16 * x1) + x4) (ln (gF h r0 16))) ∧ ((isA h 0 (gF h r0 45)) ∧ ((vp_in (x3 + x4) (ln (gF h r0 45))) ∧ (Rr mX12_spreadTo 0 0 3 [(0, .ref r0), (1, .int x1), (2, .int x2), (3, .int x3), (4, .int (x4 + 1))] [] (sI h (gF h r0 45) (x3 + x4).toNatClampNeg (gI h (gF h r0 16) ((16 * x1) + x4).toNatClampNeg)) P))))))) : Rr mX12_spreadTo 0 0 3 [(0, .ref r0), (1, .int x1), (2, .int x2), (3, .int x3), (4, .int x4)] [] h P := by
  refine R_iload dX12_spreadTo_3 4 rfl ?_
  refine R_bipush (v := 16) dX12_spreadTo_5 (by decide) ?_
  refine R_icmp_ge (tgt := 37) dX12_spreadTo_7 (by decide) (fun b1 => ?_) (fun b1 => ?_)
  · have hf := hf.1 b1
    refine R_iconst (v := 0) dX12_spreadTo_37 (by decide) ?_
    refine R_istore dX12_spreadTo_38 (by decide) rfl ?_
    exact R_sub [1, 3, 4, 0] rfl hf
  · have hf := hf.2 b1
    refine R_aload_n dX12_spreadTo_10 rfl 0 rfl ?_
    obtain ⟨ob2, hf⟩ := hf
    refine G12_45 dX12_spreadTo_11 lfX12_93 ob2 ?_
    refine R_iload_n dX12_spreadTo_14 rfl 3 rfl ?_
    refine R_iload dX12_spreadTo_15 4 rfl ?_
    refine R_iadd dX12_spreadTo_17 ?_
    refine R_aload_n dX12_spreadTo_18 rfl 0 rfl ?_
    refine G12_16 dX12_spreadTo_19 lfX12_33 ob2 ?_
    refine R_bipush (v := 16) dX12_spreadTo_22 (by decide) ?_
    refine R_iload_n dX12_spreadTo_24 rfl 1 rfl ?_
    refine R_imul dX12_spreadTo_25 ?_
    refine R_iload dX12_spreadTo_26 4 rfl ?_
    refine R_iadd dX12_spreadTo_28 ?_
    obtain ⟨ob3, hf⟩ := hf
    obtain ⟨ob4, hf⟩ := hf
    refine R_iaload dX12_spreadTo_29 ob3 ob4 ?_
    obtain ⟨ob5, hf⟩ := hf
    obtain ⟨ob6, hf⟩ := hf
    refine R_iastore dX12_spreadTo_30 ob5 ob6 ?_
    refine R_iinc (v := x4 + 1) dX12_spreadTo_31 4 rfl rfl (by decide) rfl ?_
    refine R_goto (tgt := 3) dX12_spreadTo_34 (by decide) ?_
    exact R_sub [1, 2, 3, 4, 0] rfl hf
set_option maxRecDepth 20000 in
theorem sX12_spreadTo_40 {P : Option Value → AH → Prop} (h : AH) (r0 : Nat) (x2 : Int32) (x3 : Int32) (x4 : Int32) (hf : ((if 0 ≤ x2 then x2 else (-x2)) ≤ x4 → P none h) ∧ (¬ (if 0 ≤ x2 then x2 else (-x2)) ≤ x4 → Rr mX12_spreadTo 0 0 52 [(0, .ref r0), (2, .int x2), (3, .int x3), (4, .int x4), (5, .int 0)] [] h P)) : Rr mX12_spreadTo 0 0 40 [(0, .ref r0), (2, .int x2), (3, .int x3), (4, .int x4)] [] h P := by
  refine R_iload dX12_spreadTo_40 3 rfl ?_
  refine R_iload_n dX12_spreadTo_42 rfl 1 rfl ?_
  refine R_callS (N := mX12_plain) (as := [.int x2]) (rest := [.int x4]) (kc2 := 0) (ks2 := 0) dX12_spreadTo_43 lmX12_276 oX12_plain (Nat.le_of_ble_eq_true rfl) rfl rfl (Nat.le_of_ble_eq_true rfl) rfl rfl (aX12_plain  ?_)
  refine R_icmp_ge (tgt := 265) dX12_spreadTo_46 (by decide) (fun b1 => ?_) (fun b1 => ?_)
  · have hf := hf.1 b1
    exact R_ret dX12_spreadTo_265 rfl hf
  · have hf := hf.2 b1
    refine R_iconst (v := 0) dX12_spreadTo_49 (by decide) ?_
    refine R_istore dX12_spreadTo_50 (by decide) rfl ?_
    exact R_sub [1, 2, 3, 4, 0] rfl hf
set_option maxRecDepth 20000 in
theorem sX12_spreadTo_52 {P : Option Value → AH → Prop} (h : AH) (r0 : Nat) (x2 : Int32) (x3 : Int32) (x4 : Int32) (x5 : Int32) (hf : (16 ≤ x5 → Rr mX12_spreadTo 0 0 227 [(0, .ref r0), (2, .int x2), (3, .int x3), (4, .int x4), (5, .int 0)] [] h P) ∧ (¬ 16 ≤ x5 → (isO h 12 r0) ∧ ((isA h 0 (gF h r0 45)) ∧ ((vp_in (x3 + x5) (ln (gF h r0 45))) ∧ ((¬ 16 ≤ (x5 + 1) → vp_in ((x3 + x5) + 1) (ln (gF h r0 45))) ∧ (∀ z8 : Int32, z8 = (if 16 ≤ (x5 + 1) then (if x2 ≤ 0 then 65535 else 0) else (gI h (gF h r0 45) ((x3 + x5) + 1).toNatClampNeg)) → ((¬ x5 ≤ 0 → vp_in ((x3 + x5) - 1) (ln (gF h r0 45))) ∧ (∀ z12 : Int32, z12 = (if x5 ≤ 0 then (if x2 ≤ 0 then 65535 else 0) else (gI h (gF h r0 45) ((x3 + x5) - 1).toNatClampNeg)) → (∀ z14 : Int32, z14 = (if x2 ≤ 0 then 32768 else 0) → (∀ v16 : Int32, v16 = ((((gI h (gF h r0 45) (x3 + x5).toNatClampNeg) <<< ((1 : Int32) &&& 31)) &&& 65535) ||| (bi (x2 ≤ 0))) → (∀ z18 : Int32, z18 = (if x2 ≤ 0 then (((((gI h (gF h r0 45) (x3 + x5).toNatClampNeg) &&& z8) &&& z12) &&& (((gI h (gF h r0 45) (x3 + x5).toNatClampNeg) >>> ((1 : Int32) &&& 31)) ||| z14)) &&& v16) else (((((gI h (gF h r0 45) (x3 + x5).toNatClampNeg) ||| z8) ||| z12) ||| (((gI h (gF h r0 45) (x3 + x5).toNatClampNeg) >>> ((1 : Int32) &&& 31)) ||| z14)) ||| v16)) → ((vp_in (32 + x5) (ln (gF h r0 45))) ∧ (Rr mX12_spreadTo 0 0 52 [(0, .ref r0), (2, .int x2), (3, .int x3), (4, .int x4), (5, .int (x5 + 1))] [] (sI h (gF h r0 45) (32 + x5).toNatClampNeg z18) P))))))))))))) : Rr mX12_spreadTo 0 0 52 [(0, .ref r0), (2, .int x2), (3, .int x3), (4, .int x4), (5, .int x5)] [] h P := by
  refine R_iload dX12_spreadTo_52 4 rfl ?_
  refine R_bipush (v := 16) dX12_spreadTo_54 (by decide) ?_
  refine R_icmp_ge (tgt := 224) dX12_spreadTo_56 (by decide) (fun b1 => ?_) (fun b1 => ?_)
  · have hf := hf.1 b1
    refine R_iconst (v := 0) dX12_spreadTo_224 (by decide) ?_
    refine R_istore dX12_spreadTo_225 (by decide) rfl ?_
    exact R_sub [1, 2, 3, 4, 0] rfl hf
  · have hf := hf.2 b1
    refine R_aload_n dX12_spreadTo_59 rfl 0 rfl ?_
    obtain ⟨ob2, hf⟩ := hf
    refine G12_45 dX12_spreadTo_60 lfX12_93 ob2 ?_
    refine R_iload_n dX12_spreadTo_63 rfl 2 rfl ?_
    refine R_iload dX12_spreadTo_64 4 rfl ?_
    refine R_iadd dX12_spreadTo_66 ?_
    obtain ⟨ob3, hf⟩ := hf
    obtain ⟨ob4, hf⟩ := hf
    refine R_iaload dX12_spreadTo_67 ob3 ob4 ?_
    refine R_istore dX12_spreadTo_68 (by decide) rfl ?_
    refine R_iload dX12_spreadTo_70 5 rfl ?_
    refine R_iconst (v := 1) dX12_spreadTo_72 (by decide) ?_
    refine R_iadd dX12_spreadTo_73 ?_
    refine R_bipush (v := 16) dX12_spreadTo_74 (by decide) ?_
    obtain ⟨ob7, hf⟩ := hf
    have key : ∀ z8 : Int32, z8 = (if 16 ≤ (x5 + 1) then (if x2 ≤ 0 then 65535 else 0) else (gI h (gF h r0 45) ((x3 + x5) + 1).toNatClampNeg)) → Rr mX12_spreadTo 0 0 103 [(0, .ref r0), (2, .int x2), (3, .int x3), (4, .int x4), (5, .int x5), (6, .int (gI h (gF h r0 45) (x3 + x5).toNatClampNeg))] [.int z8] h P := by
      intro z8 ez8
      have hf := hf z8 ez8
      refine R_istore dX12_spreadTo_103 (by decide) rfl ?_
      refine R_iload dX12_spreadTo_105 5 rfl ?_
      obtain ⟨ob11, hf⟩ := hf
      have key : ∀ z12 : Int32, z12 = (if x5 ≤ 0 then (if x2 ≤ 0 then 65535 else 0) else (gI h (gF h r0 45) ((x3 + x5) - 1).toNatClampNeg)) → Rr mX12_spreadTo 0 0 134 [(0, .ref r0), (2, .int x2), (3, .int x3), (4, .int x4), (5, .int x5), (6, .int (gI h (gF h r0 45) (x3 + x5).toNatClampNeg)), (7, .int z8)] [.int z12] h P := by
        intro z12 ez12
        have hf := hf z12 ez12
        refine R_istore dX12_spreadTo_134 (by decide) rfl ?_
        refine R_iload dX12_spreadTo_136 6 rfl ?_
        refine R_iconst (v := 1) dX12_spreadTo_138 (by decide) ?_
        refine R_ishr dX12_spreadTo_139 ?_
        refine R_iload_n dX12_spreadTo_140 rfl 2 rfl ?_
        have key : ∀ z14 : Int32, z14 = (if x2 ≤ 0 then 32768 else 0) → Rr mX12_spreadTo 0 0 151 [(0, .ref r0), (2, .int x2), (3, .int x3), (4, .int x4), (5, .int x5), (6, .int (gI h (gF h r0 45) (x3 + x5).toNatClampNeg)), (7, .int z8), (8, .int z12)] [.int z14, .int ((gI h (gF h r0 45) (x3 + x5).toNatClampNeg) >>> ((1 : Int32) &&& 31))] h P := by
          intro z14 ez14
          have hf := hf z14 ez14
          refine R_ior dX12_spreadTo_151 ?_
          refine R_istore dX12_spreadTo_152 (by decide) rfl ?_
          refine R_iload dX12_spreadTo_154 6 rfl ?_
          refine R_iconst (v := 1) dX12_spreadTo_156 (by decide) ?_
          refine R_ishl dX12_spreadTo_157 ?_
          refine R_ldc (v := 65535) dX12_spreadTo_158 lcX12_228 ?_
          refine R_iand dX12_spreadTo_160 ?_
          refine R_iload_n dX12_spreadTo_161 rfl 2 rfl ?_
          have key :  Rr mX12_spreadTo 0 0 170 [(0, .ref r0), (2, .int x2), (3, .int x3), (4, .int x4), (5, .int x5), (6, .int (gI h (gF h r0 45) (x3 + x5).toNatClampNeg)), (7, .int z8), (8, .int z12), (9, .int (((gI h (gF h r0 45) (x3 + x5).toNatClampNeg) >>> ((1 : Int32) &&& 31)) ||| z14))] [.int (bi (x2 ≤ 0)), .int (((gI h (gF h r0 45) (x3 + x5).toNatClampNeg) <<< ((1 : Int32) &&& 31)) &&& 65535)] h P := by
            refine R_ior dX12_spreadTo_170 ?_
            refine R_topi (fun v16 ev16 => ?_)
            have hf := hf v16 ev16
            refine R_istore dX12_spreadTo_171 (by decide) rfl ?_
            refine R_aload_n dX12_spreadTo_173 rfl 1 rfl ?_
            refine G12_45 dX12_spreadTo_174 lfX12_93 ob2 ?_
            refine R_bipush (v := 32) dX12_spreadTo_177 (by decide) ?_
            refine R_iload dX12_spreadTo_179 5 rfl ?_
            refine R_iadd dX12_spreadTo_181 ?_
            refine R_iload_n dX12_spreadTo_182 rfl 2 rfl ?_
            have key : ∀ z18 : Int32, z18 = (if x2 ≤ 0 then (((((gI h (gF h r0 45) (x3 + x5).toNatClampNeg) &&& z8) &&& z12) &&& (((gI h (gF h r0 45) (x3 + x5).toNatClampNeg) >>> ((1 : Int32) &&& 31)) ||| z14)) &&& v16) else (((((gI h (gF h r0 45) (x3 + x5).toNatClampNeg) ||| z8) ||| z12) ||| (((gI h (gF h r0 45) (x3 + x5).toNatClampNeg) >>> ((1 : Int32) &&& 31)) ||| z14)) ||| v16)) → Rr mX12_spreadTo 0 0 217 [(0, .ref r0), (2, .int x2), (3, .int x3), (4, .int x4), (5, .int x5)] [.int z18, .int (32 + x5), .ref (gF h r0 45)] h P := by
              intro z18 ez18
              have hf := hf z18 ez18
              obtain ⟨ob19, hf⟩ := hf
              refine R_iastore dX12_spreadTo_217 ob3 ob19 ?_
              refine R_iinc (v := x5 + 1) dX12_spreadTo_218 4 rfl rfl (by decide) rfl ?_
              refine R_goto (tgt := 52) dX12_spreadTo_221 (by decide) ?_
              exact R_sub [1, 2, 3, 4, 0] rfl hf
            refine R_if_le (tgt := 203) dX12_spreadTo_183 (by decide) (fun b17 => ?_) (fun b17 => ?_)
            · refine R_iload dX12_spreadTo_203 6 rfl ?_
              refine R_iload dX12_spreadTo_205 7 rfl ?_
              refine R_iand dX12_spreadTo_207 ?_
              refine R_iload dX12_spreadTo_208 8 rfl ?_
              refine R_iand dX12_spreadTo_210 ?_
              refine R_iload dX12_spreadTo_211 9 rfl ?_
              refine R_iand dX12_spreadTo_213 ?_
              refine R_iload dX12_spreadTo_214 0 rfl ?_
              refine R_iand dX12_spreadTo_216 ?_
              exact R_sub [1, 2, 3, 4, 5] rfl (key _ (by rw [if_pos b17]))
            · refine R_iload dX12_spreadTo_186 6 rfl ?_
              refine R_iload dX12_spreadTo_188 7 rfl ?_
              refine R_ior dX12_spreadTo_190 ?_
              refine R_iload dX12_spreadTo_191 8 rfl ?_
              refine R_ior dX12_spreadTo_193 ?_
              refine R_iload dX12_spreadTo_194 9 rfl ?_
              refine R_ior dX12_spreadTo_196 ?_
              refine R_iload dX12_spreadTo_197 0 rfl ?_
              refine R_ior dX12_spreadTo_199 ?_
              refine R_goto (tgt := 217) dX12_spreadTo_200 (by decide) ?_
              exact R_sub [1, 2, 3, 4, 5] rfl (key _ (by rw [if_neg b17]))
          refine R_if_le (tgt := 169) dX12_spreadTo_162 (by decide) (fun b15 => ?_) (fun b15 => ?_)
          · refine R_iconst (v := 1) dX12_spreadTo_169 (by decide) ?_
            have kb := key
            rw [show bi (x2 ≤ 0) = 1 from by simp only [bi, b15, false_and, and_false, true_and, and_true, not_true_eq_false, not_false_eq_true, if_true, if_false, true_or, or_true, false_or, or_false, reduceIte]] at kb
            exact R_sub [1, 2, 3, 4, 5, 6, 7, 8, 0] rfl kb
          · refine R_iconst (v := 0) dX12_spreadTo_165 (by decide) ?_
            refine R_goto (tgt := 170) dX12_spreadTo_166 (by decide) ?_
            have kb := key
            rw [show bi (x2 ≤ 0) = 0 from by simp only [bi, b15, false_and, and_false, true_and, and_true, not_true_eq_false, not_false_eq_true, if_true, if_false, true_or, or_true, false_or, or_false, reduceIte]] at kb
            exact R_sub [1, 2, 3, 4, 5, 6, 7, 8, 0] rfl kb
        refine R_if_le (tgt := 148) dX12_spreadTo_141 (by decide) (fun b13 => ?_) (fun b13 => ?_)
        · refine R_ldcw (v := 32768) dX12_spreadTo_148 lcX12_299 ?_
          exact R_sub [1, 2, 3, 4, 5, 6, 7, 0] rfl (key _ (by rw [if_pos b13]))
        · refine R_iconst (v := 0) dX12_spreadTo_144 (by decide) ?_
          refine R_goto (tgt := 151) dX12_spreadTo_145 (by decide) ?_
          exact R_sub [1, 2, 3, 4, 5, 6, 7, 0] rfl (key _ (by rw [if_neg b13]))
      refine R_if_le (tgt := 124) dX12_spreadTo_107 (by decide) (fun b9 => ?_) (fun b9 => ?_)
      · refine R_iload_n dX12_spreadTo_124 rfl 2 rfl ?_
        refine R_if_le (tgt := 132) dX12_spreadTo_125 (by decide) (fun b10 => ?_) (fun b10 => ?_)
        · refine R_ldc (v := 65535) dX12_spreadTo_132 lcX12_228 ?_
          exact R_sub [1, 2, 3, 4, 5, 6, 0] rfl (key _ (by rw [if_pos b9, if_pos b10]))
        · refine R_iconst (v := 0) dX12_spreadTo_128 (by decide) ?_
          refine R_goto (tgt := 134) dX12_spreadTo_129 (by decide) ?_
          exact R_sub [1, 2, 3, 4, 5, 6, 0] rfl (key _ (by rw [if_pos b9, if_neg b10]))
      · refine R_aload_n dX12_spreadTo_110 rfl 1 rfl ?_
        refine G12_45 dX12_spreadTo_111 lfX12_93 ob2 ?_
        refine R_iload_n dX12_spreadTo_114 rfl 3 rfl ?_
        refine R_iload dX12_spreadTo_115 5 rfl ?_
        refine R_iadd dX12_spreadTo_117 ?_
        refine R_iconst (v := 1) dX12_spreadTo_118 (by decide) ?_
        refine R_isub dX12_spreadTo_119 ?_
        refine R_iaload dX12_spreadTo_120 ob3 (ob11 b9) ?_
        refine R_goto (tgt := 134) dX12_spreadTo_121 (by decide) ?_
        exact R_sub [1, 2, 3, 4, 5, 6, 0] rfl (key _ (by rw [if_neg b9]))
    refine R_icmp_ge (tgt := 93) dX12_spreadTo_76 (by decide) (fun b5 => ?_) (fun b5 => ?_)
    · refine R_iload_n dX12_spreadTo_93 rfl 2 rfl ?_
      refine R_if_le (tgt := 101) dX12_spreadTo_94 (by decide) (fun b6 => ?_) (fun b6 => ?_)
      · refine R_ldc (v := 65535) dX12_spreadTo_101 lcX12_228 ?_
        exact R_sub [1, 2, 3, 4, 5, 0] rfl (key _ (by rw [if_pos b5, if_pos b6]))
      · refine R_iconst (v := 0) dX12_spreadTo_97 (by decide) ?_
        refine R_goto (tgt := 103) dX12_spreadTo_98 (by decide) ?_
        exact R_sub [1, 2, 3, 4, 5, 0] rfl (key _ (by rw [if_pos b5, if_neg b6]))
    · refine R_aload_n dX12_spreadTo_79 rfl 1 rfl ?_
      refine G12_45 dX12_spreadTo_80 lfX12_93 ob2 ?_
      refine R_iload_n dX12_spreadTo_83 rfl 3 rfl ?_
      refine R_iload dX12_spreadTo_84 5 rfl ?_
      refine R_iadd dX12_spreadTo_86 ?_
      refine R_iconst (v := 1) dX12_spreadTo_87 (by decide) ?_
      refine R_iadd dX12_spreadTo_88 ?_
      refine R_iaload dX12_spreadTo_89 ob3 (ob7 b5) ?_
      refine R_goto (tgt := 103) dX12_spreadTo_90 (by decide) ?_
      exact R_sub [1, 2, 3, 4, 5, 0] rfl (key _ (by rw [if_neg b5]))
set_option maxRecDepth 20000 in
theorem sX12_spreadTo_227 {P : Option Value → AH → Prop} (h : AH) (r0 : Nat) (x2 : Int32) (x3 : Int32) (x4 : Int32) (x5 : Int32) (hf : (16 ≤ x5 → Rr mX12_spreadTo 0 0 40 [(0, .ref r0), (2, .int x2), (3, .int x3), (4, .int (x4 + 1))] [] h P) ∧ (¬ 16 ≤ x5 → (isO h 12 r0) ∧ ((isA h 0 (gF h r0 45)) ∧ ((vp_in (32 + x5) (ln (gF h r0 45))) ∧ ((vp_in (x3 + x5) (ln (gF h r0 45))) ∧ (Rr mX12_spreadTo 0 0 227 [(0, .ref r0), (2, .int x2), (3, .int x3), (4, .int x4), (5, .int (x5 + 1))] [] (sI h (gF h r0 45) (x3 + x5).toNatClampNeg (gI h (gF h r0 45) (32 + x5).toNatClampNeg)) P)))))) : Rr mX12_spreadTo 0 0 227 [(0, .ref r0), (2, .int x2), (3, .int x3), (4, .int x4), (5, .int x5)] [] h P := by
  refine R_iload dX12_spreadTo_227 4 rfl ?_
  refine R_bipush (v := 16) dX12_spreadTo_229 (by decide) ?_
  refine R_icmp_ge (tgt := 259) dX12_spreadTo_231 (by decide) (fun b1 => ?_) (fun b1 => ?_)
  · have hf := hf.1 b1
    refine R_iinc (v := x4 + 1) dX12_spreadTo_259 3 rfl rfl (by decide) rfl ?_
    refine R_goto (tgt := 40) dX12_spreadTo_262 (by decide) ?_
    exact R_sub [1, 2, 3, 0] rfl hf
  · have hf := hf.2 b1
    refine R_aload_n dX12_spreadTo_234 rfl 0 rfl ?_
    obtain ⟨ob2, hf⟩ := hf
    refine G12_45 dX12_spreadTo_235 lfX12_93 ob2 ?_
    refine R_iload_n dX12_spreadTo_238 rfl 2 rfl ?_
    refine R_iload dX12_spreadTo_239 4 rfl ?_
    refine R_iadd dX12_spreadTo_241 ?_
    refine R_aload_n dX12_spreadTo_242 rfl 0 rfl ?_
    refine G12_45 dX12_spreadTo_243 lfX12_93 ob2 ?_
    refine R_bipush (v := 32) dX12_spreadTo_246 (by decide) ?_
    refine R_iload dX12_spreadTo_248 4 rfl ?_
    refine R_iadd dX12_spreadTo_250 ?_
    obtain ⟨ob3, hf⟩ := hf
    obtain ⟨ob4, hf⟩ := hf
    refine R_iaload dX12_spreadTo_251 ob3 ob4 ?_
    obtain ⟨ob5, hf⟩ := hf
    refine R_iastore dX12_spreadTo_252 ob3 ob5 ?_
    refine R_iinc (v := x5 + 1) dX12_spreadTo_253 4 rfl rfl (by decide) rfl ?_
    refine R_goto (tgt := 227) dX12_spreadTo_256 (by decide) ?_
    exact R_sub [1, 2, 3, 4, 0] rfl hf
theorem dX12_sumOf_0 : decode cX12_sumOf 0 = .ok (.iload_n 1, 1) := by decide +kernel
theorem dX12_sumOf_1 : decode cX12_sumOf 1 = .ok (.iconst 0, 1) := by decide +kernel
theorem dX12_sumOf_2 : decode cX12_sumOf 2 = .ok (.sipush 3333, 3) := by decide +kernel
theorem dX12_sumOf_5 : decode cX12_sumOf 5 = .ok (.invokestatic 178, 3) := by decide +kernel
theorem dX12_sumOf_8 : decode cX12_sumOf 8 = .ok (.ifCond .ne 5, 3) := by decide +kernel
theorem dX12_sumOf_11 : decode cX12_sumOf 11 = .ok (.iconst (-1), 1) := by decide +kernel
theorem dX12_sumOf_12 : decode cX12_sumOf 12 = .ok (.ireturn, 1) := by decide +kernel
theorem dX12_sumOf_13 : decode cX12_sumOf 13 = .ok (.iload_n 1, 1) := by decide +kernel
theorem dX12_sumOf_14 : decode cX12_sumOf 14 = .ok (.istore_n 2, 1) := by decide +kernel
theorem dX12_sumOf_15 : decode cX12_sumOf 15 = .ok (.iconst 0, 1) := by decide +kernel
theorem dX12_sumOf_16 : decode cX12_sumOf 16 = .ok (.istore_n 3, 1) := by decide +kernel
theorem dX12_sumOf_17 : decode cX12_sumOf 17 = .ok (.iconst (-1), 1) := by decide +kernel
theorem dX12_sumOf_18 : decode cX12_sumOf 18 = .ok (.istore 4, 2) := by decide +kernel
theorem dX12_sumOf_20 : decode cX12_sumOf 20 = .ok (.iconst 0, 1) := by decide +kernel
theorem dX12_sumOf_21 : decode cX12_sumOf 21 = .ok (.istore 5, 2) := by decide +kernel
theorem dX12_sumOf_23 : decode cX12_sumOf 23 = .ok (.iconst 0, 1) := by decide +kernel
theorem dX12_sumOf_24 : decode cX12_sumOf 24 = .ok (.istore 6, 2) := by decide +kernel
theorem dX12_sumOf_26 : decode cX12_sumOf 26 = .ok (.iload 6, 2) := by decide +kernel
theorem dX12_sumOf_28 : decode cX12_sumOf 28 = .ok (.iconst 4, 1) := by decide +kernel
theorem dX12_sumOf_29 : decode cX12_sumOf 29 = .ok (.if_icmp .ge 73, 3) := by decide +kernel
theorem dX12_sumOf_32 : decode cX12_sumOf 32 = .ok (.iload_n 2, 1) := by decide +kernel
theorem dX12_sumOf_33 : decode cX12_sumOf 33 = .ok (.bipush 10, 2) := by decide +kernel
theorem dX12_sumOf_35 : decode cX12_sumOf 35 = .ok (.irem, 1) := by decide +kernel
theorem dX12_sumOf_36 : decode cX12_sumOf 36 = .ok (.istore 7, 2) := by decide +kernel
theorem dX12_sumOf_38 : decode cX12_sumOf 38 = .ok (.iload_n 2, 1) := by decide +kernel
theorem dX12_sumOf_39 : decode cX12_sumOf 39 = .ok (.bipush 10, 2) := by decide +kernel
theorem dX12_sumOf_41 : decode cX12_sumOf 41 = .ok (.idiv, 1) := by decide +kernel
theorem dX12_sumOf_42 : decode cX12_sumOf 42 = .ok (.istore_n 2, 1) := by decide +kernel
theorem dX12_sumOf_43 : decode cX12_sumOf 43 = .ok (.iload 7, 2) := by decide +kernel
theorem dX12_sumOf_45 : decode cX12_sumOf 45 = .ok (.iconst 3, 1) := by decide +kernel
theorem dX12_sumOf_46 : decode cX12_sumOf 46 = .ok (.if_icmp .gt 14, 3) := by decide +kernel
theorem dX12_sumOf_49 : decode cX12_sumOf 49 = .ok (.iload 5, 2) := by decide +kernel
theorem dX12_sumOf_51 : decode cX12_sumOf 51 = .ok (.iload 7, 2) := by decide +kernel
theorem dX12_sumOf_53 : decode cX12_sumOf 53 = .ok (.ishr, 1) := by decide +kernel
theorem dX12_sumOf_54 : decode cX12_sumOf 54 = .ok (.iconst 1, 1) := by decide +kernel
theorem dX12_sumOf_55 : decode cX12_sumOf 55 = .ok (.iand, 1) := by decide +kernel
theorem dX12_sumOf_56 : decode cX12_sumOf 56 = .ok (.iconst 1, 1) := by decide +kernel
theorem dX12_sumOf_57 : decode cX12_sumOf 57 = .ok (.if_icmp .ne 5, 3) := by decide +kernel
theorem dX12_sumOf_60 : decode cX12_sumOf 60 = .ok (.iconst (-1), 1) := by decide +kernel
theorem dX12_sumOf_61 : decode cX12_sumOf 61 = .ok (.ireturn, 1) := by decide +kernel
theorem dX12_sumOf_62 : decode cX12_sumOf 62 = .ok (.iload 5, 2) := by decide +kernel
theorem dX12_sumOf_64 : decode cX12_sumOf 64 = .ok (.iconst 1, 1) := by decide +kernel
theorem dX12_sumOf_65 : decode cX12_sumOf 65 = .ok (.iload 7, 2) := by decide +kernel
theorem dX12_sumOf_67 : decode cX12_sumOf 67 = .ok (.ishl, 1) := by decide +kernel
theorem dX12_sumOf_68 : decode cX12_sumOf 68 = .ok (.ior, 1) := by decide +kernel
theorem dX12_sumOf_69 : decode cX12_sumOf 69 = .ok (.istore 5, 2) := by decide +kernel
theorem dX12_sumOf_71 : decode cX12_sumOf 71 = .ok (.iload 4, 2) := by decide +kernel
theorem dX12_sumOf_73 : decode cX12_sumOf 73 = .ok (.iconst (-1), 1) := by decide +kernel
theorem dX12_sumOf_74 : decode cX12_sumOf 74 = .ok (.if_icmp .eq 18, 3) := by decide +kernel
theorem dX12_sumOf_77 : decode cX12_sumOf 77 = .ok (.iload_n 3, 1) := by decide +kernel
theorem dX12_sumOf_78 : decode cX12_sumOf 78 = .ok (.aload_n 0, 1) := by decide +kernel
theorem dX12_sumOf_79 : decode cX12_sumOf 79 = .ok (.getfield 42, 3) := by decide +kernel
theorem dX12_sumOf_82 : decode cX12_sumOf 82 = .ok (.iconst 4, 1) := by decide +kernel
theorem dX12_sumOf_83 : decode cX12_sumOf 83 = .ok (.iload 7, 2) := by decide +kernel
theorem dX12_sumOf_85 : decode cX12_sumOf 85 = .ok (.imul, 1) := by decide +kernel
theorem dX12_sumOf_86 : decode cX12_sumOf 86 = .ok (.iload 4, 2) := by decide +kernel
theorem dX12_sumOf_88 : decode cX12_sumOf 88 = .ok (.iadd, 1) := by decide +kernel
theorem dX12_sumOf_89 : decode cX12_sumOf 89 = .ok (.iaload, 1) := by decide +kernel
theorem dX12_sumOf_90 : decode cX12_sumOf 90 = .ok (.iadd, 1) := by decide +kernel
theorem dX12_sumOf_91 : decode cX12_sumOf 91 = .ok (.istore_n 3, 1) := by decide +kernel
theorem dX12_sumOf_92 : decode cX12_sumOf 92 = .ok (.iload 7, 2) := by decide +kernel
theorem dX12_sumOf_94 : decode cX12_sumOf 94 = .ok (.istore 4, 2) := by decide +kernel
theorem dX12_sumOf_96 : decode cX12_sumOf 96 = .ok (.iinc 6 1, 3) := by decide +kernel
theorem dX12_sumOf_99 : decode cX12_sumOf 99 = .ok (.goto (-73), 3) := by decide +kernel
theorem dX12_sumOf_102 : decode cX12_sumOf 102 = .ok (.iload_n 3, 1) := by decide +kernel
theorem dX12_sumOf_103 : decode cX12_sumOf 103 = .ok (.ireturn, 1) := by decide +kernel
set_option maxRecDepth 20000 in
theorem sX12_sumOf_0 {P : Option Value → AH → Prop} (h : AH) (r0 : Nat) (x1 : Int32) (hf : ((¬ x1 < 0 ∧ ¬ 3333 < x1) → Rr mX12_sumOf 0 0 26 [(0, .ref r0), (2, .int x1), (3, .int 0), (4, .int (-1)), (5, .int 0), (6, .int 0)] [] h P) ∧ (¬ (¬ x1 < 0 ∧ ¬ 3333 < x1) → P (some (.int (-1))) h)) : Rr mX12_sumOf 0 0 0 [(0, .ref r0), (1, .int x1)] [] h P := by
  refine R_iload_n dX12_sumOf_0 rfl 1 rfl ?_
  refine R_iconst (v := 0) dX12_sumOf_1 (by decide) ?_
  refine R_sipush (v := 3333) dX12_sumOf_2 (by decide) ?_
  refine R_callS (N := mX12_in) (as := [.int x1, .int 0, .int 3333]) (rest := []) (kc2 := 0) (ks2 := 0) dX12_sumOf_5 lmX12_178 oX12_in (Nat.le_of_ble_eq_true rfl) rfl rfl (Nat.le_of_ble_eq_true rfl) rfl rfl (aX12_in  ?_)
  refine R_if_ne_b (tgt := 13) dX12_sumOf_8 (by decide) (fun b1 => ?_) (fun b1 => ?_)
  · have hf := hf.1 b1
    refine R_iload_n dX12_sumOf_13 rfl 1 rfl ?_
    refine R_istore_n dX12_sumOf_14 rfl (by decide) rfl ?_
    refine R_iconst (v := 0) dX12_sumOf_15 (by decide) ?_
    refine R_istore_n dX12_sumOf_16 rfl (by decide) rfl ?_
    refine R_iconst (v := (-1)) dX12_sumOf_17 (by decide) ?_
    refine R_istore dX12_sumOf_18 (by decide) rfl ?_
    refine R_iconst (v := 0) dX12_sumOf_20 (by decide) ?_
    refine R_istore dX12_sumOf_21 (by decide) rfl ?_
    refine R_iconst (v := 0) dX12_sumOf_23 (by decide) ?_
    refine R_istore dX12_sumOf_24 (by decide) rfl ?_
    exact R_sub [5, 4, 3, 2, 1, 0] rfl hf
  · have hf := hf.2 b1
    refine R_iconst (v := (-1)) dX12_sumOf_11 (by decide) ?_
    exact R_iret dX12_sumOf_12 rfl rfl hf
set_option maxRecDepth 20000 in
theorem sX12_sumOf_26 {P : Option Value → AH → Prop} (h : AH) (r0 : Nat) (x2 : Int32) (x3 : Int32) (x4 : Int32) (x5 : Int32) (x6 : Int32) (hf : (4 ≤ x6 → P (some (.int x3)) h) ∧ (¬ 4 ≤ x6 → (3 < (x2 % 10) → P (some (.int (-1))) h) ∧ (¬ 3 < (x2 % 10) → (¬ ((x5 >>> ((x2 % 10) &&& 31)) &&& 1) = 1 → (isO h 12 r0) ∧ ((isA h 0 (gF h r0 19)) ∧ ((¬ x4 = (-1) → vp_in ((4 * (x2 % 10)) + x4) (ln (gF h r0 19))) ∧ (∀ z8 : Int32, z8 = (if x4 = (-1) then x3 else (x3 + (gI h (gF h r0 19) ((4 * (x2 % 10)) + x4).toNatClampNeg))) → (Rr mX12_sumOf 0 0 26 [(0, .ref r0), (2, .int (x2 / 10)), (3, .int z8), (4, .int (x2 % 10)), (5, .int (x5 ||| ((1 : Int32) <<< ((x2 % 10) &&& 31)))), (6, .int (x6 + 1))] [] h P))))) ∧ (((x5 >>> ((x2 % 10) &&& 31)) &&& 1) = 1 → P (some (.int (-1))) h)))) : Rr mX12_sumOf 0 0 26 [(0, .ref r0), (2, .int x2), (3, .int x3), (4, .int x4), (5, .int x5), (6, .int x6)] [] h P := by
  refine R_iload dX12_sumOf_26 5 rfl ?_
  refine R_iconst (v := 4) dX12_sumOf_28 (by decide) ?_
  refine R_icmp_ge (tgt := 102) dX12_sumOf_29 (by decide) (fun b1 => ?_) (fun b1 => ?_)
  · have hf := hf.1 b1
    refine R_iload_n dX12_sumOf_102 rfl 2 rfl ?_
    exact R_iret dX12_sumOf_103 rfl rfl hf
  · have hf := hf.2 b1
    refine R_iload_n dX12_sumOf_32 rfl 1 rfl ?_
    refine R_bipush (v := 10) dX12_sumOf_33 (by decide) ?_
    refine R_irem dX12_sumOf_35 (by decide) ?_
    refine R_istore dX12_sumOf_36 (by decide) rfl ?_
    refine R_iload_n dX12_sumOf_38 rfl 2 rfl ?_
    refine R_bipush (v := 10) dX12_sumOf_39 (by decide) ?_
    refine R_idiv dX12_sumOf_41 (by decide) ?_
    refine R_istore_n dX12_sumOf_42 rfl (by decide) rfl ?_
    refine R_iload dX12_sumOf_43 1 rfl ?_
    refine R_iconst (v := 3) dX12_sumOf_45 (by decide) ?_
    refine R_icmp_gt (tgt := 60) dX12_sumOf_46 (by decide) (fun b2 => ?_) (fun b2 => ?_)
    · have hf := hf.1 b2
      refine R_iconst (v := (-1)) dX12_sumOf_60 (by decide) ?_
      exact R_iret dX12_sumOf_61 rfl rfl hf
    · have hf := hf.2 b2
      refine R_iload dX12_sumOf_49 5 rfl ?_
      refine R_iload dX12_sumOf_51 1 rfl ?_
      refine R_ishr dX12_sumOf_53 ?_
      refine R_iconst (v := 1) dX12_sumOf_54 (by decide) ?_
      refine R_iand dX12_sumOf_55 ?_
      refine R_iconst (v := 1) dX12_sumOf_56 (by decide) ?_
      refine R_icmp_ne (tgt := 62) dX12_sumOf_57 (by decide) (fun b3 => ?_) (fun b3 => ?_)
      · have hf := hf.1 b3
        refine R_iload dX12_sumOf_62 5 rfl ?_
        refine R_iconst (v := 1) dX12_sumOf_64 (by decide) ?_
        refine R_iload dX12_sumOf_65 1 rfl ?_
        refine R_ishl dX12_sumOf_67 ?_
        refine R_ior dX12_sumOf_68 ?_
        refine R_istore dX12_sumOf_69 (by decide) rfl ?_
        refine R_iload dX12_sumOf_71 5 rfl ?_
        refine R_iconst (v := (-1)) dX12_sumOf_73 (by decide) ?_
        obtain ⟨ob5, hf⟩ := hf
        obtain ⟨ob6, hf⟩ := hf
        obtain ⟨ob7, hf⟩ := hf
        have key : ∀ z8 : Int32, z8 = (if x4 = (-1) then x3 else (x3 + (gI h (gF h r0 19) ((4 * (x2 % 10)) + x4).toNatClampNeg))) → Rr mX12_sumOf 0 0 92 [(0, .ref r0), (2, .int (x2 / 10)), (3, .int z8), (5, .int (x5 ||| ((1 : Int32) <<< ((x2 % 10) &&& 31)))), (6, .int x6), (7, .int (x2 % 10))] [] h P := by
          intro z8 ez8
          have hf := hf z8 ez8
          refine R_iload dX12_sumOf_92 5 rfl ?_
          refine R_istore dX12_sumOf_94 (by decide) rfl ?_
          refine R_iinc (v := x6 + 1) dX12_sumOf_96 5 rfl rfl (by decide) rfl ?_
          refine R_goto (tgt := 26) dX12_sumOf_99 (by decide) ?_
          exact R_sub [2, 3, 4, 1, 5, 0] rfl hf
        refine R_icmp_eq (tgt := 92) dX12_sumOf_74 (by decide) (fun b4 => ?_) (fun b4 => ?_)
        · exact R_sub [3, 1, 4, 0, 6, 2] rfl (key _ (by rw [if_pos b4]))
        · refine R_iload_n dX12_sumOf_77 rfl 4 rfl ?_
          refine R_aload_n dX12_sumOf_78 rfl 3 rfl ?_
          refine G12_19 dX12_sumOf_79 lfX12_42 ob5 ?_
          refine R_iconst (v := 4) dX12_sumOf_82 (by decide) ?_
          refine R_iload dX12_sumOf_83 2 rfl ?_
          refine R_imul dX12_sumOf_85 ?_
          refine R_iload dX12_sumOf_86 5 rfl ?_
          refine R_iadd dX12_sumOf_88 ?_
          refine R_iaload dX12_sumOf_89 ob6 (ob7 b4) ?_
          refine R_iadd dX12_sumOf_90 ?_
          refine R_istore_n dX12_sumOf_91 rfl (by decide) rfl ?_
          exact R_sub [4, 2, 0, 1, 6, 3] rfl (key _ (by rw [if_neg b4]))
      · have hf := hf.2 b3
        refine R_iconst (v := (-1)) dX12_sumOf_60 (by decide) ?_
        exact R_iret dX12_sumOf_61 rfl rfl hf
theorem dX12_told_0 : decode cX12_told 0 = .ok (.iload_n 1, 1) := by decide +kernel
theorem dX12_told_1 : decode cX12_told 1 = .ok (.iconst 0, 1) := by decide +kernel
theorem dX12_told_2 : decode cX12_told 2 = .ok (.bipush 8, 2) := by decide +kernel
theorem dX12_told_4 : decode cX12_told 4 = .ok (.invokestatic 178, 3) := by decide +kernel
theorem dX12_told_7 : decode cX12_told 7 = .ok (.ifCond .eq 10, 3) := by decide +kernel
theorem dX12_told_10 : decode cX12_told 10 = .ok (.aload_n 0, 1) := by decide +kernel
theorem dX12_told_11 : decode cX12_told 11 = .ok (.getfield 17, 3) := by decide +kernel
theorem dX12_told_14 : decode cX12_told 14 = .ok (.iload_n 1, 1) := by decide +kernel
theorem dX12_told_15 : decode cX12_told 15 = .ok (.iaload, 1) := by decide +kernel
theorem dX12_told_16 : decode cX12_told 16 = .ok (.ireturn, 1) := by decide +kernel
theorem dX12_told_17 : decode cX12_told 17 = .ok (.iload_n 1, 1) := by decide +kernel
theorem dX12_told_18 : decode cX12_told 18 = .ok (.bipush 10, 2) := by decide +kernel
theorem dX12_told_20 : decode cX12_told 20 = .ok (.bipush 13, 2) := by decide +kernel
theorem dX12_told_22 : decode cX12_told 22 = .ok (.invokestatic 178, 3) := by decide +kernel
theorem dX12_told_25 : decode cX12_told 25 = .ok (.ifCond .eq 13, 3) := by decide +kernel
theorem dX12_told_28 : decode cX12_told 28 = .ok (.aload_n 0, 1) := by decide +kernel
theorem dX12_told_29 : decode cX12_told 29 = .ok (.getfield 27, 3) := by decide +kernel
theorem dX12_told_32 : decode cX12_told 32 = .ok (.iload_n 1, 1) := by decide +kernel
theorem dX12_told_33 : decode cX12_told 33 = .ok (.bipush 10, 2) := by decide +kernel
theorem dX12_told_35 : decode cX12_told 35 = .ok (.isub, 1) := by decide +kernel
theorem dX12_told_36 : decode cX12_told 36 = .ok (.iaload, 1) := by decide +kernel
theorem dX12_told_37 : decode cX12_told 37 = .ok (.ireturn, 1) := by decide +kernel
theorem dX12_told_38 : decode cX12_told 38 = .ok (.iload_n 1, 1) := by decide +kernel
theorem dX12_told_39 : decode cX12_told 39 = .ok (.bipush 20, 2) := by decide +kernel
theorem dX12_told_41 : decode cX12_told 41 = .ok (.bipush 35, 2) := by decide +kernel
theorem dX12_told_43 : decode cX12_told 43 = .ok (.invokestatic 178, 3) := by decide +kernel
theorem dX12_told_46 : decode cX12_told 46 = .ok (.ifCond .eq 13, 3) := by decide +kernel
theorem dX12_told_49 : decode cX12_told 49 = .ok (.aload_n 0, 1) := by decide +kernel
theorem dX12_told_50 : decode cX12_told 50 = .ok (.getfield 42, 3) := by decide +kernel
theorem dX12_told_53 : decode cX12_told 53 = .ok (.iload_n 1, 1) := by decide +kernel
theorem dX12_told_54 : decode cX12_told 54 = .ok (.bipush 20, 2) := by decide +kernel
theorem dX12_told_56 : decode cX12_told 56 = .ok (.isub, 1) := by decide +kernel
theorem dX12_told_57 : decode cX12_told 57 = .ok (.iaload, 1) := by decide +kernel
theorem dX12_told_58 : decode cX12_told 58 = .ok (.ireturn, 1) := by decide +kernel
theorem dX12_told_59 : decode cX12_told 59 = .ok (.iload_n 1, 1) := by decide +kernel
theorem dX12_told_60 : decode cX12_told 60 = .ok (.bipush 10, 2) := by decide +kernel
theorem dX12_told_62 : decode cX12_told 62 = .ok (.irem, 1) := by decide +kernel
theorem dX12_told_63 : decode cX12_told 63 = .ok (.istore_n 2, 1) := by decide +kernel
theorem dX12_told_64 : decode cX12_told 64 = .ok (.iload_n 1, 1) := by decide +kernel
theorem dX12_told_65 : decode cX12_told 65 = .ok (.bipush 40, 2) := by decide +kernel
theorem dX12_told_67 : decode cX12_told 67 = .ok (.bipush 59, 2) := by decide +kernel
theorem dX12_told_69 : decode cX12_told 69 = .ok (.invokestatic 178, 3) := by decide +kernel
theorem dX12_told_72 : decode cX12_told 72 = .ok (.ifCond .eq 39, 3) := by decide +kernel
theorem dX12_told_75 : decode cX12_told 75 = .ok (.iload_n 2, 1) := by decide +kernel
theorem dX12_told_76 : decode cX12_told 76 = .ok (.aload_n 0, 1) := by decide +kernel
theorem dX12_told_77 : decode cX12_told 77 = .ok (.getfield 17, 3) := by decide +kernel
theorem dX12_told_80 : decode cX12_told 80 = .ok (.iconst 2, 1) := by decide +kernel
theorem dX12_told_81 : decode cX12_told 81 = .ok (.iaload, 1) := by decide +kernel
theorem dX12_told_82 : decode cX12_told 82 = .ok (.if_icmp .ge 27, 3) := by decide +kernel
theorem dX12_told_85 : decode cX12_told 85 = .ok (.iload_n 1, 1) := by decide +kernel
theorem dX12_told_86 : decode cX12_told 86 = .ok (.bipush 50, 2) := by decide +kernel
theorem dX12_told_88 : decode cX12_told 88 = .ok (.if_icmp .ge 12, 3) := by decide +kernel
theorem dX12_told_91 : decode cX12_told 91 = .ok (.aload_n 0, 1) := by decide +kernel
theorem dX12_told_92 : decode cX12_told 92 = .ok (.getfield 21, 3) := by decide +kernel
theorem dX12_told_95 : decode cX12_told 95 = .ok (.iload_n 2, 1) := by decide +kernel
theorem dX12_told_96 : decode cX12_told 96 = .ok (.iaload, 1) := by decide +kernel
theorem dX12_told_97 : decode cX12_told 97 = .ok (.goto 13, 3) := by decide +kernel
theorem dX12_told_100 : decode cX12_told 100 = .ok (.aload_n 0, 1) := by decide +kernel
theorem dX12_told_101 : decode cX12_told 101 = .ok (.getfield 24, 3) := by decide +kernel
theorem dX12_told_104 : decode cX12_told 104 = .ok (.iload_n 2, 1) := by decide +kernel
theorem dX12_told_105 : decode cX12_told 105 = .ok (.iaload, 1) := by decide +kernel
theorem dX12_told_106 : decode cX12_told 106 = .ok (.goto 4, 3) := by decide +kernel
theorem dX12_told_109 : decode cX12_told 109 = .ok (.iconst (-1), 1) := by decide +kernel
theorem dX12_told_110 : decode cX12_told 110 = .ok (.ireturn, 1) := by decide +kernel
theorem dX12_told_111 : decode cX12_told 111 = .ok (.iload_n 1, 1) := by decide +kernel
theorem dX12_told_112 : decode cX12_told 112 = .ok (.bipush 60, 2) := by decide +kernel
theorem dX12_told_114 : decode cX12_told 114 = .ok (.bipush 79, 2) := by decide +kernel
theorem dX12_told_116 : decode cX12_told 116 = .ok (.invokestatic 178, 3) := by decide +kernel
theorem dX12_told_119 : decode cX12_told 119 = .ok (.ifCond .eq 38, 3) := by decide +kernel
theorem dX12_told_122 : decode cX12_told 122 = .ok (.iload_n 2, 1) := by decide +kernel
theorem dX12_told_123 : decode cX12_told 123 = .ok (.aload_n 0, 1) := by decide +kernel
theorem dX12_told_124 : decode cX12_told 124 = .ok (.getfield 17, 3) := by decide +kernel
theorem dX12_told_127 : decode cX12_told 127 = .ok (.bipush 8, 2) := by decide +kernel
theorem dX12_told_129 : decode cX12_told 129 = .ok (.iaload, 1) := by decide +kernel
theorem dX12_told_130 : decode cX12_told 130 = .ok (.if_icmp .ge 27, 3) := by decide +kernel
theorem dX12_told_133 : decode cX12_told 133 = .ok (.iload_n 1, 1) := by decide +kernel
theorem dX12_told_134 : decode cX12_told 134 = .ok (.bipush 70, 2) := by decide +kernel
theorem dX12_told_136 : decode cX12_told 136 = .ok (.if_icmp .ge 12, 3) := by decide +kernel
theorem dX12_told_139 : decode cX12_told 139 = .ok (.aload_n 0, 1) := by decide +kernel
theorem dX12_told_140 : decode cX12_told 140 = .ok (.getfield 36, 3) := by decide +kernel
theorem dX12_told_143 : decode cX12_told 143 = .ok (.iload_n 2, 1) := by decide +kernel
theorem dX12_told_144 : decode cX12_told 144 = .ok (.iaload, 1) := by decide +kernel
theorem dX12_told_145 : decode cX12_told 145 = .ok (.goto 13, 3) := by decide +kernel
theorem dX12_told_148 : decode cX12_told 148 = .ok (.aload_n 0, 1) := by decide +kernel
theorem dX12_told_149 : decode cX12_told 149 = .ok (.getfield 39, 3) := by decide +kernel
theorem dX12_told_152 : decode cX12_told 152 = .ok (.iload_n 2, 1) := by decide +kernel
theorem dX12_told_153 : decode cX12_told 153 = .ok (.iaload, 1) := by decide +kernel
theorem dX12_told_154 : decode cX12_told 154 = .ok (.goto 4, 3) := by decide +kernel
theorem dX12_told_157 : decode cX12_told 157 = .ok (.iconst (-1), 1) := by decide +kernel
theorem dX12_told_158 : decode cX12_told 158 = .ok (.ireturn, 1) := by decide +kernel
set_option maxRecDepth 20000 in
theorem sX12_told_0 {P : Option Value → AH → Prop} (h : AH) (r0 : Nat) (x1 : Int32) (hf : (¬ (¬ x1 < 0 ∧ ¬ 8 < x1) → (¬ (¬ x1 < 10 ∧ ¬ 13 < x1) → (¬ (¬ x1 < 20 ∧ ¬ 35 < x1) → (¬ (¬ x1 < 40 ∧ ¬ 59 < x1) → (isO h 12 r0) ∧ ((isA h 0 (gF h r0 11)) ∧ (((¬ x1 < 60 ∧ ¬ 79 < x1) → vp_in 8 (ln (gF h r0 11))) ∧ ((isA h 0 (gF h r0 18)) ∧ (((¬ x1 < 60 ∧ ¬ 79 < x1) → ¬ (gI h (gF h r0 11) (Int32.toNatClampNeg 8)) ≤ (x1 % 10) → 70 ≤ x1 → vp_in (x1 % 10) (ln (gF h r0 18))) ∧ ((isA h 0 (gF h r0 17)) ∧ (((¬ x1 < 60 ∧ ¬ 79 < x1) → ¬ (gI h (gF h r0 11) (Int32.toNatClampNeg 8)) ≤ (x1 % 10) → ¬ 70 ≤ x1 → vp_in (x1 % 10) (ln (gF h r0 17))) ∧ (∀ z15 : Int32, z15 = (if (¬ x1 < 60 ∧ ¬ 79 < x1) then (if (gI h (gF h r0 11) (Int32.toNatClampNeg 8)) ≤ (x1 % 10) then (-1) else (if 70 ≤ x1 then (gI h (gF h r0 18) (x1 % 10).toNatClampNeg) else (gI h (gF h r0 17) (x1 % 10).toNatClampNeg))) else (-1)) → (P (some (.int z15)) h))))))))) ∧ ((¬ x1 < 40 ∧ ¬ 59 < x1) → (isO h 12 r0) ∧ ((isA h 0 (gF h r0 11)) ∧ ((vp_in 2 (ln (gF h r0 11))) ∧ ((isA h 0 (gF h r0 13)) ∧ ((¬ (gI h (gF h r0 11) (Int32.toNatClampNeg 2)) ≤ (x1 % 10) → 50 ≤ x1 → vp_in (x1 % 10) (ln (gF h r0 13))) ∧ ((isA h 0 (gF h r0 12)) ∧ ((¬ (gI h (gF h r0 11) (Int32.toNatClampNeg 2)) ≤ (x1 % 10) → ¬ 50 ≤ x1 → vp_in (x1 % 10) (ln (gF h r0 12))) ∧ (∀ z25 : Int32, z25 = (if (gI h (gF h r0 11) (Int32.toNatClampNeg 2)) ≤ (x1 % 10) then (-1) else (if 50 ≤ x1 then (gI h (gF h r0 13) (x1 % 10).toNatClampNeg) else (gI h (gF h r0 12) (x1 % 10).toNatClampNeg))) → (P (some (.int z25)) h)))))))))) ∧ ((¬ x1 < 20 ∧ ¬ 35 < x1) → (isO h 12 r0) ∧ ((isA h 0 (gF h r0 19)) ∧ ((vp_in (x1 - 20) (ln (gF h r0 19))) ∧ (P (some (.int (gI h (gF h r0 19) (x1 - 20).toNatClampNeg))) h))))) ∧ ((¬ x1 < 10 ∧ ¬ 13 < x1) → (isO h 12 r0) ∧ ((isA h 0 (gF h r0 14)) ∧ ((vp_in (x1 - 10) (ln (gF h r0 14))) ∧ (P (some (.int (gI h (gF h r0 14) (x1 - 10).toNatClampNeg))) h))))) ∧ ((¬ x1 < 0 ∧ ¬ 8 < x1) → (isO h 12 r0) ∧ ((isA h 0 (gF h r0 11)) ∧ ((vp_in x1 (ln (gF h r0 11))) ∧ (P (some (.int (gI h (gF h r0 11) x1.toNatClampNeg))) h))))) : Rr mX12_told 0 0 0 [(0, .ref r0), (1, .int x1)] [] h P := by
  refine R_iload_n dX12_told_0 rfl 1 rfl ?_
  refine R_iconst (v := 0) dX12_told_1 (by decide) ?_
  refine R_bipush (v := 8) dX12_told_2 (by decide) ?_
  refine R_callS (N := mX12_in) (as := [.int x1, .int 0, .int 8]) (rest := []) (kc2 := 0) (ks2 := 0) dX12_told_4 lmX12_178 oX12_in (Nat.le_of_ble_eq_true rfl) rfl rfl (Nat.le_of_ble_eq_true rfl) rfl rfl (aX12_in  ?_)
  refine R_if_eq_b (tgt := 17) dX12_told_7 (by decide) (fun b1 => ?_) (fun b1 => ?_)
  · have hf := hf.1 b1
    refine R_iload_n dX12_told_17 rfl 1 rfl ?_
    refine R_bipush (v := 10) dX12_told_18 (by decide) ?_
    refine R_bipush (v := 13) dX12_told_20 (by decide) ?_
    refine R_callS (N := mX12_in) (as := [.int x1, .int 10, .int 13]) (rest := []) (kc2 := 0) (ks2 := 0) dX12_told_22 lmX12_178 oX12_in (Nat.le_of_ble_eq_true rfl) rfl rfl (Nat.le_of_ble_eq_true rfl) rfl rfl (aX12_in  ?_)
    refine R_if_eq_b (tgt := 38) dX12_told_25 (by decide) (fun b2 => ?_) (fun b2 => ?_)
    · have hf := hf.1 b2
      refine R_iload_n dX12_told_38 rfl 1 rfl ?_
      refine R_bipush (v := 20) dX12_told_39 (by decide) ?_
      refine R_bipush (v := 35) dX12_told_41 (by decide) ?_
      refine R_callS (N := mX12_in) (as := [.int x1, .int 20, .int 35]) (rest := []) (kc2 := 0) (ks2 := 0) dX12_told_43 lmX12_178 oX12_in (Nat.le_of_ble_eq_true rfl) rfl rfl (Nat.le_of_ble_eq_true rfl) rfl rfl (aX12_in  ?_)
      refine R_if_eq_b (tgt := 59) dX12_told_46 (by decide) (fun b3 => ?_) (fun b3 => ?_)
      · have hf := hf.1 b3
        refine R_iload_n dX12_told_59 rfl 1 rfl ?_
        refine R_bipush (v := 10) dX12_told_60 (by decide) ?_
        refine R_irem dX12_told_62 (by decide) ?_
        refine R_istore_n dX12_told_63 rfl (by decide) rfl ?_
        refine R_iload_n dX12_told_64 rfl 2 rfl ?_
        refine R_bipush (v := 40) dX12_told_65 (by decide) ?_
        refine R_bipush (v := 59) dX12_told_67 (by decide) ?_
        refine R_callS (N := mX12_in) (as := [.int x1, .int 40, .int 59]) (rest := []) (kc2 := 0) (ks2 := 0) dX12_told_69 lmX12_178 oX12_in (Nat.le_of_ble_eq_true rfl) rfl rfl (Nat.le_of_ble_eq_true rfl) rfl rfl (aX12_in  ?_)
        refine R_if_eq_b (tgt := 111) dX12_told_72 (by decide) (fun b4 => ?_) (fun b4 => ?_)
        · have hf := hf.1 b4
          refine R_iload_n dX12_told_111 rfl 2 rfl ?_
          refine R_bipush (v := 60) dX12_told_112 (by decide) ?_
          refine R_bipush (v := 79) dX12_told_114 (by decide) ?_
          refine R_callS (N := mX12_in) (as := [.int x1, .int 60, .int 79]) (rest := []) (kc2 := 0) (ks2 := 0) dX12_told_116 lmX12_178 oX12_in (Nat.le_of_ble_eq_true rfl) rfl rfl (Nat.le_of_ble_eq_true rfl) rfl rfl (aX12_in  ?_)
          obtain ⟨ob6, hf⟩ := hf
          obtain ⟨ob7, hf⟩ := hf
          obtain ⟨ob8, hf⟩ := hf
          obtain ⟨ob11, hf⟩ := hf
          obtain ⟨ob12, hf⟩ := hf
          obtain ⟨ob13, hf⟩ := hf
          obtain ⟨ob14, hf⟩ := hf
          have key : ∀ z15 : Int32, z15 = (if (¬ x1 < 60 ∧ ¬ 79 < x1) then (if (gI h (gF h r0 11) (Int32.toNatClampNeg 8)) ≤ (x1 % 10) then (-1) else (if 70 ≤ x1 then (gI h (gF h r0 18) (x1 % 10).toNatClampNeg) else (gI h (gF h r0 17) (x1 % 10).toNatClampNeg))) else (-1)) → Rr mX12_told 0 0 158 [] [.int z15] h P := by
            intro z15 ez15
            have hf := hf z15 ez15
            exact R_iret dX12_told_158 rfl rfl hf
          refine R_if_eq_b (tgt := 157) dX12_told_119 (by decide) (fun b5 => ?_) (fun b5 => ?_)
          · refine R_iconst (v := (-1)) dX12_told_157 (by decide) ?_
            exact R_sub [] rfl (key _ (by rw [if_neg b5]))
          · refine R_iload_n dX12_told_122 rfl 0 rfl ?_
            refine R_aload_n dX12_told_123 rfl 1 rfl ?_
            refine G12_11 dX12_told_124 lfX12_17 ob6 ?_
            refine R_bipush (v := 8) dX12_told_127 (by decide) ?_
            refine R_iaload dX12_told_129 ob7 (ob8 b5) ?_
            refine R_icmp_ge (tgt := 157) dX12_told_130 (by decide) (fun b9 => ?_) (fun b9 => ?_)
            · refine R_iconst (v := (-1)) dX12_told_157 (by decide) ?_
              exact R_sub [] rfl (key _ (by rw [if_pos b5, if_pos b9]))
            · refine R_iload_n dX12_told_133 rfl 2 rfl ?_
              refine R_bipush (v := 70) dX12_told_134 (by decide) ?_
              refine R_icmp_ge (tgt := 148) dX12_told_136 (by decide) (fun b10 => ?_) (fun b10 => ?_)
              · refine R_aload_n dX12_told_148 rfl 1 rfl ?_
                refine G12_18 dX12_told_149 lfX12_39 ob6 ?_
                refine R_iload_n dX12_told_152 rfl 0 rfl ?_
                refine R_iaload dX12_told_153 ob11 (ob12 b5 b9 b10) ?_
                refine R_goto (tgt := 158) dX12_told_154 (by decide) ?_
                exact R_sub [] rfl (key _ (by rw [if_pos b5, if_neg b9, if_pos b10]))
              · refine R_aload_n dX12_told_139 rfl 1 rfl ?_
                refine G12_17 dX12_told_140 lfX12_36 ob6 ?_
                refine R_iload_n dX12_told_143 rfl 0 rfl ?_
                refine R_iaload dX12_told_144 ob13 (ob14 b5 b9 b10) ?_
                refine R_goto (tgt := 158) dX12_told_145 (by decide) ?_
                exact R_sub [] rfl (key _ (by rw [if_pos b5, if_neg b9, if_neg b10]))
        · have hf := hf.2 b4
          refine R_iload_n dX12_told_75 rfl 0 rfl ?_
          refine R_aload_n dX12_told_76 rfl 1 rfl ?_
          obtain ⟨ob16, hf⟩ := hf
          refine G12_11 dX12_told_77 lfX12_17 ob16 ?_
          refine R_iconst (v := 2) dX12_told_80 (by decide) ?_
          obtain ⟨ob17, hf⟩ := hf
          obtain ⟨ob18, hf⟩ := hf
          refine R_iaload dX12_told_81 ob17 ob18 ?_
          obtain ⟨ob21, hf⟩ := hf
          obtain ⟨ob22, hf⟩ := hf
          obtain ⟨ob23, hf⟩ := hf
          obtain ⟨ob24, hf⟩ := hf
          have key : ∀ z25 : Int32, z25 = (if (gI h (gF h r0 11) (Int32.toNatClampNeg 2)) ≤ (x1 % 10) then (-1) else (if 50 ≤ x1 then (gI h (gF h r0 13) (x1 % 10).toNatClampNeg) else (gI h (gF h r0 12) (x1 % 10).toNatClampNeg))) → Rr mX12_told 0 0 110 [] [.int z25] h P := by
            intro z25 ez25
            have hf := hf z25 ez25
            exact R_iret dX12_told_110 rfl rfl hf
          refine R_icmp_ge (tgt := 109) dX12_told_82 (by decide) (fun b19 => ?_) (fun b19 => ?_)
          · refine R_iconst (v := (-1)) dX12_told_109 (by decide) ?_
            exact R_sub [] rfl (key _ (by rw [if_pos b19]))
          · refine R_iload_n dX12_told_85 rfl 2 rfl ?_
            refine R_bipush (v := 50) dX12_told_86 (by decide) ?_
            refine R_icmp_ge (tgt := 100) dX12_told_88 (by decide) (fun b20 => ?_) (fun b20 => ?_)
            · refine R_aload_n dX12_told_100 rfl 1 rfl ?_
              refine G12_13 dX12_told_101 lfX12_24 ob16 ?_
              refine R_iload_n dX12_told_104 rfl 0 rfl ?_
              refine R_iaload dX12_told_105 ob21 (ob22 b19 b20) ?_
              refine R_goto (tgt := 110) dX12_told_106 (by decide) ?_
              exact R_sub [] rfl (key _ (by rw [if_neg b19, if_pos b20]))
            · refine R_aload_n dX12_told_91 rfl 1 rfl ?_
              refine G12_12 dX12_told_92 lfX12_21 ob16 ?_
              refine R_iload_n dX12_told_95 rfl 0 rfl ?_
              refine R_iaload dX12_told_96 ob23 (ob24 b19 b20) ?_
              refine R_goto (tgt := 110) dX12_told_97 (by decide) ?_
              exact R_sub [] rfl (key _ (by rw [if_neg b19, if_neg b20]))
      · have hf := hf.2 b3
        refine R_aload_n dX12_told_49 rfl 0 rfl ?_
        obtain ⟨ob26, hf⟩ := hf
        refine G12_19 dX12_told_50 lfX12_42 ob26 ?_
        refine R_iload_n dX12_told_53 rfl 1 rfl ?_
        refine R_bipush (v := 20) dX12_told_54 (by decide) ?_
        refine R_isub dX12_told_56 ?_
        obtain ⟨ob27, hf⟩ := hf
        obtain ⟨ob28, hf⟩ := hf
        refine R_iaload dX12_told_57 ob27 ob28 ?_
        exact R_iret dX12_told_58 rfl rfl hf
    · have hf := hf.2 b2
      refine R_aload_n dX12_told_28 rfl 0 rfl ?_
      obtain ⟨ob29, hf⟩ := hf
      refine G12_14 dX12_told_29 lfX12_27 ob29 ?_
      refine R_iload_n dX12_told_32 rfl 1 rfl ?_
      refine R_bipush (v := 10) dX12_told_33 (by decide) ?_
      refine R_isub dX12_told_35 ?_
      obtain ⟨ob30, hf⟩ := hf
      obtain ⟨ob31, hf⟩ := hf
      refine R_iaload dX12_told_36 ob30 ob31 ?_
      exact R_iret dX12_told_37 rfl rfl hf
  · have hf := hf.2 b1
    refine R_aload_n dX12_told_10 rfl 0 rfl ?_
    obtain ⟨ob32, hf⟩ := hf
    refine G12_11 dX12_told_11 lfX12_17 ob32 ?_
    refine R_iload_n dX12_told_14 rfl 1 rfl ?_
    obtain ⟨ob33, hf⟩ := hf
    obtain ⟨ob34, hf⟩ := hf
    refine R_iaload dX12_told_15 ob33 ob34 ?_
    exact R_iret dX12_told_16 rfl rfl hf
theorem dX12_turned_0 : decode cX12_turned 0 = .ok (.iload_n 1, 1) := by decide +kernel
theorem dX12_turned_1 : decode cX12_turned 1 = .ok (.iconst 0, 1) := by decide +kernel
theorem dX12_turned_2 : decode cX12_turned 2 = .ok (.aload_n 0, 1) := by decide +kernel
theorem dX12_turned_3 : decode cX12_turned 3 = .ok (.getfield 208, 3) := by decide +kernel
theorem dX12_turned_6 : decode cX12_turned 6 = .ok (.iconst 1, 1) := by decide +kernel
theorem dX12_turned_7 : decode cX12_turned 7 = .ok (.isub, 1) := by decide +kernel
theorem dX12_turned_8 : decode cX12_turned 8 = .ok (.invokestatic 178, 3) := by decide +kernel
theorem dX12_turned_11 : decode cX12_turned 11 = .ok (.ifCond .eq 12, 3) := by decide +kernel
theorem dX12_turned_14 : decode cX12_turned 14 = .ok (.aload_n 0, 1) := by decide +kernel
theorem dX12_turned_15 : decode cX12_turned 15 = .ok (.getfield 90, 3) := by decide +kernel
theorem dX12_turned_18 : decode cX12_turned 18 = .ok (.iload_n 1, 1) := by decide +kernel
theorem dX12_turned_19 : decode cX12_turned 19 = .ok (.iaload, 1) := by decide +kernel
theorem dX12_turned_20 : decode cX12_turned 20 = .ok (.goto 5, 3) := by decide +kernel
theorem dX12_turned_23 : decode cX12_turned 23 = .ok (.bipush (-99), 2) := by decide +kernel
theorem dX12_turned_25 : decode cX12_turned 25 = .ok (.ireturn, 1) := by decide +kernel
set_option maxRecDepth 20000 in
theorem sX12_turned_0 {P : Option Value → AH → Prop} (h : AH) (r0 : Nat) (x1 : Int32) (hf : (isO h 12 r0) ∧ ((isA h 0 (gF h r0 44)) ∧ (((¬ x1 < 0 ∧ ¬ ((gI h r0 43) - 1) < x1) → vp_in x1 (ln (gF h r0 44))) ∧ (∀ z5 : Int32, z5 = (if (¬ x1 < 0 ∧ ¬ ((gI h r0 43) - 1) < x1) then (gI h (gF h r0 44) x1.toNatClampNeg) else (-99)) → (P (some (.int z5)) h))))) : Rr mX12_turned 0 0 0 [(0, .ref r0), (1, .int x1)] [] h P := by
  refine R_iload_n dX12_turned_0 rfl 1 rfl ?_
  refine R_iconst (v := 0) dX12_turned_1 (by decide) ?_
  refine R_aload_n dX12_turned_2 rfl 0 rfl ?_
  obtain ⟨ob1, hf⟩ := hf
  refine G12_43 dX12_turned_3 lfX12_208 ob1 ?_
  refine R_iconst (v := 1) dX12_turned_6 (by decide) ?_
  refine R_isub dX12_turned_7 ?_
  refine R_callS (N := mX12_in) (as := [.int x1, .int 0, .int ((gI h r0 43) - 1)]) (rest := []) (kc2 := 0) (ks2 := 0) dX12_turned_8 lmX12_178 oX12_in (Nat.le_of_ble_eq_true rfl) rfl rfl (Nat.le_of_ble_eq_true rfl) rfl rfl (aX12_in  ?_)
  obtain ⟨ob3, hf⟩ := hf
  obtain ⟨ob4, hf⟩ := hf
  have key : ∀ z5 : Int32, z5 = (if (¬ x1 < 0 ∧ ¬ ((gI h r0 43) - 1) < x1) then (gI h (gF h r0 44) x1.toNatClampNeg) else (-99)) → Rr mX12_turned 0 0 25 [] [.int z5] h P := by
    intro z5 ez5
    have hf := hf z5 ez5
    exact R_iret dX12_turned_25 rfl rfl hf
  refine R_if_eq_b (tgt := 23) dX12_turned_11 (by decide) (fun b2 => ?_) (fun b2 => ?_)
  · refine R_bipush (v := (-99)) dX12_turned_23 (by decide) ?_
    exact R_sub [] rfl (key _ (by rw [if_neg b2]))
  · refine R_aload_n dX12_turned_14 rfl 0 rfl ?_
    refine G12_44 dX12_turned_15 lfX12_90 ob1 ?_
    refine R_iload_n dX12_turned_18 rfl 1 rfl ?_
    refine R_iaload dX12_turned_19 ob3 (ob4 b2) ?_
    refine R_goto (tgt := 25) dX12_turned_20 (by decide) ?_
    exact R_sub [] rfl (key _ (by rw [if_pos b2]))
theorem aX12_turned {h : AH} {P : Option Value → AH → Prop} {r0 : Nat} {x1 : Int32} (o0 : isO h 12 r0) (o1 : isA h 0 (gF h r0 44)) (o2 : (¬ x1 < 0 ∧ ¬ ((gI h r0 43) - 1) < x1) → vp_in x1 (ln (gF h r0 44))) (k : P (some (.int (if (¬ x1 < 0 ∧ ¬ ((gI h r0 43) - 1) < x1) then (gI h (gF h r0 44) x1.toNatClampNeg) else (-99)))) h) : Call mX12_turned [.ref r0, .int x1] h P :=
  Call.ofR (by decide +kernel) (Nat.le_of_ble_eq_true rfl) (sX12_turned_0 h r0 x1 (⟨o0, ⟨o1, ⟨o2, fun z5 ez5 => by subst ez5; exact (k)⟩⟩⟩))
theorem dX1_boundShifts_0 : decode cX1_boundShifts 0 = .ok (.aload_n 0, 1) := by decide +kernel
theorem dX1_boundShifts_1 : decode cX1_boundShifts 1 = .ok (.bipush (-9), 2) := by decide +kernel
theorem dX1_boundShifts_3 : decode cX1_boundShifts 3 = .ok (.putfield 47, 3) := by decide +kernel
theorem dX1_boundShifts_6 : decode cX1_boundShifts 6 = .ok (.aload_n 0, 1) := by decide +kernel
theorem dX1_boundShifts_7 : decode cX1_boundShifts 7 = .ok (.bipush 9, 2) := by decide +kernel
theorem dX1_boundShifts_9 : decode cX1_boundShifts 9 = .ok (.putfield 50, 3) := by decide +kernel
theorem dX1_boundShifts_12 : decode cX1_boundShifts 12 = .ok (.aload_n 0, 1) := by decide +kernel
theorem dX1_boundShifts_13 : decode cX1_boundShifts 13 = .ok (.bipush (-9), 2) := by decide +kernel
theorem dX1_boundShifts_15 : decode cX1_boundShifts 15 = .ok (.putfield 53, 3) := by decide +kernel
theorem dX1_boundShifts_18 : decode cX1_boundShifts 18 = .ok (.aload_n 0, 1) := by decide +kernel
theorem dX1_boundShifts_19 : decode cX1_boundShifts 19 = .ok (.bipush 9, 2) := by decide +kernel
theorem dX1_boundShifts_21 : decode cX1_boundShifts 21 = .ok (.putfield 56, 3) := by decide +kernel
theorem dX1_boundShifts_24 : decode cX1_boundShifts 24 = .ok (.iconst 0, 1) := by decide +kernel
theorem dX1_boundShifts_25 : decode cX1_boundShifts 25 = .ok (.istore 4, 2) := by decide +kernel
theorem dX1_boundShifts_27 : decode cX1_boundShifts 27 = .ok (.iload 4, 2) := by decide +kernel
theorem dX1_boundShifts_29 : decode cX1_boundShifts 29 = .ok (.aload_n 0, 1) := by decide +kernel
theorem dX1_boundShifts_30 : decode cX1_boundShifts 30 = .ok (.getfield 63, 3) := by decide +kernel
theorem dX1_boundShifts_33 : decode cX1_boundShifts 33 = .ok (.if_icmp .ge 127, 3) := by decide +kernel
theorem dX1_boundShifts_36 : decode cX1_boundShifts 36 = .ok (.aload_n 0, 1) := by decide +kernel
theorem dX1_boundShifts_37 : decode cX1_boundShifts 37 = .ok (.getfield 18, 3) := by decide +kernel
theorem dX1_boundShifts_40 : decode cX1_boundShifts 40 = .ok (.iload 4, 2) := by decide +kernel
theorem dX1_boundShifts_42 : decode cX1_boundShifts 42 = .ok (.iaload, 1) := by decide +kernel
theorem dX1_boundShifts_43 : decode cX1_boundShifts 43 = .ok (.iload_n 1, 1) := by decide +kernel
theorem dX1_boundShifts_44 : decode cX1_boundShifts 44 = .ok (.iload_n 2, 1) := by decide +kernel
theorem dX1_boundShifts_45 : decode cX1_boundShifts 45 = .ok (.aload_n 0, 1) := by decide +kernel
theorem dX1_boundShifts_46 : decode cX1_boundShifts 46 = .ok (.getfield 9, 3) := by decide +kernel
theorem dX1_boundShifts_49 : decode cX1_boundShifts 49 = .ok (.iload 4, 2) := by decide +kernel
theorem dX1_boundShifts_51 : decode cX1_boundShifts 51 = .ok (.iaload, 1) := by decide +kernel
theorem dX1_boundShifts_52 : decode cX1_boundShifts 52 = .ok (.aload_n 0, 1) := by decide +kernel
theorem dX1_boundShifts_53 : decode cX1_boundShifts 53 = .ok (.getfield 15, 3) := by decide +kernel
theorem dX1_boundShifts_56 : decode cX1_boundShifts 56 = .ok (.iload 4, 2) := by decide +kernel
theorem dX1_boundShifts_58 : decode cX1_boundShifts 58 = .ok (.iaload, 1) := by decide +kernel
theorem dX1_boundShifts_59 : decode cX1_boundShifts 59 = .ok (.invokestatic 91, 3) := by decide +kernel
theorem dX1_boundShifts_62 : decode cX1_boundShifts 62 = .ok (.isub, 1) := by decide +kernel
theorem dX1_boundShifts_63 : decode cX1_boundShifts 63 = .ok (.istore 5, 2) := by decide +kernel
theorem dX1_boundShifts_65 : decode cX1_boundShifts 65 = .ok (.aload_n 0, 1) := by decide +kernel
theorem dX1_boundShifts_66 : decode cX1_boundShifts 66 = .ok (.getfield 21, 3) := by decide +kernel
theorem dX1_boundShifts_69 : decode cX1_boundShifts 69 = .ok (.iload 4, 2) := by decide +kernel
theorem dX1_boundShifts_71 : decode cX1_boundShifts 71 = .ok (.iaload, 1) := by decide +kernel
theorem dX1_boundShifts_72 : decode cX1_boundShifts 72 = .ok (.iload_n 1, 1) := by decide +kernel
theorem dX1_boundShifts_73 : decode cX1_boundShifts 73 = .ok (.iload_n 2, 1) := by decide +kernel
theorem dX1_boundShifts_74 : decode cX1_boundShifts 74 = .ok (.aload_n 0, 1) := by decide +kernel
theorem dX1_boundShifts_75 : decode cX1_boundShifts 75 = .ok (.getfield 9, 3) := by decide +kernel
theorem dX1_boundShifts_78 : decode cX1_boundShifts 78 = .ok (.iload 4, 2) := by decide +kernel
theorem dX1_boundShifts_80 : decode cX1_boundShifts 80 = .ok (.iaload, 1) := by decide +kernel
theorem dX1_boundShifts_81 : decode cX1_boundShifts 81 = .ok (.aload_n 0, 1) := by decide +kernel
theorem dX1_boundShifts_82 : decode cX1_boundShifts 82 = .ok (.getfield 15, 3) := by decide +kernel
theorem dX1_boundShifts_85 : decode cX1_boundShifts 85 = .ok (.iload 4, 2) := by decide +kernel
theorem dX1_boundShifts_87 : decode cX1_boundShifts 87 = .ok (.iaload, 1) := by decide +kernel
theorem dX1_boundShifts_88 : decode cX1_boundShifts 88 = .ok (.invokestatic 97, 3) := by decide +kernel
theorem dX1_boundShifts_91 : decode cX1_boundShifts 91 = .ok (.isub, 1) := by decide +kernel
theorem dX1_boundShifts_92 : decode cX1_boundShifts 92 = .ok (.istore 6, 2) := by decide +kernel
theorem dX1_boundShifts_94 : decode cX1_boundShifts 94 = .ok (.aload_n 0, 1) := by decide +kernel
theorem dX1_boundShifts_95 : decode cX1_boundShifts 95 = .ok (.aload_n 0, 1) := by decide +kernel
theorem dX1_boundShifts_96 : decode cX1_boundShifts 96 = .ok (.getfield 47, 3) := by decide +kernel
theorem dX1_boundShifts_99 : decode cX1_boundShifts 99 = .ok (.iload 5, 2) := by decide +kernel
theorem dX1_boundShifts_101 : decode cX1_boundShifts 101 = .ok (.iload_n 3, 1) := by decide +kernel
theorem dX1_boundShifts_102 : decode cX1_boundShifts 102 = .ok (.isub, 1) := by decide +kernel
theorem dX1_boundShifts_103 : decode cX1_boundShifts 103 = .ok (.invokestatic 100, 3) := by decide +kernel
theorem dX1_boundShifts_106 : decode cX1_boundShifts 106 = .ok (.putfield 47, 3) := by decide +kernel
theorem dX1_boundShifts_109 : decode cX1_boundShifts 109 = .ok (.aload_n 0, 1) := by decide +kernel
theorem dX1_boundShifts_110 : decode cX1_boundShifts 110 = .ok (.aload_n 0, 1) := by decide +kernel
theorem dX1_boundShifts_111 : decode cX1_boundShifts 111 = .ok (.getfield 50, 3) := by decide +kernel
theorem dX1_boundShifts_114 : decode cX1_boundShifts 114 = .ok (.iload 5, 2) := by decide +kernel
theorem dX1_boundShifts_116 : decode cX1_boundShifts 116 = .ok (.iload_n 3, 1) := by decide +kernel
theorem dX1_boundShifts_117 : decode cX1_boundShifts 117 = .ok (.iadd, 1) := by decide +kernel
theorem dX1_boundShifts_118 : decode cX1_boundShifts 118 = .ok (.invokestatic 105, 3) := by decide +kernel
theorem dX1_boundShifts_121 : decode cX1_boundShifts 121 = .ok (.putfield 50, 3) := by decide +kernel
theorem dX1_boundShifts_124 : decode cX1_boundShifts 124 = .ok (.aload_n 0, 1) := by decide +kernel
theorem dX1_boundShifts_125 : decode cX1_boundShifts 125 = .ok (.aload_n 0, 1) := by decide +kernel
theorem dX1_boundShifts_126 : decode cX1_boundShifts 126 = .ok (.getfield 53, 3) := by decide +kernel
theorem dX1_boundShifts_129 : decode cX1_boundShifts 129 = .ok (.iload 6, 2) := by decide +kernel
theorem dX1_boundShifts_131 : decode cX1_boundShifts 131 = .ok (.iload_n 3, 1) := by decide +kernel
theorem dX1_boundShifts_132 : decode cX1_boundShifts 132 = .ok (.isub, 1) := by decide +kernel
theorem dX1_boundShifts_133 : decode cX1_boundShifts 133 = .ok (.invokestatic 100, 3) := by decide +kernel
theorem dX1_boundShifts_136 : decode cX1_boundShifts 136 = .ok (.putfield 53, 3) := by decide +kernel
theorem dX1_boundShifts_139 : decode cX1_boundShifts 139 = .ok (.aload_n 0, 1) := by decide +kernel
theorem dX1_boundShifts_140 : decode cX1_boundShifts 140 = .ok (.aload_n 0, 1) := by decide +kernel
theorem dX1_boundShifts_141 : decode cX1_boundShifts 141 = .ok (.getfield 56, 3) := by decide +kernel
theorem dX1_boundShifts_144 : decode cX1_boundShifts 144 = .ok (.iload 6, 2) := by decide +kernel
theorem dX1_boundShifts_146 : decode cX1_boundShifts 146 = .ok (.iload_n 3, 1) := by decide +kernel
theorem dX1_boundShifts_147 : decode cX1_boundShifts 147 = .ok (.iadd, 1) := by decide +kernel
theorem dX1_boundShifts_148 : decode cX1_boundShifts 148 = .ok (.invokestatic 105, 3) := by decide +kernel
theorem dX1_boundShifts_151 : decode cX1_boundShifts 151 = .ok (.putfield 56, 3) := by decide +kernel
theorem dX1_boundShifts_154 : decode cX1_boundShifts 154 = .ok (.iinc 4 1, 3) := by decide +kernel
theorem dX1_boundShifts_157 : decode cX1_boundShifts 157 = .ok (.goto (-130), 3) := by decide +kernel
theorem dX1_boundShifts_160 : decode cX1_boundShifts 160 = .ok (.return_, 1) := by decide +kernel
set_option maxRecDepth 20000 in
theorem sX1_boundShifts_0 {P : Option Value → AH → Prop} (h : AH) (r0 : Nat) (x1 : Int32) (x2 : Int32) (x3 : Int32) (hf : (isO h 1 r0) ∧ (Rr mX1_boundShifts 0 0 27 [(0, .ref r0), (1, .int x1), (2, .int x2), (3, .int x3), (4, .int 0)] [] (sI (sI (sI (sI h r0 5 (-9)) r0 6 9) r0 7 (-9)) r0 8 9) P)) : Rr mX1_boundShifts 0 0 0 [(0, .ref r0), (1, .int x1), (2, .int x2), (3, .int x3)] [] h P := by
  refine R_aload_n dX1_boundShifts_0 rfl 0 rfl ?_
  refine R_bipush (v := (-9)) dX1_boundShifts_1 (by decide) ?_
  obtain ⟨ob1, hf⟩ := hf
  refine S1_5 dX1_boundShifts_3 lfX1_47 ob1 ?_
  refine R_aload_n dX1_boundShifts_6 rfl 0 rfl ?_
  refine R_bipush (v := 9) dX1_boundShifts_7 (by decide) ?_
  refine S1_6 dX1_boundShifts_9 lfX1_50 ob1 ?_
  refine R_aload_n dX1_boundShifts_12 rfl 0 rfl ?_
  refine R_bipush (v := (-9)) dX1_boundShifts_13 (by decide) ?_
  refine S1_7 dX1_boundShifts_15 lfX1_53 ob1 ?_
  refine R_aload_n dX1_boundShifts_18 rfl 0 rfl ?_
  refine R_bipush (v := 9) dX1_boundShifts_19 (by decide) ?_
  refine S1_8 dX1_boundShifts_21 lfX1_56 ob1 ?_
  refine R_iconst (v := 0) dX1_boundShifts_24 (by decide) ?_
  refine R_istore dX1_boundShifts_25 (by decide) rfl ?_
  exact R_sub [1, 2, 3, 4, 0] rfl hf
set_option maxRecDepth 20000 in
theorem sX1_boundShifts_27 {P : Option Value → AH → Prop} (h : AH) (r0 : Nat) (x1 : Int32) (x2 : Int32) (x3 : Int32) (x4 : Int32) (hf : (isO h 1 r0) ∧ (((gI h r0 0) ≤ x4 → P none h) ∧ (¬ (gI h r0 0) ≤ x4 → (isA h 0 (gF h r0 3)) ∧ ((vp_in x4 (ln (gF h r0 3))) ∧ ((isA h 0 (gF h r0 1)) ∧ ((vp_in x4 (ln (gF h r0 1))) ∧ ((isA h 0 (gF h r0 2)) ∧ ((vp_in x4 (ln (gF h r0 2))) ∧ (∀ v9 : Int32, v9 = ((gI h (gF h r0 3) x4.toNatClampNeg) - (((x2 * (gI h (gF h r0 1) x4.toNatClampNeg)) - (x1 * (gI h (gF h r0 2) x4.toNatClampNeg))) / 100)) → ((isA h 0 (gF h r0 4)) ∧ ((vp_in x4 (ln (gF h r0 4))) ∧ (∀ v12 : Int32, v12 = ((gI h (gF h r0 4) x4.toNatClampNeg) - (((x1 * (gI h (gF h r0 1) x4.toNatClampNeg)) + (x2 * (gI h (gF h r0 2) x4.toNatClampNeg))) / 100)) → (Rr mX1_boundShifts 0 0 27 [(0, .ref r0), (1, .int x1), (2, .int x2), (3, .int x3), (4, .int (x4 + 1))] [] (sI (sI (sI (sI h r0 5 (imax (gI h r0 5) (v9 - x3))) r0 6 (imin (gI h r0 6) (v9 + x3))) r0 7 (imax (gI h r0 7) (v12 - x3))) r0 8 (imin (gI h r0 8) (v12 + x3))) P))))))))))))) : Rr mX1_boundShifts 0 0 27 [(0, .ref r0), (1, .int x1), (2, .int x2), (3, .int x3), (4, .int x4)] [] h P := by
  refine R_iload dX1_boundShifts_27 4 rfl ?_
  refine R_aload_n dX1_boundShifts_29 rfl 0 rfl ?_
  obtain ⟨ob1, hf⟩ := hf
  refine G1_0 dX1_boundShifts_30 lfX1_63 ob1 ?_
  refine R_icmp_ge (tgt := 160) dX1_boundShifts_33 (by decide) (fun b2 => ?_) (fun b2 => ?_)
  · have hf := hf.1 b2
    exact R_ret dX1_boundShifts_160 rfl hf
  · have hf := hf.2 b2
    refine R_aload_n dX1_boundShifts_36 rfl 0 rfl ?_
    refine G1_3 dX1_boundShifts_37 lfX1_18 ob1 ?_
    refine R_iload dX1_boundShifts_40 4 rfl ?_
    obtain ⟨ob3, hf⟩ := hf
    obtain ⟨ob4, hf⟩ := hf
    refine R_iaload dX1_boundShifts_42 ob3 ob4 ?_
    refine R_iload_n dX1_boundShifts_43 rfl 1 rfl ?_
    refine R_iload_n dX1_boundShifts_44 rfl 2 rfl ?_
    refine R_aload_n dX1_boundShifts_45 rfl 0 rfl ?_
    refine G1_1 dX1_boundShifts_46 lfX1_9 ob1 ?_
    refine R_iload dX1_boundShifts_49 4 rfl ?_
    obtain ⟨ob5, hf⟩ := hf
    obtain ⟨ob6, hf⟩ := hf
    refine R_iaload dX1_boundShifts_51 ob5 ob6 ?_
    refine R_aload_n dX1_boundShifts_52 rfl 0 rfl ?_
    refine G1_2 dX1_boundShifts_53 lfX1_15 ob1 ?_
    refine R_iload dX1_boundShifts_56 4 rfl ?_
    obtain ⟨ob7, hf⟩ := hf
    obtain ⟨ob8, hf⟩ := hf
    refine R_iaload dX1_boundShifts_58 ob7 ob8 ?_
    refine R_callSN (N := mX11_turnedAcross) (as := [.int x1, .int x2, .int (gI h (gF h r0 1) x4.toNatClampNeg), .int (gI h (gF h r0 2) x4.toNatClampNeg)]) (rest := [.int (gI h (gF h r0 3) x4.toNatClampNeg)]) (kc2 := 0) (ks2 := 0) dX1_boundShifts_59 lnX1_91 oX11_turnedAcross (Nat.le_of_ble_eq_true rfl) rfl rfl (Nat.le_of_ble_eq_true rfl) rfl rfl (aX11_turnedAcross  ?_)
    refine R_isub dX1_boundShifts_62 ?_
    refine R_topi (fun v9 ev9 => ?_)
    have hf := hf v9 ev9
    refine R_istore dX1_boundShifts_63 (by decide) rfl ?_
    refine R_aload_n dX1_boundShifts_65 rfl 1 rfl ?_
    refine G1_4 dX1_boundShifts_66 lfX1_21 ob1 ?_
    refine R_iload dX1_boundShifts_69 5 rfl ?_
    obtain ⟨ob10, hf⟩ := hf
    obtain ⟨ob11, hf⟩ := hf
    refine R_iaload dX1_boundShifts_71 ob10 ob11 ?_
    refine R_iload_n dX1_boundShifts_72 rfl 2 rfl ?_
    refine R_iload_n dX1_boundShifts_73 rfl 3 rfl ?_
    refine R_aload_n dX1_boundShifts_74 rfl 1 rfl ?_
    refine G1_1 dX1_boundShifts_75 lfX1_9 ob1 ?_
    refine R_iload dX1_boundShifts_78 5 rfl ?_
    refine R_iaload dX1_boundShifts_80 ob5 ob6 ?_
    refine R_aload_n dX1_boundShifts_81 rfl 1 rfl ?_
    refine G1_2 dX1_boundShifts_82 lfX1_15 ob1 ?_
    refine R_iload dX1_boundShifts_85 5 rfl ?_
    refine R_iaload dX1_boundShifts_87 ob7 ob8 ?_
    refine R_callSN (N := mX11_turnedUp) (as := [.int x1, .int x2, .int (gI h (gF h r0 1) x4.toNatClampNeg), .int (gI h (gF h r0 2) x4.toNatClampNeg)]) (rest := [.int (gI h (gF h r0 4) x4.toNatClampNeg)]) (kc2 := 0) (ks2 := 0) dX1_boundShifts_88 lnX1_97 oX11_turnedUp (Nat.le_of_ble_eq_true rfl) rfl rfl (Nat.le_of_ble_eq_true rfl) rfl rfl (aX11_turnedUp  ?_)
    refine R_isub dX1_boundShifts_91 ?_
    refine R_topi (fun v12 ev12 => ?_)
    have hf := hf v12 ev12
    refine R_istore dX1_boundShifts_92 (by decide) rfl ?_
    refine R_aload_n dX1_boundShifts_94 rfl 2 rfl ?_
    refine R_aload_n dX1_boundShifts_95 rfl 2 rfl ?_
    refine G1_5 dX1_boundShifts_96 lfX1_47 ob1 ?_
    refine R_iload dX1_boundShifts_99 1 rfl ?_
    refine R_iload_n dX1_boundShifts_101 rfl 5 rfl ?_
    refine R_isub dX1_boundShifts_102 ?_
    refine R_mmax dX1_boundShifts_103 lmX1_100 (by decide) (Nat.le_of_ble_eq_true rfl) ?_
    refine S1_5 dX1_boundShifts_106 lfX1_47 ob1 ?_
    refine R_aload_n dX1_boundShifts_109 rfl 2 rfl ?_
    refine R_aload_n dX1_boundShifts_110 rfl 2 rfl ?_
    refine G1_6 dX1_boundShifts_111 lfX1_50 ob1 ?_
    refine R_eqI (y := gI h r0 6) (rd_k (by decide)) ?_
    refine R_iload dX1_boundShifts_114 1 rfl ?_
    refine R_iload_n dX1_boundShifts_116 rfl 5 rfl ?_
    refine R_iadd dX1_boundShifts_117 ?_
    refine R_mmin dX1_boundShifts_118 lmX1_105 (by decide) (Nat.le_of_ble_eq_true rfl) ?_
    refine S1_6 dX1_boundShifts_121 lfX1_50 ob1 ?_
    refine R_aload_n dX1_boundShifts_124 rfl 2 rfl ?_
    refine R_aload_n dX1_boundShifts_125 rfl 2 rfl ?_
    refine G1_7 dX1_boundShifts_126 lfX1_53 ob1 ?_
    refine R_eqI (y := gI h r0 7) ((rd_k (by decide)).trans (rd_k (by decide))) ?_
    refine R_iload dX1_boundShifts_129 0 rfl ?_
    refine R_iload_n dX1_boundShifts_131 rfl 5 rfl ?_
    refine R_isub dX1_boundShifts_132 ?_
    refine R_mmax dX1_boundShifts_133 lmX1_100 (by decide) (Nat.le_of_ble_eq_true rfl) ?_
    refine S1_7 dX1_boundShifts_136 lfX1_53 ob1 ?_
    refine R_aload_n dX1_boundShifts_139 rfl 2 rfl ?_
    refine R_aload_n dX1_boundShifts_140 rfl 2 rfl ?_
    refine G1_8 dX1_boundShifts_141 lfX1_56 ob1 ?_
    refine R_eqI (y := gI h r0 8) ((rd_k (by decide)).trans ((rd_k (by decide)).trans (rd_k (by decide)))) ?_
    refine R_iload dX1_boundShifts_144 0 rfl ?_
    refine R_iload_n dX1_boundShifts_146 rfl 5 rfl ?_
    refine R_iadd dX1_boundShifts_147 ?_
    refine R_mmin dX1_boundShifts_148 lmX1_105 (by decide) (Nat.le_of_ble_eq_true rfl) ?_
    refine S1_8 dX1_boundShifts_151 lfX1_56 ob1 ?_
    refine R_iinc (v := x4 + 1) dX1_boundShifts_154 6 rfl rfl (by decide) rfl ?_
    refine R_goto (tgt := 27) dX1_boundShifts_157 (by decide) ?_
    exact R_sub [3, 4, 5, 6, 0] rfl hf
theorem dX1_widen_0 : decode cX1_widen 0 = .ok (.aload_n 0, 1) := by decide +kernel
theorem dX1_widen_1 : decode cX1_widen 1 = .ok (.getfield 24, 3) := by decide +kernel
theorem dX1_widen_4 : decode cX1_widen 4 = .ok (.iload_n 1, 1) := by decide +kernel
theorem dX1_widen_5 : decode cX1_widen 5 = .ok (.aload_n 0, 1) := by decide +kernel
theorem dX1_widen_6 : decode cX1_widen 6 = .ok (.getfield 34, 3) := by decide +kernel
theorem dX1_widen_9 : decode cX1_widen 9 = .ok (.ifCond .ne 7, 3) := by decide +kernel
theorem dX1_widen_12 : decode cX1_widen 12 = .ok (.iload_n 2, 1) := by decide +kernel
theorem dX1_widen_13 : decode cX1_widen 13 = .ok (.goto 13, 3) := by decide +kernel
theorem dX1_widen_16 : decode cX1_widen 16 = .ok (.aload_n 0, 1) := by decide +kernel
theorem dX1_widen_17 : decode cX1_widen 17 = .ok (.getfield 24, 3) := by decide +kernel
theorem dX1_widen_20 : decode cX1_widen 20 = .ok (.iload_n 1, 1) := by decide +kernel
theorem dX1_widen_21 : decode cX1_widen 21 = .ok (.iaload, 1) := by decide +kernel
theorem dX1_widen_22 : decode cX1_widen 22 = .ok (.iload_n 2, 1) := by decide +kernel
theorem dX1_widen_23 : decode cX1_widen 23 = .ok (.invokestatic 105, 3) := by decide +kernel
theorem dX1_widen_26 : decode cX1_widen 26 = .ok (.iastore, 1) := by decide +kernel
theorem dX1_widen_27 : decode cX1_widen 27 = .ok (.aload_n 0, 1) := by decide +kernel
theorem dX1_widen_28 : decode cX1_widen 28 = .ok (.getfield 27, 3) := by decide +kernel
theorem dX1_widen_31 : decode cX1_widen 31 = .ok (.iload_n 1, 1) := by decide +kernel
theorem dX1_widen_32 : decode cX1_widen 32 = .ok (.aload_n 0, 1) := by decide +kernel
theorem dX1_widen_33 : decode cX1_widen 33 = .ok (.getfield 34, 3) := by decide +kernel
theorem dX1_widen_36 : decode cX1_widen 36 = .ok (.ifCond .ne 7, 3) := by decide +kernel
theorem dX1_widen_39 : decode cX1_widen 39 = .ok (.iload_n 3, 1) := by decide +kernel
theorem dX1_widen_40 : decode cX1_widen 40 = .ok (.goto 13, 3) := by decide +kernel
theorem dX1_widen_43 : decode cX1_widen 43 = .ok (.aload_n 0, 1) := by decide +kernel
theorem dX1_widen_44 : decode cX1_widen 44 = .ok (.getfield 27, 3) := by decide +kernel
theorem dX1_widen_47 : decode cX1_widen 47 = .ok (.iload_n 1, 1) := by decide +kernel
theorem dX1_widen_48 : decode cX1_widen 48 = .ok (.iaload, 1) := by decide +kernel
theorem dX1_widen_49 : decode cX1_widen 49 = .ok (.iload_n 3, 1) := by decide +kernel
theorem dX1_widen_50 : decode cX1_widen 50 = .ok (.invokestatic 100, 3) := by decide +kernel
theorem dX1_widen_53 : decode cX1_widen 53 = .ok (.iastore, 1) := by decide +kernel
theorem dX1_widen_54 : decode cX1_widen 54 = .ok (.return_, 1) := by decide +kernel
set_option maxRecDepth 20000 in
theorem sX1_widen_0 {P : Option Value → AH → Prop} (h : AH) (r0 : Nat) (x1 : Int32) (x2 : Int32) (x3 : Int32) (hf : (isO h 1 r0) ∧ ((isA h 0 (gF h r0 10)) ∧ ((¬ (gI h r0 9) = 0 → vp_in x1 (ln (gF h r0 10))) ∧ (∀ z5 : Int32, z5 = (if (gI h r0 9) = 0 then x2 else (imin (gI h (gF h r0 10) x1.toNatClampNeg) x2)) → ((vp_in x1 (ln (gF h r0 10))) ∧ ((isA h 0 (gF h r0 11)) ∧ ((¬ (gI h r0 9) = 0 → vp_in x1 (ln (gF h r0 11))) ∧ (∀ z10 : Int32, z10 = (if (gI h r0 9) = 0 then x3 else (imax (gI (sI h (gF h r0 10) x1.toNatClampNeg z5) (gF h r0 11) x1.toNatClampNeg) x3)) → ((vp_in x1 (ln (gF h r0 11))) ∧ (P none (sI (sI h (gF h r0 10) x1.toNatClampNeg z5) (gF h r0 11) x1.toNatClampNeg z10))))))))))) : Rr mX1_widen 0 0 0 [(0, .ref r0), (1, .int x1), (2, .int x2), (3, .int x3)] [] h P := by
  refine R_aload_n dX1_widen_0 rfl 0 rfl ?_
  obtain ⟨ob1, hf⟩ := hf
  refine G1_10 dX1_widen_1 lfX1_24 ob1 ?_
  refine R_iload_n dX1_widen_4 rfl 1 rfl ?_
  refine R_aload_n dX1_widen_5 rfl 0 rfl ?_
  refine G1_9 dX1_widen_6 lfX1_34 ob1 ?_
  obtain ⟨ob3, hf⟩ := hf
  obtain ⟨ob4, hf⟩ := hf
  have key : ∀ z5 : Int32, z5 = (if (gI h r0 9) = 0 then x2 else (imin (gI h (gF h r0 10) x1.toNatClampNeg) x2)) → Rr mX1_widen 0 0 26 [(0, .ref r0), (1, .int x1), (3, .int x3)] [.int z5, .int x1, .ref (gF h r0 10)] h P := by
    intro z5 ez5
    have hf := hf z5 ez5
    obtain ⟨ob6, hf⟩ := hf
    refine R_iastore dX1_widen_26 ob3 ob6 ?_
    refine R_aload_n dX1_widen_27 rfl 0 rfl ?_
    refine G1_11 dX1_widen_28 lfX1_27 ob1 ?_
    refine R_eqF (y := gF h r0 11) rfl ?_
    refine R_iload_n dX1_widen_31 rfl 1 rfl ?_
    refine R_aload_n dX1_widen_32 rfl 0 rfl ?_
    refine G1_9 dX1_widen_33 lfX1_34 ob1 ?_
    refine R_eqI (y := gI h r0 9) (rd_r (ne_oa ob1 ob3 (by decide))) ?_
    obtain ⟨ob8, hf⟩ := hf
    obtain ⟨ob9, hf⟩ := hf
    have key : ∀ z10 : Int32, z10 = (if (gI h r0 9) = 0 then x3 else (imax (gI (sI h (gF h r0 10) x1.toNatClampNeg z5) (gF h r0 11) x1.toNatClampNeg) x3)) → Rr mX1_widen 0 0 53 [] [.int z10, .int x1, .ref (gF h r0 11)] (sI h (gF h r0 10) x1.toNatClampNeg z5) P := by
      intro z10 ez10
      have hf := hf z10 ez10
      obtain ⟨ob11, hf⟩ := hf
      refine R_iastore dX1_widen_53 ob8 ob11 ?_
      exact R_ret dX1_widen_54 rfl hf
    refine R_if_ne (tgt := 43) dX1_widen_36 (by decide) (fun b7 => ?_) (fun b7 => ?_)
    · refine R_aload_n dX1_widen_43 rfl 0 rfl ?_
      refine G1_11 dX1_widen_44 lfX1_27 ob1 ?_
      refine R_eqF (y := gF h r0 11) rfl ?_
      refine R_iload_n dX1_widen_47 rfl 1 rfl ?_
      refine R_iaload dX1_widen_48 ob8 (ob9 b7) ?_
      refine R_iload_n dX1_widen_49 rfl 2 rfl ?_
      refine R_mmax dX1_widen_50 lmX1_100 (by decide) (Nat.le_of_ble_eq_true rfl) ?_
      exact R_sub [] rfl (key _ (by rw [if_neg b7]))
    · refine R_iload_n dX1_widen_39 rfl 2 rfl ?_
      refine R_goto (tgt := 53) dX1_widen_40 (by decide) ?_
      exact R_sub [] rfl (key _ (by rw [if_pos b7]))
  refine R_if_ne (tgt := 16) dX1_widen_9 (by decide) (fun b2 => ?_) (fun b2 => ?_)
  · refine R_aload_n dX1_widen_16 rfl 0 rfl ?_
    refine G1_10 dX1_widen_17 lfX1_24 ob1 ?_
    refine R_iload_n dX1_widen_20 rfl 1 rfl ?_
    refine R_iaload dX1_widen_21 ob3 (ob4 b2) ?_
    refine R_iload_n dX1_widen_22 rfl 2 rfl ?_
    refine R_mmin dX1_widen_23 lmX1_105 (by decide) (Nat.le_of_ble_eq_true rfl) ?_
    exact R_sub [0, 1, 3] rfl (key _ (by rw [if_neg b2]))
  · refine R_iload_n dX1_widen_12 rfl 2 rfl ?_
    refine R_goto (tgt := 26) dX1_widen_13 (by decide) ?_
    exact R_sub [0, 1, 3] rfl (key _ (by rw [if_pos b2]))
theorem aX1_widen {h : AH} {P : Option Value → AH → Prop} {r0 : Nat} {x1 : Int32} {x2 : Int32} {x3 : Int32} (o0 : isO h 1 r0) (o1 : isA h 0 (gF h r0 10)) (o2 : ¬ (gI h r0 9) = 0 → vp_in x1 (ln (gF h r0 10))) (o3 : vp_in x1 (ln (gF h r0 10))) (o4 : isA h 0 (gF h r0 11)) (o5 : ¬ (gI h r0 9) = 0 → vp_in x1 (ln (gF h r0 11))) (o6 : vp_in x1 (ln (gF h r0 11))) (k : P none (sI (sI h (gF h r0 10) x1.toNatClampNeg (if (gI h r0 9) = 0 then x2 else (imin (gI h (gF h r0 10) x1.toNatClampNeg) x2))) (gF h r0 11) x1.toNatClampNeg (if (gI h r0 9) = 0 then x3 else (imax (gI (sI h (gF h r0 10) x1.toNatClampNeg (if (gI h r0 9) = 0 then x2 else (imin (gI h (gF h r0 10) x1.toNatClampNeg) x2))) (gF h r0 11) x1.toNatClampNeg) x3)))) : Call mX1_widen [.ref r0, .int x1, .int x2, .int x3] h P :=
  Call.ofR (by decide +kernel) (Nat.le_of_ble_eq_true rfl) (sX1_widen_0 h r0 x1 x2 x3 (⟨o0, ⟨o1, ⟨o2, fun z5 ez5 => by subst ez5; exact (⟨o3, ⟨o4, ⟨o5, fun z10 ez10 => by subst ez10; exact (⟨o6, k⟩)⟩⟩⟩)⟩⟩⟩))
theorem dX2_areBounds_0 : decode cX2_areBounds 0 = .ok (.iload_n 0, 1) := by decide +kernel
theorem dX2_areBounds_1 : decode cX2_areBounds 1 = .ok (.iconst 1, 1) := by decide +kernel
theorem dX2_areBounds_2 : decode cX2_areBounds 2 = .ok (.if_icmp .lt 37, 3) := by decide +kernel
theorem dX2_areBounds_5 : decode cX2_areBounds 5 = .ok (.iload_n 0, 1) := by decide +kernel
theorem dX2_areBounds_6 : decode cX2_areBounds 6 = .ok (.bipush 8, 2) := by decide +kernel
theorem dX2_areBounds_8 : decode cX2_areBounds 8 = .ok (.if_icmp .gt 31, 3) := by decide +kernel
theorem dX2_areBounds_11 : decode cX2_areBounds 11 = .ok (.iload_n 1, 1) := by decide +kernel
theorem dX2_areBounds_12 : decode cX2_areBounds 12 = .ok (.ifCond .lt 27, 3) := by decide +kernel
theorem dX2_areBounds_15 : decode cX2_areBounds 15 = .ok (.iload_n 1, 1) := by decide +kernel
theorem dX2_areBounds_16 : decode cX2_areBounds 16 = .ok (.bipush 6, 2) := by decide +kernel
theorem dX2_areBounds_18 : decode cX2_areBounds 18 = .ok (.if_icmp .gt 21, 3) := by decide +kernel
theorem dX2_areBounds_21 : decode cX2_areBounds 21 = .ok (.iload_n 2, 1) := by decide +kernel
theorem dX2_areBounds_22 : decode cX2_areBounds 22 = .ok (.invokestatic 16, 3) := by decide +kernel
theorem dX2_areBounds_25 : decode cX2_areBounds 25 = .ok (.ifCond .eq 14, 3) := by decide +kernel
theorem dX2_areBounds_28 : decode cX2_areBounds 28 = .ok (.iload_n 3, 1) := by decide +kernel
theorem dX2_areBounds_29 : decode cX2_areBounds 29 = .ok (.invokestatic 16, 3) := by decide +kernel
theorem dX2_areBounds_32 : decode cX2_areBounds 32 = .ok (.ifCond .eq 7, 3) := by decide +kernel
theorem dX2_areBounds_35 : decode cX2_areBounds 35 = .ok (.iconst 1, 1) := by decide +kernel
theorem dX2_areBounds_36 : decode cX2_areBounds 36 = .ok (.goto 4, 3) := by decide +kernel
theorem dX2_areBounds_39 : decode cX2_areBounds 39 = .ok (.iconst 0, 1) := by decide +kernel
theorem dX2_areBounds_40 : decode cX2_areBounds 40 = .ok (.ireturn, 1) := by decide +kernel
set_option maxRecDepth 20000 in
theorem sX2_areBounds_0 {P : Option Value → AH → Prop} (h : AH) (x0 : Int32) (x1 : Int32) (x2 : Int32) (x3 : Int32) (hf : P (some (.int (bi (¬ x0 < 1 ∧ ¬ 8 < x0 ∧ ¬ x1 < 0 ∧ ¬ 6 < x1 ∧ (¬ x2 < 0 ∧ ¬ 999 < x2) ∧ (¬ x3 < 0 ∧ ¬ 999 < x3))))) h) : Rr mX2_areBounds 0 0 0 [(0, .int x0), (1, .int x1), (2, .int x2), (3, .int x3)] [] h P := by
  refine R_iload_n dX2_areBounds_0 rfl 0 rfl ?_
  refine R_iconst (v := 1) dX2_areBounds_1 (by decide) ?_
  have key :  Rr mX2_areBounds 0 0 40 [] [.int (bi (¬ x0 < 1 ∧ ¬ 8 < x0 ∧ ¬ x1 < 0 ∧ ¬ 6 < x1 ∧ (¬ x2 < 0 ∧ ¬ 999 < x2) ∧ (¬ x3 < 0 ∧ ¬ 999 < x3)))] h P := by
    exact R_iret dX2_areBounds_40 rfl (nb_n (bi_01 _)) hf
  refine R_icmp_lt (tgt := 39) dX2_areBounds_2 (by decide) (fun b1 => ?_) (fun b1 => ?_)
  · refine R_iconst (v := 0) dX2_areBounds_39 (by decide) ?_
    have kb := key
    rw [show bi (¬ x0 < 1 ∧ ¬ 8 < x0 ∧ ¬ x1 < 0 ∧ ¬ 6 < x1 ∧ (¬ x2 < 0 ∧ ¬ 999 < x2) ∧ (¬ x3 < 0 ∧ ¬ 999 < x3)) = 0 from by simp only [bi, b1, false_and, and_false, true_and, and_true, not_true_eq_false, not_false_eq_true, if_true, if_false, true_or, or_true, false_or, or_false, reduceIte]] at kb
    exact R_sub [] rfl kb
  · refine R_iload_n dX2_areBounds_5 rfl 0 rfl ?_
    refine R_bipush (v := 8) dX2_areBounds_6 (by decide) ?_
    refine R_icmp_gt (tgt := 39) dX2_areBounds_8 (by decide) (fun b2 => ?_) (fun b2 => ?_)
    · refine R_iconst (v := 0) dX2_areBounds_39 (by decide) ?_
      have kb := key
      rw [show bi (¬ x0 < 1 ∧ ¬ 8 < x0 ∧ ¬ x1 < 0 ∧ ¬ 6 < x1 ∧ (¬ x2 < 0 ∧ ¬ 999 < x2) ∧ (¬ x3 < 0 ∧ ¬ 999 < x3)) = 0 from by simp only [bi, b1, b2, false_and, and_false, true_and, and_true, not_true_eq_false, not_false_eq_true, if_true, if_false, true_or, or_true, false_or, or_false, reduceIte]] at kb
      exact R_sub [] rfl kb
    · refine R_iload_n dX2_areBounds_11 rfl 1 rfl ?_
      refine R_if_lt (tgt := 39) dX2_areBounds_12 (by decide) (fun b3 => ?_) (fun b3 => ?_)
      · refine R_iconst (v := 0) dX2_areBounds_39 (by decide) ?_
        have kb := key
        rw [show bi (¬ x0 < 1 ∧ ¬ 8 < x0 ∧ ¬ x1 < 0 ∧ ¬ 6 < x1 ∧ (¬ x2 < 0 ∧ ¬ 999 < x2) ∧ (¬ x3 < 0 ∧ ¬ 999 < x3)) = 0 from by simp only [bi, b1, b2, b3, false_and, and_false, true_and, and_true, not_true_eq_false, not_false_eq_true, if_true, if_false, true_or, or_true, false_or, or_false, reduceIte]] at kb
        exact R_sub [] rfl kb
      · refine R_iload_n dX2_areBounds_15 rfl 1 rfl ?_
        refine R_bipush (v := 6) dX2_areBounds_16 (by decide) ?_
        refine R_icmp_gt (tgt := 39) dX2_areBounds_18 (by decide) (fun b4 => ?_) (fun b4 => ?_)
        · refine R_iconst (v := 0) dX2_areBounds_39 (by decide) ?_
          have kb := key
          rw [show bi (¬ x0 < 1 ∧ ¬ 8 < x0 ∧ ¬ x1 < 0 ∧ ¬ 6 < x1 ∧ (¬ x2 < 0 ∧ ¬ 999 < x2) ∧ (¬ x3 < 0 ∧ ¬ 999 < x3)) = 0 from by simp only [bi, b1, b2, b3, b4, false_and, and_false, true_and, and_true, not_true_eq_false, not_false_eq_true, if_true, if_false, true_or, or_true, false_or, or_false, reduceIte]] at kb
          exact R_sub [] rfl kb
        · refine R_iload_n dX2_areBounds_21 rfl 2 rfl ?_
          refine R_callS (N := mX2_isPrice) (as := [.int x2]) (rest := []) (kc2 := 0) (ks2 := 0) dX2_areBounds_22 lmX2_16 oX2_isPrice (Nat.le_of_ble_eq_true rfl) rfl rfl (Nat.le_of_ble_eq_true rfl) rfl rfl (aX2_isPrice  ?_)
          refine R_if_eq_b (tgt := 39) dX2_areBounds_25 (by decide) (fun b5 => ?_) (fun b5 => ?_)
          · refine R_iconst (v := 0) dX2_areBounds_39 (by decide) ?_
            have kb := key
            rw [show bi (¬ x0 < 1 ∧ ¬ 8 < x0 ∧ ¬ x1 < 0 ∧ ¬ 6 < x1 ∧ (¬ x2 < 0 ∧ ¬ 999 < x2) ∧ (¬ x3 < 0 ∧ ¬ 999 < x3)) = 0 from by simp only [bi, b1, b2, b3, b4, b5, false_and, and_false, true_and, and_true, not_true_eq_false, not_false_eq_true, if_true, if_false, true_or, or_true, false_or, or_false, reduceIte]] at kb
            exact R_sub [] rfl kb
          · refine R_iload_n dX2_areBounds_28 rfl 3 rfl ?_
            refine R_callS (N := mX2_isPrice) (as := [.int x3]) (rest := []) (kc2 := 0) (ks2 := 0) dX2_areBounds_29 lmX2_16 oX2_isPrice (Nat.le_of_ble_eq_true rfl) rfl rfl (Nat.le_of_ble_eq_true rfl) rfl rfl (aX2_isPrice  ?_)
            refine R_if_eq_b (tgt := 39) dX2_areBounds_32 (by decide) (fun b6 => ?_) (fun b6 => ?_)
            · refine R_iconst (v := 0) dX2_areBounds_39 (by decide) ?_
              have kb := key
              rw [show bi (¬ x0 < 1 ∧ ¬ 8 < x0 ∧ ¬ x1 < 0 ∧ ¬ 6 < x1 ∧ (¬ x2 < 0 ∧ ¬ 999 < x2) ∧ (¬ x3 < 0 ∧ ¬ 999 < x3)) = 0 from by simp only [bi, b1, b2, b3, b4, b5, b6, false_and, and_false, true_and, and_true, not_true_eq_false, not_false_eq_true, if_true, if_false, true_or, or_true, false_or, or_false, reduceIte]] at kb
              exact R_sub [] rfl kb
            · refine R_iconst (v := 1) dX2_areBounds_35 (by decide) ?_
              refine R_goto (tgt := 40) dX2_areBounds_36 (by decide) ?_
              have kb := key
              rw [show bi (¬ x0 < 1 ∧ ¬ 8 < x0 ∧ ¬ x1 < 0 ∧ ¬ 6 < x1 ∧ (¬ x2 < 0 ∧ ¬ 999 < x2) ∧ (¬ x3 < 0 ∧ ¬ 999 < x3)) = 1 from by simp only [bi, b1, b2, b3, b4, b5, b6, false_and, and_false, true_and, and_true, not_true_eq_false, not_false_eq_true, if_true, if_false, true_or, or_true, false_or, or_false, reduceIte]] at kb
              exact R_sub [] rfl kb
theorem aX2_areBounds {h : AH} {P : Option Value → AH → Prop} {x0 : Int32} {x1 : Int32} {x2 : Int32} {x3 : Int32}  (k : P (some (.int (bi (¬ x0 < 1 ∧ ¬ 8 < x0 ∧ ¬ x1 < 0 ∧ ¬ 6 < x1 ∧ (¬ x2 < 0 ∧ ¬ 999 < x2) ∧ (¬ x3 < 0 ∧ ¬ 999 < x3))))) h) : Call mX2_areBounds [.int x0, .int x1, .int x2, .int x3] h P :=
  Call.ofR (by decide +kernel) (Nat.le_of_ble_eq_true rfl) (sX2_areBounds_0 h x0 x1 x2 x3 (k))
theorem dX2_areChances_0 : decode cX2_areChances 0 = .ok (.iload_n 0, 1) := by decide +kernel
theorem dX2_areChances_1 : decode cX2_areChances 1 = .ok (.invokestatic 20, 3) := by decide +kernel
theorem dX2_areChances_4 : decode cX2_areChances 4 = .ok (.ifCond .eq 22, 3) := by decide +kernel
theorem dX2_areChances_7 : decode cX2_areChances 7 = .ok (.iload_n 1, 1) := by decide +kernel
theorem dX2_areChances_8 : decode cX2_areChances 8 = .ok (.invokestatic 20, 3) := by decide +kernel
theorem dX2_areChances_11 : decode cX2_areChances 11 = .ok (.ifCond .eq 15, 3) := by decide +kernel
theorem dX2_areChances_14 : decode cX2_areChances 14 = .ok (.iload_n 0, 1) := by decide +kernel
theorem dX2_areChances_15 : decode cX2_areChances 15 = .ok (.iload_n 1, 1) := by decide +kernel
theorem dX2_areChances_16 : decode cX2_areChances 16 = .ok (.iadd, 1) := by decide +kernel
theorem dX2_areChances_17 : decode cX2_areChances 17 = .ok (.bipush 10, 2) := by decide +kernel
theorem dX2_areChances_19 : decode cX2_areChances 19 = .ok (.if_icmp .gt 7, 3) := by decide +kernel
theorem dX2_areChances_22 : decode cX2_areChances 22 = .ok (.iconst 1, 1) := by decide +kernel
theorem dX2_areChances_23 : decode cX2_areChances 23 = .ok (.goto 4, 3) := by decide +kernel
theorem dX2_areChances_26 : decode cX2_areChances 26 = .ok (.iconst 0, 1) := by decide +kernel
theorem dX2_areChances_27 : decode cX2_areChances 27 = .ok (.ireturn, 1) := by decide +kernel
set_option maxRecDepth 20000 in
theorem sX2_areChances_0 {P : Option Value → AH → Prop} (h : AH) (x0 : Int32) (x1 : Int32) (hf : P (some (.int (bi ((¬ x0 < 0 ∧ ¬ 10 < x0) ∧ (¬ x1 < 0 ∧ ¬ 10 < x1) ∧ ¬ 10 < (x0 + x1))))) h) : Rr mX2_areChances 0 0 0 [(0, .int x0), (1, .int x1)] [] h P := by
  refine R_iload_n dX2_areChances_0 rfl 0 rfl ?_
  refine R_callS (N := mX2_isChance) (as := [.int x0]) (rest := []) (kc2 := 0) (ks2 := 0) dX2_areChances_1 lmX2_20 oX2_isChance (Nat.le_of_ble_eq_true rfl) rfl rfl (Nat.le_of_ble_eq_true rfl) rfl rfl (aX2_isChance  ?_)
  have key :  Rr mX2_areChances 0 0 27 [] [.int (bi ((¬ x0 < 0 ∧ ¬ 10 < x0) ∧ (¬ x1 < 0 ∧ ¬ 10 < x1) ∧ ¬ 10 < (x0 + x1)))] h P := by
    exact R_iret dX2_areChances_27 rfl (nb_n (bi_01 _)) hf
  refine R_if_eq_b (tgt := 26) dX2_areChances_4 (by decide) (fun b1 => ?_) (fun b1 => ?_)
  · refine R_iconst (v := 0) dX2_areChances_26 (by decide) ?_
    have kb := key
    rw [show bi ((¬ x0 < 0 ∧ ¬ 10 < x0) ∧ (¬ x1 < 0 ∧ ¬ 10 < x1) ∧ ¬ 10 < (x0 + x1)) = 0 from by simp only [bi, b1, false_and, and_false, true_and, and_true, not_true_eq_false, not_false_eq_true, if_true, if_false, true_or, or_true, false_or, or_false, reduceIte]] at kb
    exact R_sub [] rfl kb
  · refine R_iload_n dX2_areChances_7 rfl 1 rfl ?_
    refine R_callS (N := mX2_isChance) (as := [.int x1]) (rest := []) (kc2 := 0) (ks2 := 0) dX2_areChances_8 lmX2_20 oX2_isChance (Nat.le_of_ble_eq_true rfl) rfl rfl (Nat.le_of_ble_eq_true rfl) rfl rfl (aX2_isChance  ?_)
    refine R_if_eq_b (tgt := 26) dX2_areChances_11 (by decide) (fun b2 => ?_) (fun b2 => ?_)
    · refine R_iconst (v := 0) dX2_areChances_26 (by decide) ?_
      have kb := key
      rw [show bi ((¬ x0 < 0 ∧ ¬ 10 < x0) ∧ (¬ x1 < 0 ∧ ¬ 10 < x1) ∧ ¬ 10 < (x0 + x1)) = 0 from by simp only [bi, b1, b2, false_and, and_false, true_and, and_true, not_true_eq_false, not_false_eq_true, if_true, if_false, true_or, or_true, false_or, or_false, reduceIte]] at kb
      exact R_sub [] rfl kb
    · refine R_iload_n dX2_areChances_14 rfl 0 rfl ?_
      refine R_iload_n dX2_areChances_15 rfl 1 rfl ?_
      refine R_iadd dX2_areChances_16 ?_
      refine R_bipush (v := 10) dX2_areChances_17 (by decide) ?_
      refine R_icmp_gt (tgt := 26) dX2_areChances_19 (by decide) (fun b3 => ?_) (fun b3 => ?_)
      · refine R_iconst (v := 0) dX2_areChances_26 (by decide) ?_
        have kb := key
        rw [show bi ((¬ x0 < 0 ∧ ¬ 10 < x0) ∧ (¬ x1 < 0 ∧ ¬ 10 < x1) ∧ ¬ 10 < (x0 + x1)) = 0 from by simp only [bi, b1, b2, b3, false_and, and_false, true_and, and_true, not_true_eq_false, not_false_eq_true, if_true, if_false, true_or, or_true, false_or, or_false, reduceIte]] at kb
        exact R_sub [] rfl kb
      · refine R_iconst (v := 1) dX2_areChances_22 (by decide) ?_
        refine R_goto (tgt := 27) dX2_areChances_23 (by decide) ?_
        have kb := key
        rw [show bi ((¬ x0 < 0 ∧ ¬ 10 < x0) ∧ (¬ x1 < 0 ∧ ¬ 10 < x1) ∧ ¬ 10 < (x0 + x1)) = 1 from by simp only [bi, b1, b2, b3, false_and, and_false, true_and, and_true, not_true_eq_false, not_false_eq_true, if_true, if_false, true_or, or_true, false_or, or_false, reduceIte]] at kb
        exact R_sub [] rfl kb
theorem aX2_areChances {h : AH} {P : Option Value → AH → Prop} {x0 : Int32} {x1 : Int32}  (k : P (some (.int (bi ((¬ x0 < 0 ∧ ¬ 10 < x0) ∧ (¬ x1 < 0 ∧ ¬ 10 < x1) ∧ ¬ 10 < (x0 + x1))))) h) : Call mX2_areChances [.int x0, .int x1] h P :=
  Call.ofR (by decide +kernel) (Nat.le_of_ble_eq_true rfl) (sX2_areChances_0 h x0 x1 (k))
