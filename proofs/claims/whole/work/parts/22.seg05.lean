theorem dX11_told_0 : decode cX11_told 0 = .ok (.iload_n 1, 1) := by decide +kernel
theorem dX11_told_1 : decode cX11_told 1 = .ok (.bipush 10, 2) := by decide +kernel
theorem dX11_told_3 : decode cX11_told 3 = .ok (.if_icmp .ge 12, 3) := by decide +kernel
theorem dX11_told_6 : decode cX11_told 6 = .ok (.aload_n 0, 1) := by decide +kernel
theorem dX11_told_7 : decode cX11_told 7 = .ok (.getfield 24, 3) := by decide +kernel
theorem dX11_told_10 : decode cX11_told 10 = .ok (.iload_n 1, 1) := by decide +kernel
theorem dX11_told_11 : decode cX11_told 11 = .ok (.invokevirtual 127, 3) := by decide +kernel
theorem dX11_told_14 : decode cX11_told 14 = .ok (.ireturn, 1) := by decide +kernel
theorem dX11_told_15 : decode cX11_told 15 = .ok (.iload_n 1, 1) := by decide +kernel
theorem dX11_told_16 : decode cX11_told 16 = .ok (.bipush 14, 2) := by decide +kernel
theorem dX11_told_18 : decode cX11_told 18 = .ok (.if_icmp .ge 16, 3) := by decide +kernel
theorem dX11_told_21 : decode cX11_told 21 = .ok (.aload_n 0, 1) := by decide +kernel
theorem dX11_told_22 : decode cX11_told 22 = .ok (.getfield 24, 3) := by decide +kernel
theorem dX11_told_25 : decode cX11_told 25 = .ok (.getfield 131, 3) := by decide +kernel
theorem dX11_told_28 : decode cX11_told 28 = .ok (.iload_n 1, 1) := by decide +kernel
theorem dX11_told_29 : decode cX11_told 29 = .ok (.bipush 10, 2) := by decide +kernel
theorem dX11_told_31 : decode cX11_told 31 = .ok (.isub, 1) := by decide +kernel
theorem dX11_told_32 : decode cX11_told 32 = .ok (.iaload, 1) := by decide +kernel
theorem dX11_told_33 : decode cX11_told 33 = .ok (.ireturn, 1) := by decide +kernel
theorem dX11_told_34 : decode cX11_told 34 = .ok (.iload_n 1, 1) := by decide +kernel
theorem dX11_told_35 : decode cX11_told 35 = .ok (.bipush 20, 2) := by decide +kernel
theorem dX11_told_37 : decode cX11_told 37 = .ok (.if_icmp .ge 5, 3) := by decide +kernel
theorem dX11_told_40 : decode cX11_told 40 = .ok (.iconst (-1), 1) := by decide +kernel
theorem dX11_told_41 : decode cX11_told 41 = .ok (.ireturn, 1) := by decide +kernel
theorem dX11_told_42 : decode cX11_told 42 = .ok (.iload_n 1, 1) := by decide +kernel
theorem dX11_told_43 : decode cX11_told 43 = .ok (.bipush 36, 2) := by decide +kernel
theorem dX11_told_45 : decode cX11_told 45 = .ok (.if_icmp .ge 15, 3) := by decide +kernel
theorem dX11_told_48 : decode cX11_told 48 = .ok (.aload_n 0, 1) := by decide +kernel
theorem dX11_told_49 : decode cX11_told 49 = .ok (.getfield 24, 3) := by decide +kernel
theorem dX11_told_52 : decode cX11_told 52 = .ok (.iload_n 1, 1) := by decide +kernel
theorem dX11_told_53 : decode cX11_told 53 = .ok (.bipush 20, 2) := by decide +kernel
theorem dX11_told_55 : decode cX11_told 55 = .ok (.isub, 1) := by decide +kernel
theorem dX11_told_56 : decode cX11_told 56 = .ok (.invokevirtual 134, 3) := by decide +kernel
theorem dX11_told_59 : decode cX11_told 59 = .ok (.ireturn, 1) := by decide +kernel
theorem dX11_told_60 : decode cX11_told 60 = .ok (.iload_n 1, 1) := by decide +kernel
theorem dX11_told_61 : decode cX11_told 61 = .ok (.bipush 40, 2) := by decide +kernel
theorem dX11_told_63 : decode cX11_told 63 = .ok (.if_icmp .ge 5, 3) := by decide +kernel
theorem dX11_told_66 : decode cX11_told 66 = .ok (.iconst (-1), 1) := by decide +kernel
theorem dX11_told_67 : decode cX11_told 67 = .ok (.ireturn, 1) := by decide +kernel
theorem dX11_told_68 : decode cX11_told 68 = .ok (.iload_n 1, 1) := by decide +kernel
theorem dX11_told_69 : decode cX11_told 69 = .ok (.bipush 60, 2) := by decide +kernel
theorem dX11_told_71 : decode cX11_told 71 = .ok (.if_icmp .ge 29, 3) := by decide +kernel
theorem dX11_told_74 : decode cX11_told 74 = .ok (.aload_n 0, 1) := by decide +kernel
theorem dX11_told_75 : decode cX11_told 75 = .ok (.getfield 24, 3) := by decide +kernel
theorem dX11_told_78 : decode cX11_told 78 = .ok (.iload_n 1, 1) := by decide +kernel
theorem dX11_told_79 : decode cX11_told 79 = .ok (.bipush 40, 2) := by decide +kernel
theorem dX11_told_81 : decode cX11_told 81 = .ok (.isub, 1) := by decide +kernel
theorem dX11_told_82 : decode cX11_told 82 = .ok (.bipush 10, 2) := by decide +kernel
theorem dX11_told_84 : decode cX11_told 84 = .ok (.irem, 1) := by decide +kernel
theorem dX11_told_85 : decode cX11_told 85 = .ok (.iload_n 1, 1) := by decide +kernel
theorem dX11_told_86 : decode cX11_told 86 = .ok (.bipush 50, 2) := by decide +kernel
theorem dX11_told_88 : decode cX11_told 88 = .ok (.if_icmp .lt 7, 3) := by decide +kernel
theorem dX11_told_91 : decode cX11_told 91 = .ok (.iconst 1, 1) := by decide +kernel
theorem dX11_told_92 : decode cX11_told 92 = .ok (.goto 4, 3) := by decide +kernel
theorem dX11_told_95 : decode cX11_told 95 = .ok (.iconst 0, 1) := by decide +kernel
theorem dX11_told_96 : decode cX11_told 96 = .ok (.invokevirtual 137, 3) := by decide +kernel
theorem dX11_told_99 : decode cX11_told 99 = .ok (.ireturn, 1) := by decide +kernel
theorem dX11_told_100 : decode cX11_told 100 = .ok (.iload_n 1, 1) := by decide +kernel
theorem dX11_told_101 : decode cX11_told 101 = .ok (.bipush 80, 2) := by decide +kernel
theorem dX11_told_103 : decode cX11_told 103 = .ok (.if_icmp .ge 32, 3) := by decide +kernel
theorem dX11_told_106 : decode cX11_told 106 = .ok (.aload_n 0, 1) := by decide +kernel
theorem dX11_told_107 : decode cX11_told 107 = .ok (.getfield 24, 3) := by decide +kernel
theorem dX11_told_110 : decode cX11_told 110 = .ok (.getfield 141, 3) := by decide +kernel
theorem dX11_told_113 : decode cX11_told 113 = .ok (.iload_n 1, 1) := by decide +kernel
theorem dX11_told_114 : decode cX11_told 114 = .ok (.bipush 60, 2) := by decide +kernel
theorem dX11_told_116 : decode cX11_told 116 = .ok (.isub, 1) := by decide +kernel
theorem dX11_told_117 : decode cX11_told 117 = .ok (.bipush 10, 2) := by decide +kernel
theorem dX11_told_119 : decode cX11_told 119 = .ok (.irem, 1) := by decide +kernel
theorem dX11_told_120 : decode cX11_told 120 = .ok (.iload_n 1, 1) := by decide +kernel
theorem dX11_told_121 : decode cX11_told 121 = .ok (.bipush 70, 2) := by decide +kernel
theorem dX11_told_123 : decode cX11_told 123 = .ok (.if_icmp .lt 7, 3) := by decide +kernel
theorem dX11_told_126 : decode cX11_told 126 = .ok (.iconst 1, 1) := by decide +kernel
theorem dX11_told_127 : decode cX11_told 127 = .ok (.goto 4, 3) := by decide +kernel
theorem dX11_told_130 : decode cX11_told 130 = .ok (.iconst 0, 1) := by decide +kernel
theorem dX11_told_131 : decode cX11_told 131 = .ok (.invokevirtual 145, 3) := by decide +kernel
theorem dX11_told_134 : decode cX11_told 134 = .ok (.ireturn, 1) := by decide +kernel
theorem dX11_told_135 : decode cX11_told 135 = .ok (.iconst (-1), 1) := by decide +kernel
theorem dX11_told_136 : decode cX11_told 136 = .ok (.ireturn, 1) := by decide +kernel
set_option maxRecDepth 20000 in
theorem sX11_told_0 {P : Option Value → AH → Prop} (h : AH) (r0 : Nat) (x1 : Int32) (hf : (10 ≤ x1 → (14 ≤ x1 → (20 ≤ x1 → (36 ≤ x1 → (40 ≤ x1 → (60 ≤ x1 → (80 ≤ x1 → P (some (.int (-1))) h) ∧ (¬ 80 ≤ x1 → (isO h 11 r0) ∧ ((isO h 3 (gF h r0 2)) ∧ ((isO h 8 (gF h (gF h r0 2) 14)) ∧ (Call mX8_stepOf [.ref (gF h (gF h r0 2) 14), .int ((x1 - 60) % 10), .int (bi (¬ x1 < 70))] h (fun v h12 => ∃ z13 : Int32, v = some (.int z13) ∧ (P (some (.int z13)) h12))))))) ∧ (¬ 60 ≤ x1 → (isO h 11 r0) ∧ ((isO h 3 (gF h r0 2)) ∧ (Call mX3_markNumber [.ref (gF h r0 2), .int ((x1 - 40) % 10), .int (bi (¬ x1 < 50))] h (fun v h17 => ∃ z18 : Int32, v = some (.int z18) ∧ (P (some (.int z18)) h17)))))) ∧ (¬ 40 ≤ x1 → P (some (.int (-1))) h)) ∧ (¬ 36 ≤ x1 → (isO h 11 r0) ∧ ((isO h 3 (gF h r0 2)) ∧ ((isA h 0 (gF h (gF h r0 2) 15)) ∧ (((¬ (x1 - 20) < 0 ∧ ¬ (Int32.ofNat (ln (gF h (gF h r0 2) 15))) ≤ (x1 - 20) ∧ ¬ ((x1 - 20) / 4) = ((x1 - 20) % 4)) → vp_in (x1 - 20) (ln (gF h (gF h r0 2) 15))) ∧ (P (some (.int (if (¬ (x1 - 20) < 0 ∧ ¬ (Int32.ofNat (ln (gF h (gF h r0 2) 15))) ≤ (x1 - 20) ∧ ¬ ((x1 - 20) / 4) = ((x1 - 20) % 4)) then (gI h (gF h (gF h r0 2) 15) (x1 - 20).toNatClampNeg) else (-1)))) h)))))) ∧ (¬ 20 ≤ x1 → P (some (.int (-1))) h)) ∧ (¬ 14 ≤ x1 → (isO h 11 r0) ∧ ((isO h 3 (gF h r0 2)) ∧ ((isA h 0 (gF h (gF h r0 2) 7)) ∧ ((vp_in (x1 - 10) (ln (gF h (gF h r0 2) 7))) ∧ (P (some (.int (gI h (gF h (gF h r0 2) 7) (x1 - 10).toNatClampNeg))) h)))))) ∧ (¬ 10 ≤ x1 → (isO h 11 r0) ∧ ((isO h 3 (gF h r0 2)) ∧ (Call mX3_plainNumber [.ref (gF h r0 2), .int x1] h (fun v h29 => ∃ z30 : Int32, v = some (.int z30) ∧ (P (some (.int z30)) h29)))))) : Rr mX11_told 0 0 0 [(0, .ref r0), (1, .int x1)] [] h P := by
  refine R_iload_n dX11_told_0 rfl 1 rfl ?_
  refine R_bipush (v := 10) dX11_told_1 (by decide) ?_
  refine R_icmp_ge (tgt := 15) dX11_told_3 (by decide) (fun b1 => ?_) (fun b1 => ?_)
  · have hf := hf.1 b1
    refine R_iload_n dX11_told_15 rfl 1 rfl ?_
    refine R_bipush (v := 14) dX11_told_16 (by decide) ?_
    refine R_icmp_ge (tgt := 34) dX11_told_18 (by decide) (fun b2 => ?_) (fun b2 => ?_)
    · have hf := hf.1 b2
      refine R_iload_n dX11_told_34 rfl 1 rfl ?_
      refine R_bipush (v := 20) dX11_told_35 (by decide) ?_
      refine R_icmp_ge (tgt := 42) dX11_told_37 (by decide) (fun b3 => ?_) (fun b3 => ?_)
      · have hf := hf.1 b3
        refine R_iload_n dX11_told_42 rfl 1 rfl ?_
        refine R_bipush (v := 36) dX11_told_43 (by decide) ?_
        refine R_icmp_ge (tgt := 60) dX11_told_45 (by decide) (fun b4 => ?_) (fun b4 => ?_)
        · have hf := hf.1 b4
          refine R_iload_n dX11_told_60 rfl 1 rfl ?_
          refine R_bipush (v := 40) dX11_told_61 (by decide) ?_
          refine R_icmp_ge (tgt := 68) dX11_told_63 (by decide) (fun b5 => ?_) (fun b5 => ?_)
          · have hf := hf.1 b5
            refine R_iload_n dX11_told_68 rfl 1 rfl ?_
            refine R_bipush (v := 60) dX11_told_69 (by decide) ?_
            refine R_icmp_ge (tgt := 100) dX11_told_71 (by decide) (fun b6 => ?_) (fun b6 => ?_)
            · have hf := hf.1 b6
              refine R_iload_n dX11_told_100 rfl 1 rfl ?_
              refine R_bipush (v := 80) dX11_told_101 (by decide) ?_
              refine R_icmp_ge (tgt := 135) dX11_told_103 (by decide) (fun b7 => ?_) (fun b7 => ?_)
              · have hf := hf.1 b7
                refine R_iconst (v := (-1)) dX11_told_135 (by decide) ?_
                exact R_iret dX11_told_136 rfl rfl hf
              · have hf := hf.2 b7
                refine R_aload_n dX11_told_106 rfl 0 rfl ?_
                obtain ⟨ob8, hf⟩ := hf
                refine G11_2 dX11_told_107 lfX11_24 ob8 ?_
                obtain ⟨ob9, hf⟩ := hf
                refine G3_14 dX11_told_110 lfX11_141 ob9 ?_
                refine R_iload_n dX11_told_113 rfl 1 rfl ?_
                refine R_bipush (v := 60) dX11_told_114 (by decide) ?_
                refine R_isub dX11_told_116 ?_
                refine R_bipush (v := 10) dX11_told_117 (by decide) ?_
                refine R_irem dX11_told_119 (by decide) ?_
                refine R_iload_n dX11_told_120 rfl 1 rfl ?_
                refine R_bipush (v := 70) dX11_told_121 (by decide) ?_
                have key :  Rr mX11_told 0 0 131 [] [.int (bi (¬ x1 < 70)), .int ((x1 - 60) % 10), .ref (gF h (gF h r0 2) 14)] h P := by
                  obtain ⟨ob11, hf⟩ := hf
                  refine R_callV (ci := 8) (N := mX8_stepOf) (as := [.int ((x1 - 60) % 10), .int (bi (¬ x1 < 70))]) (rest := []) (kc2 := 0) (ks2 := 0) dX11_told_131 lmX11_145 oX8_stepOf (Nat.le_of_ble_eq_true rfl) rfl rfl (Nat.le_of_ble_eq_true rfl) rfl rfl ob11 ok8 (Call.mono hf ?_)
                  rintro _ h12 ⟨z13, rfl, hf⟩
                  exact R_iret dX11_told_134 rfl rfl hf
                refine R_icmp_lt (tgt := 130) dX11_told_123 (by decide) (fun b10 => ?_) (fun b10 => ?_)
                · refine R_iconst (v := 0) dX11_told_130 (by decide) ?_
                  have kb := key
                  rw [show bi (¬ x1 < 70) = 0 from by simp only [bi, b10, false_and, and_false, true_and, and_true, not_true_eq_false, not_false_eq_true, if_true, if_false, true_or, or_true, false_or, or_false, reduceIte]] at kb
                  exact R_sub [] rfl kb
                · refine R_iconst (v := 1) dX11_told_126 (by decide) ?_
                  refine R_goto (tgt := 131) dX11_told_127 (by decide) ?_
                  have kb := key
                  rw [show bi (¬ x1 < 70) = 1 from by simp only [bi, b10, false_and, and_false, true_and, and_true, not_true_eq_false, not_false_eq_true, if_true, if_false, true_or, or_true, false_or, or_false, reduceIte]] at kb
                  exact R_sub [] rfl kb
            · have hf := hf.2 b6
              refine R_aload_n dX11_told_74 rfl 0 rfl ?_
              obtain ⟨ob14, hf⟩ := hf
              refine G11_2 dX11_told_75 lfX11_24 ob14 ?_
              refine R_iload_n dX11_told_78 rfl 1 rfl ?_
              refine R_bipush (v := 40) dX11_told_79 (by decide) ?_
              refine R_isub dX11_told_81 ?_
              refine R_bipush (v := 10) dX11_told_82 (by decide) ?_
              refine R_irem dX11_told_84 (by decide) ?_
              refine R_iload_n dX11_told_85 rfl 1 rfl ?_
              refine R_bipush (v := 50) dX11_told_86 (by decide) ?_
              have key :  Rr mX11_told 0 0 96 [] [.int (bi (¬ x1 < 50)), .int ((x1 - 40) % 10), .ref (gF h r0 2)] h P := by
                obtain ⟨ob16, hf⟩ := hf
                refine R_callV (ci := 3) (N := mX3_markNumber) (as := [.int ((x1 - 40) % 10), .int (bi (¬ x1 < 50))]) (rest := []) (kc2 := 0) (ks2 := 0) dX11_told_96 lmX11_137 oX3_markNumber (Nat.le_of_ble_eq_true rfl) rfl rfl (Nat.le_of_ble_eq_true rfl) rfl rfl ob16 ok3 (Call.mono hf ?_)
                rintro _ h17 ⟨z18, rfl, hf⟩
                exact R_iret dX11_told_99 rfl rfl hf
              refine R_icmp_lt (tgt := 95) dX11_told_88 (by decide) (fun b15 => ?_) (fun b15 => ?_)
              · refine R_iconst (v := 0) dX11_told_95 (by decide) ?_
                have kb := key
                rw [show bi (¬ x1 < 50) = 0 from by simp only [bi, b15, false_and, and_false, true_and, and_true, not_true_eq_false, not_false_eq_true, if_true, if_false, true_or, or_true, false_or, or_false, reduceIte]] at kb
                exact R_sub [] rfl kb
              · refine R_iconst (v := 1) dX11_told_91 (by decide) ?_
                refine R_goto (tgt := 96) dX11_told_92 (by decide) ?_
                have kb := key
                rw [show bi (¬ x1 < 50) = 1 from by simp only [bi, b15, false_and, and_false, true_and, and_true, not_true_eq_false, not_false_eq_true, if_true, if_false, true_or, or_true, false_or, or_false, reduceIte]] at kb
                exact R_sub [] rfl kb
          · have hf := hf.2 b5
            refine R_iconst (v := (-1)) dX11_told_66 (by decide) ?_
            exact R_iret dX11_told_67 rfl rfl hf
        · have hf := hf.2 b4
          refine R_aload_n dX11_told_48 rfl 0 rfl ?_
          obtain ⟨ob19, hf⟩ := hf
          refine G11_2 dX11_told_49 lfX11_24 ob19 ?_
          refine R_iload_n dX11_told_52 rfl 1 rfl ?_
          refine R_bipush (v := 20) dX11_told_53 (by decide) ?_
          refine R_isub dX11_told_55 ?_
          obtain ⟨ob20, hf⟩ := hf
          obtain ⟨ob21, hf⟩ := hf
          obtain ⟨ob22, hf⟩ := hf
          refine R_callV (ci := 3) (N := mX3_stays) (as := [.int (x1 - 20)]) (rest := []) (kc2 := 0) (ks2 := 0) dX11_told_56 lmX11_134 oX3_stays (Nat.le_of_ble_eq_true rfl) rfl rfl (Nat.le_of_ble_eq_true rfl) rfl rfl ob20 ok3 (aX3_stays ob20 ob21 ob22 ?_)
          exact R_iret dX11_told_59 rfl rfl hf
      · have hf := hf.2 b3
        refine R_iconst (v := (-1)) dX11_told_40 (by decide) ?_
        exact R_iret dX11_told_41 rfl rfl hf
    · have hf := hf.2 b2
      refine R_aload_n dX11_told_21 rfl 0 rfl ?_
      obtain ⟨ob23, hf⟩ := hf
      refine G11_2 dX11_told_22 lfX11_24 ob23 ?_
      obtain ⟨ob24, hf⟩ := hf
      refine G3_7 dX11_told_25 lfX11_131 ob24 ?_
      refine R_iload_n dX11_told_28 rfl 1 rfl ?_
      refine R_bipush (v := 10) dX11_told_29 (by decide) ?_
      refine R_isub dX11_told_31 ?_
      obtain ⟨ob25, hf⟩ := hf
      obtain ⟨ob26, hf⟩ := hf
      refine R_iaload dX11_told_32 ob25 ob26 ?_
      exact R_iret dX11_told_33 rfl rfl hf
  · have hf := hf.2 b1
    refine R_aload_n dX11_told_6 rfl 0 rfl ?_
    obtain ⟨ob27, hf⟩ := hf
    refine G11_2 dX11_told_7 lfX11_24 ob27 ?_
    refine R_iload_n dX11_told_10 rfl 1 rfl ?_
    obtain ⟨ob28, hf⟩ := hf
    refine R_callV (ci := 3) (N := mX3_plainNumber) (as := [.int x1]) (rest := []) (kc2 := 0) (ks2 := 0) dX11_told_11 lmX11_127 oX3_plainNumber (Nat.le_of_ble_eq_true rfl) rfl rfl (Nat.le_of_ble_eq_true rfl) rfl rfl ob28 ok3 (Call.mono hf ?_)
    rintro _ h29 ⟨z30, rfl, hf⟩
    exact R_iret dX11_told_14 rfl rfl hf
theorem dX12_beat_0 : decode cX12_beat 0 = .ok (.iload_n 1, 1) := by decide +kernel
theorem dX12_beat_1 : decode cX12_beat 1 = .ok (.iconst 0, 1) := by decide +kernel
theorem dX12_beat_2 : decode cX12_beat 2 = .ok (.aload_n 0, 1) := by decide +kernel
theorem dX12_beat_3 : decode cX12_beat 3 = .ok (.getfield 17, 3) := by decide +kernel
theorem dX12_beat_6 : decode cX12_beat 6 = .ok (.bipush 8, 2) := by decide +kernel
theorem dX12_beat_8 : decode cX12_beat 8 = .ok (.iaload, 1) := by decide +kernel
theorem dX12_beat_9 : decode cX12_beat 9 = .ok (.iconst 1, 1) := by decide +kernel
theorem dX12_beat_10 : decode cX12_beat 10 = .ok (.isub, 1) := by decide +kernel
theorem dX12_beat_11 : decode cX12_beat 11 = .ok (.invokestatic 178, 3) := by decide +kernel
theorem dX12_beat_14 : decode cX12_beat 14 = .ok (.ifCond .eq 29, 3) := by decide +kernel
theorem dX12_beat_17 : decode cX12_beat 17 = .ok (.iload_n 2, 1) := by decide +kernel
theorem dX12_beat_18 : decode cX12_beat 18 = .ok (.iconst 0, 1) := by decide +kernel
theorem dX12_beat_19 : decode cX12_beat 19 = .ok (.aload_n 0, 1) := by decide +kernel
theorem dX12_beat_20 : decode cX12_beat 20 = .ok (.getfield 17, 3) := by decide +kernel
theorem dX12_beat_23 : decode cX12_beat 23 = .ok (.bipush 8, 2) := by decide +kernel
theorem dX12_beat_25 : decode cX12_beat 25 = .ok (.iaload, 1) := by decide +kernel
theorem dX12_beat_26 : decode cX12_beat 26 = .ok (.iconst 1, 1) := by decide +kernel
theorem dX12_beat_27 : decode cX12_beat 27 = .ok (.isub, 1) := by decide +kernel
theorem dX12_beat_28 : decode cX12_beat 28 = .ok (.invokestatic 178, 3) := by decide +kernel
theorem dX12_beat_31 : decode cX12_beat 31 = .ok (.ifCond .eq 12, 3) := by decide +kernel
theorem dX12_beat_34 : decode cX12_beat 34 = .ok (.aload_n 0, 1) := by decide +kernel
theorem dX12_beat_35 : decode cX12_beat 35 = .ok (.iload_n 1, 1) := by decide +kernel
theorem dX12_beat_36 : decode cX12_beat 36 = .ok (.iload_n 2, 1) := by decide +kernel
theorem dX12_beat_37 : decode cX12_beat 37 = .ok (.invokevirtual 365, 3) := by decide +kernel
theorem dX12_beat_40 : decode cX12_beat 40 = .ok (.goto 5, 3) := by decide +kernel
theorem dX12_beat_43 : decode cX12_beat 43 = .ok (.bipush (-2), 2) := by decide +kernel
theorem dX12_beat_45 : decode cX12_beat 45 = .ok (.ireturn, 1) := by decide +kernel
set_option maxRecDepth 20000 in
theorem sX12_beat_0 {P : Option Value → AH → Prop} (h : AH) (r0 : Nat) (x1 : Int32) (x2 : Int32) (hf : (isO h 12 r0) ∧ ((isA h 0 (gF h r0 11)) ∧ ((vp_in 8 (ln (gF h r0 11))) ∧ ((¬ (¬ x1 < 0 ∧ ¬ ((gI h (gF h r0 11) (Int32.toNatClampNeg 8)) - 1) < x1) → P (some (.int (-2))) h) ∧ ((¬ x1 < 0 ∧ ¬ ((gI h (gF h r0 11) (Int32.toNatClampNeg 8)) - 1) < x1) → (¬ (¬ x2 < 0 ∧ ¬ ((gI h (gF h r0 11) (Int32.toNatClampNeg 8)) - 1) < x2) → P (some (.int (-2))) h) ∧ ((¬ x2 < 0 ∧ ¬ ((gI h (gF h r0 11) (Int32.toNatClampNeg 8)) - 1) < x2) → Call mX12_beatOf [.ref r0, .int x1, .int x2] h (fun v h6 => ∃ z7 : Int32, v = some (.int z7) ∧ (P (some (.int z7)) h6)))))))) : Rr mX12_beat 0 0 0 [(0, .ref r0), (1, .int x1), (2, .int x2)] [] h P := by
  refine R_iload_n dX12_beat_0 rfl 1 rfl ?_
  refine R_iconst (v := 0) dX12_beat_1 (by decide) ?_
  refine R_aload_n dX12_beat_2 rfl 0 rfl ?_
  obtain ⟨ob1, hf⟩ := hf
  refine G12_11 dX12_beat_3 lfX12_17 ob1 ?_
  refine R_bipush (v := 8) dX12_beat_6 (by decide) ?_
  obtain ⟨ob2, hf⟩ := hf
  obtain ⟨ob3, hf⟩ := hf
  refine R_iaload dX12_beat_8 ob2 ob3 ?_
  refine R_iconst (v := 1) dX12_beat_9 (by decide) ?_
  refine R_isub dX12_beat_10 ?_
  refine R_callS (N := mX12_in) (as := [.int x1, .int 0, .int ((gI h (gF h r0 11) (Int32.toNatClampNeg 8)) - 1)]) (rest := []) (kc2 := 0) (ks2 := 0) dX12_beat_11 lmX12_178 oX12_in (Nat.le_of_ble_eq_true rfl) rfl rfl (Nat.le_of_ble_eq_true rfl) rfl rfl (aX12_in  ?_)
  refine R_if_eq_b (tgt := 43) dX12_beat_14 (by decide) (fun b4 => ?_) (fun b4 => ?_)
  · have hf := hf.1 b4
    refine R_bipush (v := (-2)) dX12_beat_43 (by decide) ?_
    exact R_iret dX12_beat_45 rfl rfl hf
  · have hf := hf.2 b4
    refine R_iload_n dX12_beat_17 rfl 2 rfl ?_
    refine R_iconst (v := 0) dX12_beat_18 (by decide) ?_
    refine R_aload_n dX12_beat_19 rfl 0 rfl ?_
    refine G12_11 dX12_beat_20 lfX12_17 ob1 ?_
    refine R_bipush (v := 8) dX12_beat_23 (by decide) ?_
    refine R_iaload dX12_beat_25 ob2 ob3 ?_
    refine R_iconst (v := 1) dX12_beat_26 (by decide) ?_
    refine R_isub dX12_beat_27 ?_
    refine R_callS (N := mX12_in) (as := [.int x2, .int 0, .int ((gI h (gF h r0 11) (Int32.toNatClampNeg 8)) - 1)]) (rest := []) (kc2 := 0) (ks2 := 0) dX12_beat_28 lmX12_178 oX12_in (Nat.le_of_ble_eq_true rfl) rfl rfl (Nat.le_of_ble_eq_true rfl) rfl rfl (aX12_in  ?_)
    refine R_if_eq_b (tgt := 43) dX12_beat_31 (by decide) (fun b5 => ?_) (fun b5 => ?_)
    · have hf := hf.1 b5
      refine R_bipush (v := (-2)) dX12_beat_43 (by decide) ?_
      exact R_iret dX12_beat_45 rfl rfl hf
    · have hf := hf.2 b5
      refine R_aload_n dX12_beat_34 rfl 0 rfl ?_
      refine R_iload_n dX12_beat_35 rfl 1 rfl ?_
      refine R_iload_n dX12_beat_36 rfl 2 rfl ?_
      refine R_callV (ci := 12) (N := mX12_beatOf) (as := [.int x1, .int x2]) (rest := []) (kc2 := 0) (ks2 := 0) dX12_beat_37 lmX12_365 oX12_beatOf (Nat.le_of_ble_eq_true rfl) rfl rfl (Nat.le_of_ble_eq_true rfl) rfl rfl ob1 ok12 (Call.mono hf ?_)
      rintro _ h6 ⟨z7, rfl, hf⟩
      refine R_goto (tgt := 45) dX12_beat_40 (by decide) ?_
      exact R_iret dX12_beat_45 rfl rfl hf
theorem dX12_cost_0 : decode cX12_cost 0 = .ok (.iload_n 1, 1) := by decide +kernel
theorem dX12_cost_1 : decode cX12_cost 1 = .ok (.iload_n 2, 1) := by decide +kernel
theorem dX12_cost_2 : decode cX12_cost 2 = .ok (.iload_n 3, 1) := by decide +kernel
theorem dX12_cost_3 : decode cX12_cost 3 = .ok (.iload 4, 2) := by decide +kernel
theorem dX12_cost_5 : decode cX12_cost 5 = .ok (.iload 5, 2) := by decide +kernel
theorem dX12_cost_7 : decode cX12_cost 7 = .ok (.iload 6, 2) := by decide +kernel
theorem dX12_cost_9 : decode cX12_cost 9 = .ok (.invokestatic 351, 3) := by decide +kernel
theorem dX12_cost_12 : decode cX12_cost 12 = .ok (.ifCond .ne 7, 3) := by decide +kernel
theorem dX12_cost_15 : decode cX12_cost 15 = .ok (.ldc2_w 355, 3) := by decide +kernel
theorem dX12_cost_18 : decode cX12_cost 18 = .ok (.lreturn, 1) := by decide +kernel
theorem dX12_cost_19 : decode cX12_cost 19 = .ok (.aload_n 0, 1) := by decide +kernel
theorem dX12_cost_20 : decode cX12_cost 20 = .ok (.iload_n 1, 1) := by decide +kernel
theorem dX12_cost_21 : decode cX12_cost 21 = .ok (.iload_n 3, 1) := by decide +kernel
theorem dX12_cost_22 : decode cX12_cost 22 = .ok (.iload 4, 2) := by decide +kernel
theorem dX12_cost_24 : decode cX12_cost 24 = .ok (.iload 5, 2) := by decide +kernel
theorem dX12_cost_26 : decode cX12_cost 26 = .ok (.iload 6, 2) := by decide +kernel
theorem dX12_cost_28 : decode cX12_cost 28 = .ok (.invokevirtual 357, 3) := by decide +kernel
theorem dX12_cost_31 : decode cX12_cost 31 = .ok (.lstore 7, 2) := by decide +kernel
theorem dX12_cost_33 : decode cX12_cost 33 = .ok (.lload 7, 2) := by decide +kernel
theorem dX12_cost_35 : decode cX12_cost 35 = .ok (.iload 4, 2) := by decide +kernel
theorem dX12_cost_37 : decode cX12_cost 37 = .ok (.i2l, 1) := by decide +kernel
theorem dX12_cost_38 : decode cX12_cost 38 = .ok (.lmul, 1) := by decide +kernel
theorem dX12_cost_39 : decode cX12_cost 39 = .ok (.aload_n 0, 1) := by decide +kernel
theorem dX12_cost_40 : decode cX12_cost 40 = .ok (.iconst 0, 1) := by decide +kernel
theorem dX12_cost_41 : decode cX12_cost 41 = .ok (.lload 7, 2) := by decide +kernel
theorem dX12_cost_43 : decode cX12_cost 43 = .ok (.iload_n 3, 1) := by decide +kernel
theorem dX12_cost_44 : decode cX12_cost 44 = .ok (.iload 5, 2) := by decide +kernel
theorem dX12_cost_46 : decode cX12_cost 46 = .ok (.iload 6, 2) := by decide +kernel
theorem dX12_cost_48 : decode cX12_cost 48 = .ok (.invokevirtual 347, 3) := by decide +kernel
theorem dX12_cost_51 : decode cX12_cost 51 = .ok (.ladd, 1) := by decide +kernel
theorem dX12_cost_52 : decode cX12_cost 52 = .ok (.lstore 9, 2) := by decide +kernel
theorem dX12_cost_54 : decode cX12_cost 54 = .ok (.aload_n 0, 1) := by decide +kernel
theorem dX12_cost_55 : decode cX12_cost 55 = .ok (.iload_n 2, 1) := by decide +kernel
theorem dX12_cost_56 : decode cX12_cost 56 = .ok (.lload 7, 2) := by decide +kernel
theorem dX12_cost_58 : decode cX12_cost 58 = .ok (.iload_n 3, 1) := by decide +kernel
theorem dX12_cost_59 : decode cX12_cost 59 = .ok (.iload 5, 2) := by decide +kernel
theorem dX12_cost_61 : decode cX12_cost 61 = .ok (.iload 6, 2) := by decide +kernel
theorem dX12_cost_63 : decode cX12_cost 63 = .ok (.invokevirtual 347, 3) := by decide +kernel
theorem dX12_cost_66 : decode cX12_cost 66 = .ok (.lstore 11, 2) := by decide +kernel
theorem dX12_cost_68 : decode cX12_cost 68 = .ok (.lload 9, 2) := by decide +kernel
theorem dX12_cost_70 : decode cX12_cost 70 = .ok (.lload 11, 2) := by decide +kernel
theorem dX12_cost_72 : decode cX12_cost 72 = .ok (.lcmp, 1) := by decide +kernel
theorem dX12_cost_73 : decode cX12_cost 73 = .ok (.ifCond .ge 8, 3) := by decide +kernel
theorem dX12_cost_76 : decode cX12_cost 76 = .ok (.lload 9, 2) := by decide +kernel
theorem dX12_cost_78 : decode cX12_cost 78 = .ok (.goto 5, 3) := by decide +kernel
theorem dX12_cost_81 : decode cX12_cost 81 = .ok (.lload 11, 2) := by decide +kernel
theorem dX12_cost_83 : decode cX12_cost 83 = .ok (.lreturn, 1) := by decide +kernel
set_option maxRecDepth 20000 in
theorem sX12_cost_0 {P : Option Value → AH → Prop} (h : AH) (r0 : Nat) (x1 : Int32) (x2 : Int32) (x3 : Int32) (x4 : Int32) (x5 : Int32) (x6 : Int32) (hf : Call mX12_isHalting [.int x1, .int x2, .int x3, .int x4, .int x5, .int x6] h (fun v h1 => ∃ z2 : Int32, v = some (.int z2) ∧ ((¬ z2 = 0 → (isO h1 12 r0) ∧ (Call mX12_makeMeans [.ref r0, .int x1, .int x3, .int x4, .int x5, .int x6] h1 (fun v h5 => ∃ w6 : Int64, v = some (.long w6) ∧ ((isO h5 12 r0) ∧ (Call mX12_goOn [.ref r0, .int 0, .long w6, .int x3, .int x5, .int x6] h5 (fun v h8 => ∃ w9 : Int64, v = some (.long w9) ∧ ((isO h8 12 r0) ∧ (Call mX12_goOn [.ref r0, .int x2, .long w6, .int x3, .int x5, .int x6] h8 (fun v h11 => ∃ w12 : Int64, v = some (.long w12) ∧ (∀ w14 : Int64, w14 = (if 0 ≤ (lg_cmp ((w6 * x4.toInt64) + w9) w12) then w12 else ((w6 * x4.toInt64) + w9)) → (P (some (.long w14)) h11))))))))))) ∧ (z2 = 0 → P (some (.long (-2))) h1)))) : Rr mX12_cost 0 0 0 [(0, .ref r0), (1, .int x1), (2, .int x2), (3, .int x3), (4, .int x4), (5, .int x5), (6, .int x6)] [] h P := by
  refine R_iload_n dX12_cost_0 rfl 1 rfl ?_
  refine R_iload_n dX12_cost_1 rfl 2 rfl ?_
  refine R_iload_n dX12_cost_2 rfl 3 rfl ?_
  refine R_iload dX12_cost_3 4 rfl ?_
  refine R_iload dX12_cost_5 5 rfl ?_
  refine R_iload dX12_cost_7 6 rfl ?_
  refine R_callS (N := mX12_isHalting) (as := [.int x1, .int x2, .int x3, .int x4, .int x5, .int x6]) (rest := []) (kc2 := 0) (ks2 := 0) dX12_cost_9 lmX12_351 oX12_isHalting (Nat.le_of_ble_eq_true rfl) rfl rfl (Nat.le_of_ble_eq_true rfl) rfl rfl (Call.mono hf ?_)
  rintro _ h1 ⟨z2, rfl, hf⟩
  refine R_if_ne (tgt := 19) dX12_cost_12 (by decide) (fun b3 => ?_) (fun b3 => ?_)
  · have hf := hf.1 b3
    refine R_aload_n dX12_cost_19 rfl 0 rfl ?_
    refine R_iload_n dX12_cost_20 rfl 1 rfl ?_
    refine R_iload_n dX12_cost_21 rfl 3 rfl ?_
    refine R_iload dX12_cost_22 4 rfl ?_
    refine R_iload dX12_cost_24 5 rfl ?_
    refine R_iload dX12_cost_26 6 rfl ?_
    obtain ⟨ob4, hf⟩ := hf
    refine R_callV (ci := 12) (N := mX12_makeMeans) (as := [.int x1, .int x3, .int x4, .int x5, .int x6]) (rest := []) (kc2 := 0) (ks2 := 0) dX12_cost_28 lmX12_357 oX12_makeMeans (Nat.le_of_ble_eq_true rfl) rfl rfl (Nat.le_of_ble_eq_true rfl) rfl rfl ob4 ok12 (Call.mono hf ?_)
    rintro _ h5 ⟨w6, rfl, hf⟩
    refine R_lstore dX12_cost_31 (by decide) rfl ?_
    refine R_lload dX12_cost_33 0 rfl ?_
    refine R_iload dX12_cost_35 5 rfl ?_
    refine R_i2l dX12_cost_37 ?_
    refine R_lmul dX12_cost_38 ?_
    refine R_aload_n dX12_cost_39 rfl 1 rfl ?_
    refine R_iconst (v := 0) dX12_cost_40 (by decide) ?_
    refine R_lload dX12_cost_41 0 rfl ?_
    refine R_iload_n dX12_cost_43 rfl 4 rfl ?_
    refine R_iload dX12_cost_44 6 rfl ?_
    refine R_iload dX12_cost_46 7 rfl ?_
    obtain ⟨ob7, hf⟩ := hf
    refine R_callV (ci := 12) (N := mX12_goOn) (as := [.int 0, .long w6, .int x3, .int x5, .int x6]) (rest := [.long (w6 * x4.toInt64)]) (kc2 := 0) (ks2 := 0) dX12_cost_48 lmX12_347 oX12_goOn (Nat.le_of_ble_eq_true rfl) rfl rfl (Nat.le_of_ble_eq_true rfl) rfl rfl ob7 ok12 (Call.mono hf ?_)
    rintro _ h8 ⟨w9, rfl, hf⟩
    refine R_ladd dX12_cost_51 ?_
    refine R_lstore dX12_cost_52 (by decide) rfl ?_
    refine R_aload_n dX12_cost_54 rfl 2 rfl ?_
    refine R_iload_n dX12_cost_55 rfl 4 rfl ?_
    refine R_lload dX12_cost_56 1 rfl ?_
    refine R_iload_n dX12_cost_58 rfl 5 rfl ?_
    refine R_iload dX12_cost_59 7 rfl ?_
    refine R_iload dX12_cost_61 8 rfl ?_
    obtain ⟨ob10, hf⟩ := hf
    refine R_callV (ci := 12) (N := mX12_goOn) (as := [.int x2, .long w6, .int x3, .int x5, .int x6]) (rest := []) (kc2 := 0) (ks2 := 0) dX12_cost_63 lmX12_347 oX12_goOn (Nat.le_of_ble_eq_true rfl) rfl rfl (Nat.le_of_ble_eq_true rfl) rfl rfl ob10 ok12 (Call.mono hf ?_)
    rintro _ h11 ⟨w12, rfl, hf⟩
    refine R_lstore dX12_cost_66 (by decide) rfl ?_
    refine R_lload dX12_cost_68 1 rfl ?_
    refine R_lload dX12_cost_70 0 rfl ?_
    refine R_lcmp dX12_cost_72 ?_
    have key : ∀ w14 : Int64, w14 = (if 0 ≤ (lg_cmp ((w6 * x4.toInt64) + w9) w12) then w12 else ((w6 * x4.toInt64) + w9)) → Rr mX12_cost 0 0 83 [] [.long w14] h11 P := by
      intro w14 ew14
      have hf := hf w14 ew14
      exact R_lret dX12_cost_83 rfl hf
    refine R_if_ge (tgt := 81) dX12_cost_73 (by decide) (fun b13 => ?_) (fun b13 => ?_)
    · refine R_lload dX12_cost_81 0 rfl ?_
      exact R_sub [] rfl (key _ (by rw [if_pos b13]))
    · refine R_lload dX12_cost_76 1 rfl ?_
      refine R_goto (tgt := 83) dX12_cost_78 (by decide) ?_
      exact R_sub [] rfl (key _ (by rw [if_neg b13]))
  · have hf := hf.2 b3
    refine R_ldc2 (v := (-2)) dX12_cost_15 lcX12_355 ?_
    exact R_lret dX12_cost_18 rfl hf
theorem dX12_halt_0 : decode cX12_halt 0 = .ok (.iload_n 1, 1) := by decide +kernel
theorem dX12_halt_1 : decode cX12_halt 1 = .ok (.iload_n 2, 1) := by decide +kernel
theorem dX12_halt_2 : decode cX12_halt 2 = .ok (.iload_n 3, 1) := by decide +kernel
theorem dX12_halt_3 : decode cX12_halt 3 = .ok (.iload 4, 2) := by decide +kernel
theorem dX12_halt_5 : decode cX12_halt 5 = .ok (.iload 5, 2) := by decide +kernel
theorem dX12_halt_7 : decode cX12_halt 7 = .ok (.iload 6, 2) := by decide +kernel
theorem dX12_halt_9 : decode cX12_halt 9 = .ok (.invokestatic 351, 3) := by decide +kernel
theorem dX12_halt_12 : decode cX12_halt 12 = .ok (.ifCond .ne 6, 3) := by decide +kernel
theorem dX12_halt_15 : decode cX12_halt 15 = .ok (.bipush (-2), 2) := by decide +kernel
theorem dX12_halt_17 : decode cX12_halt 17 = .ok (.ireturn, 1) := by decide +kernel
theorem dX12_halt_18 : decode cX12_halt 18 = .ok (.aload_n 0, 1) := by decide +kernel
theorem dX12_halt_19 : decode cX12_halt 19 = .ok (.iload_n 1, 1) := by decide +kernel
theorem dX12_halt_20 : decode cX12_halt 20 = .ok (.iload_n 3, 1) := by decide +kernel
theorem dX12_halt_21 : decode cX12_halt 21 = .ok (.iload 4, 2) := by decide +kernel
theorem dX12_halt_23 : decode cX12_halt 23 = .ok (.iload 5, 2) := by decide +kernel
theorem dX12_halt_25 : decode cX12_halt 25 = .ok (.iload 6, 2) := by decide +kernel
theorem dX12_halt_27 : decode cX12_halt 27 = .ok (.invokevirtual 357, 3) := by decide +kernel
theorem dX12_halt_30 : decode cX12_halt 30 = .ok (.lstore 7, 2) := by decide +kernel
theorem dX12_halt_32 : decode cX12_halt 32 = .ok (.lload 7, 2) := by decide +kernel
theorem dX12_halt_34 : decode cX12_halt 34 = .ok (.iload 4, 2) := by decide +kernel
theorem dX12_halt_36 : decode cX12_halt 36 = .ok (.i2l, 1) := by decide +kernel
theorem dX12_halt_37 : decode cX12_halt 37 = .ok (.lmul, 1) := by decide +kernel
theorem dX12_halt_38 : decode cX12_halt 38 = .ok (.aload_n 0, 1) := by decide +kernel
theorem dX12_halt_39 : decode cX12_halt 39 = .ok (.iconst 0, 1) := by decide +kernel
theorem dX12_halt_40 : decode cX12_halt 40 = .ok (.lload 7, 2) := by decide +kernel
theorem dX12_halt_42 : decode cX12_halt 42 = .ok (.iload_n 3, 1) := by decide +kernel
theorem dX12_halt_43 : decode cX12_halt 43 = .ok (.iload 5, 2) := by decide +kernel
theorem dX12_halt_45 : decode cX12_halt 45 = .ok (.iload 6, 2) := by decide +kernel
theorem dX12_halt_47 : decode cX12_halt 47 = .ok (.invokevirtual 347, 3) := by decide +kernel
theorem dX12_halt_50 : decode cX12_halt 50 = .ok (.ladd, 1) := by decide +kernel
theorem dX12_halt_51 : decode cX12_halt 51 = .ok (.aload_n 0, 1) := by decide +kernel
theorem dX12_halt_52 : decode cX12_halt 52 = .ok (.iload_n 2, 1) := by decide +kernel
theorem dX12_halt_53 : decode cX12_halt 53 = .ok (.lload 7, 2) := by decide +kernel
theorem dX12_halt_55 : decode cX12_halt 55 = .ok (.iload_n 3, 1) := by decide +kernel
theorem dX12_halt_56 : decode cX12_halt 56 = .ok (.iload 5, 2) := by decide +kernel
theorem dX12_halt_58 : decode cX12_halt 58 = .ok (.iload 6, 2) := by decide +kernel
theorem dX12_halt_60 : decode cX12_halt 60 = .ok (.invokevirtual 347, 3) := by decide +kernel
theorem dX12_halt_63 : decode cX12_halt 63 = .ok (.lcmp, 1) := by decide +kernel
theorem dX12_halt_64 : decode cX12_halt 64 = .ok (.ifCond .ge 7, 3) := by decide +kernel
theorem dX12_halt_67 : decode cX12_halt 67 = .ok (.iconst 1, 1) := by decide +kernel
theorem dX12_halt_68 : decode cX12_halt 68 = .ok (.goto 4, 3) := by decide +kernel
theorem dX12_halt_71 : decode cX12_halt 71 = .ok (.iconst 0, 1) := by decide +kernel
theorem dX12_halt_72 : decode cX12_halt 72 = .ok (.ireturn, 1) := by decide +kernel
set_option maxRecDepth 20000 in
theorem sX12_halt_0 {P : Option Value → AH → Prop} (h : AH) (r0 : Nat) (x1 : Int32) (x2 : Int32) (x3 : Int32) (x4 : Int32) (x5 : Int32) (x6 : Int32) (hf : Call mX12_isHalting [.int x1, .int x2, .int x3, .int x4, .int x5, .int x6] h (fun v h1 => ∃ z2 : Int32, v = some (.int z2) ∧ ((¬ z2 = 0 → (isO h1 12 r0) ∧ (Call mX12_makeMeans [.ref r0, .int x1, .int x3, .int x4, .int x5, .int x6] h1 (fun v h5 => ∃ w6 : Int64, v = some (.long w6) ∧ ((isO h5 12 r0) ∧ (Call mX12_goOn [.ref r0, .int 0, .long w6, .int x3, .int x5, .int x6] h5 (fun v h8 => ∃ w9 : Int64, v = some (.long w9) ∧ ((isO h8 12 r0) ∧ (Call mX12_goOn [.ref r0, .int x2, .long w6, .int x3, .int x5, .int x6] h8 (fun v h11 => ∃ w12 : Int64, v = some (.long w12) ∧ (P (some (.int (bi (¬ 0 ≤ (lg_cmp ((w6 * x4.toInt64) + w9) w12))))) h11)))))))))) ∧ (z2 = 0 → P (some (.int (-2))) h1)))) : Rr mX12_halt 0 0 0 [(0, .ref r0), (1, .int x1), (2, .int x2), (3, .int x3), (4, .int x4), (5, .int x5), (6, .int x6)] [] h P := by
  refine R_iload_n dX12_halt_0 rfl 1 rfl ?_
  refine R_iload_n dX12_halt_1 rfl 2 rfl ?_
  refine R_iload_n dX12_halt_2 rfl 3 rfl ?_
  refine R_iload dX12_halt_3 4 rfl ?_
  refine R_iload dX12_halt_5 5 rfl ?_
  refine R_iload dX12_halt_7 6 rfl ?_
  refine R_callS (N := mX12_isHalting) (as := [.int x1, .int x2, .int x3, .int x4, .int x5, .int x6]) (rest := []) (kc2 := 0) (ks2 := 0) dX12_halt_9 lmX12_351 oX12_isHalting (Nat.le_of_ble_eq_true rfl) rfl rfl (Nat.le_of_ble_eq_true rfl) rfl rfl (Call.mono hf ?_)
  rintro _ h1 ⟨z2, rfl, hf⟩
  refine R_if_ne (tgt := 18) dX12_halt_12 (by decide) (fun b3 => ?_) (fun b3 => ?_)
  · have hf := hf.1 b3
    refine R_aload_n dX12_halt_18 rfl 0 rfl ?_
    refine R_iload_n dX12_halt_19 rfl 1 rfl ?_
    refine R_iload_n dX12_halt_20 rfl 3 rfl ?_
    refine R_iload dX12_halt_21 4 rfl ?_
    refine R_iload dX12_halt_23 5 rfl ?_
    refine R_iload dX12_halt_25 6 rfl ?_
    obtain ⟨ob4, hf⟩ := hf
    refine R_callV (ci := 12) (N := mX12_makeMeans) (as := [.int x1, .int x3, .int x4, .int x5, .int x6]) (rest := []) (kc2 := 0) (ks2 := 0) dX12_halt_27 lmX12_357 oX12_makeMeans (Nat.le_of_ble_eq_true rfl) rfl rfl (Nat.le_of_ble_eq_true rfl) rfl rfl ob4 ok12 (Call.mono hf ?_)
    rintro _ h5 ⟨w6, rfl, hf⟩
    refine R_lstore dX12_halt_30 (by decide) rfl ?_
    refine R_lload dX12_halt_32 0 rfl ?_
    refine R_iload dX12_halt_34 5 rfl ?_
    refine R_i2l dX12_halt_36 ?_
    refine R_lmul dX12_halt_37 ?_
    refine R_aload_n dX12_halt_38 rfl 1 rfl ?_
    refine R_iconst (v := 0) dX12_halt_39 (by decide) ?_
    refine R_lload dX12_halt_40 0 rfl ?_
    refine R_iload_n dX12_halt_42 rfl 4 rfl ?_
    refine R_iload dX12_halt_43 6 rfl ?_
    refine R_iload dX12_halt_45 7 rfl ?_
    obtain ⟨ob7, hf⟩ := hf
    refine R_callV (ci := 12) (N := mX12_goOn) (as := [.int 0, .long w6, .int x3, .int x5, .int x6]) (rest := [.long (w6 * x4.toInt64)]) (kc2 := 0) (ks2 := 0) dX12_halt_47 lmX12_347 oX12_goOn (Nat.le_of_ble_eq_true rfl) rfl rfl (Nat.le_of_ble_eq_true rfl) rfl rfl ob7 ok12 (Call.mono hf ?_)
    rintro _ h8 ⟨w9, rfl, hf⟩
    refine R_ladd dX12_halt_50 ?_
    refine R_aload_n dX12_halt_51 rfl 1 rfl ?_
    refine R_iload_n dX12_halt_52 rfl 3 rfl ?_
    refine R_lload dX12_halt_53 0 rfl ?_
    refine R_iload_n dX12_halt_55 rfl 4 rfl ?_
    refine R_iload dX12_halt_56 6 rfl ?_
    refine R_iload dX12_halt_58 7 rfl ?_
    obtain ⟨ob10, hf⟩ := hf
    refine R_callV (ci := 12) (N := mX12_goOn) (as := [.int x2, .long w6, .int x3, .int x5, .int x6]) (rest := [.long ((w6 * x4.toInt64) + w9)]) (kc2 := 0) (ks2 := 0) dX12_halt_60 lmX12_347 oX12_goOn (Nat.le_of_ble_eq_true rfl) rfl rfl (Nat.le_of_ble_eq_true rfl) rfl rfl ob10 ok12 (Call.mono hf ?_)
    rintro _ h11 ⟨w12, rfl, hf⟩
    refine R_lcmp dX12_halt_63 ?_
    have key :  Rr mX12_halt 0 0 72 [] [.int (bi (¬ 0 ≤ (lg_cmp ((w6 * x4.toInt64) + w9) w12)))] h11 P := by
      exact R_iret dX12_halt_72 rfl rfl hf
    refine R_if_ge (tgt := 71) dX12_halt_64 (by decide) (fun b13 => ?_) (fun b13 => ?_)
    · refine R_iconst (v := 0) dX12_halt_71 (by decide) ?_
      have kb := key
      rw [show bi (¬ 0 ≤ (lg_cmp ((w6 * x4.toInt64) + w9) w12)) = 0 from by simp only [bi, b13, false_and, and_false, true_and, and_true, not_true_eq_false, not_false_eq_true, if_true, if_false, true_or, or_true, false_or, or_false, reduceIte]] at kb
      exact R_sub [] rfl kb
    · refine R_iconst (v := 1) dX12_halt_67 (by decide) ?_
      refine R_goto (tgt := 72) dX12_halt_68 (by decide) ?_
      have kb := key
      rw [show bi (¬ 0 ≤ (lg_cmp ((w6 * x4.toInt64) + w9) w12)) = 1 from by simp only [bi, b13, false_and, and_false, true_and, and_true, not_true_eq_false, not_false_eq_true, if_true, if_false, true_or, or_true, false_or, or_false, reduceIte]] at kb
      exact R_sub [] rfl kb
  · have hf := hf.2 b3
    refine R_bipush (v := (-2)) dX12_halt_15 (by decide) ?_
    exact R_iret dX12_halt_17 rfl rfl hf
theorem dX12_held_0 : decode cX12_held 0 = .ok (.iload_n 1, 1) := by decide +kernel
theorem dX12_held_1 : decode cX12_held 1 = .ok (.iconst 0, 1) := by decide +kernel
theorem dX12_held_2 : decode cX12_held 2 = .ok (.bipush 24, 2) := by decide +kernel
theorem dX12_held_4 : decode cX12_held 4 = .ok (.invokestatic 178, 3) := by decide +kernel
theorem dX12_held_7 : decode cX12_held 7 = .ok (.ifCond .eq 34, 3) := by decide +kernel
theorem dX12_held_10 : decode cX12_held 10 = .ok (.iload_n 2, 1) := by decide +kernel
theorem dX12_held_11 : decode cX12_held 11 = .ok (.iconst 0, 1) := by decide +kernel
theorem dX12_held_12 : decode cX12_held 12 = .ok (.bipush 24, 2) := by decide +kernel
theorem dX12_held_14 : decode cX12_held 14 = .ok (.invokestatic 178, 3) := by decide +kernel
theorem dX12_held_17 : decode cX12_held 17 = .ok (.ifCond .eq 24, 3) := by decide +kernel
theorem dX12_held_20 : decode cX12_held 20 = .ok (.iload_n 3, 1) := by decide +kernel
theorem dX12_held_21 : decode cX12_held 21 = .ok (.iconst 0, 1) := by decide +kernel
theorem dX12_held_22 : decode cX12_held 22 = .ok (.bipush 24, 2) := by decide +kernel
theorem dX12_held_24 : decode cX12_held 24 = .ok (.invokestatic 178, 3) := by decide +kernel
theorem dX12_held_27 : decode cX12_held 27 = .ok (.ifCond .eq 14, 3) := by decide +kernel
theorem dX12_held_30 : decode cX12_held 30 = .ok (.iload 4, 2) := by decide +kernel
theorem dX12_held_32 : decode cX12_held 32 = .ok (.iconst 0, 1) := by decide +kernel
theorem dX12_held_33 : decode cX12_held 33 = .ok (.bipush 24, 2) := by decide +kernel
theorem dX12_held_35 : decode cX12_held 35 = .ok (.invokestatic 178, 3) := by decide +kernel
theorem dX12_held_38 : decode cX12_held 38 = .ok (.ifCond .ne 6, 3) := by decide +kernel
theorem dX12_held_41 : decode cX12_held 41 = .ok (.bipush (-2), 2) := by decide +kernel
theorem dX12_held_43 : decode cX12_held 43 = .ok (.ireturn, 1) := by decide +kernel
theorem dX12_held_44 : decode cX12_held 44 = .ok (.aload_n 0, 1) := by decide +kernel
theorem dX12_held_45 : decode cX12_held 45 = .ok (.getfield 335, 3) := by decide +kernel
theorem dX12_held_48 : decode cX12_held 48 = .ok (.ifCond .ne 6, 3) := by decide +kernel
theorem dX12_held_51 : decode cX12_held 51 = .ok (.bipush (-4), 2) := by decide +kernel
theorem dX12_held_53 : decode cX12_held 53 = .ok (.ireturn, 1) := by decide +kernel
theorem dX12_held_54 : decode cX12_held 54 = .ok (.iconst 0, 1) := by decide +kernel
theorem dX12_held_55 : decode cX12_held 55 = .ok (.istore 5, 2) := by decide +kernel
theorem dX12_held_57 : decode cX12_held 57 = .ok (.iconst 0, 1) := by decide +kernel
theorem dX12_held_58 : decode cX12_held 58 = .ok (.istore 6, 2) := by decide +kernel
theorem dX12_held_60 : decode cX12_held 60 = .ok (.iload 6, 2) := by decide +kernel
theorem dX12_held_62 : decode cX12_held 62 = .ok (.bipush 16, 2) := by decide +kernel
theorem dX12_held_64 : decode cX12_held 64 = .ok (.if_icmp .ge 110, 3) := by decide +kernel
theorem dX12_held_67 : decode cX12_held 67 = .ok (.aload_n 0, 1) := by decide +kernel
theorem dX12_held_68 : decode cX12_held 68 = .ok (.iconst 0, 1) := by decide +kernel
theorem dX12_held_69 : decode cX12_held 69 = .ok (.iload_n 1, 1) := by decide +kernel
theorem dX12_held_70 : decode cX12_held 70 = .ok (.iload 6, 2) := by decide +kernel
theorem dX12_held_72 : decode cX12_held 72 = .ok (.invokevirtual 338, 3) := by decide +kernel
theorem dX12_held_75 : decode cX12_held 75 = .ok (.aload_n 0, 1) := by decide +kernel
theorem dX12_held_76 : decode cX12_held 76 = .ok (.getfield 96, 3) := by decide +kernel
theorem dX12_held_79 : decode cX12_held 79 = .ok (.iload 6, 2) := by decide +kernel
theorem dX12_held_81 : decode cX12_held 81 = .ok (.iaload, 1) := by decide +kernel
theorem dX12_held_82 : decode cX12_held 82 = .ok (.ixor, 1) := by decide +kernel
theorem dX12_held_83 : decode cX12_held 83 = .ok (.istore 7, 2) := by decide +kernel
theorem dX12_held_85 : decode cX12_held 85 = .ok (.iload 7, 2) := by decide +kernel
theorem dX12_held_87 : decode cX12_held 87 = .ok (.aload_n 0, 1) := by decide +kernel
theorem dX12_held_88 : decode cX12_held 88 = .ok (.iconst 1, 1) := by decide +kernel
theorem dX12_held_89 : decode cX12_held 89 = .ok (.iload_n 2, 1) := by decide +kernel
theorem dX12_held_90 : decode cX12_held 90 = .ok (.iload 6, 2) := by decide +kernel
theorem dX12_held_92 : decode cX12_held 92 = .ok (.invokevirtual 338, 3) := by decide +kernel
theorem dX12_held_95 : decode cX12_held 95 = .ok (.aload_n 0, 1) := by decide +kernel
theorem dX12_held_96 : decode cX12_held 96 = .ok (.getfield 96, 3) := by decide +kernel
theorem dX12_held_99 : decode cX12_held 99 = .ok (.bipush 16, 2) := by decide +kernel
theorem dX12_held_101 : decode cX12_held 101 = .ok (.iload 6, 2) := by decide +kernel
theorem dX12_held_103 : decode cX12_held 103 = .ok (.iadd, 1) := by decide +kernel
theorem dX12_held_104 : decode cX12_held 104 = .ok (.iaload, 1) := by decide +kernel
theorem dX12_held_105 : decode cX12_held 105 = .ok (.ixor, 1) := by decide +kernel
theorem dX12_held_106 : decode cX12_held 106 = .ok (.ior, 1) := by decide +kernel
theorem dX12_held_107 : decode cX12_held 107 = .ok (.istore 7, 2) := by decide +kernel
theorem dX12_held_109 : decode cX12_held 109 = .ok (.iload 7, 2) := by decide +kernel
theorem dX12_held_111 : decode cX12_held 111 = .ok (.aload_n 0, 1) := by decide +kernel
theorem dX12_held_112 : decode cX12_held 112 = .ok (.iconst 2, 1) := by decide +kernel
theorem dX12_held_113 : decode cX12_held 113 = .ok (.iload_n 3, 1) := by decide +kernel
theorem dX12_held_114 : decode cX12_held 114 = .ok (.iload 6, 2) := by decide +kernel
theorem dX12_held_116 : decode cX12_held 116 = .ok (.invokevirtual 338, 3) := by decide +kernel
theorem dX12_held_119 : decode cX12_held 119 = .ok (.aload_n 0, 1) := by decide +kernel
theorem dX12_held_120 : decode cX12_held 120 = .ok (.getfield 96, 3) := by decide +kernel
theorem dX12_held_123 : decode cX12_held 123 = .ok (.bipush 32, 2) := by decide +kernel
theorem dX12_held_125 : decode cX12_held 125 = .ok (.iload 6, 2) := by decide +kernel
theorem dX12_held_127 : decode cX12_held 127 = .ok (.iadd, 1) := by decide +kernel
theorem dX12_held_128 : decode cX12_held 128 = .ok (.iaload, 1) := by decide +kernel
theorem dX12_held_129 : decode cX12_held 129 = .ok (.ixor, 1) := by decide +kernel
theorem dX12_held_130 : decode cX12_held 130 = .ok (.ior, 1) := by decide +kernel
theorem dX12_held_131 : decode cX12_held 131 = .ok (.istore 7, 2) := by decide +kernel
theorem dX12_held_133 : decode cX12_held 133 = .ok (.iload 7, 2) := by decide +kernel
theorem dX12_held_135 : decode cX12_held 135 = .ok (.aload_n 0, 1) := by decide +kernel
theorem dX12_held_136 : decode cX12_held 136 = .ok (.iconst 3, 1) := by decide +kernel
theorem dX12_held_137 : decode cX12_held 137 = .ok (.iload 4, 2) := by decide +kernel
theorem dX12_held_139 : decode cX12_held 139 = .ok (.iload 6, 2) := by decide +kernel
theorem dX12_held_141 : decode cX12_held 141 = .ok (.invokevirtual 338, 3) := by decide +kernel
theorem dX12_held_144 : decode cX12_held 144 = .ok (.aload_n 0, 1) := by decide +kernel
theorem dX12_held_145 : decode cX12_held 145 = .ok (.getfield 96, 3) := by decide +kernel
theorem dX12_held_148 : decode cX12_held 148 = .ok (.bipush 48, 2) := by decide +kernel
theorem dX12_held_150 : decode cX12_held 150 = .ok (.iload 6, 2) := by decide +kernel
theorem dX12_held_152 : decode cX12_held 152 = .ok (.iadd, 1) := by decide +kernel
theorem dX12_held_153 : decode cX12_held 153 = .ok (.iaload, 1) := by decide +kernel
theorem dX12_held_154 : decode cX12_held 154 = .ok (.ixor, 1) := by decide +kernel
theorem dX12_held_155 : decode cX12_held 155 = .ok (.ior, 1) := by decide +kernel
theorem dX12_held_156 : decode cX12_held 156 = .ok (.istore 7, 2) := by decide +kernel
theorem dX12_held_158 : decode cX12_held 158 = .ok (.iload 5, 2) := by decide +kernel
theorem dX12_held_160 : decode cX12_held 160 = .ok (.iload 7, 2) := by decide +kernel
theorem dX12_held_162 : decode cX12_held 162 = .ok (.invokestatic 316, 3) := by decide +kernel
theorem dX12_held_165 : decode cX12_held 165 = .ok (.iadd, 1) := by decide +kernel
theorem dX12_held_166 : decode cX12_held 166 = .ok (.istore 5, 2) := by decide +kernel
theorem dX12_held_168 : decode cX12_held 168 = .ok (.iinc 6 1, 3) := by decide +kernel
theorem dX12_held_171 : decode cX12_held 171 = .ok (.goto (-111), 3) := by decide +kernel
theorem dX12_held_174 : decode cX12_held 174 = .ok (.iload 5, 2) := by decide +kernel
theorem dX12_held_176 : decode cX12_held 176 = .ok (.ireturn, 1) := by decide +kernel
set_option maxRecDepth 20000 in
theorem sX12_held_0 {P : Option Value → AH → Prop} (h : AH) (r0 : Nat) (x1 : Int32) (x2 : Int32) (x3 : Int32) (x4 : Int32) (hf : (¬ (¬ x1 < 0 ∧ ¬ 24 < x1) → P (some (.int (-2))) h) ∧ ((¬ x1 < 0 ∧ ¬ 24 < x1) → (¬ (¬ x2 < 0 ∧ ¬ 24 < x2) → P (some (.int (-2))) h) ∧ ((¬ x2 < 0 ∧ ¬ 24 < x2) → (¬ (¬ x3 < 0 ∧ ¬ 24 < x3) → P (some (.int (-2))) h) ∧ ((¬ x3 < 0 ∧ ¬ 24 < x3) → ((¬ x4 < 0 ∧ ¬ 24 < x4) → (isO h 12 r0) ∧ ((¬ (gI h r0 51) = 0 → Rr mX12_held 0 0 60 [(0, .ref r0), (1, .int x1), (2, .int x2), (3, .int x3), (4, .int x4), (5, .int 0), (6, .int 0)] [] h P) ∧ ((gI h r0 51) = 0 → P (some (.int (-4))) h))) ∧ (¬ (¬ x4 < 0 ∧ ¬ 24 < x4) → P (some (.int (-2))) h))))) : Rr mX12_held 0 0 0 [(0, .ref r0), (1, .int x1), (2, .int x2), (3, .int x3), (4, .int x4)] [] h P := by
  refine R_iload_n dX12_held_0 rfl 1 rfl ?_
  refine R_iconst (v := 0) dX12_held_1 (by decide) ?_
  refine R_bipush (v := 24) dX12_held_2 (by decide) ?_
  refine R_callS (N := mX12_in) (as := [.int x1, .int 0, .int 24]) (rest := []) (kc2 := 0) (ks2 := 0) dX12_held_4 lmX12_178 oX12_in (Nat.le_of_ble_eq_true rfl) rfl rfl (Nat.le_of_ble_eq_true rfl) rfl rfl (aX12_in  ?_)
  refine R_if_eq_b (tgt := 41) dX12_held_7 (by decide) (fun b1 => ?_) (fun b1 => ?_)
  · have hf := hf.1 b1
    refine R_bipush (v := (-2)) dX12_held_41 (by decide) ?_
    exact R_iret dX12_held_43 rfl rfl hf
  · have hf := hf.2 b1
    refine R_iload_n dX12_held_10 rfl 2 rfl ?_
    refine R_iconst (v := 0) dX12_held_11 (by decide) ?_
    refine R_bipush (v := 24) dX12_held_12 (by decide) ?_
    refine R_callS (N := mX12_in) (as := [.int x2, .int 0, .int 24]) (rest := []) (kc2 := 0) (ks2 := 0) dX12_held_14 lmX12_178 oX12_in (Nat.le_of_ble_eq_true rfl) rfl rfl (Nat.le_of_ble_eq_true rfl) rfl rfl (aX12_in  ?_)
    refine R_if_eq_b (tgt := 41) dX12_held_17 (by decide) (fun b2 => ?_) (fun b2 => ?_)
    · have hf := hf.1 b2
      refine R_bipush (v := (-2)) dX12_held_41 (by decide) ?_
      exact R_iret dX12_held_43 rfl rfl hf
    · have hf := hf.2 b2
      refine R_iload_n dX12_held_20 rfl 3 rfl ?_
      refine R_iconst (v := 0) dX12_held_21 (by decide) ?_
      refine R_bipush (v := 24) dX12_held_22 (by decide) ?_
      refine R_callS (N := mX12_in) (as := [.int x3, .int 0, .int 24]) (rest := []) (kc2 := 0) (ks2 := 0) dX12_held_24 lmX12_178 oX12_in (Nat.le_of_ble_eq_true rfl) rfl rfl (Nat.le_of_ble_eq_true rfl) rfl rfl (aX12_in  ?_)
      refine R_if_eq_b (tgt := 41) dX12_held_27 (by decide) (fun b3 => ?_) (fun b3 => ?_)
      · have hf := hf.1 b3
        refine R_bipush (v := (-2)) dX12_held_41 (by decide) ?_
        exact R_iret dX12_held_43 rfl rfl hf
      · have hf := hf.2 b3
        refine R_iload dX12_held_30 4 rfl ?_
        refine R_iconst (v := 0) dX12_held_32 (by decide) ?_
        refine R_bipush (v := 24) dX12_held_33 (by decide) ?_
        refine R_callS (N := mX12_in) (as := [.int x4, .int 0, .int 24]) (rest := []) (kc2 := 0) (ks2 := 0) dX12_held_35 lmX12_178 oX12_in (Nat.le_of_ble_eq_true rfl) rfl rfl (Nat.le_of_ble_eq_true rfl) rfl rfl (aX12_in  ?_)
        refine R_if_ne_b (tgt := 44) dX12_held_38 (by decide) (fun b4 => ?_) (fun b4 => ?_)
        · have hf := hf.1 b4
          refine R_aload_n dX12_held_44 rfl 0 rfl ?_
          obtain ⟨ob5, hf⟩ := hf
          refine G12_51 dX12_held_45 lfX12_335 ob5 ?_
          refine R_if_ne (tgt := 54) dX12_held_48 (by decide) (fun b6 => ?_) (fun b6 => ?_)
          · have hf := hf.1 b6
            refine R_iconst (v := 0) dX12_held_54 (by decide) ?_
            refine R_istore dX12_held_55 (by decide) rfl ?_
            refine R_iconst (v := 0) dX12_held_57 (by decide) ?_
            refine R_istore dX12_held_58 (by decide) rfl ?_
            exact R_sub [2, 3, 4, 5, 6, 1, 0] rfl hf
          · have hf := hf.2 b6
            refine R_bipush (v := (-4)) dX12_held_51 (by decide) ?_
            exact R_iret dX12_held_53 rfl rfl hf
        · have hf := hf.2 b4
          refine R_bipush (v := (-2)) dX12_held_41 (by decide) ?_
          exact R_iret dX12_held_43 rfl rfl hf
set_option maxRecDepth 20000 in
theorem sX12_held_60 {P : Option Value → AH → Prop} (h : AH) (r0 : Nat) (x1 : Int32) (x2 : Int32) (x3 : Int32) (x4 : Int32) (x5 : Int32) (x6 : Int32) (hf : (16 ≤ x6 → P (some (.int x5)) h) ∧ (¬ 16 ≤ x6 → (isO h 12 r0) ∧ (Call mX12_heldRow [.ref r0, .int 0, .int x1, .int x6] h (fun v h3 => ∃ z4 : Int32, v = some (.int z4) ∧ ((isO h3 12 r0) ∧ ((isA h3 0 (gF h3 r0 52)) ∧ ((vp_in x6 (ln (gF h3 r0 52))) ∧ (Call mX12_heldRow [.ref r0, .int 1, .int x2, .int x6] h3 (fun v h8 => ∃ z9 : Int32, v = some (.int z9) ∧ ((isO h8 12 r0) ∧ ((isA h8 0 (gF h8 r0 52)) ∧ ((vp_in (16 + x6) (ln (gF h8 r0 52))) ∧ (∀ v13 : Int32, v13 = ((z4 ^^^ (gI h3 (gF h3 r0 52) x6.toNatClampNeg)) ||| (z9 ^^^ (gI h8 (gF h8 r0 52) (16 + x6).toNatClampNeg))) → (Call mX12_heldRow [.ref r0, .int 2, .int x3, .int x6] h8 (fun v h14 => ∃ z15 : Int32, v = some (.int z15) ∧ ((isO h14 12 r0) ∧ ((isA h14 0 (gF h14 r0 52)) ∧ ((vp_in (32 + x6) (ln (gF h14 r0 52))) ∧ (Call mX12_heldRow [.ref r0, .int 3, .int x4, .int x6] h14 (fun v h19 => ∃ z20 : Int32, v = some (.int z20) ∧ ((isO h19 12 r0) ∧ ((isA h19 0 (gF h19 r0 52)) ∧ ((vp_in (48 + x6) (ln (gF h19 r0 52))) ∧ (∀ v24 : Int32, v24 = ((v13 ||| (z15 ^^^ (gI h14 (gF h14 r0 52) (32 + x6).toNatClampNeg))) ||| (z20 ^^^ (gI h19 (gF h19 r0 52) (48 + x6).toNatClampNeg))) → (Call mX12_bits [.int v24] h19 (fun v h25 => ∃ z26 : Int32, v = some (.int z26) ∧ (Rr mX12_held 0 0 60 [(0, .ref r0), (1, .int x1), (2, .int x2), (3, .int x3), (4, .int x4), (5, .int (x5 + z26)), (6, .int (x6 + 1))] [] h25 P))))))))))))))))))))))))))) : Rr mX12_held 0 0 60 [(0, .ref r0), (1, .int x1), (2, .int x2), (3, .int x3), (4, .int x4), (5, .int x5), (6, .int x6)] [] h P := by
  refine R_iload dX12_held_60 6 rfl ?_
  refine R_bipush (v := 16) dX12_held_62 (by decide) ?_
  refine R_icmp_ge (tgt := 174) dX12_held_64 (by decide) (fun b1 => ?_) (fun b1 => ?_)
  · have hf := hf.1 b1
    refine R_iload dX12_held_174 5 rfl ?_
    exact R_iret dX12_held_176 rfl rfl hf
  · have hf := hf.2 b1
    refine R_aload_n dX12_held_67 rfl 0 rfl ?_
    refine R_iconst (v := 0) dX12_held_68 (by decide) ?_
    refine R_iload_n dX12_held_69 rfl 1 rfl ?_
    refine R_iload dX12_held_70 6 rfl ?_
    obtain ⟨ob2, hf⟩ := hf
    refine R_callV (ci := 12) (N := mX12_heldRow) (as := [.int 0, .int x1, .int x6]) (rest := []) (kc2 := 0) (ks2 := 0) dX12_held_72 lmX12_338 oX12_heldRow (Nat.le_of_ble_eq_true rfl) rfl rfl (Nat.le_of_ble_eq_true rfl) rfl rfl ob2 ok12 (Call.mono hf ?_)
    rintro _ h3 ⟨z4, rfl, hf⟩
    refine R_aload_n dX12_held_75 rfl 0 rfl ?_
    obtain ⟨ob5, hf⟩ := hf
    refine G12_52 dX12_held_76 lfX12_96 ob5 ?_
    refine R_iload dX12_held_79 6 rfl ?_
    obtain ⟨ob6, hf⟩ := hf
    obtain ⟨ob7, hf⟩ := hf
    refine R_iaload dX12_held_81 ob6 ob7 ?_
    refine R_ixor dX12_held_82 ?_
    refine R_istore dX12_held_83 (by decide) rfl ?_
    refine R_iload dX12_held_85 0 rfl ?_
    refine R_aload_n dX12_held_87 rfl 1 rfl ?_
    refine R_iconst (v := 1) dX12_held_88 (by decide) ?_
    refine R_iload_n dX12_held_89 rfl 3 rfl ?_
    refine R_iload dX12_held_90 7 rfl ?_
    refine R_callV (ci := 12) (N := mX12_heldRow) (as := [.int 1, .int x2, .int x6]) (rest := [.int (z4 ^^^ (gI h3 (gF h3 r0 52) x6.toNatClampNeg))]) (kc2 := 0) (ks2 := 0) dX12_held_92 lmX12_338 oX12_heldRow (Nat.le_of_ble_eq_true rfl) rfl rfl (Nat.le_of_ble_eq_true rfl) rfl rfl ob5 ok12 (Call.mono hf ?_)
    rintro _ h8 ⟨z9, rfl, hf⟩
    refine R_aload_n dX12_held_95 rfl 1 rfl ?_
    obtain ⟨ob10, hf⟩ := hf
    refine G12_52 dX12_held_96 lfX12_96 ob10 ?_
    refine R_bipush (v := 16) dX12_held_99 (by decide) ?_
    refine R_iload dX12_held_101 7 rfl ?_
    refine R_iadd dX12_held_103 ?_
    obtain ⟨ob11, hf⟩ := hf
    obtain ⟨ob12, hf⟩ := hf
    refine R_iaload dX12_held_104 ob11 ob12 ?_
    refine R_ixor dX12_held_105 ?_
    refine R_ior dX12_held_106 ?_
    refine R_topi (fun v13 ev13 => ?_)
    have hf := hf v13 ev13
    refine R_istore dX12_held_107 (by decide) rfl ?_
    refine R_iload dX12_held_109 0 rfl ?_
    refine R_aload_n dX12_held_111 rfl 1 rfl ?_
    refine R_iconst (v := 2) dX12_held_112 (by decide) ?_
    refine R_iload_n dX12_held_113 rfl 4 rfl ?_
    refine R_iload dX12_held_114 7 rfl ?_
    refine R_callV (ci := 12) (N := mX12_heldRow) (as := [.int 2, .int x3, .int x6]) (rest := [.int v13]) (kc2 := 0) (ks2 := 0) dX12_held_116 lmX12_338 oX12_heldRow (Nat.le_of_ble_eq_true rfl) rfl rfl (Nat.le_of_ble_eq_true rfl) rfl rfl ob10 ok12 (Call.mono hf ?_)
    rintro _ h14 ⟨z15, rfl, hf⟩
    refine R_aload_n dX12_held_119 rfl 1 rfl ?_
    obtain ⟨ob16, hf⟩ := hf
    refine G12_52 dX12_held_120 lfX12_96 ob16 ?_
    refine R_bipush (v := 32) dX12_held_123 (by decide) ?_
    refine R_iload dX12_held_125 7 rfl ?_
    refine R_iadd dX12_held_127 ?_
    obtain ⟨ob17, hf⟩ := hf
    obtain ⟨ob18, hf⟩ := hf
    refine R_iaload dX12_held_128 ob17 ob18 ?_
    refine R_ixor dX12_held_129 ?_
    refine R_ior dX12_held_130 ?_
    refine R_istore dX12_held_131 (by decide) rfl ?_
    refine R_iload dX12_held_133 0 rfl ?_
    refine R_aload_n dX12_held_135 rfl 1 rfl ?_
    refine R_iconst (v := 3) dX12_held_136 (by decide) ?_
    refine R_iload dX12_held_137 5 rfl ?_
    refine R_iload dX12_held_139 7 rfl ?_
    refine R_callV (ci := 12) (N := mX12_heldRow) (as := [.int 3, .int x4, .int x6]) (rest := [.int (v13 ||| (z15 ^^^ (gI h14 (gF h14 r0 52) (32 + x6).toNatClampNeg)))]) (kc2 := 0) (ks2 := 0) dX12_held_141 lmX12_338 oX12_heldRow (Nat.le_of_ble_eq_true rfl) rfl rfl (Nat.le_of_ble_eq_true rfl) rfl rfl ob16 ok12 (Call.mono hf ?_)
    rintro _ h19 ⟨z20, rfl, hf⟩
    refine R_aload_n dX12_held_144 rfl 1 rfl ?_
    obtain ⟨ob21, hf⟩ := hf
    refine G12_52 dX12_held_145 lfX12_96 ob21 ?_
    refine R_bipush (v := 48) dX12_held_148 (by decide) ?_
    refine R_iload dX12_held_150 7 rfl ?_
    refine R_iadd dX12_held_152 ?_
    obtain ⟨ob22, hf⟩ := hf
    obtain ⟨ob23, hf⟩ := hf
    refine R_iaload dX12_held_153 ob22 ob23 ?_
    refine R_ixor dX12_held_154 ?_
    refine R_ior dX12_held_155 ?_
    refine R_topi (fun v24 ev24 => ?_)
    have hf := hf v24 ev24
    refine R_istore dX12_held_156 (by decide) rfl ?_
    refine R_iload dX12_held_158 6 rfl ?_
    refine R_iload dX12_held_160 0 rfl ?_
    refine R_callS (N := mX12_bits) (as := [.int v24]) (rest := [.int x5]) (kc2 := 0) (ks2 := 0) dX12_held_162 lmX12_316 oX12_bits (Nat.le_of_ble_eq_true rfl) rfl rfl (Nat.le_of_ble_eq_true rfl) rfl rfl (Call.mono hf ?_)
    rintro _ h25 ⟨z26, rfl, hf⟩
    refine R_iadd dX12_held_165 ?_
    refine R_istore dX12_held_166 (by decide) rfl ?_
    refine R_iinc (v := x6 + 1) dX12_held_168 7 rfl rfl (by decide) rfl ?_
    refine R_goto (tgt := 60) dX12_held_171 (by decide) ?_
    exact R_sub [3, 4, 5, 6, 7, 1, 0] rfl hf
theorem dX12_isPair_0 : decode cX12_isPair 0 = .ok (.iload_n 0, 1) := by decide +kernel
theorem dX12_isPair_1 : decode cX12_isPair 1 = .ok (.invokestatic 259, 3) := by decide +kernel
theorem dX12_isPair_4 : decode cX12_isPair 4 = .ok (.ifCond .eq 19, 3) := by decide +kernel
theorem dX12_isPair_7 : decode cX12_isPair 7 = .ok (.iload_n 1, 1) := by decide +kernel
theorem dX12_isPair_8 : decode cX12_isPair 8 = .ok (.invokestatic 259, 3) := by decide +kernel
theorem dX12_isPair_11 : decode cX12_isPair 11 = .ok (.ifCond .eq 12, 3) := by decide +kernel
theorem dX12_isPair_14 : decode cX12_isPair 14 = .ok (.iload_n 0, 1) := by decide +kernel
theorem dX12_isPair_15 : decode cX12_isPair 15 = .ok (.iload_n 1, 1) := by decide +kernel
theorem dX12_isPair_16 : decode cX12_isPair 16 = .ok (.if_icmp .eq 7, 3) := by decide +kernel
theorem dX12_isPair_19 : decode cX12_isPair 19 = .ok (.iconst 1, 1) := by decide +kernel
theorem dX12_isPair_20 : decode cX12_isPair 20 = .ok (.goto 4, 3) := by decide +kernel
theorem dX12_isPair_23 : decode cX12_isPair 23 = .ok (.iconst 0, 1) := by decide +kernel
theorem dX12_isPair_24 : decode cX12_isPair 24 = .ok (.ireturn, 1) := by decide +kernel
set_option maxRecDepth 20000 in
theorem sX12_isPair_0 {P : Option Value → AH → Prop} (h : AH) (x0 : Int32) (x1 : Int32) (hf : P (some (.int (bi ((¬ x0 < 0 ∧ ¬ 3 < x0) ∧ (¬ x1 < 0 ∧ ¬ 3 < x1) ∧ ¬ x0 = x1)))) h) : Rr mX12_isPair 0 0 0 [(0, .int x0), (1, .int x1)] [] h P := by
  refine R_iload_n dX12_isPair_0 rfl 0 rfl ?_
  refine R_callS (N := mX12_isInkNumber) (as := [.int x0]) (rest := []) (kc2 := 0) (ks2 := 0) dX12_isPair_1 lmX12_259 oX12_isInkNumber (Nat.le_of_ble_eq_true rfl) rfl rfl (Nat.le_of_ble_eq_true rfl) rfl rfl (aX12_isInkNumber  ?_)
  have key :  Rr mX12_isPair 0 0 24 [] [.int (bi ((¬ x0 < 0 ∧ ¬ 3 < x0) ∧ (¬ x1 < 0 ∧ ¬ 3 < x1) ∧ ¬ x0 = x1))] h P := by
    exact R_iret dX12_isPair_24 rfl (nb_n (bi_01 _)) hf
  refine R_if_eq_b (tgt := 23) dX12_isPair_4 (by decide) (fun b1 => ?_) (fun b1 => ?_)
  · refine R_iconst (v := 0) dX12_isPair_23 (by decide) ?_
    have kb := key
    rw [show bi ((¬ x0 < 0 ∧ ¬ 3 < x0) ∧ (¬ x1 < 0 ∧ ¬ 3 < x1) ∧ ¬ x0 = x1) = 0 from by simp only [bi, b1, false_and, and_false, true_and, and_true, not_true_eq_false, not_false_eq_true, if_true, if_false, true_or, or_true, false_or, or_false, reduceIte]] at kb
    exact R_sub [] rfl kb
  · refine R_iload_n dX12_isPair_7 rfl 1 rfl ?_
    refine R_callS (N := mX12_isInkNumber) (as := [.int x1]) (rest := []) (kc2 := 0) (ks2 := 0) dX12_isPair_8 lmX12_259 oX12_isInkNumber (Nat.le_of_ble_eq_true rfl) rfl rfl (Nat.le_of_ble_eq_true rfl) rfl rfl (aX12_isInkNumber  ?_)
    refine R_if_eq_b (tgt := 23) dX12_isPair_11 (by decide) (fun b2 => ?_) (fun b2 => ?_)
    · refine R_iconst (v := 0) dX12_isPair_23 (by decide) ?_
      have kb := key
      rw [show bi ((¬ x0 < 0 ∧ ¬ 3 < x0) ∧ (¬ x1 < 0 ∧ ¬ 3 < x1) ∧ ¬ x0 = x1) = 0 from by simp only [bi, b1, b2, false_and, and_false, true_and, and_true, not_true_eq_false, not_false_eq_true, if_true, if_false, true_or, or_true, false_or, or_false, reduceIte]] at kb
      exact R_sub [] rfl kb
    · refine R_iload_n dX12_isPair_14 rfl 0 rfl ?_
      refine R_iload_n dX12_isPair_15 rfl 1 rfl ?_
      refine R_icmp_eq (tgt := 23) dX12_isPair_16 (by decide) (fun b3 => ?_) (fun b3 => ?_)
      · refine R_iconst (v := 0) dX12_isPair_23 (by decide) ?_
        have kb := key
        rw [show bi ((¬ x0 < 0 ∧ ¬ 3 < x0) ∧ (¬ x1 < 0 ∧ ¬ 3 < x1) ∧ ¬ x0 = x1) = 0 from by simp only [bi, b1, b2, b3, false_and, and_false, true_and, and_true, not_true_eq_false, not_false_eq_true, if_true, if_false, true_or, or_true, false_or, or_false, reduceIte]] at kb
        exact R_sub [] rfl kb
      · refine R_iconst (v := 1) dX12_isPair_19 (by decide) ?_
        refine R_goto (tgt := 24) dX12_isPair_20 (by decide) ?_
        have kb := key
        rw [show bi ((¬ x0 < 0 ∧ ¬ 3 < x0) ∧ (¬ x1 < 0 ∧ ¬ 3 < x1) ∧ ¬ x0 = x1) = 1 from by simp only [bi, b1, b2, b3, false_and, and_false, true_and, and_true, not_true_eq_false, not_false_eq_true, if_true, if_false, true_or, or_true, false_or, or_false, reduceIte]] at kb
        exact R_sub [] rfl kb
theorem aX12_isPair {h : AH} {P : Option Value → AH → Prop} {x0 : Int32} {x1 : Int32}  (k : P (some (.int (bi ((¬ x0 < 0 ∧ ¬ 3 < x0) ∧ (¬ x1 < 0 ∧ ¬ 3 < x1) ∧ ¬ x0 = x1)))) h) : Call mX12_isPair [.int x0, .int x1] h P :=
  Call.ofR (by decide +kernel) (Nat.le_of_ble_eq_true rfl) (sX12_isPair_0 h x0 x1 (k))
theorem dX12_look_0 : decode cX12_look 0 = .ok (.aload_n 0, 1) := by decide +kernel
theorem dX12_look_1 : decode cX12_look 1 = .ok (.iload_n 1, 1) := by decide +kernel
theorem dX12_look_2 : decode cX12_look 2 = .ok (.iload_n 3, 1) := by decide +kernel
theorem dX12_look_3 : decode cX12_look 3 = .ok (.iconst 0, 1) := by decide +kernel
theorem dX12_look_4 : decode cX12_look 4 = .ok (.invokevirtual 303, 3) := by decide +kernel
theorem dX12_look_7 : decode cX12_look 7 = .ok (.aload_n 0, 1) := by decide +kernel
theorem dX12_look_8 : decode cX12_look 8 = .ok (.iload_n 2, 1) := by decide +kernel
theorem dX12_look_9 : decode cX12_look 9 = .ok (.iload 4, 2) := by decide +kernel
theorem dX12_look_11 : decode cX12_look 11 = .ok (.bipush 16, 2) := by decide +kernel
theorem dX12_look_13 : decode cX12_look 13 = .ok (.invokevirtual 303, 3) := by decide +kernel
theorem dX12_look_16 : decode cX12_look 16 = .ok (.aload_n 0, 1) := by decide +kernel
theorem dX12_look_17 : decode cX12_look 17 = .ok (.bipush 16, 2) := by decide +kernel
theorem dX12_look_19 : decode cX12_look 19 = .ok (.iload 5, 2) := by decide +kernel
theorem dX12_look_21 : decode cX12_look 21 = .ok (.iload 6, 2) := by decide +kernel
theorem dX12_look_23 : decode cX12_look 23 = .ok (.invokevirtual 307, 3) := by decide +kernel
theorem dX12_look_26 : decode cX12_look 26 = .ok (.aload_n 0, 1) := by decide +kernel
theorem dX12_look_27 : decode cX12_look 27 = .ok (.iconst 0, 1) := by decide +kernel
theorem dX12_look_28 : decode cX12_look 28 = .ok (.putfield 310, 3) := by decide +kernel
theorem dX12_look_31 : decode cX12_look 31 = .ok (.aload_n 0, 1) := by decide +kernel
theorem dX12_look_32 : decode cX12_look 32 = .ok (.iconst 0, 1) := by decide +kernel
theorem dX12_look_33 : decode cX12_look 33 = .ok (.putfield 313, 3) := by decide +kernel
theorem dX12_look_36 : decode cX12_look 36 = .ok (.iconst 0, 1) := by decide +kernel
theorem dX12_look_37 : decode cX12_look 37 = .ok (.istore 7, 2) := by decide +kernel
theorem dX12_look_39 : decode cX12_look 39 = .ok (.iload 7, 2) := by decide +kernel
theorem dX12_look_41 : decode cX12_look 41 = .ok (.bipush 16, 2) := by decide +kernel
theorem dX12_look_43 : decode cX12_look 43 = .ok (.if_icmp .ge 117, 3) := by decide +kernel
theorem dX12_look_46 : decode cX12_look 46 = .ok (.aload_n 0, 1) := by decide +kernel
theorem dX12_look_47 : decode cX12_look 47 = .ok (.getfield 33, 3) := by decide +kernel
theorem dX12_look_50 : decode cX12_look 50 = .ok (.bipush 16, 2) := by decide +kernel
theorem dX12_look_52 : decode cX12_look 52 = .ok (.iload_n 1, 1) := by decide +kernel
theorem dX12_look_53 : decode cX12_look 53 = .ok (.imul, 1) := by decide +kernel
theorem dX12_look_54 : decode cX12_look 54 = .ok (.iload 7, 2) := by decide +kernel
theorem dX12_look_56 : decode cX12_look 56 = .ok (.iadd, 1) := by decide +kernel
theorem dX12_look_57 : decode cX12_look 57 = .ok (.iaload, 1) := by decide +kernel
theorem dX12_look_58 : decode cX12_look 58 = .ok (.istore 8, 2) := by decide +kernel
theorem dX12_look_60 : decode cX12_look 60 = .ok (.aload_n 0, 1) := by decide +kernel
theorem dX12_look_61 : decode cX12_look 61 = .ok (.getfield 33, 3) := by decide +kernel
theorem dX12_look_64 : decode cX12_look 64 = .ok (.bipush 16, 2) := by decide +kernel
theorem dX12_look_66 : decode cX12_look 66 = .ok (.iload_n 2, 1) := by decide +kernel
theorem dX12_look_67 : decode cX12_look 67 = .ok (.imul, 1) := by decide +kernel
theorem dX12_look_68 : decode cX12_look 68 = .ok (.iload 7, 2) := by decide +kernel
theorem dX12_look_70 : decode cX12_look 70 = .ok (.iadd, 1) := by decide +kernel
theorem dX12_look_71 : decode cX12_look 71 = .ok (.iaload, 1) := by decide +kernel
theorem dX12_look_72 : decode cX12_look 72 = .ok (.istore 9, 2) := by decide +kernel
theorem dX12_look_74 : decode cX12_look 74 = .ok (.aload_n 0, 1) := by decide +kernel
theorem dX12_look_75 : decode cX12_look 75 = .ok (.dup, 1) := by decide +kernel
theorem dX12_look_76 : decode cX12_look 76 = .ok (.getfield 310, 3) := by decide +kernel
theorem dX12_look_79 : decode cX12_look 79 = .ok (.iload 8, 2) := by decide +kernel
theorem dX12_look_81 : decode cX12_look 81 = .ok (.iload 9, 2) := by decide +kernel
theorem dX12_look_83 : decode cX12_look 83 = .ok (.ior, 1) := by decide +kernel
theorem dX12_look_84 : decode cX12_look 84 = .ok (.aload_n 0, 1) := by decide +kernel
theorem dX12_look_85 : decode cX12_look 85 = .ok (.getfield 93, 3) := by decide +kernel
theorem dX12_look_88 : decode cX12_look 88 = .ok (.iconst 0, 1) := by decide +kernel
theorem dX12_look_89 : decode cX12_look 89 = .ok (.iload 7, 2) := by decide +kernel
theorem dX12_look_91 : decode cX12_look 91 = .ok (.iadd, 1) := by decide +kernel
theorem dX12_look_92 : decode cX12_look 92 = .ok (.iaload, 1) := by decide +kernel
theorem dX12_look_93 : decode cX12_look 93 = .ok (.aload_n 0, 1) := by decide +kernel
theorem dX12_look_94 : decode cX12_look 94 = .ok (.getfield 93, 3) := by decide +kernel
theorem dX12_look_97 : decode cX12_look 97 = .ok (.bipush 16, 2) := by decide +kernel
theorem dX12_look_99 : decode cX12_look 99 = .ok (.iload 7, 2) := by decide +kernel
theorem dX12_look_101 : decode cX12_look 101 = .ok (.iadd, 1) := by decide +kernel
theorem dX12_look_102 : decode cX12_look 102 = .ok (.iaload, 1) := by decide +kernel
theorem dX12_look_103 : decode cX12_look 103 = .ok (.ior, 1) := by decide +kernel
theorem dX12_look_104 : decode cX12_look 104 = .ok (.iconst (-1), 1) := by decide +kernel
theorem dX12_look_105 : decode cX12_look 105 = .ok (.ixor, 1) := by decide +kernel
theorem dX12_look_106 : decode cX12_look 106 = .ok (.iand, 1) := by decide +kernel
theorem dX12_look_107 : decode cX12_look 107 = .ok (.invokestatic 316, 3) := by decide +kernel
theorem dX12_look_110 : decode cX12_look 110 = .ok (.iadd, 1) := by decide +kernel
theorem dX12_look_111 : decode cX12_look 111 = .ok (.putfield 310, 3) := by decide +kernel
theorem dX12_look_114 : decode cX12_look 114 = .ok (.aload_n 0, 1) := by decide +kernel
theorem dX12_look_115 : decode cX12_look 115 = .ok (.dup, 1) := by decide +kernel
theorem dX12_look_116 : decode cX12_look 116 = .ok (.getfield 313, 3) := by decide +kernel
theorem dX12_look_119 : decode cX12_look 119 = .ok (.aload_n 0, 1) := by decide +kernel
theorem dX12_look_120 : decode cX12_look 120 = .ok (.getfield 93, 3) := by decide +kernel
theorem dX12_look_123 : decode cX12_look 123 = .ok (.iconst 0, 1) := by decide +kernel
theorem dX12_look_124 : decode cX12_look 124 = .ok (.iload 7, 2) := by decide +kernel
theorem dX12_look_126 : decode cX12_look 126 = .ok (.iadd, 1) := by decide +kernel
theorem dX12_look_127 : decode cX12_look 127 = .ok (.iaload, 1) := by decide +kernel
theorem dX12_look_128 : decode cX12_look 128 = .ok (.aload_n 0, 1) := by decide +kernel
theorem dX12_look_129 : decode cX12_look 129 = .ok (.getfield 93, 3) := by decide +kernel
theorem dX12_look_132 : decode cX12_look 132 = .ok (.bipush 16, 2) := by decide +kernel
theorem dX12_look_134 : decode cX12_look 134 = .ok (.iload 7, 2) := by decide +kernel
theorem dX12_look_136 : decode cX12_look 136 = .ok (.iadd, 1) := by decide +kernel
theorem dX12_look_137 : decode cX12_look 137 = .ok (.iaload, 1) := by decide +kernel
theorem dX12_look_138 : decode cX12_look 138 = .ok (.iand, 1) := by decide +kernel
theorem dX12_look_139 : decode cX12_look 139 = .ok (.iload 8, 2) := by decide +kernel
theorem dX12_look_141 : decode cX12_look 141 = .ok (.iload 9, 2) := by decide +kernel
theorem dX12_look_143 : decode cX12_look 143 = .ok (.iand, 1) := by decide +kernel
theorem dX12_look_144 : decode cX12_look 144 = .ok (.iconst (-1), 1) := by decide +kernel
theorem dX12_look_145 : decode cX12_look 145 = .ok (.ixor, 1) := by decide +kernel
theorem dX12_look_146 : decode cX12_look 146 = .ok (.iand, 1) := by decide +kernel
theorem dX12_look_147 : decode cX12_look 147 = .ok (.invokestatic 316, 3) := by decide +kernel
theorem dX12_look_150 : decode cX12_look 150 = .ok (.iadd, 1) := by decide +kernel
theorem dX12_look_151 : decode cX12_look 151 = .ok (.putfield 313, 3) := by decide +kernel
theorem dX12_look_154 : decode cX12_look 154 = .ok (.iinc 7 1, 3) := by decide +kernel
theorem dX12_look_157 : decode cX12_look 157 = .ok (.goto (-118), 3) := by decide +kernel
theorem dX12_look_160 : decode cX12_look 160 = .ok (.aload_n 0, 1) := by decide +kernel
theorem dX12_look_161 : decode cX12_look 161 = .ok (.getfield 310, 3) := by decide +kernel
theorem dX12_look_164 : decode cX12_look 164 = .ok (.aload_n 0, 1) := by decide +kernel
theorem dX12_look_165 : decode cX12_look 165 = .ok (.getfield 17, 3) := by decide +kernel
theorem dX12_look_168 : decode cX12_look 168 = .ok (.bipush 6, 2) := by decide +kernel
theorem dX12_look_170 : decode cX12_look 170 = .ok (.iaload, 1) := by decide +kernel
theorem dX12_look_171 : decode cX12_look 171 = .ok (.imul, 1) := by decide +kernel
theorem dX12_look_172 : decode cX12_look 172 = .ok (.aload_n 0, 1) := by decide +kernel
theorem dX12_look_173 : decode cX12_look 173 = .ok (.getfield 313, 3) := by decide +kernel
theorem dX12_look_176 : decode cX12_look 176 = .ok (.aload_n 0, 1) := by decide +kernel
theorem dX12_look_177 : decode cX12_look 177 = .ok (.getfield 17, 3) := by decide +kernel
theorem dX12_look_180 : decode cX12_look 180 = .ok (.bipush 7, 2) := by decide +kernel
theorem dX12_look_182 : decode cX12_look 182 = .ok (.iaload, 1) := by decide +kernel
theorem dX12_look_183 : decode cX12_look 183 = .ok (.imul, 1) := by decide +kernel
theorem dX12_look_184 : decode cX12_look 184 = .ok (.iadd, 1) := by decide +kernel
theorem dX12_look_185 : decode cX12_look 185 = .ok (.ireturn, 1) := by decide +kernel
set_option maxRecDepth 20000 in
theorem sX12_look_0 {P : Option Value → AH → Prop} (h : AH) (r0 : Nat) (x1 : Int32) (x2 : Int32) (x3 : Int32) (x4 : Int32) (x5 : Int32) (x6 : Int32) (hf : (isO h 12 r0) ∧ (Call mX12_spreadTo [.ref r0, .int x1, .int x3, .int 0] h (fun v h2 => v = none ∧ ((isO h2 12 r0) ∧ (Call mX12_spreadTo [.ref r0, .int x2, .int x4, .int 16] h2 (fun v h4 => v = none ∧ ((isO h4 12 r0) ∧ (Call mX12_carry [.ref r0, .int 16, .int x5, .int x6] h4 (fun v h6 => v = none ∧ ((isO h6 12 r0) ∧ (Rr mX12_look 0 0 39 [(0, .ref r0), (1, .int x1), (2, .int x2), (7, .int 0)] [] (sI (sI h6 r0 46 0) r0 47 0) P))))))))))) : Rr mX12_look 0 0 0 [(0, .ref r0), (1, .int x1), (2, .int x2), (3, .int x3), (4, .int x4), (5, .int x5), (6, .int x6)] [] h P := by
  refine R_aload_n dX12_look_0 rfl 0 rfl ?_
  refine R_iload_n dX12_look_1 rfl 1 rfl ?_
  refine R_iload_n dX12_look_2 rfl 3 rfl ?_
  refine R_iconst (v := 0) dX12_look_3 (by decide) ?_
  obtain ⟨ob1, hf⟩ := hf
  refine R_callV (ci := 12) (N := mX12_spreadTo) (as := [.int x1, .int x3, .int 0]) (rest := []) (kc2 := 0) (ks2 := 0) dX12_look_4 lmX12_303 oX12_spreadTo (Nat.le_of_ble_eq_true rfl) rfl rfl (Nat.le_of_ble_eq_true rfl) rfl rfl ob1 ok12 (Call.mono hf ?_)
  rintro _ h2 ⟨rfl, hf⟩
  refine R_aload_n dX12_look_7 rfl 0 rfl ?_
  refine R_iload_n dX12_look_8 rfl 2 rfl ?_
  refine R_iload dX12_look_9 4 rfl ?_
  refine R_bipush (v := 16) dX12_look_11 (by decide) ?_
  obtain ⟨ob3, hf⟩ := hf
  refine R_callV (ci := 12) (N := mX12_spreadTo) (as := [.int x2, .int x4, .int 16]) (rest := []) (kc2 := 0) (ks2 := 0) dX12_look_13 lmX12_303 oX12_spreadTo (Nat.le_of_ble_eq_true rfl) rfl rfl (Nat.le_of_ble_eq_true rfl) rfl rfl ob3 ok12 (Call.mono hf ?_)
  rintro _ h4 ⟨rfl, hf⟩
  refine R_aload_n dX12_look_16 rfl 0 rfl ?_
  refine R_bipush (v := 16) dX12_look_17 (by decide) ?_
  refine R_iload dX12_look_19 5 rfl ?_
  refine R_iload dX12_look_21 6 rfl ?_
  obtain ⟨ob5, hf⟩ := hf
  refine R_callV (ci := 12) (N := mX12_carry) (as := [.int 16, .int x5, .int x6]) (rest := []) (kc2 := 0) (ks2 := 0) dX12_look_23 lmX12_307 oX12_carry (Nat.le_of_ble_eq_true rfl) rfl rfl (Nat.le_of_ble_eq_true rfl) rfl rfl ob5 ok12 (Call.mono hf ?_)
  rintro _ h6 ⟨rfl, hf⟩
  refine R_aload_n dX12_look_26 rfl 0 rfl ?_
  refine R_iconst (v := 0) dX12_look_27 (by decide) ?_
  obtain ⟨ob7, hf⟩ := hf
  refine S12_46 dX12_look_28 lfX12_310 ob7 ?_
  refine R_aload_n dX12_look_31 rfl 0 rfl ?_
  refine R_iconst (v := 0) dX12_look_32 (by decide) ?_
  refine S12_47 dX12_look_33 lfX12_313 ob7 ?_
  refine R_iconst (v := 0) dX12_look_36 (by decide) ?_
  refine R_istore dX12_look_37 (by decide) rfl ?_
  exact R_sub [1, 2, 3, 0] rfl hf
set_option maxRecDepth 20000 in
theorem sX12_look_39 {P : Option Value → AH → Prop} (h : AH) (r0 : Nat) (x1 : Int32) (x2 : Int32) (x7 : Int32) (hf : (16 ≤ x7 → (isO h 12 r0) ∧ ((isA h 0 (gF h r0 11)) ∧ ((vp_in 6 (ln (gF h r0 11))) ∧ ((vp_in 7 (ln (gF h r0 11))) ∧ (P (some (.int (((gI h r0 46) * (gI h (gF h r0 11) (Int32.toNatClampNeg 6))) + ((gI h r0 47) * (gI h (gF h r0 11) (Int32.toNatClampNeg 7)))))) h))))) ∧ (¬ 16 ≤ x7 → (isO h 12 r0) ∧ ((isA h 0 (gF h r0 16)) ∧ ((vp_in ((16 * x1) + x7) (ln (gF h r0 16))) ∧ ((vp_in ((16 * x2) + x7) (ln (gF h r0 16))) ∧ ((isA h 0 (gF h r0 45)) ∧ ((vp_in (0 + x7) (ln (gF h r0 45))) ∧ ((vp_in (16 + x7) (ln (gF h r0 45))) ∧ (Call mX12_bits [.int (((gI h (gF h r0 16) ((16 * x1) + x7).toNatClampNeg) ||| (gI h (gF h r0 16) ((16 * x2) + x7).toNatClampNeg)) &&& (((gI h (gF h r0 45) (0 + x7).toNatClampNeg) ||| (gI h (gF h r0 45) (16 + x7).toNatClampNeg)) ^^^ (-1)))] h (fun v h13 => ∃ z14 : Int32, v = some (.int z14) ∧ ((isO h13 12 r0) ∧ ((isA h13 0 (gF h13 r0 45)) ∧ ((vp_in (0 + x7) (ln (gF h13 r0 45))) ∧ ((vp_in (16 + x7) (ln (gF h13 r0 45))) ∧ (Call mX12_bits [.int (((gI h13 (gF h13 r0 45) (0 + x7).toNatClampNeg) &&& (gI h13 (gF h13 r0 45) (16 + x7).toNatClampNeg)) &&& (((gI h (gF h r0 16) ((16 * x1) + x7).toNatClampNeg) &&& (gI h (gF h r0 16) ((16 * x2) + x7).toNatClampNeg)) ^^^ (-1)))] (sI h13 r0 46 ((gI h r0 46) + z14)) (fun v h19 => ∃ z20 : Int32, v = some (.int z20) ∧ ((isO h19 12 r0) ∧ (Rr mX12_look 0 0 39 [(0, .ref r0), (1, .int x1), (2, .int x2), (7, .int (x7 + 1))] [] (sI h19 r0 47 ((gI h13 r0 47) + z20)) P)))))))))))))))))) : Rr mX12_look 0 0 39 [(0, .ref r0), (1, .int x1), (2, .int x2), (7, .int x7)] [] h P := by
  refine R_iload dX12_look_39 3 rfl ?_
  refine R_bipush (v := 16) dX12_look_41 (by decide) ?_
  refine R_icmp_ge (tgt := 160) dX12_look_43 (by decide) (fun b1 => ?_) (fun b1 => ?_)
  · have hf := hf.1 b1
    refine R_aload_n dX12_look_160 rfl 0 rfl ?_
    obtain ⟨ob2, hf⟩ := hf
    refine G12_46 dX12_look_161 lfX12_310 ob2 ?_
    refine R_aload_n dX12_look_164 rfl 0 rfl ?_
    refine G12_11 dX12_look_165 lfX12_17 ob2 ?_
    refine R_bipush (v := 6) dX12_look_168 (by decide) ?_
    obtain ⟨ob3, hf⟩ := hf
    obtain ⟨ob4, hf⟩ := hf
    refine R_iaload dX12_look_170 ob3 ob4 ?_
    refine R_imul dX12_look_171 ?_
    refine R_aload_n dX12_look_172 rfl 0 rfl ?_
    refine G12_47 dX12_look_173 lfX12_313 ob2 ?_
    refine R_aload_n dX12_look_176 rfl 0 rfl ?_
    refine G12_11 dX12_look_177 lfX12_17 ob2 ?_
    refine R_bipush (v := 7) dX12_look_180 (by decide) ?_
    obtain ⟨ob5, hf⟩ := hf
    refine R_iaload dX12_look_182 ob3 ob5 ?_
    refine R_imul dX12_look_183 ?_
    refine R_iadd dX12_look_184 ?_
    exact R_iret dX12_look_185 rfl rfl hf
  · have hf := hf.2 b1
    refine R_aload_n dX12_look_46 rfl 0 rfl ?_
    obtain ⟨ob6, hf⟩ := hf
    refine G12_16 dX12_look_47 lfX12_33 ob6 ?_
    refine R_bipush (v := 16) dX12_look_50 (by decide) ?_
    refine R_iload_n dX12_look_52 rfl 1 rfl ?_
    refine R_imul dX12_look_53 ?_
    refine R_iload dX12_look_54 3 rfl ?_
    refine R_iadd dX12_look_56 ?_
    obtain ⟨ob7, hf⟩ := hf
    obtain ⟨ob8, hf⟩ := hf
    refine R_iaload dX12_look_57 ob7 ob8 ?_
    refine R_istore dX12_look_58 (by decide) rfl ?_
    refine R_aload_n dX12_look_60 rfl 1 rfl ?_
    refine G12_16 dX12_look_61 lfX12_33 ob6 ?_
    refine R_bipush (v := 16) dX12_look_64 (by decide) ?_
    refine R_iload_n dX12_look_66 rfl 3 rfl ?_
    refine R_imul dX12_look_67 ?_
    refine R_iload dX12_look_68 4 rfl ?_
    refine R_iadd dX12_look_70 ?_
    obtain ⟨ob9, hf⟩ := hf
    refine R_iaload dX12_look_71 ob7 ob9 ?_
    refine R_istore dX12_look_72 (by decide) rfl ?_
    refine R_aload_n dX12_look_74 rfl 2 rfl ?_
    refine R_dup dX12_look_75 rfl ?_
    refine G12_46 dX12_look_76 lfX12_310 ob6 ?_
    refine R_iload dX12_look_79 1 rfl ?_
    refine R_iload dX12_look_81 0 rfl ?_
    refine R_ior dX12_look_83 ?_
    refine R_aload_n dX12_look_84 rfl 2 rfl ?_
    refine G12_45 dX12_look_85 lfX12_93 ob6 ?_
    refine R_iconst (v := 0) dX12_look_88 (by decide) ?_
    refine R_iload dX12_look_89 5 rfl ?_
    refine R_iadd dX12_look_91 ?_
    obtain ⟨ob10, hf⟩ := hf
    obtain ⟨ob11, hf⟩ := hf
    refine R_iaload dX12_look_92 ob10 ob11 ?_
    refine R_aload_n dX12_look_93 rfl 2 rfl ?_
    refine G12_45 dX12_look_94 lfX12_93 ob6 ?_
    refine R_bipush (v := 16) dX12_look_97 (by decide) ?_
    refine R_iload dX12_look_99 5 rfl ?_
    refine R_iadd dX12_look_101 ?_
    obtain ⟨ob12, hf⟩ := hf
    refine R_iaload dX12_look_102 ob10 ob12 ?_
    refine R_ior dX12_look_103 ?_
    refine R_iconst (v := (-1)) dX12_look_104 (by decide) ?_
    refine R_ixor dX12_look_105 ?_
    refine R_iand dX12_look_106 ?_
    refine R_callS (N := mX12_bits) (as := [.int (((gI h (gF h r0 16) ((16 * x1) + x7).toNatClampNeg) ||| (gI h (gF h r0 16) ((16 * x2) + x7).toNatClampNeg)) &&& (((gI h (gF h r0 45) (0 + x7).toNatClampNeg) ||| (gI h (gF h r0 45) (16 + x7).toNatClampNeg)) ^^^ (-1)))]) (rest := [.int (gI h r0 46), .ref r0]) (kc2 := 0) (ks2 := 0) dX12_look_107 lmX12_316 oX12_bits (Nat.le_of_ble_eq_true rfl) rfl rfl (Nat.le_of_ble_eq_true rfl) rfl rfl (Call.mono hf ?_)
    rintro _ h13 ⟨z14, rfl, hf⟩
    refine R_iadd dX12_look_110 ?_
    obtain ⟨ob15, hf⟩ := hf
    refine S12_46 dX12_look_111 lfX12_310 ob15 ?_
    refine R_aload_n dX12_look_114 rfl 2 rfl ?_
    refine R_dup dX12_look_115 rfl ?_
    refine G12_47 dX12_look_116 lfX12_313 ob15 ?_
    refine R_eqI (y := gI h13 r0 47) (rd_k (by decide)) ?_
    refine R_aload_n dX12_look_119 rfl 2 rfl ?_
    refine G12_45 dX12_look_120 lfX12_93 ob15 ?_
    refine R_eqF (y := gF h13 r0 45) rfl ?_
    refine R_iconst (v := 0) dX12_look_123 (by decide) ?_
    refine R_iload dX12_look_124 5 rfl ?_
    refine R_iadd dX12_look_126 ?_
    obtain ⟨ob16, hf⟩ := hf
    obtain ⟨ob17, hf⟩ := hf
    refine R_iaload dX12_look_127 ob16 ob17 ?_
    refine R_eqI (y := gI h13 (gF h13 r0 45) (0 + x7).toNatClampNeg) (rd_r (ne_ao ob16 ob15 (by decide))) ?_
    refine R_aload_n dX12_look_128 rfl 2 rfl ?_
    refine G12_45 dX12_look_129 lfX12_93 ob15 ?_
    refine R_eqF (y := gF h13 r0 45) rfl ?_
    refine R_bipush (v := 16) dX12_look_132 (by decide) ?_
    refine R_iload dX12_look_134 5 rfl ?_
    refine R_iadd dX12_look_136 ?_
    obtain ⟨ob18, hf⟩ := hf
    refine R_iaload dX12_look_137 ob16 ob18 ?_
    refine R_eqI (y := gI h13 (gF h13 r0 45) (16 + x7).toNatClampNeg) (rd_r (ne_ao ob16 ob15 (by decide))) ?_
    refine R_iand dX12_look_138 ?_
    refine R_iload dX12_look_139 1 rfl ?_
    refine R_iload dX12_look_141 0 rfl ?_
    refine R_iand dX12_look_143 ?_
    refine R_iconst (v := (-1)) dX12_look_144 (by decide) ?_
    refine R_ixor dX12_look_145 ?_
    refine R_iand dX12_look_146 ?_
    refine R_callS (N := mX12_bits) (as := [.int (((gI h13 (gF h13 r0 45) (0 + x7).toNatClampNeg) &&& (gI h13 (gF h13 r0 45) (16 + x7).toNatClampNeg)) &&& (((gI h (gF h r0 16) ((16 * x1) + x7).toNatClampNeg) &&& (gI h (gF h r0 16) ((16 * x2) + x7).toNatClampNeg)) ^^^ (-1)))]) (rest := [.int (gI h13 r0 47), .ref r0]) (kc2 := 0) (ks2 := 0) dX12_look_147 lmX12_316 oX12_bits (Nat.le_of_ble_eq_true rfl) rfl rfl (Nat.le_of_ble_eq_true rfl) rfl rfl (Call.mono hf ?_)
    rintro _ h19 ⟨z20, rfl, hf⟩
    refine R_iadd dX12_look_150 ?_
    obtain ⟨ob21, hf⟩ := hf
    refine S12_47 dX12_look_151 lfX12_313 ob21 ?_
    refine R_iinc (v := x7 + 1) dX12_look_154 5 rfl rfl (by decide) rfl ?_
    refine R_goto (tgt := 39) dX12_look_157 (by decide) ?_
    exact R_sub [3, 4, 5, 0] rfl hf
theorem dX12_makeFits_0 : decode cX12_makeFits 0 = .ok (.aload_n 0, 1) := by decide +kernel
theorem dX12_makeFits_1 : decode cX12_makeFits 1 = .ok (.iload_n 1, 1) := by decide +kernel
theorem dX12_makeFits_2 : decode cX12_makeFits 2 = .ok (.iload_n 2, 1) := by decide +kernel
theorem dX12_makeFits_3 : decode cX12_makeFits 3 = .ok (.invokevirtual 282, 3) := by decide +kernel
theorem dX12_makeFits_6 : decode cX12_makeFits 6 = .ok (.aload_n 0, 1) := by decide +kernel
theorem dX12_makeFits_7 : decode cX12_makeFits 7 = .ok (.iconst 0, 1) := by decide +kernel
theorem dX12_makeFits_8 : decode cX12_makeFits 8 = .ok (.putfield 279, 3) := by decide +kernel
theorem dX12_makeFits_11 : decode cX12_makeFits 11 = .ok (.bipush (-9), 2) := by decide +kernel
theorem dX12_makeFits_13 : decode cX12_makeFits 13 = .ok (.istore_n 3, 1) := by decide +kernel
theorem dX12_makeFits_14 : decode cX12_makeFits 14 = .ok (.iload_n 3, 1) := by decide +kernel
theorem dX12_makeFits_15 : decode cX12_makeFits 15 = .ok (.bipush 10, 2) := by decide +kernel
theorem dX12_makeFits_17 : decode cX12_makeFits 17 = .ok (.if_icmp .ge 113, 3) := by decide +kernel
theorem dX12_makeFits_20 : decode cX12_makeFits 20 = .ok (.bipush (-9), 2) := by decide +kernel
theorem dX12_makeFits_22 : decode cX12_makeFits 22 = .ok (.istore 4, 2) := by decide +kernel
theorem dX12_makeFits_24 : decode cX12_makeFits 24 = .ok (.iload 4, 2) := by decide +kernel
theorem dX12_makeFits_26 : decode cX12_makeFits 26 = .ok (.bipush 10, 2) := by decide +kernel
theorem dX12_makeFits_28 : decode cX12_makeFits 28 = .ok (.if_icmp .ge 96, 3) := by decide +kernel
theorem dX12_makeFits_31 : decode cX12_makeFits 31 = .ok (.bipush (-9), 2) := by decide +kernel
theorem dX12_makeFits_33 : decode cX12_makeFits 33 = .ok (.istore 5, 2) := by decide +kernel
theorem dX12_makeFits_35 : decode cX12_makeFits 35 = .ok (.iload 5, 2) := by decide +kernel
theorem dX12_makeFits_37 : decode cX12_makeFits 37 = .ok (.bipush 10, 2) := by decide +kernel
theorem dX12_makeFits_39 : decode cX12_makeFits 39 = .ok (.if_icmp .ge 79, 3) := by decide +kernel
theorem dX12_makeFits_42 : decode cX12_makeFits 42 = .ok (.iconst 0, 1) := by decide +kernel
theorem dX12_makeFits_43 : decode cX12_makeFits 43 = .ok (.istore 6, 2) := by decide +kernel
theorem dX12_makeFits_45 : decode cX12_makeFits 45 = .ok (.iload 6, 2) := by decide +kernel
theorem dX12_makeFits_47 : decode cX12_makeFits 47 = .ok (.bipush 10, 2) := by decide +kernel
theorem dX12_makeFits_49 : decode cX12_makeFits 49 = .ok (.if_icmp .ge 63, 3) := by decide +kernel
theorem dX12_makeFits_52 : decode cX12_makeFits 52 = .ok (.aload_n 0, 1) := by decide +kernel
theorem dX12_makeFits_53 : decode cX12_makeFits 53 = .ok (.iload_n 3, 1) := by decide +kernel
theorem dX12_makeFits_54 : decode cX12_makeFits 54 = .ok (.iload 4, 2) := by decide +kernel
theorem dX12_makeFits_56 : decode cX12_makeFits 56 = .ok (.iload 5, 2) := by decide +kernel
theorem dX12_makeFits_58 : decode cX12_makeFits 58 = .ok (.iload 6, 2) := by decide +kernel
theorem dX12_makeFits_60 : decode cX12_makeFits 60 = .ok (.invokevirtual 286, 3) := by decide +kernel
theorem dX12_makeFits_63 : decode cX12_makeFits 63 = .ok (.ifCond .ne 6, 3) := by decide +kernel
theorem dX12_makeFits_66 : decode cX12_makeFits 66 = .ok (.goto 40, 3) := by decide +kernel
theorem dX12_makeFits_69 : decode cX12_makeFits 69 = .ok (.aload_n 0, 1) := by decide +kernel
theorem dX12_makeFits_70 : decode cX12_makeFits 70 = .ok (.iconst 0, 1) := by decide +kernel
theorem dX12_makeFits_71 : decode cX12_makeFits 71 = .ok (.iload_n 3, 1) := by decide +kernel
theorem dX12_makeFits_72 : decode cX12_makeFits 72 = .ok (.invokevirtual 289, 3) := by decide +kernel
theorem dX12_makeFits_75 : decode cX12_makeFits 75 = .ok (.aload_n 0, 1) := by decide +kernel
theorem dX12_makeFits_76 : decode cX12_makeFits 76 = .ok (.iconst 1, 1) := by decide +kernel
theorem dX12_makeFits_77 : decode cX12_makeFits 77 = .ok (.iload 4, 2) := by decide +kernel
theorem dX12_makeFits_79 : decode cX12_makeFits 79 = .ok (.invokevirtual 289, 3) := by decide +kernel
theorem dX12_makeFits_82 : decode cX12_makeFits 82 = .ok (.aload_n 0, 1) := by decide +kernel
theorem dX12_makeFits_83 : decode cX12_makeFits 83 = .ok (.iconst 2, 1) := by decide +kernel
theorem dX12_makeFits_84 : decode cX12_makeFits 84 = .ok (.iload 5, 2) := by decide +kernel
theorem dX12_makeFits_86 : decode cX12_makeFits 86 = .ok (.invokevirtual 289, 3) := by decide +kernel
theorem dX12_makeFits_89 : decode cX12_makeFits 89 = .ok (.aload_n 0, 1) := by decide +kernel
theorem dX12_makeFits_90 : decode cX12_makeFits 90 = .ok (.iconst 3, 1) := by decide +kernel
theorem dX12_makeFits_91 : decode cX12_makeFits 91 = .ok (.iload 6, 2) := by decide +kernel
theorem dX12_makeFits_93 : decode cX12_makeFits 93 = .ok (.invokevirtual 289, 3) := by decide +kernel
theorem dX12_makeFits_96 : decode cX12_makeFits 96 = .ok (.aload_n 0, 1) := by decide +kernel
theorem dX12_makeFits_97 : decode cX12_makeFits 97 = .ok (.dup, 1) := by decide +kernel
theorem dX12_makeFits_98 : decode cX12_makeFits 98 = .ok (.getfield 279, 3) := by decide +kernel
theorem dX12_makeFits_101 : decode cX12_makeFits 101 = .ok (.iconst 1, 1) := by decide +kernel
theorem dX12_makeFits_102 : decode cX12_makeFits 102 = .ok (.iadd, 1) := by decide +kernel
theorem dX12_makeFits_103 : decode cX12_makeFits 103 = .ok (.putfield 279, 3) := by decide +kernel
theorem dX12_makeFits_106 : decode cX12_makeFits 106 = .ok (.iinc 6 1, 3) := by decide +kernel
theorem dX12_makeFits_109 : decode cX12_makeFits 109 = .ok (.goto (-64), 3) := by decide +kernel
theorem dX12_makeFits_112 : decode cX12_makeFits 112 = .ok (.iinc 5 1, 3) := by decide +kernel
theorem dX12_makeFits_115 : decode cX12_makeFits 115 = .ok (.goto (-80), 3) := by decide +kernel
theorem dX12_makeFits_118 : decode cX12_makeFits 118 = .ok (.iinc 4 1, 3) := by decide +kernel
theorem dX12_makeFits_121 : decode cX12_makeFits 121 = .ok (.goto (-97), 3) := by decide +kernel
theorem dX12_makeFits_124 : decode cX12_makeFits 124 = .ok (.iinc 3 1, 3) := by decide +kernel
theorem dX12_makeFits_127 : decode cX12_makeFits 127 = .ok (.goto (-113), 3) := by decide +kernel
theorem dX12_makeFits_130 : decode cX12_makeFits 130 = .ok (.return_, 1) := by decide +kernel
set_option maxRecDepth 20000 in
theorem sX12_makeFits_0 {P : Option Value → AH → Prop} (h : AH) (r0 : Nat) (x1 : Int32) (x2 : Int32) (hf : (isO h 12 r0) ∧ (Call mX12_ask [.ref r0, .int x1, .int x2] h (fun v h2 => v = none ∧ ((isO h2 12 r0) ∧ (Rr mX12_makeFits 0 0 14 [(0, .ref r0), (3, .int (-9))] [] (sI h2 r0 40 0) P))))) : Rr mX12_makeFits 0 0 0 [(0, .ref r0), (1, .int x1), (2, .int x2)] [] h P := by
  refine R_aload_n dX12_makeFits_0 rfl 0 rfl ?_
  refine R_iload_n dX12_makeFits_1 rfl 1 rfl ?_
  refine R_iload_n dX12_makeFits_2 rfl 2 rfl ?_
  obtain ⟨ob1, hf⟩ := hf
  refine R_callV (ci := 12) (N := mX12_ask) (as := [.int x1, .int x2]) (rest := []) (kc2 := 0) (ks2 := 0) dX12_makeFits_3 lmX12_282 oX12_ask (Nat.le_of_ble_eq_true rfl) rfl rfl (Nat.le_of_ble_eq_true rfl) rfl rfl ob1 ok12 (Call.mono hf ?_)
  rintro _ h2 ⟨rfl, hf⟩
  refine R_aload_n dX12_makeFits_6 rfl 0 rfl ?_
  refine R_iconst (v := 0) dX12_makeFits_7 (by decide) ?_
  obtain ⟨ob3, hf⟩ := hf
  refine S12_40 dX12_makeFits_8 lfX12_279 ob3 ?_
  refine R_bipush (v := (-9)) dX12_makeFits_11 (by decide) ?_
  refine R_istore_n dX12_makeFits_13 rfl (by decide) rfl ?_
  exact R_sub [1, 0] rfl hf
set_option maxRecDepth 20000 in
theorem sX12_makeFits_14 {P : Option Value → AH → Prop} (h : AH) (r0 : Nat) (x3 : Int32) (hf : (10 ≤ x3 → P none h) ∧ (¬ 10 ≤ x3 → Rr mX12_makeFits 0 0 24 [(0, .ref r0), (3, .int x3), (4, .int (-9))] [] h P)) : Rr mX12_makeFits 0 0 14 [(0, .ref r0), (3, .int x3)] [] h P := by
  refine R_iload_n dX12_makeFits_14 rfl 1 rfl ?_
  refine R_bipush (v := 10) dX12_makeFits_15 (by decide) ?_
  refine R_icmp_ge (tgt := 130) dX12_makeFits_17 (by decide) (fun b1 => ?_) (fun b1 => ?_)
  · have hf := hf.1 b1
    exact R_ret dX12_makeFits_130 rfl hf
  · have hf := hf.2 b1
    refine R_bipush (v := (-9)) dX12_makeFits_20 (by decide) ?_
    refine R_istore dX12_makeFits_22 (by decide) rfl ?_
    exact R_sub [1, 2, 0] rfl hf
set_option maxRecDepth 20000 in
theorem sX12_makeFits_24 {P : Option Value → AH → Prop} (h : AH) (r0 : Nat) (x3 : Int32) (x4 : Int32) (hf : (10 ≤ x4 → Rr mX12_makeFits 0 0 14 [(0, .ref r0), (3, .int (x3 + 1))] [] h P) ∧ (¬ 10 ≤ x4 → Rr mX12_makeFits 0 0 35 [(0, .ref r0), (3, .int x3), (4, .int x4), (5, .int (-9))] [] h P)) : Rr mX12_makeFits 0 0 24 [(0, .ref r0), (3, .int x3), (4, .int x4)] [] h P := by
  refine R_iload dX12_makeFits_24 2 rfl ?_
  refine R_bipush (v := 10) dX12_makeFits_26 (by decide) ?_
  refine R_icmp_ge (tgt := 124) dX12_makeFits_28 (by decide) (fun b1 => ?_) (fun b1 => ?_)
  · have hf := hf.1 b1
    refine R_iinc (v := x3 + 1) dX12_makeFits_124 1 rfl rfl (by decide) rfl ?_
    refine R_goto (tgt := 14) dX12_makeFits_127 (by decide) ?_
    exact R_sub [1, 0] rfl hf
  · have hf := hf.2 b1
    refine R_bipush (v := (-9)) dX12_makeFits_31 (by decide) ?_
    refine R_istore dX12_makeFits_33 (by decide) rfl ?_
    exact R_sub [1, 2, 3, 0] rfl hf
set_option maxRecDepth 20000 in
theorem sX12_makeFits_35 {P : Option Value → AH → Prop} (h : AH) (r0 : Nat) (x3 : Int32) (x4 : Int32) (x5 : Int32) (hf : (10 ≤ x5 → Rr mX12_makeFits 0 0 24 [(0, .ref r0), (3, .int x3), (4, .int (x4 + 1))] [] h P) ∧ (¬ 10 ≤ x5 → Rr mX12_makeFits 0 0 45 [(0, .ref r0), (3, .int x3), (4, .int x4), (5, .int x5), (6, .int 0)] [] h P)) : Rr mX12_makeFits 0 0 35 [(0, .ref r0), (3, .int x3), (4, .int x4), (5, .int x5)] [] h P := by
  refine R_iload dX12_makeFits_35 3 rfl ?_
  refine R_bipush (v := 10) dX12_makeFits_37 (by decide) ?_
  refine R_icmp_ge (tgt := 118) dX12_makeFits_39 (by decide) (fun b1 => ?_) (fun b1 => ?_)
  · have hf := hf.1 b1
    refine R_iinc (v := x4 + 1) dX12_makeFits_118 2 rfl rfl (by decide) rfl ?_
    refine R_goto (tgt := 24) dX12_makeFits_121 (by decide) ?_
    exact R_sub [1, 2, 0] rfl hf
  · have hf := hf.2 b1
    refine R_iconst (v := 0) dX12_makeFits_42 (by decide) ?_
    refine R_istore dX12_makeFits_43 (by decide) rfl ?_
    exact R_sub [1, 2, 3, 4, 0] rfl hf
set_option maxRecDepth 20000 in
theorem sX12_makeFits_45 {P : Option Value → AH → Prop} (h : AH) (r0 : Nat) (x3 : Int32) (x4 : Int32) (x5 : Int32) (x6 : Int32) (hf : (10 ≤ x6 → Rr mX12_makeFits 0 0 35 [(0, .ref r0), (3, .int x3), (4, .int x4), (5, .int (x5 + 1))] [] h P) ∧ (¬ 10 ≤ x6 → (isO h 12 r0) ∧ (Call mX12_isFit [.ref r0, .int x3, .int x4, .int x5, .int x6] h (fun v h3 => ∃ z4 : Int32, v = some (.int z4) ∧ ((¬ z4 = 0 → (isO h3 12 r0) ∧ (Call mX12_note [.ref r0, .int 0, .int x3] h3 (fun v h7 => v = none ∧ ((isO h7 12 r0) ∧ (Call mX12_note [.ref r0, .int 1, .int x4] h7 (fun v h9 => v = none ∧ ((isO h9 12 r0) ∧ (Call mX12_note [.ref r0, .int 2, .int x5] h9 (fun v h11 => v = none ∧ ((isO h11 12 r0) ∧ (Call mX12_note [.ref r0, .int 3, .int x6] h11 (fun v h13 => v = none ∧ ((isO h13 12 r0) ∧ (Rr mX12_makeFits 0 0 45 [(0, .ref r0), (3, .int x3), (4, .int x4), (5, .int x5), (6, .int (x6 + 1))] [] (sI h13 r0 40 ((gI h13 r0 40) + 1)) P)))))))))))))) ∧ (z4 = 0 → Rr mX12_makeFits 0 0 45 [(0, .ref r0), (3, .int x3), (4, .int x4), (5, .int x5), (6, .int (x6 + 1))] [] h3 P)))))) : Rr mX12_makeFits 0 0 45 [(0, .ref r0), (3, .int x3), (4, .int x4), (5, .int x5), (6, .int x6)] [] h P := by
  refine R_iload dX12_makeFits_45 4 rfl ?_
  refine R_bipush (v := 10) dX12_makeFits_47 (by decide) ?_
  refine R_icmp_ge (tgt := 112) dX12_makeFits_49 (by decide) (fun b1 => ?_) (fun b1 => ?_)
  · have hf := hf.1 b1
    refine R_iinc (v := x5 + 1) dX12_makeFits_112 3 rfl rfl (by decide) rfl ?_
    refine R_goto (tgt := 35) dX12_makeFits_115 (by decide) ?_
    exact R_sub [1, 2, 3, 0] rfl hf
  · have hf := hf.2 b1
    refine R_aload_n dX12_makeFits_52 rfl 0 rfl ?_
    refine R_iload_n dX12_makeFits_53 rfl 1 rfl ?_
    refine R_iload dX12_makeFits_54 2 rfl ?_
    refine R_iload dX12_makeFits_56 3 rfl ?_
    refine R_iload dX12_makeFits_58 4 rfl ?_
    obtain ⟨ob2, hf⟩ := hf
    refine R_callV (ci := 12) (N := mX12_isFit) (as := [.int x3, .int x4, .int x5, .int x6]) (rest := []) (kc2 := 0) (ks2 := 0) dX12_makeFits_60 lmX12_286 oX12_isFit (Nat.le_of_ble_eq_true rfl) rfl rfl (Nat.le_of_ble_eq_true rfl) rfl rfl ob2 ok12 (Call.mono hf ?_)
    rintro _ h3 ⟨z4, rfl, hf⟩
    refine R_if_ne (tgt := 69) dX12_makeFits_63 (by decide) (fun b5 => ?_) (fun b5 => ?_)
    · have hf := hf.1 b5
      refine R_aload_n dX12_makeFits_69 rfl 0 rfl ?_
      refine R_iconst (v := 0) dX12_makeFits_70 (by decide) ?_
      refine R_iload_n dX12_makeFits_71 rfl 1 rfl ?_
      obtain ⟨ob6, hf⟩ := hf
      refine R_callV (ci := 12) (N := mX12_note) (as := [.int 0, .int x3]) (rest := []) (kc2 := 0) (ks2 := 0) dX12_makeFits_72 lmX12_289 oX12_note (Nat.le_of_ble_eq_true rfl) rfl rfl (Nat.le_of_ble_eq_true rfl) rfl rfl ob6 ok12 (Call.mono hf ?_)
      rintro _ h7 ⟨rfl, hf⟩
      refine R_aload_n dX12_makeFits_75 rfl 0 rfl ?_
      refine R_iconst (v := 1) dX12_makeFits_76 (by decide) ?_
      refine R_iload dX12_makeFits_77 2 rfl ?_
      obtain ⟨ob8, hf⟩ := hf
      refine R_callV (ci := 12) (N := mX12_note) (as := [.int 1, .int x4]) (rest := []) (kc2 := 0) (ks2 := 0) dX12_makeFits_79 lmX12_289 oX12_note (Nat.le_of_ble_eq_true rfl) rfl rfl (Nat.le_of_ble_eq_true rfl) rfl rfl ob8 ok12 (Call.mono hf ?_)
      rintro _ h9 ⟨rfl, hf⟩
      refine R_aload_n dX12_makeFits_82 rfl 0 rfl ?_
      refine R_iconst (v := 2) dX12_makeFits_83 (by decide) ?_
      refine R_iload dX12_makeFits_84 3 rfl ?_
      obtain ⟨ob10, hf⟩ := hf
      refine R_callV (ci := 12) (N := mX12_note) (as := [.int 2, .int x5]) (rest := []) (kc2 := 0) (ks2 := 0) dX12_makeFits_86 lmX12_289 oX12_note (Nat.le_of_ble_eq_true rfl) rfl rfl (Nat.le_of_ble_eq_true rfl) rfl rfl ob10 ok12 (Call.mono hf ?_)
      rintro _ h11 ⟨rfl, hf⟩
      refine R_aload_n dX12_makeFits_89 rfl 0 rfl ?_
      refine R_iconst (v := 3) dX12_makeFits_90 (by decide) ?_
      refine R_iload dX12_makeFits_91 4 rfl ?_
      obtain ⟨ob12, hf⟩ := hf
      refine R_callV (ci := 12) (N := mX12_note) (as := [.int 3, .int x6]) (rest := []) (kc2 := 0) (ks2 := 0) dX12_makeFits_93 lmX12_289 oX12_note (Nat.le_of_ble_eq_true rfl) rfl rfl (Nat.le_of_ble_eq_true rfl) rfl rfl ob12 ok12 (Call.mono hf ?_)
      rintro _ h13 ⟨rfl, hf⟩
      refine R_aload_n dX12_makeFits_96 rfl 0 rfl ?_
      refine R_dup dX12_makeFits_97 rfl ?_
      obtain ⟨ob14, hf⟩ := hf
      refine G12_40 dX12_makeFits_98 lfX12_279 ob14 ?_
      refine R_iconst (v := 1) dX12_makeFits_101 (by decide) ?_
      refine R_iadd dX12_makeFits_102 ?_
      refine S12_40 dX12_makeFits_103 lfX12_279 ob14 ?_
      refine R_iinc (v := x6 + 1) dX12_makeFits_106 4 rfl rfl (by decide) rfl ?_
      refine R_goto (tgt := 45) dX12_makeFits_109 (by decide) ?_
      exact R_sub [1, 2, 3, 4, 0] rfl hf
    · have hf := hf.2 b5
      refine R_goto (tgt := 106) dX12_makeFits_66 (by decide) ?_
      refine R_iinc (v := x6 + 1) dX12_makeFits_106 4 rfl rfl (by decide) rfl ?_
      refine R_goto (tgt := 45) dX12_makeFits_109 (by decide) ?_
      exact R_sub [1, 2, 3, 4, 0] rfl hf
theorem dX12_mend_0 : decode cX12_mend 0 = .ok (.iload_n 1, 1) := by decide +kernel
theorem dX12_mend_1 : decode cX12_mend 1 = .ok (.invokestatic 259, 3) := by decide +kernel
theorem dX12_mend_4 : decode cX12_mend 4 = .ok (.ifCond .eq 15, 3) := by decide +kernel
theorem dX12_mend_7 : decode cX12_mend 7 = .ok (.iload_n 2, 1) := by decide +kernel
theorem dX12_mend_8 : decode cX12_mend 8 = .ok (.iload_n 3, 1) := by decide +kernel
theorem dX12_mend_9 : decode cX12_mend 9 = .ok (.iload 4, 2) := by decide +kernel
theorem dX12_mend_11 : decode cX12_mend 11 = .ok (.iload 5, 2) := by decide +kernel
theorem dX12_mend_13 : decode cX12_mend 13 = .ok (.invokestatic 262, 3) := by decide +kernel
theorem dX12_mend_16 : decode cX12_mend 16 = .ok (.ifCond .ne 6, 3) := by decide +kernel
theorem dX12_mend_19 : decode cX12_mend 19 = .ok (.bipush (-2), 2) := by decide +kernel
theorem dX12_mend_21 : decode cX12_mend 21 = .ok (.ireturn, 1) := by decide +kernel
theorem dX12_mend_22 : decode cX12_mend 22 = .ok (.iconst 2, 1) := by decide +kernel
theorem dX12_mend_23 : decode cX12_mend 23 = .ok (.aload_n 0, 1) := by decide +kernel
theorem dX12_mend_24 : decode cX12_mend 24 = .ok (.getfield 17, 3) := by decide +kernel
theorem dX12_mend_27 : decode cX12_mend 27 = .ok (.iconst 4, 1) := by decide +kernel
theorem dX12_mend_28 : decode cX12_mend 28 = .ok (.iaload, 1) := by decide +kernel
theorem dX12_mend_29 : decode cX12_mend 29 = .ok (.imul, 1) := by decide +kernel
theorem dX12_mend_30 : decode cX12_mend 30 = .ok (.iconst 1, 1) := by decide +kernel
theorem dX12_mend_31 : decode cX12_mend 31 = .ok (.iadd, 1) := by decide +kernel
theorem dX12_mend_32 : decode cX12_mend 32 = .ok (.istore 6, 2) := by decide +kernel
theorem dX12_mend_34 : decode cX12_mend 34 = .ok (.iconst 1, 1) := by decide +kernel
theorem dX12_mend_35 : decode cX12_mend 35 = .ok (.istore 7, 2) := by decide +kernel
theorem dX12_mend_37 : decode cX12_mend 37 = .ok (.iconst 0, 1) := by decide +kernel
theorem dX12_mend_38 : decode cX12_mend 38 = .ok (.istore 8, 2) := by decide +kernel
theorem dX12_mend_40 : decode cX12_mend 40 = .ok (.iload 8, 2) := by decide +kernel
theorem dX12_mend_42 : decode cX12_mend 42 = .ok (.aload_n 0, 1) := by decide +kernel
theorem dX12_mend_43 : decode cX12_mend 43 = .ok (.getfield 27, 3) := by decide +kernel
theorem dX12_mend_46 : decode cX12_mend 46 = .ok (.iload_n 1, 1) := by decide +kernel
theorem dX12_mend_47 : decode cX12_mend 47 = .ok (.iaload, 1) := by decide +kernel
theorem dX12_mend_48 : decode cX12_mend 48 = .ok (.if_icmp .ge 16, 3) := by decide +kernel
theorem dX12_mend_51 : decode cX12_mend 51 = .ok (.iload 7, 2) := by decide +kernel
theorem dX12_mend_53 : decode cX12_mend 53 = .ok (.iload 6, 2) := by decide +kernel
theorem dX12_mend_55 : decode cX12_mend 55 = .ok (.imul, 1) := by decide +kernel
theorem dX12_mend_56 : decode cX12_mend 56 = .ok (.istore 7, 2) := by decide +kernel
theorem dX12_mend_58 : decode cX12_mend 58 = .ok (.iinc 8 1, 3) := by decide +kernel
theorem dX12_mend_61 : decode cX12_mend 61 = .ok (.goto (-21), 3) := by decide +kernel
theorem dX12_mend_64 : decode cX12_mend 64 = .ok (.iconst (-1), 1) := by decide +kernel
theorem dX12_mend_65 : decode cX12_mend 65 = .ok (.istore 8, 2) := by decide +kernel
theorem dX12_mend_67 : decode cX12_mend 67 = .ok (.iconst 0, 1) := by decide +kernel
theorem dX12_mend_68 : decode cX12_mend 68 = .ok (.istore 9, 2) := by decide +kernel
theorem dX12_mend_70 : decode cX12_mend 70 = .ok (.iconst 0, 1) := by decide +kernel
theorem dX12_mend_71 : decode cX12_mend 71 = .ok (.istore 10, 2) := by decide +kernel
theorem dX12_mend_73 : decode cX12_mend 73 = .ok (.iconst 0, 1) := by decide +kernel
theorem dX12_mend_74 : decode cX12_mend 74 = .ok (.istore 11, 2) := by decide +kernel
theorem dX12_mend_76 : decode cX12_mend 76 = .ok (.iload 11, 2) := by decide +kernel
theorem dX12_mend_78 : decode cX12_mend 78 = .ok (.iload 7, 2) := by decide +kernel
theorem dX12_mend_80 : decode cX12_mend 80 = .ok (.if_icmp .ge 204, 3) := by decide +kernel
theorem dX12_mend_83 : decode cX12_mend 83 = .ok (.iload 11, 2) := by decide +kernel
theorem dX12_mend_85 : decode cX12_mend 85 = .ok (.istore 12, 2) := by decide +kernel
theorem dX12_mend_87 : decode cX12_mend 87 = .ok (.iconst 0, 1) := by decide +kernel
theorem dX12_mend_88 : decode cX12_mend 88 = .ok (.istore 13, 2) := by decide +kernel
theorem dX12_mend_90 : decode cX12_mend 90 = .ok (.iload_n 2, 1) := by decide +kernel
theorem dX12_mend_91 : decode cX12_mend 91 = .ok (.istore 14, 2) := by decide +kernel
theorem dX12_mend_93 : decode cX12_mend 93 = .ok (.iload_n 3, 1) := by decide +kernel
theorem dX12_mend_94 : decode cX12_mend 94 = .ok (.istore 15, 2) := by decide +kernel
theorem dX12_mend_96 : decode cX12_mend 96 = .ok (.iload 4, 2) := by decide +kernel
theorem dX12_mend_98 : decode cX12_mend 98 = .ok (.istore 16, 2) := by decide +kernel
theorem dX12_mend_100 : decode cX12_mend 100 = .ok (.aload_n 0, 1) := by decide +kernel
theorem dX12_mend_101 : decode cX12_mend 101 = .ok (.getfield 27, 3) := by decide +kernel
theorem dX12_mend_104 : decode cX12_mend 104 = .ok (.iload_n 1, 1) := by decide +kernel
theorem dX12_mend_105 : decode cX12_mend 105 = .ok (.iaload, 1) := by decide +kernel
theorem dX12_mend_106 : decode cX12_mend 106 = .ok (.iconst 1, 1) := by decide +kernel
theorem dX12_mend_107 : decode cX12_mend 107 = .ok (.isub, 1) := by decide +kernel
theorem dX12_mend_108 : decode cX12_mend 108 = .ok (.istore 17, 2) := by decide +kernel
theorem dX12_mend_110 : decode cX12_mend 110 = .ok (.iload 17, 2) := by decide +kernel
theorem dX12_mend_112 : decode cX12_mend 112 = .ok (.ifCond .lt 110, 3) := by decide +kernel
theorem dX12_mend_115 : decode cX12_mend 115 = .ok (.iload 12, 2) := by decide +kernel
theorem dX12_mend_117 : decode cX12_mend 117 = .ok (.iload 6, 2) := by decide +kernel
theorem dX12_mend_119 : decode cX12_mend 119 = .ok (.irem, 1) := by decide +kernel
theorem dX12_mend_120 : decode cX12_mend 120 = .ok (.aload_n 0, 1) := by decide +kernel
theorem dX12_mend_121 : decode cX12_mend 121 = .ok (.getfield 17, 3) := by decide +kernel
theorem dX12_mend_124 : decode cX12_mend 124 = .ok (.iconst 4, 1) := by decide +kernel
theorem dX12_mend_125 : decode cX12_mend 125 = .ok (.iaload, 1) := by decide +kernel
theorem dX12_mend_126 : decode cX12_mend 126 = .ok (.isub, 1) := by decide +kernel
theorem dX12_mend_127 : decode cX12_mend 127 = .ok (.istore 18, 2) := by decide +kernel
theorem dX12_mend_129 : decode cX12_mend 129 = .ok (.iload 12, 2) := by decide +kernel
theorem dX12_mend_131 : decode cX12_mend 131 = .ok (.iload 6, 2) := by decide +kernel
theorem dX12_mend_133 : decode cX12_mend 133 = .ok (.idiv, 1) := by decide +kernel
theorem dX12_mend_134 : decode cX12_mend 134 = .ok (.istore 12, 2) := by decide +kernel
theorem dX12_mend_136 : decode cX12_mend 136 = .ok (.iload 13, 2) := by decide +kernel
theorem dX12_mend_138 : decode cX12_mend 138 = .ok (.iload 18, 2) := by decide +kernel
theorem dX12_mend_140 : decode cX12_mend 140 = .ok (.invokestatic 276, 3) := by decide +kernel
theorem dX12_mend_143 : decode cX12_mend 143 = .ok (.iadd, 1) := by decide +kernel
theorem dX12_mend_144 : decode cX12_mend 144 = .ok (.istore 13, 2) := by decide +kernel
theorem dX12_mend_146 : decode cX12_mend 146 = .ok (.iload 14, 2) := by decide +kernel
theorem dX12_mend_148 : decode cX12_mend 148 = .ok (.iload 18, 2) := by decide +kernel
theorem dX12_mend_150 : decode cX12_mend 150 = .ok (.aload_n 0, 1) := by decide +kernel
theorem dX12_mend_151 : decode cX12_mend 151 = .ok (.getfield 30, 3) := by decide +kernel
theorem dX12_mend_154 : decode cX12_mend 154 = .ok (.bipush 9, 2) := by decide +kernel
theorem dX12_mend_156 : decode cX12_mend 156 = .ok (.iload_n 1, 1) := by decide +kernel
theorem dX12_mend_157 : decode cX12_mend 157 = .ok (.imul, 1) := by decide +kernel
theorem dX12_mend_158 : decode cX12_mend 158 = .ok (.iconst 3, 1) := by decide +kernel
theorem dX12_mend_159 : decode cX12_mend 159 = .ok (.iload 17, 2) := by decide +kernel
theorem dX12_mend_161 : decode cX12_mend 161 = .ok (.imul, 1) := by decide +kernel
theorem dX12_mend_162 : decode cX12_mend 162 = .ok (.iadd, 1) := by decide +kernel
theorem dX12_mend_163 : decode cX12_mend 163 = .ok (.iaload, 1) := by decide +kernel
theorem dX12_mend_164 : decode cX12_mend 164 = .ok (.imul, 1) := by decide +kernel
theorem dX12_mend_165 : decode cX12_mend 165 = .ok (.iadd, 1) := by decide +kernel
theorem dX12_mend_166 : decode cX12_mend 166 = .ok (.istore 14, 2) := by decide +kernel
theorem dX12_mend_168 : decode cX12_mend 168 = .ok (.iload 15, 2) := by decide +kernel
theorem dX12_mend_170 : decode cX12_mend 170 = .ok (.iload 18, 2) := by decide +kernel
theorem dX12_mend_172 : decode cX12_mend 172 = .ok (.aload_n 0, 1) := by decide +kernel
theorem dX12_mend_173 : decode cX12_mend 173 = .ok (.getfield 30, 3) := by decide +kernel
theorem dX12_mend_176 : decode cX12_mend 176 = .ok (.bipush 9, 2) := by decide +kernel
theorem dX12_mend_178 : decode cX12_mend 178 = .ok (.iload_n 1, 1) := by decide +kernel
theorem dX12_mend_179 : decode cX12_mend 179 = .ok (.imul, 1) := by decide +kernel
theorem dX12_mend_180 : decode cX12_mend 180 = .ok (.iconst 3, 1) := by decide +kernel
theorem dX12_mend_181 : decode cX12_mend 181 = .ok (.iload 17, 2) := by decide +kernel
theorem dX12_mend_183 : decode cX12_mend 183 = .ok (.imul, 1) := by decide +kernel
theorem dX12_mend_184 : decode cX12_mend 184 = .ok (.iadd, 1) := by decide +kernel
theorem dX12_mend_185 : decode cX12_mend 185 = .ok (.iconst 1, 1) := by decide +kernel
theorem dX12_mend_186 : decode cX12_mend 186 = .ok (.iadd, 1) := by decide +kernel
theorem dX12_mend_187 : decode cX12_mend 187 = .ok (.iaload, 1) := by decide +kernel
theorem dX12_mend_188 : decode cX12_mend 188 = .ok (.imul, 1) := by decide +kernel
theorem dX12_mend_189 : decode cX12_mend 189 = .ok (.iadd, 1) := by decide +kernel
theorem dX12_mend_190 : decode cX12_mend 190 = .ok (.istore 15, 2) := by decide +kernel
theorem dX12_mend_192 : decode cX12_mend 192 = .ok (.iload 16, 2) := by decide +kernel
theorem dX12_mend_194 : decode cX12_mend 194 = .ok (.iload 18, 2) := by decide +kernel
theorem dX12_mend_196 : decode cX12_mend 196 = .ok (.aload_n 0, 1) := by decide +kernel
theorem dX12_mend_197 : decode cX12_mend 197 = .ok (.getfield 30, 3) := by decide +kernel
theorem dX12_mend_200 : decode cX12_mend 200 = .ok (.bipush 9, 2) := by decide +kernel
theorem dX12_mend_202 : decode cX12_mend 202 = .ok (.iload_n 1, 1) := by decide +kernel
theorem dX12_mend_203 : decode cX12_mend 203 = .ok (.imul, 1) := by decide +kernel
theorem dX12_mend_204 : decode cX12_mend 204 = .ok (.iconst 3, 1) := by decide +kernel
theorem dX12_mend_205 : decode cX12_mend 205 = .ok (.iload 17, 2) := by decide +kernel
theorem dX12_mend_207 : decode cX12_mend 207 = .ok (.imul, 1) := by decide +kernel
theorem dX12_mend_208 : decode cX12_mend 208 = .ok (.iadd, 1) := by decide +kernel
theorem dX12_mend_209 : decode cX12_mend 209 = .ok (.iconst 2, 1) := by decide +kernel
theorem dX12_mend_210 : decode cX12_mend 210 = .ok (.iadd, 1) := by decide +kernel
theorem dX12_mend_211 : decode cX12_mend 211 = .ok (.iaload, 1) := by decide +kernel
theorem dX12_mend_212 : decode cX12_mend 212 = .ok (.imul, 1) := by decide +kernel
theorem dX12_mend_213 : decode cX12_mend 213 = .ok (.iadd, 1) := by decide +kernel
theorem dX12_mend_214 : decode cX12_mend 214 = .ok (.istore 16, 2) := by decide +kernel
theorem dX12_mend_216 : decode cX12_mend 216 = .ok (.iinc 17 (-1), 3) := by decide +kernel
theorem dX12_mend_219 : decode cX12_mend 219 = .ok (.goto (-109), 3) := by decide +kernel
theorem dX12_mend_222 : decode cX12_mend 222 = .ok (.aload_n 0, 1) := by decide +kernel
theorem dX12_mend_223 : decode cX12_mend 223 = .ok (.iload 14, 2) := by decide +kernel
theorem dX12_mend_225 : decode cX12_mend 225 = .ok (.iload 15, 2) := by decide +kernel
theorem dX12_mend_227 : decode cX12_mend 227 = .ok (.iload 16, 2) := by decide +kernel
theorem dX12_mend_229 : decode cX12_mend 229 = .ok (.iload 5, 2) := by decide +kernel
theorem dX12_mend_231 : decode cX12_mend 231 = .ok (.invokevirtual 295, 3) := by decide +kernel
theorem dX12_mend_234 : decode cX12_mend 234 = .ok (.istore 17, 2) := by decide +kernel
theorem dX12_mend_236 : decode cX12_mend 236 = .ok (.iload 8, 2) := by decide +kernel
theorem dX12_mend_238 : decode cX12_mend 238 = .ok (.iconst (-1), 1) := by decide +kernel
theorem dX12_mend_239 : decode cX12_mend 239 = .ok (.if_icmp .eq 27, 3) := by decide +kernel
theorem dX12_mend_242 : decode cX12_mend 242 = .ok (.iload 17, 2) := by decide +kernel
theorem dX12_mend_244 : decode cX12_mend 244 = .ok (.iload 9, 2) := by decide +kernel
theorem dX12_mend_246 : decode cX12_mend 246 = .ok (.if_icmp .gt 32, 3) := by decide +kernel
theorem dX12_mend_249 : decode cX12_mend 249 = .ok (.iload 17, 2) := by decide +kernel
theorem dX12_mend_251 : decode cX12_mend 251 = .ok (.iload 9, 2) := by decide +kernel
theorem dX12_mend_253 : decode cX12_mend 253 = .ok (.if_icmp .ne 13, 3) := by decide +kernel
theorem dX12_mend_256 : decode cX12_mend 256 = .ok (.iload 13, 2) := by decide +kernel
theorem dX12_mend_258 : decode cX12_mend 258 = .ok (.iload 10, 2) := by decide +kernel
theorem dX12_mend_260 : decode cX12_mend 260 = .ok (.if_icmp .lt 6, 3) := by decide +kernel
theorem dX12_mend_263 : decode cX12_mend 263 = .ok (.goto 15, 3) := by decide +kernel
theorem dX12_mend_266 : decode cX12_mend 266 = .ok (.iload 11, 2) := by decide +kernel
theorem dX12_mend_268 : decode cX12_mend 268 = .ok (.istore 8, 2) := by decide +kernel
theorem dX12_mend_270 : decode cX12_mend 270 = .ok (.iload 17, 2) := by decide +kernel
theorem dX12_mend_272 : decode cX12_mend 272 = .ok (.istore 9, 2) := by decide +kernel
theorem dX12_mend_274 : decode cX12_mend 274 = .ok (.iload 13, 2) := by decide +kernel
theorem dX12_mend_276 : decode cX12_mend 276 = .ok (.istore 10, 2) := by decide +kernel
theorem dX12_mend_278 : decode cX12_mend 278 = .ok (.iinc 11 1, 3) := by decide +kernel
theorem dX12_mend_281 : decode cX12_mend 281 = .ok (.goto (-205), 3) := by decide +kernel
theorem dX12_mend_284 : decode cX12_mend 284 = .ok (.aload_n 0, 1) := by decide +kernel
theorem dX12_mend_285 : decode cX12_mend 285 = .ok (.aload_n 0, 1) := by decide +kernel
theorem dX12_mend_286 : decode cX12_mend 286 = .ok (.getfield 27, 3) := by decide +kernel
theorem dX12_mend_289 : decode cX12_mend 289 = .ok (.iload_n 1, 1) := by decide +kernel
theorem dX12_mend_290 : decode cX12_mend 290 = .ok (.iaload, 1) := by decide +kernel
theorem dX12_mend_291 : decode cX12_mend 291 = .ok (.putfield 208, 3) := by decide +kernel
theorem dX12_mend_294 : decode cX12_mend 294 = .ok (.aload_n 0, 1) := by decide +kernel
theorem dX12_mend_295 : decode cX12_mend 295 = .ok (.getfield 208, 3) := by decide +kernel
theorem dX12_mend_298 : decode cX12_mend 298 = .ok (.iconst 1, 1) := by decide +kernel
theorem dX12_mend_299 : decode cX12_mend 299 = .ok (.isub, 1) := by decide +kernel
theorem dX12_mend_300 : decode cX12_mend 300 = .ok (.istore 11, 2) := by decide +kernel
theorem dX12_mend_302 : decode cX12_mend 302 = .ok (.iload 11, 2) := by decide +kernel
theorem dX12_mend_304 : decode cX12_mend 304 = .ok (.ifCond .lt 35, 3) := by decide +kernel
theorem dX12_mend_307 : decode cX12_mend 307 = .ok (.aload_n 0, 1) := by decide +kernel
theorem dX12_mend_308 : decode cX12_mend 308 = .ok (.getfield 90, 3) := by decide +kernel
theorem dX12_mend_311 : decode cX12_mend 311 = .ok (.iload 11, 2) := by decide +kernel
theorem dX12_mend_313 : decode cX12_mend 313 = .ok (.iload 8, 2) := by decide +kernel
theorem dX12_mend_315 : decode cX12_mend 315 = .ok (.iload 6, 2) := by decide +kernel
theorem dX12_mend_317 : decode cX12_mend 317 = .ok (.irem, 1) := by decide +kernel
theorem dX12_mend_318 : decode cX12_mend 318 = .ok (.aload_n 0, 1) := by decide +kernel
theorem dX12_mend_319 : decode cX12_mend 319 = .ok (.getfield 17, 3) := by decide +kernel
theorem dX12_mend_322 : decode cX12_mend 322 = .ok (.iconst 4, 1) := by decide +kernel
theorem dX12_mend_323 : decode cX12_mend 323 = .ok (.iaload, 1) := by decide +kernel
theorem dX12_mend_324 : decode cX12_mend 324 = .ok (.isub, 1) := by decide +kernel
theorem dX12_mend_325 : decode cX12_mend 325 = .ok (.iastore, 1) := by decide +kernel
theorem dX12_mend_326 : decode cX12_mend 326 = .ok (.iload 8, 2) := by decide +kernel
theorem dX12_mend_328 : decode cX12_mend 328 = .ok (.iload 6, 2) := by decide +kernel
theorem dX12_mend_330 : decode cX12_mend 330 = .ok (.idiv, 1) := by decide +kernel
theorem dX12_mend_331 : decode cX12_mend 331 = .ok (.istore 8, 2) := by decide +kernel
theorem dX12_mend_333 : decode cX12_mend 333 = .ok (.iinc 11 (-1), 3) := by decide +kernel
theorem dX12_mend_336 : decode cX12_mend 336 = .ok (.goto (-34), 3) := by decide +kernel
theorem dX12_mend_339 : decode cX12_mend 339 = .ok (.iload 9, 2) := by decide +kernel
theorem dX12_mend_341 : decode cX12_mend 341 = .ok (.ireturn, 1) := by decide +kernel
set_option maxRecDepth 20000 in
theorem sX12_mend_0 {P : Option Value → AH → Prop} (h : AH) (r0 : Nat) (x1 : Int32) (x2 : Int32) (x3 : Int32) (x4 : Int32) (x5 : Int32) (hf : (¬ (¬ x1 < 0 ∧ ¬ 3 < x1) → P (some (.int (-2))) h) ∧ ((¬ x1 < 0 ∧ ¬ 3 < x1) → (((¬ x2 < (-9) ∧ ¬ 9 < x2) ∧ (¬ x3 < (-9) ∧ ¬ 9 < x3) ∧ (¬ x4 < (-9) ∧ ¬ 9 < x4) ∧ (¬ x5 < 0 ∧ ¬ 9 < x5)) → (isO h 12 r0) ∧ ((isA h 0 (gF h r0 11)) ∧ ((vp_in 4 (ln (gF h r0 11))) ∧ (Rr mX12_mend 0 0 40 [(0, .ref r0), (1, .int x1), (2, .int x2), (3, .int x3), (4, .int x4), (5, .int x5), (6, .int ((2 * (gI h (gF h r0 11) (Int32.toNatClampNeg 4))) + 1)), (7, .int 1), (8, .int 0)] [] h P)))) ∧ (¬ ((¬ x2 < (-9) ∧ ¬ 9 < x2) ∧ (¬ x3 < (-9) ∧ ¬ 9 < x3) ∧ (¬ x4 < (-9) ∧ ¬ 9 < x4) ∧ (¬ x5 < 0 ∧ ¬ 9 < x5)) → P (some (.int (-2))) h))) : Rr mX12_mend 0 0 0 [(0, .ref r0), (1, .int x1), (2, .int x2), (3, .int x3), (4, .int x4), (5, .int x5)] [] h P := by
  refine R_iload_n dX12_mend_0 rfl 1 rfl ?_
  refine R_callS (N := mX12_isInkNumber) (as := [.int x1]) (rest := []) (kc2 := 0) (ks2 := 0) dX12_mend_1 lmX12_259 oX12_isInkNumber (Nat.le_of_ble_eq_true rfl) rfl rfl (Nat.le_of_ble_eq_true rfl) rfl rfl (aX12_isInkNumber  ?_)
  refine R_if_eq_b (tgt := 19) dX12_mend_4 (by decide) (fun b1 => ?_) (fun b1 => ?_)
  · have hf := hf.1 b1
    refine R_bipush (v := (-2)) dX12_mend_19 (by decide) ?_
    exact R_iret dX12_mend_21 rfl rfl hf
  · have hf := hf.2 b1
    refine R_iload_n dX12_mend_7 rfl 2 rfl ?_
    refine R_iload_n dX12_mend_8 rfl 3 rfl ?_
    refine R_iload dX12_mend_9 4 rfl ?_
    refine R_iload dX12_mend_11 5 rfl ?_
    refine R_callS (N := mX12_isSlip) (as := [.int x2, .int x3, .int x4, .int x5]) (rest := []) (kc2 := 0) (ks2 := 0) dX12_mend_13 lmX12_262 oX12_isSlip (Nat.le_of_ble_eq_true rfl) rfl rfl (Nat.le_of_ble_eq_true rfl) rfl rfl (aX12_isSlip  ?_)
    refine R_if_ne_b (tgt := 22) dX12_mend_16 (by decide) (fun b2 => ?_) (fun b2 => ?_)
    · have hf := hf.1 b2
      refine R_iconst (v := 2) dX12_mend_22 (by decide) ?_
      refine R_aload_n dX12_mend_23 rfl 0 rfl ?_
      obtain ⟨ob3, hf⟩ := hf
      refine G12_11 dX12_mend_24 lfX12_17 ob3 ?_
      refine R_iconst (v := 4) dX12_mend_27 (by decide) ?_
      obtain ⟨ob4, hf⟩ := hf
      obtain ⟨ob5, hf⟩ := hf
      refine R_iaload dX12_mend_28 ob4 ob5 ?_
      refine R_imul dX12_mend_29 ?_
      refine R_iconst (v := 1) dX12_mend_30 (by decide) ?_
      refine R_iadd dX12_mend_31 ?_
      refine R_istore dX12_mend_32 (by decide) rfl ?_
      refine R_iconst (v := 1) dX12_mend_34 (by decide) ?_
      refine R_istore dX12_mend_35 (by decide) rfl ?_
      refine R_iconst (v := 0) dX12_mend_37 (by decide) ?_
      refine R_istore dX12_mend_38 (by decide) rfl ?_
      exact R_sub [3, 4, 5, 6, 7, 8, 2, 1, 0] rfl hf
    · have hf := hf.2 b2
      refine R_bipush (v := (-2)) dX12_mend_19 (by decide) ?_
      exact R_iret dX12_mend_21 rfl rfl hf
set_option maxRecDepth 20000 in
theorem sX12_mend_40 {P : Option Value → AH → Prop} (h : AH) (r0 : Nat) (x1 : Int32) (x2 : Int32) (x3 : Int32) (x4 : Int32) (x5 : Int32) (x6 : Int32) (x7 : Int32) (x8 : Int32) (hf : (isO h 12 r0) ∧ ((isA h 0 (gF h r0 14)) ∧ ((vp_in x1 (ln (gF h r0 14))) ∧ (((gI h (gF h r0 14) x1.toNatClampNeg) ≤ x8 → Rr mX12_mend 0 0 76 [(0, .ref r0), (1, .int x1), (2, .int x2), (3, .int x3), (4, .int x4), (5, .int x5), (6, .int x6), (7, .int x7), (8, .int (-1)), (9, .int 0), (10, .int 0), (11, .int 0)] [] h P) ∧ (¬ (gI h (gF h r0 14) x1.toNatClampNeg) ≤ x8 → Rr mX12_mend 0 0 40 [(0, .ref r0), (1, .int x1), (2, .int x2), (3, .int x3), (4, .int x4), (5, .int x5), (6, .int x6), (7, .int (x7 * x6)), (8, .int (x8 + 1))] [] h P))))) : Rr mX12_mend 0 0 40 [(0, .ref r0), (1, .int x1), (2, .int x2), (3, .int x3), (4, .int x4), (5, .int x5), (6, .int x6), (7, .int x7), (8, .int x8)] [] h P := by
  refine R_iload dX12_mend_40 8 rfl ?_
  refine R_aload_n dX12_mend_42 rfl 0 rfl ?_
  obtain ⟨ob1, hf⟩ := hf
  refine G12_14 dX12_mend_43 lfX12_27 ob1 ?_
  refine R_iload_n dX12_mend_46 rfl 1 rfl ?_
  obtain ⟨ob2, hf⟩ := hf
  obtain ⟨ob3, hf⟩ := hf
  refine R_iaload dX12_mend_47 ob2 ob3 ?_
  refine R_icmp_ge (tgt := 64) dX12_mend_48 (by decide) (fun b4 => ?_) (fun b4 => ?_)
  · have hf := hf.1 b4
    refine R_iconst (v := (-1)) dX12_mend_64 (by decide) ?_
    refine R_istore dX12_mend_65 (by decide) rfl ?_
    refine R_iconst (v := 0) dX12_mend_67 (by decide) ?_
    refine R_istore dX12_mend_68 (by decide) rfl ?_
    refine R_iconst (v := 0) dX12_mend_70 (by decide) ?_
    refine R_istore dX12_mend_71 (by decide) rfl ?_
    refine R_iconst (v := 0) dX12_mend_73 (by decide) ?_
    refine R_istore dX12_mend_74 (by decide) rfl ?_
    exact R_sub [4, 5, 6, 7, 8, 9, 10, 11, 3, 2, 1, 0] rfl hf
  · have hf := hf.2 b4
    refine R_iload dX12_mend_51 7 rfl ?_
    refine R_iload dX12_mend_53 6 rfl ?_
    refine R_imul dX12_mend_55 ?_
    refine R_istore dX12_mend_56 (by decide) rfl ?_
    refine R_iinc (v := x8 + 1) dX12_mend_58 8 rfl rfl (by decide) rfl ?_
    refine R_goto (tgt := 40) dX12_mend_61 (by decide) ?_
    exact R_sub [2, 3, 4, 5, 6, 7, 8, 1, 0] rfl hf
set_option maxRecDepth 20000 in
theorem sX12_mend_76 {P : Option Value → AH → Prop} (h : AH) (r0 : Nat) (x1 : Int32) (x2 : Int32) (x3 : Int32) (x4 : Int32) (x5 : Int32) (x6 : Int32) (x7 : Int32) (x8 : Int32) (x9 : Int32) (x10 : Int32) (x11 : Int32) (hf : (x7 ≤ x11 → (isO h 12 r0) ∧ ((isA h 0 (gF h r0 14)) ∧ ((vp_in x1 (ln (gF h r0 14))) ∧ (Rr mX12_mend 0 0 302 [(0, .ref r0), (6, .int x6), (8, .int x8), (9, .int x9), (11, .int (((gI h (gF h r0 14) x1.toNatClampNeg)) - 1))] [] (sI h r0 43 (gI h (gF h r0 14) x1.toNatClampNeg)) P)))) ∧ (¬ x7 ≤ x11 → (isO h 12 r0) ∧ ((isA h 0 (gF h r0 14)) ∧ ((vp_in x1 (ln (gF h r0 14))) ∧ (Rr mX12_mend 0 0 110 [(0, .ref r0), (1, .int x1), (2, .int x2), (3, .int x3), (4, .int x4), (5, .int x5), (6, .int x6), (7, .int x7), (8, .int x8), (9, .int x9), (10, .int x10), (11, .int x11), (12, .int x11), (13, .int 0), (14, .int x2), (15, .int x3), (16, .int x4), (17, .int ((gI h (gF h r0 14) x1.toNatClampNeg) - 1))] [] h P))))) : Rr mX12_mend 0 0 76 [(0, .ref r0), (1, .int x1), (2, .int x2), (3, .int x3), (4, .int x4), (5, .int x5), (6, .int x6), (7, .int x7), (8, .int x8), (9, .int x9), (10, .int x10), (11, .int x11)] [] h P := by
  refine R_iload dX12_mend_76 11 rfl ?_
  refine R_iload dX12_mend_78 7 rfl ?_
  refine R_icmp_ge (tgt := 284) dX12_mend_80 (by decide) (fun b1 => ?_) (fun b1 => ?_)
  · have hf := hf.1 b1
    refine R_aload_n dX12_mend_284 rfl 0 rfl ?_
    refine R_aload_n dX12_mend_285 rfl 0 rfl ?_
    obtain ⟨ob2, hf⟩ := hf
    refine G12_14 dX12_mend_286 lfX12_27 ob2 ?_
    refine R_iload_n dX12_mend_289 rfl 1 rfl ?_
    obtain ⟨ob3, hf⟩ := hf
    obtain ⟨ob4, hf⟩ := hf
    refine R_iaload dX12_mend_290 ob3 ob4 ?_
    refine S12_43 dX12_mend_291 lfX12_208 ob2 ?_
    refine R_aload_n dX12_mend_294 rfl 0 rfl ?_
    refine G12_43 dX12_mend_295 lfX12_208 ob2 ?_
    refine R_eqI (y := (gI h (gF h r0 14) x1.toNatClampNeg)) rd_h ?_
    refine R_iconst (v := 1) dX12_mend_298 (by decide) ?_
    refine R_isub dX12_mend_299 ?_
    refine R_istore dX12_mend_300 (by decide) rfl ?_
    exact R_sub [1, 7, 9, 10, 0] rfl hf
  · have hf := hf.2 b1
    refine R_iload dX12_mend_83 11 rfl ?_
    refine R_istore dX12_mend_85 (by decide) rfl ?_
    refine R_iconst (v := 0) dX12_mend_87 (by decide) ?_
    refine R_istore dX12_mend_88 (by decide) rfl ?_
    refine R_iload_n dX12_mend_90 rfl 4 rfl ?_
    refine R_istore dX12_mend_91 (by decide) rfl ?_
    refine R_iload_n dX12_mend_93 rfl 6 rfl ?_
    refine R_istore dX12_mend_94 (by decide) rfl ?_
    refine R_iload dX12_mend_96 8 rfl ?_
    refine R_istore dX12_mend_98 (by decide) rfl ?_
    refine R_aload_n dX12_mend_100 rfl 5 rfl ?_
    obtain ⟨ob5, hf⟩ := hf
    refine G12_14 dX12_mend_101 lfX12_27 ob5 ?_
    refine R_iload_n dX12_mend_104 rfl 6 rfl ?_
    obtain ⟨ob6, hf⟩ := hf
    obtain ⟨ob7, hf⟩ := hf
    refine R_iaload dX12_mend_105 ob6 ob7 ?_
    refine R_iconst (v := 1) dX12_mend_106 (by decide) ?_
    refine R_isub dX12_mend_107 ?_
    refine R_istore dX12_mend_108 (by decide) rfl ?_
    exact R_sub [6, 7, 8, 9, 10, 11, 12, 13, 14, 15, 16, 17, 5, 4, 3, 2, 1, 0] rfl hf
set_option maxRecDepth 20000 in
theorem sX12_mend_110 {P : Option Value → AH → Prop} (h : AH) (r0 : Nat) (x1 : Int32) (x2 : Int32) (x3 : Int32) (x4 : Int32) (x5 : Int32) (x6 : Int32) (x7 : Int32) (x8 : Int32) (x9 : Int32) (x10 : Int32) (x11 : Int32) (x12 : Int32) (x13 : Int32) (x14 : Int32) (x15 : Int32) (x16 : Int32) (x17 : Int32) (hf : (x17 < 0 → (isO h 12 r0) ∧ (Call mX12_badOf [.ref r0, .int x14, .int x15, .int x16, .int x5] h (fun v h3 => ∃ z4 : Int32, v = some (.int z4) ∧ (∀ z9 : Int32, z9 = (if x8 = (-1) then x11 else (if x9 < z4 then x8 else (if z4 = x9 then (if x13 < x10 then x11 else x8) else x11))) → (∀ z10 : Int32, z10 = (if x8 = (-1) then z4 else (if x9 < z4 then x9 else (if z4 = x9 then (if x13 < x10 then z4 else x9) else z4))) → (∀ z11 : Int32, z11 = (if x8 = (-1) then x13 else (if x9 < z4 then x10 else (if z4 = x9 then (if x13 < x10 then x13 else x10) else x13))) → (Rr mX12_mend 0 0 76 [(0, .ref r0), (1, .int x1), (2, .int x2), (3, .int x3), (4, .int x4), (5, .int x5), (6, .int x6), (7, .int x7), (8, .int z9), (9, .int z10), (10, .int z11), (11, .int (x11 + 1))] [] h3 P))))))) ∧ (¬ x17 < 0 → (¬ x6 = 0) ∧ ((isO h 12 r0) ∧ ((isA h 0 (gF h r0 11)) ∧ ((vp_in 4 (ln (gF h r0 11))) ∧ ((isA h 0 (gF h r0 15)) ∧ ((vp_in ((9 * x1) + (3 * x17)) (ln (gF h r0 15))) ∧ (∀ v18 : Int32, v18 = (x14 + (((x12 % x6) - (gI h (gF h r0 11) (Int32.toNatClampNeg 4))) * (gI h (gF h r0 15) ((9 * x1) + (3 * x17)).toNatClampNeg))) → ((vp_in (((9 * x1) + (3 * x17)) + 1) (ln (gF h r0 15))) ∧ (∀ v20 : Int32, v20 = (x15 + (((x12 % x6) - (gI h (gF h r0 11) (Int32.toNatClampNeg 4))) * (gI h (gF h r0 15) (((9 * x1) + (3 * x17)) + 1).toNatClampNeg))) → ((vp_in (((9 * x1) + (3 * x17)) + 2) (ln (gF h r0 15))) ∧ (∀ v22 : Int32, v22 = (x16 + (((x12 % x6) - (gI h (gF h r0 11) (Int32.toNatClampNeg 4))) * (gI h (gF h r0 15) (((9 * x1) + (3 * x17)) + 2).toNatClampNeg))) → (Rr mX12_mend 0 0 110 [(0, .ref r0), (1, .int x1), (2, .int x2), (3, .int x3), (4, .int x4), (5, .int x5), (6, .int x6), (7, .int x7), (8, .int x8), (9, .int x9), (10, .int x10), (11, .int x11), (12, .int (x12 / x6)), (13, .int (x13 + (if 0 ≤ ((x12 % x6) - (gI h (gF h r0 11) (Int32.toNatClampNeg 4))) then ((x12 % x6) - (gI h (gF h r0 11) (Int32.toNatClampNeg 4))) else (-((x12 % x6) - (gI h (gF h r0 11) (Int32.toNatClampNeg 4))))))), (14, .int v18), (15, .int v20), (16, .int v22), (17, .int (x17 + (-1)))] [] h P))))))))))))) : Rr mX12_mend 0 0 110 [(0, .ref r0), (1, .int x1), (2, .int x2), (3, .int x3), (4, .int x4), (5, .int x5), (6, .int x6), (7, .int x7), (8, .int x8), (9, .int x9), (10, .int x10), (11, .int x11), (12, .int x12), (13, .int x13), (14, .int x14), (15, .int x15), (16, .int x16), (17, .int x17)] [] h P := by
  refine R_iload dX12_mend_110 17 rfl ?_
  refine R_if_lt (tgt := 222) dX12_mend_112 (by decide) (fun b1 => ?_) (fun b1 => ?_)
  · have hf := hf.1 b1
    refine R_aload_n dX12_mend_222 rfl 0 rfl ?_
    refine R_iload dX12_mend_223 14 rfl ?_
    refine R_iload dX12_mend_225 15 rfl ?_
    refine R_iload dX12_mend_227 16 rfl ?_
    refine R_iload dX12_mend_229 5 rfl ?_
    obtain ⟨ob2, hf⟩ := hf
    refine R_callV (ci := 12) (N := mX12_badOf) (as := [.int x14, .int x15, .int x16, .int x5]) (rest := []) (kc2 := 0) (ks2 := 0) dX12_mend_231 lmX12_295 oX12_badOf (Nat.le_of_ble_eq_true rfl) rfl rfl (Nat.le_of_ble_eq_true rfl) rfl rfl ob2 ok12 (Call.mono hf ?_)
    rintro _ h3 ⟨z4, rfl, hf⟩
    refine R_istore dX12_mend_234 (by decide) rfl ?_
    refine R_iload dX12_mend_236 9 rfl ?_
    refine R_iconst (v := (-1)) dX12_mend_238 (by decide) ?_
    have key : ∀ z9 : Int32, ∀ z10 : Int32, ∀ z11 : Int32, z9 = (if x8 = (-1) then x11 else (if x9 < z4 then x8 else (if z4 = x9 then (if x13 < x10 then x11 else x8) else x11))) → z10 = (if x8 = (-1) then z4 else (if x9 < z4 then x9 else (if z4 = x9 then (if x13 < x10 then z4 else x9) else z4))) → z11 = (if x8 = (-1) then x13 else (if x9 < z4 then x10 else (if z4 = x9 then (if x13 < x10 then x13 else x10) else x13))) → Rr mX12_mend 0 0 278 [(0, .ref r0), (1, .int x1), (2, .int x2), (3, .int x3), (4, .int x4), (5, .int x5), (6, .int x6), (7, .int x7), (8, .int z9), (9, .int z10), (10, .int z11), (11, .int x11)] [] h3 P := by
      intro z9 z10 z11 ez9 ez10 ez11
      have hf := hf z9 ez9 z10 ez10 z11 ez11
      refine R_iinc (v := x11 + 1) dX12_mend_278 11 rfl rfl (by decide) rfl ?_
      refine R_goto (tgt := 76) dX12_mend_281 (by decide) ?_
      exact R_sub [1, 2, 3, 4, 5, 6, 7, 8, 9, 10, 11, 0] rfl hf
    refine R_icmp_eq (tgt := 266) dX12_mend_239 (by decide) (fun b5 => ?_) (fun b5 => ?_)
    · refine R_iload dX12_mend_266 12 rfl ?_
      refine R_istore dX12_mend_268 (by decide) rfl ?_
      refine R_iload dX12_mend_270 1 rfl ?_
      refine R_istore dX12_mend_272 (by decide) rfl ?_
      refine R_iload dX12_mend_274 14 rfl ?_
      refine R_istore dX12_mend_276 (by decide) rfl ?_
      exact R_sub [4, 5, 6, 7, 8, 9, 10, 11, 2, 1, 0, 12] rfl (key _ _ _ (by rw [if_pos b5]) (by rw [if_pos b5]) (by rw [if_pos b5]))
    · refine R_iload dX12_mend_242 0 rfl ?_
      refine R_iload dX12_mend_244 10 rfl ?_
      refine R_icmp_gt (tgt := 278) dX12_mend_246 (by decide) (fun b6 => ?_) (fun b6 => ?_)
      · exact R_sub [1, 2, 3, 4, 5, 6, 7, 8, 9, 10, 11, 12] rfl (key _ _ _ (by rw [if_neg b5, if_pos b6]) (by rw [if_neg b5, if_pos b6]) (by rw [if_neg b5, if_pos b6]))
      · refine R_iload dX12_mend_249 0 rfl ?_
        refine R_iload dX12_mend_251 10 rfl ?_
        refine R_icmp_ne (tgt := 266) dX12_mend_253 (by decide) (fun b7 => ?_) (fun b7 => ?_)
        · refine R_iload dX12_mend_266 12 rfl ?_
          refine R_istore dX12_mend_268 (by decide) rfl ?_
          refine R_iload dX12_mend_270 1 rfl ?_
          refine R_istore dX12_mend_272 (by decide) rfl ?_
          refine R_iload dX12_mend_274 14 rfl ?_
          refine R_istore dX12_mend_276 (by decide) rfl ?_
          exact R_sub [4, 5, 6, 7, 8, 9, 10, 11, 2, 1, 0, 12] rfl (key _ _ _ (by rw [if_neg b5, if_neg b6, if_neg b7]) (by rw [if_neg b5, if_neg b6, if_neg b7]) (by rw [if_neg b5, if_neg b6, if_neg b7]))
        · refine R_iload dX12_mend_256 14 rfl ?_
          refine R_iload dX12_mend_258 11 rfl ?_
          refine R_icmp_lt (tgt := 266) dX12_mend_260 (by decide) (fun b8 => ?_) (fun b8 => ?_)
          · refine R_iload dX12_mend_266 12 rfl ?_
            refine R_istore dX12_mend_268 (by decide) rfl ?_
            refine R_iload dX12_mend_270 1 rfl ?_
            refine R_istore dX12_mend_272 (by decide) rfl ?_
            refine R_iload dX12_mend_274 14 rfl ?_
            refine R_istore dX12_mend_276 (by decide) rfl ?_
            exact R_sub [4, 5, 6, 7, 8, 9, 10, 11, 2, 1, 0, 12] rfl (key _ _ _ (by rw [if_neg b5, if_neg b6, if_pos b7, if_pos b8]) (by rw [if_neg b5, if_neg b6, if_pos b7, if_pos b8]) (by rw [if_neg b5, if_neg b6, if_pos b7, if_pos b8]))
          · refine R_goto (tgt := 278) dX12_mend_263 (by decide) ?_
            exact R_sub [1, 2, 3, 4, 5, 6, 7, 8, 9, 10, 11, 12] rfl (key _ _ _ (by rw [if_neg b5, if_neg b6, if_pos b7, if_neg b8]) (by rw [if_neg b5, if_neg b6, if_pos b7, if_neg b8]) (by rw [if_neg b5, if_neg b6, if_pos b7, if_neg b8]))
  · have hf := hf.2 b1
    refine R_iload dX12_mend_115 12 rfl ?_
    refine R_iload dX12_mend_117 6 rfl ?_
    obtain ⟨ob12, hf⟩ := hf
    refine R_irem dX12_mend_119 ob12 ?_
    refine R_aload_n dX12_mend_120 rfl 0 rfl ?_
    obtain ⟨ob13, hf⟩ := hf
    refine G12_11 dX12_mend_121 lfX12_17 ob13 ?_
    refine R_iconst (v := 4) dX12_mend_124 (by decide) ?_
    obtain ⟨ob14, hf⟩ := hf
    obtain ⟨ob15, hf⟩ := hf
    refine R_iaload dX12_mend_125 ob14 ob15 ?_
    refine R_isub dX12_mend_126 ?_
    refine R_istore dX12_mend_127 (by decide) rfl ?_
    refine R_iload dX12_mend_129 13 rfl ?_
    refine R_iload dX12_mend_131 7 rfl ?_
    refine R_idiv dX12_mend_133 ob12 ?_
    refine R_istore dX12_mend_134 (by decide) rfl ?_
    refine R_iload dX12_mend_136 14 rfl ?_
    refine R_iload dX12_mend_138 1 rfl ?_
    refine R_callS (N := mX12_plain) (as := [.int ((x12 % x6) - (gI h (gF h r0 11) (Int32.toNatClampNeg 4)))]) (rest := [.int x13]) (kc2 := 0) (ks2 := 0) dX12_mend_140 lmX12_276 oX12_plain (Nat.le_of_ble_eq_true rfl) rfl rfl (Nat.le_of_ble_eq_true rfl) rfl rfl (aX12_plain  ?_)
    refine R_iadd dX12_mend_143 ?_
    refine R_istore dX12_mend_144 (by decide) rfl ?_
    refine R_iload dX12_mend_146 15 rfl ?_
    refine R_iload dX12_mend_148 2 rfl ?_
    refine R_aload_n dX12_mend_150 rfl 3 rfl ?_
    refine G12_15 dX12_mend_151 lfX12_30 ob13 ?_
    refine R_bipush (v := 9) dX12_mend_154 (by decide) ?_
    refine R_iload_n dX12_mend_156 rfl 4 rfl ?_
    refine R_imul dX12_mend_157 ?_
    refine R_iconst (v := 3) dX12_mend_158 (by decide) ?_
    refine R_iload dX12_mend_159 18 rfl ?_
    refine R_imul dX12_mend_161 ?_
    refine R_iadd dX12_mend_162 ?_
    obtain ⟨ob16, hf⟩ := hf
    obtain ⟨ob17, hf⟩ := hf
    refine R_iaload dX12_mend_163 ob16 ob17 ?_
    refine R_imul dX12_mend_164 ?_
    refine R_iadd dX12_mend_165 ?_
    refine R_topi (fun v18 ev18 => ?_)
    have hf := hf v18 ev18
    refine R_istore dX12_mend_166 (by decide) rfl ?_
    refine R_iload dX12_mend_168 16 rfl ?_
    refine R_iload dX12_mend_170 3 rfl ?_
    refine R_aload_n dX12_mend_172 rfl 4 rfl ?_
    refine G12_15 dX12_mend_173 lfX12_30 ob13 ?_
    refine R_bipush (v := 9) dX12_mend_176 (by decide) ?_
    refine R_iload_n dX12_mend_178 rfl 5 rfl ?_
    refine R_imul dX12_mend_179 ?_
    refine R_iconst (v := 3) dX12_mend_180 (by decide) ?_
    refine R_iload dX12_mend_181 18 rfl ?_
    refine R_imul dX12_mend_183 ?_
    refine R_iadd dX12_mend_184 ?_
    refine R_iconst (v := 1) dX12_mend_185 (by decide) ?_
    refine R_iadd dX12_mend_186 ?_
    obtain ⟨ob19, hf⟩ := hf
    refine R_iaload dX12_mend_187 ob16 ob19 ?_
    refine R_imul dX12_mend_188 ?_
    refine R_iadd dX12_mend_189 ?_
    refine R_topi (fun v20 ev20 => ?_)
    have hf := hf v20 ev20
    refine R_istore dX12_mend_190 (by decide) rfl ?_
    refine R_iload dX12_mend_192 17 rfl ?_
    refine R_iload dX12_mend_194 4 rfl ?_
    refine R_aload_n dX12_mend_196 rfl 5 rfl ?_
    refine G12_15 dX12_mend_197 lfX12_30 ob13 ?_
    refine R_bipush (v := 9) dX12_mend_200 (by decide) ?_
    refine R_iload_n dX12_mend_202 rfl 6 rfl ?_
    refine R_imul dX12_mend_203 ?_
    refine R_iconst (v := 3) dX12_mend_204 (by decide) ?_
    refine R_iload dX12_mend_205 18 rfl ?_
    refine R_imul dX12_mend_207 ?_
    refine R_iadd dX12_mend_208 ?_
    refine R_iconst (v := 2) dX12_mend_209 (by decide) ?_
    refine R_iadd dX12_mend_210 ?_
    obtain ⟨ob21, hf⟩ := hf
    refine R_iaload dX12_mend_211 ob16 ob21 ?_
    refine R_imul dX12_mend_212 ?_
    refine R_iadd dX12_mend_213 ?_
    refine R_topi (fun v22 ev22 => ?_)
    have hf := hf v22 ev22
    refine R_istore dX12_mend_214 (by decide) rfl ?_
    refine R_iinc (v := x17 + (-1)) dX12_mend_216 18 rfl rfl (by decide) rfl ?_
    refine R_goto (tgt := 110) dX12_mend_219 (by decide) ?_
    exact R_sub [7, 8, 9, 10, 11, 12, 13, 14, 15, 16, 17, 18, 5, 4, 3, 2, 1, 0] rfl hf
set_option maxRecDepth 20000 in
theorem sX12_mend_302 {P : Option Value → AH → Prop} (h : AH) (r0 : Nat) (x6 : Int32) (x8 : Int32) (x9 : Int32) (x11 : Int32) (hf : (x11 < 0 → P (some (.int x9)) h) ∧ (¬ x11 < 0 → (isO h 12 r0) ∧ ((¬ x6 = 0) ∧ ((isA h 0 (gF h r0 11)) ∧ ((vp_in 4 (ln (gF h r0 11))) ∧ ((isA h 0 (gF h r0 44)) ∧ ((vp_in x11 (ln (gF h r0 44))) ∧ (Rr mX12_mend 0 0 302 [(0, .ref r0), (6, .int x6), (8, .int (x8 / x6)), (9, .int x9), (11, .int (x11 + (-1)))] [] (sI h (gF h r0 44) x11.toNatClampNeg ((x8 % x6) - (gI h (gF h r0 11) (Int32.toNatClampNeg 4)))) P)))))))) : Rr mX12_mend 0 0 302 [(0, .ref r0), (6, .int x6), (8, .int x8), (9, .int x9), (11, .int x11)] [] h P := by
  refine R_iload dX12_mend_302 4 rfl ?_
  refine R_if_lt (tgt := 339) dX12_mend_304 (by decide) (fun b1 => ?_) (fun b1 => ?_)
  · have hf := hf.1 b1
    refine R_iload dX12_mend_339 3 rfl ?_
    exact R_iret dX12_mend_341 rfl rfl hf
  · have hf := hf.2 b1
    refine R_aload_n dX12_mend_307 rfl 0 rfl ?_
    obtain ⟨ob2, hf⟩ := hf
    refine G12_44 dX12_mend_308 lfX12_90 ob2 ?_
    refine R_iload dX12_mend_311 4 rfl ?_
    refine R_iload dX12_mend_313 2 rfl ?_
    refine R_iload dX12_mend_315 1 rfl ?_
    obtain ⟨ob3, hf⟩ := hf
    refine R_irem dX12_mend_317 ob3 ?_
    refine R_aload_n dX12_mend_318 rfl 0 rfl ?_
    refine G12_11 dX12_mend_319 lfX12_17 ob2 ?_
    refine R_iconst (v := 4) dX12_mend_322 (by decide) ?_
    obtain ⟨ob4, hf⟩ := hf
    obtain ⟨ob5, hf⟩ := hf
    refine R_iaload dX12_mend_323 ob4 ob5 ?_
    refine R_isub dX12_mend_324 ?_
    obtain ⟨ob6, hf⟩ := hf
    obtain ⟨ob7, hf⟩ := hf
    refine R_iastore dX12_mend_325 ob6 ob7 ?_
    refine R_iload dX12_mend_326 2 rfl ?_
    refine R_iload dX12_mend_328 1 rfl ?_
    refine R_idiv dX12_mend_330 ob3 ?_
    refine R_istore dX12_mend_331 (by decide) rfl ?_
    refine R_iinc (v := x11 + (-1)) dX12_mend_333 4 rfl rfl (by decide) rfl ?_
    refine R_goto (tgt := 302) dX12_mend_336 (by decide) ?_
    exact R_sub [2, 3, 1, 4, 0] rfl hf
theorem dX12_order_0 : decode cX12_order 0 = .ok (.iload_n 1, 1) := by decide +kernel
theorem dX12_order_1 : decode cX12_order 1 = .ok (.iconst 0, 1) := by decide +kernel
theorem dX12_order_2 : decode cX12_order 2 = .ok (.iconst 4, 1) := by decide +kernel
theorem dX12_order_3 : decode cX12_order 3 = .ok (.invokestatic 178, 3) := by decide +kernel
theorem dX12_order_6 : decode cX12_order 6 = .ok (.ifCond .ne 6, 3) := by decide +kernel
theorem dX12_order_9 : decode cX12_order 9 = .ok (.bipush (-2), 2) := by decide +kernel
theorem dX12_order_11 : decode cX12_order 11 = .ok (.ireturn, 1) := by decide +kernel
theorem dX12_order_12 : decode cX12_order 12 = .ok (.iconst (-1), 1) := by decide +kernel
theorem dX12_order_13 : decode cX12_order 13 = .ok (.istore_n 2, 1) := by decide +kernel
theorem dX12_order_14 : decode cX12_order 14 = .ok (.iconst (-1), 1) := by decide +kernel
theorem dX12_order_15 : decode cX12_order 15 = .ok (.istore_n 3, 1) := by decide +kernel
theorem dX12_order_16 : decode cX12_order 16 = .ok (.iconst 0, 1) := by decide +kernel
theorem dX12_order_17 : decode cX12_order 17 = .ok (.istore 4, 2) := by decide +kernel
theorem dX12_order_19 : decode cX12_order 19 = .ok (.iload 4, 2) := by decide +kernel
theorem dX12_order_21 : decode cX12_order 21 = .ok (.sipush 3334, 3) := by decide +kernel
theorem dX12_order_24 : decode cX12_order 24 = .ok (.if_icmp .ge 32, 3) := by decide +kernel
theorem dX12_order_27 : decode cX12_order 27 = .ok (.aload_n 0, 1) := by decide +kernel
theorem dX12_order_28 : decode cX12_order 28 = .ok (.iload 4, 2) := by decide +kernel
theorem dX12_order_30 : decode cX12_order 30 = .ok (.invokevirtual 368, 3) := by decide +kernel
theorem dX12_order_33 : decode cX12_order 33 = .ok (.istore 5, 2) := by decide +kernel
theorem dX12_order_35 : decode cX12_order 35 = .ok (.iload 5, 2) := by decide +kernel
theorem dX12_order_37 : decode cX12_order 37 = .ok (.iload_n 3, 1) := by decide +kernel
theorem dX12_order_38 : decode cX12_order 38 = .ok (.if_icmp .gt 6, 3) := by decide +kernel
theorem dX12_order_41 : decode cX12_order 41 = .ok (.goto 9, 3) := by decide +kernel
theorem dX12_order_44 : decode cX12_order 44 = .ok (.iload 4, 2) := by decide +kernel
theorem dX12_order_46 : decode cX12_order 46 = .ok (.istore_n 2, 1) := by decide +kernel
theorem dX12_order_47 : decode cX12_order 47 = .ok (.iload 5, 2) := by decide +kernel
theorem dX12_order_49 : decode cX12_order 49 = .ok (.istore_n 3, 1) := by decide +kernel
theorem dX12_order_50 : decode cX12_order 50 = .ok (.iinc 4 1, 3) := by decide +kernel
theorem dX12_order_53 : decode cX12_order 53 = .ok (.goto (-34), 3) := by decide +kernel
theorem dX12_order_56 : decode cX12_order 56 = .ok (.iload_n 1, 1) := by decide +kernel
theorem dX12_order_57 : decode cX12_order 57 = .ok (.ifCond .ne 5, 3) := by decide +kernel
theorem dX12_order_60 : decode cX12_order 60 = .ok (.iload_n 3, 1) := by decide +kernel
theorem dX12_order_61 : decode cX12_order 61 = .ok (.ireturn, 1) := by decide +kernel
theorem dX12_order_62 : decode cX12_order 62 = .ok (.iconst 4, 1) := by decide +kernel
theorem dX12_order_63 : decode cX12_order 63 = .ok (.istore 4, 2) := by decide +kernel
theorem dX12_order_65 : decode cX12_order 65 = .ok (.iload 4, 2) := by decide +kernel
theorem dX12_order_67 : decode cX12_order 67 = .ok (.iload_n 1, 1) := by decide +kernel
theorem dX12_order_68 : decode cX12_order 68 = .ok (.if_icmp .le 14, 3) := by decide +kernel
theorem dX12_order_71 : decode cX12_order 71 = .ok (.iload_n 2, 1) := by decide +kernel
theorem dX12_order_72 : decode cX12_order 72 = .ok (.bipush 10, 2) := by decide +kernel
theorem dX12_order_74 : decode cX12_order 74 = .ok (.idiv, 1) := by decide +kernel
theorem dX12_order_75 : decode cX12_order 75 = .ok (.istore_n 2, 1) := by decide +kernel
theorem dX12_order_76 : decode cX12_order 76 = .ok (.iinc 4 (-1), 3) := by decide +kernel
theorem dX12_order_79 : decode cX12_order 79 = .ok (.goto (-14), 3) := by decide +kernel
theorem dX12_order_82 : decode cX12_order 82 = .ok (.iload_n 2, 1) := by decide +kernel
theorem dX12_order_83 : decode cX12_order 83 = .ok (.bipush 10, 2) := by decide +kernel
theorem dX12_order_85 : decode cX12_order 85 = .ok (.irem, 1) := by decide +kernel
theorem dX12_order_86 : decode cX12_order 86 = .ok (.ireturn, 1) := by decide +kernel
set_option maxRecDepth 20000 in
theorem sX12_order_0 {P : Option Value → AH → Prop} (h : AH) (r0 : Nat) (x1 : Int32) (hf : ((¬ x1 < 0 ∧ ¬ 4 < x1) → Rr mX12_order 0 0 19 [(0, .ref r0), (1, .int x1), (2, .int (-1)), (3, .int (-1)), (4, .int 0)] [] h P) ∧ (¬ (¬ x1 < 0 ∧ ¬ 4 < x1) → P (some (.int (-2))) h)) : Rr mX12_order 0 0 0 [(0, .ref r0), (1, .int x1)] [] h P := by
  refine R_iload_n dX12_order_0 rfl 1 rfl ?_
  refine R_iconst (v := 0) dX12_order_1 (by decide) ?_
  refine R_iconst (v := 4) dX12_order_2 (by decide) ?_
  refine R_callS (N := mX12_in) (as := [.int x1, .int 0, .int 4]) (rest := []) (kc2 := 0) (ks2 := 0) dX12_order_3 lmX12_178 oX12_in (Nat.le_of_ble_eq_true rfl) rfl rfl (Nat.le_of_ble_eq_true rfl) rfl rfl (aX12_in  ?_)
  refine R_if_ne_b (tgt := 12) dX12_order_6 (by decide) (fun b1 => ?_) (fun b1 => ?_)
  · have hf := hf.1 b1
    refine R_iconst (v := (-1)) dX12_order_12 (by decide) ?_
    refine R_istore_n dX12_order_13 rfl (by decide) rfl ?_
    refine R_iconst (v := (-1)) dX12_order_14 (by decide) ?_
    refine R_istore_n dX12_order_15 rfl (by decide) rfl ?_
    refine R_iconst (v := 0) dX12_order_16 (by decide) ?_
    refine R_istore dX12_order_17 (by decide) rfl ?_
    exact R_sub [3, 4, 2, 1, 0] rfl hf
  · have hf := hf.2 b1
    refine R_bipush (v := (-2)) dX12_order_9 (by decide) ?_
    exact R_iret dX12_order_11 rfl rfl hf
set_option maxRecDepth 20000 in
theorem sX12_order_19 {P : Option Value → AH → Prop} (h : AH) (r0 : Nat) (x1 : Int32) (x2 : Int32) (x3 : Int32) (x4 : Int32) (hf : (3334 ≤ x4 → (¬ x1 = 0 → Rr mX12_order 0 0 65 [(1, .int x1), (2, .int x2), (4, .int 4)] [] h P) ∧ (x1 = 0 → P (some (.int x3)) h)) ∧ (¬ 3334 ≤ x4 → (isO h 12 r0) ∧ (Call mX12_sumOf [.ref r0, .int x4] h (fun v h4 => ∃ z5 : Int32, v = some (.int z5) ∧ (∀ z7 : Int32, z7 = (if x3 < z5 then x4 else x2) → (∀ z8 : Int32, z8 = (if x3 < z5 then z5 else x3) → (Rr mX12_order 0 0 19 [(0, .ref r0), (1, .int x1), (2, .int z7), (3, .int z8), (4, .int (x4 + 1))] [] h4 P))))))) : Rr mX12_order 0 0 19 [(0, .ref r0), (1, .int x1), (2, .int x2), (3, .int x3), (4, .int x4)] [] h P := by
  refine R_iload dX12_order_19 4 rfl ?_
  refine R_sipush (v := 3334) dX12_order_21 (by decide) ?_
  refine R_icmp_ge (tgt := 56) dX12_order_24 (by decide) (fun b1 => ?_) (fun b1 => ?_)
  · have hf := hf.1 b1
    refine R_iload_n dX12_order_56 rfl 1 rfl ?_
    refine R_if_ne (tgt := 62) dX12_order_57 (by decide) (fun b2 => ?_) (fun b2 => ?_)
    · have hf := hf.1 b2
      refine R_iconst (v := 4) dX12_order_62 (by decide) ?_
      refine R_istore dX12_order_63 (by decide) rfl ?_
      exact R_sub [2, 3, 0] rfl hf
    · have hf := hf.2 b2
      refine R_iload_n dX12_order_60 rfl 3 rfl ?_
      exact R_iret dX12_order_61 rfl rfl hf
  · have hf := hf.2 b1
    refine R_aload_n dX12_order_27 rfl 0 rfl ?_
    refine R_iload dX12_order_28 4 rfl ?_
    obtain ⟨ob3, hf⟩ := hf
    refine R_callV (ci := 12) (N := mX12_sumOf) (as := [.int x4]) (rest := []) (kc2 := 0) (ks2 := 0) dX12_order_30 lmX12_368 oX12_sumOf (Nat.le_of_ble_eq_true rfl) rfl rfl (Nat.le_of_ble_eq_true rfl) rfl rfl ob3 ok12 (Call.mono hf ?_)
    rintro _ h4 ⟨z5, rfl, hf⟩
    refine R_istore dX12_order_33 (by decide) rfl ?_
    refine R_iload dX12_order_35 0 rfl ?_
    refine R_iload_n dX12_order_37 rfl 4 rfl ?_
    have key : ∀ z7 : Int32, ∀ z8 : Int32, z7 = (if x3 < z5 then x4 else x2) → z8 = (if x3 < z5 then z5 else x3) → Rr mX12_order 0 0 50 [(0, .ref r0), (1, .int x1), (2, .int z7), (3, .int z8), (4, .int x4)] [] h4 P := by
      intro z7 z8 ez7 ez8
      have hf := hf z7 ez7 z8 ez8
      refine R_iinc (v := x4 + 1) dX12_order_50 4 rfl rfl (by decide) rfl ?_
      refine R_goto (tgt := 19) dX12_order_53 (by decide) ?_
      exact R_sub [1, 2, 3, 4, 0] rfl hf
    refine R_icmp_gt (tgt := 44) dX12_order_38 (by decide) (fun b6 => ?_) (fun b6 => ?_)
    · refine R_iload dX12_order_44 5 rfl ?_
      refine R_istore_n dX12_order_46 rfl (by decide) rfl ?_
      refine R_iload dX12_order_47 1 rfl ?_
      refine R_istore_n dX12_order_49 rfl (by decide) rfl ?_
      exact R_sub [3, 4, 1, 0, 5] rfl (key _ _ (by rw [if_pos b6]) (by rw [if_pos b6]))
    · refine R_goto (tgt := 50) dX12_order_41 (by decide) ?_
      exact R_sub [1, 2, 3, 4, 5] rfl (key _ _ (by rw [if_neg b6]) (by rw [if_neg b6]))
set_option maxRecDepth 20000 in
theorem sX12_order_65 {P : Option Value → AH → Prop} (h : AH) (x1 : Int32) (x2 : Int32) (x4 : Int32) (hf : (x4 ≤ x1 → P (some (.int (x2 % 10))) h) ∧ (¬ x4 ≤ x1 → Rr mX12_order 0 0 65 [(1, .int x1), (2, .int (x2 / 10)), (4, .int (x4 + (-1)))] [] h P)) : Rr mX12_order 0 0 65 [(1, .int x1), (2, .int x2), (4, .int x4)] [] h P := by
  refine R_iload dX12_order_65 2 rfl ?_
  refine R_iload_n dX12_order_67 rfl 0 rfl ?_
  refine R_icmp_le (tgt := 82) dX12_order_68 (by decide) (fun b1 => ?_) (fun b1 => ?_)
  · have hf := hf.1 b1
    refine R_iload_n dX12_order_82 rfl 1 rfl ?_
    refine R_bipush (v := 10) dX12_order_83 (by decide) ?_
    refine R_irem dX12_order_85 (by decide) ?_
    exact R_iret dX12_order_86 rfl rfl hf
  · have hf := hf.2 b1
    refine R_iload_n dX12_order_71 rfl 1 rfl ?_
    refine R_bipush (v := 10) dX12_order_72 (by decide) ?_
    refine R_idiv dX12_order_74 (by decide) ?_
    refine R_istore_n dX12_order_75 rfl (by decide) rfl ?_
    refine R_iinc (v := x4 + (-1)) dX12_order_76 2 rfl rfl (by decide) rfl ?_
    refine R_goto (tgt := 65) dX12_order_79 (by decide) ?_
    exact R_sub [2, 1, 0] rfl hf
theorem dX12_read_0 : decode cX12_read 0 = .ok (.iload_n 1, 1) := by decide +kernel
theorem dX12_read_1 : decode cX12_read 1 = .ok (.aload_n 0, 1) := by decide +kernel
theorem dX12_read_2 : decode cX12_read 2 = .ok (.getfield 205, 3) := by decide +kernel
theorem dX12_read_5 : decode cX12_read 5 = .ok (.sipush 999, 3) := by decide +kernel
theorem dX12_read_8 : decode cX12_read 8 = .ok (.invokestatic 178, 3) := by decide +kernel
theorem dX12_read_11 : decode cX12_read 11 = .ok (.ifCond .eq 50, 3) := by decide +kernel
theorem dX12_read_14 : decode cX12_read 14 = .ok (.iload_n 2, 1) := by decide +kernel
theorem dX12_read_15 : decode cX12_read 15 = .ok (.invokestatic 259, 3) := by decide +kernel
theorem dX12_read_18 : decode cX12_read 18 = .ok (.ifCond .eq 43, 3) := by decide +kernel
theorem dX12_read_21 : decode cX12_read 21 = .ok (.iload_n 3, 1) := by decide +kernel
theorem dX12_read_22 : decode cX12_read 22 = .ok (.iconst 0, 1) := by decide +kernel
theorem dX12_read_23 : decode cX12_read 23 = .ok (.aload_n 0, 1) := by decide +kernel
theorem dX12_read_24 : decode cX12_read 24 = .ok (.getfield 17, 3) := by decide +kernel
theorem dX12_read_27 : decode cX12_read 27 = .ok (.iconst 2, 1) := by decide +kernel
theorem dX12_read_28 : decode cX12_read 28 = .ok (.iaload, 1) := by decide +kernel
theorem dX12_read_29 : decode cX12_read 29 = .ok (.iconst 1, 1) := by decide +kernel
theorem dX12_read_30 : decode cX12_read 30 = .ok (.isub, 1) := by decide +kernel
theorem dX12_read_31 : decode cX12_read 31 = .ok (.invokestatic 178, 3) := by decide +kernel
theorem dX12_read_34 : decode cX12_read 34 = .ok (.ifCond .eq 27, 3) := by decide +kernel
theorem dX12_read_37 : decode cX12_read 37 = .ok (.iload 4, 2) := by decide +kernel
theorem dX12_read_39 : decode cX12_read 39 = .ok (.bipush (-99), 2) := by decide +kernel
theorem dX12_read_41 : decode cX12_read 41 = .ok (.bipush 99, 2) := by decide +kernel
theorem dX12_read_43 : decode cX12_read 43 = .ok (.invokestatic 178, 3) := by decide +kernel
theorem dX12_read_46 : decode cX12_read 46 = .ok (.ifCond .eq 15, 3) := by decide +kernel
theorem dX12_read_49 : decode cX12_read 49 = .ok (.iload 5, 2) := by decide +kernel
theorem dX12_read_51 : decode cX12_read 51 = .ok (.bipush (-99), 2) := by decide +kernel
theorem dX12_read_53 : decode cX12_read 53 = .ok (.bipush 99, 2) := by decide +kernel
theorem dX12_read_55 : decode cX12_read 55 = .ok (.invokestatic 178, 3) := by decide +kernel
theorem dX12_read_58 : decode cX12_read 58 = .ok (.ifCond .ne 6, 3) := by decide +kernel
theorem dX12_read_61 : decode cX12_read 61 = .ok (.bipush (-2), 2) := by decide +kernel
theorem dX12_read_63 : decode cX12_read 63 = .ok (.ireturn, 1) := by decide +kernel
theorem dX12_read_64 : decode cX12_read 64 = .ok (.aload_n 0, 1) := by decide +kernel
theorem dX12_read_65 : decode cX12_read 65 = .ok (.getfield 199, 3) := by decide +kernel
theorem dX12_read_68 : decode cX12_read 68 = .ok (.bipush 24, 2) := by decide +kernel
theorem dX12_read_70 : decode cX12_read 70 = .ok (.if_icmp .ne 6, 3) := by decide +kernel
theorem dX12_read_73 : decode cX12_read 73 = .ok (.bipush (-3), 2) := by decide +kernel
theorem dX12_read_75 : decode cX12_read 75 = .ok (.ireturn, 1) := by decide +kernel
theorem dX12_read_76 : decode cX12_read 76 = .ok (.aload_n 0, 1) := by decide +kernel
theorem dX12_read_77 : decode cX12_read 77 = .ok (.iload_n 1, 1) := by decide +kernel
theorem dX12_read_78 : decode cX12_read 78 = .ok (.putfield 205, 3) := by decide +kernel
theorem dX12_read_81 : decode cX12_read 81 = .ok (.aload_n 0, 1) := by decide +kernel
theorem dX12_read_82 : decode cX12_read 82 = .ok (.getfield 45, 3) := by decide +kernel
theorem dX12_read_85 : decode cX12_read 85 = .ok (.aload_n 0, 1) := by decide +kernel
theorem dX12_read_86 : decode cX12_read 86 = .ok (.getfield 199, 3) := by decide +kernel
theorem dX12_read_89 : decode cX12_read 89 = .ok (.iload_n 1, 1) := by decide +kernel
theorem dX12_read_90 : decode cX12_read 90 = .ok (.iastore, 1) := by decide +kernel
theorem dX12_read_91 : decode cX12_read 91 = .ok (.aload_n 0, 1) := by decide +kernel
theorem dX12_read_92 : decode cX12_read 92 = .ok (.getfield 48, 3) := by decide +kernel
theorem dX12_read_95 : decode cX12_read 95 = .ok (.aload_n 0, 1) := by decide +kernel
theorem dX12_read_96 : decode cX12_read 96 = .ok (.getfield 199, 3) := by decide +kernel
theorem dX12_read_99 : decode cX12_read 99 = .ok (.iload_n 2, 1) := by decide +kernel
theorem dX12_read_100 : decode cX12_read 100 = .ok (.iastore, 1) := by decide +kernel
theorem dX12_read_101 : decode cX12_read 101 = .ok (.aload_n 0, 1) := by decide +kernel
theorem dX12_read_102 : decode cX12_read 102 = .ok (.getfield 51, 3) := by decide +kernel
theorem dX12_read_105 : decode cX12_read 105 = .ok (.aload_n 0, 1) := by decide +kernel
theorem dX12_read_106 : decode cX12_read 106 = .ok (.getfield 199, 3) := by decide +kernel
theorem dX12_read_109 : decode cX12_read 109 = .ok (.iload_n 3, 1) := by decide +kernel
theorem dX12_read_110 : decode cX12_read 110 = .ok (.iastore, 1) := by decide +kernel
theorem dX12_read_111 : decode cX12_read 111 = .ok (.aload_n 0, 1) := by decide +kernel
theorem dX12_read_112 : decode cX12_read 112 = .ok (.getfield 54, 3) := by decide +kernel
theorem dX12_read_115 : decode cX12_read 115 = .ok (.aload_n 0, 1) := by decide +kernel
theorem dX12_read_116 : decode cX12_read 116 = .ok (.getfield 199, 3) := by decide +kernel
theorem dX12_read_119 : decode cX12_read 119 = .ok (.iload 4, 2) := by decide +kernel
theorem dX12_read_121 : decode cX12_read 121 = .ok (.iastore, 1) := by decide +kernel
theorem dX12_read_122 : decode cX12_read 122 = .ok (.aload_n 0, 1) := by decide +kernel
theorem dX12_read_123 : decode cX12_read 123 = .ok (.getfield 57, 3) := by decide +kernel
theorem dX12_read_126 : decode cX12_read 126 = .ok (.aload_n 0, 1) := by decide +kernel
theorem dX12_read_127 : decode cX12_read 127 = .ok (.getfield 199, 3) := by decide +kernel
theorem dX12_read_130 : decode cX12_read 130 = .ok (.iload 5, 2) := by decide +kernel
theorem dX12_read_132 : decode cX12_read 132 = .ok (.iastore, 1) := by decide +kernel
theorem dX12_read_133 : decode cX12_read 133 = .ok (.aload_n 0, 1) := by decide +kernel
theorem dX12_read_134 : decode cX12_read 134 = .ok (.dup, 1) := by decide +kernel
theorem dX12_read_135 : decode cX12_read 135 = .ok (.getfield 199, 3) := by decide +kernel
theorem dX12_read_138 : decode cX12_read 138 = .ok (.iconst 1, 1) := by decide +kernel
theorem dX12_read_139 : decode cX12_read 139 = .ok (.iadd, 1) := by decide +kernel
theorem dX12_read_140 : decode cX12_read 140 = .ok (.putfield 199, 3) := by decide +kernel
theorem dX12_read_143 : decode cX12_read 143 = .ok (.aload_n 0, 1) := by decide +kernel
theorem dX12_read_144 : decode cX12_read 144 = .ok (.getfield 199, 3) := by decide +kernel
theorem dX12_read_147 : decode cX12_read 147 = .ok (.iconst 1, 1) := by decide +kernel
theorem dX12_read_148 : decode cX12_read 148 = .ok (.isub, 1) := by decide +kernel
theorem dX12_read_149 : decode cX12_read 149 = .ok (.ireturn, 1) := by decide +kernel
set_option maxRecDepth 20000 in
theorem sX12_read_0 {P : Option Value → AH → Prop} (h : AH) (r0 : Nat) (x1 : Int32) (x2 : Int32) (x3 : Int32) (x4 : Int32) (x5 : Int32) (hf : (isO h 12 r0) ∧ ((¬ (¬ x1 < (gI h r0 25) ∧ ¬ 999 < x1) → P (some (.int (-2))) h) ∧ ((¬ x1 < (gI h r0 25) ∧ ¬ 999 < x1) → (¬ (¬ x2 < 0 ∧ ¬ 3 < x2) → P (some (.int (-2))) h) ∧ ((¬ x2 < 0 ∧ ¬ 3 < x2) → (isA h 0 (gF h r0 11)) ∧ ((vp_in 2 (ln (gF h r0 11))) ∧ ((¬ (¬ x3 < 0 ∧ ¬ ((gI h (gF h r0 11) (Int32.toNatClampNeg 2)) - 1) < x3) → P (some (.int (-2))) h) ∧ ((¬ x3 < 0 ∧ ¬ ((gI h (gF h r0 11) (Int32.toNatClampNeg 2)) - 1) < x3) → (¬ (¬ x4 < (-99) ∧ ¬ 99 < x4) → P (some (.int (-2))) h) ∧ ((¬ x4 < (-99) ∧ ¬ 99 < x4) → ((¬ x5 < (-99) ∧ ¬ 99 < x5) → (¬ (gI h r0 23) = 24 → (isA h 0 (gF h r0 26)) ∧ ((vp_in (gI h r0 23) (ln (gF h r0 26))) ∧ ((isA h 0 (gF h r0 27)) ∧ ((vp_in (gI h r0 23) (ln (gF h r0 27))) ∧ ((isA h 0 (gF h r0 28)) ∧ ((vp_in (gI h r0 23) (ln (gF h r0 28))) ∧ ((isA h 0 (gF h r0 29)) ∧ ((vp_in (gI h r0 23) (ln (gF h r0 29))) ∧ ((isA h 0 (gF h r0 30)) ∧ ((vp_in (gI h r0 23) (ln (gF h r0 30))) ∧ (P (some (.int ((((gI h r0 23) + 1)) - 1))) (sI (sI (sI (sI (sI (sI (sI h r0 25 x1) (gF h r0 26) (gI h r0 23).toNatClampNeg x1) (gF h r0 27) (gI h r0 23).toNatClampNeg x2) (gF h r0 28) (gI h r0 23).toNatClampNeg x3) (gF h r0 29) (gI h r0 23).toNatClampNeg x4) (gF h r0 30) (gI h r0 23).toNatClampNeg x5) r0 23 ((gI h r0 23) + 1))))))))))))) ∧ ((gI h r0 23) = 24 → P (some (.int (-3))) h)) ∧ (¬ (¬ x5 < (-99) ∧ ¬ 99 < x5) → P (some (.int (-2))) h))))))))) : Rr mX12_read 0 0 0 [(0, .ref r0), (1, .int x1), (2, .int x2), (3, .int x3), (4, .int x4), (5, .int x5)] [] h P := by
  refine R_iload_n dX12_read_0 rfl 1 rfl ?_
  refine R_aload_n dX12_read_1 rfl 0 rfl ?_
  obtain ⟨ob1, hf⟩ := hf
  refine G12_25 dX12_read_2 lfX12_205 ob1 ?_
  refine R_sipush (v := 999) dX12_read_5 (by decide) ?_
  refine R_callS (N := mX12_in) (as := [.int x1, .int (gI h r0 25), .int 999]) (rest := []) (kc2 := 0) (ks2 := 0) dX12_read_8 lmX12_178 oX12_in (Nat.le_of_ble_eq_true rfl) rfl rfl (Nat.le_of_ble_eq_true rfl) rfl rfl (aX12_in  ?_)
  refine R_if_eq_b (tgt := 61) dX12_read_11 (by decide) (fun b2 => ?_) (fun b2 => ?_)
  · have hf := hf.1 b2
    refine R_bipush (v := (-2)) dX12_read_61 (by decide) ?_
    exact R_iret dX12_read_63 rfl rfl hf
  · have hf := hf.2 b2
    refine R_iload_n dX12_read_14 rfl 2 rfl ?_
    refine R_callS (N := mX12_isInkNumber) (as := [.int x2]) (rest := []) (kc2 := 0) (ks2 := 0) dX12_read_15 lmX12_259 oX12_isInkNumber (Nat.le_of_ble_eq_true rfl) rfl rfl (Nat.le_of_ble_eq_true rfl) rfl rfl (aX12_isInkNumber  ?_)
    refine R_if_eq_b (tgt := 61) dX12_read_18 (by decide) (fun b3 => ?_) (fun b3 => ?_)
    · have hf := hf.1 b3
      refine R_bipush (v := (-2)) dX12_read_61 (by decide) ?_
      exact R_iret dX12_read_63 rfl rfl hf
    · have hf := hf.2 b3
      refine R_iload_n dX12_read_21 rfl 3 rfl ?_
      refine R_iconst (v := 0) dX12_read_22 (by decide) ?_
      refine R_aload_n dX12_read_23 rfl 0 rfl ?_
      refine G12_11 dX12_read_24 lfX12_17 ob1 ?_
      refine R_iconst (v := 2) dX12_read_27 (by decide) ?_
      obtain ⟨ob4, hf⟩ := hf
      obtain ⟨ob5, hf⟩ := hf
      refine R_iaload dX12_read_28 ob4 ob5 ?_
      refine R_iconst (v := 1) dX12_read_29 (by decide) ?_
      refine R_isub dX12_read_30 ?_
      refine R_callS (N := mX12_in) (as := [.int x3, .int 0, .int ((gI h (gF h r0 11) (Int32.toNatClampNeg 2)) - 1)]) (rest := []) (kc2 := 0) (ks2 := 0) dX12_read_31 lmX12_178 oX12_in (Nat.le_of_ble_eq_true rfl) rfl rfl (Nat.le_of_ble_eq_true rfl) rfl rfl (aX12_in  ?_)
      refine R_if_eq_b (tgt := 61) dX12_read_34 (by decide) (fun b6 => ?_) (fun b6 => ?_)
      · have hf := hf.1 b6
        refine R_bipush (v := (-2)) dX12_read_61 (by decide) ?_
        exact R_iret dX12_read_63 rfl rfl hf
      · have hf := hf.2 b6
        refine R_iload dX12_read_37 4 rfl ?_
        refine R_bipush (v := (-99)) dX12_read_39 (by decide) ?_
        refine R_bipush (v := 99) dX12_read_41 (by decide) ?_
        refine R_callS (N := mX12_in) (as := [.int x4, .int (-99), .int 99]) (rest := []) (kc2 := 0) (ks2 := 0) dX12_read_43 lmX12_178 oX12_in (Nat.le_of_ble_eq_true rfl) rfl rfl (Nat.le_of_ble_eq_true rfl) rfl rfl (aX12_in  ?_)
        refine R_if_eq_b (tgt := 61) dX12_read_46 (by decide) (fun b7 => ?_) (fun b7 => ?_)
        · have hf := hf.1 b7
          refine R_bipush (v := (-2)) dX12_read_61 (by decide) ?_
          exact R_iret dX12_read_63 rfl rfl hf
        · have hf := hf.2 b7
          refine R_iload dX12_read_49 5 rfl ?_
          refine R_bipush (v := (-99)) dX12_read_51 (by decide) ?_
          refine R_bipush (v := 99) dX12_read_53 (by decide) ?_
          refine R_callS (N := mX12_in) (as := [.int x5, .int (-99), .int 99]) (rest := []) (kc2 := 0) (ks2 := 0) dX12_read_55 lmX12_178 oX12_in (Nat.le_of_ble_eq_true rfl) rfl rfl (Nat.le_of_ble_eq_true rfl) rfl rfl (aX12_in  ?_)
          refine R_if_ne_b (tgt := 64) dX12_read_58 (by decide) (fun b8 => ?_) (fun b8 => ?_)
          · have hf := hf.1 b8
            refine R_aload_n dX12_read_64 rfl 0 rfl ?_
            refine G12_23 dX12_read_65 lfX12_199 ob1 ?_
            refine R_bipush (v := 24) dX12_read_68 (by decide) ?_
            refine R_icmp_ne (tgt := 76) dX12_read_70 (by decide) (fun b9 => ?_) (fun b9 => ?_)
            · have hf := hf.1 b9
              refine R_aload_n dX12_read_76 rfl 0 rfl ?_
              refine R_iload_n dX12_read_77 rfl 1 rfl ?_
              refine S12_25 dX12_read_78 lfX12_205 ob1 ?_
              refine R_aload_n dX12_read_81 rfl 0 rfl ?_
              refine G12_26 dX12_read_82 lfX12_45 ob1 ?_
              refine R_eqF (y := gF h r0 26) rfl ?_
              refine R_aload_n dX12_read_85 rfl 0 rfl ?_
              refine G12_23 dX12_read_86 lfX12_199 ob1 ?_
              refine R_eqI (y := gI h r0 23) (rd_k (by decide)) ?_
              refine R_iload_n dX12_read_89 rfl 1 rfl ?_
              obtain ⟨ob10, hf⟩ := hf
              obtain ⟨ob11, hf⟩ := hf
              refine R_iastore dX12_read_90 ob10 ob11 ?_
              refine R_aload_n dX12_read_91 rfl 0 rfl ?_
              refine G12_27 dX12_read_92 lfX12_48 ob1 ?_
              refine R_eqF (y := gF h r0 27) rfl ?_
              refine R_aload_n dX12_read_95 rfl 0 rfl ?_
              refine G12_23 dX12_read_96 lfX12_199 ob1 ?_
              refine R_eqI (y := gI h r0 23) ((rd_r (ne_oa ob1 ob10 (by decide))).trans (rd_k (by decide))) ?_
              refine R_iload_n dX12_read_99 rfl 2 rfl ?_
              obtain ⟨ob12, hf⟩ := hf
              obtain ⟨ob13, hf⟩ := hf
              refine R_iastore dX12_read_100 ob12 ob13 ?_
              refine R_aload_n dX12_read_101 rfl 0 rfl ?_
              refine G12_28 dX12_read_102 lfX12_51 ob1 ?_
              refine R_eqF (y := gF h r0 28) rfl ?_
              refine R_aload_n dX12_read_105 rfl 0 rfl ?_
              refine G12_23 dX12_read_106 lfX12_199 ob1 ?_
              refine R_eqI (y := gI h r0 23) ((rd_r (ne_oa ob1 ob12 (by decide))).trans ((rd_r (ne_oa ob1 ob10 (by decide))).trans (rd_k (by decide)))) ?_
              refine R_iload_n dX12_read_109 rfl 3 rfl ?_
              obtain ⟨ob14, hf⟩ := hf
              obtain ⟨ob15, hf⟩ := hf
              refine R_iastore dX12_read_110 ob14 ob15 ?_
              refine R_aload_n dX12_read_111 rfl 0 rfl ?_
              refine G12_29 dX12_read_112 lfX12_54 ob1 ?_
              refine R_eqF (y := gF h r0 29) rfl ?_
              refine R_aload_n dX12_read_115 rfl 0 rfl ?_
              refine G12_23 dX12_read_116 lfX12_199 ob1 ?_
              refine R_eqI (y := gI h r0 23) ((rd_r (ne_oa ob1 ob14 (by decide))).trans ((rd_r (ne_oa ob1 ob12 (by decide))).trans ((rd_r (ne_oa ob1 ob10 (by decide))).trans (rd_k (by decide))))) ?_
              refine R_iload dX12_read_119 4 rfl ?_
              obtain ⟨ob16, hf⟩ := hf
              obtain ⟨ob17, hf⟩ := hf
              refine R_iastore dX12_read_121 ob16 ob17 ?_
              refine R_aload_n dX12_read_122 rfl 0 rfl ?_
              refine G12_30 dX12_read_123 lfX12_57 ob1 ?_
              refine R_eqF (y := gF h r0 30) rfl ?_
              refine R_aload_n dX12_read_126 rfl 0 rfl ?_
              refine G12_23 dX12_read_127 lfX12_199 ob1 ?_
              refine R_eqI (y := gI h r0 23) ((rd_r (ne_oa ob1 ob16 (by decide))).trans ((rd_r (ne_oa ob1 ob14 (by decide))).trans ((rd_r (ne_oa ob1 ob12 (by decide))).trans ((rd_r (ne_oa ob1 ob10 (by decide))).trans (rd_k (by decide)))))) ?_
              refine R_iload dX12_read_130 5 rfl ?_
              obtain ⟨ob18, hf⟩ := hf
              obtain ⟨ob19, hf⟩ := hf
              refine R_iastore dX12_read_132 ob18 ob19 ?_
              refine R_aload_n dX12_read_133 rfl 0 rfl ?_
              refine R_dup dX12_read_134 rfl ?_
              refine G12_23 dX12_read_135 lfX12_199 ob1 ?_
              refine R_eqI (y := gI h r0 23) ((rd_r (ne_oa ob1 ob18 (by decide))).trans ((rd_r (ne_oa ob1 ob16 (by decide))).trans ((rd_r (ne_oa ob1 ob14 (by decide))).trans ((rd_r (ne_oa ob1 ob12 (by decide))).trans ((rd_r (ne_oa ob1 ob10 (by decide))).trans (rd_k (by decide))))))) ?_
              refine R_iconst (v := 1) dX12_read_138 (by decide) ?_
              refine R_iadd dX12_read_139 ?_
              refine S12_23 dX12_read_140 lfX12_199 ob1 ?_
              refine R_aload_n dX12_read_143 rfl 0 rfl ?_
              refine G12_23 dX12_read_144 lfX12_199 ob1 ?_
              refine R_eqI (y := ((gI h r0 23) + 1)) rd_h ?_
              refine R_iconst (v := 1) dX12_read_147 (by decide) ?_
              refine R_isub dX12_read_148 ?_
              exact R_iret dX12_read_149 rfl rfl hf
            · have hf := hf.2 b9
              refine R_bipush (v := (-3)) dX12_read_73 (by decide) ?_
              exact R_iret dX12_read_75 rfl rfl hf
          · have hf := hf.2 b8
            refine R_bipush (v := (-2)) dX12_read_61 (by decide) ?_
            exact R_iret dX12_read_63 rfl rfl hf
theorem dX12_screw_0 : decode cX12_screw 0 = .ok (.iload_n 1, 1) := by decide +kernel
theorem dX12_screw_1 : decode cX12_screw 1 = .ok (.invokestatic 259, 3) := by decide +kernel
theorem dX12_screw_4 : decode cX12_screw 4 = .ok (.ifCond .eq 46, 3) := by decide +kernel
theorem dX12_screw_7 : decode cX12_screw 7 = .ok (.iload_n 2, 1) := by decide +kernel
theorem dX12_screw_8 : decode cX12_screw 8 = .ok (.iconst 0, 1) := by decide +kernel
theorem dX12_screw_9 : decode cX12_screw 9 = .ok (.aload_n 0, 1) := by decide +kernel
theorem dX12_screw_10 : decode cX12_screw 10 = .ok (.getfield 27, 3) := by decide +kernel
theorem dX12_screw_13 : decode cX12_screw 13 = .ok (.iload_n 1, 1) := by decide +kernel
theorem dX12_screw_14 : decode cX12_screw 14 = .ok (.iaload, 1) := by decide +kernel
theorem dX12_screw_15 : decode cX12_screw 15 = .ok (.iconst 1, 1) := by decide +kernel
theorem dX12_screw_16 : decode cX12_screw 16 = .ok (.isub, 1) := by decide +kernel
theorem dX12_screw_17 : decode cX12_screw 17 = .ok (.invokestatic 178, 3) := by decide +kernel
theorem dX12_screw_20 : decode cX12_screw 20 = .ok (.ifCond .eq 30, 3) := by decide +kernel
theorem dX12_screw_23 : decode cX12_screw 23 = .ok (.iload_n 3, 1) := by decide +kernel
theorem dX12_screw_24 : decode cX12_screw 24 = .ok (.iconst 0, 1) := by decide +kernel
theorem dX12_screw_25 : decode cX12_screw 25 = .ok (.iconst 2, 1) := by decide +kernel
theorem dX12_screw_26 : decode cX12_screw 26 = .ok (.invokestatic 178, 3) := by decide +kernel
theorem dX12_screw_29 : decode cX12_screw 29 = .ok (.ifCond .eq 21, 3) := by decide +kernel
theorem dX12_screw_32 : decode cX12_screw 32 = .ok (.aload_n 0, 1) := by decide +kernel
theorem dX12_screw_33 : decode cX12_screw 33 = .ok (.getfield 30, 3) := by decide +kernel
theorem dX12_screw_36 : decode cX12_screw 36 = .ok (.bipush 9, 2) := by decide +kernel
theorem dX12_screw_38 : decode cX12_screw 38 = .ok (.iload_n 1, 1) := by decide +kernel
theorem dX12_screw_39 : decode cX12_screw 39 = .ok (.imul, 1) := by decide +kernel
theorem dX12_screw_40 : decode cX12_screw 40 = .ok (.iconst 3, 1) := by decide +kernel
theorem dX12_screw_41 : decode cX12_screw 41 = .ok (.iload_n 2, 1) := by decide +kernel
theorem dX12_screw_42 : decode cX12_screw 42 = .ok (.imul, 1) := by decide +kernel
theorem dX12_screw_43 : decode cX12_screw 43 = .ok (.iadd, 1) := by decide +kernel
theorem dX12_screw_44 : decode cX12_screw 44 = .ok (.iload_n 3, 1) := by decide +kernel
theorem dX12_screw_45 : decode cX12_screw 45 = .ok (.iadd, 1) := by decide +kernel
theorem dX12_screw_46 : decode cX12_screw 46 = .ok (.iaload, 1) := by decide +kernel
theorem dX12_screw_47 : decode cX12_screw 47 = .ok (.goto 5, 3) := by decide +kernel
theorem dX12_screw_50 : decode cX12_screw 50 = .ok (.bipush (-99), 2) := by decide +kernel
theorem dX12_screw_52 : decode cX12_screw 52 = .ok (.ireturn, 1) := by decide +kernel
set_option maxRecDepth 20000 in
theorem sX12_screw_0 {P : Option Value → AH → Prop} (h : AH) (r0 : Nat) (x1 : Int32) (x2 : Int32) (x3 : Int32) (hf : (isO h 12 r0) ∧ ((isA h 0 (gF h r0 14)) ∧ (((¬ x1 < 0 ∧ ¬ 3 < x1) → vp_in x1 (ln (gF h r0 14))) ∧ ((isA h 0 (gF h r0 15)) ∧ (((¬ x1 < 0 ∧ ¬ 3 < x1) → (¬ x2 < 0 ∧ ¬ ((gI h (gF h r0 14) x1.toNatClampNeg) - 1) < x2) → (¬ x3 < 0 ∧ ¬ 2 < x3) → vp_in (((9 * x1) + (3 * x2)) + x3) (ln (gF h r0 15))) ∧ (∀ z9 : Int32, z9 = (if (¬ x1 < 0 ∧ ¬ 3 < x1) then (if (¬ x2 < 0 ∧ ¬ ((gI h (gF h r0 14) x1.toNatClampNeg) - 1) < x2) then (if (¬ x3 < 0 ∧ ¬ 2 < x3) then (gI h (gF h r0 15) (((9 * x1) + (3 * x2)) + x3).toNatClampNeg) else (-99)) else (-99)) else (-99)) → (P (some (.int z9)) h))))))) : Rr mX12_screw 0 0 0 [(0, .ref r0), (1, .int x1), (2, .int x2), (3, .int x3)] [] h P := by
  refine R_iload_n dX12_screw_0 rfl 1 rfl ?_
  refine R_callS (N := mX12_isInkNumber) (as := [.int x1]) (rest := []) (kc2 := 0) (ks2 := 0) dX12_screw_1 lmX12_259 oX12_isInkNumber (Nat.le_of_ble_eq_true rfl) rfl rfl (Nat.le_of_ble_eq_true rfl) rfl rfl (aX12_isInkNumber  ?_)
  obtain ⟨ob2, hf⟩ := hf
  obtain ⟨ob3, hf⟩ := hf
  obtain ⟨ob4, hf⟩ := hf
  obtain ⟨ob7, hf⟩ := hf
  obtain ⟨ob8, hf⟩ := hf
  have key : ∀ z9 : Int32, z9 = (if (¬ x1 < 0 ∧ ¬ 3 < x1) then (if (¬ x2 < 0 ∧ ¬ ((gI h (gF h r0 14) x1.toNatClampNeg) - 1) < x2) then (if (¬ x3 < 0 ∧ ¬ 2 < x3) then (gI h (gF h r0 15) (((9 * x1) + (3 * x2)) + x3).toNatClampNeg) else (-99)) else (-99)) else (-99)) → Rr mX12_screw 0 0 52 [] [.int z9] h P := by
    intro z9 ez9
    have hf := hf z9 ez9
    exact R_iret dX12_screw_52 rfl rfl hf
  refine R_if_eq_b (tgt := 50) dX12_screw_4 (by decide) (fun b1 => ?_) (fun b1 => ?_)
  · refine R_bipush (v := (-99)) dX12_screw_50 (by decide) ?_
    exact R_sub [] rfl (key _ (by rw [if_neg b1]))
  · refine R_iload_n dX12_screw_7 rfl 2 rfl ?_
    refine R_iconst (v := 0) dX12_screw_8 (by decide) ?_
    refine R_aload_n dX12_screw_9 rfl 0 rfl ?_
    refine G12_14 dX12_screw_10 lfX12_27 ob2 ?_
    refine R_iload_n dX12_screw_13 rfl 1 rfl ?_
    refine R_iaload dX12_screw_14 ob3 (ob4 b1) ?_
    refine R_iconst (v := 1) dX12_screw_15 (by decide) ?_
    refine R_isub dX12_screw_16 ?_
    refine R_callS (N := mX12_in) (as := [.int x2, .int 0, .int ((gI h (gF h r0 14) x1.toNatClampNeg) - 1)]) (rest := []) (kc2 := 0) (ks2 := 0) dX12_screw_17 lmX12_178 oX12_in (Nat.le_of_ble_eq_true rfl) rfl rfl (Nat.le_of_ble_eq_true rfl) rfl rfl (aX12_in  ?_)
    refine R_if_eq_b (tgt := 50) dX12_screw_20 (by decide) (fun b5 => ?_) (fun b5 => ?_)
    · refine R_bipush (v := (-99)) dX12_screw_50 (by decide) ?_
      exact R_sub [] rfl (key _ (by rw [if_pos b1, if_neg b5]))
    · refine R_iload_n dX12_screw_23 rfl 3 rfl ?_
      refine R_iconst (v := 0) dX12_screw_24 (by decide) ?_
      refine R_iconst (v := 2) dX12_screw_25 (by decide) ?_
      refine R_callS (N := mX12_in) (as := [.int x3, .int 0, .int 2]) (rest := []) (kc2 := 0) (ks2 := 0) dX12_screw_26 lmX12_178 oX12_in (Nat.le_of_ble_eq_true rfl) rfl rfl (Nat.le_of_ble_eq_true rfl) rfl rfl (aX12_in  ?_)
      refine R_if_eq_b (tgt := 50) dX12_screw_29 (by decide) (fun b6 => ?_) (fun b6 => ?_)
      · refine R_bipush (v := (-99)) dX12_screw_50 (by decide) ?_
        exact R_sub [] rfl (key _ (by rw [if_pos b1, if_pos b5, if_neg b6]))
      · refine R_aload_n dX12_screw_32 rfl 0 rfl ?_
        refine G12_15 dX12_screw_33 lfX12_30 ob2 ?_
        refine R_bipush (v := 9) dX12_screw_36 (by decide) ?_
        refine R_iload_n dX12_screw_38 rfl 1 rfl ?_
        refine R_imul dX12_screw_39 ?_
        refine R_iconst (v := 3) dX12_screw_40 (by decide) ?_
        refine R_iload_n dX12_screw_41 rfl 2 rfl ?_
        refine R_imul dX12_screw_42 ?_
        refine R_iadd dX12_screw_43 ?_
        refine R_iload_n dX12_screw_44 rfl 3 rfl ?_
        refine R_iadd dX12_screw_45 ?_
        refine R_iaload dX12_screw_46 ob7 (ob8 b1 b5 b6) ?_
        refine R_goto (tgt := 52) dX12_screw_47 (by decide) ?_
        exact R_sub [] rfl (key _ (by rw [if_pos b1, if_pos b5, if_pos b6]))
theorem aX12_screw {h : AH} {P : Option Value → AH → Prop} {r0 : Nat} {x1 : Int32} {x2 : Int32} {x3 : Int32} (o0 : isO h 12 r0) (o1 : isA h 0 (gF h r0 14)) (o2 : (¬ x1 < 0 ∧ ¬ 3 < x1) → vp_in x1 (ln (gF h r0 14))) (o3 : isA h 0 (gF h r0 15)) (o4 : (¬ x1 < 0 ∧ ¬ 3 < x1) → (¬ x2 < 0 ∧ ¬ ((gI h (gF h r0 14) x1.toNatClampNeg) - 1) < x2) → (¬ x3 < 0 ∧ ¬ 2 < x3) → vp_in (((9 * x1) + (3 * x2)) + x3) (ln (gF h r0 15))) (k : P (some (.int (if (¬ x1 < 0 ∧ ¬ 3 < x1) then (if (¬ x2 < 0 ∧ ¬ ((gI h (gF h r0 14) x1.toNatClampNeg) - 1) < x2) then (if (¬ x3 < 0 ∧ ¬ 2 < x3) then (gI h (gF h r0 15) (((9 * x1) + (3 * x2)) + x3).toNatClampNeg) else (-99)) else (-99)) else (-99)))) h) : Call mX12_screw [.ref r0, .int x1, .int x2, .int x3] h P :=
  Call.ofR (by decide +kernel) (Nat.le_of_ble_eq_true rfl) (sX12_screw_0 h r0 x1 x2 x3 (⟨o0, ⟨o1, ⟨o2, ⟨o3, ⟨o4, fun z9 ez9 => by subst ez9; exact (k)⟩⟩⟩⟩⟩))
