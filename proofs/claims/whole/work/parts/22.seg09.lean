theorem dX12_fit_0 : decode cX12_fit 0 = .ok (.iload_n 1, 1) := by decide +kernel
theorem dX12_fit_1 : decode cX12_fit 1 = .ok (.invokestatic 259, 3) := by decide +kernel
theorem dX12_fit_4 : decode cX12_fit 4 = .ok (.ifCond .eq 40, 3) := by decide +kernel
theorem dX12_fit_7 : decode cX12_fit 7 = .ok (.iload_n 2, 1) := by decide +kernel
theorem dX12_fit_8 : decode cX12_fit 8 = .ok (.iconst 0, 1) := by decide +kernel
theorem dX12_fit_9 : decode cX12_fit 9 = .ok (.sipush 999, 3) := by decide +kernel
theorem dX12_fit_12 : decode cX12_fit 12 = .ok (.invokestatic 178, 3) := by decide +kernel
theorem dX12_fit_15 : decode cX12_fit 15 = .ok (.ifCond .eq 29, 3) := by decide +kernel
theorem dX12_fit_18 : decode cX12_fit 18 = .ok (.iload_n 3, 1) := by decide +kernel
theorem dX12_fit_19 : decode cX12_fit 19 = .ok (.ifCond .eq 28, 3) := by decide +kernel
theorem dX12_fit_22 : decode cX12_fit 22 = .ok (.iload_n 3, 1) := by decide +kernel
theorem dX12_fit_23 : decode cX12_fit 23 = .ok (.bipush 10, 2) := by decide +kernel
theorem dX12_fit_25 : decode cX12_fit 25 = .ok (.bipush 13, 2) := by decide +kernel
theorem dX12_fit_27 : decode cX12_fit 27 = .ok (.invokestatic 178, 3) := by decide +kernel
theorem dX12_fit_30 : decode cX12_fit 30 = .ok (.ifCond .ne 17, 3) := by decide +kernel
theorem dX12_fit_33 : decode cX12_fit 33 = .ok (.iload_n 3, 1) := by decide +kernel
theorem dX12_fit_34 : decode cX12_fit 34 = .ok (.bipush 20, 2) := by decide +kernel
theorem dX12_fit_36 : decode cX12_fit 36 = .ok (.bipush 23, 2) := by decide +kernel
theorem dX12_fit_38 : decode cX12_fit 38 = .ok (.invokestatic 178, 3) := by decide +kernel
theorem dX12_fit_41 : decode cX12_fit 41 = .ok (.ifCond .ne 6, 3) := by decide +kernel
theorem dX12_fit_44 : decode cX12_fit 44 = .ok (.bipush (-99), 2) := by decide +kernel
theorem dX12_fit_46 : decode cX12_fit 46 = .ok (.ireturn, 1) := by decide +kernel
theorem dX12_fit_47 : decode cX12_fit 47 = .ok (.aload_n 0, 1) := by decide +kernel
theorem dX12_fit_48 : decode cX12_fit 48 = .ok (.iload_n 1, 1) := by decide +kernel
theorem dX12_fit_49 : decode cX12_fit 49 = .ok (.iload_n 2, 1) := by decide +kernel
theorem dX12_fit_50 : decode cX12_fit 50 = .ok (.invokevirtual 292, 3) := by decide +kernel
theorem dX12_fit_53 : decode cX12_fit 53 = .ok (.iload_n 3, 1) := by decide +kernel
theorem dX12_fit_54 : decode cX12_fit 54 = .ok (.ifCond .ne 8, 3) := by decide +kernel
theorem dX12_fit_57 : decode cX12_fit 57 = .ok (.aload_n 0, 1) := by decide +kernel
theorem dX12_fit_58 : decode cX12_fit 58 = .ok (.getfield 279, 3) := by decide +kernel
theorem dX12_fit_61 : decode cX12_fit 61 = .ok (.ireturn, 1) := by decide +kernel
theorem dX12_fit_62 : decode cX12_fit 62 = .ok (.aload_n 0, 1) := by decide +kernel
theorem dX12_fit_63 : decode cX12_fit 63 = .ok (.getfield 279, 3) := by decide +kernel
theorem dX12_fit_66 : decode cX12_fit 66 = .ok (.ifCond .ne 8, 3) := by decide +kernel
theorem dX12_fit_69 : decode cX12_fit 69 = .ok (.bipush (-99), 2) := by decide +kernel
theorem dX12_fit_71 : decode cX12_fit 71 = .ok (.goto 30, 3) := by decide +kernel
theorem dX12_fit_74 : decode cX12_fit 74 = .ok (.iload_n 3, 1) := by decide +kernel
theorem dX12_fit_75 : decode cX12_fit 75 = .ok (.bipush 20, 2) := by decide +kernel
theorem dX12_fit_77 : decode cX12_fit 77 = .ok (.if_icmp .ge 15, 3) := by decide +kernel
theorem dX12_fit_80 : decode cX12_fit 80 = .ok (.aload_n 0, 1) := by decide +kernel
theorem dX12_fit_81 : decode cX12_fit 81 = .ok (.getfield 84, 3) := by decide +kernel
theorem dX12_fit_84 : decode cX12_fit 84 = .ok (.iload_n 3, 1) := by decide +kernel
theorem dX12_fit_85 : decode cX12_fit 85 = .ok (.bipush 10, 2) := by decide +kernel
theorem dX12_fit_87 : decode cX12_fit 87 = .ok (.isub, 1) := by decide +kernel
theorem dX12_fit_88 : decode cX12_fit 88 = .ok (.iaload, 1) := by decide +kernel
theorem dX12_fit_89 : decode cX12_fit 89 = .ok (.goto 12, 3) := by decide +kernel
theorem dX12_fit_92 : decode cX12_fit 92 = .ok (.aload_n 0, 1) := by decide +kernel
theorem dX12_fit_93 : decode cX12_fit 93 = .ok (.getfield 87, 3) := by decide +kernel
theorem dX12_fit_96 : decode cX12_fit 96 = .ok (.iload_n 3, 1) := by decide +kernel
theorem dX12_fit_97 : decode cX12_fit 97 = .ok (.bipush 20, 2) := by decide +kernel
theorem dX12_fit_99 : decode cX12_fit 99 = .ok (.isub, 1) := by decide +kernel
theorem dX12_fit_100 : decode cX12_fit 100 = .ok (.iaload, 1) := by decide +kernel
theorem dX12_fit_101 : decode cX12_fit 101 = .ok (.ireturn, 1) := by decide +kernel
set_option maxRecDepth 20000 in
theorem sX12_fit_0 {P : Option Value → AH → Prop} (h : AH) (r0 : Nat) (x1 : Int32) (x2 : Int32) (x3 : Int32) (hf : (¬ (¬ x1 < 0 ∧ ¬ 3 < x1) → P (some (.int (-99))) h) ∧ ((¬ x1 < 0 ∧ ¬ 3 < x1) → (¬ (¬ x2 < 0 ∧ ¬ 999 < x2) → P (some (.int (-99))) h) ∧ ((¬ x2 < 0 ∧ ¬ 999 < x2) → (x3 = 0 → (isO h 12 r0) ∧ (Call mX12_makeFits [.ref r0, .int x1, .int x2] h (fun v h5 => v = none ∧ ((¬ x3 = 0 → (isO h5 12 r0) ∧ ((isA h5 0 (gF h5 r0 42)) ∧ ((¬ (gI h5 r0 40) = 0 → 20 ≤ x3 → vp_in (x3 - 20) (ln (gF h5 r0 42))) ∧ ((isA h5 0 (gF h5 r0 41)) ∧ ((¬ (gI h5 r0 40) = 0 → ¬ 20 ≤ x3 → vp_in (x3 - 10) (ln (gF h5 r0 41))) ∧ (∀ z14 : Int32, z14 = (if (gI h5 r0 40) = 0 then (-99) else (if 20 ≤ x3 then (gI h5 (gF h5 r0 42) (x3 - 20).toNatClampNeg) else (gI h5 (gF h5 r0 41) (x3 - 10).toNatClampNeg))) → (P (some (.int z14)) h5))))))) ∧ (x3 = 0 → (isO h5 12 r0) ∧ (P (some (.int (gI h5 r0 40))) h5)))))) ∧ (¬ x3 = 0 → ((¬ x3 < 10 ∧ ¬ 13 < x3) → (isO h 12 r0) ∧ (Call mX12_makeFits [.ref r0, .int x1, .int x2] h (fun v h18 => v = none ∧ ((¬ x3 = 0 → (isO h18 12 r0) ∧ ((isA h18 0 (gF h18 r0 42)) ∧ ((¬ (gI h18 r0 40) = 0 → 20 ≤ x3 → vp_in (x3 - 20) (ln (gF h18 r0 42))) ∧ ((isA h18 0 (gF h18 r0 41)) ∧ ((¬ (gI h18 r0 40) = 0 → ¬ 20 ≤ x3 → vp_in (x3 - 10) (ln (gF h18 r0 41))) ∧ (∀ z27 : Int32, z27 = (if (gI h18 r0 40) = 0 then (-99) else (if 20 ≤ x3 then (gI h18 (gF h18 r0 42) (x3 - 20).toNatClampNeg) else (gI h18 (gF h18 r0 41) (x3 - 10).toNatClampNeg))) → (P (some (.int z27)) h18))))))) ∧ (x3 = 0 → (isO h18 12 r0) ∧ (P (some (.int (gI h18 r0 40))) h18)))))) ∧ (¬ (¬ x3 < 10 ∧ ¬ 13 < x3) → ((¬ x3 < 20 ∧ ¬ 23 < x3) → (isO h 12 r0) ∧ (Call mX12_makeFits [.ref r0, .int x1, .int x2] h (fun v h31 => v = none ∧ ((¬ x3 = 0 → (isO h31 12 r0) ∧ ((isA h31 0 (gF h31 r0 42)) ∧ ((¬ (gI h31 r0 40) = 0 → 20 ≤ x3 → vp_in (x3 - 20) (ln (gF h31 r0 42))) ∧ ((isA h31 0 (gF h31 r0 41)) ∧ ((¬ (gI h31 r0 40) = 0 → ¬ 20 ≤ x3 → vp_in (x3 - 10) (ln (gF h31 r0 41))) ∧ (∀ z40 : Int32, z40 = (if (gI h31 r0 40) = 0 then (-99) else (if 20 ≤ x3 then (gI h31 (gF h31 r0 42) (x3 - 20).toNatClampNeg) else (gI h31 (gF h31 r0 41) (x3 - 10).toNatClampNeg))) → (P (some (.int z40)) h31))))))) ∧ (x3 = 0 → (isO h31 12 r0) ∧ (P (some (.int (gI h31 r0 40))) h31)))))) ∧ (¬ (¬ x3 < 20 ∧ ¬ 23 < x3) → P (some (.int (-99))) h)))))) : Rr mX12_fit 0 0 0 [(0, .ref r0), (1, .int x1), (2, .int x2), (3, .int x3)] [] h P := by
  refine R_iload_n dX12_fit_0 rfl 1 rfl ?_
  refine R_callS (N := mX12_isInkNumber) (as := [.int x1]) (rest := []) (kc2 := 0) (ks2 := 0) dX12_fit_1 lmX12_259 oX12_isInkNumber (Nat.le_of_ble_eq_true rfl) rfl rfl (Nat.le_of_ble_eq_true rfl) rfl rfl (aX12_isInkNumber  ?_)
  refine R_if_eq_b (tgt := 44) dX12_fit_4 (by decide) (fun b1 => ?_) (fun b1 => ?_)
  · have hf := hf.1 b1
    refine R_bipush (v := (-99)) dX12_fit_44 (by decide) ?_
    exact R_iret dX12_fit_46 rfl rfl hf
  · have hf := hf.2 b1
    refine R_iload_n dX12_fit_7 rfl 2 rfl ?_
    refine R_iconst (v := 0) dX12_fit_8 (by decide) ?_
    refine R_sipush (v := 999) dX12_fit_9 (by decide) ?_
    refine R_callS (N := mX12_in) (as := [.int x2, .int 0, .int 999]) (rest := []) (kc2 := 0) (ks2 := 0) dX12_fit_12 lmX12_178 oX12_in (Nat.le_of_ble_eq_true rfl) rfl rfl (Nat.le_of_ble_eq_true rfl) rfl rfl (aX12_in  ?_)
    refine R_if_eq_b (tgt := 44) dX12_fit_15 (by decide) (fun b2 => ?_) (fun b2 => ?_)
    · have hf := hf.1 b2
      refine R_bipush (v := (-99)) dX12_fit_44 (by decide) ?_
      exact R_iret dX12_fit_46 rfl rfl hf
    · have hf := hf.2 b2
      refine R_iload_n dX12_fit_18 rfl 3 rfl ?_
      refine R_if_eq (tgt := 47) dX12_fit_19 (by decide) (fun b3 => ?_) (fun b3 => ?_)
      · have hf := hf.1 b3
        refine R_aload_n dX12_fit_47 rfl 0 rfl ?_
        refine R_iload_n dX12_fit_48 rfl 1 rfl ?_
        refine R_iload_n dX12_fit_49 rfl 2 rfl ?_
        obtain ⟨ob4, hf⟩ := hf
        refine R_callV (ci := 12) (N := mX12_makeFits) (as := [.int x1, .int x2]) (rest := []) (kc2 := 0) (ks2 := 0) dX12_fit_50 lmX12_292 oX12_makeFits (Nat.le_of_ble_eq_true rfl) rfl rfl (Nat.le_of_ble_eq_true rfl) rfl rfl ob4 ok12 (Call.mono hf ?_)
        rintro _ h5 ⟨rfl, hf⟩
        refine R_iload_n dX12_fit_53 rfl 3 rfl ?_
        refine R_if_ne (tgt := 62) dX12_fit_54 (by decide) (fun b6 => ?_) (fun b6 => ?_)
        · have hf := hf.1 b6
          refine R_aload_n dX12_fit_62 rfl 0 rfl ?_
          obtain ⟨ob7, hf⟩ := hf
          refine G12_40 dX12_fit_63 lfX12_279 ob7 ?_
          obtain ⟨ob10, hf⟩ := hf
          obtain ⟨ob11, hf⟩ := hf
          obtain ⟨ob12, hf⟩ := hf
          obtain ⟨ob13, hf⟩ := hf
          have key : ∀ z14 : Int32, z14 = (if (gI h5 r0 40) = 0 then (-99) else (if 20 ≤ x3 then (gI h5 (gF h5 r0 42) (x3 - 20).toNatClampNeg) else (gI h5 (gF h5 r0 41) (x3 - 10).toNatClampNeg))) → Rr mX12_fit 0 0 101 [] [.int z14] h5 P := by
            intro z14 ez14
            have hf := hf z14 ez14
            exact R_iret dX12_fit_101 rfl rfl hf
          refine R_if_ne (tgt := 74) dX12_fit_66 (by decide) (fun b8 => ?_) (fun b8 => ?_)
          · refine R_iload_n dX12_fit_74 rfl 3 rfl ?_
            refine R_bipush (v := 20) dX12_fit_75 (by decide) ?_
            refine R_icmp_ge (tgt := 92) dX12_fit_77 (by decide) (fun b9 => ?_) (fun b9 => ?_)
            · refine R_aload_n dX12_fit_92 rfl 0 rfl ?_
              refine G12_42 dX12_fit_93 lfX12_87 ob7 ?_
              refine R_iload_n dX12_fit_96 rfl 3 rfl ?_
              refine R_bipush (v := 20) dX12_fit_97 (by decide) ?_
              refine R_isub dX12_fit_99 ?_
              refine R_iaload dX12_fit_100 ob10 (ob11 b8 b9) ?_
              exact R_sub [] rfl (key _ (by rw [if_neg b8, if_pos b9]))
            · refine R_aload_n dX12_fit_80 rfl 0 rfl ?_
              refine G12_41 dX12_fit_81 lfX12_84 ob7 ?_
              refine R_iload_n dX12_fit_84 rfl 3 rfl ?_
              refine R_bipush (v := 10) dX12_fit_85 (by decide) ?_
              refine R_isub dX12_fit_87 ?_
              refine R_iaload dX12_fit_88 ob12 (ob13 b8 b9) ?_
              refine R_goto (tgt := 101) dX12_fit_89 (by decide) ?_
              exact R_sub [] rfl (key _ (by rw [if_neg b8, if_neg b9]))
          · refine R_bipush (v := (-99)) dX12_fit_69 (by decide) ?_
            refine R_goto (tgt := 101) dX12_fit_71 (by decide) ?_
            exact R_sub [] rfl (key _ (by rw [if_pos b8]))
        · have hf := hf.2 b6
          refine R_aload_n dX12_fit_57 rfl 0 rfl ?_
          obtain ⟨ob15, hf⟩ := hf
          refine G12_40 dX12_fit_58 lfX12_279 ob15 ?_
          exact R_iret dX12_fit_61 rfl rfl hf
      · have hf := hf.2 b3
        refine R_iload_n dX12_fit_22 rfl 3 rfl ?_
        refine R_bipush (v := 10) dX12_fit_23 (by decide) ?_
        refine R_bipush (v := 13) dX12_fit_25 (by decide) ?_
        refine R_callS (N := mX12_in) (as := [.int x3, .int 10, .int 13]) (rest := []) (kc2 := 0) (ks2 := 0) dX12_fit_27 lmX12_178 oX12_in (Nat.le_of_ble_eq_true rfl) rfl rfl (Nat.le_of_ble_eq_true rfl) rfl rfl (aX12_in  ?_)
        refine R_if_ne_b (tgt := 47) dX12_fit_30 (by decide) (fun b16 => ?_) (fun b16 => ?_)
        · have hf := hf.1 b16
          refine R_aload_n dX12_fit_47 rfl 0 rfl ?_
          refine R_iload_n dX12_fit_48 rfl 1 rfl ?_
          refine R_iload_n dX12_fit_49 rfl 2 rfl ?_
          obtain ⟨ob17, hf⟩ := hf
          refine R_callV (ci := 12) (N := mX12_makeFits) (as := [.int x1, .int x2]) (rest := []) (kc2 := 0) (ks2 := 0) dX12_fit_50 lmX12_292 oX12_makeFits (Nat.le_of_ble_eq_true rfl) rfl rfl (Nat.le_of_ble_eq_true rfl) rfl rfl ob17 ok12 (Call.mono hf ?_)
          rintro _ h18 ⟨rfl, hf⟩
          refine R_iload_n dX12_fit_53 rfl 3 rfl ?_
          refine R_if_ne (tgt := 62) dX12_fit_54 (by decide) (fun b19 => ?_) (fun b19 => ?_)
          · have hf := hf.1 b19
            refine R_aload_n dX12_fit_62 rfl 0 rfl ?_
            obtain ⟨ob20, hf⟩ := hf
            refine G12_40 dX12_fit_63 lfX12_279 ob20 ?_
            obtain ⟨ob23, hf⟩ := hf
            obtain ⟨ob24, hf⟩ := hf
            obtain ⟨ob25, hf⟩ := hf
            obtain ⟨ob26, hf⟩ := hf
            have key : ∀ z27 : Int32, z27 = (if (gI h18 r0 40) = 0 then (-99) else (if 20 ≤ x3 then (gI h18 (gF h18 r0 42) (x3 - 20).toNatClampNeg) else (gI h18 (gF h18 r0 41) (x3 - 10).toNatClampNeg))) → Rr mX12_fit 0 0 101 [] [.int z27] h18 P := by
              intro z27 ez27
              have hf := hf z27 ez27
              exact R_iret dX12_fit_101 rfl rfl hf
            refine R_if_ne (tgt := 74) dX12_fit_66 (by decide) (fun b21 => ?_) (fun b21 => ?_)
            · refine R_iload_n dX12_fit_74 rfl 3 rfl ?_
              refine R_bipush (v := 20) dX12_fit_75 (by decide) ?_
              refine R_icmp_ge (tgt := 92) dX12_fit_77 (by decide) (fun b22 => ?_) (fun b22 => ?_)
              · refine R_aload_n dX12_fit_92 rfl 0 rfl ?_
                refine G12_42 dX12_fit_93 lfX12_87 ob20 ?_
                refine R_iload_n dX12_fit_96 rfl 3 rfl ?_
                refine R_bipush (v := 20) dX12_fit_97 (by decide) ?_
                refine R_isub dX12_fit_99 ?_
                refine R_iaload dX12_fit_100 ob23 (ob24 b21 b22) ?_
                exact R_sub [] rfl (key _ (by rw [if_neg b21, if_pos b22]))
              · refine R_aload_n dX12_fit_80 rfl 0 rfl ?_
                refine G12_41 dX12_fit_81 lfX12_84 ob20 ?_
                refine R_iload_n dX12_fit_84 rfl 3 rfl ?_
                refine R_bipush (v := 10) dX12_fit_85 (by decide) ?_
                refine R_isub dX12_fit_87 ?_
                refine R_iaload dX12_fit_88 ob25 (ob26 b21 b22) ?_
                refine R_goto (tgt := 101) dX12_fit_89 (by decide) ?_
                exact R_sub [] rfl (key _ (by rw [if_neg b21, if_neg b22]))
            · refine R_bipush (v := (-99)) dX12_fit_69 (by decide) ?_
              refine R_goto (tgt := 101) dX12_fit_71 (by decide) ?_
              exact R_sub [] rfl (key _ (by rw [if_pos b21]))
          · have hf := hf.2 b19
            refine R_aload_n dX12_fit_57 rfl 0 rfl ?_
            obtain ⟨ob28, hf⟩ := hf
            refine G12_40 dX12_fit_58 lfX12_279 ob28 ?_
            exact R_iret dX12_fit_61 rfl rfl hf
        · have hf := hf.2 b16
          refine R_iload_n dX12_fit_33 rfl 3 rfl ?_
          refine R_bipush (v := 20) dX12_fit_34 (by decide) ?_
          refine R_bipush (v := 23) dX12_fit_36 (by decide) ?_
          refine R_callS (N := mX12_in) (as := [.int x3, .int 20, .int 23]) (rest := []) (kc2 := 0) (ks2 := 0) dX12_fit_38 lmX12_178 oX12_in (Nat.le_of_ble_eq_true rfl) rfl rfl (Nat.le_of_ble_eq_true rfl) rfl rfl (aX12_in  ?_)
          refine R_if_ne_b (tgt := 47) dX12_fit_41 (by decide) (fun b29 => ?_) (fun b29 => ?_)
          · have hf := hf.1 b29
            refine R_aload_n dX12_fit_47 rfl 0 rfl ?_
            refine R_iload_n dX12_fit_48 rfl 1 rfl ?_
            refine R_iload_n dX12_fit_49 rfl 2 rfl ?_
            obtain ⟨ob30, hf⟩ := hf
            refine R_callV (ci := 12) (N := mX12_makeFits) (as := [.int x1, .int x2]) (rest := []) (kc2 := 0) (ks2 := 0) dX12_fit_50 lmX12_292 oX12_makeFits (Nat.le_of_ble_eq_true rfl) rfl rfl (Nat.le_of_ble_eq_true rfl) rfl rfl ob30 ok12 (Call.mono hf ?_)
            rintro _ h31 ⟨rfl, hf⟩
            refine R_iload_n dX12_fit_53 rfl 3 rfl ?_
            refine R_if_ne (tgt := 62) dX12_fit_54 (by decide) (fun b32 => ?_) (fun b32 => ?_)
            · have hf := hf.1 b32
              refine R_aload_n dX12_fit_62 rfl 0 rfl ?_
              obtain ⟨ob33, hf⟩ := hf
              refine G12_40 dX12_fit_63 lfX12_279 ob33 ?_
              obtain ⟨ob36, hf⟩ := hf
              obtain ⟨ob37, hf⟩ := hf
              obtain ⟨ob38, hf⟩ := hf
              obtain ⟨ob39, hf⟩ := hf
              have key : ∀ z40 : Int32, z40 = (if (gI h31 r0 40) = 0 then (-99) else (if 20 ≤ x3 then (gI h31 (gF h31 r0 42) (x3 - 20).toNatClampNeg) else (gI h31 (gF h31 r0 41) (x3 - 10).toNatClampNeg))) → Rr mX12_fit 0 0 101 [] [.int z40] h31 P := by
                intro z40 ez40
                have hf := hf z40 ez40
                exact R_iret dX12_fit_101 rfl rfl hf
              refine R_if_ne (tgt := 74) dX12_fit_66 (by decide) (fun b34 => ?_) (fun b34 => ?_)
              · refine R_iload_n dX12_fit_74 rfl 3 rfl ?_
                refine R_bipush (v := 20) dX12_fit_75 (by decide) ?_
                refine R_icmp_ge (tgt := 92) dX12_fit_77 (by decide) (fun b35 => ?_) (fun b35 => ?_)
                · refine R_aload_n dX12_fit_92 rfl 0 rfl ?_
                  refine G12_42 dX12_fit_93 lfX12_87 ob33 ?_
                  refine R_iload_n dX12_fit_96 rfl 3 rfl ?_
                  refine R_bipush (v := 20) dX12_fit_97 (by decide) ?_
                  refine R_isub dX12_fit_99 ?_
                  refine R_iaload dX12_fit_100 ob36 (ob37 b34 b35) ?_
                  exact R_sub [] rfl (key _ (by rw [if_neg b34, if_pos b35]))
                · refine R_aload_n dX12_fit_80 rfl 0 rfl ?_
                  refine G12_41 dX12_fit_81 lfX12_84 ob33 ?_
                  refine R_iload_n dX12_fit_84 rfl 3 rfl ?_
                  refine R_bipush (v := 10) dX12_fit_85 (by decide) ?_
                  refine R_isub dX12_fit_87 ?_
                  refine R_iaload dX12_fit_88 ob38 (ob39 b34 b35) ?_
                  refine R_goto (tgt := 101) dX12_fit_89 (by decide) ?_
                  exact R_sub [] rfl (key _ (by rw [if_neg b34, if_neg b35]))
              · refine R_bipush (v := (-99)) dX12_fit_69 (by decide) ?_
                refine R_goto (tgt := 101) dX12_fit_71 (by decide) ?_
                exact R_sub [] rfl (key _ (by rw [if_pos b34]))
            · have hf := hf.2 b32
              refine R_aload_n dX12_fit_57 rfl 0 rfl ?_
              obtain ⟨ob41, hf⟩ := hf
              refine G12_40 dX12_fit_58 lfX12_279 ob41 ?_
              exact R_iret dX12_fit_61 rfl rfl hf
          · have hf := hf.2 b29
            refine R_bipush (v := (-99)) dX12_fit_44 (by decide) ?_
            exact R_iret dX12_fit_46 rfl rfl hf
theorem dX12_seen_0 : decode cX12_seen 0 = .ok (.iload_n 1, 1) := by decide +kernel
theorem dX12_seen_1 : decode cX12_seen 1 = .ok (.iload_n 2, 1) := by decide +kernel
theorem dX12_seen_2 : decode cX12_seen 2 = .ok (.invokestatic 319, 3) := by decide +kernel
theorem dX12_seen_5 : decode cX12_seen 5 = .ok (.ifCond .eq 56, 3) := by decide +kernel
theorem dX12_seen_8 : decode cX12_seen 8 = .ok (.iload_n 3, 1) := by decide +kernel
theorem dX12_seen_9 : decode cX12_seen 9 = .ok (.bipush (-2), 2) := by decide +kernel
theorem dX12_seen_11 : decode cX12_seen 11 = .ok (.iconst 2, 1) := by decide +kernel
theorem dX12_seen_12 : decode cX12_seen 12 = .ok (.invokestatic 178, 3) := by decide +kernel
theorem dX12_seen_15 : decode cX12_seen 15 = .ok (.ifCond .eq 46, 3) := by decide +kernel
theorem dX12_seen_18 : decode cX12_seen 18 = .ok (.iload 4, 2) := by decide +kernel
theorem dX12_seen_20 : decode cX12_seen 20 = .ok (.bipush (-2), 2) := by decide +kernel
theorem dX12_seen_22 : decode cX12_seen 22 = .ok (.iconst 2, 1) := by decide +kernel
theorem dX12_seen_23 : decode cX12_seen 23 = .ok (.invokestatic 178, 3) := by decide +kernel
theorem dX12_seen_26 : decode cX12_seen 26 = .ok (.ifCond .eq 35, 3) := by decide +kernel
theorem dX12_seen_29 : decode cX12_seen 29 = .ok (.iload 5, 2) := by decide +kernel
theorem dX12_seen_31 : decode cX12_seen 31 = .ok (.bipush (-2), 2) := by decide +kernel
theorem dX12_seen_33 : decode cX12_seen 33 = .ok (.iconst 2, 1) := by decide +kernel
theorem dX12_seen_34 : decode cX12_seen 34 = .ok (.invokestatic 178, 3) := by decide +kernel
theorem dX12_seen_37 : decode cX12_seen 37 = .ok (.ifCond .eq 24, 3) := by decide +kernel
theorem dX12_seen_40 : decode cX12_seen 40 = .ok (.iload 6, 2) := by decide +kernel
theorem dX12_seen_42 : decode cX12_seen 42 = .ok (.bipush (-2), 2) := by decide +kernel
theorem dX12_seen_44 : decode cX12_seen 44 = .ok (.iconst 2, 1) := by decide +kernel
theorem dX12_seen_45 : decode cX12_seen 45 = .ok (.invokestatic 178, 3) := by decide +kernel
theorem dX12_seen_48 : decode cX12_seen 48 = .ok (.ifCond .eq 13, 3) := by decide +kernel
theorem dX12_seen_51 : decode cX12_seen 51 = .ok (.iload 7, 2) := by decide +kernel
theorem dX12_seen_53 : decode cX12_seen 53 = .ok (.iconst 0, 1) := by decide +kernel
theorem dX12_seen_54 : decode cX12_seen 54 = .ok (.iconst 2, 1) := by decide +kernel
theorem dX12_seen_55 : decode cX12_seen 55 = .ok (.invokestatic 178, 3) := by decide +kernel
theorem dX12_seen_58 : decode cX12_seen 58 = .ok (.ifCond .ne 6, 3) := by decide +kernel
theorem dX12_seen_61 : decode cX12_seen 61 = .ok (.bipush (-2), 2) := by decide +kernel
theorem dX12_seen_63 : decode cX12_seen 63 = .ok (.ireturn, 1) := by decide +kernel
theorem dX12_seen_64 : decode cX12_seen 64 = .ok (.aload_n 0, 1) := by decide +kernel
theorem dX12_seen_65 : decode cX12_seen 65 = .ok (.iload_n 1, 1) := by decide +kernel
theorem dX12_seen_66 : decode cX12_seen 66 = .ok (.iload_n 2, 1) := by decide +kernel
theorem dX12_seen_67 : decode cX12_seen 67 = .ok (.iload_n 3, 1) := by decide +kernel
theorem dX12_seen_68 : decode cX12_seen 68 = .ok (.iload 4, 2) := by decide +kernel
theorem dX12_seen_70 : decode cX12_seen 70 = .ok (.iload 5, 2) := by decide +kernel
theorem dX12_seen_72 : decode cX12_seen 72 = .ok (.iload 6, 2) := by decide +kernel
theorem dX12_seen_74 : decode cX12_seen 74 = .ok (.invokevirtual 322, 3) := by decide +kernel
theorem dX12_seen_77 : decode cX12_seen 77 = .ok (.istore 8, 2) := by decide +kernel
theorem dX12_seen_79 : decode cX12_seen 79 = .ok (.iload 7, 2) := by decide +kernel
theorem dX12_seen_81 : decode cX12_seen 81 = .ok (.ifCond .ne 10, 3) := by decide +kernel
theorem dX12_seen_84 : decode cX12_seen 84 = .ok (.aload_n 0, 1) := by decide +kernel
theorem dX12_seen_85 : decode cX12_seen 85 = .ok (.getfield 310, 3) := by decide +kernel
theorem dX12_seen_88 : decode cX12_seen 88 = .ok (.goto 18, 3) := by decide +kernel
theorem dX12_seen_91 : decode cX12_seen 91 = .ok (.iload 7, 2) := by decide +kernel
theorem dX12_seen_93 : decode cX12_seen 93 = .ok (.iconst 1, 1) := by decide +kernel
theorem dX12_seen_94 : decode cX12_seen 94 = .ok (.if_icmp .ne 10, 3) := by decide +kernel
theorem dX12_seen_97 : decode cX12_seen 97 = .ok (.aload_n 0, 1) := by decide +kernel
theorem dX12_seen_98 : decode cX12_seen 98 = .ok (.getfield 313, 3) := by decide +kernel
theorem dX12_seen_101 : decode cX12_seen 101 = .ok (.goto 5, 3) := by decide +kernel
theorem dX12_seen_104 : decode cX12_seen 104 = .ok (.iload 8, 2) := by decide +kernel
theorem dX12_seen_106 : decode cX12_seen 106 = .ok (.ireturn, 1) := by decide +kernel
set_option maxRecDepth 20000 in
theorem sX12_seen_0 {P : Option Value → AH → Prop} (h : AH) (r0 : Nat) (x1 : Int32) (x2 : Int32) (x3 : Int32) (x4 : Int32) (x5 : Int32) (x6 : Int32) (x7 : Int32) (hf : (¬ ((¬ x1 < 0 ∧ ¬ 3 < x1) ∧ (¬ x2 < 0 ∧ ¬ 3 < x2) ∧ ¬ x1 = x2) → P (some (.int (-2))) h) ∧ (((¬ x1 < 0 ∧ ¬ 3 < x1) ∧ (¬ x2 < 0 ∧ ¬ 3 < x2) ∧ ¬ x1 = x2) → (¬ (¬ x3 < (-2) ∧ ¬ 2 < x3) → P (some (.int (-2))) h) ∧ ((¬ x3 < (-2) ∧ ¬ 2 < x3) → (¬ (¬ x4 < (-2) ∧ ¬ 2 < x4) → P (some (.int (-2))) h) ∧ ((¬ x4 < (-2) ∧ ¬ 2 < x4) → (¬ (¬ x5 < (-2) ∧ ¬ 2 < x5) → P (some (.int (-2))) h) ∧ ((¬ x5 < (-2) ∧ ¬ 2 < x5) → (¬ (¬ x6 < (-2) ∧ ¬ 2 < x6) → P (some (.int (-2))) h) ∧ ((¬ x6 < (-2) ∧ ¬ 2 < x6) → ((¬ x7 < 0 ∧ ¬ 2 < x7) → (isO h 12 r0) ∧ (Call mX12_look [.ref r0, .int x1, .int x2, .int x3, .int x4, .int x5, .int x6] h (fun v h8 => ∃ z9 : Int32, v = some (.int z9) ∧ ((isO h8 12 r0) ∧ (∀ z13 : Int32, z13 = (if x7 = 0 then (gI h8 r0 46) else (if x7 = 1 then (gI h8 r0 47) else z9)) → (P (some (.int z13)) h8)))))) ∧ (¬ (¬ x7 < 0 ∧ ¬ 2 < x7) → P (some (.int (-2))) h))))))) : Rr mX12_seen 0 0 0 [(0, .ref r0), (1, .int x1), (2, .int x2), (3, .int x3), (4, .int x4), (5, .int x5), (6, .int x6), (7, .int x7)] [] h P := by
  refine R_iload_n dX12_seen_0 rfl 1 rfl ?_
  refine R_iload_n dX12_seen_1 rfl 2 rfl ?_
  refine R_callS (N := mX12_isPair) (as := [.int x1, .int x2]) (rest := []) (kc2 := 0) (ks2 := 0) dX12_seen_2 lmX12_319 oX12_isPair (Nat.le_of_ble_eq_true rfl) rfl rfl (Nat.le_of_ble_eq_true rfl) rfl rfl (aX12_isPair  ?_)
  refine R_if_eq_b (tgt := 61) dX12_seen_5 (by decide) (fun b1 => ?_) (fun b1 => ?_)
  · have hf := hf.1 b1
    refine R_bipush (v := (-2)) dX12_seen_61 (by decide) ?_
    exact R_iret dX12_seen_63 rfl rfl hf
  · have hf := hf.2 b1
    refine R_iload_n dX12_seen_8 rfl 3 rfl ?_
    refine R_bipush (v := (-2)) dX12_seen_9 (by decide) ?_
    refine R_iconst (v := 2) dX12_seen_11 (by decide) ?_
    refine R_callS (N := mX12_in) (as := [.int x3, .int (-2), .int 2]) (rest := []) (kc2 := 0) (ks2 := 0) dX12_seen_12 lmX12_178 oX12_in (Nat.le_of_ble_eq_true rfl) rfl rfl (Nat.le_of_ble_eq_true rfl) rfl rfl (aX12_in  ?_)
    refine R_if_eq_b (tgt := 61) dX12_seen_15 (by decide) (fun b2 => ?_) (fun b2 => ?_)
    · have hf := hf.1 b2
      refine R_bipush (v := (-2)) dX12_seen_61 (by decide) ?_
      exact R_iret dX12_seen_63 rfl rfl hf
    · have hf := hf.2 b2
      refine R_iload dX12_seen_18 4 rfl ?_
      refine R_bipush (v := (-2)) dX12_seen_20 (by decide) ?_
      refine R_iconst (v := 2) dX12_seen_22 (by decide) ?_
      refine R_callS (N := mX12_in) (as := [.int x4, .int (-2), .int 2]) (rest := []) (kc2 := 0) (ks2 := 0) dX12_seen_23 lmX12_178 oX12_in (Nat.le_of_ble_eq_true rfl) rfl rfl (Nat.le_of_ble_eq_true rfl) rfl rfl (aX12_in  ?_)
      refine R_if_eq_b (tgt := 61) dX12_seen_26 (by decide) (fun b3 => ?_) (fun b3 => ?_)
      · have hf := hf.1 b3
        refine R_bipush (v := (-2)) dX12_seen_61 (by decide) ?_
        exact R_iret dX12_seen_63 rfl rfl hf
      · have hf := hf.2 b3
        refine R_iload dX12_seen_29 5 rfl ?_
        refine R_bipush (v := (-2)) dX12_seen_31 (by decide) ?_
        refine R_iconst (v := 2) dX12_seen_33 (by decide) ?_
        refine R_callS (N := mX12_in) (as := [.int x5, .int (-2), .int 2]) (rest := []) (kc2 := 0) (ks2 := 0) dX12_seen_34 lmX12_178 oX12_in (Nat.le_of_ble_eq_true rfl) rfl rfl (Nat.le_of_ble_eq_true rfl) rfl rfl (aX12_in  ?_)
        refine R_if_eq_b (tgt := 61) dX12_seen_37 (by decide) (fun b4 => ?_) (fun b4 => ?_)
        · have hf := hf.1 b4
          refine R_bipush (v := (-2)) dX12_seen_61 (by decide) ?_
          exact R_iret dX12_seen_63 rfl rfl hf
        · have hf := hf.2 b4
          refine R_iload dX12_seen_40 6 rfl ?_
          refine R_bipush (v := (-2)) dX12_seen_42 (by decide) ?_
          refine R_iconst (v := 2) dX12_seen_44 (by decide) ?_
          refine R_callS (N := mX12_in) (as := [.int x6, .int (-2), .int 2]) (rest := []) (kc2 := 0) (ks2 := 0) dX12_seen_45 lmX12_178 oX12_in (Nat.le_of_ble_eq_true rfl) rfl rfl (Nat.le_of_ble_eq_true rfl) rfl rfl (aX12_in  ?_)
          refine R_if_eq_b (tgt := 61) dX12_seen_48 (by decide) (fun b5 => ?_) (fun b5 => ?_)
          · have hf := hf.1 b5
            refine R_bipush (v := (-2)) dX12_seen_61 (by decide) ?_
            exact R_iret dX12_seen_63 rfl rfl hf
          · have hf := hf.2 b5
            refine R_iload dX12_seen_51 7 rfl ?_
            refine R_iconst (v := 0) dX12_seen_53 (by decide) ?_
            refine R_iconst (v := 2) dX12_seen_54 (by decide) ?_
            refine R_callS (N := mX12_in) (as := [.int x7, .int 0, .int 2]) (rest := []) (kc2 := 0) (ks2 := 0) dX12_seen_55 lmX12_178 oX12_in (Nat.le_of_ble_eq_true rfl) rfl rfl (Nat.le_of_ble_eq_true rfl) rfl rfl (aX12_in  ?_)
            refine R_if_ne_b (tgt := 64) dX12_seen_58 (by decide) (fun b6 => ?_) (fun b6 => ?_)
            · have hf := hf.1 b6
              refine R_aload_n dX12_seen_64 rfl 0 rfl ?_
              refine R_iload_n dX12_seen_65 rfl 1 rfl ?_
              refine R_iload_n dX12_seen_66 rfl 2 rfl ?_
              refine R_iload_n dX12_seen_67 rfl 3 rfl ?_
              refine R_iload dX12_seen_68 4 rfl ?_
              refine R_iload dX12_seen_70 5 rfl ?_
              refine R_iload dX12_seen_72 6 rfl ?_
              obtain ⟨ob7, hf⟩ := hf
              refine R_callV (ci := 12) (N := mX12_look) (as := [.int x1, .int x2, .int x3, .int x4, .int x5, .int x6]) (rest := []) (kc2 := 0) (ks2 := 0) dX12_seen_74 lmX12_322 oX12_look (Nat.le_of_ble_eq_true rfl) rfl rfl (Nat.le_of_ble_eq_true rfl) rfl rfl ob7 ok12 (Call.mono hf ?_)
              rintro _ h8 ⟨z9, rfl, hf⟩
              refine R_istore dX12_seen_77 (by decide) rfl ?_
              refine R_iload dX12_seen_79 8 rfl ?_
              obtain ⟨ob12, hf⟩ := hf
              have key : ∀ z13 : Int32, z13 = (if x7 = 0 then (gI h8 r0 46) else (if x7 = 1 then (gI h8 r0 47) else z9)) → Rr mX12_seen 0 0 106 [] [.int z13] h8 P := by
                intro z13 ez13
                have hf := hf z13 ez13
                exact R_iret dX12_seen_106 rfl rfl hf
              refine R_if_ne (tgt := 91) dX12_seen_81 (by decide) (fun b10 => ?_) (fun b10 => ?_)
              · refine R_iload dX12_seen_91 8 rfl ?_
                refine R_iconst (v := 1) dX12_seen_93 (by decide) ?_
                refine R_icmp_ne (tgt := 104) dX12_seen_94 (by decide) (fun b11 => ?_) (fun b11 => ?_)
                · refine R_iload dX12_seen_104 0 rfl ?_
                  exact R_sub [] rfl (key _ (by rw [if_neg b10, if_neg b11]))
                · refine R_aload_n dX12_seen_97 rfl 1 rfl ?_
                  refine G12_47 dX12_seen_98 lfX12_313 ob12 ?_
                  refine R_goto (tgt := 106) dX12_seen_101 (by decide) ?_
                  exact R_sub [] rfl (key _ (by rw [if_neg b10, if_pos b11]))
              · refine R_aload_n dX12_seen_84 rfl 1 rfl ?_
                refine G12_46 dX12_seen_85 lfX12_310 ob12 ?_
                refine R_goto (tgt := 106) dX12_seen_88 (by decide) ?_
                exact R_sub [] rfl (key _ (by rw [if_pos b10]))
            · have hf := hf.2 b6
              refine R_bipush (v := (-2)) dX12_seen_61 (by decide) ?_
              exact R_iret dX12_seen_63 rfl rfl hf
theorem dX12_sure_0 : decode cX12_sure 0 = .ok (.iload_n 1, 1) := by decide +kernel
theorem dX12_sure_1 : decode cX12_sure 1 = .ok (.invokestatic 259, 3) := by decide +kernel
theorem dX12_sure_4 : decode cX12_sure 4 = .ok (.ifCond .eq 14, 3) := by decide +kernel
theorem dX12_sure_7 : decode cX12_sure 7 = .ok (.iload_n 2, 1) := by decide +kernel
theorem dX12_sure_8 : decode cX12_sure 8 = .ok (.iconst 0, 1) := by decide +kernel
theorem dX12_sure_9 : decode cX12_sure 9 = .ok (.sipush 999, 3) := by decide +kernel
theorem dX12_sure_12 : decode cX12_sure 12 = .ok (.invokestatic 178, 3) := by decide +kernel
theorem dX12_sure_15 : decode cX12_sure 15 = .ok (.ifCond .ne 6, 3) := by decide +kernel
theorem dX12_sure_18 : decode cX12_sure 18 = .ok (.bipush (-2), 2) := by decide +kernel
theorem dX12_sure_20 : decode cX12_sure 20 = .ok (.ireturn, 1) := by decide +kernel
theorem dX12_sure_21 : decode cX12_sure 21 = .ok (.aload_n 0, 1) := by decide +kernel
theorem dX12_sure_22 : decode cX12_sure 22 = .ok (.iload_n 1, 1) := by decide +kernel
theorem dX12_sure_23 : decode cX12_sure 23 = .ok (.iload_n 2, 1) := by decide +kernel
theorem dX12_sure_24 : decode cX12_sure 24 = .ok (.invokevirtual 292, 3) := by decide +kernel
theorem dX12_sure_27 : decode cX12_sure 27 = .ok (.aload_n 0, 1) := by decide +kernel
theorem dX12_sure_28 : decode cX12_sure 28 = .ok (.getfield 279, 3) := by decide +kernel
theorem dX12_sure_31 : decode cX12_sure 31 = .ok (.ifCond .ne 5, 3) := by decide +kernel
theorem dX12_sure_34 : decode cX12_sure 34 = .ok (.iconst (-1), 1) := by decide +kernel
theorem dX12_sure_35 : decode cX12_sure 35 = .ok (.ireturn, 1) := by decide +kernel
theorem dX12_sure_36 : decode cX12_sure 36 = .ok (.iconst 0, 1) := by decide +kernel
theorem dX12_sure_37 : decode cX12_sure 37 = .ok (.istore_n 3, 1) := by decide +kernel
theorem dX12_sure_38 : decode cX12_sure 38 = .ok (.iconst 0, 1) := by decide +kernel
theorem dX12_sure_39 : decode cX12_sure 39 = .ok (.istore 4, 2) := by decide +kernel
theorem dX12_sure_41 : decode cX12_sure 41 = .ok (.iload 4, 2) := by decide +kernel
theorem dX12_sure_43 : decode cX12_sure 43 = .ok (.iconst 4, 1) := by decide +kernel
theorem dX12_sure_44 : decode cX12_sure 44 = .ok (.if_icmp .ge 37, 3) := by decide +kernel
theorem dX12_sure_47 : decode cX12_sure 47 = .ok (.iload_n 3, 1) := by decide +kernel
theorem dX12_sure_48 : decode cX12_sure 48 = .ok (.aload_n 0, 1) := by decide +kernel
theorem dX12_sure_49 : decode cX12_sure 49 = .ok (.getfield 84, 3) := by decide +kernel
theorem dX12_sure_52 : decode cX12_sure 52 = .ok (.iload 4, 2) := by decide +kernel
theorem dX12_sure_54 : decode cX12_sure 54 = .ok (.iaload, 1) := by decide +kernel
theorem dX12_sure_55 : decode cX12_sure 55 = .ok (.aload_n 0, 1) := by decide +kernel
theorem dX12_sure_56 : decode cX12_sure 56 = .ok (.getfield 87, 3) := by decide +kernel
theorem dX12_sure_59 : decode cX12_sure 59 = .ok (.iload 4, 2) := by decide +kernel
theorem dX12_sure_61 : decode cX12_sure 61 = .ok (.iaload, 1) := by decide +kernel
theorem dX12_sure_62 : decode cX12_sure 62 = .ok (.if_icmp .ne 10, 3) := by decide +kernel
theorem dX12_sure_65 : decode cX12_sure 65 = .ok (.iconst 1, 1) := by decide +kernel
theorem dX12_sure_66 : decode cX12_sure 66 = .ok (.iload 4, 2) := by decide +kernel
theorem dX12_sure_68 : decode cX12_sure 68 = .ok (.ishl, 1) := by decide +kernel
theorem dX12_sure_69 : decode cX12_sure 69 = .ok (.goto 4, 3) := by decide +kernel
theorem dX12_sure_72 : decode cX12_sure 72 = .ok (.iconst 0, 1) := by decide +kernel
theorem dX12_sure_73 : decode cX12_sure 73 = .ok (.ior, 1) := by decide +kernel
theorem dX12_sure_74 : decode cX12_sure 74 = .ok (.istore_n 3, 1) := by decide +kernel
theorem dX12_sure_75 : decode cX12_sure 75 = .ok (.iinc 4 1, 3) := by decide +kernel
theorem dX12_sure_78 : decode cX12_sure 78 = .ok (.goto (-37), 3) := by decide +kernel
theorem dX12_sure_81 : decode cX12_sure 81 = .ok (.iload_n 3, 1) := by decide +kernel
theorem dX12_sure_82 : decode cX12_sure 82 = .ok (.ireturn, 1) := by decide +kernel
set_option maxRecDepth 20000 in
theorem sX12_sure_0 {P : Option Value → AH → Prop} (h : AH) (r0 : Nat) (x1 : Int32) (x2 : Int32) (hf : (¬ (¬ x1 < 0 ∧ ¬ 3 < x1) → P (some (.int (-2))) h) ∧ ((¬ x1 < 0 ∧ ¬ 3 < x1) → ((¬ x2 < 0 ∧ ¬ 999 < x2) → (isO h 12 r0) ∧ (Call mX12_makeFits [.ref r0, .int x1, .int x2] h (fun v h4 => v = none ∧ ((isO h4 12 r0) ∧ ((¬ (gI h4 r0 40) = 0 → Rr mX12_sure 0 0 41 [(0, .ref r0), (3, .int 0), (4, .int 0)] [] h4 P) ∧ ((gI h4 r0 40) = 0 → P (some (.int (-1))) h4)))))) ∧ (¬ (¬ x2 < 0 ∧ ¬ 999 < x2) → P (some (.int (-2))) h))) : Rr mX12_sure 0 0 0 [(0, .ref r0), (1, .int x1), (2, .int x2)] [] h P := by
  refine R_iload_n dX12_sure_0 rfl 1 rfl ?_
  refine R_callS (N := mX12_isInkNumber) (as := [.int x1]) (rest := []) (kc2 := 0) (ks2 := 0) dX12_sure_1 lmX12_259 oX12_isInkNumber (Nat.le_of_ble_eq_true rfl) rfl rfl (Nat.le_of_ble_eq_true rfl) rfl rfl (aX12_isInkNumber  ?_)
  refine R_if_eq_b (tgt := 18) dX12_sure_4 (by decide) (fun b1 => ?_) (fun b1 => ?_)
  · have hf := hf.1 b1
    refine R_bipush (v := (-2)) dX12_sure_18 (by decide) ?_
    exact R_iret dX12_sure_20 rfl rfl hf
  · have hf := hf.2 b1
    refine R_iload_n dX12_sure_7 rfl 2 rfl ?_
    refine R_iconst (v := 0) dX12_sure_8 (by decide) ?_
    refine R_sipush (v := 999) dX12_sure_9 (by decide) ?_
    refine R_callS (N := mX12_in) (as := [.int x2, .int 0, .int 999]) (rest := []) (kc2 := 0) (ks2 := 0) dX12_sure_12 lmX12_178 oX12_in (Nat.le_of_ble_eq_true rfl) rfl rfl (Nat.le_of_ble_eq_true rfl) rfl rfl (aX12_in  ?_)
    refine R_if_ne_b (tgt := 21) dX12_sure_15 (by decide) (fun b2 => ?_) (fun b2 => ?_)
    · have hf := hf.1 b2
      refine R_aload_n dX12_sure_21 rfl 0 rfl ?_
      refine R_iload_n dX12_sure_22 rfl 1 rfl ?_
      refine R_iload_n dX12_sure_23 rfl 2 rfl ?_
      obtain ⟨ob3, hf⟩ := hf
      refine R_callV (ci := 12) (N := mX12_makeFits) (as := [.int x1, .int x2]) (rest := []) (kc2 := 0) (ks2 := 0) dX12_sure_24 lmX12_292 oX12_makeFits (Nat.le_of_ble_eq_true rfl) rfl rfl (Nat.le_of_ble_eq_true rfl) rfl rfl ob3 ok12 (Call.mono hf ?_)
      rintro _ h4 ⟨rfl, hf⟩
      refine R_aload_n dX12_sure_27 rfl 0 rfl ?_
      obtain ⟨ob5, hf⟩ := hf
      refine G12_40 dX12_sure_28 lfX12_279 ob5 ?_
      refine R_if_ne (tgt := 36) dX12_sure_31 (by decide) (fun b6 => ?_) (fun b6 => ?_)
      · have hf := hf.1 b6
        refine R_iconst (v := 0) dX12_sure_36 (by decide) ?_
        refine R_istore_n dX12_sure_37 rfl (by decide) rfl ?_
        refine R_iconst (v := 0) dX12_sure_38 (by decide) ?_
        refine R_istore dX12_sure_39 (by decide) rfl ?_
        exact R_sub [2, 1, 0] rfl hf
      · have hf := hf.2 b6
        refine R_iconst (v := (-1)) dX12_sure_34 (by decide) ?_
        exact R_iret dX12_sure_35 rfl rfl hf
    · have hf := hf.2 b2
      refine R_bipush (v := (-2)) dX12_sure_18 (by decide) ?_
      exact R_iret dX12_sure_20 rfl rfl hf
set_option maxRecDepth 20000 in
theorem sX12_sure_41 {P : Option Value → AH → Prop} (h : AH) (r0 : Nat) (x3 : Int32) (x4 : Int32) (hf : (4 ≤ x4 → P (some (.int x3)) h) ∧ (¬ 4 ≤ x4 → (isO h 12 r0) ∧ ((isA h 0 (gF h r0 41)) ∧ ((vp_in x4 (ln (gF h r0 41))) ∧ ((isA h 0 (gF h r0 42)) ∧ ((vp_in x4 (ln (gF h r0 42))) ∧ (∀ z8 : Int32, z8 = (if (gI h (gF h r0 41) x4.toNatClampNeg) = (gI h (gF h r0 42) x4.toNatClampNeg) then ((1 : Int32) <<< (x4 &&& 31)) else 0) → (Rr mX12_sure 0 0 41 [(0, .ref r0), (3, .int (x3 ||| z8)), (4, .int (x4 + 1))] [] h P)))))))) : Rr mX12_sure 0 0 41 [(0, .ref r0), (3, .int x3), (4, .int x4)] [] h P := by
  refine R_iload dX12_sure_41 2 rfl ?_
  refine R_iconst (v := 4) dX12_sure_43 (by decide) ?_
  refine R_icmp_ge (tgt := 81) dX12_sure_44 (by decide) (fun b1 => ?_) (fun b1 => ?_)
  · have hf := hf.1 b1
    refine R_iload_n dX12_sure_81 rfl 1 rfl ?_
    exact R_iret dX12_sure_82 rfl rfl hf
  · have hf := hf.2 b1
    refine R_iload_n dX12_sure_47 rfl 1 rfl ?_
    refine R_aload_n dX12_sure_48 rfl 0 rfl ?_
    obtain ⟨ob2, hf⟩ := hf
    refine G12_41 dX12_sure_49 lfX12_84 ob2 ?_
    refine R_iload dX12_sure_52 2 rfl ?_
    obtain ⟨ob3, hf⟩ := hf
    obtain ⟨ob4, hf⟩ := hf
    refine R_iaload dX12_sure_54 ob3 ob4 ?_
    refine R_aload_n dX12_sure_55 rfl 0 rfl ?_
    refine G12_42 dX12_sure_56 lfX12_87 ob2 ?_
    refine R_iload dX12_sure_59 2 rfl ?_
    obtain ⟨ob5, hf⟩ := hf
    obtain ⟨ob6, hf⟩ := hf
    refine R_iaload dX12_sure_61 ob5 ob6 ?_
    have key : ∀ z8 : Int32, z8 = (if (gI h (gF h r0 41) x4.toNatClampNeg) = (gI h (gF h r0 42) x4.toNatClampNeg) then ((1 : Int32) <<< (x4 &&& 31)) else 0) → Rr mX12_sure 0 0 73 [(0, .ref r0), (4, .int x4)] [.int z8, .int x3] h P := by
      intro z8 ez8
      have hf := hf z8 ez8
      refine R_ior dX12_sure_73 ?_
      refine R_istore_n dX12_sure_74 rfl (by decide) rfl ?_
      refine R_iinc (v := x4 + 1) dX12_sure_75 2 rfl rfl (by decide) rfl ?_
      refine R_goto (tgt := 41) dX12_sure_78 (by decide) ?_
      exact R_sub [2, 1, 0] rfl hf
    refine R_icmp_ne (tgt := 72) dX12_sure_62 (by decide) (fun b7 => ?_) (fun b7 => ?_)
    · refine R_iconst (v := 0) dX12_sure_72 (by decide) ?_
      exact R_sub [0, 2] rfl (key _ (by rw [if_neg b7]))
    · refine R_iconst (v := 1) dX12_sure_65 (by decide) ?_
      refine R_iload dX12_sure_66 2 rfl ?_
      refine R_ishl dX12_sure_68 ?_
      refine R_goto (tgt := 73) dX12_sure_69 (by decide) ?_
      exact R_sub [0, 2] rfl (key _ (by rw [if_pos b7]))
theorem dX12_worstOf_0 : decode cX12_worstOf 0 = .ok (.iconst 0, 1) := by decide +kernel
theorem dX12_worstOf_1 : decode cX12_worstOf 1 = .ok (.istore 6, 2) := by decide +kernel
theorem dX12_worstOf_3 : decode cX12_worstOf 3 = .ok (.iload 5, 2) := by decide +kernel
theorem dX12_worstOf_5 : decode cX12_worstOf 5 = .ok (.ineg, 1) := by decide +kernel
theorem dX12_worstOf_6 : decode cX12_worstOf 6 = .ok (.istore 7, 2) := by decide +kernel
theorem dX12_worstOf_8 : decode cX12_worstOf 8 = .ok (.iload 7, 2) := by decide +kernel
theorem dX12_worstOf_10 : decode cX12_worstOf 10 = .ok (.iload 5, 2) := by decide +kernel
theorem dX12_worstOf_12 : decode cX12_worstOf 12 = .ok (.if_icmp .gt 58, 3) := by decide +kernel
theorem dX12_worstOf_15 : decode cX12_worstOf 15 = .ok (.iload 5, 2) := by decide +kernel
theorem dX12_worstOf_17 : decode cX12_worstOf 17 = .ok (.ineg, 1) := by decide +kernel
theorem dX12_worstOf_18 : decode cX12_worstOf 18 = .ok (.istore 8, 2) := by decide +kernel
theorem dX12_worstOf_20 : decode cX12_worstOf 20 = .ok (.iload 8, 2) := by decide +kernel
theorem dX12_worstOf_22 : decode cX12_worstOf 22 = .ok (.iload 5, 2) := by decide +kernel
theorem dX12_worstOf_24 : decode cX12_worstOf 24 = .ok (.if_icmp .gt 40, 3) := by decide +kernel
theorem dX12_worstOf_27 : decode cX12_worstOf 27 = .ok (.aload_n 0, 1) := by decide +kernel
theorem dX12_worstOf_28 : decode cX12_worstOf 28 = .ok (.iload_n 1, 1) := by decide +kernel
theorem dX12_worstOf_29 : decode cX12_worstOf 29 = .ok (.iload_n 2, 1) := by decide +kernel
theorem dX12_worstOf_30 : decode cX12_worstOf 30 = .ok (.iload_n 3, 1) := by decide +kernel
theorem dX12_worstOf_31 : decode cX12_worstOf 31 = .ok (.iload 4, 2) := by decide +kernel
theorem dX12_worstOf_33 : decode cX12_worstOf 33 = .ok (.iload 7, 2) := by decide +kernel
theorem dX12_worstOf_35 : decode cX12_worstOf 35 = .ok (.iload 8, 2) := by decide +kernel
theorem dX12_worstOf_37 : decode cX12_worstOf 37 = .ok (.invokevirtual 322, 3) := by decide +kernel
theorem dX12_worstOf_40 : decode cX12_worstOf 40 = .ok (.istore 9, 2) := by decide +kernel
theorem dX12_worstOf_42 : decode cX12_worstOf 42 = .ok (.iload 9, 2) := by decide +kernel
theorem dX12_worstOf_44 : decode cX12_worstOf 44 = .ok (.iload 6, 2) := by decide +kernel
theorem dX12_worstOf_46 : decode cX12_worstOf 46 = .ok (.if_icmp .le 8, 3) := by decide +kernel
theorem dX12_worstOf_49 : decode cX12_worstOf 49 = .ok (.iload 9, 2) := by decide +kernel
theorem dX12_worstOf_51 : decode cX12_worstOf 51 = .ok (.goto 5, 3) := by decide +kernel
theorem dX12_worstOf_54 : decode cX12_worstOf 54 = .ok (.iload 6, 2) := by decide +kernel
theorem dX12_worstOf_56 : decode cX12_worstOf 56 = .ok (.istore 6, 2) := by decide +kernel
theorem dX12_worstOf_58 : decode cX12_worstOf 58 = .ok (.iinc 8 1, 3) := by decide +kernel
theorem dX12_worstOf_61 : decode cX12_worstOf 61 = .ok (.goto (-41), 3) := by decide +kernel
theorem dX12_worstOf_64 : decode cX12_worstOf 64 = .ok (.iinc 7 1, 3) := by decide +kernel
theorem dX12_worstOf_67 : decode cX12_worstOf 67 = .ok (.goto (-59), 3) := by decide +kernel
theorem dX12_worstOf_70 : decode cX12_worstOf 70 = .ok (.iload 6, 2) := by decide +kernel
theorem dX12_worstOf_72 : decode cX12_worstOf 72 = .ok (.ireturn, 1) := by decide +kernel
set_option maxRecDepth 20000 in
theorem sX12_worstOf_0 {P : Option Value → AH → Prop} (h : AH) (r0 : Nat) (x1 : Int32) (x2 : Int32) (x3 : Int32) (x4 : Int32) (x5 : Int32) (hf : Rr mX12_worstOf 0 0 8 [(0, .ref r0), (1, .int x1), (2, .int x2), (3, .int x3), (4, .int x4), (5, .int x5), (6, .int 0), (7, .int (-x5))] [] h P) : Rr mX12_worstOf 0 0 0 [(0, .ref r0), (1, .int x1), (2, .int x2), (3, .int x3), (4, .int x4), (5, .int x5)] [] h P := by
  refine R_iconst (v := 0) dX12_worstOf_0 (by decide) ?_
  refine R_istore dX12_worstOf_1 (by decide) rfl ?_
  refine R_iload dX12_worstOf_3 6 rfl ?_
  refine R_ineg dX12_worstOf_5 ?_
  refine R_istore dX12_worstOf_6 (by decide) rfl ?_
  exact R_sub [2, 3, 4, 5, 6, 7, 1, 0] rfl hf
set_option maxRecDepth 20000 in
theorem sX12_worstOf_8 {P : Option Value → AH → Prop} (h : AH) (r0 : Nat) (x1 : Int32) (x2 : Int32) (x3 : Int32) (x4 : Int32) (x5 : Int32) (x6 : Int32) (x7 : Int32) (hf : (x5 < x7 → P (some (.int x6)) h) ∧ (¬ x5 < x7 → Rr mX12_worstOf 0 0 20 [(0, .ref r0), (1, .int x1), (2, .int x2), (3, .int x3), (4, .int x4), (5, .int x5), (6, .int x6), (7, .int x7), (8, .int (-x5))] [] h P)) : Rr mX12_worstOf 0 0 8 [(0, .ref r0), (1, .int x1), (2, .int x2), (3, .int x3), (4, .int x4), (5, .int x5), (6, .int x6), (7, .int x7)] [] h P := by
  refine R_iload dX12_worstOf_8 7 rfl ?_
  refine R_iload dX12_worstOf_10 5 rfl ?_
  refine R_icmp_gt (tgt := 70) dX12_worstOf_12 (by decide) (fun b1 => ?_) (fun b1 => ?_)
  · have hf := hf.1 b1
    refine R_iload dX12_worstOf_70 6 rfl ?_
    exact R_iret dX12_worstOf_72 rfl rfl hf
  · have hf := hf.2 b1
    refine R_iload dX12_worstOf_15 5 rfl ?_
    refine R_ineg dX12_worstOf_17 ?_
    refine R_istore dX12_worstOf_18 (by decide) rfl ?_
    exact R_sub [1, 2, 3, 4, 5, 6, 7, 8, 0] rfl hf
set_option maxRecDepth 20000 in
theorem sX12_worstOf_20 {P : Option Value → AH → Prop} (h : AH) (r0 : Nat) (x1 : Int32) (x2 : Int32) (x3 : Int32) (x4 : Int32) (x5 : Int32) (x6 : Int32) (x7 : Int32) (x8 : Int32) (hf : (x5 < x8 → Rr mX12_worstOf 0 0 8 [(0, .ref r0), (1, .int x1), (2, .int x2), (3, .int x3), (4, .int x4), (5, .int x5), (6, .int x6), (7, .int (x7 + 1))] [] h P) ∧ (¬ x5 < x8 → (isO h 12 r0) ∧ (Call mX12_look [.ref r0, .int x1, .int x2, .int x3, .int x4, .int x7, .int x8] h (fun v h3 => ∃ z4 : Int32, v = some (.int z4) ∧ (∀ z6 : Int32, z6 = (if z4 ≤ x6 then x6 else z4) → (Rr mX12_worstOf 0 0 20 [(0, .ref r0), (1, .int x1), (2, .int x2), (3, .int x3), (4, .int x4), (5, .int x5), (6, .int z6), (7, .int x7), (8, .int (x8 + 1))] [] h3 P)))))) : Rr mX12_worstOf 0 0 20 [(0, .ref r0), (1, .int x1), (2, .int x2), (3, .int x3), (4, .int x4), (5, .int x5), (6, .int x6), (7, .int x7), (8, .int x8)] [] h P := by
  refine R_iload dX12_worstOf_20 8 rfl ?_
  refine R_iload dX12_worstOf_22 5 rfl ?_
  refine R_icmp_gt (tgt := 64) dX12_worstOf_24 (by decide) (fun b1 => ?_) (fun b1 => ?_)
  · have hf := hf.1 b1
    refine R_iinc (v := x7 + 1) dX12_worstOf_64 7 rfl rfl (by decide) rfl ?_
    refine R_goto (tgt := 8) dX12_worstOf_67 (by decide) ?_
    exact R_sub [1, 2, 3, 4, 5, 6, 7, 0] rfl hf
  · have hf := hf.2 b1
    refine R_aload_n dX12_worstOf_27 rfl 0 rfl ?_
    refine R_iload_n dX12_worstOf_28 rfl 1 rfl ?_
    refine R_iload_n dX12_worstOf_29 rfl 2 rfl ?_
    refine R_iload_n dX12_worstOf_30 rfl 3 rfl ?_
    refine R_iload dX12_worstOf_31 4 rfl ?_
    refine R_iload dX12_worstOf_33 7 rfl ?_
    refine R_iload dX12_worstOf_35 8 rfl ?_
    obtain ⟨ob2, hf⟩ := hf
    refine R_callV (ci := 12) (N := mX12_look) (as := [.int x1, .int x2, .int x3, .int x4, .int x7, .int x8]) (rest := []) (kc2 := 0) (ks2 := 0) dX12_worstOf_37 lmX12_322 oX12_look (Nat.le_of_ble_eq_true rfl) rfl rfl (Nat.le_of_ble_eq_true rfl) rfl rfl ob2 ok12 (Call.mono hf ?_)
    rintro _ h3 ⟨z4, rfl, hf⟩
    refine R_istore dX12_worstOf_40 (by decide) rfl ?_
    refine R_iload dX12_worstOf_42 0 rfl ?_
    refine R_iload dX12_worstOf_44 7 rfl ?_
    have key : ∀ z6 : Int32, z6 = (if z4 ≤ x6 then x6 else z4) → Rr mX12_worstOf 0 0 56 [(0, .ref r0), (1, .int x1), (2, .int x2), (3, .int x3), (4, .int x4), (5, .int x5), (7, .int x7), (8, .int x8)] [.int z6] h3 P := by
      intro z6 ez6
      have hf := hf z6 ez6
      refine R_istore dX12_worstOf_56 (by decide) rfl ?_
      refine R_iinc (v := x8 + 1) dX12_worstOf_58 8 rfl rfl (by decide) rfl ?_
      refine R_goto (tgt := 20) dX12_worstOf_61 (by decide) ?_
      exact R_sub [2, 3, 4, 5, 6, 7, 1, 8, 0] rfl hf
    refine R_icmp_le (tgt := 54) dX12_worstOf_46 (by decide) (fun b5 => ?_) (fun b5 => ?_)
    · refine R_iload dX12_worstOf_54 7 rfl ?_
      exact R_sub [1, 2, 3, 4, 5, 6, 8, 9] rfl (key _ (by rw [if_pos b5]))
    · refine R_iload dX12_worstOf_49 0 rfl ?_
      refine R_goto (tgt := 56) dX12_worstOf_51 (by decide) ?_
      exact R_sub [1, 2, 3, 4, 5, 6, 8, 9] rfl (key _ (by rw [if_neg b5]))
theorem dX1_find_0 : decode cX1_find 0 = .ok (.aload_n 0, 1) := by decide +kernel
theorem dX1_find_1 : decode cX1_find 1 = .ok (.aload_n 1, 1) := by decide +kernel
theorem dX1_find_2 : decode cX1_find 2 = .ok (.aload_n 2, 1) := by decide +kernel
theorem dX1_find_3 : decode cX1_find 3 = .ok (.iload_n 3, 1) := by decide +kernel
theorem dX1_find_4 : decode cX1_find 4 = .ok (.iload 4, 2) := by decide +kernel
theorem dX1_find_6 : decode cX1_find 6 = .ok (.invokevirtual 30, 3) := by decide +kernel
theorem dX1_find_9 : decode cX1_find 9 = .ok (.aload_n 0, 1) := by decide +kernel
theorem dX1_find_10 : decode cX1_find 10 = .ok (.iconst 0, 1) := by decide +kernel
theorem dX1_find_11 : decode cX1_find 11 = .ok (.putfield 34, 3) := by decide +kernel
theorem dX1_find_14 : decode cX1_find 14 = .ok (.bipush (-9), 2) := by decide +kernel
theorem dX1_find_16 : decode cX1_find 16 = .ok (.istore 5, 2) := by decide +kernel
theorem dX1_find_18 : decode cX1_find 18 = .ok (.iload 5, 2) := by decide +kernel
theorem dX1_find_20 : decode cX1_find 20 = .ok (.bipush 9, 2) := by decide +kernel
theorem dX1_find_22 : decode cX1_find 22 = .ok (.if_icmp .gt 67, 3) := by decide +kernel
theorem dX1_find_25 : decode cX1_find 25 = .ok (.iconst 0, 1) := by decide +kernel
theorem dX1_find_26 : decode cX1_find 26 = .ok (.istore 6, 2) := by decide +kernel
theorem dX1_find_28 : decode cX1_find 28 = .ok (.iload 6, 2) := by decide +kernel
theorem dX1_find_30 : decode cX1_find 30 = .ok (.bipush 9, 2) := by decide +kernel
theorem dX1_find_32 : decode cX1_find 32 = .ok (.if_icmp .gt 51, 3) := by decide +kernel
theorem dX1_find_35 : decode cX1_find 35 = .ok (.aload_n 0, 1) := by decide +kernel
theorem dX1_find_36 : decode cX1_find 36 = .ok (.iload 5, 2) := by decide +kernel
theorem dX1_find_38 : decode cX1_find 38 = .ok (.iload 6, 2) := by decide +kernel
theorem dX1_find_40 : decode cX1_find 40 = .ok (.aload_n 1, 1) := by decide +kernel
theorem dX1_find_41 : decode cX1_find 41 = .ok (.getfield 38, 3) := by decide +kernel
theorem dX1_find_44 : decode cX1_find 44 = .ok (.invokevirtual 43, 3) := by decide +kernel
theorem dX1_find_47 : decode cX1_find 47 = .ok (.aload_n 0, 1) := by decide +kernel
theorem dX1_find_48 : decode cX1_find 48 = .ok (.getfield 47, 3) := by decide +kernel
theorem dX1_find_51 : decode cX1_find 51 = .ok (.aload_n 0, 1) := by decide +kernel
theorem dX1_find_52 : decode cX1_find 52 = .ok (.getfield 50, 3) := by decide +kernel
theorem dX1_find_55 : decode cX1_find 55 = .ok (.if_icmp .gt 22, 3) := by decide +kernel
theorem dX1_find_58 : decode cX1_find 58 = .ok (.aload_n 0, 1) := by decide +kernel
theorem dX1_find_59 : decode cX1_find 59 = .ok (.getfield 53, 3) := by decide +kernel
theorem dX1_find_62 : decode cX1_find 62 = .ok (.aload_n 0, 1) := by decide +kernel
theorem dX1_find_63 : decode cX1_find 63 = .ok (.getfield 56, 3) := by decide +kernel
theorem dX1_find_66 : decode cX1_find 66 = .ok (.if_icmp .gt 11, 3) := by decide +kernel
theorem dX1_find_69 : decode cX1_find 69 = .ok (.aload_n 0, 1) := by decide +kernel
theorem dX1_find_70 : decode cX1_find 70 = .ok (.iload 5, 2) := by decide +kernel
theorem dX1_find_72 : decode cX1_find 72 = .ok (.iload 6, 2) := by decide +kernel
theorem dX1_find_74 : decode cX1_find 74 = .ok (.invokevirtual 59, 3) := by decide +kernel
theorem dX1_find_77 : decode cX1_find 77 = .ok (.iinc 6 1, 3) := by decide +kernel
theorem dX1_find_80 : decode cX1_find 80 = .ok (.goto (-52), 3) := by decide +kernel
theorem dX1_find_83 : decode cX1_find 83 = .ok (.iinc 5 1, 3) := by decide +kernel
theorem dX1_find_86 : decode cX1_find 86 = .ok (.goto (-68), 3) := by decide +kernel
theorem dX1_find_89 : decode cX1_find 89 = .ok (.return_, 1) := by decide +kernel
set_option maxRecDepth 20000 in
theorem sX1_find_0 {P : Option Value → AH → Prop} (h : AH) (r0 : Nat) (r1 : Nat) (r2 : Nat) (x3 : Int32) (x4 : Int32) (hf : (isO h 1 r0) ∧ (Call mX1_gather [.ref r0, .ref r1, .ref r2, .int x3, .int x4] h (fun v h2 => v = none ∧ ((isO h2 1 r0) ∧ (Rr mX1_find 0 0 18 [(0, .ref r0), (1, .ref r1), (5, .int (-9))] [] (sI h2 r0 9 0) P))))) : Rr mX1_find 0 0 0 [(0, .ref r0), (1, .ref r1), (2, .ref r2), (3, .int x3), (4, .int x4)] [] h P := by
  refine R_aload_n dX1_find_0 rfl 0 rfl ?_
  refine R_aload_n dX1_find_1 rfl 1 rfl ?_
  refine R_aload_n dX1_find_2 rfl 2 rfl ?_
  refine R_iload_n dX1_find_3 rfl 3 rfl ?_
  refine R_iload dX1_find_4 4 rfl ?_
  obtain ⟨ob1, hf⟩ := hf
  refine R_callV (ci := 1) (N := mX1_gather) (as := [.ref r1, .ref r2, .int x3, .int x4]) (rest := []) (kc2 := 0) (ks2 := 0) dX1_find_6 lmX1_30 oX1_gather (Nat.le_of_ble_eq_true rfl) rfl rfl (Nat.le_of_ble_eq_true rfl) rfl rfl ob1 ok1 (Call.mono hf ?_)
  rintro _ h2 ⟨rfl, hf⟩
  refine R_aload_n dX1_find_9 rfl 0 rfl ?_
  refine R_iconst (v := 0) dX1_find_10 (by decide) ?_
  obtain ⟨ob3, hf⟩ := hf
  refine S1_9 dX1_find_11 lfX1_34 ob3 ?_
  refine R_bipush (v := (-9)) dX1_find_14 (by decide) ?_
  refine R_istore dX1_find_16 (by decide) rfl ?_
  exact R_sub [1, 2, 0] rfl hf
set_option maxRecDepth 20000 in
theorem sX1_find_18 {P : Option Value → AH → Prop} (h : AH) (r0 : Nat) (r1 : Nat) (x5 : Int32) (hf : (9 < x5 → P none h) ∧ (¬ 9 < x5 → Rr mX1_find 0 0 28 [(0, .ref r0), (1, .ref r1), (5, .int x5), (6, .int 0)] [] h P)) : Rr mX1_find 0 0 18 [(0, .ref r0), (1, .ref r1), (5, .int x5)] [] h P := by
  refine R_iload dX1_find_18 2 rfl ?_
  refine R_bipush (v := 9) dX1_find_20 (by decide) ?_
  refine R_icmp_gt (tgt := 89) dX1_find_22 (by decide) (fun b1 => ?_) (fun b1 => ?_)
  · have hf := hf.1 b1
    exact R_ret dX1_find_89 rfl hf
  · have hf := hf.2 b1
    refine R_iconst (v := 0) dX1_find_25 (by decide) ?_
    refine R_istore dX1_find_26 (by decide) rfl ?_
    exact R_sub [1, 2, 3, 0] rfl hf
set_option maxRecDepth 20000 in
theorem sX1_find_28 {P : Option Value → AH → Prop} (h : AH) (r0 : Nat) (r1 : Nat) (x5 : Int32) (x6 : Int32) (hf : (9 < x6 → Rr mX1_find 0 0 18 [(0, .ref r0), (1, .ref r1), (5, .int (x5 + 1))] [] h P) ∧ (¬ 9 < x6 → (isO h 3 r1) ∧ ((isO h 1 r0) ∧ (Call mX1_boundShifts [.ref r0, .int x5, .int x6, .int (gI h r1 6)] h (fun v h4 => v = none ∧ ((isO h4 1 r0) ∧ (((gI h4 r0 6) < (gI h4 r0 5) → Rr mX1_find 0 0 28 [(0, .ref r0), (1, .ref r1), (5, .int x5), (6, .int (x6 + 1))] [] h4 P) ∧ (¬ (gI h4 r0 6) < (gI h4 r0 5) → ((gI h4 r0 8) < (gI h4 r0 7) → Rr mX1_find 0 0 28 [(0, .ref r0), (1, .ref r1), (5, .int x5), (6, .int (x6 + 1))] [] h4 P) ∧ (¬ (gI h4 r0 8) < (gI h4 r0 7) → Call mX1_takeIn [.ref r0, .int x5, .int x6] h4 (fun v h8 => v = none ∧ (Rr mX1_find 0 0 28 [(0, .ref r0), (1, .ref r1), (5, .int x5), (6, .int (x6 + 1))] [] h8 P))))))))))) : Rr mX1_find 0 0 28 [(0, .ref r0), (1, .ref r1), (5, .int x5), (6, .int x6)] [] h P := by
  refine R_iload dX1_find_28 3 rfl ?_
  refine R_bipush (v := 9) dX1_find_30 (by decide) ?_
  refine R_icmp_gt (tgt := 83) dX1_find_32 (by decide) (fun b1 => ?_) (fun b1 => ?_)
  · have hf := hf.1 b1
    refine R_iinc (v := x5 + 1) dX1_find_83 2 rfl rfl (by decide) rfl ?_
    refine R_goto (tgt := 18) dX1_find_86 (by decide) ?_
    exact R_sub [1, 2, 0] rfl hf
  · have hf := hf.2 b1
    refine R_aload_n dX1_find_35 rfl 0 rfl ?_
    refine R_iload dX1_find_36 2 rfl ?_
    refine R_iload dX1_find_38 3 rfl ?_
    refine R_aload_n dX1_find_40 rfl 1 rfl ?_
    obtain ⟨ob2, hf⟩ := hf
    refine G3_6 dX1_find_41 lfX1_38 ob2 ?_
    obtain ⟨ob3, hf⟩ := hf
    refine R_callV (ci := 1) (N := mX1_boundShifts) (as := [.int x5, .int x6, .int (gI h r1 6)]) (rest := []) (kc2 := 0) (ks2 := 0) dX1_find_44 lmX1_43 oX1_boundShifts (Nat.le_of_ble_eq_true rfl) rfl rfl (Nat.le_of_ble_eq_true rfl) rfl rfl ob3 ok1 (Call.mono hf ?_)
    rintro _ h4 ⟨rfl, hf⟩
    refine R_aload_n dX1_find_47 rfl 0 rfl ?_
    obtain ⟨ob5, hf⟩ := hf
    refine G1_5 dX1_find_48 lfX1_47 ob5 ?_
    refine R_aload_n dX1_find_51 rfl 0 rfl ?_
    refine G1_6 dX1_find_52 lfX1_50 ob5 ?_
    refine R_icmp_gt (tgt := 77) dX1_find_55 (by decide) (fun b6 => ?_) (fun b6 => ?_)
    · have hf := hf.1 b6
      refine R_iinc (v := x6 + 1) dX1_find_77 3 rfl rfl (by decide) rfl ?_
      refine R_goto (tgt := 28) dX1_find_80 (by decide) ?_
      exact R_sub [1, 2, 3, 0] rfl hf
    · have hf := hf.2 b6
      refine R_aload_n dX1_find_58 rfl 0 rfl ?_
      refine G1_7 dX1_find_59 lfX1_53 ob5 ?_
      refine R_aload_n dX1_find_62 rfl 0 rfl ?_
      refine G1_8 dX1_find_63 lfX1_56 ob5 ?_
      refine R_icmp_gt (tgt := 77) dX1_find_66 (by decide) (fun b7 => ?_) (fun b7 => ?_)
      · have hf := hf.1 b7
        refine R_iinc (v := x6 + 1) dX1_find_77 3 rfl rfl (by decide) rfl ?_
        refine R_goto (tgt := 28) dX1_find_80 (by decide) ?_
        exact R_sub [1, 2, 3, 0] rfl hf
      · have hf := hf.2 b7
        refine R_aload_n dX1_find_69 rfl 0 rfl ?_
        refine R_iload dX1_find_70 2 rfl ?_
        refine R_iload dX1_find_72 3 rfl ?_
        refine R_callV (ci := 1) (N := mX1_takeIn) (as := [.int x5, .int x6]) (rest := []) (kc2 := 0) (ks2 := 0) dX1_find_74 lmX1_59 oX1_takeIn (Nat.le_of_ble_eq_true rfl) rfl rfl (Nat.le_of_ble_eq_true rfl) rfl rfl ob5 ok1 (Call.mono hf ?_)
        rintro _ h8 ⟨rfl, hf⟩
        refine R_iinc (v := x6 + 1) dX1_find_77 3 rfl rfl (by decide) rfl ?_
        refine R_goto (tgt := 28) dX1_find_80 (by decide) ?_
        exact R_sub [1, 2, 3, 0] rfl hf
theorem dX4_number_0 : decode cX4_number 0 = .ok (.aload_n 0, 1) := by decide +kernel
theorem dX4_number_1 : decode cX4_number 1 = .ok (.getfield 38, 3) := by decide +kernel
theorem dX4_number_4 : decode cX4_number 4 = .ok (.ifCond .eq 5, 3) := by decide +kernel
theorem dX4_number_7 : decode cX4_number 7 = .ok (.iload_n 1, 1) := by decide +kernel
theorem dX4_number_8 : decode cX4_number 8 = .ok (.ireturn, 1) := by decide +kernel
theorem dX4_number_9 : decode cX4_number 9 = .ok (.aload_n 0, 1) := by decide +kernel
theorem dX4_number_10 : decode cX4_number 10 = .ok (.getfield 12, 3) := by decide +kernel
theorem dX4_number_13 : decode cX4_number 13 = .ok (.invokevirtual 44, 3) := by decide +kernel
theorem dX4_number_16 : decode cX4_number 16 = .ok (.aload_n 0, 1) := by decide +kernel
theorem dX4_number_17 : decode cX4_number 17 = .ok (.iload_n 1, 1) := by decide +kernel
theorem dX4_number_18 : decode cX4_number 18 = .ok (.iload_n 2, 1) := by decide +kernel
theorem dX4_number_19 : decode cX4_number 19 = .ok (.invokevirtual 177, 3) := by decide +kernel
theorem dX4_number_22 : decode cX4_number 22 = .ok (.ireturn, 1) := by decide +kernel
set_option maxRecDepth 20000 in
theorem sX4_number_0 {P : Option Value → AH → Prop} (h : AH) (r0 : Nat) (x1 : Int32) (x2 : Int32) (hf : (isO h 4 r0) ∧ (((gI h r0 4) = 0 → (isO h 9 (gF h r0 0)) ∧ (Call mX9_next [.ref (gF h r0 0)] h (fun v h4 => v = none ∧ ((isO h4 4 r0) ∧ (Call mX4_numberHere [.ref r0, .int x1, .int x2] h4 (fun v h6 => ∃ z7 : Int32, v = some (.int z7) ∧ (P (some (.int z7)) h6))))))) ∧ (¬ (gI h r0 4) = 0 → P (some (.int x1)) h))) : Rr mX4_number 0 0 0 [(0, .ref r0), (1, .int x1), (2, .int x2)] [] h P := by
  refine R_aload_n dX4_number_0 rfl 0 rfl ?_
  obtain ⟨ob1, hf⟩ := hf
  refine G4_4 dX4_number_1 lfX4_38 ob1 ?_
  refine R_if_eq (tgt := 9) dX4_number_4 (by decide) (fun b2 => ?_) (fun b2 => ?_)
  · have hf := hf.1 b2
    refine R_aload_n dX4_number_9 rfl 0 rfl ?_
    refine G4_0 dX4_number_10 lfX4_12 ob1 ?_
    obtain ⟨ob3, hf⟩ := hf
    refine R_callV (ci := 9) (N := mX9_next) (as := []) (rest := []) (kc2 := 0) (ks2 := 0) dX4_number_13 lmX4_44 oX9_next (Nat.le_of_ble_eq_true rfl) rfl rfl (Nat.le_of_ble_eq_true rfl) rfl rfl ob3 ok9 (Call.mono hf ?_)
    rintro _ h4 ⟨rfl, hf⟩
    refine R_aload_n dX4_number_16 rfl 0 rfl ?_
    refine R_iload_n dX4_number_17 rfl 1 rfl ?_
    refine R_iload_n dX4_number_18 rfl 2 rfl ?_
    obtain ⟨ob5, hf⟩ := hf
    refine R_callV (ci := 4) (N := mX4_numberHere) (as := [.int x1, .int x2]) (rest := []) (kc2 := 0) (ks2 := 0) dX4_number_19 lmX4_177 oX4_numberHere (Nat.le_of_ble_eq_true rfl) rfl rfl (Nat.le_of_ble_eq_true rfl) rfl rfl ob5 ok4 (Call.mono hf ?_)
    rintro _ h6 ⟨z7, rfl, hf⟩
    exact R_iret dX4_number_22 rfl rfl hf
  · have hf := hf.2 b2
    refine R_iload_n dX4_number_7 rfl 1 rfl ?_
    exact R_iret dX4_number_8 rfl rfl hf
theorem dX4_signedNumber_0 : decode cX4_signedNumber 0 = .ok (.aload_n 0, 1) := by decide +kernel
theorem dX4_signedNumber_1 : decode cX4_signedNumber 1 = .ok (.getfield 38, 3) := by decide +kernel
theorem dX4_signedNumber_4 : decode cX4_signedNumber 4 = .ok (.ifCond .eq 5, 3) := by decide +kernel
theorem dX4_signedNumber_7 : decode cX4_signedNumber 7 = .ok (.iconst 0, 1) := by decide +kernel
theorem dX4_signedNumber_8 : decode cX4_signedNumber 8 = .ok (.ireturn, 1) := by decide +kernel
theorem dX4_signedNumber_9 : decode cX4_signedNumber 9 = .ok (.aload_n 0, 1) := by decide +kernel
theorem dX4_signedNumber_10 : decode cX4_signedNumber 10 = .ok (.getfield 12, 3) := by decide +kernel
theorem dX4_signedNumber_13 : decode cX4_signedNumber 13 = .ok (.invokevirtual 44, 3) := by decide +kernel
theorem dX4_signedNumber_16 : decode cX4_signedNumber 16 = .ok (.aload_n 0, 1) := by decide +kernel
theorem dX4_signedNumber_17 : decode cX4_signedNumber 17 = .ok (.getfield 12, 3) := by decide +kernel
theorem dX4_signedNumber_20 : decode cX4_signedNumber 20 = .ok (.getfield 47, 3) := by decide +kernel
theorem dX4_signedNumber_23 : decode cX4_signedNumber 23 = .ok (.iconst 4, 1) := by decide +kernel
theorem dX4_signedNumber_24 : decode cX4_signedNumber 24 = .ok (.if_icmp .ne 7, 3) := by decide +kernel
theorem dX4_signedNumber_27 : decode cX4_signedNumber 27 = .ok (.iconst 1, 1) := by decide +kernel
theorem dX4_signedNumber_28 : decode cX4_signedNumber 28 = .ok (.goto 4, 3) := by decide +kernel
theorem dX4_signedNumber_31 : decode cX4_signedNumber 31 = .ok (.iconst 0, 1) := by decide +kernel
theorem dX4_signedNumber_32 : decode cX4_signedNumber 32 = .ok (.istore_n 2, 1) := by decide +kernel
theorem dX4_signedNumber_33 : decode cX4_signedNumber 33 = .ok (.iload_n 2, 1) := by decide +kernel
theorem dX4_signedNumber_34 : decode cX4_signedNumber 34 = .ok (.ifCond .eq 10, 3) := by decide +kernel
theorem dX4_signedNumber_37 : decode cX4_signedNumber 37 = .ok (.aload_n 0, 1) := by decide +kernel
theorem dX4_signedNumber_38 : decode cX4_signedNumber 38 = .ok (.getfield 12, 3) := by decide +kernel
theorem dX4_signedNumber_41 : decode cX4_signedNumber 41 = .ok (.invokevirtual 44, 3) := by decide +kernel
theorem dX4_signedNumber_44 : decode cX4_signedNumber 44 = .ok (.aload_n 0, 1) := by decide +kernel
theorem dX4_signedNumber_45 : decode cX4_signedNumber 45 = .ok (.iconst 0, 1) := by decide +kernel
theorem dX4_signedNumber_46 : decode cX4_signedNumber 46 = .ok (.iload_n 1, 1) := by decide +kernel
theorem dX4_signedNumber_47 : decode cX4_signedNumber 47 = .ok (.invokevirtual 177, 3) := by decide +kernel
theorem dX4_signedNumber_50 : decode cX4_signedNumber 50 = .ok (.istore_n 3, 1) := by decide +kernel
theorem dX4_signedNumber_51 : decode cX4_signedNumber 51 = .ok (.iload_n 2, 1) := by decide +kernel
theorem dX4_signedNumber_52 : decode cX4_signedNumber 52 = .ok (.ifCond .eq 8, 3) := by decide +kernel
theorem dX4_signedNumber_55 : decode cX4_signedNumber 55 = .ok (.iload_n 3, 1) := by decide +kernel
theorem dX4_signedNumber_56 : decode cX4_signedNumber 56 = .ok (.ineg, 1) := by decide +kernel
theorem dX4_signedNumber_57 : decode cX4_signedNumber 57 = .ok (.goto 4, 3) := by decide +kernel
theorem dX4_signedNumber_60 : decode cX4_signedNumber 60 = .ok (.iload_n 3, 1) := by decide +kernel
theorem dX4_signedNumber_61 : decode cX4_signedNumber 61 = .ok (.ireturn, 1) := by decide +kernel
set_option maxRecDepth 20000 in
theorem sX4_signedNumber_0 {P : Option Value → AH → Prop} (h : AH) (r0 : Nat) (x1 : Int32) (hf : (isO h 4 r0) ∧ (((gI h r0 4) = 0 → (isO h 9 (gF h r0 0)) ∧ (Call mX9_next [.ref (gF h r0 0)] h (fun v h4 => v = none ∧ ((isO h4 4 r0) ∧ ((isO h4 9 (gF h4 r0 0)) ∧ ((¬ ((gI h4 (gF h4 r0 0) 3) = 4) → Call mX4_numberHere [.ref r0, .int 0, .int x1] h4 (fun v h9 => ∃ z10 : Int32, v = some (.int z10) ∧ (∀ z12 : Int32, z12 = (if ((gI h4 (gF h4 r0 0) 3) = 4) then (-z10) else z10) → (P (some (.int z12)) h9)))) ∧ (((gI h4 (gF h4 r0 0) 3) = 4) → Call mX9_next [.ref (gF h4 r0 0)] h4 (fun v h13 => v = none ∧ ((isO h13 4 r0) ∧ (Call mX4_numberHere [.ref r0, .int 0, .int x1] h13 (fun v h15 => ∃ z16 : Int32, v = some (.int z16) ∧ (∀ z18 : Int32, z18 = (if ((gI h4 (gF h4 r0 0) 3) = 4) then (-z16) else z16) → (P (some (.int z18)) h15))))))))))))) ∧ (¬ (gI h r0 4) = 0 → P (some (.int 0)) h))) : Rr mX4_signedNumber 0 0 0 [(0, .ref r0), (1, .int x1)] [] h P := by
  refine R_aload_n dX4_signedNumber_0 rfl 0 rfl ?_
  obtain ⟨ob1, hf⟩ := hf
  refine G4_4 dX4_signedNumber_1 lfX4_38 ob1 ?_
  refine R_if_eq (tgt := 9) dX4_signedNumber_4 (by decide) (fun b2 => ?_) (fun b2 => ?_)
  · have hf := hf.1 b2
    refine R_aload_n dX4_signedNumber_9 rfl 0 rfl ?_
    refine G4_0 dX4_signedNumber_10 lfX4_12 ob1 ?_
    obtain ⟨ob3, hf⟩ := hf
    refine R_callV (ci := 9) (N := mX9_next) (as := []) (rest := []) (kc2 := 0) (ks2 := 0) dX4_signedNumber_13 lmX4_44 oX9_next (Nat.le_of_ble_eq_true rfl) rfl rfl (Nat.le_of_ble_eq_true rfl) rfl rfl ob3 ok9 (Call.mono hf ?_)
    rintro _ h4 ⟨rfl, hf⟩
    refine R_aload_n dX4_signedNumber_16 rfl 0 rfl ?_
    obtain ⟨ob5, hf⟩ := hf
    refine G4_0 dX4_signedNumber_17 lfX4_12 ob5 ?_
    obtain ⟨ob6, hf⟩ := hf
    refine G9_3 dX4_signedNumber_20 lfX4_47 ob6 ?_
    refine R_iconst (v := 4) dX4_signedNumber_23 (by decide) ?_
    have key :  Rr mX4_signedNumber 0 0 32 [(0, .ref r0), (1, .int x1)] [.int (bi ((gI h4 (gF h4 r0 0) 3) = 4))] h4 P := by
      refine R_istore_n dX4_signedNumber_32 rfl (by decide) rfl ?_
      refine R_iload_n dX4_signedNumber_33 rfl 0 rfl ?_
      refine R_if_eq_b (tgt := 44) dX4_signedNumber_34 (by decide) (fun b8 => ?_) (fun b8 => ?_)
      · have hf := hf.1 b8
        refine R_aload_n dX4_signedNumber_44 rfl 1 rfl ?_
        refine R_iconst (v := 0) dX4_signedNumber_45 (by decide) ?_
        refine R_iload_n dX4_signedNumber_46 rfl 2 rfl ?_
        refine R_callV (ci := 4) (N := mX4_numberHere) (as := [.int 0, .int x1]) (rest := []) (kc2 := 0) (ks2 := 0) dX4_signedNumber_47 lmX4_177 oX4_numberHere (Nat.le_of_ble_eq_true rfl) rfl rfl (Nat.le_of_ble_eq_true rfl) rfl rfl ob5 ok4 (Call.mono hf ?_)
        rintro _ h9 ⟨z10, rfl, hf⟩
        refine R_istore_n dX4_signedNumber_50 rfl (by decide) rfl ?_
        refine R_iload_n dX4_signedNumber_51 rfl 1 rfl ?_
        have key : ∀ z12 : Int32, z12 = (if ((gI h4 (gF h4 r0 0) 3) = 4) then (-z10) else z10) → Rr mX4_signedNumber 0 0 61 [] [.int z12] h9 P := by
          intro z12 ez12
          have hf := hf z12 ez12
          exact R_iret dX4_signedNumber_61 rfl rfl hf
        refine R_if_eq_b (tgt := 60) dX4_signedNumber_52 (by decide) (fun b11 => ?_) (fun b11 => ?_)
        · refine R_iload_n dX4_signedNumber_60 rfl 0 rfl ?_
          exact R_sub [] rfl (key _ (by rw [if_neg b11]))
        · refine R_iload_n dX4_signedNumber_55 rfl 0 rfl ?_
          refine R_ineg dX4_signedNumber_56 ?_
          refine R_goto (tgt := 61) dX4_signedNumber_57 (by decide) ?_
          exact R_sub [] rfl (key _ (by rw [if_pos b11]))
      · have hf := hf.2 b8
        refine R_aload_n dX4_signedNumber_37 rfl 1 rfl ?_
        refine G4_0 dX4_signedNumber_38 lfX4_12 ob5 ?_
        refine R_callV (ci := 9) (N := mX9_next) (as := []) (rest := []) (kc2 := 0) (ks2 := 0) dX4_signedNumber_41 lmX4_44 oX9_next (Nat.le_of_ble_eq_true rfl) rfl rfl (Nat.le_of_ble_eq_true rfl) rfl rfl ob6 ok9 (Call.mono hf ?_)
        rintro _ h13 ⟨rfl, hf⟩
        refine R_aload_n dX4_signedNumber_44 rfl 1 rfl ?_
        refine R_iconst (v := 0) dX4_signedNumber_45 (by decide) ?_
        refine R_iload_n dX4_signedNumber_46 rfl 2 rfl ?_
        obtain ⟨ob14, hf⟩ := hf
        refine R_callV (ci := 4) (N := mX4_numberHere) (as := [.int 0, .int x1]) (rest := []) (kc2 := 0) (ks2 := 0) dX4_signedNumber_47 lmX4_177 oX4_numberHere (Nat.le_of_ble_eq_true rfl) rfl rfl (Nat.le_of_ble_eq_true rfl) rfl rfl ob14 ok4 (Call.mono hf ?_)
        rintro _ h15 ⟨z16, rfl, hf⟩
        refine R_istore_n dX4_signedNumber_50 rfl (by decide) rfl ?_
        refine R_iload_n dX4_signedNumber_51 rfl 1 rfl ?_
        have key : ∀ z18 : Int32, z18 = (if ((gI h4 (gF h4 r0 0) 3) = 4) then (-z16) else z16) → Rr mX4_signedNumber 0 0 61 [] [.int z18] h15 P := by
          intro z18 ez18
          have hf := hf z18 ez18
          exact R_iret dX4_signedNumber_61 rfl rfl hf
        refine R_if_eq_b (tgt := 60) dX4_signedNumber_52 (by decide) (fun b17 => ?_) (fun b17 => ?_)
        · refine R_iload_n dX4_signedNumber_60 rfl 0 rfl ?_
          exact R_sub [] rfl (key _ (by rw [if_neg b17]))
        · refine R_iload_n dX4_signedNumber_55 rfl 0 rfl ?_
          refine R_ineg dX4_signedNumber_56 ?_
          refine R_goto (tgt := 61) dX4_signedNumber_57 (by decide) ?_
          exact R_sub [] rfl (key _ (by rw [if_pos b17]))
    refine R_icmp_ne (tgt := 31) dX4_signedNumber_24 (by decide) (fun b7 => ?_) (fun b7 => ?_)
    · refine R_iconst (v := 0) dX4_signedNumber_31 (by decide) ?_
      have kb := key
      rw [show bi ((gI h4 (gF h4 r0 0) 3) = 4) = 0 from by simp only [bi, b7, false_and, and_false, true_and, and_true, not_true_eq_false, not_false_eq_true, if_true, if_false, true_or, or_true, false_or, or_false, reduceIte]] at kb
      exact R_sub [0, 1] rfl kb
    · refine R_iconst (v := 1) dX4_signedNumber_27 (by decide) ?_
      refine R_goto (tgt := 32) dX4_signedNumber_28 (by decide) ?_
      have kb := key
      rw [show bi ((gI h4 (gF h4 r0 0) 3) = 4) = 1 from by simp only [bi, b7, false_and, and_false, true_and, and_true, not_true_eq_false, not_false_eq_true, if_true, if_false, true_or, or_true, false_or, or_false, reduceIte]] at kb
      exact R_sub [0, 1] rfl kb
  · have hf := hf.2 b2
    refine R_iconst (v := 0) dX4_signedNumber_7 (by decide) ?_
    exact R_iret dX4_signedNumber_8 rfl rfl hf
theorem dX4_takeSemicolon_0 : decode cX4_takeSemicolon 0 = .ok (.aload_n 0, 1) := by decide +kernel
theorem dX4_takeSemicolon_1 : decode cX4_takeSemicolon 1 = .ok (.getfield 38, 3) := by decide +kernel
theorem dX4_takeSemicolon_4 : decode cX4_takeSemicolon 4 = .ok (.ifCond .eq 4, 3) := by decide +kernel
theorem dX4_takeSemicolon_7 : decode cX4_takeSemicolon 7 = .ok (.return_, 1) := by decide +kernel
theorem dX4_takeSemicolon_8 : decode cX4_takeSemicolon 8 = .ok (.aload_n 0, 1) := by decide +kernel
theorem dX4_takeSemicolon_9 : decode cX4_takeSemicolon 9 = .ok (.getfield 12, 3) := by decide +kernel
theorem dX4_takeSemicolon_12 : decode cX4_takeSemicolon 12 = .ok (.invokevirtual 44, 3) := by decide +kernel
theorem dX4_takeSemicolon_15 : decode cX4_takeSemicolon 15 = .ok (.aload_n 0, 1) := by decide +kernel
theorem dX4_takeSemicolon_16 : decode cX4_takeSemicolon 16 = .ok (.getfield 12, 3) := by decide +kernel
theorem dX4_takeSemicolon_19 : decode cX4_takeSemicolon 19 = .ok (.getfield 47, 3) := by decide +kernel
theorem dX4_takeSemicolon_22 : decode cX4_takeSemicolon 22 = .ok (.iconst 3, 1) := by decide +kernel
theorem dX4_takeSemicolon_23 : decode cX4_takeSemicolon 23 = .ok (.if_icmp .ne 19, 3) := by decide +kernel
theorem dX4_takeSemicolon_26 : decode cX4_takeSemicolon 26 = .ok (.aload_n 0, 1) := by decide +kernel
theorem dX4_takeSemicolon_27 : decode cX4_takeSemicolon 27 = .ok (.getfield 21, 3) := by decide +kernel
theorem dX4_takeSemicolon_30 : decode cX4_takeSemicolon 30 = .ok (.dup, 1) := by decide +kernel
theorem dX4_takeSemicolon_31 : decode cX4_takeSemicolon 31 = .ok (.getfield 103, 3) := by decide +kernel
theorem dX4_takeSemicolon_34 : decode cX4_takeSemicolon 34 = .ok (.iconst 1, 1) := by decide +kernel
theorem dX4_takeSemicolon_35 : decode cX4_takeSemicolon 35 = .ok (.iadd, 1) := by decide +kernel
theorem dX4_takeSemicolon_36 : decode cX4_takeSemicolon 36 = .ok (.putfield 103, 3) := by decide +kernel
theorem dX4_takeSemicolon_39 : decode cX4_takeSemicolon 39 = .ok (.goto 8, 3) := by decide +kernel
theorem dX4_takeSemicolon_42 : decode cX4_takeSemicolon 42 = .ok (.aload_n 0, 1) := by decide +kernel
theorem dX4_takeSemicolon_43 : decode cX4_takeSemicolon 43 = .ok (.iconst 1, 1) := by decide +kernel
theorem dX4_takeSemicolon_44 : decode cX4_takeSemicolon 44 = .ok (.invokevirtual 99, 3) := by decide +kernel
theorem dX4_takeSemicolon_47 : decode cX4_takeSemicolon 47 = .ok (.return_, 1) := by decide +kernel
set_option maxRecDepth 20000 in
theorem sX4_takeSemicolon_0 {P : Option Value → AH → Prop} (h : AH) (r0 : Nat) (hf : (isO h 4 r0) ∧ (((gI h r0 4) = 0 → (isO h 9 (gF h r0 0)) ∧ (Call mX9_next [.ref (gF h r0 0)] h (fun v h4 => v = none ∧ ((isO h4 4 r0) ∧ ((isO h4 9 (gF h4 r0 0)) ∧ ((¬ (gI h4 (gF h4 r0 0) 3) = 3 → Call mX4_refuse [.ref r0, .int 1] h4 (fun v h8 => v = none ∧ (P none h8))) ∧ ((gI h4 (gF h4 r0 0) 3) = 3 → (isO h4 3 (gF h4 r0 3)) ∧ (P none (sI h4 (gF h4 r0 3) 0 ((gI h4 (gF h4 r0 3) 0) + 1)))))))))) ∧ (¬ (gI h r0 4) = 0 → P none h))) : Rr mX4_takeSemicolon 0 0 0 [(0, .ref r0)] [] h P := by
  refine R_aload_n dX4_takeSemicolon_0 rfl 0 rfl ?_
  obtain ⟨ob1, hf⟩ := hf
  refine G4_4 dX4_takeSemicolon_1 lfX4_38 ob1 ?_
  refine R_if_eq (tgt := 8) dX4_takeSemicolon_4 (by decide) (fun b2 => ?_) (fun b2 => ?_)
  · have hf := hf.1 b2
    refine R_aload_n dX4_takeSemicolon_8 rfl 0 rfl ?_
    refine G4_0 dX4_takeSemicolon_9 lfX4_12 ob1 ?_
    obtain ⟨ob3, hf⟩ := hf
    refine R_callV (ci := 9) (N := mX9_next) (as := []) (rest := []) (kc2 := 0) (ks2 := 0) dX4_takeSemicolon_12 lmX4_44 oX9_next (Nat.le_of_ble_eq_true rfl) rfl rfl (Nat.le_of_ble_eq_true rfl) rfl rfl ob3 ok9 (Call.mono hf ?_)
    rintro _ h4 ⟨rfl, hf⟩
    refine R_aload_n dX4_takeSemicolon_15 rfl 0 rfl ?_
    obtain ⟨ob5, hf⟩ := hf
    refine G4_0 dX4_takeSemicolon_16 lfX4_12 ob5 ?_
    obtain ⟨ob6, hf⟩ := hf
    refine G9_3 dX4_takeSemicolon_19 lfX4_47 ob6 ?_
    refine R_iconst (v := 3) dX4_takeSemicolon_22 (by decide) ?_
    refine R_icmp_ne (tgt := 42) dX4_takeSemicolon_23 (by decide) (fun b7 => ?_) (fun b7 => ?_)
    · have hf := hf.1 b7
      refine R_aload_n dX4_takeSemicolon_42 rfl 0 rfl ?_
      refine R_iconst (v := 1) dX4_takeSemicolon_43 (by decide) ?_
      refine R_callV (ci := 4) (N := mX4_refuse) (as := [.int 1]) (rest := []) (kc2 := 0) (ks2 := 0) dX4_takeSemicolon_44 lmX4_99 oX4_refuse (Nat.le_of_ble_eq_true rfl) rfl rfl (Nat.le_of_ble_eq_true rfl) rfl rfl ob5 ok4 (Call.mono hf ?_)
      rintro _ h8 ⟨rfl, hf⟩
      exact R_ret dX4_takeSemicolon_47 rfl hf
    · have hf := hf.2 b7
      refine R_aload_n dX4_takeSemicolon_26 rfl 0 rfl ?_
      refine G4_3 dX4_takeSemicolon_27 lfX4_21 ob5 ?_
      refine R_dup dX4_takeSemicolon_30 rfl ?_
      obtain ⟨ob9, hf⟩ := hf
      refine G3_0 dX4_takeSemicolon_31 lfX4_103 ob9 ?_
      refine R_iconst (v := 1) dX4_takeSemicolon_34 (by decide) ?_
      refine R_iadd dX4_takeSemicolon_35 ?_
      refine S3_0 dX4_takeSemicolon_36 lfX4_103 ob9 ?_
      refine R_goto (tgt := 47) dX4_takeSemicolon_39 (by decide) ?_
      exact R_ret dX4_takeSemicolon_47 rfl hf
  · have hf := hf.2 b2
    exact R_ret dX4_takeSemicolon_7 rfl hf
theorem dX5_worstWithin_0 : decode cX5_worstWithin 0 = .ok (.iconst 0, 1) := by decide +kernel
theorem dX5_worstWithin_1 : decode cX5_worstWithin 1 = .ok (.istore_n 2, 1) := by decide +kernel
theorem dX5_worstWithin_2 : decode cX5_worstWithin 2 = .ok (.iload_n 1, 1) := by decide +kernel
theorem dX5_worstWithin_3 : decode cX5_worstWithin 3 = .ok (.ineg, 1) := by decide +kernel
theorem dX5_worstWithin_4 : decode cX5_worstWithin 4 = .ok (.istore_n 3, 1) := by decide +kernel
theorem dX5_worstWithin_5 : decode cX5_worstWithin 5 = .ok (.iload_n 3, 1) := by decide +kernel
theorem dX5_worstWithin_6 : decode cX5_worstWithin 6 = .ok (.iload_n 1, 1) := by decide +kernel
theorem dX5_worstWithin_7 : decode cX5_worstWithin 7 = .ok (.if_icmp .gt 37, 3) := by decide +kernel
theorem dX5_worstWithin_10 : decode cX5_worstWithin 10 = .ok (.iload_n 1, 1) := by decide +kernel
theorem dX5_worstWithin_11 : decode cX5_worstWithin 11 = .ok (.ineg, 1) := by decide +kernel
theorem dX5_worstWithin_12 : decode cX5_worstWithin 12 = .ok (.istore 4, 2) := by decide +kernel
theorem dX5_worstWithin_14 : decode cX5_worstWithin 14 = .ok (.iload 4, 2) := by decide +kernel
theorem dX5_worstWithin_16 : decode cX5_worstWithin 16 = .ok (.iload_n 1, 1) := by decide +kernel
theorem dX5_worstWithin_17 : decode cX5_worstWithin 17 = .ok (.if_icmp .gt 21, 3) := by decide +kernel
theorem dX5_worstWithin_20 : decode cX5_worstWithin 20 = .ok (.iload_n 2, 1) := by decide +kernel
theorem dX5_worstWithin_21 : decode cX5_worstWithin 21 = .ok (.aload_n 0, 1) := by decide +kernel
theorem dX5_worstWithin_22 : decode cX5_worstWithin 22 = .ok (.iload_n 3, 1) := by decide +kernel
theorem dX5_worstWithin_23 : decode cX5_worstWithin 23 = .ok (.iload 4, 2) := by decide +kernel
theorem dX5_worstWithin_25 : decode cX5_worstWithin 25 = .ok (.invokevirtual 83, 3) := by decide +kernel
theorem dX5_worstWithin_28 : decode cX5_worstWithin 28 = .ok (.invokestatic 87, 3) := by decide +kernel
theorem dX5_worstWithin_31 : decode cX5_worstWithin 31 = .ok (.istore_n 2, 1) := by decide +kernel
theorem dX5_worstWithin_32 : decode cX5_worstWithin 32 = .ok (.iinc 4 1, 3) := by decide +kernel
theorem dX5_worstWithin_35 : decode cX5_worstWithin 35 = .ok (.goto (-21), 3) := by decide +kernel
theorem dX5_worstWithin_38 : decode cX5_worstWithin 38 = .ok (.iinc 3 1, 3) := by decide +kernel
theorem dX5_worstWithin_41 : decode cX5_worstWithin 41 = .ok (.goto (-36), 3) := by decide +kernel
theorem dX5_worstWithin_44 : decode cX5_worstWithin 44 = .ok (.iload_n 2, 1) := by decide +kernel
theorem dX5_worstWithin_45 : decode cX5_worstWithin 45 = .ok (.ireturn, 1) := by decide +kernel
set_option maxRecDepth 20000 in
theorem sX5_worstWithin_0 {P : Option Value → AH → Prop} (h : AH) (r0 : Nat) (x1 : Int32) (hf : Rr mX5_worstWithin 0 0 5 [(0, .ref r0), (1, .int x1), (2, .int 0), (3, .int (-x1))] [] h P) : Rr mX5_worstWithin 0 0 0 [(0, .ref r0), (1, .int x1)] [] h P := by
  refine R_iconst (v := 0) dX5_worstWithin_0 (by decide) ?_
  refine R_istore_n dX5_worstWithin_1 rfl (by decide) rfl ?_
  refine R_iload_n dX5_worstWithin_2 rfl 2 rfl ?_
  refine R_ineg dX5_worstWithin_3 ?_
  refine R_istore_n dX5_worstWithin_4 rfl (by decide) rfl ?_
  exact R_sub [2, 3, 1, 0] rfl hf
set_option maxRecDepth 20000 in
theorem sX5_worstWithin_5 {P : Option Value → AH → Prop} (h : AH) (r0 : Nat) (x1 : Int32) (x2 : Int32) (x3 : Int32) (hf : (x1 < x3 → P (some (.int x2)) h) ∧ (¬ x1 < x3 → Rr mX5_worstWithin 0 0 14 [(0, .ref r0), (1, .int x1), (2, .int x2), (3, .int x3), (4, .int (-x1))] [] h P)) : Rr mX5_worstWithin 0 0 5 [(0, .ref r0), (1, .int x1), (2, .int x2), (3, .int x3)] [] h P := by
  refine R_iload_n dX5_worstWithin_5 rfl 3 rfl ?_
  refine R_iload_n dX5_worstWithin_6 rfl 1 rfl ?_
  refine R_icmp_gt (tgt := 44) dX5_worstWithin_7 (by decide) (fun b1 => ?_) (fun b1 => ?_)
  · have hf := hf.1 b1
    refine R_iload_n dX5_worstWithin_44 rfl 2 rfl ?_
    exact R_iret dX5_worstWithin_45 rfl rfl hf
  · have hf := hf.2 b1
    refine R_iload_n dX5_worstWithin_10 rfl 1 rfl ?_
    refine R_ineg dX5_worstWithin_11 ?_
    refine R_istore dX5_worstWithin_12 (by decide) rfl ?_
    exact R_sub [1, 2, 3, 4, 0] rfl hf
set_option maxRecDepth 20000 in
theorem sX5_worstWithin_14 {P : Option Value → AH → Prop} (h : AH) (r0 : Nat) (x1 : Int32) (x2 : Int32) (x3 : Int32) (x4 : Int32) (hf : (x1 < x4 → Rr mX5_worstWithin 0 0 5 [(0, .ref r0), (1, .int x1), (2, .int x2), (3, .int (x3 + 1))] [] h P) ∧ (¬ x1 < x4 → (isO h 5 r0) ∧ (Call mX5_slip [.ref r0, .int x3, .int x4] h (fun v h3 => ∃ z4 : Int32, v = some (.int z4) ∧ (Rr mX5_worstWithin 0 0 14 [(0, .ref r0), (1, .int x1), (2, .int (imax x2 z4)), (3, .int x3), (4, .int (x4 + 1))] [] h3 P))))) : Rr mX5_worstWithin 0 0 14 [(0, .ref r0), (1, .int x1), (2, .int x2), (3, .int x3), (4, .int x4)] [] h P := by
  refine R_iload dX5_worstWithin_14 4 rfl ?_
  refine R_iload_n dX5_worstWithin_16 rfl 1 rfl ?_
  refine R_icmp_gt (tgt := 38) dX5_worstWithin_17 (by decide) (fun b1 => ?_) (fun b1 => ?_)
  · have hf := hf.1 b1
    refine R_iinc (v := x3 + 1) dX5_worstWithin_38 3 rfl rfl (by decide) rfl ?_
    refine R_goto (tgt := 5) dX5_worstWithin_41 (by decide) ?_
    exact R_sub [1, 2, 3, 0] rfl hf
  · have hf := hf.2 b1
    refine R_iload_n dX5_worstWithin_20 rfl 2 rfl ?_
    refine R_aload_n dX5_worstWithin_21 rfl 0 rfl ?_
    refine R_iload_n dX5_worstWithin_22 rfl 3 rfl ?_
    refine R_iload dX5_worstWithin_23 4 rfl ?_
    obtain ⟨ob2, hf⟩ := hf
    refine R_callV (ci := 5) (N := mX5_slip) (as := [.int x3, .int x4]) (rest := [.int x2]) (kc2 := 0) (ks2 := 0) dX5_worstWithin_25 lmX5_83 oX5_slip (Nat.le_of_ble_eq_true rfl) rfl rfl (Nat.le_of_ble_eq_true rfl) rfl rfl ob2 ok5 (Call.mono hf ?_)
    rintro _ h3 ⟨z4, rfl, hf⟩
    refine R_mmax dX5_worstWithin_28 lmX5_87 (by decide) (Nat.le_of_ble_eq_true rfl) ?_
    refine R_istore_n dX5_worstWithin_31 rfl (by decide) rfl ?_
    refine R_iinc (v := x4 + 1) dX5_worstWithin_32 4 rfl rfl (by decide) rfl ?_
    refine R_goto (tgt := 14) dX5_worstWithin_35 (by decide) ?_
    exact R_sub [2, 3, 1, 4, 0] rfl hf
theorem dX6_find_0 : decode cX6_find 0 = .ok (.ldc 36, 2) := by decide +kernel
theorem dX6_find_2 : decode cX6_find 2 = .ok (.istore_n 3, 1) := by decide +kernel
theorem dX6_find_3 : decode cX6_find 3 = .ok (.ldc 36, 2) := by decide +kernel
theorem dX6_find_5 : decode cX6_find 5 = .ok (.istore 4, 2) := by decide +kernel
theorem dX6_find_7 : decode cX6_find 7 = .ok (.aload_n 0, 1) := by decide +kernel
theorem dX6_find_8 : decode cX6_find 8 = .ok (.aload_n 1, 1) := by decide +kernel
theorem dX6_find_9 : decode cX6_find 9 = .ok (.getfield 37, 3) := by decide +kernel
theorem dX6_find_12 : decode cX6_find 12 = .ok (.iload_n 2, 1) := by decide +kernel
theorem dX6_find_13 : decode cX6_find 13 = .ok (.iaload, 1) := by decide +kernel
theorem dX6_find_14 : decode cX6_find 14 = .ok (.iconst 3, 1) := by decide +kernel
theorem dX6_find_15 : decode cX6_find 15 = .ok (.invokestatic 39, 3) := by decide +kernel
theorem dX6_find_18 : decode cX6_find 18 = .ok (.putfield 20, 3) := by decide +kernel
theorem dX6_find_21 : decode cX6_find 21 = .ok (.aload_n 0, 1) := by decide +kernel
theorem dX6_find_22 : decode cX6_find 22 = .ok (.aload_n 1, 1) := by decide +kernel
theorem dX6_find_23 : decode cX6_find 23 = .ok (.getfield 45, 3) := by decide +kernel
theorem dX6_find_26 : decode cX6_find 26 = .ok (.invokevirtual 48, 3) := by decide +kernel
theorem dX6_find_29 : decode cX6_find 29 = .ok (.istore 5, 2) := by decide +kernel
theorem dX6_find_31 : decode cX6_find 31 = .ok (.iconst 0, 1) := by decide +kernel
theorem dX6_find_32 : decode cX6_find 32 = .ok (.istore 6, 2) := by decide +kernel
theorem dX6_find_34 : decode cX6_find 34 = .ok (.iload 6, 2) := by decide +kernel
theorem dX6_find_36 : decode cX6_find 36 = .ok (.iload 5, 2) := by decide +kernel
theorem dX6_find_38 : decode cX6_find 38 = .ok (.if_icmp .ge 74, 3) := by decide +kernel
theorem dX6_find_41 : decode cX6_find 41 = .ok (.aload_n 0, 1) := by decide +kernel
theorem dX6_find_42 : decode cX6_find 42 = .ok (.aload_n 1, 1) := by decide +kernel
theorem dX6_find_43 : decode cX6_find 43 = .ok (.iload_n 2, 1) := by decide +kernel
theorem dX6_find_44 : decode cX6_find 44 = .ok (.invokevirtual 52, 3) := by decide +kernel
theorem dX6_find_47 : decode cX6_find 47 = .ok (.istore 7, 2) := by decide +kernel
theorem dX6_find_49 : decode cX6_find 49 = .ok (.aload_n 0, 1) := by decide +kernel
theorem dX6_find_50 : decode cX6_find 50 = .ok (.invokevirtual 56, 3) := by decide +kernel
theorem dX6_find_53 : decode cX6_find 53 = .ok (.istore 8, 2) := by decide +kernel
theorem dX6_find_55 : decode cX6_find 55 = .ok (.iload 7, 2) := by decide +kernel
theorem dX6_find_57 : decode cX6_find 57 = .ok (.iload_n 3, 1) := by decide +kernel
theorem dX6_find_58 : decode cX6_find 58 = .ok (.if_icmp .lt 16, 3) := by decide +kernel
theorem dX6_find_61 : decode cX6_find 61 = .ok (.iload 7, 2) := by decide +kernel
theorem dX6_find_63 : decode cX6_find 63 = .ok (.iload_n 3, 1) := by decide +kernel
theorem dX6_find_64 : decode cX6_find 64 = .ok (.if_icmp .ne 34, 3) := by decide +kernel
theorem dX6_find_67 : decode cX6_find 67 = .ok (.iload 8, 2) := by decide +kernel
theorem dX6_find_69 : decode cX6_find 69 = .ok (.iload 4, 2) := by decide +kernel
theorem dX6_find_71 : decode cX6_find 71 = .ok (.if_icmp .ge 27, 3) := by decide +kernel
theorem dX6_find_74 : decode cX6_find 74 = .ok (.iload 7, 2) := by decide +kernel
theorem dX6_find_76 : decode cX6_find 76 = .ok (.istore_n 3, 1) := by decide +kernel
theorem dX6_find_77 : decode cX6_find 77 = .ok (.iload 8, 2) := by decide +kernel
theorem dX6_find_79 : decode cX6_find 79 = .ok (.istore 4, 2) := by decide +kernel
theorem dX6_find_81 : decode cX6_find 81 = .ok (.aload_n 0, 1) := by decide +kernel
theorem dX6_find_82 : decode cX6_find 82 = .ok (.getfield 11, 3) := by decide +kernel
theorem dX6_find_85 : decode cX6_find 85 = .ok (.iconst 0, 1) := by decide +kernel
theorem dX6_find_86 : decode cX6_find 86 = .ok (.aload_n 0, 1) := by decide +kernel
theorem dX6_find_87 : decode cX6_find 87 = .ok (.getfield 17, 3) := by decide +kernel
theorem dX6_find_90 : decode cX6_find 90 = .ok (.iconst 0, 1) := by decide +kernel
theorem dX6_find_91 : decode cX6_find 91 = .ok (.aload_n 0, 1) := by decide +kernel
theorem dX6_find_92 : decode cX6_find 92 = .ok (.getfield 20, 3) := by decide +kernel
theorem dX6_find_95 : decode cX6_find 95 = .ok (.invokestatic 60, 3) := by decide +kernel
theorem dX6_find_98 : decode cX6_find 98 = .ok (.aload_n 0, 1) := by decide +kernel
theorem dX6_find_99 : decode cX6_find 99 = .ok (.aload_n 1, 1) := by decide +kernel
theorem dX6_find_100 : decode cX6_find 100 = .ok (.getfield 45, 3) := by decide +kernel
theorem dX6_find_103 : decode cX6_find 103 = .ok (.invokevirtual 66, 3) := by decide +kernel
theorem dX6_find_106 : decode cX6_find 106 = .ok (.iinc 6 1, 3) := by decide +kernel
theorem dX6_find_109 : decode cX6_find 109 = .ok (.goto (-75), 3) := by decide +kernel
theorem dX6_find_112 : decode cX6_find 112 = .ok (.iload_n 3, 1) := by decide +kernel
theorem dX6_find_113 : decode cX6_find 113 = .ok (.ireturn, 1) := by decide +kernel
set_option maxRecDepth 20000 in
theorem sX6_find_0 {P : Option Value → AH → Prop} (h : AH) (r0 : Nat) (r1 : Nat) (x2 : Int32) (hf : (isO h 3 r1) ∧ ((isA h 0 (gF h r1 7)) ∧ ((vp_in x2 (ln (gF h r1 7))) ∧ ((isO h 6 r0) ∧ (Call mX6_beginRows [.ref r0, .int (gI (sI h r0 5 (imin (gI h (gF h r1 7) x2.toNatClampNeg) 3)) r1 9)] (sI h r0 5 (imin (gI h (gF h r1 7) x2.toNatClampNeg) 3)) (fun v h5 => ∃ z6 : Int32, v = some (.int z6) ∧ (Rr mX6_find 0 0 34 [(0, .ref r0), (1, .ref r1), (2, .int x2), (3, .int 1000000000), (4, .int 1000000000), (5, .int z6), (6, .int 0)] [] h5 P))))))) : Rr mX6_find 0 0 0 [(0, .ref r0), (1, .ref r1), (2, .int x2)] [] h P := by
  refine R_ldc (v := 1000000000) dX6_find_0 lcX6_36 ?_
  refine R_istore_n dX6_find_2 rfl (by decide) rfl ?_
  refine R_ldc (v := 1000000000) dX6_find_3 lcX6_36 ?_
  refine R_istore dX6_find_5 (by decide) rfl ?_
  refine R_aload_n dX6_find_7 rfl 2 rfl ?_
  refine R_aload_n dX6_find_8 rfl 3 rfl ?_
  obtain ⟨ob1, hf⟩ := hf
  refine G3_7 dX6_find_9 lfX6_37 ob1 ?_
  refine R_iload_n dX6_find_12 rfl 4 rfl ?_
  obtain ⟨ob2, hf⟩ := hf
  obtain ⟨ob3, hf⟩ := hf
  refine R_iaload dX6_find_13 ob2 ob3 ?_
  refine R_iconst (v := 3) dX6_find_14 (by decide) ?_
  refine R_mmin dX6_find_15 lmX6_39 (by decide) (Nat.le_of_ble_eq_true rfl) ?_
  obtain ⟨ob4, hf⟩ := hf
  refine S6_5 dX6_find_18 lfX6_20 ob4 ?_
  refine R_aload_n dX6_find_21 rfl 2 rfl ?_
  refine R_aload_n dX6_find_22 rfl 3 rfl ?_
  refine G3_9 dX6_find_23 lfX6_45 ob1 ?_
  refine R_callV (ci := 6) (N := mX6_beginRows) (as := [.int (gI (sI h r0 5 (imin (gI h (gF h r1 7) x2.toNatClampNeg) 3)) r1 9)]) (rest := []) (kc2 := 0) (ks2 := 0) dX6_find_26 lmX6_48 oX6_beginRows (Nat.le_of_ble_eq_true rfl) rfl rfl (Nat.le_of_ble_eq_true rfl) rfl rfl ob4 ok6 (Call.mono hf ?_)
  rintro _ h5 ⟨z6, rfl, hf⟩
  refine R_istore dX6_find_29 (by decide) rfl ?_
  refine R_iconst (v := 0) dX6_find_31 (by decide) ?_
  refine R_istore dX6_find_32 (by decide) rfl ?_
  exact R_sub [4, 5, 6, 3, 2, 1, 0] rfl hf
set_option maxRecDepth 20000 in
theorem sX6_find_34 {P : Option Value → AH → Prop} (h : AH) (r0 : Nat) (r1 : Nat) (x2 : Int32) (x3 : Int32) (x4 : Int32) (x5 : Int32) (x6 : Int32) (hf : (x5 ≤ x6 → P (some (.int x3)) h) ∧ (¬ x5 ≤ x6 → (isO h 6 r0) ∧ (Call mX6_badOfRow [.ref r0, .ref r1, .int x2] h (fun v h3 => ∃ z4 : Int32, v = some (.int z4) ∧ ((isO h3 6 r0) ∧ (Call mX6_turnsOfRow [.ref r0] h3 (fun v h6 => ∃ z7 : Int32, v = some (.int z7) ∧ ((z4 < x3 → (isO h6 6 r0) ∧ ((isA h6 0 (gF h6 r0 4)) ∧ ((isA h6 0 (gF h6 r0 6)) ∧ ((¬ (gI h6 r0 5) < 0) ∧ (((Int32.toNatClampNeg 0) + (gI h6 r0 5).toNatClampNeg ≤ ln (gF h6 r0 4)) ∧ (((Int32.toNatClampNeg 0) + (gI h6 r0 5).toNatClampNeg ≤ ln (gF h6 r0 6)) ∧ ((isO h6 3 r1) ∧ (Call mX6_nextRow [.ref r0, .int (gI (rI h6 (gF h6 r0 6) (va_cpy (gI h6 (gF h6 r0 4)) (gI h6 (gF h6 r0 6)) (Int32.toNatClampNeg 0) (Int32.toNatClampNeg 0) (gI h6 r0 5).toNatClampNeg)) r1 9)] (rI h6 (gF h6 r0 6) (va_cpy (gI h6 (gF h6 r0 4)) (gI h6 (gF h6 r0 6)) (Int32.toNatClampNeg 0) (Int32.toNatClampNeg 0) (gI h6 r0 5).toNatClampNeg)) (fun v h16 => v = none ∧ (Rr mX6_find 0 0 34 [(0, .ref r0), (1, .ref r1), (2, .int x2), (3, .int z4), (4, .int z7), (5, .int x5), (6, .int (x6 + 1))] [] h16 P)))))))))) ∧ (¬ z4 < x3 → (¬ z4 = x3 → (isO h6 3 r1) ∧ ((isO h6 6 r0) ∧ (Call mX6_nextRow [.ref r0, .int (gI h6 r1 9)] h6 (fun v h20 => v = none ∧ (Rr mX6_find 0 0 34 [(0, .ref r0), (1, .ref r1), (2, .int x2), (3, .int x3), (4, .int x4), (5, .int x5), (6, .int (x6 + 1))] [] h20 P))))) ∧ (z4 = x3 → (x4 ≤ z7 → (isO h6 3 r1) ∧ ((isO h6 6 r0) ∧ (Call mX6_nextRow [.ref r0, .int (gI h6 r1 9)] h6 (fun v h24 => v = none ∧ (Rr mX6_find 0 0 34 [(0, .ref r0), (1, .ref r1), (2, .int x2), (3, .int x3), (4, .int x4), (5, .int x5), (6, .int (x6 + 1))] [] h24 P))))) ∧ (¬ x4 ≤ z7 → (isO h6 6 r0) ∧ ((isA h6 0 (gF h6 r0 4)) ∧ ((isA h6 0 (gF h6 r0 6)) ∧ ((¬ (gI h6 r0 5) < 0) ∧ (((Int32.toNatClampNeg 0) + (gI h6 r0 5).toNatClampNeg ≤ ln (gF h6 r0 4)) ∧ (((Int32.toNatClampNeg 0) + (gI h6 r0 5).toNatClampNeg ≤ ln (gF h6 r0 6)) ∧ ((isO h6 3 r1) ∧ (Call mX6_nextRow [.ref r0, .int (gI (rI h6 (gF h6 r0 6) (va_cpy (gI h6 (gF h6 r0 4)) (gI h6 (gF h6 r0 6)) (Int32.toNatClampNeg 0) (Int32.toNatClampNeg 0) (gI h6 r0 5).toNatClampNeg)) r1 9)] (rI h6 (gF h6 r0 6) (va_cpy (gI h6 (gF h6 r0 4)) (gI h6 (gF h6 r0 6)) (Int32.toNatClampNeg 0) (Int32.toNatClampNeg 0) (gI h6 r0 5).toNatClampNeg)) (fun v h32 => v = none ∧ (Rr mX6_find 0 0 34 [(0, .ref r0), (1, .ref r1), (2, .int x2), (3, .int z4), (4, .int z7), (5, .int x5), (6, .int (x6 + 1))] [] h32 P)))))))))))))))))))) : Rr mX6_find 0 0 34 [(0, .ref r0), (1, .ref r1), (2, .int x2), (3, .int x3), (4, .int x4), (5, .int x5), (6, .int x6)] [] h P := by
  refine R_iload dX6_find_34 6 rfl ?_
  refine R_iload dX6_find_36 5 rfl ?_
  refine R_icmp_ge (tgt := 112) dX6_find_38 (by decide) (fun b1 => ?_) (fun b1 => ?_)
  · have hf := hf.1 b1
    refine R_iload_n dX6_find_112 rfl 3 rfl ?_
    exact R_iret dX6_find_113 rfl rfl hf
  · have hf := hf.2 b1
    refine R_aload_n dX6_find_41 rfl 0 rfl ?_
    refine R_aload_n dX6_find_42 rfl 1 rfl ?_
    refine R_iload_n dX6_find_43 rfl 2 rfl ?_
    obtain ⟨ob2, hf⟩ := hf
    refine R_callV (ci := 6) (N := mX6_badOfRow) (as := [.ref r1, .int x2]) (rest := []) (kc2 := 0) (ks2 := 0) dX6_find_44 lmX6_52 oX6_badOfRow (Nat.le_of_ble_eq_true rfl) rfl rfl (Nat.le_of_ble_eq_true rfl) rfl rfl ob2 ok6 (Call.mono hf ?_)
    rintro _ h3 ⟨z4, rfl, hf⟩
    refine R_istore dX6_find_47 (by decide) rfl ?_
    refine R_aload_n dX6_find_49 rfl 1 rfl ?_
    obtain ⟨ob5, hf⟩ := hf
    refine R_callV (ci := 6) (N := mX6_turnsOfRow) (as := []) (rest := []) (kc2 := 0) (ks2 := 0) dX6_find_50 lmX6_56 oX6_turnsOfRow (Nat.le_of_ble_eq_true rfl) rfl rfl (Nat.le_of_ble_eq_true rfl) rfl rfl ob5 ok6 (Call.mono hf ?_)
    rintro _ h6 ⟨z7, rfl, hf⟩
    refine R_istore dX6_find_53 (by decide) rfl ?_
    refine R_iload dX6_find_55 1 rfl ?_
    refine R_iload_n dX6_find_57 rfl 5 rfl ?_
    refine R_icmp_lt (tgt := 74) dX6_find_58 (by decide) (fun b8 => ?_) (fun b8 => ?_)
    · have hf := hf.1 b8
      refine R_iload dX6_find_74 1 rfl ?_
      refine R_istore_n dX6_find_76 rfl (by decide) rfl ?_
      refine R_iload dX6_find_77 1 rfl ?_
      refine R_istore dX6_find_79 (by decide) rfl ?_
      refine R_aload_n dX6_find_81 rfl 4 rfl ?_
      obtain ⟨ob9, hf⟩ := hf
      refine G6_4 dX6_find_82 lfX6_11 ob9 ?_
      refine R_iconst (v := 0) dX6_find_85 (by decide) ?_
      refine R_aload_n dX6_find_86 rfl 4 rfl ?_
      refine G6_6 dX6_find_87 lfX6_17 ob9 ?_
      refine R_iconst (v := 0) dX6_find_90 (by decide) ?_
      refine R_aload_n dX6_find_91 rfl 4 rfl ?_
      refine G6_5 dX6_find_92 lfX6_20 ob9 ?_
      obtain ⟨ob10, hf⟩ := hf
      obtain ⟨ob11, hf⟩ := hf
      obtain ⟨ob12, hf⟩ := hf
      obtain ⟨ob13, hf⟩ := hf
      obtain ⟨ob14, hf⟩ := hf
      refine R_copyI dX6_find_95 lmX6_60 w_ac1 w_ac2 w_ac3 (by decide) rfl ob10 ob11 (by decide) (by decide) ob12 ob13 ob14 ?_
      refine R_aload_n dX6_find_98 rfl 4 rfl ?_
      refine R_aload_n dX6_find_99 rfl 5 rfl ?_
      obtain ⟨ob15, hf⟩ := hf
      refine G3_9 dX6_find_100 lfX6_45 ob15 ?_
      refine R_callV (ci := 6) (N := mX6_nextRow) (as := [.int (gI (rI h6 (gF h6 r0 6) (va_cpy (gI h6 (gF h6 r0 4)) (gI h6 (gF h6 r0 6)) (Int32.toNatClampNeg 0) (Int32.toNatClampNeg 0) (gI h6 r0 5).toNatClampNeg)) r1 9)]) (rest := []) (kc2 := 0) (ks2 := 0) dX6_find_103 lmX6_66 oX6_nextRow (Nat.le_of_ble_eq_true rfl) rfl rfl (Nat.le_of_ble_eq_true rfl) rfl rfl ob9 ok6 (Call.mono hf ?_)
      rintro _ h16 ⟨rfl, hf⟩
      refine R_iinc (v := x6 + 1) dX6_find_106 8 rfl rfl (by decide) rfl ?_
      refine R_goto (tgt := 34) dX6_find_109 (by decide) ?_
      exact R_sub [5, 6, 7, 2, 1, 8, 0] rfl hf
    · have hf := hf.2 b8
      refine R_iload dX6_find_61 1 rfl ?_
      refine R_iload_n dX6_find_63 rfl 5 rfl ?_
      refine R_icmp_ne (tgt := 98) dX6_find_64 (by decide) (fun b17 => ?_) (fun b17 => ?_)
      · have hf := hf.1 b17
        refine R_aload_n dX6_find_98 rfl 2 rfl ?_
        refine R_aload_n dX6_find_99 rfl 3 rfl ?_
        obtain ⟨ob18, hf⟩ := hf
        refine G3_9 dX6_find_100 lfX6_45 ob18 ?_
        obtain ⟨ob19, hf⟩ := hf
        refine R_callV (ci := 6) (N := mX6_nextRow) (as := [.int (gI h6 r1 9)]) (rest := []) (kc2 := 0) (ks2 := 0) dX6_find_103 lmX6_66 oX6_nextRow (Nat.le_of_ble_eq_true rfl) rfl rfl (Nat.le_of_ble_eq_true rfl) rfl rfl ob19 ok6 (Call.mono hf ?_)
        rintro _ h20 ⟨rfl, hf⟩
        refine R_iinc (v := x6 + 1) dX6_find_106 8 rfl rfl (by decide) rfl ?_
        refine R_goto (tgt := 34) dX6_find_109 (by decide) ?_
        exact R_sub [3, 4, 5, 6, 7, 8, 0] rfl hf
      · have hf := hf.2 b17
        refine R_iload dX6_find_67 0 rfl ?_
        refine R_iload dX6_find_69 6 rfl ?_
        refine R_icmp_ge (tgt := 98) dX6_find_71 (by decide) (fun b21 => ?_) (fun b21 => ?_)
        · have hf := hf.1 b21
          refine R_aload_n dX6_find_98 rfl 2 rfl ?_
          refine R_aload_n dX6_find_99 rfl 3 rfl ?_
          obtain ⟨ob22, hf⟩ := hf
          refine G3_9 dX6_find_100 lfX6_45 ob22 ?_
          obtain ⟨ob23, hf⟩ := hf
          refine R_callV (ci := 6) (N := mX6_nextRow) (as := [.int (gI h6 r1 9)]) (rest := []) (kc2 := 0) (ks2 := 0) dX6_find_103 lmX6_66 oX6_nextRow (Nat.le_of_ble_eq_true rfl) rfl rfl (Nat.le_of_ble_eq_true rfl) rfl rfl ob23 ok6 (Call.mono hf ?_)
          rintro _ h24 ⟨rfl, hf⟩
          refine R_iinc (v := x6 + 1) dX6_find_106 8 rfl rfl (by decide) rfl ?_
          refine R_goto (tgt := 34) dX6_find_109 (by decide) ?_
          exact R_sub [3, 4, 5, 6, 7, 8, 0] rfl hf
        · have hf := hf.2 b21
          refine R_iload dX6_find_74 1 rfl ?_
          refine R_istore_n dX6_find_76 rfl (by decide) rfl ?_
          refine R_iload dX6_find_77 1 rfl ?_
          refine R_istore dX6_find_79 (by decide) rfl ?_
          refine R_aload_n dX6_find_81 rfl 4 rfl ?_
          obtain ⟨ob25, hf⟩ := hf
          refine G6_4 dX6_find_82 lfX6_11 ob25 ?_
          refine R_iconst (v := 0) dX6_find_85 (by decide) ?_
          refine R_aload_n dX6_find_86 rfl 4 rfl ?_
          refine G6_6 dX6_find_87 lfX6_17 ob25 ?_
          refine R_iconst (v := 0) dX6_find_90 (by decide) ?_
          refine R_aload_n dX6_find_91 rfl 4 rfl ?_
          refine G6_5 dX6_find_92 lfX6_20 ob25 ?_
          obtain ⟨ob26, hf⟩ := hf
          obtain ⟨ob27, hf⟩ := hf
          obtain ⟨ob28, hf⟩ := hf
          obtain ⟨ob29, hf⟩ := hf
          obtain ⟨ob30, hf⟩ := hf
          refine R_copyI dX6_find_95 lmX6_60 w_ac1 w_ac2 w_ac3 (by decide) rfl ob26 ob27 (by decide) (by decide) ob28 ob29 ob30 ?_
          refine R_aload_n dX6_find_98 rfl 4 rfl ?_
          refine R_aload_n dX6_find_99 rfl 5 rfl ?_
          obtain ⟨ob31, hf⟩ := hf
          refine G3_9 dX6_find_100 lfX6_45 ob31 ?_
          refine R_callV (ci := 6) (N := mX6_nextRow) (as := [.int (gI (rI h6 (gF h6 r0 6) (va_cpy (gI h6 (gF h6 r0 4)) (gI h6 (gF h6 r0 6)) (Int32.toNatClampNeg 0) (Int32.toNatClampNeg 0) (gI h6 r0 5).toNatClampNeg)) r1 9)]) (rest := []) (kc2 := 0) (ks2 := 0) dX6_find_103 lmX6_66 oX6_nextRow (Nat.le_of_ble_eq_true rfl) rfl rfl (Nat.le_of_ble_eq_true rfl) rfl rfl ob25 ok6 (Call.mono hf ?_)
          rintro _ h32 ⟨rfl, hf⟩
          refine R_iinc (v := x6 + 1) dX6_find_106 8 rfl rfl (by decide) rfl ?_
          refine R_goto (tgt := 34) dX6_find_109 (by decide) ?_
          exact R_sub [5, 6, 7, 2, 1, 8, 0] rfl hf
theorem dX8_findSetting_0 : decode cX8_findSetting 0 = .ok (.iconst (-1), 1) := by decide +kernel
theorem dX8_findSetting_1 : decode cX8_findSetting 1 = .ok (.istore_n 1, 1) := by decide +kernel
theorem dX8_findSetting_2 : decode cX8_findSetting 2 = .ok (.iconst 0, 1) := by decide +kernel
theorem dX8_findSetting_3 : decode cX8_findSetting 3 = .ok (.istore_n 2, 1) := by decide +kernel
theorem dX8_findSetting_4 : decode cX8_findSetting 4 = .ok (.iload_n 2, 1) := by decide +kernel
theorem dX8_findSetting_5 : decode cX8_findSetting 5 = .ok (.aload_n 0, 1) := by decide +kernel
theorem dX8_findSetting_6 : decode cX8_findSetting 6 = .ok (.getfield 21, 3) := by decide +kernel
theorem dX8_findSetting_9 : decode cX8_findSetting 9 = .ok (.if_icmp .ge 99, 3) := by decide +kernel
theorem dX8_findSetting_12 : decode cX8_findSetting 12 = .ok (.iload_n 2, 1) := by decide +kernel
theorem dX8_findSetting_13 : decode cX8_findSetting 13 = .ok (.iconst 1, 1) := by decide +kernel
theorem dX8_findSetting_14 : decode cX8_findSetting 14 = .ok (.iadd, 1) := by decide +kernel
theorem dX8_findSetting_15 : decode cX8_findSetting 15 = .ok (.istore_n 3, 1) := by decide +kernel
theorem dX8_findSetting_16 : decode cX8_findSetting 16 = .ok (.iload_n 3, 1) := by decide +kernel
theorem dX8_findSetting_17 : decode cX8_findSetting 17 = .ok (.aload_n 0, 1) := by decide +kernel
theorem dX8_findSetting_18 : decode cX8_findSetting 18 = .ok (.getfield 21, 3) := by decide +kernel
theorem dX8_findSetting_21 : decode cX8_findSetting 21 = .ok (.if_icmp .ge 81, 3) := by decide +kernel
theorem dX8_findSetting_24 : decode cX8_findSetting 24 = .ok (.iload_n 3, 1) := by decide +kernel
theorem dX8_findSetting_25 : decode cX8_findSetting 25 = .ok (.iconst 1, 1) := by decide +kernel
theorem dX8_findSetting_26 : decode cX8_findSetting 26 = .ok (.iadd, 1) := by decide +kernel
theorem dX8_findSetting_27 : decode cX8_findSetting 27 = .ok (.istore 4, 2) := by decide +kernel
theorem dX8_findSetting_29 : decode cX8_findSetting 29 = .ok (.iload 4, 2) := by decide +kernel
theorem dX8_findSetting_31 : decode cX8_findSetting 31 = .ok (.aload_n 0, 1) := by decide +kernel
theorem dX8_findSetting_32 : decode cX8_findSetting 32 = .ok (.getfield 21, 3) := by decide +kernel
theorem dX8_findSetting_35 : decode cX8_findSetting 35 = .ok (.if_icmp .ge 61, 3) := by decide +kernel
theorem dX8_findSetting_38 : decode cX8_findSetting 38 = .ok (.iload 4, 2) := by decide +kernel
theorem dX8_findSetting_40 : decode cX8_findSetting 40 = .ok (.iconst 1, 1) := by decide +kernel
theorem dX8_findSetting_41 : decode cX8_findSetting 41 = .ok (.iadd, 1) := by decide +kernel
theorem dX8_findSetting_42 : decode cX8_findSetting 42 = .ok (.istore 5, 2) := by decide +kernel
theorem dX8_findSetting_44 : decode cX8_findSetting 44 = .ok (.iload 5, 2) := by decide +kernel
theorem dX8_findSetting_46 : decode cX8_findSetting 46 = .ok (.aload_n 0, 1) := by decide +kernel
theorem dX8_findSetting_47 : decode cX8_findSetting 47 = .ok (.getfield 21, 3) := by decide +kernel
theorem dX8_findSetting_50 : decode cX8_findSetting 50 = .ok (.if_icmp .ge 40, 3) := by decide +kernel
theorem dX8_findSetting_53 : decode cX8_findSetting 53 = .ok (.aload_n 0, 1) := by decide +kernel
theorem dX8_findSetting_54 : decode cX8_findSetting 54 = .ok (.iload_n 2, 1) := by decide +kernel
theorem dX8_findSetting_55 : decode cX8_findSetting 55 = .ok (.iload_n 3, 1) := by decide +kernel
theorem dX8_findSetting_56 : decode cX8_findSetting 56 = .ok (.iload 4, 2) := by decide +kernel
theorem dX8_findSetting_58 : decode cX8_findSetting 58 = .ok (.iload 5, 2) := by decide +kernel
theorem dX8_findSetting_60 : decode cX8_findSetting 60 = .ok (.invokevirtual 39, 3) := by decide +kernel
theorem dX8_findSetting_63 : decode cX8_findSetting 63 = .ok (.istore 6, 2) := by decide +kernel
theorem dX8_findSetting_65 : decode cX8_findSetting 65 = .ok (.iload 6, 2) := by decide +kernel
theorem dX8_findSetting_67 : decode cX8_findSetting 67 = .ok (.iload_n 1, 1) := by decide +kernel
theorem dX8_findSetting_68 : decode cX8_findSetting 68 = .ok (.if_icmp .le 16, 3) := by decide +kernel
theorem dX8_findSetting_71 : decode cX8_findSetting 71 = .ok (.iload 6, 2) := by decide +kernel
theorem dX8_findSetting_73 : decode cX8_findSetting 73 = .ok (.istore_n 1, 1) := by decide +kernel
theorem dX8_findSetting_74 : decode cX8_findSetting 74 = .ok (.aload_n 0, 1) := by decide +kernel
theorem dX8_findSetting_75 : decode cX8_findSetting 75 = .ok (.iload_n 2, 1) := by decide +kernel
theorem dX8_findSetting_76 : decode cX8_findSetting 76 = .ok (.iload_n 3, 1) := by decide +kernel
theorem dX8_findSetting_77 : decode cX8_findSetting 77 = .ok (.iload 4, 2) := by decide +kernel
theorem dX8_findSetting_79 : decode cX8_findSetting 79 = .ok (.iload 5, 2) := by decide +kernel
theorem dX8_findSetting_81 : decode cX8_findSetting 81 = .ok (.invokevirtual 43, 3) := by decide +kernel
theorem dX8_findSetting_84 : decode cX8_findSetting 84 = .ok (.iinc 5 1, 3) := by decide +kernel
theorem dX8_findSetting_87 : decode cX8_findSetting 87 = .ok (.goto (-43), 3) := by decide +kernel
theorem dX8_findSetting_90 : decode cX8_findSetting 90 = .ok (.iinc 4 1, 3) := by decide +kernel
theorem dX8_findSetting_93 : decode cX8_findSetting 93 = .ok (.goto (-64), 3) := by decide +kernel
theorem dX8_findSetting_96 : decode cX8_findSetting 96 = .ok (.iinc 3 1, 3) := by decide +kernel
theorem dX8_findSetting_99 : decode cX8_findSetting 99 = .ok (.goto (-83), 3) := by decide +kernel
theorem dX8_findSetting_102 : decode cX8_findSetting 102 = .ok (.iinc 2 1, 3) := by decide +kernel
theorem dX8_findSetting_105 : decode cX8_findSetting 105 = .ok (.goto (-101), 3) := by decide +kernel
theorem dX8_findSetting_108 : decode cX8_findSetting 108 = .ok (.iload_n 1, 1) := by decide +kernel
theorem dX8_findSetting_109 : decode cX8_findSetting 109 = .ok (.ireturn, 1) := by decide +kernel
set_option maxRecDepth 20000 in
theorem sX8_findSetting_0 {P : Option Value → AH → Prop} (h : AH) (r0 : Nat) (hf : Rr mX8_findSetting 0 0 4 [(0, .ref r0), (1, .int (-1)), (2, .int 0)] [] h P) : Rr mX8_findSetting 0 0 0 [(0, .ref r0)] [] h P := by
  refine R_iconst (v := (-1)) dX8_findSetting_0 (by decide) ?_
  refine R_istore_n dX8_findSetting_1 rfl (by decide) rfl ?_
  refine R_iconst (v := 0) dX8_findSetting_2 (by decide) ?_
  refine R_istore_n dX8_findSetting_3 rfl (by decide) rfl ?_
  exact R_sub [2, 1, 0] rfl hf
set_option maxRecDepth 20000 in
theorem sX8_findSetting_4 {P : Option Value → AH → Prop} (h : AH) (r0 : Nat) (x1 : Int32) (x2 : Int32) (hf : (isO h 8 r0) ∧ (((gI h r0 0) ≤ x2 → P (some (.int x1)) h) ∧ (¬ (gI h r0 0) ≤ x2 → Rr mX8_findSetting 0 0 16 [(0, .ref r0), (1, .int x1), (2, .int x2), (3, .int (x2 + 1))] [] h P))) : Rr mX8_findSetting 0 0 4 [(0, .ref r0), (1, .int x1), (2, .int x2)] [] h P := by
  refine R_iload_n dX8_findSetting_4 rfl 2 rfl ?_
  refine R_aload_n dX8_findSetting_5 rfl 0 rfl ?_
  obtain ⟨ob1, hf⟩ := hf
  refine G8_0 dX8_findSetting_6 lfX8_21 ob1 ?_
  refine R_icmp_ge (tgt := 108) dX8_findSetting_9 (by decide) (fun b2 => ?_) (fun b2 => ?_)
  · have hf := hf.1 b2
    refine R_iload_n dX8_findSetting_108 rfl 1 rfl ?_
    exact R_iret dX8_findSetting_109 rfl rfl hf
  · have hf := hf.2 b2
    refine R_iload_n dX8_findSetting_12 rfl 2 rfl ?_
    refine R_iconst (v := 1) dX8_findSetting_13 (by decide) ?_
    refine R_iadd dX8_findSetting_14 ?_
    refine R_istore_n dX8_findSetting_15 rfl (by decide) rfl ?_
    exact R_sub [1, 2, 3, 0] rfl hf
set_option maxRecDepth 20000 in
theorem sX8_findSetting_16 {P : Option Value → AH → Prop} (h : AH) (r0 : Nat) (x1 : Int32) (x2 : Int32) (x3 : Int32) (hf : (isO h 8 r0) ∧ (((gI h r0 0) ≤ x3 → Rr mX8_findSetting 0 0 4 [(0, .ref r0), (1, .int x1), (2, .int (x2 + 1))] [] h P) ∧ (¬ (gI h r0 0) ≤ x3 → Rr mX8_findSetting 0 0 29 [(0, .ref r0), (1, .int x1), (2, .int x2), (3, .int x3), (4, .int (x3 + 1))] [] h P))) : Rr mX8_findSetting 0 0 16 [(0, .ref r0), (1, .int x1), (2, .int x2), (3, .int x3)] [] h P := by
  refine R_iload_n dX8_findSetting_16 rfl 3 rfl ?_
  refine R_aload_n dX8_findSetting_17 rfl 0 rfl ?_
  obtain ⟨ob1, hf⟩ := hf
  refine G8_0 dX8_findSetting_18 lfX8_21 ob1 ?_
  refine R_icmp_ge (tgt := 102) dX8_findSetting_21 (by decide) (fun b2 => ?_) (fun b2 => ?_)
  · have hf := hf.1 b2
    refine R_iinc (v := x2 + 1) dX8_findSetting_102 2 rfl rfl (by decide) rfl ?_
    refine R_goto (tgt := 4) dX8_findSetting_105 (by decide) ?_
    exact R_sub [1, 2, 0] rfl hf
  · have hf := hf.2 b2
    refine R_iload_n dX8_findSetting_24 rfl 3 rfl ?_
    refine R_iconst (v := 1) dX8_findSetting_25 (by decide) ?_
    refine R_iadd dX8_findSetting_26 ?_
    refine R_istore dX8_findSetting_27 (by decide) rfl ?_
    exact R_sub [1, 2, 3, 4, 0] rfl hf
set_option maxRecDepth 20000 in
theorem sX8_findSetting_29 {P : Option Value → AH → Prop} (h : AH) (r0 : Nat) (x1 : Int32) (x2 : Int32) (x3 : Int32) (x4 : Int32) (hf : (isO h 8 r0) ∧ (((gI h r0 0) ≤ x4 → Rr mX8_findSetting 0 0 16 [(0, .ref r0), (1, .int x1), (2, .int x2), (3, .int (x3 + 1))] [] h P) ∧ (¬ (gI h r0 0) ≤ x4 → Rr mX8_findSetting 0 0 44 [(0, .ref r0), (1, .int x1), (2, .int x2), (3, .int x3), (4, .int x4), (5, .int (x4 + 1))] [] h P))) : Rr mX8_findSetting 0 0 29 [(0, .ref r0), (1, .int x1), (2, .int x2), (3, .int x3), (4, .int x4)] [] h P := by
  refine R_iload dX8_findSetting_29 4 rfl ?_
  refine R_aload_n dX8_findSetting_31 rfl 0 rfl ?_
  obtain ⟨ob1, hf⟩ := hf
  refine G8_0 dX8_findSetting_32 lfX8_21 ob1 ?_
  refine R_icmp_ge (tgt := 96) dX8_findSetting_35 (by decide) (fun b2 => ?_) (fun b2 => ?_)
  · have hf := hf.1 b2
    refine R_iinc (v := x3 + 1) dX8_findSetting_96 3 rfl rfl (by decide) rfl ?_
    refine R_goto (tgt := 16) dX8_findSetting_99 (by decide) ?_
    exact R_sub [1, 2, 3, 0] rfl hf
  · have hf := hf.2 b2
    refine R_iload dX8_findSetting_38 4 rfl ?_
    refine R_iconst (v := 1) dX8_findSetting_40 (by decide) ?_
    refine R_iadd dX8_findSetting_41 ?_
    refine R_istore dX8_findSetting_42 (by decide) rfl ?_
    exact R_sub [1, 2, 3, 4, 5, 0] rfl hf
set_option maxRecDepth 20000 in
theorem sX8_findSetting_44 {P : Option Value → AH → Prop} (h : AH) (r0 : Nat) (x1 : Int32) (x2 : Int32) (x3 : Int32) (x4 : Int32) (x5 : Int32) (hf : (isO h 8 r0) ∧ (((gI h r0 0) ≤ x5 → Rr mX8_findSetting 0 0 29 [(0, .ref r0), (1, .int x1), (2, .int x2), (3, .int x3), (4, .int (x4 + 1))] [] h P) ∧ (¬ (gI h r0 0) ≤ x5 → Call mX8_leastBeat [.ref r0, .int x2, .int x3, .int x4, .int x5] h (fun v h3 => ∃ z4 : Int32, v = some (.int z4) ∧ ((z4 ≤ x1 → Rr mX8_findSetting 0 0 44 [(0, .ref r0), (1, .int x1), (2, .int x2), (3, .int x3), (4, .int x4), (5, .int (x5 + 1))] [] h3 P) ∧ (¬ z4 ≤ x1 → (isO h3 8 r0) ∧ (Call mX8_set [.ref r0, .int x2, .int x3, .int x4, .int x5] h3 (fun v h7 => v = none ∧ (Rr mX8_findSetting 0 0 44 [(0, .ref r0), (1, .int z4), (2, .int x2), (3, .int x3), (4, .int x4), (5, .int (x5 + 1))] [] h7 P))))))))) : Rr mX8_findSetting 0 0 44 [(0, .ref r0), (1, .int x1), (2, .int x2), (3, .int x3), (4, .int x4), (5, .int x5)] [] h P := by
  refine R_iload dX8_findSetting_44 5 rfl ?_
  refine R_aload_n dX8_findSetting_46 rfl 0 rfl ?_
  obtain ⟨ob1, hf⟩ := hf
  refine G8_0 dX8_findSetting_47 lfX8_21 ob1 ?_
  refine R_icmp_ge (tgt := 90) dX8_findSetting_50 (by decide) (fun b2 => ?_) (fun b2 => ?_)
  · have hf := hf.1 b2
    refine R_iinc (v := x4 + 1) dX8_findSetting_90 4 rfl rfl (by decide) rfl ?_
    refine R_goto (tgt := 29) dX8_findSetting_93 (by decide) ?_
    exact R_sub [1, 2, 3, 4, 0] rfl hf
  · have hf := hf.2 b2
    refine R_aload_n dX8_findSetting_53 rfl 0 rfl ?_
    refine R_iload_n dX8_findSetting_54 rfl 2 rfl ?_
    refine R_iload_n dX8_findSetting_55 rfl 3 rfl ?_
    refine R_iload dX8_findSetting_56 4 rfl ?_
    refine R_iload dX8_findSetting_58 5 rfl ?_
    refine R_callV (ci := 8) (N := mX8_leastBeat) (as := [.int x2, .int x3, .int x4, .int x5]) (rest := []) (kc2 := 0) (ks2 := 0) dX8_findSetting_60 lmX8_39 oX8_leastBeat (Nat.le_of_ble_eq_true rfl) rfl rfl (Nat.le_of_ble_eq_true rfl) rfl rfl ob1 ok8 (Call.mono hf ?_)
    rintro _ h3 ⟨z4, rfl, hf⟩
    refine R_istore dX8_findSetting_63 (by decide) rfl ?_
    refine R_iload dX8_findSetting_65 0 rfl ?_
    refine R_iload_n dX8_findSetting_67 rfl 2 rfl ?_
    refine R_icmp_le (tgt := 84) dX8_findSetting_68 (by decide) (fun b5 => ?_) (fun b5 => ?_)
    · have hf := hf.1 b5
      refine R_iinc (v := x5 + 1) dX8_findSetting_84 6 rfl rfl (by decide) rfl ?_
      refine R_goto (tgt := 44) dX8_findSetting_87 (by decide) ?_
      exact R_sub [2, 3, 4, 5, 6, 0] rfl hf
    · have hf := hf.2 b5
      refine R_iload dX8_findSetting_71 0 rfl ?_
      refine R_istore_n dX8_findSetting_73 rfl (by decide) rfl ?_
      refine R_aload_n dX8_findSetting_74 rfl 2 rfl ?_
      refine R_iload_n dX8_findSetting_75 rfl 3 rfl ?_
      refine R_iload_n dX8_findSetting_76 rfl 4 rfl ?_
      refine R_iload dX8_findSetting_77 5 rfl ?_
      refine R_iload dX8_findSetting_79 6 rfl ?_
      obtain ⟨ob6, hf⟩ := hf
      refine R_callV (ci := 8) (N := mX8_set) (as := [.int x2, .int x3, .int x4, .int x5]) (rest := []) (kc2 := 0) (ks2 := 0) dX8_findSetting_81 lmX8_43 oX8_set (Nat.le_of_ble_eq_true rfl) rfl rfl (Nat.le_of_ble_eq_true rfl) rfl rfl ob6 ok8 (Call.mono hf ?_)
      rintro _ h7 ⟨rfl, hf⟩
      refine R_iinc (v := x5 + 1) dX8_findSetting_84 6 rfl rfl (by decide) rfl ?_
      refine R_goto (tgt := 44) dX8_findSetting_87 (by decide) ?_
      exact R_sub [3, 1, 4, 5, 6, 0] rfl hf
theorem dX9_takeRow_0 : decode cX9_takeRow 0 = .ok (.iconst 0, 1) := by decide +kernel
theorem dX9_takeRow_1 : decode cX9_takeRow 1 = .ok (.istore 4, 2) := by decide +kernel
theorem dX9_takeRow_3 : decode cX9_takeRow 3 = .ok (.iconst 1, 1) := by decide +kernel
theorem dX9_takeRow_4 : decode cX9_takeRow 4 = .ok (.istore 5, 2) := by decide +kernel
theorem dX9_takeRow_6 : decode cX9_takeRow 6 = .ok (.aload_n 0, 1) := by decide +kernel
theorem dX9_takeRow_7 : decode cX9_takeRow 7 = .ok (.invokevirtual 64, 3) := by decide +kernel
theorem dX9_takeRow_10 : decode cX9_takeRow 10 = .ok (.aload_n 0, 1) := by decide +kernel
theorem dX9_takeRow_11 : decode cX9_takeRow 11 = .ok (.invokevirtual 67, 3) := by decide +kernel
theorem dX9_takeRow_14 : decode cX9_takeRow 14 = .ok (.iload 5, 2) := by decide +kernel
theorem dX9_takeRow_16 : decode cX9_takeRow 16 = .ok (.ifCond .eq 99, 3) := by decide +kernel
theorem dX9_takeRow_19 : decode cX9_takeRow 19 = .ok (.iload 4, 2) := by decide +kernel
theorem dX9_takeRow_21 : decode cX9_takeRow 21 = .ok (.aload_n 1, 1) := by decide +kernel
theorem dX9_takeRow_22 : decode cX9_takeRow 22 = .ok (.arraylength, 1) := by decide +kernel
theorem dX9_takeRow_23 : decode cX9_takeRow 23 = .ok (.if_icmp .ge 92, 3) := by decide +kernel
theorem dX9_takeRow_26 : decode cX9_takeRow 26 = .ok (.aload_n 0, 1) := by decide +kernel
theorem dX9_takeRow_27 : decode cX9_takeRow 27 = .ok (.getfield 32, 3) := by decide +kernel
theorem dX9_takeRow_30 : decode cX9_takeRow 30 = .ok (.ifCond .eq 85, 3) := by decide +kernel
theorem dX9_takeRow_33 : decode cX9_takeRow 33 = .ok (.iload_n 3, 1) := by decide +kernel
theorem dX9_takeRow_34 : decode cX9_takeRow 34 = .ok (.ifCond .eq 15, 3) := by decide +kernel
theorem dX9_takeRow_37 : decode cX9_takeRow 37 = .ok (.aload_n 0, 1) := by decide +kernel
theorem dX9_takeRow_38 : decode cX9_takeRow 38 = .ok (.getfield 32, 3) := by decide +kernel
theorem dX9_takeRow_41 : decode cX9_takeRow 41 = .ok (.iconst 4, 1) := by decide +kernel
theorem dX9_takeRow_42 : decode cX9_takeRow 42 = .ok (.if_icmp .ne 7, 3) := by decide +kernel
theorem dX9_takeRow_45 : decode cX9_takeRow 45 = .ok (.iconst 1, 1) := by decide +kernel
theorem dX9_takeRow_46 : decode cX9_takeRow 46 = .ok (.goto 4, 3) := by decide +kernel
theorem dX9_takeRow_49 : decode cX9_takeRow 49 = .ok (.iconst 0, 1) := by decide +kernel
theorem dX9_takeRow_50 : decode cX9_takeRow 50 = .ok (.istore 6, 2) := by decide +kernel
theorem dX9_takeRow_52 : decode cX9_takeRow 52 = .ok (.iload 6, 2) := by decide +kernel
theorem dX9_takeRow_54 : decode cX9_takeRow 54 = .ok (.ifCond .eq 7, 3) := by decide +kernel
theorem dX9_takeRow_57 : decode cX9_takeRow 57 = .ok (.aload_n 0, 1) := by decide +kernel
theorem dX9_takeRow_58 : decode cX9_takeRow 58 = .ok (.invokevirtual 67, 3) := by decide +kernel
theorem dX9_takeRow_61 : decode cX9_takeRow 61 = .ok (.aload_n 0, 1) := by decide +kernel
theorem dX9_takeRow_62 : decode cX9_takeRow 62 = .ok (.getfield 32, 3) := by decide +kernel
theorem dX9_takeRow_65 : decode cX9_takeRow 65 = .ok (.iconst 2, 1) := by decide +kernel
theorem dX9_takeRow_66 : decode cX9_takeRow 66 = .ok (.if_icmp .ne 15, 3) := by decide +kernel
theorem dX9_takeRow_69 : decode cX9_takeRow 69 = .ok (.aload_n 0, 1) := by decide +kernel
theorem dX9_takeRow_70 : decode cX9_takeRow 70 = .ok (.getfield 29, 3) := by decide +kernel
theorem dX9_takeRow_73 : decode cX9_takeRow 73 = .ok (.iload_n 2, 1) := by decide +kernel
theorem dX9_takeRow_74 : decode cX9_takeRow 74 = .ok (.if_icmp .gt 7, 3) := by decide +kernel
theorem dX9_takeRow_77 : decode cX9_takeRow 77 = .ok (.iconst 1, 1) := by decide +kernel
theorem dX9_takeRow_78 : decode cX9_takeRow 78 = .ok (.goto 4, 3) := by decide +kernel
theorem dX9_takeRow_81 : decode cX9_takeRow 81 = .ok (.iconst 0, 1) := by decide +kernel
theorem dX9_takeRow_82 : decode cX9_takeRow 82 = .ok (.istore 5, 2) := by decide +kernel
theorem dX9_takeRow_84 : decode cX9_takeRow 84 = .ok (.aload_n 1, 1) := by decide +kernel
theorem dX9_takeRow_85 : decode cX9_takeRow 85 = .ok (.iload 4, 2) := by decide +kernel
theorem dX9_takeRow_87 : decode cX9_takeRow 87 = .ok (.iload 6, 2) := by decide +kernel
theorem dX9_takeRow_89 : decode cX9_takeRow 89 = .ok (.ifCond .eq 11, 3) := by decide +kernel
theorem dX9_takeRow_92 : decode cX9_takeRow 92 = .ok (.aload_n 0, 1) := by decide +kernel
theorem dX9_takeRow_93 : decode cX9_takeRow 93 = .ok (.getfield 29, 3) := by decide +kernel
theorem dX9_takeRow_96 : decode cX9_takeRow 96 = .ok (.ineg, 1) := by decide +kernel
theorem dX9_takeRow_97 : decode cX9_takeRow 97 = .ok (.goto 7, 3) := by decide +kernel
theorem dX9_takeRow_100 : decode cX9_takeRow 100 = .ok (.aload_n 0, 1) := by decide +kernel
theorem dX9_takeRow_101 : decode cX9_takeRow 101 = .ok (.getfield 29, 3) := by decide +kernel
theorem dX9_takeRow_104 : decode cX9_takeRow 104 = .ok (.iastore, 1) := by decide +kernel
theorem dX9_takeRow_105 : decode cX9_takeRow 105 = .ok (.iinc 4 1, 3) := by decide +kernel
theorem dX9_takeRow_108 : decode cX9_takeRow 108 = .ok (.aload_n 0, 1) := by decide +kernel
theorem dX9_takeRow_109 : decode cX9_takeRow 109 = .ok (.invokevirtual 67, 3) := by decide +kernel
theorem dX9_takeRow_112 : decode cX9_takeRow 112 = .ok (.goto (-98), 3) := by decide +kernel
theorem dX9_takeRow_115 : decode cX9_takeRow 115 = .ok (.iload 5, 2) := by decide +kernel
theorem dX9_takeRow_117 : decode cX9_takeRow 117 = .ok (.ifCond .eq 14, 3) := by decide +kernel
theorem dX9_takeRow_120 : decode cX9_takeRow 120 = .ok (.aload_n 0, 1) := by decide +kernel
theorem dX9_takeRow_121 : decode cX9_takeRow 121 = .ok (.getfield 32, 3) := by decide +kernel
theorem dX9_takeRow_124 : decode cX9_takeRow 124 = .ok (.ifCond .ne 7, 3) := by decide +kernel
theorem dX9_takeRow_127 : decode cX9_takeRow 127 = .ok (.iconst 1, 1) := by decide +kernel
theorem dX9_takeRow_128 : decode cX9_takeRow 128 = .ok (.goto 4, 3) := by decide +kernel
theorem dX9_takeRow_131 : decode cX9_takeRow 131 = .ok (.iconst 0, 1) := by decide +kernel
theorem dX9_takeRow_132 : decode cX9_takeRow 132 = .ok (.istore 5, 2) := by decide +kernel
theorem dX9_takeRow_134 : decode cX9_takeRow 134 = .ok (.aload_n 0, 1) := by decide +kernel
theorem dX9_takeRow_135 : decode cX9_takeRow 135 = .ok (.iconst 0, 1) := by decide +kernel
theorem dX9_takeRow_136 : decode cX9_takeRow 136 = .ok (.putfield 15, 3) := by decide +kernel
theorem dX9_takeRow_139 : decode cX9_takeRow 139 = .ok (.iload 5, 2) := by decide +kernel
theorem dX9_takeRow_141 : decode cX9_takeRow 141 = .ok (.ifCond .eq 8, 3) := by decide +kernel
theorem dX9_takeRow_144 : decode cX9_takeRow 144 = .ok (.iload 4, 2) := by decide +kernel
theorem dX9_takeRow_146 : decode cX9_takeRow 146 = .ok (.goto 4, 3) := by decide +kernel
theorem dX9_takeRow_149 : decode cX9_takeRow 149 = .ok (.iconst (-1), 1) := by decide +kernel
theorem dX9_takeRow_150 : decode cX9_takeRow 150 = .ok (.ireturn, 1) := by decide +kernel
set_option maxRecDepth 20000 in
theorem sX9_takeRow_0 {P : Option Value → AH → Prop} (h : AH) (r0 : Nat) (r1 : Nat) (x2 : Int32) (x3 : Int32) (hf : (isO h 9 r0) ∧ (Call mX9_next [.ref r0] (sI h r0 1 0) (fun v h2 => v = none ∧ (Rr mX9_takeRow 0 0 14 [(0, .ref r0), (1, .ref r1), (2, .int x2), (3, .int x3), (4, .int 0), (5, .int 1)] [] h2 P)))) : Rr mX9_takeRow 0 0 0 [(0, .ref r0), (1, .ref r1), (2, .int x2), (3, .int x3)] [] h P := by
  refine R_iconst (v := 0) dX9_takeRow_0 (by decide) ?_
  refine R_istore dX9_takeRow_1 (by decide) rfl ?_
  refine R_iconst (v := 1) dX9_takeRow_3 (by decide) ?_
  refine R_istore dX9_takeRow_4 (by decide) rfl ?_
  refine R_aload_n dX9_takeRow_6 rfl 2 rfl ?_
  obtain ⟨ob1, hf⟩ := hf
  refine R_callV (ci := 9) (N := mX9_rewind) (as := []) (rest := []) (kc2 := 0) (ks2 := 0) dX9_takeRow_7 lmX9_64 oX9_rewind (Nat.le_of_ble_eq_true rfl) rfl rfl (Nat.le_of_ble_eq_true rfl) rfl rfl ob1 ok9 (aX9_rewind ob1 ?_)
  refine R_aload_n dX9_takeRow_10 rfl 2 rfl ?_
  refine R_callV (ci := 9) (N := mX9_next) (as := []) (rest := []) (kc2 := 0) (ks2 := 0) dX9_takeRow_11 lmX9_67 oX9_next (Nat.le_of_ble_eq_true rfl) rfl rfl (Nat.le_of_ble_eq_true rfl) rfl rfl ob1 ok9 (Call.mono hf ?_)
  rintro _ h2 ⟨rfl, hf⟩
  exact R_sub [2, 3, 4, 5, 1, 0] rfl hf
set_option maxRecDepth 20000 in
theorem sX9_takeRow_14 {P : Option Value → AH → Prop} (h : AH) (r0 : Nat) (r1 : Nat) (x2 : Int32) (x3 : Int32) (x4 : Int32) (x5 : Int32) (hf : (x5 = 0 → (isO h 9 r0) ∧ (∀ z6 : Int32, z6 = (if (¬ x5 = 0 ∧ (gI h r0 3) = 0) then x4 else (-1)) → (P (some (.int z6)) (sI h r0 2 0)))) ∧ (¬ x5 = 0 → (isA h 0 r1) ∧ (((Int32.ofNat (ln r1)) ≤ x4 → (isO h 9 r0) ∧ (∀ z13 : Int32, z13 = (if (¬ x5 = 0 ∧ (gI h r0 3) = 0) then x4 else (-1)) → (P (some (.int z13)) (sI h r0 2 0)))) ∧ (¬ (Int32.ofNat (ln r1)) ≤ x4 → (isO h 9 r0) ∧ (((gI h r0 3) = 0 → ∀ z19 : Int32, z19 = (if (¬ x5 = 0 ∧ (gI h r0 3) = 0) then x4 else (-1)) → (P (some (.int z19)) (sI h r0 2 0))) ∧ (¬ (gI h r0 3) = 0 → (¬ (¬ x3 = 0 ∧ (gI h r0 3) = 4) → ∀ z26 : Int32, z26 = (if (¬ x3 = 0 ∧ (gI h r0 3) = 4) then (-(gI h r0 5)) else (gI h r0 5)) → ((vp_in x4 (ln r1)) ∧ (Call mX9_next [.ref r0] (sI h r1 x4.toNatClampNeg z26) (fun v h28 => v = none ∧ (Rr mX9_takeRow 0 0 14 [(0, .ref r0), (1, .ref r1), (2, .int x2), (3, .int x3), (4, .int (x4 + 1)), (5, .int (bi ((gI h r0 3) = 2 ∧ ¬ x2 < (gI h r0 5))))] [] h28 P))))) ∧ ((¬ x3 = 0 ∧ (gI h r0 3) = 4) → Call mX9_next [.ref r0] h (fun v h29 => v = none ∧ ((isO h29 9 r0) ∧ (∀ z34 : Int32, z34 = (if (¬ x3 = 0 ∧ (gI h r0 3) = 4) then (-(gI h29 r0 5)) else (gI h29 r0 5)) → ((isA h29 0 r1) ∧ ((vp_in x4 (ln r1)) ∧ (Call mX9_next [.ref r0] (sI h29 r1 x4.toNatClampNeg z34) (fun v h37 => v = none ∧ (Rr mX9_takeRow 0 0 14 [(0, .ref r0), (1, .ref r1), (2, .int x2), (3, .int x3), (4, .int (x4 + 1)), (5, .int (bi ((gI h29 r0 3) = 2 ∧ ¬ x2 < (gI h29 r0 5))))] [] h37 P))))))))))))))) : Rr mX9_takeRow 0 0 14 [(0, .ref r0), (1, .ref r1), (2, .int x2), (3, .int x3), (4, .int x4), (5, .int x5)] [] h P := by
  refine R_iload dX9_takeRow_14 5 rfl ?_
  refine R_if_eq (tgt := 115) dX9_takeRow_16 (by decide) (fun b1 => ?_) (fun b1 => ?_)
  · have hf := hf.1 b1
    refine R_iload dX9_takeRow_115 5 rfl ?_
    obtain ⟨ob3, hf⟩ := hf
    have key :  Rr mX9_takeRow 0 0 132 [(0, .ref r0), (4, .int x4)] [.int (bi (¬ x5 = 0 ∧ (gI h r0 3) = 0))] h P := by
      refine R_istore dX9_takeRow_132 (by decide) rfl ?_
      refine R_aload_n dX9_takeRow_134 rfl 1 rfl ?_
      refine R_iconst (v := 0) dX9_takeRow_135 (by decide) ?_
      refine S9_2 dX9_takeRow_136 lfX9_15 ob3 ?_
      refine R_iload dX9_takeRow_139 0 rfl ?_
      have key : ∀ z6 : Int32, z6 = (if (¬ x5 = 0 ∧ (gI h r0 3) = 0) then x4 else (-1)) → Rr mX9_takeRow 0 0 150 [] [.int z6] (sI h r0 2 0) P := by
        intro z6 ez6
        have hf := hf z6 ez6
        exact R_iret dX9_takeRow_150 rfl rfl hf
      refine R_if_eq_b (tgt := 149) dX9_takeRow_141 (by decide) (fun b5 => ?_) (fun b5 => ?_)
      · refine R_iconst (v := (-1)) dX9_takeRow_149 (by decide) ?_
        exact R_sub [] rfl (key _ (by rw [if_neg b5]))
      · refine R_iload dX9_takeRow_144 2 rfl ?_
        refine R_goto (tgt := 150) dX9_takeRow_146 (by decide) ?_
        exact R_sub [] rfl (key _ (by rw [if_pos b5]))
    refine R_if_eq (tgt := 131) dX9_takeRow_117 (by decide) (fun b2 => ?_) (fun b2 => ?_)
    · refine R_iconst (v := 0) dX9_takeRow_131 (by decide) ?_
      have kb := key
      rw [show bi (¬ x5 = 0 ∧ (gI h r0 3) = 0) = 0 from by simp only [bi, b2, false_and, and_false, true_and, and_true, not_true_eq_false, not_false_eq_true, if_true, if_false, true_or, or_true, false_or, or_false, reduceIte]] at kb
      exact R_sub [0, 4] rfl kb
    · refine R_aload_n dX9_takeRow_120 rfl 0 rfl ?_
      refine G9_3 dX9_takeRow_121 lfX9_32 ob3 ?_
      refine R_if_ne (tgt := 131) dX9_takeRow_124 (by decide) (fun b4 => ?_) (fun b4 => ?_)
      · refine R_iconst (v := 0) dX9_takeRow_131 (by decide) ?_
        have kb := key
        rw [show bi (¬ x5 = 0 ∧ (gI h r0 3) = 0) = 0 from by simp only [bi, b2, b4, false_and, and_false, true_and, and_true, not_true_eq_false, not_false_eq_true, if_true, if_false, true_or, or_true, false_or, or_false, reduceIte]] at kb
        exact R_sub [0, 4] rfl kb
      · refine R_iconst (v := 1) dX9_takeRow_127 (by decide) ?_
        refine R_goto (tgt := 132) dX9_takeRow_128 (by decide) ?_
        have kb := key
        rw [show bi (¬ x5 = 0 ∧ (gI h r0 3) = 0) = 1 from by simp only [bi, b2, b4, false_and, and_false, true_and, and_true, not_true_eq_false, not_false_eq_true, if_true, if_false, true_or, or_true, false_or, or_false, reduceIte]] at kb
        exact R_sub [0, 4] rfl kb
  · have hf := hf.2 b1
    refine R_iload dX9_takeRow_19 4 rfl ?_
    refine R_aload_n dX9_takeRow_21 rfl 1 rfl ?_
    obtain ⟨ob7, hf⟩ := hf
    refine R_alen (v := Int32.ofNat (ln r1)) (by decide) dX9_takeRow_22 ob7 rfl ?_
    refine R_icmp_ge (tgt := 115) dX9_takeRow_23 (by decide) (fun b8 => ?_) (fun b8 => ?_)
    · have hf := hf.1 b8
      refine R_iload dX9_takeRow_115 5 rfl ?_
      obtain ⟨ob10, hf⟩ := hf
      have key :  Rr mX9_takeRow 0 0 132 [(0, .ref r0), (4, .int x4)] [.int (bi (¬ x5 = 0 ∧ (gI h r0 3) = 0))] h P := by
        refine R_istore dX9_takeRow_132 (by decide) rfl ?_
        refine R_aload_n dX9_takeRow_134 rfl 1 rfl ?_
        refine R_iconst (v := 0) dX9_takeRow_135 (by decide) ?_
        refine S9_2 dX9_takeRow_136 lfX9_15 ob10 ?_
        refine R_iload dX9_takeRow_139 0 rfl ?_
        have key : ∀ z13 : Int32, z13 = (if (¬ x5 = 0 ∧ (gI h r0 3) = 0) then x4 else (-1)) → Rr mX9_takeRow 0 0 150 [] [.int z13] (sI h r0 2 0) P := by
          intro z13 ez13
          have hf := hf z13 ez13
          exact R_iret dX9_takeRow_150 rfl rfl hf
        refine R_if_eq_b (tgt := 149) dX9_takeRow_141 (by decide) (fun b12 => ?_) (fun b12 => ?_)
        · refine R_iconst (v := (-1)) dX9_takeRow_149 (by decide) ?_
          exact R_sub [] rfl (key _ (by rw [if_neg b12]))
        · refine R_iload dX9_takeRow_144 2 rfl ?_
          refine R_goto (tgt := 150) dX9_takeRow_146 (by decide) ?_
          exact R_sub [] rfl (key _ (by rw [if_pos b12]))
      refine R_if_eq (tgt := 131) dX9_takeRow_117 (by decide) (fun b9 => ?_) (fun b9 => ?_)
      · refine R_iconst (v := 0) dX9_takeRow_131 (by decide) ?_
        have kb := key
        rw [show bi (¬ x5 = 0 ∧ (gI h r0 3) = 0) = 0 from by simp only [bi, b9, false_and, and_false, true_and, and_true, not_true_eq_false, not_false_eq_true, if_true, if_false, true_or, or_true, false_or, or_false, reduceIte]] at kb
        exact R_sub [0, 4] rfl kb
      · refine R_aload_n dX9_takeRow_120 rfl 0 rfl ?_
        refine G9_3 dX9_takeRow_121 lfX9_32 ob10 ?_
        refine R_if_ne (tgt := 131) dX9_takeRow_124 (by decide) (fun b11 => ?_) (fun b11 => ?_)
        · refine R_iconst (v := 0) dX9_takeRow_131 (by decide) ?_
          have kb := key
          rw [show bi (¬ x5 = 0 ∧ (gI h r0 3) = 0) = 0 from by simp only [bi, b9, b11, false_and, and_false, true_and, and_true, not_true_eq_false, not_false_eq_true, if_true, if_false, true_or, or_true, false_or, or_false, reduceIte]] at kb
          exact R_sub [0, 4] rfl kb
        · refine R_iconst (v := 1) dX9_takeRow_127 (by decide) ?_
          refine R_goto (tgt := 132) dX9_takeRow_128 (by decide) ?_
          have kb := key
          rw [show bi (¬ x5 = 0 ∧ (gI h r0 3) = 0) = 1 from by simp only [bi, b9, b11, false_and, and_false, true_and, and_true, not_true_eq_false, not_false_eq_true, if_true, if_false, true_or, or_true, false_or, or_false, reduceIte]] at kb
          exact R_sub [0, 4] rfl kb
    · have hf := hf.2 b8
      refine R_aload_n dX9_takeRow_26 rfl 0 rfl ?_
      obtain ⟨ob14, hf⟩ := hf
      refine G9_3 dX9_takeRow_27 lfX9_32 ob14 ?_
      refine R_if_eq (tgt := 115) dX9_takeRow_30 (by decide) (fun b15 => ?_) (fun b15 => ?_)
      · have hf := hf.1 b15
        refine R_iload dX9_takeRow_115 5 rfl ?_
        have key :  Rr mX9_takeRow 0 0 132 [(0, .ref r0), (4, .int x4)] [.int (bi (¬ x5 = 0 ∧ (gI h r0 3) = 0))] h P := by
          refine R_istore dX9_takeRow_132 (by decide) rfl ?_
          refine R_aload_n dX9_takeRow_134 rfl 1 rfl ?_
          refine R_iconst (v := 0) dX9_takeRow_135 (by decide) ?_
          refine S9_2 dX9_takeRow_136 lfX9_15 ob14 ?_
          refine R_iload dX9_takeRow_139 0 rfl ?_
          have key : ∀ z19 : Int32, z19 = (if (¬ x5 = 0 ∧ (gI h r0 3) = 0) then x4 else (-1)) → Rr mX9_takeRow 0 0 150 [] [.int z19] (sI h r0 2 0) P := by
            intro z19 ez19
            have hf := hf z19 ez19
            exact R_iret dX9_takeRow_150 rfl rfl hf
          refine R_if_eq_b (tgt := 149) dX9_takeRow_141 (by decide) (fun b18 => ?_) (fun b18 => ?_)
          · refine R_iconst (v := (-1)) dX9_takeRow_149 (by decide) ?_
            exact R_sub [] rfl (key _ (by rw [if_neg b18]))
          · refine R_iload dX9_takeRow_144 2 rfl ?_
            refine R_goto (tgt := 150) dX9_takeRow_146 (by decide) ?_
            exact R_sub [] rfl (key _ (by rw [if_pos b18]))
        refine R_if_eq (tgt := 131) dX9_takeRow_117 (by decide) (fun b16 => ?_) (fun b16 => ?_)
        · refine R_iconst (v := 0) dX9_takeRow_131 (by decide) ?_
          have kb := key
          rw [show bi (¬ x5 = 0 ∧ (gI h r0 3) = 0) = 0 from by simp only [bi, b16, false_and, and_false, true_and, and_true, not_true_eq_false, not_false_eq_true, if_true, if_false, true_or, or_true, false_or, or_false, reduceIte]] at kb
          exact R_sub [0, 4] rfl kb
        · refine R_aload_n dX9_takeRow_120 rfl 0 rfl ?_
          refine G9_3 dX9_takeRow_121 lfX9_32 ob14 ?_
          refine R_if_ne (tgt := 131) dX9_takeRow_124 (by decide) (fun b17 => ?_) (fun b17 => ?_)
          · refine R_iconst (v := 0) dX9_takeRow_131 (by decide) ?_
            have kb := key
            rw [show bi (¬ x5 = 0 ∧ (gI h r0 3) = 0) = 0 from by simp only [bi, b16, b17, false_and, and_false, true_and, and_true, not_true_eq_false, not_false_eq_true, if_true, if_false, true_or, or_true, false_or, or_false, reduceIte]] at kb
            exact R_sub [0, 4] rfl kb
          · refine R_iconst (v := 1) dX9_takeRow_127 (by decide) ?_
            refine R_goto (tgt := 132) dX9_takeRow_128 (by decide) ?_
            have kb := key
            rw [show bi (¬ x5 = 0 ∧ (gI h r0 3) = 0) = 1 from by simp only [bi, b16, b17, false_and, and_false, true_and, and_true, not_true_eq_false, not_false_eq_true, if_true, if_false, true_or, or_true, false_or, or_false, reduceIte]] at kb
            exact R_sub [0, 4] rfl kb
      · have hf := hf.2 b15
        refine R_iload_n dX9_takeRow_33 rfl 3 rfl ?_
        have key :  Rr mX9_takeRow 0 0 50 [(0, .ref r0), (1, .ref r1), (2, .int x2), (3, .int x3), (4, .int x4)] [.int (bi (¬ x3 = 0 ∧ (gI h r0 3) = 4))] h P := by
          refine R_istore dX9_takeRow_50 (by decide) rfl ?_
          refine R_iload dX9_takeRow_52 0 rfl ?_
          refine R_if_eq_b (tgt := 61) dX9_takeRow_54 (by decide) (fun b22 => ?_) (fun b22 => ?_)
          · have hf := hf.1 b22
            refine R_aload_n dX9_takeRow_61 rfl 1 rfl ?_
            refine G9_3 dX9_takeRow_62 lfX9_32 ob14 ?_
            refine R_iconst (v := 2) dX9_takeRow_65 (by decide) ?_
            have key :  Rr mX9_takeRow 0 0 82 [(0, .ref r0), (1, .ref r1), (2, .int x2), (3, .int x3), (4, .int x4), (6, .int (bi (¬ x3 = 0 ∧ (gI h r0 3) = 4)))] [.int (bi ((gI h r0 3) = 2 ∧ ¬ x2 < (gI h r0 5)))] h P := by
              refine R_istore dX9_takeRow_82 (by decide) rfl ?_
              refine R_aload_n dX9_takeRow_84 rfl 2 rfl ?_
              refine R_iload dX9_takeRow_85 5 rfl ?_
              refine R_iload dX9_takeRow_87 6 rfl ?_
              have key : ∀ z26 : Int32, z26 = (if (¬ x3 = 0 ∧ (gI h r0 3) = 4) then (-(gI h r0 5)) else (gI h r0 5)) → Rr mX9_takeRow 0 0 104 [(0, .ref r0), (1, .ref r1), (2, .int x2), (3, .int x3), (4, .int x4), (5, .int (bi ((gI h r0 3) = 2 ∧ ¬ x2 < (gI h r0 5))))] [.int z26, .int x4, .ref r1] h P := by
                intro z26 ez26
                have hf := hf z26 ez26
                obtain ⟨ob27, hf⟩ := hf
                refine R_iastore dX9_takeRow_104 ob7 ob27 ?_
                refine R_iinc (v := x4 + 1) dX9_takeRow_105 4 rfl rfl (by decide) rfl ?_
                refine R_aload_n dX9_takeRow_108 rfl 1 rfl ?_
                refine R_callV (ci := 9) (N := mX9_next) (as := []) (rest := []) (kc2 := 0) (ks2 := 0) dX9_takeRow_109 lmX9_67 oX9_next (Nat.le_of_ble_eq_true rfl) rfl rfl (Nat.le_of_ble_eq_true rfl) rfl rfl ob14 ok9 (Call.mono hf ?_)
                rintro _ h28 ⟨rfl, hf⟩
                refine R_goto (tgt := 14) dX9_takeRow_112 (by decide) ?_
                exact R_sub [1, 2, 3, 4, 0, 5] rfl hf
              refine R_if_eq_b (tgt := 100) dX9_takeRow_89 (by decide) (fun b25 => ?_) (fun b25 => ?_)
              · refine R_aload_n dX9_takeRow_100 rfl 1 rfl ?_
                refine G9_5 dX9_takeRow_101 lfX9_29 ob14 ?_
                exact R_sub [1, 2, 3, 4, 5, 0] rfl (key _ (by rw [if_neg b25]))
              · refine R_aload_n dX9_takeRow_92 rfl 1 rfl ?_
                refine G9_5 dX9_takeRow_93 lfX9_29 ob14 ?_
                refine R_ineg dX9_takeRow_96 ?_
                refine R_goto (tgt := 104) dX9_takeRow_97 (by decide) ?_
                exact R_sub [1, 2, 3, 4, 5, 0] rfl (key _ (by rw [if_pos b25]))
            refine R_icmp_ne (tgt := 81) dX9_takeRow_66 (by decide) (fun b23 => ?_) (fun b23 => ?_)
            · refine R_iconst (v := 0) dX9_takeRow_81 (by decide) ?_
              have kb := key
              rw [show bi ((gI h r0 3) = 2 ∧ ¬ x2 < (gI h r0 5)) = 0 from by simp only [bi, b23, false_and, and_false, true_and, and_true, not_true_eq_false, not_false_eq_true, if_true, if_false, true_or, or_true, false_or, or_false, reduceIte]] at kb
              exact R_sub [1, 2, 3, 4, 5, 0] rfl kb
            · refine R_aload_n dX9_takeRow_69 rfl 1 rfl ?_
              refine G9_5 dX9_takeRow_70 lfX9_29 ob14 ?_
              refine R_iload_n dX9_takeRow_73 rfl 3 rfl ?_
              refine R_icmp_gt (tgt := 81) dX9_takeRow_74 (by decide) (fun b24 => ?_) (fun b24 => ?_)
              · refine R_iconst (v := 0) dX9_takeRow_81 (by decide) ?_
                have kb := key
                rw [show bi ((gI h r0 3) = 2 ∧ ¬ x2 < (gI h r0 5)) = 0 from by simp only [bi, b23, b24, false_and, and_false, true_and, and_true, not_true_eq_false, not_false_eq_true, if_true, if_false, true_or, or_true, false_or, or_false, reduceIte]] at kb
                exact R_sub [1, 2, 3, 4, 5, 0] rfl kb
              · refine R_iconst (v := 1) dX9_takeRow_77 (by decide) ?_
                refine R_goto (tgt := 82) dX9_takeRow_78 (by decide) ?_
                have kb := key
                rw [show bi ((gI h r0 3) = 2 ∧ ¬ x2 < (gI h r0 5)) = 1 from by simp only [bi, b23, b24, false_and, and_false, true_and, and_true, not_true_eq_false, not_false_eq_true, if_true, if_false, true_or, or_true, false_or, or_false, reduceIte]] at kb
                exact R_sub [1, 2, 3, 4, 5, 0] rfl kb
          · have hf := hf.2 b22
            refine R_aload_n dX9_takeRow_57 rfl 1 rfl ?_
            refine R_callV (ci := 9) (N := mX9_next) (as := []) (rest := []) (kc2 := 0) (ks2 := 0) dX9_takeRow_58 lmX9_67 oX9_next (Nat.le_of_ble_eq_true rfl) rfl rfl (Nat.le_of_ble_eq_true rfl) rfl rfl ob14 ok9 (Call.mono hf ?_)
            rintro _ h29 ⟨rfl, hf⟩
            refine R_aload_n dX9_takeRow_61 rfl 1 rfl ?_
            obtain ⟨ob30, hf⟩ := hf
            refine G9_3 dX9_takeRow_62 lfX9_32 ob30 ?_
            refine R_iconst (v := 2) dX9_takeRow_65 (by decide) ?_
            have key :  Rr mX9_takeRow 0 0 82 [(0, .ref r0), (1, .ref r1), (2, .int x2), (3, .int x3), (4, .int x4), (6, .int (bi (¬ x3 = 0 ∧ (gI h r0 3) = 4)))] [.int (bi ((gI h29 r0 3) = 2 ∧ ¬ x2 < (gI h29 r0 5)))] h29 P := by
              refine R_istore dX9_takeRow_82 (by decide) rfl ?_
              refine R_aload_n dX9_takeRow_84 rfl 2 rfl ?_
              refine R_iload dX9_takeRow_85 5 rfl ?_
              refine R_iload dX9_takeRow_87 6 rfl ?_
              have key : ∀ z34 : Int32, z34 = (if (¬ x3 = 0 ∧ (gI h r0 3) = 4) then (-(gI h29 r0 5)) else (gI h29 r0 5)) → Rr mX9_takeRow 0 0 104 [(0, .ref r0), (1, .ref r1), (2, .int x2), (3, .int x3), (4, .int x4), (5, .int (bi ((gI h29 r0 3) = 2 ∧ ¬ x2 < (gI h29 r0 5))))] [.int z34, .int x4, .ref r1] h29 P := by
                intro z34 ez34
                have hf := hf z34 ez34
                obtain ⟨ob35, hf⟩ := hf
                obtain ⟨ob36, hf⟩ := hf
                refine R_iastore dX9_takeRow_104 ob35 ob36 ?_
                refine R_iinc (v := x4 + 1) dX9_takeRow_105 4 rfl rfl (by decide) rfl ?_
                refine R_aload_n dX9_takeRow_108 rfl 1 rfl ?_
                refine R_callV (ci := 9) (N := mX9_next) (as := []) (rest := []) (kc2 := 0) (ks2 := 0) dX9_takeRow_109 lmX9_67 oX9_next (Nat.le_of_ble_eq_true rfl) rfl rfl (Nat.le_of_ble_eq_true rfl) rfl rfl ob30 ok9 (Call.mono hf ?_)
                rintro _ h37 ⟨rfl, hf⟩
                refine R_goto (tgt := 14) dX9_takeRow_112 (by decide) ?_
                exact R_sub [1, 2, 3, 4, 0, 5] rfl hf
              refine R_if_eq_b (tgt := 100) dX9_takeRow_89 (by decide) (fun b33 => ?_) (fun b33 => ?_)
              · refine R_aload_n dX9_takeRow_100 rfl 1 rfl ?_
                refine G9_5 dX9_takeRow_101 lfX9_29 ob30 ?_
                exact R_sub [1, 2, 3, 4, 5, 0] rfl (key _ (by rw [if_neg b33]))
              · refine R_aload_n dX9_takeRow_92 rfl 1 rfl ?_
                refine G9_5 dX9_takeRow_93 lfX9_29 ob30 ?_
                refine R_ineg dX9_takeRow_96 ?_
                refine R_goto (tgt := 104) dX9_takeRow_97 (by decide) ?_
                exact R_sub [1, 2, 3, 4, 5, 0] rfl (key _ (by rw [if_pos b33]))
            refine R_icmp_ne (tgt := 81) dX9_takeRow_66 (by decide) (fun b31 => ?_) (fun b31 => ?_)
            · refine R_iconst (v := 0) dX9_takeRow_81 (by decide) ?_
              have kb := key
              rw [show bi ((gI h29 r0 3) = 2 ∧ ¬ x2 < (gI h29 r0 5)) = 0 from by simp only [bi, b31, false_and, and_false, true_and, and_true, not_true_eq_false, not_false_eq_true, if_true, if_false, true_or, or_true, false_or, or_false, reduceIte]] at kb
              exact R_sub [1, 2, 3, 4, 5, 0] rfl kb
            · refine R_aload_n dX9_takeRow_69 rfl 1 rfl ?_
              refine G9_5 dX9_takeRow_70 lfX9_29 ob30 ?_
              refine R_iload_n dX9_takeRow_73 rfl 3 rfl ?_
              refine R_icmp_gt (tgt := 81) dX9_takeRow_74 (by decide) (fun b32 => ?_) (fun b32 => ?_)
              · refine R_iconst (v := 0) dX9_takeRow_81 (by decide) ?_
                have kb := key
                rw [show bi ((gI h29 r0 3) = 2 ∧ ¬ x2 < (gI h29 r0 5)) = 0 from by simp only [bi, b31, b32, false_and, and_false, true_and, and_true, not_true_eq_false, not_false_eq_true, if_true, if_false, true_or, or_true, false_or, or_false, reduceIte]] at kb
                exact R_sub [1, 2, 3, 4, 5, 0] rfl kb
              · refine R_iconst (v := 1) dX9_takeRow_77 (by decide) ?_
                refine R_goto (tgt := 82) dX9_takeRow_78 (by decide) ?_
                have kb := key
                rw [show bi ((gI h29 r0 3) = 2 ∧ ¬ x2 < (gI h29 r0 5)) = 1 from by simp only [bi, b31, b32, false_and, and_false, true_and, and_true, not_true_eq_false, not_false_eq_true, if_true, if_false, true_or, or_true, false_or, or_false, reduceIte]] at kb
                exact R_sub [1, 2, 3, 4, 5, 0] rfl kb
        refine R_if_eq (tgt := 49) dX9_takeRow_34 (by decide) (fun b20 => ?_) (fun b20 => ?_)
        · refine R_iconst (v := 0) dX9_takeRow_49 (by decide) ?_
          have kb := key
          rw [show bi (¬ x3 = 0 ∧ (gI h r0 3) = 4) = 0 from by simp only [bi, b20, false_and, and_false, true_and, and_true, not_true_eq_false, not_false_eq_true, if_true, if_false, true_or, or_true, false_or, or_false, reduceIte]] at kb
          exact R_sub [0, 1, 2, 3, 4] rfl kb
        · refine R_aload_n dX9_takeRow_37 rfl 0 rfl ?_
          refine G9_3 dX9_takeRow_38 lfX9_32 ob14 ?_
          refine R_iconst (v := 4) dX9_takeRow_41 (by decide) ?_
          refine R_icmp_ne (tgt := 49) dX9_takeRow_42 (by decide) (fun b21 => ?_) (fun b21 => ?_)
          · refine R_iconst (v := 0) dX9_takeRow_49 (by decide) ?_
            have kb := key
            rw [show bi (¬ x3 = 0 ∧ (gI h r0 3) = 4) = 0 from by simp only [bi, b20, b21, false_and, and_false, true_and, and_true, not_true_eq_false, not_false_eq_true, if_true, if_false, true_or, or_true, false_or, or_false, reduceIte]] at kb
            exact R_sub [0, 1, 2, 3, 4] rfl kb
          · refine R_iconst (v := 1) dX9_takeRow_45 (by decide) ?_
            refine R_goto (tgt := 50) dX9_takeRow_46 (by decide) ?_
            have kb := key
            rw [show bi (¬ x3 = 0 ∧ (gI h r0 3) = 4) = 1 from by simp only [bi, b20, b21, false_and, and_false, true_and, and_true, not_true_eq_false, not_false_eq_true, if_true, if_false, true_or, or_true, false_or, or_false, reduceIte]] at kb
            exact R_sub [0, 1, 2, 3, 4] rfl kb
theorem dX10_find_0 : decode cX10_find 0 = .ok (.aload_n 0, 1) := by decide +kernel
theorem dX10_find_1 : decode cX10_find 1 = .ok (.iload_n 1, 1) := by decide +kernel
theorem dX10_find_2 : decode cX10_find 2 = .ok (.bipush 20, 2) := by decide +kernel
theorem dX10_find_4 : decode cX10_find 4 = .ok (.invokestatic 33, 3) := by decide +kernel
theorem dX10_find_7 : decode cX10_find 7 = .ok (.putfield 29, 3) := by decide +kernel
theorem dX10_find_10 : decode cX10_find 10 = .ok (.aload_n 0, 1) := by decide +kernel
theorem dX10_find_11 : decode cX10_find 11 = .ok (.getfield 23, 3) := by decide +kernel
theorem dX10_find_14 : decode cX10_find 14 = .ok (.aload_n 0, 1) := by decide +kernel
theorem dX10_find_15 : decode cX10_find 15 = .ok (.getfield 29, 3) := by decide +kernel
theorem dX10_find_18 : decode cX10_find 18 = .ok (.aaload, 1) := by decide +kernel
theorem dX10_find_19 : decode cX10_find 19 = .ok (.iconst 0, 1) := by decide +kernel
theorem dX10_find_20 : decode cX10_find 20 = .ok (.invokestatic 39, 3) := by decide +kernel
theorem dX10_find_23 : decode cX10_find 23 = .ok (.aload_n 0, 1) := by decide +kernel
theorem dX10_find_24 : decode cX10_find 24 = .ok (.getfield 29, 3) := by decide +kernel
theorem dX10_find_27 : decode cX10_find 27 = .ok (.iconst 1, 1) := by decide +kernel
theorem dX10_find_28 : decode cX10_find 28 = .ok (.isub, 1) := by decide +kernel
theorem dX10_find_29 : decode cX10_find 29 = .ok (.istore_n 2, 1) := by decide +kernel
theorem dX10_find_30 : decode cX10_find 30 = .ok (.iload_n 2, 1) := by decide +kernel
theorem dX10_find_31 : decode cX10_find 31 = .ok (.ifCond .lt 47, 3) := by decide +kernel
theorem dX10_find_34 : decode cX10_find 34 = .ok (.iconst 0, 1) := by decide +kernel
theorem dX10_find_35 : decode cX10_find 35 = .ok (.istore_n 3, 1) := by decide +kernel
theorem dX10_find_36 : decode cX10_find 36 = .ok (.iload_n 3, 1) := by decide +kernel
theorem dX10_find_37 : decode cX10_find 37 = .ok (.bipush 10, 2) := by decide +kernel
theorem dX10_find_39 : decode cX10_find 39 = .ok (.if_icmp .ge 33, 3) := by decide +kernel
theorem dX10_find_42 : decode cX10_find 42 = .ok (.aload_n 0, 1) := by decide +kernel
theorem dX10_find_43 : decode cX10_find 43 = .ok (.iload_n 2, 1) := by decide +kernel
theorem dX10_find_44 : decode cX10_find 44 = .ok (.iload_n 3, 1) := by decide +kernel
theorem dX10_find_45 : decode cX10_find 45 = .ok (.invokevirtual 45, 3) := by decide +kernel
theorem dX10_find_48 : decode cX10_find 48 = .ok (.istore 4, 2) := by decide +kernel
theorem dX10_find_50 : decode cX10_find 50 = .ok (.aload_n 0, 1) := by decide +kernel
theorem dX10_find_51 : decode cX10_find 51 = .ok (.getfield 23, 3) := by decide +kernel
theorem dX10_find_54 : decode cX10_find 54 = .ok (.iload_n 2, 1) := by decide +kernel
theorem dX10_find_55 : decode cX10_find 55 = .ok (.aaload, 1) := by decide +kernel
theorem dX10_find_56 : decode cX10_find 56 = .ok (.iload_n 3, 1) := by decide +kernel
theorem dX10_find_57 : decode cX10_find 57 = .ok (.aload_n 0, 1) := by decide +kernel
theorem dX10_find_58 : decode cX10_find 58 = .ok (.iload_n 2, 1) := by decide +kernel
theorem dX10_find_59 : decode cX10_find 59 = .ok (.iload_n 3, 1) := by decide +kernel
theorem dX10_find_60 : decode cX10_find 60 = .ok (.iload 4, 2) := by decide +kernel
theorem dX10_find_62 : decode cX10_find 62 = .ok (.invokevirtual 48, 3) := by decide +kernel
theorem dX10_find_65 : decode cX10_find 65 = .ok (.iastore, 1) := by decide +kernel
theorem dX10_find_66 : decode cX10_find 66 = .ok (.iinc 3 1, 3) := by decide +kernel
theorem dX10_find_69 : decode cX10_find 69 = .ok (.goto (-33), 3) := by decide +kernel
theorem dX10_find_72 : decode cX10_find 72 = .ok (.iinc 2 (-1), 3) := by decide +kernel
theorem dX10_find_75 : decode cX10_find 75 = .ok (.goto (-45), 3) := by decide +kernel
theorem dX10_find_78 : decode cX10_find 78 = .ok (.aload_n 0, 1) := by decide +kernel
theorem dX10_find_79 : decode cX10_find 79 = .ok (.invokevirtual 52, 3) := by decide +kernel
theorem dX10_find_82 : decode cX10_find 82 = .ok (.aload_n 0, 1) := by decide +kernel
theorem dX10_find_83 : decode cX10_find 83 = .ok (.getfield 23, 3) := by decide +kernel
theorem dX10_find_86 : decode cX10_find 86 = .ok (.iconst 0, 1) := by decide +kernel
theorem dX10_find_87 : decode cX10_find 87 = .ok (.aaload, 1) := by decide +kernel
theorem dX10_find_88 : decode cX10_find 88 = .ok (.iconst 0, 1) := by decide +kernel
theorem dX10_find_89 : decode cX10_find 89 = .ok (.iaload, 1) := by decide +kernel
theorem dX10_find_90 : decode cX10_find 90 = .ok (.sipush 1000, 3) := by decide +kernel
theorem dX10_find_93 : decode cX10_find 93 = .ok (.idiv, 1) := by decide +kernel
theorem dX10_find_94 : decode cX10_find 94 = .ok (.ireturn, 1) := by decide +kernel
set_option maxRecDepth 20000 in
theorem sX10_find_0 {P : Option Value → AH → Prop} (h : AH) (r0 : Nat) (x1 : Int32) (hf : (isO h 10 r0) ∧ ((isA h 4 (gF (sI h r0 4 (imin x1 20)) r0 3)) ∧ ((vp_in (gI (sI h r0 4 (imin x1 20)) r0 4) (ln (gF (sI h r0 4 (imin x1 20)) r0 3))) ∧ (Call mJ7_fill_53178 [.ref (gF (sI h r0 4 (imin x1 20)) (gF (sI h r0 4 (imin x1 20)) r0 3) (gI (sI h r0 4 (imin x1 20)) r0 4).toNatClampNeg), .int 0] (sI h r0 4 (imin x1 20)) (fun v h4 => v = none ∧ ((isO h4 10 r0) ∧ (Rr mX10_find 0 0 30 [(0, .ref r0), (2, .int ((gI h4 r0 4) - 1))] [] h4 P))))))) : Rr mX10_find 0 0 0 [(0, .ref r0), (1, .int x1)] [] h P := by
  refine R_aload_n dX10_find_0 rfl 0 rfl ?_
  refine R_iload_n dX10_find_1 rfl 1 rfl ?_
  refine R_bipush (v := 20) dX10_find_2 (by decide) ?_
  refine R_mmin dX10_find_4 lmX10_33 (by decide) (Nat.le_of_ble_eq_true rfl) ?_
  obtain ⟨ob1, hf⟩ := hf
  refine S10_4 dX10_find_7 lfX10_29 ob1 ?_
  refine R_aload_n dX10_find_10 rfl 0 rfl ?_
  refine G10_3 dX10_find_11 lfX10_23 ob1 ?_
  refine R_aload_n dX10_find_14 rfl 0 rfl ?_
  refine G10_4 dX10_find_15 lfX10_29 ob1 ?_
  obtain ⟨ob2, hf⟩ := hf
  obtain ⟨ob3, hf⟩ := hf
  refine R_aaload (t := 4) (by decide) dX10_find_18 ob2 ob3 ?_
  refine R_iconst (v := 0) dX10_find_19 (by decide) ?_
  refine R_callS (N := mJ7_fill_53178) (as := [.ref (gF (sI h r0 4 (imin x1 20)) (gF (sI h r0 4 (imin x1 20)) r0 3) (gI (sI h r0 4 (imin x1 20)) r0 4).toNatClampNeg), .int 0]) (rest := []) (kc2 := 0) (ks2 := 0) dX10_find_20 lmX10_39 oJ7_fill_53178 (Nat.le_of_ble_eq_true rfl) rfl rfl (Nat.le_of_ble_eq_true rfl) rfl rfl (Call.mono hf ?_)
  rintro _ h4 ⟨rfl, hf⟩
  refine R_aload_n dX10_find_23 rfl 0 rfl ?_
  obtain ⟨ob5, hf⟩ := hf
  refine G10_4 dX10_find_24 lfX10_29 ob5 ?_
  refine R_iconst (v := 1) dX10_find_27 (by decide) ?_
  refine R_isub dX10_find_28 ?_
  refine R_istore_n dX10_find_29 rfl (by decide) rfl ?_
  exact R_sub [1, 0] rfl hf
set_option maxRecDepth 20000 in
theorem sX10_find_30 {P : Option Value → AH → Prop} (h : AH) (r0 : Nat) (x2 : Int32) (hf : (x2 < 0 → (isO h 10 r0) ∧ (Call mX10_takeLayers [.ref r0] h (fun v h3 => v = none ∧ ((isO h3 10 r0) ∧ ((isA h3 4 (gF h3 r0 3)) ∧ ((vp_in 0 (ln (gF h3 r0 3))) ∧ ((isA h3 0 (gF h3 (gF h3 r0 3) (Int32.toNatClampNeg 0))) ∧ ((vp_in 0 (ln (gF h3 (gF h3 r0 3) (Int32.toNatClampNeg 0)))) ∧ (P (some (.int ((gI h3 (gF h3 (gF h3 r0 3) (Int32.toNatClampNeg 0)) (Int32.toNatClampNeg 0)) / 1000))) h3))))))))) ∧ (¬ x2 < 0 → Rr mX10_find 0 0 36 [(0, .ref r0), (2, .int x2), (3, .int 0)] [] h P)) : Rr mX10_find 0 0 30 [(0, .ref r0), (2, .int x2)] [] h P := by
  refine R_iload_n dX10_find_30 rfl 1 rfl ?_
  refine R_if_lt (tgt := 78) dX10_find_31 (by decide) (fun b1 => ?_) (fun b1 => ?_)
  · have hf := hf.1 b1
    refine R_aload_n dX10_find_78 rfl 0 rfl ?_
    obtain ⟨ob2, hf⟩ := hf
    refine R_callV (ci := 10) (N := mX10_takeLayers) (as := []) (rest := []) (kc2 := 0) (ks2 := 0) dX10_find_79 lmX10_52 oX10_takeLayers (Nat.le_of_ble_eq_true rfl) rfl rfl (Nat.le_of_ble_eq_true rfl) rfl rfl ob2 ok10 (Call.mono hf ?_)
    rintro _ h3 ⟨rfl, hf⟩
    refine R_aload_n dX10_find_82 rfl 0 rfl ?_
    obtain ⟨ob4, hf⟩ := hf
    refine G10_3 dX10_find_83 lfX10_23 ob4 ?_
    refine R_iconst (v := 0) dX10_find_86 (by decide) ?_
    obtain ⟨ob5, hf⟩ := hf
    obtain ⟨ob6, hf⟩ := hf
    refine R_aaload (t := 4) (by decide) dX10_find_87 ob5 ob6 ?_
    refine R_iconst (v := 0) dX10_find_88 (by decide) ?_
    obtain ⟨ob7, hf⟩ := hf
    obtain ⟨ob8, hf⟩ := hf
    refine R_iaload dX10_find_89 ob7 ob8 ?_
    refine R_sipush (v := 1000) dX10_find_90 (by decide) ?_
    refine R_idiv dX10_find_93 (by decide) ?_
    exact R_iret dX10_find_94 rfl rfl hf
  · have hf := hf.2 b1
    refine R_iconst (v := 0) dX10_find_34 (by decide) ?_
    refine R_istore_n dX10_find_35 rfl (by decide) rfl ?_
    exact R_sub [1, 2, 0] rfl hf
set_option maxRecDepth 20000 in
theorem sX10_find_36 {P : Option Value → AH → Prop} (h : AH) (r0 : Nat) (x2 : Int32) (x3 : Int32) (hf : (10 ≤ x3 → Rr mX10_find 0 0 30 [(0, .ref r0), (2, .int (x2 + (-1)))] [] h P) ∧ (¬ 10 ≤ x3 → (isO h 10 r0) ∧ (Call mX10_lightest [.ref r0, .int x2, .int x3] h (fun v h3 => ∃ z4 : Int32, v = some (.int z4) ∧ ((isO h3 10 r0) ∧ ((isA h3 4 (gF h3 r0 3)) ∧ ((vp_in x2 (ln (gF h3 r0 3))) ∧ ((vp_in (x2 + 1) (ln (gF h3 r0 3))) ∧ ((isA h3 0 (gF h3 (gF h3 r0 3) (x2 + 1).toNatClampNeg)) ∧ ((vp_in z4 (ln (gF h3 (gF h3 r0 3) (x2 + 1).toNatClampNeg))) ∧ ((isA h3 0 (gF h3 (gF h3 r0 3) x2.toNatClampNeg)) ∧ ((vp_in x3 (ln (gF h3 (gF h3 r0 3) x2.toNatClampNeg))) ∧ (Rr mX10_find 0 0 36 [(0, .ref r0), (2, .int x2), (3, .int (x3 + 1))] [] (sI h3 (gF h3 (gF h3 r0 3) x2.toNatClampNeg) x3.toNatClampNeg (((1000 * (imax (z4 - x3) 0)) + z4) + (gI h3 (gF h3 (gF h3 r0 3) (x2 + 1).toNatClampNeg) z4.toNatClampNeg))) P))))))))))))) : Rr mX10_find 0 0 36 [(0, .ref r0), (2, .int x2), (3, .int x3)] [] h P := by
  refine R_iload_n dX10_find_36 rfl 2 rfl ?_
  refine R_bipush (v := 10) dX10_find_37 (by decide) ?_
  refine R_icmp_ge (tgt := 72) dX10_find_39 (by decide) (fun b1 => ?_) (fun b1 => ?_)
  · have hf := hf.1 b1
    refine R_iinc (v := x2 + (-1)) dX10_find_72 1 rfl rfl (by decide) rfl ?_
    refine R_goto (tgt := 30) dX10_find_75 (by decide) ?_
    exact R_sub [1, 0] rfl hf
  · have hf := hf.2 b1
    refine R_aload_n dX10_find_42 rfl 0 rfl ?_
    refine R_iload_n dX10_find_43 rfl 1 rfl ?_
    refine R_iload_n dX10_find_44 rfl 2 rfl ?_
    obtain ⟨ob2, hf⟩ := hf
    refine R_callV (ci := 10) (N := mX10_lightest) (as := [.int x2, .int x3]) (rest := []) (kc2 := 0) (ks2 := 0) dX10_find_45 lmX10_45 oX10_lightest (Nat.le_of_ble_eq_true rfl) rfl rfl (Nat.le_of_ble_eq_true rfl) rfl rfl ob2 ok10 (Call.mono hf ?_)
    rintro _ h3 ⟨z4, rfl, hf⟩
    refine R_istore dX10_find_48 (by decide) rfl ?_
    refine R_aload_n dX10_find_50 rfl 1 rfl ?_
    obtain ⟨ob5, hf⟩ := hf
    refine G10_3 dX10_find_51 lfX10_23 ob5 ?_
    refine R_iload_n dX10_find_54 rfl 2 rfl ?_
    obtain ⟨ob6, hf⟩ := hf
    obtain ⟨ob7, hf⟩ := hf
    refine R_aaload (t := 4) (by decide) dX10_find_55 ob6 ob7 ?_
    refine R_iload_n dX10_find_56 rfl 3 rfl ?_
    refine R_aload_n dX10_find_57 rfl 1 rfl ?_
    refine R_iload_n dX10_find_58 rfl 2 rfl ?_
    refine R_iload_n dX10_find_59 rfl 3 rfl ?_
    refine R_iload dX10_find_60 0 rfl ?_
    obtain ⟨ob8, hf⟩ := hf
    obtain ⟨ob9, hf⟩ := hf
    obtain ⟨ob10, hf⟩ := hf
    refine R_callV (ci := 10) (N := mX10_weight) (as := [.int x2, .int x3, .int z4]) (rest := [.int x3, .ref (gF h3 (gF h3 r0 3) x2.toNatClampNeg)]) (kc2 := 0) (ks2 := 0) dX10_find_62 lmX10_48 oX10_weight (Nat.le_of_ble_eq_true rfl) rfl rfl (Nat.le_of_ble_eq_true rfl) rfl rfl ob5 ok10 (aX10_weight ob5 ob6 ob8 ob9 ob10 ?_)
    obtain ⟨ob11, hf⟩ := hf
    obtain ⟨ob12, hf⟩ := hf
    refine R_iastore dX10_find_65 ob11 ob12 ?_
    refine R_iinc (v := x3 + 1) dX10_find_66 3 rfl rfl (by decide) rfl ?_
    refine R_goto (tgt := 36) dX10_find_69 (by decide) ?_
    exact R_sub [2, 3, 0] rfl hf
theorem dX11_causes_0 : decode cX11_causes 0 = .ok (.aload_n 0, 1) := by decide +kernel
theorem dX11_causes_1 : decode cX11_causes 1 = .ok (.getfield 20, 3) := by decide +kernel
theorem dX11_causes_4 : decode cX11_causes 4 = .ok (.aload_n 0, 1) := by decide +kernel
theorem dX11_causes_5 : decode cX11_causes 5 = .ok (.getfield 74, 3) := by decide +kernel
theorem dX11_causes_8 : decode cX11_causes 8 = .ok (.sipush 999, 3) := by decide +kernel
theorem dX11_causes_11 : decode cX11_causes 11 = .ok (.iconst 1, 1) := by decide +kernel
theorem dX11_causes_12 : decode cX11_causes 12 = .ok (.invokevirtual 303, 3) := by decide +kernel
theorem dX11_causes_15 : decode cX11_causes 15 = .ok (.istore_n 2, 1) := by decide +kernel
theorem dX11_causes_16 : decode cX11_causes 16 = .ok (.iload_n 1, 1) := by decide +kernel
theorem dX11_causes_17 : decode cX11_causes 17 = .ok (.ifCond .lt 9, 3) := by decide +kernel
theorem dX11_causes_20 : decode cX11_causes 20 = .ok (.iload_n 1, 1) := by decide +kernel
theorem dX11_causes_21 : decode cX11_causes 21 = .ok (.bipush 99, 2) := by decide +kernel
theorem dX11_causes_23 : decode cX11_causes 23 = .ok (.if_icmp .le 6, 3) := by decide +kernel
theorem dX11_causes_26 : decode cX11_causes 26 = .ok (.bipush (-2), 2) := by decide +kernel
theorem dX11_causes_28 : decode cX11_causes 28 = .ok (.ireturn, 1) := by decide +kernel
theorem dX11_causes_29 : decode cX11_causes 29 = .ok (.iload_n 2, 1) := by decide +kernel
theorem dX11_causes_30 : decode cX11_causes 30 = .ok (.iconst 1, 1) := by decide +kernel
theorem dX11_causes_31 : decode cX11_causes 31 = .ok (.if_icmp .ge 7, 3) := by decide +kernel
theorem dX11_causes_34 : decode cX11_causes 34 = .ok (.iconst (-1), 1) := by decide +kernel
theorem dX11_causes_35 : decode cX11_causes 35 = .ok (.goto 11, 3) := by decide +kernel
theorem dX11_causes_38 : decode cX11_causes 38 = .ok (.aload_n 0, 1) := by decide +kernel
theorem dX11_causes_39 : decode cX11_causes 39 = .ok (.iload_n 2, 1) := by decide +kernel
theorem dX11_causes_40 : decode cX11_causes 40 = .ok (.iconst 2, 1) := by decide +kernel
theorem dX11_causes_41 : decode cX11_causes 41 = .ok (.iload_n 1, 1) := by decide +kernel
theorem dX11_causes_42 : decode cX11_causes 42 = .ok (.imul, 1) := by decide +kernel
theorem dX11_causes_43 : decode cX11_causes 43 = .ok (.invokevirtual 307, 3) := by decide +kernel
theorem dX11_causes_46 : decode cX11_causes 46 = .ok (.ireturn, 1) := by decide +kernel
set_option maxRecDepth 20000 in
theorem sX11_causes_0 {P : Option Value → AH → Prop} (h : AH) (r0 : Nat) (x1 : Int32) (hf : (isO h 11 r0) ∧ ((isO h 9 (gF h r0 1)) ∧ (Call mX9_takeRow [.ref (gF h r0 1), .ref (gF h r0 11), .int 999, .int 1] h (fun v h3 => ∃ z4 : Int32, v = some (.int z4) ∧ ((x1 < 0 → P (some (.int (-2))) h3) ∧ (¬ x1 < 0 → (x1 ≤ 99 → (1 ≤ z4 → (isO h3 11 r0) ∧ (Call mX11_causesOf [.ref r0, .int z4, .int (2 * x1)] h3 (fun v h9 => ∃ z10 : Int32, v = some (.int z10) ∧ (P (some (.int z10)) h9)))) ∧ (¬ 1 ≤ z4 → P (some (.int (-1))) h3)) ∧ (¬ x1 ≤ 99 → P (some (.int (-2))) h3))))))) : Rr mX11_causes 0 0 0 [(0, .ref r0), (1, .int x1)] [] h P := by
  refine R_aload_n dX11_causes_0 rfl 0 rfl ?_
  obtain ⟨ob1, hf⟩ := hf
  refine G11_1 dX11_causes_1 lfX11_20 ob1 ?_
  refine R_aload_n dX11_causes_4 rfl 0 rfl ?_
  refine G11_11 dX11_causes_5 lfX11_74 ob1 ?_
  refine R_sipush (v := 999) dX11_causes_8 (by decide) ?_
  refine R_iconst (v := 1) dX11_causes_11 (by decide) ?_
  obtain ⟨ob2, hf⟩ := hf
  refine R_callV (ci := 9) (N := mX9_takeRow) (as := [.ref (gF h r0 11), .int 999, .int 1]) (rest := []) (kc2 := 0) (ks2 := 0) dX11_causes_12 lmX11_303 oX9_takeRow (Nat.le_of_ble_eq_true rfl) rfl rfl (Nat.le_of_ble_eq_true rfl) rfl rfl ob2 ok9 (Call.mono hf ?_)
  rintro _ h3 ⟨z4, rfl, hf⟩
  refine R_istore_n dX11_causes_15 rfl (by decide) rfl ?_
  refine R_iload_n dX11_causes_16 rfl 2 rfl ?_
  refine R_if_lt (tgt := 26) dX11_causes_17 (by decide) (fun b5 => ?_) (fun b5 => ?_)
  · have hf := hf.1 b5
    refine R_bipush (v := (-2)) dX11_causes_26 (by decide) ?_
    exact R_iret dX11_causes_28 rfl rfl hf
  · have hf := hf.2 b5
    refine R_iload_n dX11_causes_20 rfl 2 rfl ?_
    refine R_bipush (v := 99) dX11_causes_21 (by decide) ?_
    refine R_icmp_le (tgt := 29) dX11_causes_23 (by decide) (fun b6 => ?_) (fun b6 => ?_)
    · have hf := hf.1 b6
      refine R_iload_n dX11_causes_29 rfl 0 rfl ?_
      refine R_iconst (v := 1) dX11_causes_30 (by decide) ?_
      refine R_icmp_ge (tgt := 38) dX11_causes_31 (by decide) (fun b7 => ?_) (fun b7 => ?_)
      · have hf := hf.1 b7
        refine R_aload_n dX11_causes_38 rfl 1 rfl ?_
        refine R_iload_n dX11_causes_39 rfl 0 rfl ?_
        refine R_iconst (v := 2) dX11_causes_40 (by decide) ?_
        refine R_iload_n dX11_causes_41 rfl 2 rfl ?_
        refine R_imul dX11_causes_42 ?_
        obtain ⟨ob8, hf⟩ := hf
        refine R_callV (ci := 11) (N := mX11_causesOf) (as := [.int z4, .int (2 * x1)]) (rest := []) (kc2 := 0) (ks2 := 0) dX11_causes_43 lmX11_307 oX11_causesOf (Nat.le_of_ble_eq_true rfl) rfl rfl (Nat.le_of_ble_eq_true rfl) rfl rfl ob8 ok11 (Call.mono hf ?_)
        rintro _ h9 ⟨z10, rfl, hf⟩
        exact R_iret dX11_causes_46 rfl rfl hf
      · have hf := hf.2 b7
        refine R_iconst (v := (-1)) dX11_causes_34 (by decide) ?_
        refine R_goto (tgt := 46) dX11_causes_35 (by decide) ?_
        exact R_iret dX11_causes_46 rfl rfl hf
    · have hf := hf.2 b6
      refine R_bipush (v := (-2)) dX11_causes_26 (by decide) ?_
      exact R_iret dX11_causes_28 rfl rfl hf
theorem dX11_fit_0 : decode cX11_fit 0 = .ok (.iload_n 1, 1) := by decide +kernel
theorem dX11_fit_1 : decode cX11_fit 1 = .ok (.invokestatic 150, 3) := by decide +kernel
theorem dX11_fit_4 : decode cX11_fit 4 = .ok (.ifCond .eq 10, 3) := by decide +kernel
theorem dX11_fit_7 : decode cX11_fit 7 = .ok (.iload_n 2, 1) := by decide +kernel
theorem dX11_fit_8 : decode cX11_fit 8 = .ok (.invokestatic 188, 3) := by decide +kernel
theorem dX11_fit_11 : decode cX11_fit 11 = .ok (.ifCond .ne 6, 3) := by decide +kernel
theorem dX11_fit_14 : decode cX11_fit 14 = .ok (.bipush (-99), 2) := by decide +kernel
theorem dX11_fit_16 : decode cX11_fit 16 = .ok (.ireturn, 1) := by decide +kernel
theorem dX11_fit_17 : decode cX11_fit 17 = .ok (.iload_n 3, 1) := by decide +kernel
theorem dX11_fit_18 : decode cX11_fit 18 = .ok (.bipush 10, 2) := by decide +kernel
theorem dX11_fit_20 : decode cX11_fit 20 = .ok (.irem, 1) := by decide +kernel
theorem dX11_fit_21 : decode cX11_fit 21 = .ok (.istore 4, 2) := by decide +kernel
theorem dX11_fit_23 : decode cX11_fit 23 = .ok (.iload_n 3, 1) := by decide +kernel
theorem dX11_fit_24 : decode cX11_fit 24 = .ok (.bipush 10, 2) := by decide +kernel
theorem dX11_fit_26 : decode cX11_fit 26 = .ok (.if_icmp .lt 19, 3) := by decide +kernel
theorem dX11_fit_29 : decode cX11_fit 29 = .ok (.iload_n 3, 1) := by decide +kernel
theorem dX11_fit_30 : decode cX11_fit 30 = .ok (.bipush 30, 2) := by decide +kernel
theorem dX11_fit_32 : decode cX11_fit 32 = .ok (.if_icmp .ge 13, 3) := by decide +kernel
theorem dX11_fit_35 : decode cX11_fit 35 = .ok (.iload 4, 2) := by decide +kernel
theorem dX11_fit_37 : decode cX11_fit 37 = .ok (.iconst 4, 1) := by decide +kernel
theorem dX11_fit_38 : decode cX11_fit 38 = .ok (.if_icmp .ge 7, 3) := by decide +kernel
theorem dX11_fit_41 : decode cX11_fit 41 = .ok (.iconst 1, 1) := by decide +kernel
theorem dX11_fit_42 : decode cX11_fit 42 = .ok (.goto 4, 3) := by decide +kernel
theorem dX11_fit_45 : decode cX11_fit 45 = .ok (.iconst 0, 1) := by decide +kernel
theorem dX11_fit_46 : decode cX11_fit 46 = .ok (.istore 5, 2) := by decide +kernel
theorem dX11_fit_48 : decode cX11_fit 48 = .ok (.iload_n 3, 1) := by decide +kernel
theorem dX11_fit_49 : decode cX11_fit 49 = .ok (.ifCond .eq 11, 3) := by decide +kernel
theorem dX11_fit_52 : decode cX11_fit 52 = .ok (.iload 5, 2) := by decide +kernel
theorem dX11_fit_54 : decode cX11_fit 54 = .ok (.ifCond .ne 6, 3) := by decide +kernel
theorem dX11_fit_57 : decode cX11_fit 57 = .ok (.bipush (-99), 2) := by decide +kernel
theorem dX11_fit_59 : decode cX11_fit 59 = .ok (.ireturn, 1) := by decide +kernel
theorem dX11_fit_60 : decode cX11_fit 60 = .ok (.aload_n 0, 1) := by decide +kernel
theorem dX11_fit_61 : decode cX11_fit 61 = .ok (.getfield 38, 3) := by decide +kernel
theorem dX11_fit_64 : decode cX11_fit 64 = .ok (.aload_n 0, 1) := by decide +kernel
theorem dX11_fit_65 : decode cX11_fit 65 = .ok (.getfield 24, 3) := by decide +kernel
theorem dX11_fit_68 : decode cX11_fit 68 = .ok (.aload_n 0, 1) := by decide +kernel
theorem dX11_fit_69 : decode cX11_fit 69 = .ok (.getfield 31, 3) := by decide +kernel
theorem dX11_fit_72 : decode cX11_fit 72 = .ok (.iload_n 1, 1) := by decide +kernel
theorem dX11_fit_73 : decode cX11_fit 73 = .ok (.iload_n 2, 1) := by decide +kernel
theorem dX11_fit_74 : decode cX11_fit 74 = .ok (.invokevirtual 191, 3) := by decide +kernel
theorem dX11_fit_77 : decode cX11_fit 77 = .ok (.iload_n 3, 1) := by decide +kernel
theorem dX11_fit_78 : decode cX11_fit 78 = .ok (.ifCond .ne 11, 3) := by decide +kernel
theorem dX11_fit_81 : decode cX11_fit 81 = .ok (.aload_n 0, 1) := by decide +kernel
theorem dX11_fit_82 : decode cX11_fit 82 = .ok (.getfield 38, 3) := by decide +kernel
theorem dX11_fit_85 : decode cX11_fit 85 = .ok (.getfield 195, 3) := by decide +kernel
theorem dX11_fit_88 : decode cX11_fit 88 = .ok (.ireturn, 1) := by decide +kernel
theorem dX11_fit_89 : decode cX11_fit 89 = .ok (.aload_n 0, 1) := by decide +kernel
theorem dX11_fit_90 : decode cX11_fit 90 = .ok (.getfield 38, 3) := by decide +kernel
theorem dX11_fit_93 : decode cX11_fit 93 = .ok (.getfield 195, 3) := by decide +kernel
theorem dX11_fit_96 : decode cX11_fit 96 = .ok (.ifCond .ne 6, 3) := by decide +kernel
theorem dX11_fit_99 : decode cX11_fit 99 = .ok (.bipush (-99), 2) := by decide +kernel
theorem dX11_fit_101 : decode cX11_fit 101 = .ok (.ireturn, 1) := by decide +kernel
theorem dX11_fit_102 : decode cX11_fit 102 = .ok (.iload_n 3, 1) := by decide +kernel
theorem dX11_fit_103 : decode cX11_fit 103 = .ok (.bipush 20, 2) := by decide +kernel
theorem dX11_fit_105 : decode cX11_fit 105 = .ok (.if_icmp .ge 16, 3) := by decide +kernel
theorem dX11_fit_108 : decode cX11_fit 108 = .ok (.aload_n 0, 1) := by decide +kernel
theorem dX11_fit_109 : decode cX11_fit 109 = .ok (.getfield 38, 3) := by decide +kernel
theorem dX11_fit_112 : decode cX11_fit 112 = .ok (.getfield 198, 3) := by decide +kernel
theorem dX11_fit_115 : decode cX11_fit 115 = .ok (.iload 4, 2) := by decide +kernel
theorem dX11_fit_117 : decode cX11_fit 117 = .ok (.iaload, 1) := by decide +kernel
theorem dX11_fit_118 : decode cX11_fit 118 = .ok (.goto 13, 3) := by decide +kernel
theorem dX11_fit_121 : decode cX11_fit 121 = .ok (.aload_n 0, 1) := by decide +kernel
theorem dX11_fit_122 : decode cX11_fit 122 = .ok (.getfield 38, 3) := by decide +kernel
theorem dX11_fit_125 : decode cX11_fit 125 = .ok (.getfield 201, 3) := by decide +kernel
theorem dX11_fit_128 : decode cX11_fit 128 = .ok (.iload 4, 2) := by decide +kernel
theorem dX11_fit_130 : decode cX11_fit 130 = .ok (.iaload, 1) := by decide +kernel
theorem dX11_fit_131 : decode cX11_fit 131 = .ok (.ireturn, 1) := by decide +kernel
set_option maxRecDepth 20000 in
theorem sX11_fit_0 {P : Option Value → AH → Prop} (h : AH) (r0 : Nat) (x1 : Int32) (x2 : Int32) (x3 : Int32) (hf : (¬ (¬ x1 < 0 ∧ ¬ 4 ≤ x1) → P (some (.int (-99))) h) ∧ ((¬ x1 < 0 ∧ ¬ 4 ≤ x1) → ((¬ x2 < 0 ∧ ¬ 999 < x2) → (x3 = 0 → (isO h 11 r0) ∧ ((isO h 1 (gF h r0 4)) ∧ (Call mX1_find [.ref (gF h r0 4), .ref (gF h r0 2), .ref (gF h r0 3), .int x1, .int x2] h (fun v h9 => v = none ∧ ((¬ x3 = 0 → (isO h9 11 r0) ∧ ((isO h9 1 (gF h9 r0 4)) ∧ ((¬ (gI h9 (gF h9 r0 4) 9) = 0 → (isA h9 0 (gF h9 (gF h9 r0 4) 11)) ∧ ((20 ≤ x3 → vp_in (x3 % 10) (ln (gF h9 (gF h9 r0 4) 11))) ∧ ((isA h9 0 (gF h9 (gF h9 r0 4) 10)) ∧ ((¬ 20 ≤ x3 → vp_in (x3 % 10) (ln (gF h9 (gF h9 r0 4) 10))) ∧ (∀ z19 : Int32, z19 = (if 20 ≤ x3 then (gI h9 (gF h9 (gF h9 r0 4) 11) (x3 % 10).toNatClampNeg) else (gI h9 (gF h9 (gF h9 r0 4) 10) (x3 % 10).toNatClampNeg)) → (P (some (.int z19)) h9)))))) ∧ ((gI h9 (gF h9 r0 4) 9) = 0 → P (some (.int (-99))) h9)))) ∧ (x3 = 0 → (isO h9 11 r0) ∧ ((isO h9 1 (gF h9 r0 4)) ∧ (P (some (.int (gI h9 (gF h9 r0 4) 9))) h9)))))))) ∧ (¬ x3 = 0 → ((¬ x3 < 10 ∧ ¬ 30 ≤ x3 ∧ ¬ 4 ≤ (x3 % 10)) → (isO h 11 r0) ∧ ((isO h 1 (gF h r0 4)) ∧ (Call mX1_find [.ref (gF h r0 4), .ref (gF h r0 2), .ref (gF h r0 3), .int x1, .int x2] h (fun v h25 => v = none ∧ ((¬ x3 = 0 → (isO h25 11 r0) ∧ ((isO h25 1 (gF h25 r0 4)) ∧ ((¬ (gI h25 (gF h25 r0 4) 9) = 0 → (isA h25 0 (gF h25 (gF h25 r0 4) 11)) ∧ ((20 ≤ x3 → vp_in (x3 % 10) (ln (gF h25 (gF h25 r0 4) 11))) ∧ ((isA h25 0 (gF h25 (gF h25 r0 4) 10)) ∧ ((¬ 20 ≤ x3 → vp_in (x3 % 10) (ln (gF h25 (gF h25 r0 4) 10))) ∧ (∀ z35 : Int32, z35 = (if 20 ≤ x3 then (gI h25 (gF h25 (gF h25 r0 4) 11) (x3 % 10).toNatClampNeg) else (gI h25 (gF h25 (gF h25 r0 4) 10) (x3 % 10).toNatClampNeg)) → (P (some (.int z35)) h25)))))) ∧ ((gI h25 (gF h25 r0 4) 9) = 0 → P (some (.int (-99))) h25)))) ∧ (x3 = 0 → (isO h25 11 r0) ∧ ((isO h25 1 (gF h25 r0 4)) ∧ (P (some (.int (gI h25 (gF h25 r0 4) 9))) h25)))))))) ∧ (¬ (¬ x3 < 10 ∧ ¬ 30 ≤ x3 ∧ ¬ 4 ≤ (x3 % 10)) → P (some (.int (-99))) h))) ∧ (¬ (¬ x2 < 0 ∧ ¬ 999 < x2) → P (some (.int (-99))) h))) : Rr mX11_fit 0 0 0 [(0, .ref r0), (1, .int x1), (2, .int x2), (3, .int x3)] [] h P := by
  refine R_iload_n dX11_fit_0 rfl 1 rfl ?_
  refine R_callS (N := mX11_isInk) (as := [.int x1]) (rest := []) (kc2 := 0) (ks2 := 0) dX11_fit_1 lmX11_150 oX11_isInk (Nat.le_of_ble_eq_true rfl) rfl rfl (Nat.le_of_ble_eq_true rfl) rfl rfl (aX11_isInk  ?_)
  refine R_if_eq_b (tgt := 14) dX11_fit_4 (by decide) (fun b1 => ?_) (fun b1 => ?_)
  · have hf := hf.1 b1
    refine R_bipush (v := (-99)) dX11_fit_14 (by decide) ?_
    exact R_iret dX11_fit_16 rfl rfl hf
  · have hf := hf.2 b1
    refine R_iload_n dX11_fit_7 rfl 2 rfl ?_
    refine R_callS (N := mX7_isStep) (as := [.int x2]) (rest := []) (kc2 := 0) (ks2 := 0) dX11_fit_8 lmX11_188 oX7_isStep (Nat.le_of_ble_eq_true rfl) rfl rfl (Nat.le_of_ble_eq_true rfl) rfl rfl (aX7_isStep  ?_)
    refine R_if_ne_b (tgt := 17) dX11_fit_11 (by decide) (fun b2 => ?_) (fun b2 => ?_)
    · have hf := hf.1 b2
      refine R_iload_n dX11_fit_17 rfl 3 rfl ?_
      refine R_bipush (v := 10) dX11_fit_18 (by decide) ?_
      refine R_irem dX11_fit_20 (by decide) ?_
      refine R_istore dX11_fit_21 (by decide) rfl ?_
      refine R_iload_n dX11_fit_23 rfl 4 rfl ?_
      refine R_bipush (v := 10) dX11_fit_24 (by decide) ?_
      have key :  Rr mX11_fit 0 0 46 [(0, .ref r0), (1, .int x1), (2, .int x2), (3, .int x3), (4, .int (x3 % 10))] [.int (bi (¬ x3 < 10 ∧ ¬ 30 ≤ x3 ∧ ¬ 4 ≤ (x3 % 10)))] h P := by
        refine R_istore dX11_fit_46 (by decide) rfl ?_
        refine R_iload_n dX11_fit_48 rfl 4 rfl ?_
        refine R_if_eq (tgt := 60) dX11_fit_49 (by decide) (fun b6 => ?_) (fun b6 => ?_)
        · have hf := hf.1 b6
          refine R_aload_n dX11_fit_60 rfl 1 rfl ?_
          obtain ⟨ob7, hf⟩ := hf
          refine G11_4 dX11_fit_61 lfX11_38 ob7 ?_
          refine R_aload_n dX11_fit_64 rfl 1 rfl ?_
          refine G11_2 dX11_fit_65 lfX11_24 ob7 ?_
          refine R_aload_n dX11_fit_68 rfl 1 rfl ?_
          refine G11_3 dX11_fit_69 lfX11_31 ob7 ?_
          refine R_iload_n dX11_fit_72 rfl 2 rfl ?_
          refine R_iload_n dX11_fit_73 rfl 3 rfl ?_
          obtain ⟨ob8, hf⟩ := hf
          refine R_callV (ci := 1) (N := mX1_find) (as := [.ref (gF h r0 2), .ref (gF h r0 3), .int x1, .int x2]) (rest := []) (kc2 := 0) (ks2 := 0) dX11_fit_74 lmX11_191 oX1_find (Nat.le_of_ble_eq_true rfl) rfl rfl (Nat.le_of_ble_eq_true rfl) rfl rfl ob8 ok1 (Call.mono hf ?_)
          rintro _ h9 ⟨rfl, hf⟩
          refine R_iload_n dX11_fit_77 rfl 4 rfl ?_
          refine R_if_ne (tgt := 89) dX11_fit_78 (by decide) (fun b10 => ?_) (fun b10 => ?_)
          · have hf := hf.1 b10
            refine R_aload_n dX11_fit_89 rfl 1 rfl ?_
            obtain ⟨ob11, hf⟩ := hf
            refine G11_4 dX11_fit_90 lfX11_38 ob11 ?_
            obtain ⟨ob12, hf⟩ := hf
            refine G1_9 dX11_fit_93 lfX11_195 ob12 ?_
            refine R_if_ne (tgt := 102) dX11_fit_96 (by decide) (fun b13 => ?_) (fun b13 => ?_)
            · have hf := hf.1 b13
              refine R_iload_n dX11_fit_102 rfl 4 rfl ?_
              refine R_bipush (v := 20) dX11_fit_103 (by decide) ?_
              obtain ⟨ob15, hf⟩ := hf
              obtain ⟨ob16, hf⟩ := hf
              obtain ⟨ob17, hf⟩ := hf
              obtain ⟨ob18, hf⟩ := hf
              have key : ∀ z19 : Int32, z19 = (if 20 ≤ x3 then (gI h9 (gF h9 (gF h9 r0 4) 11) (x3 % 10).toNatClampNeg) else (gI h9 (gF h9 (gF h9 r0 4) 10) (x3 % 10).toNatClampNeg)) → Rr mX11_fit 0 0 131 [] [.int z19] h9 P := by
                intro z19 ez19
                have hf := hf z19 ez19
                exact R_iret dX11_fit_131 rfl rfl hf
              refine R_icmp_ge (tgt := 121) dX11_fit_105 (by decide) (fun b14 => ?_) (fun b14 => ?_)
              · refine R_aload_n dX11_fit_121 rfl 1 rfl ?_
                refine G11_4 dX11_fit_122 lfX11_38 ob11 ?_
                refine G1_11 dX11_fit_125 lfX11_201 ob12 ?_
                refine R_iload dX11_fit_128 5 rfl ?_
                refine R_iaload dX11_fit_130 ob15 (ob16 b14) ?_
                exact R_sub [] rfl (key _ (by rw [if_pos b14]))
              · refine R_aload_n dX11_fit_108 rfl 1 rfl ?_
                refine G11_4 dX11_fit_109 lfX11_38 ob11 ?_
                refine G1_10 dX11_fit_112 lfX11_198 ob12 ?_
                refine R_iload dX11_fit_115 5 rfl ?_
                refine R_iaload dX11_fit_117 ob17 (ob18 b14) ?_
                refine R_goto (tgt := 131) dX11_fit_118 (by decide) ?_
                exact R_sub [] rfl (key _ (by rw [if_neg b14]))
            · have hf := hf.2 b13
              refine R_bipush (v := (-99)) dX11_fit_99 (by decide) ?_
              exact R_iret dX11_fit_101 rfl rfl hf
          · have hf := hf.2 b10
            refine R_aload_n dX11_fit_81 rfl 1 rfl ?_
            obtain ⟨ob20, hf⟩ := hf
            refine G11_4 dX11_fit_82 lfX11_38 ob20 ?_
            obtain ⟨ob21, hf⟩ := hf
            refine G1_9 dX11_fit_85 lfX11_195 ob21 ?_
            exact R_iret dX11_fit_88 rfl rfl hf
        · have hf := hf.2 b6
          refine R_iload dX11_fit_52 0 rfl ?_
          refine R_if_ne_b (tgt := 60) dX11_fit_54 (by decide) (fun b22 => ?_) (fun b22 => ?_)
          · have hf := hf.1 b22
            refine R_aload_n dX11_fit_60 rfl 1 rfl ?_
            obtain ⟨ob23, hf⟩ := hf
            refine G11_4 dX11_fit_61 lfX11_38 ob23 ?_
            refine R_aload_n dX11_fit_64 rfl 1 rfl ?_
            refine G11_2 dX11_fit_65 lfX11_24 ob23 ?_
            refine R_aload_n dX11_fit_68 rfl 1 rfl ?_
            refine G11_3 dX11_fit_69 lfX11_31 ob23 ?_
            refine R_iload_n dX11_fit_72 rfl 2 rfl ?_
            refine R_iload_n dX11_fit_73 rfl 3 rfl ?_
            obtain ⟨ob24, hf⟩ := hf
            refine R_callV (ci := 1) (N := mX1_find) (as := [.ref (gF h r0 2), .ref (gF h r0 3), .int x1, .int x2]) (rest := []) (kc2 := 0) (ks2 := 0) dX11_fit_74 lmX11_191 oX1_find (Nat.le_of_ble_eq_true rfl) rfl rfl (Nat.le_of_ble_eq_true rfl) rfl rfl ob24 ok1 (Call.mono hf ?_)
            rintro _ h25 ⟨rfl, hf⟩
            refine R_iload_n dX11_fit_77 rfl 4 rfl ?_
            refine R_if_ne (tgt := 89) dX11_fit_78 (by decide) (fun b26 => ?_) (fun b26 => ?_)
            · have hf := hf.1 b26
              refine R_aload_n dX11_fit_89 rfl 1 rfl ?_
              obtain ⟨ob27, hf⟩ := hf
              refine G11_4 dX11_fit_90 lfX11_38 ob27 ?_
              obtain ⟨ob28, hf⟩ := hf
              refine G1_9 dX11_fit_93 lfX11_195 ob28 ?_
              refine R_if_ne (tgt := 102) dX11_fit_96 (by decide) (fun b29 => ?_) (fun b29 => ?_)
              · have hf := hf.1 b29
                refine R_iload_n dX11_fit_102 rfl 4 rfl ?_
                refine R_bipush (v := 20) dX11_fit_103 (by decide) ?_
                obtain ⟨ob31, hf⟩ := hf
                obtain ⟨ob32, hf⟩ := hf
                obtain ⟨ob33, hf⟩ := hf
                obtain ⟨ob34, hf⟩ := hf
                have key : ∀ z35 : Int32, z35 = (if 20 ≤ x3 then (gI h25 (gF h25 (gF h25 r0 4) 11) (x3 % 10).toNatClampNeg) else (gI h25 (gF h25 (gF h25 r0 4) 10) (x3 % 10).toNatClampNeg)) → Rr mX11_fit 0 0 131 [] [.int z35] h25 P := by
                  intro z35 ez35
                  have hf := hf z35 ez35
                  exact R_iret dX11_fit_131 rfl rfl hf
                refine R_icmp_ge (tgt := 121) dX11_fit_105 (by decide) (fun b30 => ?_) (fun b30 => ?_)
                · refine R_aload_n dX11_fit_121 rfl 1 rfl ?_
                  refine G11_4 dX11_fit_122 lfX11_38 ob27 ?_
                  refine G1_11 dX11_fit_125 lfX11_201 ob28 ?_
                  refine R_iload dX11_fit_128 5 rfl ?_
                  refine R_iaload dX11_fit_130 ob31 (ob32 b30) ?_
                  exact R_sub [] rfl (key _ (by rw [if_pos b30]))
                · refine R_aload_n dX11_fit_108 rfl 1 rfl ?_
                  refine G11_4 dX11_fit_109 lfX11_38 ob27 ?_
                  refine G1_10 dX11_fit_112 lfX11_198 ob28 ?_
                  refine R_iload dX11_fit_115 5 rfl ?_
                  refine R_iaload dX11_fit_117 ob33 (ob34 b30) ?_
                  refine R_goto (tgt := 131) dX11_fit_118 (by decide) ?_
                  exact R_sub [] rfl (key _ (by rw [if_neg b30]))
              · have hf := hf.2 b29
                refine R_bipush (v := (-99)) dX11_fit_99 (by decide) ?_
                exact R_iret dX11_fit_101 rfl rfl hf
            · have hf := hf.2 b26
              refine R_aload_n dX11_fit_81 rfl 1 rfl ?_
              obtain ⟨ob36, hf⟩ := hf
              refine G11_4 dX11_fit_82 lfX11_38 ob36 ?_
              obtain ⟨ob37, hf⟩ := hf
              refine G1_9 dX11_fit_85 lfX11_195 ob37 ?_
              exact R_iret dX11_fit_88 rfl rfl hf
          · have hf := hf.2 b22
            refine R_bipush (v := (-99)) dX11_fit_57 (by decide) ?_
            exact R_iret dX11_fit_59 rfl rfl hf
      refine R_icmp_lt (tgt := 45) dX11_fit_26 (by decide) (fun b3 => ?_) (fun b3 => ?_)
      · refine R_iconst (v := 0) dX11_fit_45 (by decide) ?_
        have kb := key
        rw [show bi (¬ x3 < 10 ∧ ¬ 30 ≤ x3 ∧ ¬ 4 ≤ (x3 % 10)) = 0 from by simp only [bi, b3, false_and, and_false, true_and, and_true, not_true_eq_false, not_false_eq_true, if_true, if_false, true_or, or_true, false_or, or_false, reduceIte]] at kb
        exact R_sub [1, 2, 3, 4, 0] rfl kb
      · refine R_iload_n dX11_fit_29 rfl 4 rfl ?_
        refine R_bipush (v := 30) dX11_fit_30 (by decide) ?_
        refine R_icmp_ge (tgt := 45) dX11_fit_32 (by decide) (fun b4 => ?_) (fun b4 => ?_)
        · refine R_iconst (v := 0) dX11_fit_45 (by decide) ?_
          have kb := key
          rw [show bi (¬ x3 < 10 ∧ ¬ 30 ≤ x3 ∧ ¬ 4 ≤ (x3 % 10)) = 0 from by simp only [bi, b3, b4, false_and, and_false, true_and, and_true, not_true_eq_false, not_false_eq_true, if_true, if_false, true_or, or_true, false_or, or_false, reduceIte]] at kb
          exact R_sub [1, 2, 3, 4, 0] rfl kb
        · refine R_iload dX11_fit_35 0 rfl ?_
          refine R_iconst (v := 4) dX11_fit_37 (by decide) ?_
          refine R_icmp_ge (tgt := 45) dX11_fit_38 (by decide) (fun b5 => ?_) (fun b5 => ?_)
          · refine R_iconst (v := 0) dX11_fit_45 (by decide) ?_
            have kb := key
            rw [show bi (¬ x3 < 10 ∧ ¬ 30 ≤ x3 ∧ ¬ 4 ≤ (x3 % 10)) = 0 from by simp only [bi, b3, b4, b5, false_and, and_false, true_and, and_true, not_true_eq_false, not_false_eq_true, if_true, if_false, true_or, or_true, false_or, or_false, reduceIte]] at kb
            exact R_sub [1, 2, 3, 4, 0] rfl kb
          · refine R_iconst (v := 1) dX11_fit_41 (by decide) ?_
            refine R_goto (tgt := 46) dX11_fit_42 (by decide) ?_
            have kb := key
            rw [show bi (¬ x3 < 10 ∧ ¬ 30 ≤ x3 ∧ ¬ 4 ≤ (x3 % 10)) = 1 from by simp only [bi, b3, b4, b5, false_and, and_false, true_and, and_true, not_true_eq_false, not_false_eq_true, if_true, if_false, true_or, or_true, false_or, or_false, reduceIte]] at kb
            exact R_sub [1, 2, 3, 4, 0] rfl kb
    · have hf := hf.2 b2
      refine R_bipush (v := (-99)) dX11_fit_14 (by decide) ?_
      exact R_iret dX11_fit_16 rfl rfl hf
