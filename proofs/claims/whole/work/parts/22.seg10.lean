theorem dX11_mend_0 : decode cX11_mend 0 = .ok (.iload_n 1, 1) := by decide +kernel
theorem dX11_mend_1 : decode cX11_mend 1 = .ok (.invokestatic 150, 3) := by decide +kernel
theorem dX11_mend_4 : decode cX11_mend 4 = .ok (.ifCond .eq 15, 3) := by decide +kernel
theorem dX11_mend_7 : decode cX11_mend 7 = .ok (.iload_n 2, 1) := by decide +kernel
theorem dX11_mend_8 : decode cX11_mend 8 = .ok (.iload_n 3, 1) := by decide +kernel
theorem dX11_mend_9 : decode cX11_mend 9 = .ok (.iload 4, 2) := by decide +kernel
theorem dX11_mend_11 : decode cX11_mend 11 = .ok (.iload 5, 2) := by decide +kernel
theorem dX11_mend_13 : decode cX11_mend 13 = .ok (.invokestatic 158, 3) := by decide +kernel
theorem dX11_mend_16 : decode cX11_mend 16 = .ok (.ifCond .ne 6, 3) := by decide +kernel
theorem dX11_mend_19 : decode cX11_mend 19 = .ok (.bipush (-2), 2) := by decide +kernel
theorem dX11_mend_21 : decode cX11_mend 21 = .ok (.ireturn, 1) := by decide +kernel
theorem dX11_mend_22 : decode cX11_mend 22 = .ok (.aload_n 0, 1) := by decide +kernel
theorem dX11_mend_23 : decode cX11_mend 23 = .ok (.getfield 45, 3) := by decide +kernel
theorem dX11_mend_26 : decode cX11_mend 26 = .ok (.iload_n 2, 1) := by decide +kernel
theorem dX11_mend_27 : decode cX11_mend 27 = .ok (.iload_n 3, 1) := by decide +kernel
theorem dX11_mend_28 : decode cX11_mend 28 = .ok (.iload 4, 2) := by decide +kernel
theorem dX11_mend_30 : decode cX11_mend 30 = .ok (.iload 5, 2) := by decide +kernel
theorem dX11_mend_32 : decode cX11_mend 32 = .ok (.invokevirtual 208, 3) := by decide +kernel
theorem dX11_mend_35 : decode cX11_mend 35 = .ok (.aload_n 0, 1) := by decide +kernel
theorem dX11_mend_36 : decode cX11_mend 36 = .ok (.getfield 45, 3) := by decide +kernel
theorem dX11_mend_39 : decode cX11_mend 39 = .ok (.aload_n 0, 1) := by decide +kernel
theorem dX11_mend_40 : decode cX11_mend 40 = .ok (.getfield 24, 3) := by decide +kernel
theorem dX11_mend_43 : decode cX11_mend 43 = .ok (.iload_n 1, 1) := by decide +kernel
theorem dX11_mend_44 : decode cX11_mend 44 = .ok (.invokevirtual 212, 3) := by decide +kernel
theorem dX11_mend_47 : decode cX11_mend 47 = .ok (.ireturn, 1) := by decide +kernel
set_option maxRecDepth 20000 in
theorem sX11_mend_0 {P : Option Value → AH → Prop} (h : AH) (r0 : Nat) (x1 : Int32) (x2 : Int32) (x3 : Int32) (x4 : Int32) (x5 : Int32) (hf : (¬ (¬ x1 < 0 ∧ ¬ 4 ≤ x1) → P (some (.int (-2))) h) ∧ ((¬ x1 < 0 ∧ ¬ 4 ≤ x1) → (((¬ x2 < (-9) ∧ ¬ 9 < x2) ∧ (¬ x3 < (-9) ∧ ¬ 9 < x3) ∧ (¬ x4 < (-9) ∧ ¬ 9 < x4) ∧ ¬ x5 < 0 ∧ ¬ 9 < x5) → (isO h 11 r0) ∧ ((isO h 6 (gF h r0 5)) ∧ ((isO h 6 (gF (sI (sI (sI (sI h (gF h r0 5) 0 x2) (gF h r0 5) 1 x3) (gF h r0 5) 2 x4) (gF h r0 5) 3 x5) r0 5)) ∧ (Call mX6_find [.ref (gF (sI (sI (sI (sI h (gF h r0 5) 0 x2) (gF h r0 5) 1 x3) (gF h r0 5) 2 x4) (gF h r0 5) 3 x5) r0 5), .ref (gF (sI (sI (sI (sI h (gF h r0 5) 0 x2) (gF h r0 5) 1 x3) (gF h r0 5) 2 x4) (gF h r0 5) 3 x5) r0 2), .int x1] (sI (sI (sI (sI h (gF h r0 5) 0 x2) (gF h r0 5) 1 x3) (gF h r0 5) 2 x4) (gF h r0 5) 3 x5) (fun v h6 => ∃ z7 : Int32, v = some (.int z7) ∧ (P (some (.int z7)) h6)))))) ∧ (¬ ((¬ x2 < (-9) ∧ ¬ 9 < x2) ∧ (¬ x3 < (-9) ∧ ¬ 9 < x3) ∧ (¬ x4 < (-9) ∧ ¬ 9 < x4) ∧ ¬ x5 < 0 ∧ ¬ 9 < x5) → P (some (.int (-2))) h))) : Rr mX11_mend 0 0 0 [(0, .ref r0), (1, .int x1), (2, .int x2), (3, .int x3), (4, .int x4), (5, .int x5)] [] h P := by
  refine R_iload_n dX11_mend_0 rfl 1 rfl ?_
  refine R_callS (N := mX11_isInk) (as := [.int x1]) (rest := []) (kc2 := 0) (ks2 := 0) dX11_mend_1 lmX11_150 oX11_isInk (Nat.le_of_ble_eq_true rfl) rfl rfl (Nat.le_of_ble_eq_true rfl) rfl rfl (aX11_isInk  ?_)
  refine R_if_eq_b (tgt := 19) dX11_mend_4 (by decide) (fun b1 => ?_) (fun b1 => ?_)
  · have hf := hf.1 b1
    refine R_bipush (v := (-2)) dX11_mend_19 (by decide) ?_
    exact R_iret dX11_mend_21 rfl rfl hf
  · have hf := hf.2 b1
    refine R_iload_n dX11_mend_7 rfl 2 rfl ?_
    refine R_iload_n dX11_mend_8 rfl 3 rfl ?_
    refine R_iload dX11_mend_9 4 rfl ?_
    refine R_iload dX11_mend_11 5 rfl ?_
    refine R_callS (N := mX11_isSlip) (as := [.int x2, .int x3, .int x4, .int x5]) (rest := []) (kc2 := 0) (ks2 := 0) dX11_mend_13 lmX11_158 oX11_isSlip (Nat.le_of_ble_eq_true rfl) rfl rfl (Nat.le_of_ble_eq_true rfl) rfl rfl (aX11_isSlip  ?_)
    refine R_if_ne_b (tgt := 22) dX11_mend_16 (by decide) (fun b2 => ?_) (fun b2 => ?_)
    · have hf := hf.1 b2
      refine R_aload_n dX11_mend_22 rfl 0 rfl ?_
      obtain ⟨ob3, hf⟩ := hf
      refine G11_5 dX11_mend_23 lfX11_45 ob3 ?_
      refine R_iload_n dX11_mend_26 rfl 2 rfl ?_
      refine R_iload_n dX11_mend_27 rfl 3 rfl ?_
      refine R_iload dX11_mend_28 4 rfl ?_
      refine R_iload dX11_mend_30 5 rfl ?_
      obtain ⟨ob4, hf⟩ := hf
      refine R_callV (ci := 6) (N := mX6_begin) (as := [.int x2, .int x3, .int x4, .int x5]) (rest := []) (kc2 := 0) (ks2 := 0) dX11_mend_32 lmX11_208 oX6_begin (Nat.le_of_ble_eq_true rfl) rfl rfl (Nat.le_of_ble_eq_true rfl) rfl rfl ob4 ok6 (aX6_begin ob4 ?_)
      refine R_aload_n dX11_mend_35 rfl 0 rfl ?_
      refine G11_5 dX11_mend_36 lfX11_45 ob3 ?_
      refine R_aload_n dX11_mend_39 rfl 0 rfl ?_
      refine G11_2 dX11_mend_40 lfX11_24 ob3 ?_
      refine R_iload_n dX11_mend_43 rfl 1 rfl ?_
      obtain ⟨ob5, hf⟩ := hf
      refine R_callV (ci := 6) (N := mX6_find) (as := [.ref (gF (sI (sI (sI (sI h (gF h r0 5) 0 x2) (gF h r0 5) 1 x3) (gF h r0 5) 2 x4) (gF h r0 5) 3 x5) r0 2), .int x1]) (rest := []) (kc2 := 0) (ks2 := 0) dX11_mend_44 lmX11_212 oX6_find (Nat.le_of_ble_eq_true rfl) rfl rfl (Nat.le_of_ble_eq_true rfl) rfl rfl ob5 ok6 (Call.mono hf ?_)
      rintro _ h6 ⟨z7, rfl, hf⟩
      exact R_iret dX11_mend_47 rfl rfl hf
    · have hf := hf.2 b2
      refine R_bipush (v := (-2)) dX11_mend_19 (by decide) ?_
      exact R_iret dX11_mend_21 rfl rfl hf
theorem dX11_order_0 : decode cX11_order 0 = .ok (.iload_n 1, 1) := by decide +kernel
theorem dX11_order_1 : decode cX11_order 1 = .ok (.ifCond .lt 8, 3) := by decide +kernel
theorem dX11_order_4 : decode cX11_order 4 = .ok (.iload_n 1, 1) := by decide +kernel
theorem dX11_order_5 : decode cX11_order 5 = .ok (.iconst 4, 1) := by decide +kernel
theorem dX11_order_6 : decode cX11_order 6 = .ok (.if_icmp .le 6, 3) := by decide +kernel
theorem dX11_order_9 : decode cX11_order 9 = .ok (.bipush (-2), 2) := by decide +kernel
theorem dX11_order_11 : decode cX11_order 11 = .ok (.ireturn, 1) := by decide +kernel
theorem dX11_order_12 : decode cX11_order 12 = .ok (.aload_n 0, 1) := by decide +kernel
theorem dX11_order_13 : decode cX11_order 13 = .ok (.invokevirtual 379, 3) := by decide +kernel
theorem dX11_order_16 : decode cX11_order 16 = .ok (.istore_n 2, 1) := by decide +kernel
theorem dX11_order_17 : decode cX11_order 17 = .ok (.iload_n 1, 1) := by decide +kernel
theorem dX11_order_18 : decode cX11_order 18 = .ok (.ifCond .ne 7, 3) := by decide +kernel
theorem dX11_order_21 : decode cX11_order 21 = .ok (.iload_n 2, 1) := by decide +kernel
theorem dX11_order_22 : decode cX11_order 22 = .ok (.goto 11, 3) := by decide +kernel
theorem dX11_order_25 : decode cX11_order 25 = .ok (.aload_n 0, 1) := by decide +kernel
theorem dX11_order_26 : decode cX11_order 26 = .ok (.getfield 92, 3) := by decide +kernel
theorem dX11_order_29 : decode cX11_order 29 = .ok (.iload_n 1, 1) := by decide +kernel
theorem dX11_order_30 : decode cX11_order 30 = .ok (.iconst 1, 1) := by decide +kernel
theorem dX11_order_31 : decode cX11_order 31 = .ok (.isub, 1) := by decide +kernel
theorem dX11_order_32 : decode cX11_order 32 = .ok (.iaload, 1) := by decide +kernel
theorem dX11_order_33 : decode cX11_order 33 = .ok (.ireturn, 1) := by decide +kernel
set_option maxRecDepth 20000 in
theorem sX11_order_0 {P : Option Value → AH → Prop} (h : AH) (r0 : Nat) (x1 : Int32) (hf : (x1 < 0 → P (some (.int (-2))) h) ∧ (¬ x1 < 0 → (x1 ≤ 4 → (isO h 11 r0) ∧ (Call mX11_findOrder [.ref r0] h (fun v h4 => ∃ z5 : Int32, v = some (.int z5) ∧ ((isO h4 11 r0) ∧ ((isA h4 0 (gF h4 r0 14)) ∧ ((¬ x1 = 0 → vp_in (x1 - 1) (ln (gF h4 r0 14))) ∧ (∀ z10 : Int32, z10 = (if x1 = 0 then z5 else (gI h4 (gF h4 r0 14) (x1 - 1).toNatClampNeg)) → (P (some (.int z10)) h4)))))))) ∧ (¬ x1 ≤ 4 → P (some (.int (-2))) h))) : Rr mX11_order 0 0 0 [(0, .ref r0), (1, .int x1)] [] h P := by
  refine R_iload_n dX11_order_0 rfl 1 rfl ?_
  refine R_if_lt (tgt := 9) dX11_order_1 (by decide) (fun b1 => ?_) (fun b1 => ?_)
  · have hf := hf.1 b1
    refine R_bipush (v := (-2)) dX11_order_9 (by decide) ?_
    exact R_iret dX11_order_11 rfl rfl hf
  · have hf := hf.2 b1
    refine R_iload_n dX11_order_4 rfl 1 rfl ?_
    refine R_iconst (v := 4) dX11_order_5 (by decide) ?_
    refine R_icmp_le (tgt := 12) dX11_order_6 (by decide) (fun b2 => ?_) (fun b2 => ?_)
    · have hf := hf.1 b2
      refine R_aload_n dX11_order_12 rfl 0 rfl ?_
      obtain ⟨ob3, hf⟩ := hf
      refine R_callV (ci := 11) (N := mX11_findOrder) (as := []) (rest := []) (kc2 := 0) (ks2 := 0) dX11_order_13 lmX11_379 oX11_findOrder (Nat.le_of_ble_eq_true rfl) rfl rfl (Nat.le_of_ble_eq_true rfl) rfl rfl ob3 ok11 (Call.mono hf ?_)
      rintro _ h4 ⟨z5, rfl, hf⟩
      refine R_istore_n dX11_order_16 rfl (by decide) rfl ?_
      refine R_iload_n dX11_order_17 rfl 2 rfl ?_
      obtain ⟨ob7, hf⟩ := hf
      obtain ⟨ob8, hf⟩ := hf
      obtain ⟨ob9, hf⟩ := hf
      have key : ∀ z10 : Int32, z10 = (if x1 = 0 then z5 else (gI h4 (gF h4 r0 14) (x1 - 1).toNatClampNeg)) → Rr mX11_order 0 0 33 [] [.int z10] h4 P := by
        intro z10 ez10
        have hf := hf z10 ez10
        exact R_iret dX11_order_33 rfl rfl hf
      refine R_if_ne (tgt := 25) dX11_order_18 (by decide) (fun b6 => ?_) (fun b6 => ?_)
      · refine R_aload_n dX11_order_25 rfl 1 rfl ?_
        refine G11_14 dX11_order_26 lfX11_92 ob7 ?_
        refine R_iload_n dX11_order_29 rfl 2 rfl ?_
        refine R_iconst (v := 1) dX11_order_30 (by decide) ?_
        refine R_isub dX11_order_31 ?_
        refine R_iaload dX11_order_32 ob8 (ob9 b6) ?_
        exact R_sub [] rfl (key _ (by rw [if_neg b6]))
      · refine R_iload_n dX11_order_21 rfl 0 rfl ?_
        refine R_goto (tgt := 33) dX11_order_22 (by decide) ?_
        exact R_sub [] rfl (key _ (by rw [if_pos b6]))
    · have hf := hf.2 b2
      refine R_bipush (v := (-2)) dX11_order_9 (by decide) ?_
      exact R_iret dX11_order_11 rfl rfl hf
theorem dX11_setting_0 : decode cX11_setting 0 = .ok (.iload_n 1, 1) := by decide +kernel
theorem dX11_setting_1 : decode cX11_setting 1 = .ok (.ifCond .lt 8, 3) := by decide +kernel
theorem dX11_setting_4 : decode cX11_setting 4 = .ok (.iload_n 1, 1) := by decide +kernel
theorem dX11_setting_5 : decode cX11_setting 5 = .ok (.iconst 4, 1) := by decide +kernel
theorem dX11_setting_6 : decode cX11_setting 6 = .ok (.if_icmp .le 6, 3) := by decide +kernel
theorem dX11_setting_9 : decode cX11_setting 9 = .ok (.bipush (-2), 2) := by decide +kernel
theorem dX11_setting_11 : decode cX11_setting 11 = .ok (.ireturn, 1) := by decide +kernel
theorem dX11_setting_12 : decode cX11_setting 12 = .ok (.aload_n 0, 1) := by decide +kernel
theorem dX11_setting_13 : decode cX11_setting 13 = .ok (.getfield 24, 3) := by decide +kernel
theorem dX11_setting_16 : decode cX11_setting 16 = .ok (.getfield 141, 3) := by decide +kernel
theorem dX11_setting_19 : decode cX11_setting 19 = .ok (.getfield 372, 3) := by decide +kernel
theorem dX11_setting_22 : decode cX11_setting 22 = .ok (.iconst 4, 1) := by decide +kernel
theorem dX11_setting_23 : decode cX11_setting 23 = .ok (.if_icmp .ge 5, 3) := by decide +kernel
theorem dX11_setting_26 : decode cX11_setting 26 = .ok (.iconst (-1), 1) := by decide +kernel
theorem dX11_setting_27 : decode cX11_setting 27 = .ok (.ireturn, 1) := by decide +kernel
theorem dX11_setting_28 : decode cX11_setting 28 = .ok (.aload_n 0, 1) := by decide +kernel
theorem dX11_setting_29 : decode cX11_setting 29 = .ok (.getfield 24, 3) := by decide +kernel
theorem dX11_setting_32 : decode cX11_setting 32 = .ok (.getfield 141, 3) := by decide +kernel
theorem dX11_setting_35 : decode cX11_setting 35 = .ok (.invokevirtual 373, 3) := by decide +kernel
theorem dX11_setting_38 : decode cX11_setting 38 = .ok (.istore_n 2, 1) := by decide +kernel
theorem dX11_setting_39 : decode cX11_setting 39 = .ok (.iload_n 1, 1) := by decide +kernel
theorem dX11_setting_40 : decode cX11_setting 40 = .ok (.ifCond .ne 7, 3) := by decide +kernel
theorem dX11_setting_43 : decode cX11_setting 43 = .ok (.iload_n 2, 1) := by decide +kernel
theorem dX11_setting_44 : decode cX11_setting 44 = .ok (.goto 17, 3) := by decide +kernel
theorem dX11_setting_47 : decode cX11_setting 47 = .ok (.aload_n 0, 1) := by decide +kernel
theorem dX11_setting_48 : decode cX11_setting 48 = .ok (.getfield 24, 3) := by decide +kernel
theorem dX11_setting_51 : decode cX11_setting 51 = .ok (.getfield 141, 3) := by decide +kernel
theorem dX11_setting_54 : decode cX11_setting 54 = .ok (.getfield 376, 3) := by decide +kernel
theorem dX11_setting_57 : decode cX11_setting 57 = .ok (.iload_n 1, 1) := by decide +kernel
theorem dX11_setting_58 : decode cX11_setting 58 = .ok (.iconst 1, 1) := by decide +kernel
theorem dX11_setting_59 : decode cX11_setting 59 = .ok (.isub, 1) := by decide +kernel
theorem dX11_setting_60 : decode cX11_setting 60 = .ok (.iaload, 1) := by decide +kernel
theorem dX11_setting_61 : decode cX11_setting 61 = .ok (.ireturn, 1) := by decide +kernel
set_option maxRecDepth 20000 in
theorem sX11_setting_0 {P : Option Value → AH → Prop} (h : AH) (r0 : Nat) (x1 : Int32) (hf : (x1 < 0 → P (some (.int (-2))) h) ∧ (¬ x1 < 0 → (x1 ≤ 4 → (isO h 11 r0) ∧ ((isO h 3 (gF h r0 2)) ∧ ((isO h 8 (gF h (gF h r0 2) 14)) ∧ ((4 ≤ (gI h (gF h (gF h r0 2) 14) 0) → Call mX8_findSetting [.ref (gF h (gF h r0 2) 14)] h (fun v h7 => ∃ z8 : Int32, v = some (.int z8) ∧ ((isO h7 11 r0) ∧ ((isO h7 3 (gF h7 r0 2)) ∧ ((isO h7 8 (gF h7 (gF h7 r0 2) 14)) ∧ ((isA h7 0 (gF h7 (gF h7 (gF h7 r0 2) 14) 3)) ∧ ((¬ x1 = 0 → vp_in (x1 - 1) (ln (gF h7 (gF h7 (gF h7 r0 2) 14) 3))) ∧ (∀ z15 : Int32, z15 = (if x1 = 0 then z8 else (gI h7 (gF h7 (gF h7 (gF h7 r0 2) 14) 3) (x1 - 1).toNatClampNeg)) → (P (some (.int z15)) h7))))))))) ∧ (¬ 4 ≤ (gI h (gF h (gF h r0 2) 14) 0) → P (some (.int (-1))) h))))) ∧ (¬ x1 ≤ 4 → P (some (.int (-2))) h))) : Rr mX11_setting 0 0 0 [(0, .ref r0), (1, .int x1)] [] h P := by
  refine R_iload_n dX11_setting_0 rfl 1 rfl ?_
  refine R_if_lt (tgt := 9) dX11_setting_1 (by decide) (fun b1 => ?_) (fun b1 => ?_)
  · have hf := hf.1 b1
    refine R_bipush (v := (-2)) dX11_setting_9 (by decide) ?_
    exact R_iret dX11_setting_11 rfl rfl hf
  · have hf := hf.2 b1
    refine R_iload_n dX11_setting_4 rfl 1 rfl ?_
    refine R_iconst (v := 4) dX11_setting_5 (by decide) ?_
    refine R_icmp_le (tgt := 12) dX11_setting_6 (by decide) (fun b2 => ?_) (fun b2 => ?_)
    · have hf := hf.1 b2
      refine R_aload_n dX11_setting_12 rfl 0 rfl ?_
      obtain ⟨ob3, hf⟩ := hf
      refine G11_2 dX11_setting_13 lfX11_24 ob3 ?_
      obtain ⟨ob4, hf⟩ := hf
      refine G3_14 dX11_setting_16 lfX11_141 ob4 ?_
      obtain ⟨ob5, hf⟩ := hf
      refine G8_0 dX11_setting_19 lfX11_372 ob5 ?_
      refine R_iconst (v := 4) dX11_setting_22 (by decide) ?_
      refine R_icmp_ge (tgt := 28) dX11_setting_23 (by decide) (fun b6 => ?_) (fun b6 => ?_)
      · have hf := hf.1 b6
        refine R_aload_n dX11_setting_28 rfl 0 rfl ?_
        refine G11_2 dX11_setting_29 lfX11_24 ob3 ?_
        refine G3_14 dX11_setting_32 lfX11_141 ob4 ?_
        refine R_callV (ci := 8) (N := mX8_findSetting) (as := []) (rest := []) (kc2 := 0) (ks2 := 0) dX11_setting_35 lmX11_373 oX8_findSetting (Nat.le_of_ble_eq_true rfl) rfl rfl (Nat.le_of_ble_eq_true rfl) rfl rfl ob5 ok8 (Call.mono hf ?_)
        rintro _ h7 ⟨z8, rfl, hf⟩
        refine R_istore_n dX11_setting_38 rfl (by decide) rfl ?_
        refine R_iload_n dX11_setting_39 rfl 2 rfl ?_
        obtain ⟨ob10, hf⟩ := hf
        obtain ⟨ob11, hf⟩ := hf
        obtain ⟨ob12, hf⟩ := hf
        obtain ⟨ob13, hf⟩ := hf
        obtain ⟨ob14, hf⟩ := hf
        have key : ∀ z15 : Int32, z15 = (if x1 = 0 then z8 else (gI h7 (gF h7 (gF h7 (gF h7 r0 2) 14) 3) (x1 - 1).toNatClampNeg)) → Rr mX11_setting 0 0 61 [] [.int z15] h7 P := by
          intro z15 ez15
          have hf := hf z15 ez15
          exact R_iret dX11_setting_61 rfl rfl hf
        refine R_if_ne (tgt := 47) dX11_setting_40 (by decide) (fun b9 => ?_) (fun b9 => ?_)
        · refine R_aload_n dX11_setting_47 rfl 1 rfl ?_
          refine G11_2 dX11_setting_48 lfX11_24 ob10 ?_
          refine G3_14 dX11_setting_51 lfX11_141 ob11 ?_
          refine G8_3 dX11_setting_54 lfX11_376 ob12 ?_
          refine R_iload_n dX11_setting_57 rfl 2 rfl ?_
          refine R_iconst (v := 1) dX11_setting_58 (by decide) ?_
          refine R_isub dX11_setting_59 ?_
          refine R_iaload dX11_setting_60 ob13 (ob14 b9) ?_
          exact R_sub [] rfl (key _ (by rw [if_neg b9]))
        · refine R_iload_n dX11_setting_43 rfl 0 rfl ?_
          refine R_goto (tgt := 61) dX11_setting_44 (by decide) ?_
          exact R_sub [] rfl (key _ (by rw [if_pos b9]))
      · have hf := hf.2 b6
        refine R_iconst (v := (-1)) dX11_setting_26 (by decide) ?_
        exact R_iret dX11_setting_27 rfl rfl hf
    · have hf := hf.2 b2
      refine R_bipush (v := (-2)) dX11_setting_9 (by decide) ?_
      exact R_iret dX11_setting_11 rfl rfl hf
theorem dX11_sure_0 : decode cX11_sure 0 = .ok (.iload_n 1, 1) := by decide +kernel
theorem dX11_sure_1 : decode cX11_sure 1 = .ok (.invokestatic 150, 3) := by decide +kernel
theorem dX11_sure_4 : decode cX11_sure 4 = .ok (.ifCond .eq 10, 3) := by decide +kernel
theorem dX11_sure_7 : decode cX11_sure 7 = .ok (.iload_n 2, 1) := by decide +kernel
theorem dX11_sure_8 : decode cX11_sure 8 = .ok (.invokestatic 188, 3) := by decide +kernel
theorem dX11_sure_11 : decode cX11_sure 11 = .ok (.ifCond .ne 6, 3) := by decide +kernel
theorem dX11_sure_14 : decode cX11_sure 14 = .ok (.bipush (-2), 2) := by decide +kernel
theorem dX11_sure_16 : decode cX11_sure 16 = .ok (.ireturn, 1) := by decide +kernel
theorem dX11_sure_17 : decode cX11_sure 17 = .ok (.aload_n 0, 1) := by decide +kernel
theorem dX11_sure_18 : decode cX11_sure 18 = .ok (.getfield 38, 3) := by decide +kernel
theorem dX11_sure_21 : decode cX11_sure 21 = .ok (.aload_n 0, 1) := by decide +kernel
theorem dX11_sure_22 : decode cX11_sure 22 = .ok (.getfield 24, 3) := by decide +kernel
theorem dX11_sure_25 : decode cX11_sure 25 = .ok (.aload_n 0, 1) := by decide +kernel
theorem dX11_sure_26 : decode cX11_sure 26 = .ok (.getfield 31, 3) := by decide +kernel
theorem dX11_sure_29 : decode cX11_sure 29 = .ok (.iload_n 1, 1) := by decide +kernel
theorem dX11_sure_30 : decode cX11_sure 30 = .ok (.iload_n 2, 1) := by decide +kernel
theorem dX11_sure_31 : decode cX11_sure 31 = .ok (.invokevirtual 191, 3) := by decide +kernel
theorem dX11_sure_34 : decode cX11_sure 34 = .ok (.aload_n 0, 1) := by decide +kernel
theorem dX11_sure_35 : decode cX11_sure 35 = .ok (.getfield 38, 3) := by decide +kernel
theorem dX11_sure_38 : decode cX11_sure 38 = .ok (.getfield 195, 3) := by decide +kernel
theorem dX11_sure_41 : decode cX11_sure 41 = .ok (.ifCond .ne 7, 3) := by decide +kernel
theorem dX11_sure_44 : decode cX11_sure 44 = .ok (.iconst (-1), 1) := by decide +kernel
theorem dX11_sure_45 : decode cX11_sure 45 = .ok (.goto 10, 3) := by decide +kernel
theorem dX11_sure_48 : decode cX11_sure 48 = .ok (.aload_n 0, 1) := by decide +kernel
theorem dX11_sure_49 : decode cX11_sure 49 = .ok (.getfield 38, 3) := by decide +kernel
theorem dX11_sure_52 : decode cX11_sure 52 = .ok (.invokevirtual 204, 3) := by decide +kernel
theorem dX11_sure_55 : decode cX11_sure 55 = .ok (.ireturn, 1) := by decide +kernel
set_option maxRecDepth 20000 in
theorem sX11_sure_0 {P : Option Value → AH → Prop} (h : AH) (r0 : Nat) (x1 : Int32) (x2 : Int32) (hf : (¬ (¬ x1 < 0 ∧ ¬ 4 ≤ x1) → P (some (.int (-2))) h) ∧ ((¬ x1 < 0 ∧ ¬ 4 ≤ x1) → ((¬ x2 < 0 ∧ ¬ 999 < x2) → (isO h 11 r0) ∧ ((isO h 1 (gF h r0 4)) ∧ (Call mX1_find [.ref (gF h r0 4), .ref (gF h r0 2), .ref (gF h r0 3), .int x1, .int x2] h (fun v h5 => v = none ∧ ((isO h5 11 r0) ∧ ((isO h5 1 (gF h5 r0 4)) ∧ ((¬ (gI h5 (gF h5 r0 4) 9) = 0 → Call mX1_sureBits [.ref (gF h5 r0 4)] h5 (fun v h9 => ∃ z10 : Int32, v = some (.int z10) ∧ (P (some (.int z10)) h9))) ∧ ((gI h5 (gF h5 r0 4) 9) = 0 → P (some (.int (-1))) h5)))))))) ∧ (¬ (¬ x2 < 0 ∧ ¬ 999 < x2) → P (some (.int (-2))) h))) : Rr mX11_sure 0 0 0 [(0, .ref r0), (1, .int x1), (2, .int x2)] [] h P := by
  refine R_iload_n dX11_sure_0 rfl 1 rfl ?_
  refine R_callS (N := mX11_isInk) (as := [.int x1]) (rest := []) (kc2 := 0) (ks2 := 0) dX11_sure_1 lmX11_150 oX11_isInk (Nat.le_of_ble_eq_true rfl) rfl rfl (Nat.le_of_ble_eq_true rfl) rfl rfl (aX11_isInk  ?_)
  refine R_if_eq_b (tgt := 14) dX11_sure_4 (by decide) (fun b1 => ?_) (fun b1 => ?_)
  · have hf := hf.1 b1
    refine R_bipush (v := (-2)) dX11_sure_14 (by decide) ?_
    exact R_iret dX11_sure_16 rfl rfl hf
  · have hf := hf.2 b1
    refine R_iload_n dX11_sure_7 rfl 2 rfl ?_
    refine R_callS (N := mX7_isStep) (as := [.int x2]) (rest := []) (kc2 := 0) (ks2 := 0) dX11_sure_8 lmX11_188 oX7_isStep (Nat.le_of_ble_eq_true rfl) rfl rfl (Nat.le_of_ble_eq_true rfl) rfl rfl (aX7_isStep  ?_)
    refine R_if_ne_b (tgt := 17) dX11_sure_11 (by decide) (fun b2 => ?_) (fun b2 => ?_)
    · have hf := hf.1 b2
      refine R_aload_n dX11_sure_17 rfl 0 rfl ?_
      obtain ⟨ob3, hf⟩ := hf
      refine G11_4 dX11_sure_18 lfX11_38 ob3 ?_
      refine R_aload_n dX11_sure_21 rfl 0 rfl ?_
      refine G11_2 dX11_sure_22 lfX11_24 ob3 ?_
      refine R_aload_n dX11_sure_25 rfl 0 rfl ?_
      refine G11_3 dX11_sure_26 lfX11_31 ob3 ?_
      refine R_iload_n dX11_sure_29 rfl 1 rfl ?_
      refine R_iload_n dX11_sure_30 rfl 2 rfl ?_
      obtain ⟨ob4, hf⟩ := hf
      refine R_callV (ci := 1) (N := mX1_find) (as := [.ref (gF h r0 2), .ref (gF h r0 3), .int x1, .int x2]) (rest := []) (kc2 := 0) (ks2 := 0) dX11_sure_31 lmX11_191 oX1_find (Nat.le_of_ble_eq_true rfl) rfl rfl (Nat.le_of_ble_eq_true rfl) rfl rfl ob4 ok1 (Call.mono hf ?_)
      rintro _ h5 ⟨rfl, hf⟩
      refine R_aload_n dX11_sure_34 rfl 0 rfl ?_
      obtain ⟨ob6, hf⟩ := hf
      refine G11_4 dX11_sure_35 lfX11_38 ob6 ?_
      obtain ⟨ob7, hf⟩ := hf
      refine G1_9 dX11_sure_38 lfX11_195 ob7 ?_
      refine R_if_ne (tgt := 48) dX11_sure_41 (by decide) (fun b8 => ?_) (fun b8 => ?_)
      · have hf := hf.1 b8
        refine R_aload_n dX11_sure_48 rfl 0 rfl ?_
        refine G11_4 dX11_sure_49 lfX11_38 ob6 ?_
        refine R_callV (ci := 1) (N := mX1_sureBits) (as := []) (rest := []) (kc2 := 0) (ks2 := 0) dX11_sure_52 lmX11_204 oX1_sureBits (Nat.le_of_ble_eq_true rfl) rfl rfl (Nat.le_of_ble_eq_true rfl) rfl rfl ob7 ok1 (Call.mono hf ?_)
        rintro _ h9 ⟨z10, rfl, hf⟩
        exact R_iret dX11_sure_55 rfl rfl hf
      · have hf := hf.2 b8
        refine R_iconst (v := (-1)) dX11_sure_44 (by decide) ?_
        refine R_goto (tgt := 55) dX11_sure_45 (by decide) ?_
        exact R_iret dX11_sure_55 rfl rfl hf
    · have hf := hf.2 b2
      refine R_bipush (v := (-2)) dX11_sure_14 (by decide) ?_
      exact R_iret dX11_sure_16 rfl rfl hf
theorem dX11_worst_0 : decode cX11_worst 0 = .ok (.iload_n 1, 1) := by decide +kernel
theorem dX11_worst_1 : decode cX11_worst 1 = .ok (.iload_n 2, 1) := by decide +kernel
theorem dX11_worst_2 : decode cX11_worst 2 = .ok (.invokestatic 236, 3) := by decide +kernel
theorem dX11_worst_5 : decode cX11_worst 5 = .ok (.ifCond .eq 26, 3) := by decide +kernel
theorem dX11_worst_8 : decode cX11_worst 8 = .ok (.iload_n 3, 1) := by decide +kernel
theorem dX11_worst_9 : decode cX11_worst 9 = .ok (.invokestatic 220, 3) := by decide +kernel
theorem dX11_worst_12 : decode cX11_worst 12 = .ok (.ifCond .eq 19, 3) := by decide +kernel
theorem dX11_worst_15 : decode cX11_worst 15 = .ok (.iload 4, 2) := by decide +kernel
theorem dX11_worst_17 : decode cX11_worst 17 = .ok (.invokestatic 220, 3) := by decide +kernel
theorem dX11_worst_20 : decode cX11_worst 20 = .ok (.ifCond .eq 11, 3) := by decide +kernel
theorem dX11_worst_23 : decode cX11_worst 23 = .ok (.iload 5, 2) := by decide +kernel
theorem dX11_worst_25 : decode cX11_worst 25 = .ok (.invokestatic 257, 3) := by decide +kernel
theorem dX11_worst_28 : decode cX11_worst 28 = .ok (.ifCond .ne 6, 3) := by decide +kernel
theorem dX11_worst_31 : decode cX11_worst 31 = .ok (.bipush (-2), 2) := by decide +kernel
theorem dX11_worst_33 : decode cX11_worst 33 = .ok (.ireturn, 1) := by decide +kernel
theorem dX11_worst_34 : decode cX11_worst 34 = .ok (.aload_n 0, 1) := by decide +kernel
theorem dX11_worst_35 : decode cX11_worst 35 = .ok (.getfield 52, 3) := by decide +kernel
theorem dX11_worst_38 : decode cX11_worst 38 = .ok (.aload_n 0, 1) := by decide +kernel
theorem dX11_worst_39 : decode cX11_worst 39 = .ok (.getfield 24, 3) := by decide +kernel
theorem dX11_worst_42 : decode cX11_worst 42 = .ok (.iload_n 1, 1) := by decide +kernel
theorem dX11_worst_43 : decode cX11_worst 43 = .ok (.iload_n 2, 1) := by decide +kernel
theorem dX11_worst_44 : decode cX11_worst 44 = .ok (.iload_n 3, 1) := by decide +kernel
theorem dX11_worst_45 : decode cX11_worst 45 = .ok (.iload 4, 2) := by decide +kernel
theorem dX11_worst_47 : decode cX11_worst 47 = .ok (.invokevirtual 243, 3) := by decide +kernel
theorem dX11_worst_50 : decode cX11_worst 50 = .ok (.aload_n 0, 1) := by decide +kernel
theorem dX11_worst_51 : decode cX11_worst 51 = .ok (.getfield 52, 3) := by decide +kernel
theorem dX11_worst_54 : decode cX11_worst 54 = .ok (.iload 5, 2) := by decide +kernel
theorem dX11_worst_56 : decode cX11_worst 56 = .ok (.invokevirtual 260, 3) := by decide +kernel
theorem dX11_worst_59 : decode cX11_worst 59 = .ok (.ireturn, 1) := by decide +kernel
set_option maxRecDepth 20000 in
theorem sX11_worst_0 {P : Option Value → AH → Prop} (h : AH) (r0 : Nat) (x1 : Int32) (x2 : Int32) (x3 : Int32) (x4 : Int32) (x5 : Int32) (hf : (¬ ((¬ x1 < 0 ∧ ¬ 4 ≤ x1) ∧ (¬ x2 < 0 ∧ ¬ 4 ≤ x2) ∧ ¬ x1 = x2) → P (some (.int (-2))) h) ∧ (((¬ x1 < 0 ∧ ¬ 4 ≤ x1) ∧ (¬ x2 < 0 ∧ ¬ 4 ≤ x2) ∧ ¬ x1 = x2) → (¬ (¬ x3 < (-2) ∧ ¬ 2 < x3) → P (some (.int (-2))) h) ∧ ((¬ x3 < (-2) ∧ ¬ 2 < x3) → (¬ (¬ x4 < (-2) ∧ ¬ 2 < x4) → P (some (.int (-2))) h) ∧ ((¬ x4 < (-2) ∧ ¬ 2 < x4) → ((¬ x5 < 0 ∧ ¬ 2 < x5) → (isO h 11 r0) ∧ ((isO h 5 (gF h r0 6)) ∧ (Call mX5_lay [.ref (gF h r0 6), .ref (gF h r0 2), .int x1, .int x2, .int x3, .int x4] h (fun v h7 => v = none ∧ ((isO h7 11 r0) ∧ ((isO h7 5 (gF h7 r0 6)) ∧ (Call mX5_worstWithin [.ref (gF h7 r0 6), .int x5] h7 (fun v h10 => ∃ z11 : Int32, v = some (.int z11) ∧ (P (some (.int z11)) h10))))))))) ∧ (¬ (¬ x5 < 0 ∧ ¬ 2 < x5) → P (some (.int (-2))) h))))) : Rr mX11_worst 0 0 0 [(0, .ref r0), (1, .int x1), (2, .int x2), (3, .int x3), (4, .int x4), (5, .int x5)] [] h P := by
  refine R_iload_n dX11_worst_0 rfl 1 rfl ?_
  refine R_iload_n dX11_worst_1 rfl 2 rfl ?_
  refine R_callS (N := mX11_areUnlikeInks) (as := [.int x1, .int x2]) (rest := []) (kc2 := 0) (ks2 := 0) dX11_worst_2 lmX11_236 oX11_areUnlikeInks (Nat.le_of_ble_eq_true rfl) rfl rfl (Nat.le_of_ble_eq_true rfl) rfl rfl (aX11_areUnlikeInks  ?_)
  refine R_if_eq_b (tgt := 31) dX11_worst_5 (by decide) (fun b1 => ?_) (fun b1 => ?_)
  · have hf := hf.1 b1
    refine R_bipush (v := (-2)) dX11_worst_31 (by decide) ?_
    exact R_iret dX11_worst_33 rfl rfl hf
  · have hf := hf.2 b1
    refine R_iload_n dX11_worst_8 rfl 3 rfl ?_
    refine R_callS (N := mX11_isSpread) (as := [.int x3]) (rest := []) (kc2 := 0) (ks2 := 0) dX11_worst_9 lmX11_220 oX11_isSpread (Nat.le_of_ble_eq_true rfl) rfl rfl (Nat.le_of_ble_eq_true rfl) rfl rfl (aX11_isSpread  ?_)
    refine R_if_eq_b (tgt := 31) dX11_worst_12 (by decide) (fun b2 => ?_) (fun b2 => ?_)
    · have hf := hf.1 b2
      refine R_bipush (v := (-2)) dX11_worst_31 (by decide) ?_
      exact R_iret dX11_worst_33 rfl rfl hf
    · have hf := hf.2 b2
      refine R_iload dX11_worst_15 4 rfl ?_
      refine R_callS (N := mX11_isSpread) (as := [.int x4]) (rest := []) (kc2 := 0) (ks2 := 0) dX11_worst_17 lmX11_220 oX11_isSpread (Nat.le_of_ble_eq_true rfl) rfl rfl (Nat.le_of_ble_eq_true rfl) rfl rfl (aX11_isSpread  ?_)
      refine R_if_eq_b (tgt := 31) dX11_worst_20 (by decide) (fun b3 => ?_) (fun b3 => ?_)
      · have hf := hf.1 b3
        refine R_bipush (v := (-2)) dX11_worst_31 (by decide) ?_
        exact R_iret dX11_worst_33 rfl rfl hf
      · have hf := hf.2 b3
        refine R_iload dX11_worst_23 5 rfl ?_
        refine R_callS (N := mX11_isReach) (as := [.int x5]) (rest := []) (kc2 := 0) (ks2 := 0) dX11_worst_25 lmX11_257 oX11_isReach (Nat.le_of_ble_eq_true rfl) rfl rfl (Nat.le_of_ble_eq_true rfl) rfl rfl (aX11_isReach  ?_)
        refine R_if_ne_b (tgt := 34) dX11_worst_28 (by decide) (fun b4 => ?_) (fun b4 => ?_)
        · have hf := hf.1 b4
          refine R_aload_n dX11_worst_34 rfl 0 rfl ?_
          obtain ⟨ob5, hf⟩ := hf
          refine G11_6 dX11_worst_35 lfX11_52 ob5 ?_
          refine R_aload_n dX11_worst_38 rfl 0 rfl ?_
          refine G11_2 dX11_worst_39 lfX11_24 ob5 ?_
          refine R_iload_n dX11_worst_42 rfl 1 rfl ?_
          refine R_iload_n dX11_worst_43 rfl 2 rfl ?_
          refine R_iload_n dX11_worst_44 rfl 3 rfl ?_
          refine R_iload dX11_worst_45 4 rfl ?_
          obtain ⟨ob6, hf⟩ := hf
          refine R_callV (ci := 5) (N := mX5_lay) (as := [.ref (gF h r0 2), .int x1, .int x2, .int x3, .int x4]) (rest := []) (kc2 := 0) (ks2 := 0) dX11_worst_47 lmX11_243 oX5_lay (Nat.le_of_ble_eq_true rfl) rfl rfl (Nat.le_of_ble_eq_true rfl) rfl rfl ob6 ok5 (Call.mono hf ?_)
          rintro _ h7 ⟨rfl, hf⟩
          refine R_aload_n dX11_worst_50 rfl 0 rfl ?_
          obtain ⟨ob8, hf⟩ := hf
          refine G11_6 dX11_worst_51 lfX11_52 ob8 ?_
          refine R_iload dX11_worst_54 5 rfl ?_
          obtain ⟨ob9, hf⟩ := hf
          refine R_callV (ci := 5) (N := mX5_worstWithin) (as := [.int x5]) (rest := []) (kc2 := 0) (ks2 := 0) dX11_worst_56 lmX11_260 oX5_worstWithin (Nat.le_of_ble_eq_true rfl) rfl rfl (Nat.le_of_ble_eq_true rfl) rfl rfl ob9 ok5 (Call.mono hf ?_)
          rintro _ h10 ⟨z11, rfl, hf⟩
          exact R_iret dX11_worst_59 rfl rfl hf
        · have hf := hf.2 b4
          refine R_bipush (v := (-2)) dX11_worst_31 (by decide) ?_
          exact R_iret dX11_worst_33 rfl rfl hf
theorem dX12_best_0 : decode cX12_best 0 = .ok (.iload_n 1, 1) := by decide +kernel
theorem dX12_best_1 : decode cX12_best 1 = .ok (.iload_n 2, 1) := by decide +kernel
theorem dX12_best_2 : decode cX12_best 2 = .ok (.invokestatic 319, 3) := by decide +kernel
theorem dX12_best_5 : decode cX12_best 5 = .ok (.ifCond .eq 12, 3) := by decide +kernel
theorem dX12_best_8 : decode cX12_best 8 = .ok (.iload_n 3, 1) := by decide +kernel
theorem dX12_best_9 : decode cX12_best 9 = .ok (.iconst 0, 1) := by decide +kernel
theorem dX12_best_10 : decode cX12_best 10 = .ok (.iconst 2, 1) := by decide +kernel
theorem dX12_best_11 : decode cX12_best 11 = .ok (.invokestatic 178, 3) := by decide +kernel
theorem dX12_best_14 : decode cX12_best 14 = .ok (.ifCond .ne 6, 3) := by decide +kernel
theorem dX12_best_17 : decode cX12_best 17 = .ok (.bipush (-2), 2) := by decide +kernel
theorem dX12_best_19 : decode cX12_best 19 = .ok (.ireturn, 1) := by decide +kernel
theorem dX12_best_20 : decode cX12_best 20 = .ok (.iconst 0, 1) := by decide +kernel
theorem dX12_best_21 : decode cX12_best 21 = .ok (.istore 4, 2) := by decide +kernel
theorem dX12_best_23 : decode cX12_best 23 = .ok (.iconst 0, 1) := by decide +kernel
theorem dX12_best_24 : decode cX12_best 24 = .ok (.istore 5, 2) := by decide +kernel
theorem dX12_best_26 : decode cX12_best 26 = .ok (.bipush (-2), 2) := by decide +kernel
theorem dX12_best_28 : decode cX12_best 28 = .ok (.istore 6, 2) := by decide +kernel
theorem dX12_best_30 : decode cX12_best 30 = .ok (.iload 6, 2) := by decide +kernel
theorem dX12_best_32 : decode cX12_best 32 = .ok (.iconst 3, 1) := by decide +kernel
theorem dX12_best_33 : decode cX12_best 33 = .ok (.if_icmp .ge 108, 3) := by decide +kernel
theorem dX12_best_36 : decode cX12_best 36 = .ok (.bipush (-2), 2) := by decide +kernel
theorem dX12_best_38 : decode cX12_best 38 = .ok (.istore 7, 2) := by decide +kernel
theorem dX12_best_40 : decode cX12_best 40 = .ok (.iload 7, 2) := by decide +kernel
theorem dX12_best_42 : decode cX12_best 42 = .ok (.iconst 3, 1) := by decide +kernel
theorem dX12_best_43 : decode cX12_best 43 = .ok (.if_icmp .ge 92, 3) := by decide +kernel
theorem dX12_best_46 : decode cX12_best 46 = .ok (.aload_n 0, 1) := by decide +kernel
theorem dX12_best_47 : decode cX12_best 47 = .ok (.iload_n 1, 1) := by decide +kernel
theorem dX12_best_48 : decode cX12_best 48 = .ok (.iload_n 2, 1) := by decide +kernel
theorem dX12_best_49 : decode cX12_best 49 = .ok (.iload 6, 2) := by decide +kernel
theorem dX12_best_51 : decode cX12_best 51 = .ok (.iload 7, 2) := by decide +kernel
theorem dX12_best_53 : decode cX12_best 53 = .ok (.iload_n 3, 1) := by decide +kernel
theorem dX12_best_54 : decode cX12_best 54 = .ok (.invokevirtual 326, 3) := by decide +kernel
theorem dX12_best_57 : decode cX12_best 57 = .ok (.istore 8, 2) := by decide +kernel
theorem dX12_best_59 : decode cX12_best 59 = .ok (.iload 4, 2) := by decide +kernel
theorem dX12_best_61 : decode cX12_best 61 = .ok (.ifCond .eq 49, 3) := by decide +kernel
theorem dX12_best_64 : decode cX12_best 64 = .ok (.iload 8, 2) := by decide +kernel
theorem dX12_best_66 : decode cX12_best 66 = .ok (.iload 5, 2) := by decide +kernel
theorem dX12_best_68 : decode cX12_best 68 = .ok (.if_icmp .gt 61, 3) := by decide +kernel
theorem dX12_best_71 : decode cX12_best 71 = .ok (.iload 8, 2) := by decide +kernel
theorem dX12_best_73 : decode cX12_best 73 = .ok (.iload 5, 2) := by decide +kernel
theorem dX12_best_75 : decode cX12_best 75 = .ok (.if_icmp .ne 35, 3) := by decide +kernel
theorem dX12_best_78 : decode cX12_best 78 = .ok (.iload 6, 2) := by decide +kernel
theorem dX12_best_80 : decode cX12_best 80 = .ok (.invokestatic 276, 3) := by decide +kernel
theorem dX12_best_83 : decode cX12_best 83 = .ok (.iload 7, 2) := by decide +kernel
theorem dX12_best_85 : decode cX12_best 85 = .ok (.invokestatic 276, 3) := by decide +kernel
theorem dX12_best_88 : decode cX12_best 88 = .ok (.iadd, 1) := by decide +kernel
theorem dX12_best_89 : decode cX12_best 89 = .ok (.aload_n 0, 1) := by decide +kernel
theorem dX12_best_90 : decode cX12_best 90 = .ok (.getfield 329, 3) := by decide +kernel
theorem dX12_best_93 : decode cX12_best 93 = .ok (.invokestatic 276, 3) := by decide +kernel
theorem dX12_best_96 : decode cX12_best 96 = .ok (.aload_n 0, 1) := by decide +kernel
theorem dX12_best_97 : decode cX12_best 97 = .ok (.getfield 332, 3) := by decide +kernel
theorem dX12_best_100 : decode cX12_best 100 = .ok (.invokestatic 276, 3) := by decide +kernel
theorem dX12_best_103 : decode cX12_best 103 = .ok (.iadd, 1) := by decide +kernel
theorem dX12_best_104 : decode cX12_best 104 = .ok (.if_icmp .lt 6, 3) := by decide +kernel
theorem dX12_best_107 : decode cX12_best 107 = .ok (.goto 22, 3) := by decide +kernel
theorem dX12_best_110 : decode cX12_best 110 = .ok (.iconst 1, 1) := by decide +kernel
theorem dX12_best_111 : decode cX12_best 111 = .ok (.istore 4, 2) := by decide +kernel
theorem dX12_best_113 : decode cX12_best 113 = .ok (.iload 8, 2) := by decide +kernel
theorem dX12_best_115 : decode cX12_best 115 = .ok (.istore 5, 2) := by decide +kernel
theorem dX12_best_117 : decode cX12_best 117 = .ok (.aload_n 0, 1) := by decide +kernel
theorem dX12_best_118 : decode cX12_best 118 = .ok (.iload 6, 2) := by decide +kernel
theorem dX12_best_120 : decode cX12_best 120 = .ok (.putfield 329, 3) := by decide +kernel
theorem dX12_best_123 : decode cX12_best 123 = .ok (.aload_n 0, 1) := by decide +kernel
theorem dX12_best_124 : decode cX12_best 124 = .ok (.iload 7, 2) := by decide +kernel
theorem dX12_best_126 : decode cX12_best 126 = .ok (.putfield 332, 3) := by decide +kernel
theorem dX12_best_129 : decode cX12_best 129 = .ok (.iinc 7 1, 3) := by decide +kernel
theorem dX12_best_132 : decode cX12_best 132 = .ok (.goto (-92), 3) := by decide +kernel
theorem dX12_best_135 : decode cX12_best 135 = .ok (.iinc 6 1, 3) := by decide +kernel
theorem dX12_best_138 : decode cX12_best 138 = .ok (.goto (-108), 3) := by decide +kernel
theorem dX12_best_141 : decode cX12_best 141 = .ok (.aload_n 0, 1) := by decide +kernel
theorem dX12_best_142 : decode cX12_best 142 = .ok (.iconst 1, 1) := by decide +kernel
theorem dX12_best_143 : decode cX12_best 143 = .ok (.putfield 211, 3) := by decide +kernel
theorem dX12_best_146 : decode cX12_best 146 = .ok (.iload 5, 2) := by decide +kernel
theorem dX12_best_148 : decode cX12_best 148 = .ok (.ireturn, 1) := by decide +kernel
set_option maxRecDepth 20000 in
theorem sX12_best_0 {P : Option Value → AH → Prop} (h : AH) (r0 : Nat) (x1 : Int32) (x2 : Int32) (x3 : Int32) (hf : (¬ ((¬ x1 < 0 ∧ ¬ 3 < x1) ∧ (¬ x2 < 0 ∧ ¬ 3 < x2) ∧ ¬ x1 = x2) → P (some (.int (-2))) h) ∧ (((¬ x1 < 0 ∧ ¬ 3 < x1) ∧ (¬ x2 < 0 ∧ ¬ 3 < x2) ∧ ¬ x1 = x2) → ((¬ x3 < 0 ∧ ¬ 2 < x3) → Rr mX12_best 0 0 30 [(0, .ref r0), (1, .int x1), (2, .int x2), (3, .int x3), (4, .int 0), (5, .int 0), (6, .int (-2))] [] h P) ∧ (¬ (¬ x3 < 0 ∧ ¬ 2 < x3) → P (some (.int (-2))) h))) : Rr mX12_best 0 0 0 [(0, .ref r0), (1, .int x1), (2, .int x2), (3, .int x3)] [] h P := by
  refine R_iload_n dX12_best_0 rfl 1 rfl ?_
  refine R_iload_n dX12_best_1 rfl 2 rfl ?_
  refine R_callS (N := mX12_isPair) (as := [.int x1, .int x2]) (rest := []) (kc2 := 0) (ks2 := 0) dX12_best_2 lmX12_319 oX12_isPair (Nat.le_of_ble_eq_true rfl) rfl rfl (Nat.le_of_ble_eq_true rfl) rfl rfl (aX12_isPair  ?_)
  refine R_if_eq_b (tgt := 17) dX12_best_5 (by decide) (fun b1 => ?_) (fun b1 => ?_)
  · have hf := hf.1 b1
    refine R_bipush (v := (-2)) dX12_best_17 (by decide) ?_
    exact R_iret dX12_best_19 rfl rfl hf
  · have hf := hf.2 b1
    refine R_iload_n dX12_best_8 rfl 3 rfl ?_
    refine R_iconst (v := 0) dX12_best_9 (by decide) ?_
    refine R_iconst (v := 2) dX12_best_10 (by decide) ?_
    refine R_callS (N := mX12_in) (as := [.int x3, .int 0, .int 2]) (rest := []) (kc2 := 0) (ks2 := 0) dX12_best_11 lmX12_178 oX12_in (Nat.le_of_ble_eq_true rfl) rfl rfl (Nat.le_of_ble_eq_true rfl) rfl rfl (aX12_in  ?_)
    refine R_if_ne_b (tgt := 20) dX12_best_14 (by decide) (fun b2 => ?_) (fun b2 => ?_)
    · have hf := hf.1 b2
      refine R_iconst (v := 0) dX12_best_20 (by decide) ?_
      refine R_istore dX12_best_21 (by decide) rfl ?_
      refine R_iconst (v := 0) dX12_best_23 (by decide) ?_
      refine R_istore dX12_best_24 (by decide) rfl ?_
      refine R_bipush (v := (-2)) dX12_best_26 (by decide) ?_
      refine R_istore dX12_best_28 (by decide) rfl ?_
      exact R_sub [3, 4, 5, 6, 2, 1, 0] rfl hf
    · have hf := hf.2 b2
      refine R_bipush (v := (-2)) dX12_best_17 (by decide) ?_
      exact R_iret dX12_best_19 rfl rfl hf
set_option maxRecDepth 20000 in
theorem sX12_best_30 {P : Option Value → AH → Prop} (h : AH) (r0 : Nat) (x1 : Int32) (x2 : Int32) (x3 : Int32) (x4 : Int32) (x5 : Int32) (x6 : Int32) (hf : (3 ≤ x6 → (isO h 12 r0) ∧ (P (some (.int x5)) (sI h r0 48 1))) ∧ (¬ 3 ≤ x6 → Rr mX12_best 0 0 40 [(0, .ref r0), (1, .int x1), (2, .int x2), (3, .int x3), (4, .int x4), (5, .int x5), (6, .int x6), (7, .int (-2))] [] h P)) : Rr mX12_best 0 0 30 [(0, .ref r0), (1, .int x1), (2, .int x2), (3, .int x3), (4, .int x4), (5, .int x5), (6, .int x6)] [] h P := by
  refine R_iload dX12_best_30 6 rfl ?_
  refine R_iconst (v := 3) dX12_best_32 (by decide) ?_
  refine R_icmp_ge (tgt := 141) dX12_best_33 (by decide) (fun b1 => ?_) (fun b1 => ?_)
  · have hf := hf.1 b1
    refine R_aload_n dX12_best_141 rfl 0 rfl ?_
    refine R_iconst (v := 1) dX12_best_142 (by decide) ?_
    obtain ⟨ob2, hf⟩ := hf
    refine S12_48 dX12_best_143 lfX12_211 ob2 rfl rfl ?_
    refine R_iload dX12_best_146 5 rfl ?_
    exact R_iret dX12_best_148 rfl rfl hf
  · have hf := hf.2 b1
    refine R_bipush (v := (-2)) dX12_best_36 (by decide) ?_
    refine R_istore dX12_best_38 (by decide) rfl ?_
    exact R_sub [1, 2, 3, 4, 5, 6, 7, 0] rfl hf
set_option maxRecDepth 20000 in
theorem sX12_best_40 {P : Option Value → AH → Prop} (h : AH) (r0 : Nat) (x1 : Int32) (x2 : Int32) (x3 : Int32) (x4 : Int32) (x5 : Int32) (x6 : Int32) (x7 : Int32) (hf : (3 ≤ x7 → Rr mX12_best 0 0 30 [(0, .ref r0), (1, .int x1), (2, .int x2), (3, .int x3), (4, .int x4), (5, .int x5), (6, .int (x6 + 1))] [] h P) ∧ (¬ 3 ≤ x7 → (isO h 12 r0) ∧ (Call mX12_worstOf [.ref r0, .int x1, .int x2, .int x6, .int x7, .int x3] h (fun v h3 => ∃ z4 : Int32, v = some (.int z4) ∧ ((x4 = 0 → (isO h3 12 r0) ∧ (Rr mX12_best 0 0 40 [(0, .ref r0), (1, .int x1), (2, .int x2), (3, .int x3), (4, .int 1), (5, .int z4), (6, .int x6), (7, .int (x7 + 1))] [] (sI (sI h3 r0 49 x6) r0 50 x7) P)) ∧ (¬ x4 = 0 → (x5 < z4 → Rr mX12_best 0 0 40 [(0, .ref r0), (1, .int x1), (2, .int x2), (3, .int x3), (4, .int x4), (5, .int x5), (6, .int x6), (7, .int (x7 + 1))] [] h3 P) ∧ (¬ x5 < z4 → (¬ z4 = x5 → (isO h3 12 r0) ∧ (Rr mX12_best 0 0 40 [(0, .ref r0), (1, .int x1), (2, .int x2), (3, .int x3), (4, .int 1), (5, .int z4), (6, .int x6), (7, .int (x7 + 1))] [] (sI (sI h3 r0 49 x6) r0 50 x7) P)) ∧ (z4 = x5 → (isO h3 12 r0) ∧ ((((if 0 ≤ x6 then x6 else (-x6)) + (if 0 ≤ x7 then x7 else (-x7))) < ((if 0 ≤ (gI h3 r0 49) then (gI h3 r0 49) else (-(gI h3 r0 49))) + (if 0 ≤ (gI h3 r0 50) then (gI h3 r0 50) else (-(gI h3 r0 50)))) → Rr mX12_best 0 0 40 [(0, .ref r0), (1, .int x1), (2, .int x2), (3, .int x3), (4, .int 1), (5, .int z4), (6, .int x6), (7, .int (x7 + 1))] [] (sI (sI h3 r0 49 x6) r0 50 x7) P) ∧ (¬ ((if 0 ≤ x6 then x6 else (-x6)) + (if 0 ≤ x7 then x7 else (-x7))) < ((if 0 ≤ (gI h3 r0 49) then (gI h3 r0 49) else (-(gI h3 r0 49))) + (if 0 ≤ (gI h3 r0 50) then (gI h3 r0 50) else (-(gI h3 r0 50)))) → Rr mX12_best 0 0 40 [(0, .ref r0), (1, .int x1), (2, .int x2), (3, .int x3), (4, .int x4), (5, .int x5), (6, .int x6), (7, .int (x7 + 1))] [] h3 P)))))))))) : Rr mX12_best 0 0 40 [(0, .ref r0), (1, .int x1), (2, .int x2), (3, .int x3), (4, .int x4), (5, .int x5), (6, .int x6), (7, .int x7)] [] h P := by
  refine R_iload dX12_best_40 7 rfl ?_
  refine R_iconst (v := 3) dX12_best_42 (by decide) ?_
  refine R_icmp_ge (tgt := 135) dX12_best_43 (by decide) (fun b1 => ?_) (fun b1 => ?_)
  · have hf := hf.1 b1
    refine R_iinc (v := x6 + 1) dX12_best_135 6 rfl rfl (by decide) rfl ?_
    refine R_goto (tgt := 30) dX12_best_138 (by decide) ?_
    exact R_sub [1, 2, 3, 4, 5, 6, 0] rfl hf
  · have hf := hf.2 b1
    refine R_aload_n dX12_best_46 rfl 0 rfl ?_
    refine R_iload_n dX12_best_47 rfl 1 rfl ?_
    refine R_iload_n dX12_best_48 rfl 2 rfl ?_
    refine R_iload dX12_best_49 6 rfl ?_
    refine R_iload dX12_best_51 7 rfl ?_
    refine R_iload_n dX12_best_53 rfl 3 rfl ?_
    obtain ⟨ob2, hf⟩ := hf
    refine R_callV (ci := 12) (N := mX12_worstOf) (as := [.int x1, .int x2, .int x6, .int x7, .int x3]) (rest := []) (kc2 := 0) (ks2 := 0) dX12_best_54 lmX12_326 oX12_worstOf (Nat.le_of_ble_eq_true rfl) rfl rfl (Nat.le_of_ble_eq_true rfl) rfl rfl ob2 ok12 (Call.mono hf ?_)
    rintro _ h3 ⟨z4, rfl, hf⟩
    refine R_istore dX12_best_57 (by decide) rfl ?_
    refine R_iload dX12_best_59 5 rfl ?_
    refine R_if_eq (tgt := 110) dX12_best_61 (by decide) (fun b5 => ?_) (fun b5 => ?_)
    · have hf := hf.1 b5
      refine R_iconst (v := 1) dX12_best_110 (by decide) ?_
      refine R_istore dX12_best_111 (by decide) rfl ?_
      refine R_iload dX12_best_113 1 rfl ?_
      refine R_istore dX12_best_115 (by decide) rfl ?_
      refine R_aload_n dX12_best_117 rfl 3 rfl ?_
      refine R_iload dX12_best_118 7 rfl ?_
      obtain ⟨ob6, hf⟩ := hf
      refine S12_49 dX12_best_120 lfX12_329 ob6 ?_
      refine R_aload_n dX12_best_123 rfl 3 rfl ?_
      refine R_iload dX12_best_124 8 rfl ?_
      refine S12_50 dX12_best_126 lfX12_332 ob6 ?_
      refine R_iinc (v := x7 + 1) dX12_best_129 8 rfl rfl (by decide) rfl ?_
      refine R_goto (tgt := 40) dX12_best_132 (by decide) ?_
      exact R_sub [4, 5, 6, 7, 2, 1, 8, 0] rfl hf
    · have hf := hf.2 b5
      refine R_iload dX12_best_64 0 rfl ?_
      refine R_iload dX12_best_66 6 rfl ?_
      refine R_icmp_gt (tgt := 129) dX12_best_68 (by decide) (fun b7 => ?_) (fun b7 => ?_)
      · have hf := hf.1 b7
        refine R_iinc (v := x7 + 1) dX12_best_129 8 rfl rfl (by decide) rfl ?_
        refine R_goto (tgt := 40) dX12_best_132 (by decide) ?_
        exact R_sub [2, 3, 4, 5, 6, 7, 8, 0] rfl hf
      · have hf := hf.2 b7
        refine R_iload dX12_best_71 0 rfl ?_
        refine R_iload dX12_best_73 6 rfl ?_
        refine R_icmp_ne (tgt := 110) dX12_best_75 (by decide) (fun b8 => ?_) (fun b8 => ?_)
        · have hf := hf.1 b8
          refine R_iconst (v := 1) dX12_best_110 (by decide) ?_
          refine R_istore dX12_best_111 (by decide) rfl ?_
          refine R_iload dX12_best_113 1 rfl ?_
          refine R_istore dX12_best_115 (by decide) rfl ?_
          refine R_aload_n dX12_best_117 rfl 3 rfl ?_
          refine R_iload dX12_best_118 7 rfl ?_
          obtain ⟨ob9, hf⟩ := hf
          refine S12_49 dX12_best_120 lfX12_329 ob9 ?_
          refine R_aload_n dX12_best_123 rfl 3 rfl ?_
          refine R_iload dX12_best_124 8 rfl ?_
          refine S12_50 dX12_best_126 lfX12_332 ob9 ?_
          refine R_iinc (v := x7 + 1) dX12_best_129 8 rfl rfl (by decide) rfl ?_
          refine R_goto (tgt := 40) dX12_best_132 (by decide) ?_
          exact R_sub [4, 5, 6, 7, 2, 1, 8, 0] rfl hf
        · have hf := hf.2 b8
          refine R_iload dX12_best_78 7 rfl ?_
          refine R_callS (N := mX12_plain) (as := [.int x6]) (rest := []) (kc2 := 0) (ks2 := 0) dX12_best_80 lmX12_276 oX12_plain (Nat.le_of_ble_eq_true rfl) rfl rfl (Nat.le_of_ble_eq_true rfl) rfl rfl (aX12_plain  ?_)
          refine R_iload dX12_best_83 8 rfl ?_
          refine R_callS (N := mX12_plain) (as := [.int x7]) (rest := [.int (if 0 ≤ x6 then x6 else (-x6))]) (kc2 := 0) (ks2 := 0) dX12_best_85 lmX12_276 oX12_plain (Nat.le_of_ble_eq_true rfl) rfl rfl (Nat.le_of_ble_eq_true rfl) rfl rfl (aX12_plain  ?_)
          refine R_iadd dX12_best_88 ?_
          refine R_aload_n dX12_best_89 rfl 1 rfl ?_
          obtain ⟨ob10, hf⟩ := hf
          refine G12_49 dX12_best_90 lfX12_329 ob10 ?_
          refine R_callS (N := mX12_plain) (as := [.int (gI h3 r0 49)]) (rest := [.int ((if 0 ≤ x6 then x6 else (-x6)) + (if 0 ≤ x7 then x7 else (-x7)))]) (kc2 := 0) (ks2 := 0) dX12_best_93 lmX12_276 oX12_plain (Nat.le_of_ble_eq_true rfl) rfl rfl (Nat.le_of_ble_eq_true rfl) rfl rfl (aX12_plain  ?_)
          refine R_aload_n dX12_best_96 rfl 1 rfl ?_
          refine G12_50 dX12_best_97 lfX12_332 ob10 ?_
          refine R_callS (N := mX12_plain) (as := [.int (gI h3 r0 50)]) (rest := [.int (if 0 ≤ (gI h3 r0 49) then (gI h3 r0 49) else (-(gI h3 r0 49))), .int ((if 0 ≤ x6 then x6 else (-x6)) + (if 0 ≤ x7 then x7 else (-x7)))]) (kc2 := 0) (ks2 := 0) dX12_best_100 lmX12_276 oX12_plain (Nat.le_of_ble_eq_true rfl) rfl rfl (Nat.le_of_ble_eq_true rfl) rfl rfl (aX12_plain  ?_)
          refine R_iadd dX12_best_103 ?_
          refine R_icmp_lt (tgt := 110) dX12_best_104 (by decide) (fun b11 => ?_) (fun b11 => ?_)
          · have hf := hf.1 b11
            refine R_iconst (v := 1) dX12_best_110 (by decide) ?_
            refine R_istore dX12_best_111 (by decide) rfl ?_
            refine R_iload dX12_best_113 1 rfl ?_
            refine R_istore dX12_best_115 (by decide) rfl ?_
            refine R_aload_n dX12_best_117 rfl 3 rfl ?_
            refine R_iload dX12_best_118 7 rfl ?_
            refine S12_49 dX12_best_120 lfX12_329 ob10 ?_
            refine R_aload_n dX12_best_123 rfl 3 rfl ?_
            refine R_iload dX12_best_124 8 rfl ?_
            refine S12_50 dX12_best_126 lfX12_332 ob10 ?_
            refine R_iinc (v := x7 + 1) dX12_best_129 8 rfl rfl (by decide) rfl ?_
            refine R_goto (tgt := 40) dX12_best_132 (by decide) ?_
            exact R_sub [4, 5, 6, 7, 2, 1, 8, 0] rfl hf
          · have hf := hf.2 b11
            refine R_goto (tgt := 129) dX12_best_107 (by decide) ?_
            refine R_iinc (v := x7 + 1) dX12_best_129 8 rfl rfl (by decide) rfl ?_
            refine R_goto (tgt := 40) dX12_best_132 (by decide) ?_
            exact R_sub [2, 3, 4, 5, 6, 7, 8, 0] rfl hf
theorem dX12_worst_0 : decode cX12_worst 0 = .ok (.iload_n 1, 1) := by decide +kernel
theorem dX12_worst_1 : decode cX12_worst 1 = .ok (.iload_n 2, 1) := by decide +kernel
theorem dX12_worst_2 : decode cX12_worst 2 = .ok (.invokestatic 319, 3) := by decide +kernel
theorem dX12_worst_5 : decode cX12_worst 5 = .ok (.ifCond .eq 48, 3) := by decide +kernel
theorem dX12_worst_8 : decode cX12_worst 8 = .ok (.iload_n 3, 1) := by decide +kernel
theorem dX12_worst_9 : decode cX12_worst 9 = .ok (.bipush (-2), 2) := by decide +kernel
theorem dX12_worst_11 : decode cX12_worst 11 = .ok (.iconst 2, 1) := by decide +kernel
theorem dX12_worst_12 : decode cX12_worst 12 = .ok (.invokestatic 178, 3) := by decide +kernel
theorem dX12_worst_15 : decode cX12_worst 15 = .ok (.ifCond .eq 38, 3) := by decide +kernel
theorem dX12_worst_18 : decode cX12_worst 18 = .ok (.iload 4, 2) := by decide +kernel
theorem dX12_worst_20 : decode cX12_worst 20 = .ok (.bipush (-2), 2) := by decide +kernel
theorem dX12_worst_22 : decode cX12_worst 22 = .ok (.iconst 2, 1) := by decide +kernel
theorem dX12_worst_23 : decode cX12_worst 23 = .ok (.invokestatic 178, 3) := by decide +kernel
theorem dX12_worst_26 : decode cX12_worst 26 = .ok (.ifCond .eq 27, 3) := by decide +kernel
theorem dX12_worst_29 : decode cX12_worst 29 = .ok (.iload 5, 2) := by decide +kernel
theorem dX12_worst_31 : decode cX12_worst 31 = .ok (.iconst 0, 1) := by decide +kernel
theorem dX12_worst_32 : decode cX12_worst 32 = .ok (.iconst 2, 1) := by decide +kernel
theorem dX12_worst_33 : decode cX12_worst 33 = .ok (.invokestatic 178, 3) := by decide +kernel
theorem dX12_worst_36 : decode cX12_worst 36 = .ok (.ifCond .eq 17, 3) := by decide +kernel
theorem dX12_worst_39 : decode cX12_worst 39 = .ok (.aload_n 0, 1) := by decide +kernel
theorem dX12_worst_40 : decode cX12_worst 40 = .ok (.iload_n 1, 1) := by decide +kernel
theorem dX12_worst_41 : decode cX12_worst 41 = .ok (.iload_n 2, 1) := by decide +kernel
theorem dX12_worst_42 : decode cX12_worst 42 = .ok (.iload_n 3, 1) := by decide +kernel
theorem dX12_worst_43 : decode cX12_worst 43 = .ok (.iload 4, 2) := by decide +kernel
theorem dX12_worst_45 : decode cX12_worst 45 = .ok (.iload 5, 2) := by decide +kernel
theorem dX12_worst_47 : decode cX12_worst 47 = .ok (.invokevirtual 326, 3) := by decide +kernel
theorem dX12_worst_50 : decode cX12_worst 50 = .ok (.goto 5, 3) := by decide +kernel
theorem dX12_worst_53 : decode cX12_worst 53 = .ok (.bipush (-2), 2) := by decide +kernel
theorem dX12_worst_55 : decode cX12_worst 55 = .ok (.ireturn, 1) := by decide +kernel
set_option maxRecDepth 20000 in
theorem sX12_worst_0 {P : Option Value → AH → Prop} (h : AH) (r0 : Nat) (x1 : Int32) (x2 : Int32) (x3 : Int32) (x4 : Int32) (x5 : Int32) (hf : (¬ ((¬ x1 < 0 ∧ ¬ 3 < x1) ∧ (¬ x2 < 0 ∧ ¬ 3 < x2) ∧ ¬ x1 = x2) → P (some (.int (-2))) h) ∧ (((¬ x1 < 0 ∧ ¬ 3 < x1) ∧ (¬ x2 < 0 ∧ ¬ 3 < x2) ∧ ¬ x1 = x2) → (¬ (¬ x3 < (-2) ∧ ¬ 2 < x3) → P (some (.int (-2))) h) ∧ ((¬ x3 < (-2) ∧ ¬ 2 < x3) → (¬ (¬ x4 < (-2) ∧ ¬ 2 < x4) → P (some (.int (-2))) h) ∧ ((¬ x4 < (-2) ∧ ¬ 2 < x4) → (¬ (¬ x5 < 0 ∧ ¬ 2 < x5) → P (some (.int (-2))) h) ∧ ((¬ x5 < 0 ∧ ¬ 2 < x5) → (isO h 12 r0) ∧ (Call mX12_worstOf [.ref r0, .int x1, .int x2, .int x3, .int x4, .int x5] h (fun v h6 => ∃ z7 : Int32, v = some (.int z7) ∧ (P (some (.int z7)) h6)))))))) : Rr mX12_worst 0 0 0 [(0, .ref r0), (1, .int x1), (2, .int x2), (3, .int x3), (4, .int x4), (5, .int x5)] [] h P := by
  refine R_iload_n dX12_worst_0 rfl 1 rfl ?_
  refine R_iload_n dX12_worst_1 rfl 2 rfl ?_
  refine R_callS (N := mX12_isPair) (as := [.int x1, .int x2]) (rest := []) (kc2 := 0) (ks2 := 0) dX12_worst_2 lmX12_319 oX12_isPair (Nat.le_of_ble_eq_true rfl) rfl rfl (Nat.le_of_ble_eq_true rfl) rfl rfl (aX12_isPair  ?_)
  refine R_if_eq_b (tgt := 53) dX12_worst_5 (by decide) (fun b1 => ?_) (fun b1 => ?_)
  · have hf := hf.1 b1
    refine R_bipush (v := (-2)) dX12_worst_53 (by decide) ?_
    exact R_iret dX12_worst_55 rfl rfl hf
  · have hf := hf.2 b1
    refine R_iload_n dX12_worst_8 rfl 3 rfl ?_
    refine R_bipush (v := (-2)) dX12_worst_9 (by decide) ?_
    refine R_iconst (v := 2) dX12_worst_11 (by decide) ?_
    refine R_callS (N := mX12_in) (as := [.int x3, .int (-2), .int 2]) (rest := []) (kc2 := 0) (ks2 := 0) dX12_worst_12 lmX12_178 oX12_in (Nat.le_of_ble_eq_true rfl) rfl rfl (Nat.le_of_ble_eq_true rfl) rfl rfl (aX12_in  ?_)
    refine R_if_eq_b (tgt := 53) dX12_worst_15 (by decide) (fun b2 => ?_) (fun b2 => ?_)
    · have hf := hf.1 b2
      refine R_bipush (v := (-2)) dX12_worst_53 (by decide) ?_
      exact R_iret dX12_worst_55 rfl rfl hf
    · have hf := hf.2 b2
      refine R_iload dX12_worst_18 4 rfl ?_
      refine R_bipush (v := (-2)) dX12_worst_20 (by decide) ?_
      refine R_iconst (v := 2) dX12_worst_22 (by decide) ?_
      refine R_callS (N := mX12_in) (as := [.int x4, .int (-2), .int 2]) (rest := []) (kc2 := 0) (ks2 := 0) dX12_worst_23 lmX12_178 oX12_in (Nat.le_of_ble_eq_true rfl) rfl rfl (Nat.le_of_ble_eq_true rfl) rfl rfl (aX12_in  ?_)
      refine R_if_eq_b (tgt := 53) dX12_worst_26 (by decide) (fun b3 => ?_) (fun b3 => ?_)
      · have hf := hf.1 b3
        refine R_bipush (v := (-2)) dX12_worst_53 (by decide) ?_
        exact R_iret dX12_worst_55 rfl rfl hf
      · have hf := hf.2 b3
        refine R_iload dX12_worst_29 5 rfl ?_
        refine R_iconst (v := 0) dX12_worst_31 (by decide) ?_
        refine R_iconst (v := 2) dX12_worst_32 (by decide) ?_
        refine R_callS (N := mX12_in) (as := [.int x5, .int 0, .int 2]) (rest := []) (kc2 := 0) (ks2 := 0) dX12_worst_33 lmX12_178 oX12_in (Nat.le_of_ble_eq_true rfl) rfl rfl (Nat.le_of_ble_eq_true rfl) rfl rfl (aX12_in  ?_)
        refine R_if_eq_b (tgt := 53) dX12_worst_36 (by decide) (fun b4 => ?_) (fun b4 => ?_)
        · have hf := hf.1 b4
          refine R_bipush (v := (-2)) dX12_worst_53 (by decide) ?_
          exact R_iret dX12_worst_55 rfl rfl hf
        · have hf := hf.2 b4
          refine R_aload_n dX12_worst_39 rfl 0 rfl ?_
          refine R_iload_n dX12_worst_40 rfl 1 rfl ?_
          refine R_iload_n dX12_worst_41 rfl 2 rfl ?_
          refine R_iload_n dX12_worst_42 rfl 3 rfl ?_
          refine R_iload dX12_worst_43 4 rfl ?_
          refine R_iload dX12_worst_45 5 rfl ?_
          obtain ⟨ob5, hf⟩ := hf
          refine R_callV (ci := 12) (N := mX12_worstOf) (as := [.int x1, .int x2, .int x3, .int x4, .int x5]) (rest := []) (kc2 := 0) (ks2 := 0) dX12_worst_47 lmX12_326 oX12_worstOf (Nat.le_of_ble_eq_true rfl) rfl rfl (Nat.le_of_ble_eq_true rfl) rfl rfl ob5 ok12 (Call.mono hf ?_)
          rintro _ h6 ⟨z7, rfl, hf⟩
          refine R_goto (tgt := 55) dX12_worst_50 (by decide) ?_
          exact R_iret dX12_worst_55 rfl rfl hf
theorem dX4_onlyNumber_0 : decode cX4_onlyNumber 0 = .ok (.aload_n 0, 1) := by decide +kernel
theorem dX4_onlyNumber_1 : decode cX4_onlyNumber 1 = .ok (.iload_n 1, 1) := by decide +kernel
theorem dX4_onlyNumber_2 : decode cX4_onlyNumber 2 = .ok (.invokevirtual 106, 3) := by decide +kernel
theorem dX4_onlyNumber_5 : decode cX4_onlyNumber 5 = .ok (.aload_n 0, 1) := by decide +kernel
theorem dX4_onlyNumber_6 : decode cX4_onlyNumber 6 = .ok (.iconst 0, 1) := by decide +kernel
theorem dX4_onlyNumber_7 : decode cX4_onlyNumber 7 = .ok (.iload_n 2, 1) := by decide +kernel
theorem dX4_onlyNumber_8 : decode cX4_onlyNumber 8 = .ok (.invokevirtual 109, 3) := by decide +kernel
theorem dX4_onlyNumber_11 : decode cX4_onlyNumber 11 = .ok (.ireturn, 1) := by decide +kernel
set_option maxRecDepth 20000 in
theorem sX4_onlyNumber_0 {P : Option Value → AH → Prop} (h : AH) (r0 : Nat) (x1 : Int32) (x2 : Int32) (hf : (isO h 4 r0) ∧ (Call mX4_refuseTwice [.ref r0, .int x1] h (fun v h2 => v = none ∧ ((isO h2 4 r0) ∧ (Call mX4_number [.ref r0, .int 0, .int x2] h2 (fun v h4 => ∃ z5 : Int32, v = some (.int z5) ∧ (P (some (.int z5)) h4))))))) : Rr mX4_onlyNumber 0 0 0 [(0, .ref r0), (1, .int x1), (2, .int x2)] [] h P := by
  refine R_aload_n dX4_onlyNumber_0 rfl 0 rfl ?_
  refine R_iload_n dX4_onlyNumber_1 rfl 1 rfl ?_
  obtain ⟨ob1, hf⟩ := hf
  refine R_callV (ci := 4) (N := mX4_refuseTwice) (as := [.int x1]) (rest := []) (kc2 := 0) (ks2 := 0) dX4_onlyNumber_2 lmX4_106 oX4_refuseTwice (Nat.le_of_ble_eq_true rfl) rfl rfl (Nat.le_of_ble_eq_true rfl) rfl rfl ob1 ok4 (Call.mono hf ?_)
  rintro _ h2 ⟨rfl, hf⟩
  refine R_aload_n dX4_onlyNumber_5 rfl 0 rfl ?_
  refine R_iconst (v := 0) dX4_onlyNumber_6 (by decide) ?_
  refine R_iload_n dX4_onlyNumber_7 rfl 2 rfl ?_
  obtain ⟨ob3, hf⟩ := hf
  refine R_callV (ci := 4) (N := mX4_number) (as := [.int 0, .int x2]) (rest := []) (kc2 := 0) (ks2 := 0) dX4_onlyNumber_8 lmX4_109 oX4_number (Nat.le_of_ble_eq_true rfl) rfl rfl (Nat.le_of_ble_eq_true rfl) rfl rfl ob3 ok4 (Call.mono hf ?_)
  rintro _ h4 ⟨z5, rfl, hf⟩
  exact R_iret dX4_onlyNumber_11 rfl rfl hf
theorem dX4_takeMark_0 : decode cX4_takeMark 0 = .ok (.aload_n 0, 1) := by decide +kernel
theorem dX4_takeMark_1 : decode cX4_takeMark 1 = .ok (.getfield 21, 3) := by decide +kernel
theorem dX4_takeMark_4 : decode cX4_takeMark 4 = .ok (.getfield 112, 3) := by decide +kernel
theorem dX4_takeMark_7 : decode cX4_takeMark 7 = .ok (.bipush 8, 2) := by decide +kernel
theorem dX4_takeMark_9 : decode cX4_takeMark 9 = .ok (.if_icmp .lt 9, 3) := by decide +kernel
theorem dX4_takeMark_12 : decode cX4_takeMark 12 = .ok (.aload_n 0, 1) := by decide +kernel
theorem dX4_takeMark_13 : decode cX4_takeMark 13 = .ok (.iconst 4, 1) := by decide +kernel
theorem dX4_takeMark_14 : decode cX4_takeMark 14 = .ok (.invokevirtual 99, 3) := by decide +kernel
theorem dX4_takeMark_17 : decode cX4_takeMark 17 = .ok (.return_, 1) := by decide +kernel
theorem dX4_takeMark_18 : decode cX4_takeMark 18 = .ok (.aload_n 0, 1) := by decide +kernel
theorem dX4_takeMark_19 : decode cX4_takeMark 19 = .ok (.getfield 21, 3) := by decide +kernel
theorem dX4_takeMark_22 : decode cX4_takeMark 22 = .ok (.getfield 121, 3) := by decide +kernel
theorem dX4_takeMark_25 : decode cX4_takeMark 25 = .ok (.aload_n 0, 1) := by decide +kernel
theorem dX4_takeMark_26 : decode cX4_takeMark 26 = .ok (.getfield 21, 3) := by decide +kernel
theorem dX4_takeMark_29 : decode cX4_takeMark 29 = .ok (.getfield 112, 3) := by decide +kernel
theorem dX4_takeMark_32 : decode cX4_takeMark 32 = .ok (.aload_n 0, 1) := by decide +kernel
theorem dX4_takeMark_33 : decode cX4_takeMark 33 = .ok (.iconst 0, 1) := by decide +kernel
theorem dX4_takeMark_34 : decode cX4_takeMark 34 = .ok (.aload_n 0, 1) := by decide +kernel
theorem dX4_takeMark_35 : decode cX4_takeMark 35 = .ok (.getfield 21, 3) := by decide +kernel
theorem dX4_takeMark_38 : decode cX4_takeMark 38 = .ok (.getfield 115, 3) := by decide +kernel
theorem dX4_takeMark_41 : decode cX4_takeMark 41 = .ok (.invokevirtual 109, 3) := by decide +kernel
theorem dX4_takeMark_44 : decode cX4_takeMark 44 = .ok (.iastore, 1) := by decide +kernel
theorem dX4_takeMark_45 : decode cX4_takeMark 45 = .ok (.aload_n 0, 1) := by decide +kernel
theorem dX4_takeMark_46 : decode cX4_takeMark 46 = .ok (.getfield 21, 3) := by decide +kernel
theorem dX4_takeMark_49 : decode cX4_takeMark 49 = .ok (.getfield 125, 3) := by decide +kernel
theorem dX4_takeMark_52 : decode cX4_takeMark 52 = .ok (.aload_n 0, 1) := by decide +kernel
theorem dX4_takeMark_53 : decode cX4_takeMark 53 = .ok (.getfield 21, 3) := by decide +kernel
theorem dX4_takeMark_56 : decode cX4_takeMark 56 = .ok (.getfield 112, 3) := by decide +kernel
theorem dX4_takeMark_59 : decode cX4_takeMark 59 = .ok (.aload_n 0, 1) := by decide +kernel
theorem dX4_takeMark_60 : decode cX4_takeMark 60 = .ok (.iconst 0, 1) := by decide +kernel
theorem dX4_takeMark_61 : decode cX4_takeMark 61 = .ok (.aload_n 0, 1) := by decide +kernel
theorem dX4_takeMark_62 : decode cX4_takeMark 62 = .ok (.getfield 21, 3) := by decide +kernel
theorem dX4_takeMark_65 : decode cX4_takeMark 65 = .ok (.getfield 118, 3) := by decide +kernel
theorem dX4_takeMark_68 : decode cX4_takeMark 68 = .ok (.invokevirtual 109, 3) := by decide +kernel
theorem dX4_takeMark_71 : decode cX4_takeMark 71 = .ok (.iastore, 1) := by decide +kernel
theorem dX4_takeMark_72 : decode cX4_takeMark 72 = .ok (.aload_n 0, 1) := by decide +kernel
theorem dX4_takeMark_73 : decode cX4_takeMark 73 = .ok (.getfield 21, 3) := by decide +kernel
theorem dX4_takeMark_76 : decode cX4_takeMark 76 = .ok (.dup, 1) := by decide +kernel
theorem dX4_takeMark_77 : decode cX4_takeMark 77 = .ok (.getfield 112, 3) := by decide +kernel
theorem dX4_takeMark_80 : decode cX4_takeMark 80 = .ok (.iconst 1, 1) := by decide +kernel
theorem dX4_takeMark_81 : decode cX4_takeMark 81 = .ok (.iadd, 1) := by decide +kernel
theorem dX4_takeMark_82 : decode cX4_takeMark 82 = .ok (.putfield 112, 3) := by decide +kernel
theorem dX4_takeMark_85 : decode cX4_takeMark 85 = .ok (.return_, 1) := by decide +kernel
set_option maxRecDepth 20000 in
theorem sX4_takeMark_0 {P : Option Value → AH → Prop} (h : AH) (r0 : Nat) (hf : (isO h 4 r0) ∧ ((isO h 3 (gF h r0 3)) ∧ (((gI h (gF h r0 3) 3) < 8 → Call mX4_number [.ref r0, .int 0, .int (gI h (gF h r0 3) 1)] h (fun v h4 => ∃ z5 : Int32, v = some (.int z5) ∧ ((isA h4 0 (gF h (gF h r0 3) 4)) ∧ ((vp_in (gI h (gF h r0 3) 3) (ln (gF h (gF h r0 3) 4))) ∧ ((isO h4 4 r0) ∧ ((isO h4 3 (gF (sI h4 (gF h (gF h r0 3) 4) (gI h (gF h r0 3) 3).toNatClampNeg z5) r0 3)) ∧ (Call mX4_number [.ref r0, .int 0, .int (gI (sI h4 (gF h (gF h r0 3) 4) (gI h (gF h r0 3) 3).toNatClampNeg z5) (gF (sI h4 (gF h (gF h r0 3) 4) (gI h (gF h r0 3) 3).toNatClampNeg z5) r0 3) 2)] (sI h4 (gF h (gF h r0 3) 4) (gI h (gF h r0 3) 3).toNatClampNeg z5) (fun v h10 => ∃ z11 : Int32, v = some (.int z11) ∧ ((isA h10 0 (gF (sI h4 (gF h (gF h r0 3) 4) (gI h (gF h r0 3) 3).toNatClampNeg z5) (gF (sI h4 (gF h (gF h r0 3) 4) (gI h (gF h r0 3) 3).toNatClampNeg z5) r0 3) 5)) ∧ ((vp_in (gI (sI h4 (gF h (gF h r0 3) 4) (gI h (gF h r0 3) 3).toNatClampNeg z5) (gF (sI h4 (gF h (gF h r0 3) 4) (gI h (gF h r0 3) 3).toNatClampNeg z5) r0 3) 3) (ln (gF (sI h4 (gF h (gF h r0 3) 4) (gI h (gF h r0 3) 3).toNatClampNeg z5) (gF (sI h4 (gF h (gF h r0 3) 4) (gI h (gF h r0 3) 3).toNatClampNeg z5) r0 3) 5))) ∧ ((isO h10 4 r0) ∧ ((isO h10 3 (gF (sI h10 (gF (sI h4 (gF h (gF h r0 3) 4) (gI h (gF h r0 3) 3).toNatClampNeg z5) (gF (sI h4 (gF h (gF h r0 3) 4) (gI h (gF h r0 3) 3).toNatClampNeg z5) r0 3) 5) (gI (sI h4 (gF h (gF h r0 3) 4) (gI h (gF h r0 3) 3).toNatClampNeg z5) (gF (sI h4 (gF h (gF h r0 3) 4) (gI h (gF h r0 3) 3).toNatClampNeg z5) r0 3) 3).toNatClampNeg z11) r0 3)) ∧ (P none (sI (sI h10 (gF (sI h4 (gF h (gF h r0 3) 4) (gI h (gF h r0 3) 3).toNatClampNeg z5) (gF (sI h4 (gF h (gF h r0 3) 4) (gI h (gF h r0 3) 3).toNatClampNeg z5) r0 3) 5) (gI (sI h4 (gF h (gF h r0 3) 4) (gI h (gF h r0 3) 3).toNatClampNeg z5) (gF (sI h4 (gF h (gF h r0 3) 4) (gI h (gF h r0 3) 3).toNatClampNeg z5) r0 3) 3).toNatClampNeg z11) (gF (sI h10 (gF (sI h4 (gF h (gF h r0 3) 4) (gI h (gF h r0 3) 3).toNatClampNeg z5) (gF (sI h4 (gF h (gF h r0 3) 4) (gI h (gF h r0 3) 3).toNatClampNeg z5) r0 3) 5) (gI (sI h4 (gF h (gF h r0 3) 4) (gI h (gF h r0 3) 3).toNatClampNeg z5) (gF (sI h4 (gF h (gF h r0 3) 4) (gI h (gF h r0 3) 3).toNatClampNeg z5) r0 3) 3).toNatClampNeg z11) r0 3) 3 ((gI (sI h10 (gF (sI h4 (gF h (gF h r0 3) 4) (gI h (gF h r0 3) 3).toNatClampNeg z5) (gF (sI h4 (gF h (gF h r0 3) 4) (gI h (gF h r0 3) 3).toNatClampNeg z5) r0 3) 5) (gI (sI h4 (gF h (gF h r0 3) 4) (gI h (gF h r0 3) 3).toNatClampNeg z5) (gF (sI h4 (gF h (gF h r0 3) 4) (gI h (gF h r0 3) 3).toNatClampNeg z5) r0 3) 3).toNatClampNeg z11) (gF (sI h10 (gF (sI h4 (gF h (gF h r0 3) 4) (gI h (gF h r0 3) 3).toNatClampNeg z5) (gF (sI h4 (gF h (gF h r0 3) 4) (gI h (gF h r0 3) 3).toNatClampNeg z5) r0 3) 5) (gI (sI h4 (gF h (gF h r0 3) 4) (gI h (gF h r0 3) 3).toNatClampNeg z5) (gF (sI h4 (gF h (gF h r0 3) 4) (gI h (gF h r0 3) 3).toNatClampNeg z5) r0 3) 3).toNatClampNeg z11) r0 3) 3) + 1))))))))))))))) ∧ (¬ (gI h (gF h r0 3) 3) < 8 → Call mX4_refuse [.ref r0, .int 4] h (fun v h16 => v = none ∧ (P none h16)))))) : Rr mX4_takeMark 0 0 0 [(0, .ref r0)] [] h P := by
  refine R_aload_n dX4_takeMark_0 rfl 0 rfl ?_
  obtain ⟨ob1, hf⟩ := hf
  refine G4_3 dX4_takeMark_1 lfX4_21 ob1 ?_
  obtain ⟨ob2, hf⟩ := hf
  refine G3_3 dX4_takeMark_4 lfX4_112 ob2 ?_
  refine R_bipush (v := 8) dX4_takeMark_7 (by decide) ?_
  refine R_icmp_lt (tgt := 18) dX4_takeMark_9 (by decide) (fun b3 => ?_) (fun b3 => ?_)
  · have hf := hf.1 b3
    refine R_aload_n dX4_takeMark_18 rfl 0 rfl ?_
    refine G4_3 dX4_takeMark_19 lfX4_21 ob1 ?_
    refine G3_4 dX4_takeMark_22 lfX4_121 ob2 ?_
    refine R_aload_n dX4_takeMark_25 rfl 0 rfl ?_
    refine G4_3 dX4_takeMark_26 lfX4_21 ob1 ?_
    refine G3_3 dX4_takeMark_29 lfX4_112 ob2 ?_
    refine R_aload_n dX4_takeMark_32 rfl 0 rfl ?_
    refine R_iconst (v := 0) dX4_takeMark_33 (by decide) ?_
    refine R_aload_n dX4_takeMark_34 rfl 0 rfl ?_
    refine G4_3 dX4_takeMark_35 lfX4_21 ob1 ?_
    refine G3_1 dX4_takeMark_38 lfX4_115 ob2 ?_
    refine R_callV (ci := 4) (N := mX4_number) (as := [.int 0, .int (gI h (gF h r0 3) 1)]) (rest := [.int (gI h (gF h r0 3) 3), .ref (gF h (gF h r0 3) 4)]) (kc2 := 0) (ks2 := 0) dX4_takeMark_41 lmX4_109 oX4_number (Nat.le_of_ble_eq_true rfl) rfl rfl (Nat.le_of_ble_eq_true rfl) rfl rfl ob1 ok4 (Call.mono hf ?_)
    rintro _ h4 ⟨z5, rfl, hf⟩
    obtain ⟨ob6, hf⟩ := hf
    obtain ⟨ob7, hf⟩ := hf
    refine R_iastore dX4_takeMark_44 ob6 ob7 ?_
    refine R_aload_n dX4_takeMark_45 rfl 0 rfl ?_
    obtain ⟨ob8, hf⟩ := hf
    refine G4_3 dX4_takeMark_46 lfX4_21 ob8 ?_
    obtain ⟨ob9, hf⟩ := hf
    refine G3_5 dX4_takeMark_49 lfX4_125 ob9 ?_
    refine R_aload_n dX4_takeMark_52 rfl 0 rfl ?_
    refine G4_3 dX4_takeMark_53 lfX4_21 ob8 ?_
    refine G3_3 dX4_takeMark_56 lfX4_112 ob9 ?_
    refine R_aload_n dX4_takeMark_59 rfl 0 rfl ?_
    refine R_iconst (v := 0) dX4_takeMark_60 (by decide) ?_
    refine R_aload_n dX4_takeMark_61 rfl 0 rfl ?_
    refine G4_3 dX4_takeMark_62 lfX4_21 ob8 ?_
    refine G3_2 dX4_takeMark_65 lfX4_118 ob9 ?_
    refine R_callV (ci := 4) (N := mX4_number) (as := [.int 0, .int (gI (sI h4 (gF h (gF h r0 3) 4) (gI h (gF h r0 3) 3).toNatClampNeg z5) (gF (sI h4 (gF h (gF h r0 3) 4) (gI h (gF h r0 3) 3).toNatClampNeg z5) r0 3) 2)]) (rest := [.int (gI (sI h4 (gF h (gF h r0 3) 4) (gI h (gF h r0 3) 3).toNatClampNeg z5) (gF (sI h4 (gF h (gF h r0 3) 4) (gI h (gF h r0 3) 3).toNatClampNeg z5) r0 3) 3), .ref (gF (sI h4 (gF h (gF h r0 3) 4) (gI h (gF h r0 3) 3).toNatClampNeg z5) (gF (sI h4 (gF h (gF h r0 3) 4) (gI h (gF h r0 3) 3).toNatClampNeg z5) r0 3) 5)]) (kc2 := 0) (ks2 := 0) dX4_takeMark_68 lmX4_109 oX4_number (Nat.le_of_ble_eq_true rfl) rfl rfl (Nat.le_of_ble_eq_true rfl) rfl rfl ob8 ok4 (Call.mono hf ?_)
    rintro _ h10 ⟨z11, rfl, hf⟩
    obtain ⟨ob12, hf⟩ := hf
    obtain ⟨ob13, hf⟩ := hf
    refine R_iastore dX4_takeMark_71 ob12 ob13 ?_
    refine R_aload_n dX4_takeMark_72 rfl 0 rfl ?_
    obtain ⟨ob14, hf⟩ := hf
    refine G4_3 dX4_takeMark_73 lfX4_21 ob14 ?_
    refine R_dup dX4_takeMark_76 rfl ?_
    obtain ⟨ob15, hf⟩ := hf
    refine G3_3 dX4_takeMark_77 lfX4_112 ob15 ?_
    refine R_iconst (v := 1) dX4_takeMark_80 (by decide) ?_
    refine R_iadd dX4_takeMark_81 ?_
    refine S3_3 dX4_takeMark_82 lfX4_112 ob15 ?_
    exact R_ret dX4_takeMark_85 rfl hf
  · have hf := hf.2 b3
    refine R_aload_n dX4_takeMark_12 rfl 0 rfl ?_
    refine R_iconst (v := 4) dX4_takeMark_13 (by decide) ?_
    refine R_callV (ci := 4) (N := mX4_refuse) (as := [.int 4]) (rest := []) (kc2 := 0) (ks2 := 0) dX4_takeMark_14 lmX4_99 oX4_refuse (Nat.le_of_ble_eq_true rfl) rfl rfl (Nat.le_of_ble_eq_true rfl) rfl rfl ob1 ok4 (Call.mono hf ?_)
    rintro _ h16 ⟨rfl, hf⟩
    exact R_ret dX4_takeMark_17 rfl hf
theorem dX4_takeScreen_0 : decode cX4_takeScreen 0 = .ok (.aload_n 0, 1) := by decide +kernel
theorem dX4_takeScreen_1 : decode cX4_takeScreen 1 = .ok (.getfield 21, 3) := by decide +kernel
theorem dX4_takeScreen_4 : decode cX4_takeScreen 4 = .ok (.getfield 155, 3) := by decide +kernel
theorem dX4_takeScreen_7 : decode cX4_takeScreen 7 = .ok (.getfield 159, 3) := by decide +kernel
theorem dX4_takeScreen_10 : decode cX4_takeScreen 10 = .ok (.bipush 8, 2) := by decide +kernel
theorem dX4_takeScreen_12 : decode cX4_takeScreen 12 = .ok (.if_icmp .lt 9, 3) := by decide +kernel
theorem dX4_takeScreen_15 : decode cX4_takeScreen 15 = .ok (.aload_n 0, 1) := by decide +kernel
theorem dX4_takeScreen_16 : decode cX4_takeScreen 16 = .ok (.iconst 4, 1) := by decide +kernel
theorem dX4_takeScreen_17 : decode cX4_takeScreen 17 = .ok (.invokevirtual 99, 3) := by decide +kernel
theorem dX4_takeScreen_20 : decode cX4_takeScreen 20 = .ok (.return_, 1) := by decide +kernel
theorem dX4_takeScreen_21 : decode cX4_takeScreen 21 = .ok (.aload_n 0, 1) := by decide +kernel
theorem dX4_takeScreen_22 : decode cX4_takeScreen 22 = .ok (.iconst 1, 1) := by decide +kernel
theorem dX4_takeScreen_23 : decode cX4_takeScreen 23 = .ok (.bipush 30, 2) := by decide +kernel
theorem dX4_takeScreen_25 : decode cX4_takeScreen 25 = .ok (.invokevirtual 109, 3) := by decide +kernel
theorem dX4_takeScreen_28 : decode cX4_takeScreen 28 = .ok (.istore_n 1, 1) := by decide +kernel
theorem dX4_takeScreen_29 : decode cX4_takeScreen 29 = .ok (.aload_n 0, 1) := by decide +kernel
theorem dX4_takeScreen_30 : decode cX4_takeScreen 30 = .ok (.iconst 1, 1) := by decide +kernel
theorem dX4_takeScreen_31 : decode cX4_takeScreen 31 = .ok (.bipush 30, 2) := by decide +kernel
theorem dX4_takeScreen_33 : decode cX4_takeScreen 33 = .ok (.invokevirtual 109, 3) := by decide +kernel
theorem dX4_takeScreen_36 : decode cX4_takeScreen 36 = .ok (.istore_n 2, 1) := by decide +kernel
theorem dX4_takeScreen_37 : decode cX4_takeScreen 37 = .ok (.aload_n 0, 1) := by decide +kernel
theorem dX4_takeScreen_38 : decode cX4_takeScreen 38 = .ok (.getfield 21, 3) := by decide +kernel
theorem dX4_takeScreen_41 : decode cX4_takeScreen 41 = .ok (.getfield 155, 3) := by decide +kernel
theorem dX4_takeScreen_44 : decode cX4_takeScreen 44 = .ok (.iload_n 1, 1) := by decide +kernel
theorem dX4_takeScreen_45 : decode cX4_takeScreen 45 = .ok (.iload_n 2, 1) := by decide +kernel
theorem dX4_takeScreen_46 : decode cX4_takeScreen 46 = .ok (.invokevirtual 164, 3) := by decide +kernel
theorem dX4_takeScreen_49 : decode cX4_takeScreen 49 = .ok (.return_, 1) := by decide +kernel
set_option maxRecDepth 20000 in
theorem sX4_takeScreen_0 {P : Option Value → AH → Prop} (h : AH) (r0 : Nat) (hf : (isO h 4 r0) ∧ ((isO h 3 (gF h r0 3)) ∧ ((isO h 8 (gF h (gF h r0 3) 14)) ∧ (((gI h (gF h (gF h r0 3) 14) 0) < 8 → Call mX4_number [.ref r0, .int 1, .int 30] h (fun v h5 => ∃ z6 : Int32, v = some (.int z6) ∧ ((isO h5 4 r0) ∧ (Call mX4_number [.ref r0, .int 1, .int 30] h5 (fun v h8 => ∃ z9 : Int32, v = some (.int z9) ∧ ((isO h8 4 r0) ∧ ((isO h8 3 (gF h8 r0 3)) ∧ ((isO h8 8 (gF h8 (gF h8 r0 3) 14)) ∧ (Call mX8_put [.ref (gF h8 (gF h8 r0 3) 14), .int z6, .int z9] h8 (fun v h13 => v = none ∧ (P none h13))))))))))) ∧ (¬ (gI h (gF h (gF h r0 3) 14) 0) < 8 → Call mX4_refuse [.ref r0, .int 4] h (fun v h14 => v = none ∧ (P none h14))))))) : Rr mX4_takeScreen 0 0 0 [(0, .ref r0)] [] h P := by
  refine R_aload_n dX4_takeScreen_0 rfl 0 rfl ?_
  obtain ⟨ob1, hf⟩ := hf
  refine G4_3 dX4_takeScreen_1 lfX4_21 ob1 ?_
  obtain ⟨ob2, hf⟩ := hf
  refine G3_14 dX4_takeScreen_4 lfX4_155 ob2 ?_
  obtain ⟨ob3, hf⟩ := hf
  refine G8_0 dX4_takeScreen_7 lfX4_159 ob3 ?_
  refine R_bipush (v := 8) dX4_takeScreen_10 (by decide) ?_
  refine R_icmp_lt (tgt := 21) dX4_takeScreen_12 (by decide) (fun b4 => ?_) (fun b4 => ?_)
  · have hf := hf.1 b4
    refine R_aload_n dX4_takeScreen_21 rfl 0 rfl ?_
    refine R_iconst (v := 1) dX4_takeScreen_22 (by decide) ?_
    refine R_bipush (v := 30) dX4_takeScreen_23 (by decide) ?_
    refine R_callV (ci := 4) (N := mX4_number) (as := [.int 1, .int 30]) (rest := []) (kc2 := 0) (ks2 := 0) dX4_takeScreen_25 lmX4_109 oX4_number (Nat.le_of_ble_eq_true rfl) rfl rfl (Nat.le_of_ble_eq_true rfl) rfl rfl ob1 ok4 (Call.mono hf ?_)
    rintro _ h5 ⟨z6, rfl, hf⟩
    refine R_istore_n dX4_takeScreen_28 rfl (by decide) rfl ?_
    refine R_aload_n dX4_takeScreen_29 rfl 1 rfl ?_
    refine R_iconst (v := 1) dX4_takeScreen_30 (by decide) ?_
    refine R_bipush (v := 30) dX4_takeScreen_31 (by decide) ?_
    obtain ⟨ob7, hf⟩ := hf
    refine R_callV (ci := 4) (N := mX4_number) (as := [.int 1, .int 30]) (rest := []) (kc2 := 0) (ks2 := 0) dX4_takeScreen_33 lmX4_109 oX4_number (Nat.le_of_ble_eq_true rfl) rfl rfl (Nat.le_of_ble_eq_true rfl) rfl rfl ob7 ok4 (Call.mono hf ?_)
    rintro _ h8 ⟨z9, rfl, hf⟩
    refine R_istore_n dX4_takeScreen_36 rfl (by decide) rfl ?_
    refine R_aload_n dX4_takeScreen_37 rfl 2 rfl ?_
    obtain ⟨ob10, hf⟩ := hf
    refine G4_3 dX4_takeScreen_38 lfX4_21 ob10 ?_
    obtain ⟨ob11, hf⟩ := hf
    refine G3_14 dX4_takeScreen_41 lfX4_155 ob11 ?_
    refine R_iload_n dX4_takeScreen_44 rfl 1 rfl ?_
    refine R_iload_n dX4_takeScreen_45 rfl 0 rfl ?_
    obtain ⟨ob12, hf⟩ := hf
    refine R_callV (ci := 8) (N := mX8_put) (as := [.int z6, .int z9]) (rest := []) (kc2 := 0) (ks2 := 0) dX4_takeScreen_46 lmX4_164 oX8_put (Nat.le_of_ble_eq_true rfl) rfl rfl (Nat.le_of_ble_eq_true rfl) rfl rfl ob12 ok8 (Call.mono hf ?_)
    rintro _ h13 ⟨rfl, hf⟩
    exact R_ret dX4_takeScreen_49 rfl hf
  · have hf := hf.2 b4
    refine R_aload_n dX4_takeScreen_15 rfl 0 rfl ?_
    refine R_iconst (v := 4) dX4_takeScreen_16 (by decide) ?_
    refine R_callV (ci := 4) (N := mX4_refuse) (as := [.int 4]) (rest := []) (kc2 := 0) (ks2 := 0) dX4_takeScreen_17 lmX4_99 oX4_refuse (Nat.le_of_ble_eq_true rfl) rfl rfl (Nat.le_of_ble_eq_true rfl) rfl rfl ob1 ok4 (Call.mono hf ?_)
    rintro _ h14 ⟨rfl, hf⟩
    exact R_ret dX4_takeScreen_20 rfl hf
theorem dX4_takeSheet_0 : decode cX4_takeSheet 0 = .ok (.aload_n 0, 1) := by decide +kernel
theorem dX4_takeSheet_1 : decode cX4_takeSheet 1 = .ok (.iconst 0, 1) := by decide +kernel
theorem dX4_takeSheet_2 : decode cX4_takeSheet 2 = .ok (.invokevirtual 106, 3) := by decide +kernel
theorem dX4_takeSheet_5 : decode cX4_takeSheet 5 = .ok (.aload_n 0, 1) := by decide +kernel
theorem dX4_takeSheet_6 : decode cX4_takeSheet 6 = .ok (.getfield 21, 3) := by decide +kernel
theorem dX4_takeSheet_9 : decode cX4_takeSheet 9 = .ok (.getfield 112, 3) := by decide +kernel
theorem dX4_takeSheet_12 : decode cX4_takeSheet 12 = .ok (.ifCond .le 8, 3) := by decide +kernel
theorem dX4_takeSheet_15 : decode cX4_takeSheet 15 = .ok (.aload_n 0, 1) := by decide +kernel
theorem dX4_takeSheet_16 : decode cX4_takeSheet 16 = .ok (.iconst 5, 1) := by decide +kernel
theorem dX4_takeSheet_17 : decode cX4_takeSheet 17 = .ok (.invokevirtual 99, 3) := by decide +kernel
theorem dX4_takeSheet_20 : decode cX4_takeSheet 20 = .ok (.aload_n 0, 1) := by decide +kernel
theorem dX4_takeSheet_21 : decode cX4_takeSheet 21 = .ok (.getfield 21, 3) := by decide +kernel
theorem dX4_takeSheet_24 : decode cX4_takeSheet 24 = .ok (.aload_n 0, 1) := by decide +kernel
theorem dX4_takeSheet_25 : decode cX4_takeSheet 25 = .ok (.bipush 10, 2) := by decide +kernel
theorem dX4_takeSheet_27 : decode cX4_takeSheet 27 = .ok (.sipush 200, 3) := by decide +kernel
theorem dX4_takeSheet_30 : decode cX4_takeSheet 30 = .ok (.invokevirtual 109, 3) := by decide +kernel
theorem dX4_takeSheet_33 : decode cX4_takeSheet 33 = .ok (.putfield 115, 3) := by decide +kernel
theorem dX4_takeSheet_36 : decode cX4_takeSheet 36 = .ok (.aload_n 0, 1) := by decide +kernel
theorem dX4_takeSheet_37 : decode cX4_takeSheet 37 = .ok (.getfield 21, 3) := by decide +kernel
theorem dX4_takeSheet_40 : decode cX4_takeSheet 40 = .ok (.aload_n 0, 1) := by decide +kernel
theorem dX4_takeSheet_41 : decode cX4_takeSheet 41 = .ok (.bipush 10, 2) := by decide +kernel
theorem dX4_takeSheet_43 : decode cX4_takeSheet 43 = .ok (.sipush 200, 3) := by decide +kernel
theorem dX4_takeSheet_46 : decode cX4_takeSheet 46 = .ok (.invokevirtual 109, 3) := by decide +kernel
theorem dX4_takeSheet_49 : decode cX4_takeSheet 49 = .ok (.putfield 118, 3) := by decide +kernel
theorem dX4_takeSheet_52 : decode cX4_takeSheet 52 = .ok (.return_, 1) := by decide +kernel
set_option maxRecDepth 20000 in
theorem sX4_takeSheet_0 {P : Option Value → AH → Prop} (h : AH) (r0 : Nat) (hf : (isO h 4 r0) ∧ (Call mX4_refuseTwice [.ref r0, .int 0] h (fun v h2 => v = none ∧ ((isO h2 4 r0) ∧ ((isO h2 3 (gF h2 r0 3)) ∧ (((gI h2 (gF h2 r0 3) 3) ≤ 0 → Call mX4_number [.ref r0, .int 10, .int 200] h2 (fun v h6 => ∃ z7 : Int32, v = some (.int z7) ∧ ((isO h6 3 (gF h2 r0 3)) ∧ ((isO h6 4 r0) ∧ (Call mX4_number [.ref r0, .int 10, .int 200] (sI h6 (gF h2 r0 3) 1 z7) (fun v h10 => ∃ z11 : Int32, v = some (.int z11) ∧ ((isO h10 3 (gF (sI h6 (gF h2 r0 3) 1 z7) r0 3)) ∧ (P none (sI h10 (gF (sI h6 (gF h2 r0 3) 1 z7) r0 3) 2 z11))))))))) ∧ (¬ (gI h2 (gF h2 r0 3) 3) ≤ 0 → Call mX4_refuse [.ref r0, .int 5] h2 (fun v h13 => v = none ∧ ((isO h13 4 r0) ∧ (Call mX4_number [.ref r0, .int 10, .int 200] h13 (fun v h15 => ∃ z16 : Int32, v = some (.int z16) ∧ ((isO h15 3 (gF h13 r0 3)) ∧ ((isO h15 4 r0) ∧ (Call mX4_number [.ref r0, .int 10, .int 200] (sI h15 (gF h13 r0 3) 1 z16) (fun v h19 => ∃ z20 : Int32, v = some (.int z20) ∧ ((isO h19 3 (gF (sI h15 (gF h13 r0 3) 1 z16) r0 3)) ∧ (P none (sI h19 (gF (sI h15 (gF h13 r0 3) 1 z16) r0 3) 2 z20)))))))))))))))))) : Rr mX4_takeSheet 0 0 0 [(0, .ref r0)] [] h P := by
  refine R_aload_n dX4_takeSheet_0 rfl 0 rfl ?_
  refine R_iconst (v := 0) dX4_takeSheet_1 (by decide) ?_
  obtain ⟨ob1, hf⟩ := hf
  refine R_callV (ci := 4) (N := mX4_refuseTwice) (as := [.int 0]) (rest := []) (kc2 := 0) (ks2 := 0) dX4_takeSheet_2 lmX4_106 oX4_refuseTwice (Nat.le_of_ble_eq_true rfl) rfl rfl (Nat.le_of_ble_eq_true rfl) rfl rfl ob1 ok4 (Call.mono hf ?_)
  rintro _ h2 ⟨rfl, hf⟩
  refine R_aload_n dX4_takeSheet_5 rfl 0 rfl ?_
  obtain ⟨ob3, hf⟩ := hf
  refine G4_3 dX4_takeSheet_6 lfX4_21 ob3 ?_
  obtain ⟨ob4, hf⟩ := hf
  refine G3_3 dX4_takeSheet_9 lfX4_112 ob4 ?_
  refine R_if_le (tgt := 20) dX4_takeSheet_12 (by decide) (fun b5 => ?_) (fun b5 => ?_)
  · have hf := hf.1 b5
    refine R_aload_n dX4_takeSheet_20 rfl 0 rfl ?_
    refine G4_3 dX4_takeSheet_21 lfX4_21 ob3 ?_
    refine R_aload_n dX4_takeSheet_24 rfl 0 rfl ?_
    refine R_bipush (v := 10) dX4_takeSheet_25 (by decide) ?_
    refine R_sipush (v := 200) dX4_takeSheet_27 (by decide) ?_
    refine R_callV (ci := 4) (N := mX4_number) (as := [.int 10, .int 200]) (rest := [.ref (gF h2 r0 3)]) (kc2 := 0) (ks2 := 0) dX4_takeSheet_30 lmX4_109 oX4_number (Nat.le_of_ble_eq_true rfl) rfl rfl (Nat.le_of_ble_eq_true rfl) rfl rfl ob3 ok4 (Call.mono hf ?_)
    rintro _ h6 ⟨z7, rfl, hf⟩
    obtain ⟨ob8, hf⟩ := hf
    refine S3_1 dX4_takeSheet_33 lfX4_115 ob8 ?_
    refine R_aload_n dX4_takeSheet_36 rfl 0 rfl ?_
    obtain ⟨ob9, hf⟩ := hf
    refine G4_3 dX4_takeSheet_37 lfX4_21 ob9 ?_
    refine R_aload_n dX4_takeSheet_40 rfl 0 rfl ?_
    refine R_bipush (v := 10) dX4_takeSheet_41 (by decide) ?_
    refine R_sipush (v := 200) dX4_takeSheet_43 (by decide) ?_
    refine R_callV (ci := 4) (N := mX4_number) (as := [.int 10, .int 200]) (rest := [.ref (gF (sI h6 (gF h2 r0 3) 1 z7) r0 3)]) (kc2 := 0) (ks2 := 0) dX4_takeSheet_46 lmX4_109 oX4_number (Nat.le_of_ble_eq_true rfl) rfl rfl (Nat.le_of_ble_eq_true rfl) rfl rfl ob9 ok4 (Call.mono hf ?_)
    rintro _ h10 ⟨z11, rfl, hf⟩
    obtain ⟨ob12, hf⟩ := hf
    refine S3_2 dX4_takeSheet_49 lfX4_118 ob12 ?_
    exact R_ret dX4_takeSheet_52 rfl hf
  · have hf := hf.2 b5
    refine R_aload_n dX4_takeSheet_15 rfl 0 rfl ?_
    refine R_iconst (v := 5) dX4_takeSheet_16 (by decide) ?_
    refine R_callV (ci := 4) (N := mX4_refuse) (as := [.int 5]) (rest := []) (kc2 := 0) (ks2 := 0) dX4_takeSheet_17 lmX4_99 oX4_refuse (Nat.le_of_ble_eq_true rfl) rfl rfl (Nat.le_of_ble_eq_true rfl) rfl rfl ob3 ok4 (Call.mono hf ?_)
    rintro _ h13 ⟨rfl, hf⟩
    refine R_aload_n dX4_takeSheet_20 rfl 0 rfl ?_
    obtain ⟨ob14, hf⟩ := hf
    refine G4_3 dX4_takeSheet_21 lfX4_21 ob14 ?_
    refine R_aload_n dX4_takeSheet_24 rfl 0 rfl ?_
    refine R_bipush (v := 10) dX4_takeSheet_25 (by decide) ?_
    refine R_sipush (v := 200) dX4_takeSheet_27 (by decide) ?_
    refine R_callV (ci := 4) (N := mX4_number) (as := [.int 10, .int 200]) (rest := [.ref (gF h13 r0 3)]) (kc2 := 0) (ks2 := 0) dX4_takeSheet_30 lmX4_109 oX4_number (Nat.le_of_ble_eq_true rfl) rfl rfl (Nat.le_of_ble_eq_true rfl) rfl rfl ob14 ok4 (Call.mono hf ?_)
    rintro _ h15 ⟨z16, rfl, hf⟩
    obtain ⟨ob17, hf⟩ := hf
    refine S3_1 dX4_takeSheet_33 lfX4_115 ob17 ?_
    refine R_aload_n dX4_takeSheet_36 rfl 0 rfl ?_
    obtain ⟨ob18, hf⟩ := hf
    refine G4_3 dX4_takeSheet_37 lfX4_21 ob18 ?_
    refine R_aload_n dX4_takeSheet_40 rfl 0 rfl ?_
    refine R_bipush (v := 10) dX4_takeSheet_41 (by decide) ?_
    refine R_sipush (v := 200) dX4_takeSheet_43 (by decide) ?_
    refine R_callV (ci := 4) (N := mX4_number) (as := [.int 10, .int 200]) (rest := [.ref (gF (sI h15 (gF h13 r0 3) 1 z16) r0 3)]) (kc2 := 0) (ks2 := 0) dX4_takeSheet_46 lmX4_109 oX4_number (Nat.le_of_ble_eq_true rfl) rfl rfl (Nat.le_of_ble_eq_true rfl) rfl rfl ob18 ok4 (Call.mono hf ?_)
    rintro _ h19 ⟨z20, rfl, hf⟩
    obtain ⟨ob21, hf⟩ := hf
    refine S3_2 dX4_takeSheet_49 lfX4_118 ob21 ?_
    exact R_ret dX4_takeSheet_52 rfl hf
theorem dX5_findBest_0 : decode cX5_findBest 0 = .ok (.ldc 92, 2) := by decide +kernel
theorem dX5_findBest_2 : decode cX5_findBest 2 = .ok (.istore 5, 2) := by decide +kernel
theorem dX5_findBest_4 : decode cX5_findBest 4 = .ok (.ldc 92, 2) := by decide +kernel
theorem dX5_findBest_6 : decode cX5_findBest 6 = .ok (.istore 6, 2) := by decide +kernel
theorem dX5_findBest_8 : decode cX5_findBest 8 = .ok (.bipush (-2), 2) := by decide +kernel
theorem dX5_findBest_10 : decode cX5_findBest 10 = .ok (.istore 7, 2) := by decide +kernel
theorem dX5_findBest_12 : decode cX5_findBest 12 = .ok (.iload 7, 2) := by decide +kernel
theorem dX5_findBest_14 : decode cX5_findBest 14 = .ok (.iconst 2, 1) := by decide +kernel
theorem dX5_findBest_15 : decode cX5_findBest 15 = .ok (.if_icmp .gt 98, 3) := by decide +kernel
theorem dX5_findBest_18 : decode cX5_findBest 18 = .ok (.bipush (-2), 2) := by decide +kernel
theorem dX5_findBest_20 : decode cX5_findBest 20 = .ok (.istore 8, 2) := by decide +kernel
theorem dX5_findBest_22 : decode cX5_findBest 22 = .ok (.iload 8, 2) := by decide +kernel
theorem dX5_findBest_24 : decode cX5_findBest 24 = .ok (.iconst 2, 1) := by decide +kernel
theorem dX5_findBest_25 : decode cX5_findBest 25 = .ok (.if_icmp .gt 82, 3) := by decide +kernel
theorem dX5_findBest_28 : decode cX5_findBest 28 = .ok (.aload_n 0, 1) := by decide +kernel
theorem dX5_findBest_29 : decode cX5_findBest 29 = .ok (.aload_n 1, 1) := by decide +kernel
theorem dX5_findBest_30 : decode cX5_findBest 30 = .ok (.iload_n 2, 1) := by decide +kernel
theorem dX5_findBest_31 : decode cX5_findBest 31 = .ok (.iload_n 3, 1) := by decide +kernel
theorem dX5_findBest_32 : decode cX5_findBest 32 = .ok (.iload 7, 2) := by decide +kernel
theorem dX5_findBest_34 : decode cX5_findBest 34 = .ok (.iload 8, 2) := by decide +kernel
theorem dX5_findBest_36 : decode cX5_findBest 36 = .ok (.invokevirtual 93, 3) := by decide +kernel
theorem dX5_findBest_39 : decode cX5_findBest 39 = .ok (.aload_n 0, 1) := by decide +kernel
theorem dX5_findBest_40 : decode cX5_findBest 40 = .ok (.iload 4, 2) := by decide +kernel
theorem dX5_findBest_42 : decode cX5_findBest 42 = .ok (.invokevirtual 97, 3) := by decide +kernel
theorem dX5_findBest_45 : decode cX5_findBest 45 = .ok (.istore 9, 2) := by decide +kernel
theorem dX5_findBest_47 : decode cX5_findBest 47 = .ok (.iload 7, 2) := by decide +kernel
theorem dX5_findBest_49 : decode cX5_findBest 49 = .ok (.invokestatic 101, 3) := by decide +kernel
theorem dX5_findBest_52 : decode cX5_findBest 52 = .ok (.iload 8, 2) := by decide +kernel
theorem dX5_findBest_54 : decode cX5_findBest 54 = .ok (.invokestatic 101, 3) := by decide +kernel
theorem dX5_findBest_57 : decode cX5_findBest 57 = .ok (.iadd, 1) := by decide +kernel
theorem dX5_findBest_58 : decode cX5_findBest 58 = .ok (.istore 10, 2) := by decide +kernel
theorem dX5_findBest_60 : decode cX5_findBest 60 = .ok (.iload 9, 2) := by decide +kernel
theorem dX5_findBest_62 : decode cX5_findBest 62 = .ok (.iload 5, 2) := by decide +kernel
theorem dX5_findBest_64 : decode cX5_findBest 64 = .ok (.if_icmp .lt 17, 3) := by decide +kernel
theorem dX5_findBest_67 : decode cX5_findBest 67 = .ok (.iload 9, 2) := by decide +kernel
theorem dX5_findBest_69 : decode cX5_findBest 69 = .ok (.iload 5, 2) := by decide +kernel
theorem dX5_findBest_71 : decode cX5_findBest 71 = .ok (.if_icmp .ne 30, 3) := by decide +kernel
theorem dX5_findBest_74 : decode cX5_findBest 74 = .ok (.iload 10, 2) := by decide +kernel
theorem dX5_findBest_76 : decode cX5_findBest 76 = .ok (.iload 6, 2) := by decide +kernel
theorem dX5_findBest_78 : decode cX5_findBest 78 = .ok (.if_icmp .ge 23, 3) := by decide +kernel
theorem dX5_findBest_81 : decode cX5_findBest 81 = .ok (.iload 9, 2) := by decide +kernel
theorem dX5_findBest_83 : decode cX5_findBest 83 = .ok (.istore 5, 2) := by decide +kernel
theorem dX5_findBest_85 : decode cX5_findBest 85 = .ok (.iload 10, 2) := by decide +kernel
theorem dX5_findBest_87 : decode cX5_findBest 87 = .ok (.istore 6, 2) := by decide +kernel
theorem dX5_findBest_89 : decode cX5_findBest 89 = .ok (.aload_n 0, 1) := by decide +kernel
theorem dX5_findBest_90 : decode cX5_findBest 90 = .ok (.iload 7, 2) := by decide +kernel
theorem dX5_findBest_92 : decode cX5_findBest 92 = .ok (.putfield 104, 3) := by decide +kernel
theorem dX5_findBest_95 : decode cX5_findBest 95 = .ok (.aload_n 0, 1) := by decide +kernel
theorem dX5_findBest_96 : decode cX5_findBest 96 = .ok (.iload 8, 2) := by decide +kernel
theorem dX5_findBest_98 : decode cX5_findBest 98 = .ok (.putfield 107, 3) := by decide +kernel
theorem dX5_findBest_101 : decode cX5_findBest 101 = .ok (.iinc 8 1, 3) := by decide +kernel
theorem dX5_findBest_104 : decode cX5_findBest 104 = .ok (.goto (-82), 3) := by decide +kernel
theorem dX5_findBest_107 : decode cX5_findBest 107 = .ok (.iinc 7 1, 3) := by decide +kernel
theorem dX5_findBest_110 : decode cX5_findBest 110 = .ok (.goto (-98), 3) := by decide +kernel
theorem dX5_findBest_113 : decode cX5_findBest 113 = .ok (.aload_n 0, 1) := by decide +kernel
theorem dX5_findBest_114 : decode cX5_findBest 114 = .ok (.iconst 1, 1) := by decide +kernel
theorem dX5_findBest_115 : decode cX5_findBest 115 = .ok (.putfield 31, 3) := by decide +kernel
theorem dX5_findBest_118 : decode cX5_findBest 118 = .ok (.iload 5, 2) := by decide +kernel
theorem dX5_findBest_120 : decode cX5_findBest 120 = .ok (.ireturn, 1) := by decide +kernel
set_option maxRecDepth 20000 in
theorem sX5_findBest_0 {P : Option Value → AH → Prop} (h : AH) (r0 : Nat) (r1 : Nat) (x2 : Int32) (x3 : Int32) (x4 : Int32) (hf : Rr mX5_findBest 0 0 12 [(0, .ref r0), (1, .ref r1), (2, .int x2), (3, .int x3), (4, .int x4), (5, .int 1000000000), (6, .int 1000000000), (7, .int (-2))] [] h P) : Rr mX5_findBest 0 0 0 [(0, .ref r0), (1, .ref r1), (2, .int x2), (3, .int x3), (4, .int x4)] [] h P := by
  refine R_ldc (v := 1000000000) dX5_findBest_0 lcX5_92 ?_
  refine R_istore dX5_findBest_2 (by decide) rfl ?_
  refine R_ldc (v := 1000000000) dX5_findBest_4 lcX5_92 ?_
  refine R_istore dX5_findBest_6 (by decide) rfl ?_
  refine R_bipush (v := (-2)) dX5_findBest_8 (by decide) ?_
  refine R_istore dX5_findBest_10 (by decide) rfl ?_
  exact R_sub [3, 4, 5, 6, 7, 2, 1, 0] rfl hf
set_option maxRecDepth 20000 in
theorem sX5_findBest_12 {P : Option Value → AH → Prop} (h : AH) (r0 : Nat) (r1 : Nat) (x2 : Int32) (x3 : Int32) (x4 : Int32) (x5 : Int32) (x6 : Int32) (x7 : Int32) (hf : (2 < x7 → (isO h 5 r0) ∧ (P (some (.int x5)) (sI h r0 9 1))) ∧ (¬ 2 < x7 → Rr mX5_findBest 0 0 22 [(0, .ref r0), (1, .ref r1), (2, .int x2), (3, .int x3), (4, .int x4), (5, .int x5), (6, .int x6), (7, .int x7), (8, .int (-2))] [] h P)) : Rr mX5_findBest 0 0 12 [(0, .ref r0), (1, .ref r1), (2, .int x2), (3, .int x3), (4, .int x4), (5, .int x5), (6, .int x6), (7, .int x7)] [] h P := by
  refine R_iload dX5_findBest_12 7 rfl ?_
  refine R_iconst (v := 2) dX5_findBest_14 (by decide) ?_
  refine R_icmp_gt (tgt := 113) dX5_findBest_15 (by decide) (fun b1 => ?_) (fun b1 => ?_)
  · have hf := hf.1 b1
    refine R_aload_n dX5_findBest_113 rfl 0 rfl ?_
    refine R_iconst (v := 1) dX5_findBest_114 (by decide) ?_
    obtain ⟨ob2, hf⟩ := hf
    refine S5_9 dX5_findBest_115 lfX5_31 ob2 rfl rfl ?_
    refine R_iload dX5_findBest_118 5 rfl ?_
    exact R_iret dX5_findBest_120 rfl rfl hf
  · have hf := hf.2 b1
    refine R_bipush (v := (-2)) dX5_findBest_18 (by decide) ?_
    refine R_istore dX5_findBest_20 (by decide) rfl ?_
    exact R_sub [1, 2, 3, 4, 5, 6, 7, 8, 0] rfl hf
set_option maxRecDepth 20000 in
theorem sX5_findBest_22 {P : Option Value → AH → Prop} (h : AH) (r0 : Nat) (r1 : Nat) (x2 : Int32) (x3 : Int32) (x4 : Int32) (x5 : Int32) (x6 : Int32) (x7 : Int32) (x8 : Int32) (hf : (2 < x8 → Rr mX5_findBest 0 0 12 [(0, .ref r0), (1, .ref r1), (2, .int x2), (3, .int x3), (4, .int x4), (5, .int x5), (6, .int x6), (7, .int (x7 + 1))] [] h P) ∧ (¬ 2 < x8 → (isO h 5 r0) ∧ (Call mX5_lay [.ref r0, .ref r1, .int x2, .int x3, .int x7, .int x8] h (fun v h3 => v = none ∧ ((isO h3 5 r0) ∧ (Call mX5_worstWithin [.ref r0, .int x4] h3 (fun v h5 => ∃ z6 : Int32, v = some (.int z6) ∧ ((z6 < x5 → (isO h5 5 r0) ∧ (Rr mX5_findBest 0 0 22 [(0, .ref r0), (1, .ref r1), (2, .int x2), (3, .int x3), (4, .int x4), (5, .int z6), (6, .int ((iabs x7) + (iabs x8))), (7, .int x7), (8, .int (x8 + 1))] [] (sI (sI h5 r0 10 x7) r0 11 x8) P)) ∧ (¬ z6 < x5 → (¬ z6 = x5 → Rr mX5_findBest 0 0 22 [(0, .ref r0), (1, .ref r1), (2, .int x2), (3, .int x3), (4, .int x4), (5, .int x5), (6, .int x6), (7, .int x7), (8, .int (x8 + 1))] [] h5 P) ∧ (z6 = x5 → (x6 ≤ ((iabs x7) + (iabs x8)) → Rr mX5_findBest 0 0 22 [(0, .ref r0), (1, .ref r1), (2, .int x2), (3, .int x3), (4, .int x4), (5, .int x5), (6, .int x6), (7, .int x7), (8, .int (x8 + 1))] [] h5 P) ∧ (¬ x6 ≤ ((iabs x7) + (iabs x8)) → (isO h5 5 r0) ∧ (Rr mX5_findBest 0 0 22 [(0, .ref r0), (1, .ref r1), (2, .int x2), (3, .int x3), (4, .int x4), (5, .int z6), (6, .int ((iabs x7) + (iabs x8))), (7, .int x7), (8, .int (x8 + 1))] [] (sI (sI h5 r0 10 x7) r0 11 x8) P)))))))))))) : Rr mX5_findBest 0 0 22 [(0, .ref r0), (1, .ref r1), (2, .int x2), (3, .int x3), (4, .int x4), (5, .int x5), (6, .int x6), (7, .int x7), (8, .int x8)] [] h P := by
  refine R_iload dX5_findBest_22 8 rfl ?_
  refine R_iconst (v := 2) dX5_findBest_24 (by decide) ?_
  refine R_icmp_gt (tgt := 107) dX5_findBest_25 (by decide) (fun b1 => ?_) (fun b1 => ?_)
  · have hf := hf.1 b1
    refine R_iinc (v := x7 + 1) dX5_findBest_107 7 rfl rfl (by decide) rfl ?_
    refine R_goto (tgt := 12) dX5_findBest_110 (by decide) ?_
    exact R_sub [1, 2, 3, 4, 5, 6, 7, 0] rfl hf
  · have hf := hf.2 b1
    refine R_aload_n dX5_findBest_28 rfl 0 rfl ?_
    refine R_aload_n dX5_findBest_29 rfl 1 rfl ?_
    refine R_iload_n dX5_findBest_30 rfl 2 rfl ?_
    refine R_iload_n dX5_findBest_31 rfl 3 rfl ?_
    refine R_iload dX5_findBest_32 7 rfl ?_
    refine R_iload dX5_findBest_34 8 rfl ?_
    obtain ⟨ob2, hf⟩ := hf
    refine R_callV (ci := 5) (N := mX5_lay) (as := [.ref r1, .int x2, .int x3, .int x7, .int x8]) (rest := []) (kc2 := 0) (ks2 := 0) dX5_findBest_36 lmX5_93 oX5_lay (Nat.le_of_ble_eq_true rfl) rfl rfl (Nat.le_of_ble_eq_true rfl) rfl rfl ob2 ok5 (Call.mono hf ?_)
    rintro _ h3 ⟨rfl, hf⟩
    refine R_aload_n dX5_findBest_39 rfl 0 rfl ?_
    refine R_iload dX5_findBest_40 4 rfl ?_
    obtain ⟨ob4, hf⟩ := hf
    refine R_callV (ci := 5) (N := mX5_worstWithin) (as := [.int x4]) (rest := []) (kc2 := 0) (ks2 := 0) dX5_findBest_42 lmX5_97 oX5_worstWithin (Nat.le_of_ble_eq_true rfl) rfl rfl (Nat.le_of_ble_eq_true rfl) rfl rfl ob4 ok5 (Call.mono hf ?_)
    rintro _ h5 ⟨z6, rfl, hf⟩
    refine R_istore dX5_findBest_45 (by decide) rfl ?_
    refine R_iload dX5_findBest_47 8 rfl ?_
    refine R_mabs dX5_findBest_49 lmX5_101 (by decide) (Nat.le_of_ble_eq_true rfl) ?_
    refine R_iload dX5_findBest_52 9 rfl ?_
    refine R_mabs dX5_findBest_54 lmX5_101 (by decide) (Nat.le_of_ble_eq_true rfl) ?_
    refine R_iadd dX5_findBest_57 ?_
    refine R_istore dX5_findBest_58 (by decide) rfl ?_
    refine R_iload dX5_findBest_60 1 rfl ?_
    refine R_iload dX5_findBest_62 7 rfl ?_
    refine R_icmp_lt (tgt := 81) dX5_findBest_64 (by decide) (fun b7 => ?_) (fun b7 => ?_)
    · have hf := hf.1 b7
      refine R_iload dX5_findBest_81 1 rfl ?_
      refine R_istore dX5_findBest_83 (by decide) rfl ?_
      refine R_iload dX5_findBest_85 1 rfl ?_
      refine R_istore dX5_findBest_87 (by decide) rfl ?_
      refine R_aload_n dX5_findBest_89 rfl 4 rfl ?_
      refine R_iload dX5_findBest_90 9 rfl ?_
      obtain ⟨ob8, hf⟩ := hf
      refine S5_10 dX5_findBest_92 lfX5_104 ob8 ?_
      refine R_aload_n dX5_findBest_95 rfl 4 rfl ?_
      refine R_iload dX5_findBest_96 10 rfl ?_
      refine S5_11 dX5_findBest_98 lfX5_107 ob8 ?_
      refine R_iinc (v := x8 + 1) dX5_findBest_101 10 rfl rfl (by decide) rfl ?_
      refine R_goto (tgt := 22) dX5_findBest_104 (by decide) ?_
      exact R_sub [5, 6, 7, 8, 9, 2, 1, 10, 0] rfl hf
    · have hf := hf.2 b7
      refine R_iload dX5_findBest_67 1 rfl ?_
      refine R_iload dX5_findBest_69 7 rfl ?_
      refine R_icmp_ne (tgt := 101) dX5_findBest_71 (by decide) (fun b9 => ?_) (fun b9 => ?_)
      · have hf := hf.1 b9
        refine R_iinc (v := x8 + 1) dX5_findBest_101 10 rfl rfl (by decide) rfl ?_
        refine R_goto (tgt := 22) dX5_findBest_104 (by decide) ?_
        exact R_sub [3, 4, 5, 6, 7, 8, 9, 10, 0] rfl hf
      · have hf := hf.2 b9
        refine R_iload dX5_findBest_74 0 rfl ?_
        refine R_iload dX5_findBest_76 8 rfl ?_
        refine R_icmp_ge (tgt := 101) dX5_findBest_78 (by decide) (fun b10 => ?_) (fun b10 => ?_)
        · have hf := hf.1 b10
          refine R_iinc (v := x8 + 1) dX5_findBest_101 10 rfl rfl (by decide) rfl ?_
          refine R_goto (tgt := 22) dX5_findBest_104 (by decide) ?_
          exact R_sub [3, 4, 5, 6, 7, 8, 9, 10, 0] rfl hf
        · have hf := hf.2 b10
          refine R_iload dX5_findBest_81 1 rfl ?_
          refine R_istore dX5_findBest_83 (by decide) rfl ?_
          refine R_iload dX5_findBest_85 1 rfl ?_
          refine R_istore dX5_findBest_87 (by decide) rfl ?_
          refine R_aload_n dX5_findBest_89 rfl 4 rfl ?_
          refine R_iload dX5_findBest_90 9 rfl ?_
          obtain ⟨ob11, hf⟩ := hf
          refine S5_10 dX5_findBest_92 lfX5_104 ob11 ?_
          refine R_aload_n dX5_findBest_95 rfl 4 rfl ?_
          refine R_iload dX5_findBest_96 10 rfl ?_
          refine S5_11 dX5_findBest_98 lfX5_107 ob11 ?_
          refine R_iinc (v := x8 + 1) dX5_findBest_101 10 rfl rfl (by decide) rfl ?_
          refine R_goto (tgt := 22) dX5_findBest_104 (by decide) ?_
          exact R_sub [5, 6, 7, 8, 9, 2, 1, 10, 0] rfl hf
theorem dX11_best_0 : decode cX11_best 0 = .ok (.iload_n 1, 1) := by decide +kernel
theorem dX11_best_1 : decode cX11_best 1 = .ok (.iload_n 2, 1) := by decide +kernel
theorem dX11_best_2 : decode cX11_best 2 = .ok (.invokestatic 236, 3) := by decide +kernel
theorem dX11_best_5 : decode cX11_best 5 = .ok (.ifCond .eq 10, 3) := by decide +kernel
theorem dX11_best_8 : decode cX11_best 8 = .ok (.iload_n 3, 1) := by decide +kernel
theorem dX11_best_9 : decode cX11_best 9 = .ok (.invokestatic 257, 3) := by decide +kernel
theorem dX11_best_12 : decode cX11_best 12 = .ok (.ifCond .ne 6, 3) := by decide +kernel
theorem dX11_best_15 : decode cX11_best 15 = .ok (.bipush (-2), 2) := by decide +kernel
theorem dX11_best_17 : decode cX11_best 17 = .ok (.ireturn, 1) := by decide +kernel
theorem dX11_best_18 : decode cX11_best 18 = .ok (.aload_n 0, 1) := by decide +kernel
theorem dX11_best_19 : decode cX11_best 19 = .ok (.getfield 52, 3) := by decide +kernel
theorem dX11_best_22 : decode cX11_best 22 = .ok (.aload_n 0, 1) := by decide +kernel
theorem dX11_best_23 : decode cX11_best 23 = .ok (.getfield 24, 3) := by decide +kernel
theorem dX11_best_26 : decode cX11_best 26 = .ok (.iload_n 1, 1) := by decide +kernel
theorem dX11_best_27 : decode cX11_best 27 = .ok (.iload_n 2, 1) := by decide +kernel
theorem dX11_best_28 : decode cX11_best 28 = .ok (.iload_n 3, 1) := by decide +kernel
theorem dX11_best_29 : decode cX11_best 29 = .ok (.invokevirtual 263, 3) := by decide +kernel
theorem dX11_best_32 : decode cX11_best 32 = .ok (.ireturn, 1) := by decide +kernel
set_option maxRecDepth 20000 in
theorem sX11_best_0 {P : Option Value → AH → Prop} (h : AH) (r0 : Nat) (x1 : Int32) (x2 : Int32) (x3 : Int32) (hf : (¬ ((¬ x1 < 0 ∧ ¬ 4 ≤ x1) ∧ (¬ x2 < 0 ∧ ¬ 4 ≤ x2) ∧ ¬ x1 = x2) → P (some (.int (-2))) h) ∧ (((¬ x1 < 0 ∧ ¬ 4 ≤ x1) ∧ (¬ x2 < 0 ∧ ¬ 4 ≤ x2) ∧ ¬ x1 = x2) → ((¬ x3 < 0 ∧ ¬ 2 < x3) → (isO h 11 r0) ∧ ((isO h 5 (gF h r0 6)) ∧ (Call mX5_findBest [.ref (gF h r0 6), .ref (gF h r0 2), .int x1, .int x2, .int x3] h (fun v h5 => ∃ z6 : Int32, v = some (.int z6) ∧ (P (some (.int z6)) h5))))) ∧ (¬ (¬ x3 < 0 ∧ ¬ 2 < x3) → P (some (.int (-2))) h))) : Rr mX11_best 0 0 0 [(0, .ref r0), (1, .int x1), (2, .int x2), (3, .int x3)] [] h P := by
  refine R_iload_n dX11_best_0 rfl 1 rfl ?_
  refine R_iload_n dX11_best_1 rfl 2 rfl ?_
  refine R_callS (N := mX11_areUnlikeInks) (as := [.int x1, .int x2]) (rest := []) (kc2 := 0) (ks2 := 0) dX11_best_2 lmX11_236 oX11_areUnlikeInks (Nat.le_of_ble_eq_true rfl) rfl rfl (Nat.le_of_ble_eq_true rfl) rfl rfl (aX11_areUnlikeInks  ?_)
  refine R_if_eq_b (tgt := 15) dX11_best_5 (by decide) (fun b1 => ?_) (fun b1 => ?_)
  · have hf := hf.1 b1
    refine R_bipush (v := (-2)) dX11_best_15 (by decide) ?_
    exact R_iret dX11_best_17 rfl rfl hf
  · have hf := hf.2 b1
    refine R_iload_n dX11_best_8 rfl 3 rfl ?_
    refine R_callS (N := mX11_isReach) (as := [.int x3]) (rest := []) (kc2 := 0) (ks2 := 0) dX11_best_9 lmX11_257 oX11_isReach (Nat.le_of_ble_eq_true rfl) rfl rfl (Nat.le_of_ble_eq_true rfl) rfl rfl (aX11_isReach  ?_)
    refine R_if_ne_b (tgt := 18) dX11_best_12 (by decide) (fun b2 => ?_) (fun b2 => ?_)
    · have hf := hf.1 b2
      refine R_aload_n dX11_best_18 rfl 0 rfl ?_
      obtain ⟨ob3, hf⟩ := hf
      refine G11_6 dX11_best_19 lfX11_52 ob3 ?_
      refine R_aload_n dX11_best_22 rfl 0 rfl ?_
      refine G11_2 dX11_best_23 lfX11_24 ob3 ?_
      refine R_iload_n dX11_best_26 rfl 1 rfl ?_
      refine R_iload_n dX11_best_27 rfl 2 rfl ?_
      refine R_iload_n dX11_best_28 rfl 3 rfl ?_
      obtain ⟨ob4, hf⟩ := hf
      refine R_callV (ci := 5) (N := mX5_findBest) (as := [.ref (gF h r0 2), .int x1, .int x2, .int x3]) (rest := []) (kc2 := 0) (ks2 := 0) dX11_best_29 lmX11_263 oX5_findBest (Nat.le_of_ble_eq_true rfl) rfl rfl (Nat.le_of_ble_eq_true rfl) rfl rfl ob4 ok5 (Call.mono hf ?_)
      rintro _ h5 ⟨z6, rfl, hf⟩
      exact R_iret dX11_best_32 rfl rfl hf
    · have hf := hf.2 b2
      refine R_bipush (v := (-2)) dX11_best_15 (by decide) ?_
      exact R_iret dX11_best_17 rfl rfl hf
theorem dX11_tissue_0 : decode cX11_tissue 0 = .ok (.aload_n 0, 1) := by decide +kernel
theorem dX11_tissue_1 : decode cX11_tissue 1 = .ok (.getfield 20, 3) := by decide +kernel
theorem dX11_tissue_4 : decode cX11_tissue 4 = .ok (.aload_n 0, 1) := by decide +kernel
theorem dX11_tissue_5 : decode cX11_tissue 5 = .ok (.getfield 88, 3) := by decide +kernel
theorem dX11_tissue_8 : decode cX11_tissue 8 = .ok (.getfield 349, 3) := by decide +kernel
theorem dX11_tissue_11 : decode cX11_tissue 11 = .ok (.bipush 99, 2) := by decide +kernel
theorem dX11_tissue_13 : decode cX11_tissue 13 = .ok (.iconst 0, 1) := by decide +kernel
theorem dX11_tissue_14 : decode cX11_tissue 14 = .ok (.invokevirtual 303, 3) := by decide +kernel
theorem dX11_tissue_17 : decode cX11_tissue 17 = .ok (.istore 4, 2) := by decide +kernel
theorem dX11_tissue_19 : decode cX11_tissue 19 = .ok (.iload_n 1, 1) := by decide +kernel
theorem dX11_tissue_20 : decode cX11_tissue 20 = .ok (.iconst 1, 1) := by decide +kernel
theorem dX11_tissue_21 : decode cX11_tissue 21 = .ok (.if_icmp .lt 29, 3) := by decide +kernel
theorem dX11_tissue_24 : decode cX11_tissue 24 = .ok (.iload_n 1, 1) := by decide +kernel
theorem dX11_tissue_25 : decode cX11_tissue 25 = .ok (.bipush 20, 2) := by decide +kernel
theorem dX11_tissue_27 : decode cX11_tissue 27 = .ok (.if_icmp .gt 23, 3) := by decide +kernel
theorem dX11_tissue_30 : decode cX11_tissue 30 = .ok (.iload_n 2, 1) := by decide +kernel
theorem dX11_tissue_31 : decode cX11_tissue 31 = .ok (.ifCond .lt 19, 3) := by decide +kernel
theorem dX11_tissue_34 : decode cX11_tissue 34 = .ok (.iload_n 2, 1) := by decide +kernel
theorem dX11_tissue_35 : decode cX11_tissue 35 = .ok (.bipush 120, 2) := by decide +kernel
theorem dX11_tissue_37 : decode cX11_tissue 37 = .ok (.if_icmp .gt 13, 3) := by decide +kernel
theorem dX11_tissue_40 : decode cX11_tissue 40 = .ok (.iload_n 3, 1) := by decide +kernel
theorem dX11_tissue_41 : decode cX11_tissue 41 = .ok (.ifCond .lt 9, 3) := by decide +kernel
theorem dX11_tissue_44 : decode cX11_tissue 44 = .ok (.iload_n 3, 1) := by decide +kernel
theorem dX11_tissue_45 : decode cX11_tissue 45 = .ok (.bipush 20, 2) := by decide +kernel
theorem dX11_tissue_47 : decode cX11_tissue 47 = .ok (.if_icmp .le 6, 3) := by decide +kernel
theorem dX11_tissue_50 : decode cX11_tissue 50 = .ok (.bipush (-2), 2) := by decide +kernel
theorem dX11_tissue_52 : decode cX11_tissue 52 = .ok (.ireturn, 1) := by decide +kernel
theorem dX11_tissue_53 : decode cX11_tissue 53 = .ok (.iload 4, 2) := by decide +kernel
theorem dX11_tissue_55 : decode cX11_tissue 55 = .ok (.iconst 1, 1) := by decide +kernel
theorem dX11_tissue_56 : decode cX11_tissue 56 = .ok (.if_icmp .lt 22, 3) := by decide +kernel
theorem dX11_tissue_59 : decode cX11_tissue 59 = .ok (.aload_n 0, 1) := by decide +kernel
theorem dX11_tissue_60 : decode cX11_tissue 60 = .ok (.getfield 88, 3) := by decide +kernel
theorem dX11_tissue_63 : decode cX11_tissue 63 = .ok (.iload 4, 2) := by decide +kernel
theorem dX11_tissue_65 : decode cX11_tissue 65 = .ok (.iload_n 1, 1) := by decide +kernel
theorem dX11_tissue_66 : decode cX11_tissue 66 = .ok (.iload_n 2, 1) := by decide +kernel
theorem dX11_tissue_67 : decode cX11_tissue 67 = .ok (.iload_n 3, 1) := by decide +kernel
theorem dX11_tissue_68 : decode cX11_tissue 68 = .ok (.isub, 1) := by decide +kernel
theorem dX11_tissue_69 : decode cX11_tissue 69 = .ok (.iload_n 2, 1) := by decide +kernel
theorem dX11_tissue_70 : decode cX11_tissue 70 = .ok (.iload_n 3, 1) := by decide +kernel
theorem dX11_tissue_71 : decode cX11_tissue 71 = .ok (.iadd, 1) := by decide +kernel
theorem dX11_tissue_72 : decode cX11_tissue 72 = .ok (.invokevirtual 352, 3) := by decide +kernel
theorem dX11_tissue_75 : decode cX11_tissue 75 = .ok (.ifCond .ne 5, 3) := by decide +kernel
theorem dX11_tissue_78 : decode cX11_tissue 78 = .ok (.iconst (-1), 1) := by decide +kernel
theorem dX11_tissue_79 : decode cX11_tissue 79 = .ok (.ireturn, 1) := by decide +kernel
theorem dX11_tissue_80 : decode cX11_tissue 80 = .ok (.aload_n 0, 1) := by decide +kernel
theorem dX11_tissue_81 : decode cX11_tissue 81 = .ok (.getfield 88, 3) := by decide +kernel
theorem dX11_tissue_84 : decode cX11_tissue 84 = .ok (.iload 4, 2) := by decide +kernel
theorem dX11_tissue_86 : decode cX11_tissue 86 = .ok (.invokevirtual 355, 3) := by decide +kernel
theorem dX11_tissue_89 : decode cX11_tissue 89 = .ok (.ireturn, 1) := by decide +kernel
set_option maxRecDepth 20000 in
theorem sX11_tissue_0 {P : Option Value → AH → Prop} (h : AH) (r0 : Nat) (x1 : Int32) (x2 : Int32) (x3 : Int32) (hf : (isO h 11 r0) ∧ ((isO h 10 (gF h r0 13)) ∧ ((isO h 9 (gF h r0 1)) ∧ (Call mX9_takeRow [.ref (gF h r0 1), .ref (gF h (gF h r0 13) 0), .int 99, .int 0] h (fun v h4 => ∃ z5 : Int32, v = some (.int z5) ∧ ((x1 < 1 → P (some (.int (-2))) h4) ∧ (¬ x1 < 1 → (20 < x1 → P (some (.int (-2))) h4) ∧ (¬ 20 < x1 → (x2 < 0 → P (some (.int (-2))) h4) ∧ (¬ x2 < 0 → (120 < x2 → P (some (.int (-2))) h4) ∧ (¬ 120 < x2 → (x3 < 0 → P (some (.int (-2))) h4) ∧ (¬ x3 < 0 → (x3 ≤ 20 → (z5 < 1 → P (some (.int (-1))) h4) ∧ (¬ z5 < 1 → (isO h4 11 r0) ∧ ((isO h4 10 (gF h4 r0 13)) ∧ (Call mX10_bound [.ref (gF h4 r0 13), .int z5, .int x1, .int (x2 - x3), .int (x2 + x3)] h4 (fun v h15 => ∃ z16 : Int32, v = some (.int z16) ∧ ((¬ z16 = 0 → (isO h15 11 r0) ∧ ((isO h15 10 (gF h15 r0 13)) ∧ (Call mX10_find [.ref (gF h15 r0 13), .int z5] h15 (fun v h20 => ∃ z21 : Int32, v = some (.int z21) ∧ (P (some (.int z21)) h20))))) ∧ (z16 = 0 → P (some (.int (-1))) h15))))))) ∧ (¬ x3 ≤ 20 → P (some (.int (-2))) h4)))))))))))) : Rr mX11_tissue 0 0 0 [(0, .ref r0), (1, .int x1), (2, .int x2), (3, .int x3)] [] h P := by
  refine R_aload_n dX11_tissue_0 rfl 0 rfl ?_
  obtain ⟨ob1, hf⟩ := hf
  refine G11_1 dX11_tissue_1 lfX11_20 ob1 ?_
  refine R_aload_n dX11_tissue_4 rfl 0 rfl ?_
  refine G11_13 dX11_tissue_5 lfX11_88 ob1 ?_
  obtain ⟨ob2, hf⟩ := hf
  refine G10_0 dX11_tissue_8 lfX11_349 ob2 ?_
  refine R_bipush (v := 99) dX11_tissue_11 (by decide) ?_
  refine R_iconst (v := 0) dX11_tissue_13 (by decide) ?_
  obtain ⟨ob3, hf⟩ := hf
  refine R_callV (ci := 9) (N := mX9_takeRow) (as := [.ref (gF h (gF h r0 13) 0), .int 99, .int 0]) (rest := []) (kc2 := 0) (ks2 := 0) dX11_tissue_14 lmX11_303 oX9_takeRow (Nat.le_of_ble_eq_true rfl) rfl rfl (Nat.le_of_ble_eq_true rfl) rfl rfl ob3 ok9 (Call.mono hf ?_)
  rintro _ h4 ⟨z5, rfl, hf⟩
  refine R_istore dX11_tissue_17 (by decide) rfl ?_
  refine R_iload_n dX11_tissue_19 rfl 2 rfl ?_
  refine R_iconst (v := 1) dX11_tissue_20 (by decide) ?_
  refine R_icmp_lt (tgt := 50) dX11_tissue_21 (by decide) (fun b6 => ?_) (fun b6 => ?_)
  · have hf := hf.1 b6
    refine R_bipush (v := (-2)) dX11_tissue_50 (by decide) ?_
    exact R_iret dX11_tissue_52 rfl rfl hf
  · have hf := hf.2 b6
    refine R_iload_n dX11_tissue_24 rfl 2 rfl ?_
    refine R_bipush (v := 20) dX11_tissue_25 (by decide) ?_
    refine R_icmp_gt (tgt := 50) dX11_tissue_27 (by decide) (fun b7 => ?_) (fun b7 => ?_)
    · have hf := hf.1 b7
      refine R_bipush (v := (-2)) dX11_tissue_50 (by decide) ?_
      exact R_iret dX11_tissue_52 rfl rfl hf
    · have hf := hf.2 b7
      refine R_iload_n dX11_tissue_30 rfl 3 rfl ?_
      refine R_if_lt (tgt := 50) dX11_tissue_31 (by decide) (fun b8 => ?_) (fun b8 => ?_)
      · have hf := hf.1 b8
        refine R_bipush (v := (-2)) dX11_tissue_50 (by decide) ?_
        exact R_iret dX11_tissue_52 rfl rfl hf
      · have hf := hf.2 b8
        refine R_iload_n dX11_tissue_34 rfl 3 rfl ?_
        refine R_bipush (v := 120) dX11_tissue_35 (by decide) ?_
        refine R_icmp_gt (tgt := 50) dX11_tissue_37 (by decide) (fun b9 => ?_) (fun b9 => ?_)
        · have hf := hf.1 b9
          refine R_bipush (v := (-2)) dX11_tissue_50 (by decide) ?_
          exact R_iret dX11_tissue_52 rfl rfl hf
        · have hf := hf.2 b9
          refine R_iload_n dX11_tissue_40 rfl 4 rfl ?_
          refine R_if_lt (tgt := 50) dX11_tissue_41 (by decide) (fun b10 => ?_) (fun b10 => ?_)
          · have hf := hf.1 b10
            refine R_bipush (v := (-2)) dX11_tissue_50 (by decide) ?_
            exact R_iret dX11_tissue_52 rfl rfl hf
          · have hf := hf.2 b10
            refine R_iload_n dX11_tissue_44 rfl 4 rfl ?_
            refine R_bipush (v := 20) dX11_tissue_45 (by decide) ?_
            refine R_icmp_le (tgt := 53) dX11_tissue_47 (by decide) (fun b11 => ?_) (fun b11 => ?_)
            · have hf := hf.1 b11
              refine R_iload dX11_tissue_53 0 rfl ?_
              refine R_iconst (v := 1) dX11_tissue_55 (by decide) ?_
              refine R_icmp_lt (tgt := 78) dX11_tissue_56 (by decide) (fun b12 => ?_) (fun b12 => ?_)
              · have hf := hf.1 b12
                refine R_iconst (v := (-1)) dX11_tissue_78 (by decide) ?_
                exact R_iret dX11_tissue_79 rfl rfl hf
              · have hf := hf.2 b12
                refine R_aload_n dX11_tissue_59 rfl 1 rfl ?_
                obtain ⟨ob13, hf⟩ := hf
                refine G11_13 dX11_tissue_60 lfX11_88 ob13 ?_
                refine R_iload dX11_tissue_63 0 rfl ?_
                refine R_iload_n dX11_tissue_65 rfl 2 rfl ?_
                refine R_iload_n dX11_tissue_66 rfl 3 rfl ?_
                refine R_iload_n dX11_tissue_67 rfl 4 rfl ?_
                refine R_isub dX11_tissue_68 ?_
                refine R_iload_n dX11_tissue_69 rfl 3 rfl ?_
                refine R_iload_n dX11_tissue_70 rfl 4 rfl ?_
                refine R_iadd dX11_tissue_71 ?_
                obtain ⟨ob14, hf⟩ := hf
                refine R_callV (ci := 10) (N := mX10_bound) (as := [.int z5, .int x1, .int (x2 - x3), .int (x2 + x3)]) (rest := []) (kc2 := 0) (ks2 := 0) dX11_tissue_72 lmX11_352 oX10_bound (Nat.le_of_ble_eq_true rfl) rfl rfl (Nat.le_of_ble_eq_true rfl) rfl rfl ob14 ok10 (Call.mono hf ?_)
                rintro _ h15 ⟨z16, rfl, hf⟩
                refine R_if_ne (tgt := 80) dX11_tissue_75 (by decide) (fun b17 => ?_) (fun b17 => ?_)
                · have hf := hf.1 b17
                  refine R_aload_n dX11_tissue_80 rfl 1 rfl ?_
                  obtain ⟨ob18, hf⟩ := hf
                  refine G11_13 dX11_tissue_81 lfX11_88 ob18 ?_
                  refine R_iload dX11_tissue_84 0 rfl ?_
                  obtain ⟨ob19, hf⟩ := hf
                  refine R_callV (ci := 10) (N := mX10_find) (as := [.int z5]) (rest := []) (kc2 := 0) (ks2 := 0) dX11_tissue_86 lmX11_355 oX10_find (Nat.le_of_ble_eq_true rfl) rfl rfl (Nat.le_of_ble_eq_true rfl) rfl rfl ob19 ok10 (Call.mono hf ?_)
                  rintro _ h20 ⟨z21, rfl, hf⟩
                  exact R_iret dX11_tissue_89 rfl rfl hf
                · have hf := hf.2 b17
                  refine R_iconst (v := (-1)) dX11_tissue_78 (by decide) ?_
                  exact R_iret dX11_tissue_79 rfl rfl hf
            · have hf := hf.2 b11
              refine R_bipush (v := (-2)) dX11_tissue_50 (by decide) ?_
              exact R_iret dX11_tissue_52 rfl rfl hf
theorem dX12_keyAt_0 : decode cX12_keyAt 0 = .ok (.iconst 0, 1) := by decide +kernel
theorem dX12_keyAt_1 : decode cX12_keyAt 1 = .ok (.istore_n 3, 1) := by decide +kernel
theorem dX12_keyAt_2 : decode cX12_keyAt 2 = .ok (.iconst 0, 1) := by decide +kernel
theorem dX12_keyAt_3 : decode cX12_keyAt 3 = .ok (.istore 4, 2) := by decide +kernel
theorem dX12_keyAt_5 : decode cX12_keyAt 5 = .ok (.iconst 0, 1) := by decide +kernel
theorem dX12_keyAt_6 : decode cX12_keyAt 6 = .ok (.istore 5, 2) := by decide +kernel
theorem dX12_keyAt_8 : decode cX12_keyAt 8 = .ok (.iload 5, 2) := by decide +kernel
theorem dX12_keyAt_10 : decode cX12_keyAt 10 = .ok (.ldc 127, 2) := by decide +kernel
theorem dX12_keyAt_12 : decode cX12_keyAt 12 = .ok (.invokevirtual 129, 3) := by decide +kernel
theorem dX12_keyAt_15 : decode cX12_keyAt 15 = .ok (.if_icmp .ge 104, 3) := by decide +kernel
theorem dX12_keyAt_18 : decode cX12_keyAt 18 = .ok (.ldc 127, 2) := by decide +kernel
theorem dX12_keyAt_20 : decode cX12_keyAt 20 = .ok (.iload 5, 2) := by decide +kernel
theorem dX12_keyAt_22 : decode cX12_keyAt 22 = .ok (.invokevirtual 135, 3) := by decide +kernel
theorem dX12_keyAt_25 : decode cX12_keyAt 25 = .ok (.bipush 32, 2) := by decide +kernel
theorem dX12_keyAt_27 : decode cX12_keyAt 27 = .ok (.if_icmp .eq 6, 3) := by decide +kernel
theorem dX12_keyAt_30 : decode cX12_keyAt 30 = .ok (.goto 83, 3) := by decide +kernel
theorem dX12_keyAt_33 : decode cX12_keyAt 33 = .ok (.iload 5, 2) := by decide +kernel
theorem dX12_keyAt_35 : decode cX12_keyAt 35 = .ok (.iload 4, 2) := by decide +kernel
theorem dX12_keyAt_37 : decode cX12_keyAt 37 = .ok (.isub, 1) := by decide +kernel
theorem dX12_keyAt_38 : decode cX12_keyAt 38 = .ok (.iload_n 2, 1) := by decide +kernel
theorem dX12_keyAt_39 : decode cX12_keyAt 39 = .ok (.if_icmp .ne 7, 3) := by decide +kernel
theorem dX12_keyAt_42 : decode cX12_keyAt 42 = .ok (.iconst 1, 1) := by decide +kernel
theorem dX12_keyAt_43 : decode cX12_keyAt 43 = .ok (.goto 4, 3) := by decide +kernel
theorem dX12_keyAt_46 : decode cX12_keyAt 46 = .ok (.iconst 0, 1) := by decide +kernel
theorem dX12_keyAt_47 : decode cX12_keyAt 47 = .ok (.istore 6, 2) := by decide +kernel
theorem dX12_keyAt_49 : decode cX12_keyAt 49 = .ok (.iconst 0, 1) := by decide +kernel
theorem dX12_keyAt_50 : decode cX12_keyAt 50 = .ok (.istore 7, 2) := by decide +kernel
theorem dX12_keyAt_52 : decode cX12_keyAt 52 = .ok (.iload 7, 2) := by decide +kernel
theorem dX12_keyAt_54 : decode cX12_keyAt 54 = .ok (.iload_n 2, 1) := by decide +kernel
theorem dX12_keyAt_55 : decode cX12_keyAt 55 = .ok (.if_icmp .ge 42, 3) := by decide +kernel
theorem dX12_keyAt_58 : decode cX12_keyAt 58 = .ok (.iload 6, 2) := by decide +kernel
theorem dX12_keyAt_60 : decode cX12_keyAt 60 = .ok (.ifCond .eq 37, 3) := by decide +kernel
theorem dX12_keyAt_63 : decode cX12_keyAt 63 = .ok (.ldc 127, 2) := by decide +kernel
theorem dX12_keyAt_65 : decode cX12_keyAt 65 = .ok (.iload 4, 2) := by decide +kernel
theorem dX12_keyAt_67 : decode cX12_keyAt 67 = .ok (.iload 7, 2) := by decide +kernel
theorem dX12_keyAt_69 : decode cX12_keyAt 69 = .ok (.iadd, 1) := by decide +kernel
theorem dX12_keyAt_70 : decode cX12_keyAt 70 = .ok (.invokevirtual 135, 3) := by decide +kernel
theorem dX12_keyAt_73 : decode cX12_keyAt 73 = .ok (.aload_n 0, 1) := by decide +kernel
theorem dX12_keyAt_74 : decode cX12_keyAt 74 = .ok (.iload_n 1, 1) := by decide +kernel
theorem dX12_keyAt_75 : decode cX12_keyAt 75 = .ok (.iload 7, 2) := by decide +kernel
theorem dX12_keyAt_77 : decode cX12_keyAt 77 = .ok (.iadd, 1) := by decide +kernel
theorem dX12_keyAt_78 : decode cX12_keyAt 78 = .ok (.invokevirtual 139, 3) := by decide +kernel
theorem dX12_keyAt_81 : decode cX12_keyAt 81 = .ok (.if_icmp .ne 7, 3) := by decide +kernel
theorem dX12_keyAt_84 : decode cX12_keyAt 84 = .ok (.iconst 1, 1) := by decide +kernel
theorem dX12_keyAt_85 : decode cX12_keyAt 85 = .ok (.goto 4, 3) := by decide +kernel
theorem dX12_keyAt_88 : decode cX12_keyAt 88 = .ok (.iconst 0, 1) := by decide +kernel
theorem dX12_keyAt_89 : decode cX12_keyAt 89 = .ok (.istore 6, 2) := by decide +kernel
theorem dX12_keyAt_91 : decode cX12_keyAt 91 = .ok (.iinc 7 1, 3) := by decide +kernel
theorem dX12_keyAt_94 : decode cX12_keyAt 94 = .ok (.goto (-42), 3) := by decide +kernel
theorem dX12_keyAt_97 : decode cX12_keyAt 97 = .ok (.iload 6, 2) := by decide +kernel
theorem dX12_keyAt_99 : decode cX12_keyAt 99 = .ok (.ifCond .eq 5, 3) := by decide +kernel
theorem dX12_keyAt_102 : decode cX12_keyAt 102 = .ok (.iload_n 3, 1) := by decide +kernel
theorem dX12_keyAt_103 : decode cX12_keyAt 103 = .ok (.ireturn, 1) := by decide +kernel
theorem dX12_keyAt_104 : decode cX12_keyAt 104 = .ok (.iinc 3 1, 3) := by decide +kernel
theorem dX12_keyAt_107 : decode cX12_keyAt 107 = .ok (.iload 5, 2) := by decide +kernel
theorem dX12_keyAt_109 : decode cX12_keyAt 109 = .ok (.iconst 1, 1) := by decide +kernel
theorem dX12_keyAt_110 : decode cX12_keyAt 110 = .ok (.iadd, 1) := by decide +kernel
theorem dX12_keyAt_111 : decode cX12_keyAt 111 = .ok (.istore 4, 2) := by decide +kernel
theorem dX12_keyAt_113 : decode cX12_keyAt 113 = .ok (.iinc 5 1, 3) := by decide +kernel
theorem dX12_keyAt_116 : decode cX12_keyAt 116 = .ok (.goto (-108), 3) := by decide +kernel
theorem dX12_keyAt_119 : decode cX12_keyAt 119 = .ok (.iconst (-1), 1) := by decide +kernel
theorem dX12_keyAt_120 : decode cX12_keyAt 120 = .ok (.ireturn, 1) := by decide +kernel
set_option maxRecDepth 20000 in
theorem sX12_keyAt_0 {P : Option Value → AH → Prop} (h : AH) (r0 : Nat) (x1 : Int32) (x2 : Int32) (hf : Rr mX12_keyAt 0 0 8 [(0, .ref r0), (1, .int x1), (2, .int x2), (3, .int 0), (4, .int 0), (5, .int 0)] [] h P) : Rr mX12_keyAt 0 0 0 [(0, .ref r0), (1, .int x1), (2, .int x2)] [] h P := by
  refine R_iconst (v := 0) dX12_keyAt_0 (by decide) ?_
  refine R_istore_n dX12_keyAt_1 rfl (by decide) rfl ?_
  refine R_iconst (v := 0) dX12_keyAt_2 (by decide) ?_
  refine R_istore dX12_keyAt_3 (by decide) rfl ?_
  refine R_iconst (v := 0) dX12_keyAt_5 (by decide) ?_
  refine R_istore dX12_keyAt_6 (by decide) rfl ?_
  exact R_sub [3, 4, 5, 2, 1, 0] rfl hf
set_option maxRecDepth 20000 in
theorem sX12_keyAt_8 {P : Option Value → AH → Prop} (h : AH) (r0 : Nat) (x1 : Int32) (x2 : Int32) (x3 : Int32) (x4 : Int32) (x5 : Int32) (hf : Call mJ0_length_8abf5 [.ref (1000 + 2)] h (fun v h1 => ∃ z2 : Int32, v = some (.int z2) ∧ ((z2 ≤ x5 → P (some (.int (-1))) h1) ∧ (¬ z2 ≤ x5 → Call mJ0_charAt_5068e [.ref (1000 + 2), .int x5] h1 (fun v h4 => ∃ z5 : Int32, v = some (.int z5) ∧ ((z5 = 32 → Rr mX12_keyAt 0 0 52 [(0, .ref r0), (1, .int x1), (2, .int x2), (3, .int x3), (4, .int x4), (5, .int x5), (6, .int (bi ((x5 - x4) = x2))), (7, .int 0)] [] h4 P) ∧ (¬ z5 = 32 → Rr mX12_keyAt 0 0 8 [(0, .ref r0), (1, .int x1), (2, .int x2), (3, .int x3), (4, .int x4), (5, .int (x5 + 1))] [] h4 P))))))) : Rr mX12_keyAt 0 0 8 [(0, .ref r0), (1, .int x1), (2, .int x2), (3, .int x3), (4, .int x4), (5, .int x5)] [] h P := by
  refine R_iload dX12_keyAt_8 5 rfl ?_
  refine R_ldcS 2 dX12_keyAt_10 rfl ?_
  refine R_callStr (j := 2) (N := mJ0_length_8abf5) (as := []) (rest := [.int x5]) (kc2 := 0) (ks2 := 0) dX12_keyAt_12 lmX12_129 oJ0_length_8abf5 rfl (Nat.le_of_ble_eq_true rfl) rfl rfl (Nat.le_of_ble_eq_true rfl) rfl rfl (by decide) (Call.mono hf ?_)
  rintro _ h1 ⟨z2, rfl, hf⟩
  refine R_icmp_ge (tgt := 119) dX12_keyAt_15 (by decide) (fun b3 => ?_) (fun b3 => ?_)
  · have hf := hf.1 b3
    refine R_iconst (v := (-1)) dX12_keyAt_119 (by decide) ?_
    exact R_iret dX12_keyAt_120 rfl rfl hf
  · have hf := hf.2 b3
    refine R_ldcS 2 dX12_keyAt_18 rfl ?_
    refine R_iload dX12_keyAt_20 5 rfl ?_
    refine R_callStr (j := 2) (N := mJ0_charAt_5068e) (as := [.int x5]) (rest := []) (kc2 := 0) (ks2 := 0) dX12_keyAt_22 lmX12_135 oJ0_charAt_5068e rfl (Nat.le_of_ble_eq_true rfl) rfl rfl (Nat.le_of_ble_eq_true rfl) rfl rfl (by decide) (Call.mono hf ?_)
    rintro _ h4 ⟨z5, rfl, hf⟩
    refine R_bipush (v := 32) dX12_keyAt_25 (by decide) ?_
    refine R_icmp_eq (tgt := 33) dX12_keyAt_27 (by decide) (fun b6 => ?_) (fun b6 => ?_)
    · have hf := hf.1 b6
      refine R_iload dX12_keyAt_33 5 rfl ?_
      refine R_iload dX12_keyAt_35 4 rfl ?_
      refine R_isub dX12_keyAt_37 ?_
      refine R_iload_n dX12_keyAt_38 rfl 2 rfl ?_
      have key :  Rr mX12_keyAt 0 0 47 [(0, .ref r0), (1, .int x1), (2, .int x2), (3, .int x3), (4, .int x4), (5, .int x5)] [.int (bi ((x5 - x4) = x2))] h4 P := by
        refine R_istore dX12_keyAt_47 (by decide) rfl ?_
        refine R_iconst (v := 0) dX12_keyAt_49 (by decide) ?_
        refine R_istore dX12_keyAt_50 (by decide) rfl ?_
        exact R_sub [2, 3, 4, 5, 6, 7, 1, 0] rfl hf
      refine R_icmp_ne (tgt := 46) dX12_keyAt_39 (by decide) (fun b7 => ?_) (fun b7 => ?_)
      · refine R_iconst (v := 0) dX12_keyAt_46 (by decide) ?_
        have kb := key
        rw [show bi ((x5 - x4) = x2) = 0 from by simp only [bi, b7, false_and, and_false, true_and, and_true, not_true_eq_false, not_false_eq_true, if_true, if_false, true_or, or_true, false_or, or_false, reduceIte]] at kb
        exact R_sub [0, 1, 2, 3, 4, 5] rfl kb
      · refine R_iconst (v := 1) dX12_keyAt_42 (by decide) ?_
        refine R_goto (tgt := 47) dX12_keyAt_43 (by decide) ?_
        have kb := key
        rw [show bi ((x5 - x4) = x2) = 1 from by simp only [bi, b7, false_and, and_false, true_and, and_true, not_true_eq_false, not_false_eq_true, if_true, if_false, true_or, or_true, false_or, or_false, reduceIte]] at kb
        exact R_sub [0, 1, 2, 3, 4, 5] rfl kb
    · have hf := hf.2 b6
      refine R_goto (tgt := 113) dX12_keyAt_30 (by decide) ?_
      refine R_iinc (v := x5 + 1) dX12_keyAt_113 5 rfl rfl (by decide) rfl ?_
      refine R_goto (tgt := 8) dX12_keyAt_116 (by decide) ?_
      exact R_sub [1, 2, 3, 4, 5, 0] rfl hf
set_option maxRecDepth 20000 in
theorem sX12_keyAt_52 {P : Option Value → AH → Prop} (h : AH) (r0 : Nat) (x1 : Int32) (x2 : Int32) (x3 : Int32) (x4 : Int32) (x5 : Int32) (x6 : Int32) (x7 : Int32) (hf : (x2 ≤ x7 → (x6 = 0 → Rr mX12_keyAt 0 0 8 [(0, .ref r0), (1, .int x1), (2, .int x2), (3, .int (x3 + 1)), (4, .int (x5 + 1)), (5, .int (x5 + 1))] [] h P) ∧ (¬ x6 = 0 → P (some (.int x3)) h)) ∧ (¬ x2 ≤ x7 → (x6 = 0 → (x6 = 0 → Rr mX12_keyAt 0 0 8 [(0, .ref r0), (1, .int x1), (2, .int x2), (3, .int (x3 + 1)), (4, .int (x5 + 1)), (5, .int (x5 + 1))] [] h P) ∧ (¬ x6 = 0 → P (some (.int x3)) h)) ∧ (¬ x6 = 0 → Call mJ0_charAt_5068e [.ref (1000 + 2), .int (x4 + x7)] h (fun v h5 => ∃ z6 : Int32, v = some (.int z6) ∧ ((isO h5 12 r0) ∧ ((isA h5 2 (gF h5 r0 0)) ∧ ((¬ (gI h5 r0 2) ≤ (x1 + x7) → vp_in (x1 + x7) (ln (gF h5 r0 0))) ∧ (Rr mX12_keyAt 0 0 52 [(0, .ref r0), (1, .int x1), (2, .int x2), (3, .int x3), (4, .int x4), (5, .int x5), (6, .int (bi (z6 = (if (gI h5 r0 2) ≤ (x1 + x7) then (-1) else ((gI h5 (gF h5 r0 0) (x1 + x7).toNatClampNeg) &&& 255))))), (7, .int (x7 + 1))] [] h5 P)))))))) : Rr mX12_keyAt 0 0 52 [(0, .ref r0), (1, .int x1), (2, .int x2), (3, .int x3), (4, .int x4), (5, .int x5), (6, .int x6), (7, .int x7)] [] h P := by
  refine R_iload dX12_keyAt_52 7 rfl ?_
  refine R_iload_n dX12_keyAt_54 rfl 2 rfl ?_
  refine R_icmp_ge (tgt := 97) dX12_keyAt_55 (by decide) (fun b1 => ?_) (fun b1 => ?_)
  · have hf := hf.1 b1
    refine R_iload dX12_keyAt_97 6 rfl ?_
    refine R_if_eq (tgt := 104) dX12_keyAt_99 (by decide) (fun b2 => ?_) (fun b2 => ?_)
    · have hf := hf.1 b2
      refine R_iinc (v := x3 + 1) dX12_keyAt_104 3 rfl rfl (by decide) rfl ?_
      refine R_iload dX12_keyAt_107 5 rfl ?_
      refine R_iconst (v := 1) dX12_keyAt_109 (by decide) ?_
      refine R_iadd dX12_keyAt_110 ?_
      refine R_istore dX12_keyAt_111 (by decide) rfl ?_
      refine R_iinc (v := x5 + 1) dX12_keyAt_113 5 rfl rfl (by decide) rfl ?_
      refine R_goto (tgt := 8) dX12_keyAt_116 (by decide) ?_
      exact R_sub [3, 4, 5, 2, 1, 0] rfl hf
    · have hf := hf.2 b2
      refine R_iload_n dX12_keyAt_102 rfl 3 rfl ?_
      exact R_iret dX12_keyAt_103 rfl rfl hf
  · have hf := hf.2 b1
    refine R_iload dX12_keyAt_58 6 rfl ?_
    refine R_if_eq (tgt := 97) dX12_keyAt_60 (by decide) (fun b3 => ?_) (fun b3 => ?_)
    · have hf := hf.1 b3
      refine R_iload dX12_keyAt_97 6 rfl ?_
      refine R_if_eq (tgt := 104) dX12_keyAt_99 (by decide) (fun b4 => ?_) (fun b4 => ?_)
      · have hf := hf.1 b4
        refine R_iinc (v := x3 + 1) dX12_keyAt_104 3 rfl rfl (by decide) rfl ?_
        refine R_iload dX12_keyAt_107 5 rfl ?_
        refine R_iconst (v := 1) dX12_keyAt_109 (by decide) ?_
        refine R_iadd dX12_keyAt_110 ?_
        refine R_istore dX12_keyAt_111 (by decide) rfl ?_
        refine R_iinc (v := x5 + 1) dX12_keyAt_113 5 rfl rfl (by decide) rfl ?_
        refine R_goto (tgt := 8) dX12_keyAt_116 (by decide) ?_
        exact R_sub [3, 4, 5, 2, 1, 0] rfl hf
      · have hf := hf.2 b4
        refine R_iload_n dX12_keyAt_102 rfl 3 rfl ?_
        exact R_iret dX12_keyAt_103 rfl rfl hf
    · have hf := hf.2 b3
      refine R_ldcS 2 dX12_keyAt_63 rfl ?_
      refine R_iload dX12_keyAt_65 4 rfl ?_
      refine R_iload dX12_keyAt_67 7 rfl ?_
      refine R_iadd dX12_keyAt_69 ?_
      refine R_callStr (j := 2) (N := mJ0_charAt_5068e) (as := [.int (x4 + x7)]) (rest := []) (kc2 := 0) (ks2 := 0) dX12_keyAt_70 lmX12_135 oJ0_charAt_5068e rfl (Nat.le_of_ble_eq_true rfl) rfl rfl (Nat.le_of_ble_eq_true rfl) rfl rfl (by decide) (Call.mono hf ?_)
      rintro _ h5 ⟨z6, rfl, hf⟩
      refine R_aload_n dX12_keyAt_73 rfl 0 rfl ?_
      refine R_iload_n dX12_keyAt_74 rfl 1 rfl ?_
      refine R_iload dX12_keyAt_75 7 rfl ?_
      refine R_iadd dX12_keyAt_77 ?_
      obtain ⟨ob7, hf⟩ := hf
      obtain ⟨ob8, hf⟩ := hf
      obtain ⟨ob9, hf⟩ := hf
      refine R_callV (ci := 12) (N := mX12_byteAt) (as := [.int (x1 + x7)]) (rest := [.int z6]) (kc2 := 0) (ks2 := 0) dX12_keyAt_78 lmX12_139 oX12_byteAt (Nat.le_of_ble_eq_true rfl) rfl rfl (Nat.le_of_ble_eq_true rfl) rfl rfl ob7 ok12 (aX12_byteAt ob7 ob8 ob9 ?_)
      have key :  Rr mX12_keyAt 0 0 89 [(0, .ref r0), (1, .int x1), (2, .int x2), (3, .int x3), (4, .int x4), (5, .int x5), (7, .int x7)] [.int (bi (z6 = (if (gI h5 r0 2) ≤ (x1 + x7) then (-1) else ((gI h5 (gF h5 r0 0) (x1 + x7).toNatClampNeg) &&& 255))))] h5 P := by
        refine R_istore dX12_keyAt_89 (by decide) rfl ?_
        refine R_iinc (v := x7 + 1) dX12_keyAt_91 7 rfl rfl (by decide) rfl ?_
        refine R_goto (tgt := 52) dX12_keyAt_94 (by decide) ?_
        exact R_sub [2, 3, 4, 5, 6, 7, 1, 0] rfl hf
      refine R_icmp_ne (tgt := 88) dX12_keyAt_81 (by decide) (fun b10 => ?_) (fun b10 => ?_)
      · refine R_iconst (v := 0) dX12_keyAt_88 (by decide) ?_
        have kb := key
        rw [show bi (z6 = (if (gI h5 r0 2) ≤ (x1 + x7) then (-1) else ((gI h5 (gF h5 r0 0) (x1 + x7).toNatClampNeg) &&& 255))) = 0 from by simp only [bi, b10, false_and, and_false, true_and, and_true, not_true_eq_false, not_false_eq_true, if_true, if_false, true_or, or_true, false_or, or_false, reduceIte]] at kb
        exact R_sub [0, 1, 2, 3, 4, 5, 7] rfl kb
      · refine R_iconst (v := 1) dX12_keyAt_84 (by decide) ?_
        refine R_goto (tgt := 89) dX12_keyAt_85 (by decide) ?_
        have kb := key
        rw [show bi (z6 = (if (gI h5 r0 2) ≤ (x1 + x7) then (-1) else ((gI h5 (gF h5 r0 0) (x1 + x7).toNatClampNeg) &&& 255))) = 1 from by simp only [bi, b10, false_and, and_false, true_and, and_true, not_true_eq_false, not_false_eq_true, if_true, if_false, true_or, or_true, false_or, or_false, reduceIte]] at kb
        exact R_sub [0, 1, 2, 3, 4, 5, 7] rfl kb
theorem dX9_spells_0 : decode cX9_spells 0 = .ok (.iconst 0, 1) := by decide +kernel
theorem dX9_spells_1 : decode cX9_spells 1 = .ok (.istore_n 3, 1) := by decide +kernel
theorem dX9_spells_2 : decode cX9_spells 2 = .ok (.iload_n 3, 1) := by decide +kernel
theorem dX9_spells_3 : decode cX9_spells 3 = .ok (.bipush 8, 2) := by decide +kernel
theorem dX9_spells_5 : decode cX9_spells 5 = .ok (.if_icmp .ge 54, 3) := by decide +kernel
theorem dX9_spells_8 : decode cX9_spells 8 = .ok (.aload_n 0, 1) := by decide +kernel
theorem dX9_spells_9 : decode cX9_spells 9 = .ok (.getfield 26, 3) := by decide +kernel
theorem dX9_spells_12 : decode cX9_spells 12 = .ok (.iload_n 3, 1) := by decide +kernel
theorem dX9_spells_13 : decode cX9_spells 13 = .ok (.iadd, 1) := by decide +kernel
theorem dX9_spells_14 : decode cX9_spells 14 = .ok (.aload_n 0, 1) := by decide +kernel
theorem dX9_spells_15 : decode cX9_spells 15 = .ok (.getfield 19, 3) := by decide +kernel
theorem dX9_spells_18 : decode cX9_spells 18 = .ok (.if_icmp .ge 17, 3) := by decide +kernel
theorem dX9_spells_21 : decode cX9_spells 21 = .ok (.aload_n 0, 1) := by decide +kernel
theorem dX9_spells_22 : decode cX9_spells 22 = .ok (.getfield 11, 3) := by decide +kernel
theorem dX9_spells_25 : decode cX9_spells 25 = .ok (.aload_n 0, 1) := by decide +kernel
theorem dX9_spells_26 : decode cX9_spells 26 = .ok (.getfield 26, 3) := by decide +kernel
theorem dX9_spells_29 : decode cX9_spells 29 = .ok (.iload_n 3, 1) := by decide +kernel
theorem dX9_spells_30 : decode cX9_spells 30 = .ok (.iadd, 1) := by decide +kernel
theorem dX9_spells_31 : decode cX9_spells 31 = .ok (.baload, 1) := by decide +kernel
theorem dX9_spells_32 : decode cX9_spells 32 = .ok (.goto 5, 3) := by decide +kernel
theorem dX9_spells_35 : decode cX9_spells 35 = .ok (.bipush 32, 2) := by decide +kernel
theorem dX9_spells_37 : decode cX9_spells 37 = .ok (.istore 4, 2) := by decide +kernel
theorem dX9_spells_39 : decode cX9_spells 39 = .ok (.aload_n 1, 1) := by decide +kernel
theorem dX9_spells_40 : decode cX9_spells 40 = .ok (.iload_n 2, 1) := by decide +kernel
theorem dX9_spells_41 : decode cX9_spells 41 = .ok (.iload_n 3, 1) := by decide +kernel
theorem dX9_spells_42 : decode cX9_spells 42 = .ok (.iadd, 1) := by decide +kernel
theorem dX9_spells_43 : decode cX9_spells 43 = .ok (.invokevirtual 60, 3) := by decide +kernel
theorem dX9_spells_46 : decode cX9_spells 46 = .ok (.iload 4, 2) := by decide +kernel
theorem dX9_spells_48 : decode cX9_spells 48 = .ok (.if_icmp .eq 5, 3) := by decide +kernel
theorem dX9_spells_51 : decode cX9_spells 51 = .ok (.iconst 0, 1) := by decide +kernel
theorem dX9_spells_52 : decode cX9_spells 52 = .ok (.ireturn, 1) := by decide +kernel
theorem dX9_spells_53 : decode cX9_spells 53 = .ok (.iinc 3 1, 3) := by decide +kernel
theorem dX9_spells_56 : decode cX9_spells 56 = .ok (.goto (-54), 3) := by decide +kernel
theorem dX9_spells_59 : decode cX9_spells 59 = .ok (.iconst 1, 1) := by decide +kernel
theorem dX9_spells_60 : decode cX9_spells 60 = .ok (.ireturn, 1) := by decide +kernel
set_option maxRecDepth 20000 in
theorem sX9_spells_0 {P : Option Value → AH → Prop} (h : AH) (r0 : Nat) (j1 : Nat) (x2 : Int32) (hf : Rr mX9_spells 0 0 2 [(0, .ref r0), (1, .ref (1000 + j1)), (2, .int x2), (3, .int 0)] [] h P) : Rr mX9_spells 0 0 0 [(0, .ref r0), (1, .ref (1000 + j1)), (2, .int x2)] [] h P := by
  refine R_iconst (v := 0) dX9_spells_0 (by decide) ?_
  refine R_istore_n dX9_spells_1 rfl (by decide) rfl ?_
  exact R_sub [1, 2, 3, 0] rfl hf
set_option maxRecDepth 20000 in
theorem sX9_spells_2 {P : Option Value → AH → Prop} (h : AH) (r0 : Nat) (j1 : Nat) (x2 : Int32) (x3 : Int32) (hf : (8 ≤ x3 → P (some (.int 1)) h) ∧ (¬ 8 ≤ x3 → (isO h 9 r0) ∧ ((isA h 2 (gF h r0 0)) ∧ ((¬ (gI h r0 1) ≤ ((gI h r0 4) + x3) → vp_in ((gI h r0 4) + x3) (ln (gF h r0 0))) ∧ (∀ z6 : Int32, z6 = (if (gI h r0 1) ≤ ((gI h r0 4) + x3) then 32 else (gI h (gF h r0 0) ((gI h r0 4) + x3).toNatClampNeg)) → ((j1 < 3) ∧ (Call mJ0_charAt_5068e [.ref (1000 + j1), .int (x2 + x3)] h (fun v h8 => ∃ z9 : Int32, v = some (.int z9) ∧ ((z9 = z6 → Rr mX9_spells 0 0 2 [(0, .ref r0), (1, .ref (1000 + j1)), (2, .int x2), (3, .int (x3 + 1))] [] h8 P) ∧ (¬ z9 = z6 → P (some (.int 0)) h8)))))))))) : Rr mX9_spells 0 0 2 [(0, .ref r0), (1, .ref (1000 + j1)), (2, .int x2), (3, .int x3)] [] h P := by
  refine R_iload_n dX9_spells_2 rfl 3 rfl ?_
  refine R_bipush (v := 8) dX9_spells_3 (by decide) ?_
  refine R_icmp_ge (tgt := 59) dX9_spells_5 (by decide) (fun b1 => ?_) (fun b1 => ?_)
  · have hf := hf.1 b1
    refine R_iconst (v := 1) dX9_spells_59 (by decide) ?_
    exact R_iret dX9_spells_60 rfl rfl hf
  · have hf := hf.2 b1
    refine R_aload_n dX9_spells_8 rfl 0 rfl ?_
    obtain ⟨ob2, hf⟩ := hf
    refine G9_4 dX9_spells_9 lfX9_26 ob2 ?_
    refine R_iload_n dX9_spells_12 rfl 3 rfl ?_
    refine R_iadd dX9_spells_13 ?_
    refine R_aload_n dX9_spells_14 rfl 0 rfl ?_
    refine G9_1 dX9_spells_15 lfX9_19 ob2 ?_
    obtain ⟨ob4, hf⟩ := hf
    obtain ⟨ob5, hf⟩ := hf
    have key : ∀ z6 : Int32, z6 = (if (gI h r0 1) ≤ ((gI h r0 4) + x3) then 32 else (gI h (gF h r0 0) ((gI h r0 4) + x3).toNatClampNeg)) → Rr mX9_spells 0 0 37 [(0, .ref r0), (1, .ref (1000 + j1)), (2, .int x2), (3, .int x3)] [.int z6] h P := by
      intro z6 ez6
      have hf := hf z6 ez6
      refine R_istore dX9_spells_37 (by decide) rfl ?_
      refine R_aload_n dX9_spells_39 rfl 2 rfl ?_
      refine R_iload_n dX9_spells_40 rfl 3 rfl ?_
      refine R_iload_n dX9_spells_41 rfl 4 rfl ?_
      refine R_iadd dX9_spells_42 ?_
      obtain ⟨ob7, hf⟩ := hf
      refine R_callStr (j := j1) (N := mJ0_charAt_5068e) (as := [.int (x2 + x3)]) (rest := []) (kc2 := 0) (ks2 := 0) dX9_spells_43 lmX9_60 oJ0_charAt_5068e rfl (Nat.le_of_ble_eq_true rfl) rfl rfl (Nat.le_of_ble_eq_true rfl) rfl rfl ob7 (Call.mono hf ?_)
      rintro _ h8 ⟨z9, rfl, hf⟩
      refine R_iload dX9_spells_46 0 rfl ?_
      refine R_icmp_eq (tgt := 53) dX9_spells_48 (by decide) (fun b10 => ?_) (fun b10 => ?_)
      · have hf := hf.1 b10
        refine R_iinc (v := x3 + 1) dX9_spells_53 4 rfl rfl (by decide) rfl ?_
        refine R_goto (tgt := 2) dX9_spells_56 (by decide) ?_
        exact R_sub [2, 3, 4, 0] rfl hf
      · have hf := hf.2 b10
        refine R_iconst (v := 0) dX9_spells_51 (by decide) ?_
        exact R_iret dX9_spells_52 rfl rfl hf
    refine R_icmp_ge (tgt := 35) dX9_spells_18 (by decide) (fun b3 => ?_) (fun b3 => ?_)
    · refine R_bipush (v := 32) dX9_spells_35 (by decide) ?_
      exact R_sub [0, 1, 2, 3] rfl (key _ (by rw [if_pos b3]))
    · refine R_aload_n dX9_spells_21 rfl 0 rfl ?_
      refine G9_0 dX9_spells_22 lfX9_11 ob2 ?_
      refine R_aload_n dX9_spells_25 rfl 0 rfl ?_
      refine G9_4 dX9_spells_26 lfX9_26 ob2 ?_
      refine R_iload_n dX9_spells_29 rfl 3 rfl ?_
      refine R_iadd dX9_spells_30 ?_
      refine R_baload dX9_spells_31 ob4 (ob5 b3) ?_
      refine R_goto (tgt := 37) dX9_spells_32 (by decide) ?_
      exact R_sub [0, 1, 2, 3] rfl (key _ (by rw [if_neg b3]))
theorem dX12_scan_0 : decode cX12_scan 0 = .ok (.aload_n 0, 1) := by decide +kernel
theorem dX12_scan_1 : decode cX12_scan 1 = .ok (.getfield 143, 3) := by decide +kernel
theorem dX12_scan_4 : decode cX12_scan 4 = .ok (.istore_n 1, 1) := by decide +kernel
theorem dX12_scan_5 : decode cX12_scan 5 = .ok (.aload_n 0, 1) := by decide +kernel
theorem dX12_scan_6 : decode cX12_scan 6 = .ok (.iload_n 1, 1) := by decide +kernel
theorem dX12_scan_7 : decode cX12_scan 7 = .ok (.invokevirtual 139, 3) := by decide +kernel
theorem dX12_scan_10 : decode cX12_scan 10 = .ok (.bipush 32, 2) := by decide +kernel
theorem dX12_scan_12 : decode cX12_scan 12 = .ok (.if_icmp .eq 13, 3) := by decide +kernel
theorem dX12_scan_15 : decode cX12_scan 15 = .ok (.aload_n 0, 1) := by decide +kernel
theorem dX12_scan_16 : decode cX12_scan 16 = .ok (.iload_n 1, 1) := by decide +kernel
theorem dX12_scan_17 : decode cX12_scan 17 = .ok (.invokevirtual 139, 3) := by decide +kernel
theorem dX12_scan_20 : decode cX12_scan 20 = .ok (.bipush 10, 2) := by decide +kernel
theorem dX12_scan_22 : decode cX12_scan 22 = .ok (.if_icmp .ne 9, 3) := by decide +kernel
theorem dX12_scan_25 : decode cX12_scan 25 = .ok (.iinc 1 1, 3) := by decide +kernel
theorem dX12_scan_28 : decode cX12_scan 28 = .ok (.goto (-23), 3) := by decide +kernel
theorem dX12_scan_31 : decode cX12_scan 31 = .ok (.aload_n 0, 1) := by decide +kernel
theorem dX12_scan_32 : decode cX12_scan 32 = .ok (.iload_n 1, 1) := by decide +kernel
theorem dX12_scan_33 : decode cX12_scan 33 = .ok (.putfield 146, 3) := by decide +kernel
theorem dX12_scan_36 : decode cX12_scan 36 = .ok (.aload_n 0, 1) := by decide +kernel
theorem dX12_scan_37 : decode cX12_scan 37 = .ok (.iload_n 1, 1) := by decide +kernel
theorem dX12_scan_38 : decode cX12_scan 38 = .ok (.invokevirtual 139, 3) := by decide +kernel
theorem dX12_scan_41 : decode cX12_scan 41 = .ok (.istore_n 2, 1) := by decide +kernel
theorem dX12_scan_42 : decode cX12_scan 42 = .ok (.iload_n 1, 1) := by decide +kernel
theorem dX12_scan_43 : decode cX12_scan 43 = .ok (.iconst 1, 1) := by decide +kernel
theorem dX12_scan_44 : decode cX12_scan 44 = .ok (.iadd, 1) := by decide +kernel
theorem dX12_scan_45 : decode cX12_scan 45 = .ok (.istore_n 3, 1) := by decide +kernel
theorem dX12_scan_46 : decode cX12_scan 46 = .ok (.aload_n 0, 1) := by decide +kernel
theorem dX12_scan_47 : decode cX12_scan 47 = .ok (.iconst (-1), 1) := by decide +kernel
theorem dX12_scan_48 : decode cX12_scan 48 = .ok (.putfield 149, 3) := by decide +kernel
theorem dX12_scan_51 : decode cX12_scan 51 = .ok (.iload_n 2, 1) := by decide +kernel
theorem dX12_scan_52 : decode cX12_scan 52 = .ok (.iconst (-1), 1) := by decide +kernel
theorem dX12_scan_53 : decode cX12_scan 53 = .ok (.if_icmp .ne 13, 3) := by decide +kernel
theorem dX12_scan_56 : decode cX12_scan 56 = .ok (.aload_n 0, 1) := by decide +kernel
theorem dX12_scan_57 : decode cX12_scan 57 = .ok (.iconst 5, 1) := by decide +kernel
theorem dX12_scan_58 : decode cX12_scan 58 = .ok (.putfield 152, 3) := by decide +kernel
theorem dX12_scan_61 : decode cX12_scan 61 = .ok (.iload_n 1, 1) := by decide +kernel
theorem dX12_scan_62 : decode cX12_scan 62 = .ok (.istore_n 3, 1) := by decide +kernel
theorem dX12_scan_63 : decode cX12_scan 63 = .ok (.goto 179, 3) := by decide +kernel
theorem dX12_scan_66 : decode cX12_scan 66 = .ok (.iload_n 2, 1) := by decide +kernel
theorem dX12_scan_67 : decode cX12_scan 67 = .ok (.invokestatic 155, 3) := by decide +kernel
theorem dX12_scan_70 : decode cX12_scan 70 = .ok (.ifCond .eq 62, 3) := by decide +kernel
theorem dX12_scan_73 : decode cX12_scan 73 = .ok (.iload_n 1, 1) := by decide +kernel
theorem dX12_scan_74 : decode cX12_scan 74 = .ok (.istore_n 3, 1) := by decide +kernel
theorem dX12_scan_75 : decode cX12_scan 75 = .ok (.aload_n 0, 1) := by decide +kernel
theorem dX12_scan_76 : decode cX12_scan 76 = .ok (.iload_n 3, 1) := by decide +kernel
theorem dX12_scan_77 : decode cX12_scan 77 = .ok (.invokevirtual 139, 3) := by decide +kernel
theorem dX12_scan_80 : decode cX12_scan 80 = .ok (.invokestatic 155, 3) := by decide +kernel
theorem dX12_scan_83 : decode cX12_scan 83 = .ok (.ifCond .eq 9, 3) := by decide +kernel
theorem dX12_scan_86 : decode cX12_scan 86 = .ok (.iinc 3 1, 3) := by decide +kernel
theorem dX12_scan_89 : decode cX12_scan 89 = .ok (.goto (-14), 3) := by decide +kernel
theorem dX12_scan_92 : decode cX12_scan 92 = .ok (.aload_n 0, 1) := by decide +kernel
theorem dX12_scan_93 : decode cX12_scan 93 = .ok (.iload_n 3, 1) := by decide +kernel
theorem dX12_scan_94 : decode cX12_scan 94 = .ok (.iload_n 1, 1) := by decide +kernel
theorem dX12_scan_95 : decode cX12_scan 95 = .ok (.isub, 1) := by decide +kernel
theorem dX12_scan_96 : decode cX12_scan 96 = .ok (.bipush 8, 2) := by decide +kernel
theorem dX12_scan_98 : decode cX12_scan 98 = .ok (.if_icmp .le 7, 3) := by decide +kernel
theorem dX12_scan_101 : decode cX12_scan 101 = .ok (.iconst 0, 1) := by decide +kernel
theorem dX12_scan_102 : decode cX12_scan 102 = .ok (.goto 4, 3) := by decide +kernel
theorem dX12_scan_105 : decode cX12_scan 105 = .ok (.iconst 1, 1) := by decide +kernel
theorem dX12_scan_106 : decode cX12_scan 106 = .ok (.putfield 152, 3) := by decide +kernel
theorem dX12_scan_109 : decode cX12_scan 109 = .ok (.aload_n 0, 1) := by decide +kernel
theorem dX12_scan_110 : decode cX12_scan 110 = .ok (.getfield 152, 3) := by decide +kernel
theorem dX12_scan_113 : decode cX12_scan 113 = .ok (.iconst 1, 1) := by decide +kernel
theorem dX12_scan_114 : decode cX12_scan 114 = .ok (.if_icmp .ne 128, 3) := by decide +kernel
theorem dX12_scan_117 : decode cX12_scan 117 = .ok (.aload_n 0, 1) := by decide +kernel
theorem dX12_scan_118 : decode cX12_scan 118 = .ok (.aload_n 0, 1) := by decide +kernel
theorem dX12_scan_119 : decode cX12_scan 119 = .ok (.iload_n 1, 1) := by decide +kernel
theorem dX12_scan_120 : decode cX12_scan 120 = .ok (.iload_n 3, 1) := by decide +kernel
theorem dX12_scan_121 : decode cX12_scan 121 = .ok (.iload_n 1, 1) := by decide +kernel
theorem dX12_scan_122 : decode cX12_scan 122 = .ok (.isub, 1) := by decide +kernel
theorem dX12_scan_123 : decode cX12_scan 123 = .ok (.invokevirtual 159, 3) := by decide +kernel
theorem dX12_scan_126 : decode cX12_scan 126 = .ok (.putfield 149, 3) := by decide +kernel
theorem dX12_scan_129 : decode cX12_scan 129 = .ok (.goto 113, 3) := by decide +kernel
theorem dX12_scan_132 : decode cX12_scan 132 = .ok (.iload_n 2, 1) := by decide +kernel
theorem dX12_scan_133 : decode cX12_scan 133 = .ok (.invokestatic 163, 3) := by decide +kernel
theorem dX12_scan_136 : decode cX12_scan 136 = .ok (.ifCond .eq 81, 3) := by decide +kernel
theorem dX12_scan_139 : decode cX12_scan 139 = .ok (.aload_n 0, 1) := by decide +kernel
theorem dX12_scan_140 : decode cX12_scan 140 = .ok (.iload_n 2, 1) := by decide +kernel
theorem dX12_scan_141 : decode cX12_scan 141 = .ok (.bipush 48, 2) := by decide +kernel
theorem dX12_scan_143 : decode cX12_scan 143 = .ok (.isub, 1) := by decide +kernel
theorem dX12_scan_144 : decode cX12_scan 144 = .ok (.putfield 166, 3) := by decide +kernel
theorem dX12_scan_147 : decode cX12_scan 147 = .ok (.aload_n 0, 1) := by decide +kernel
theorem dX12_scan_148 : decode cX12_scan 148 = .ok (.iload_n 3, 1) := by decide +kernel
theorem dX12_scan_149 : decode cX12_scan 149 = .ok (.invokevirtual 139, 3) := by decide +kernel
theorem dX12_scan_152 : decode cX12_scan 152 = .ok (.invokestatic 163, 3) := by decide +kernel
theorem dX12_scan_155 : decode cX12_scan 155 = .ok (.ifCond .eq 43, 3) := by decide +kernel
theorem dX12_scan_158 : decode cX12_scan 158 = .ok (.aload_n 0, 1) := by decide +kernel
theorem dX12_scan_159 : decode cX12_scan 159 = .ok (.iload_n 3, 1) := by decide +kernel
theorem dX12_scan_160 : decode cX12_scan 160 = .ok (.iload_n 1, 1) := by decide +kernel
theorem dX12_scan_161 : decode cX12_scan 161 = .ok (.isub, 1) := by decide +kernel
theorem dX12_scan_162 : decode cX12_scan 162 = .ok (.iconst 4, 1) := by decide +kernel
theorem dX12_scan_163 : decode cX12_scan 163 = .ok (.if_icmp .ge 22, 3) := by decide +kernel
theorem dX12_scan_166 : decode cX12_scan 166 = .ok (.bipush 10, 2) := by decide +kernel
theorem dX12_scan_168 : decode cX12_scan 168 = .ok (.aload_n 0, 1) := by decide +kernel
theorem dX12_scan_169 : decode cX12_scan 169 = .ok (.getfield 166, 3) := by decide +kernel
theorem dX12_scan_172 : decode cX12_scan 172 = .ok (.imul, 1) := by decide +kernel
theorem dX12_scan_173 : decode cX12_scan 173 = .ok (.aload_n 0, 1) := by decide +kernel
theorem dX12_scan_174 : decode cX12_scan 174 = .ok (.iload_n 3, 1) := by decide +kernel
theorem dX12_scan_175 : decode cX12_scan 175 = .ok (.invokevirtual 139, 3) := by decide +kernel
theorem dX12_scan_178 : decode cX12_scan 178 = .ok (.iadd, 1) := by decide +kernel
theorem dX12_scan_179 : decode cX12_scan 179 = .ok (.bipush 48, 2) := by decide +kernel
theorem dX12_scan_181 : decode cX12_scan 181 = .ok (.isub, 1) := by decide +kernel
theorem dX12_scan_182 : decode cX12_scan 182 = .ok (.goto 7, 3) := by decide +kernel
theorem dX12_scan_185 : decode cX12_scan 185 = .ok (.aload_n 0, 1) := by decide +kernel
theorem dX12_scan_186 : decode cX12_scan 186 = .ok (.getfield 166, 3) := by decide +kernel
theorem dX12_scan_189 : decode cX12_scan 189 = .ok (.putfield 166, 3) := by decide +kernel
theorem dX12_scan_192 : decode cX12_scan 192 = .ok (.iinc 3 1, 3) := by decide +kernel
theorem dX12_scan_195 : decode cX12_scan 195 = .ok (.goto (-48), 3) := by decide +kernel
theorem dX12_scan_198 : decode cX12_scan 198 = .ok (.aload_n 0, 1) := by decide +kernel
theorem dX12_scan_199 : decode cX12_scan 199 = .ok (.iload_n 3, 1) := by decide +kernel
theorem dX12_scan_200 : decode cX12_scan 200 = .ok (.iload_n 1, 1) := by decide +kernel
theorem dX12_scan_201 : decode cX12_scan 201 = .ok (.isub, 1) := by decide +kernel
theorem dX12_scan_202 : decode cX12_scan 202 = .ok (.iconst 4, 1) := by decide +kernel
theorem dX12_scan_203 : decode cX12_scan 203 = .ok (.if_icmp .le 7, 3) := by decide +kernel
theorem dX12_scan_206 : decode cX12_scan 206 = .ok (.iconst 0, 1) := by decide +kernel
theorem dX12_scan_207 : decode cX12_scan 207 = .ok (.goto 4, 3) := by decide +kernel
theorem dX12_scan_210 : decode cX12_scan 210 = .ok (.iconst 2, 1) := by decide +kernel
theorem dX12_scan_211 : decode cX12_scan 211 = .ok (.putfield 152, 3) := by decide +kernel
theorem dX12_scan_214 : decode cX12_scan 214 = .ok (.goto 28, 3) := by decide +kernel
theorem dX12_scan_217 : decode cX12_scan 217 = .ok (.aload_n 0, 1) := by decide +kernel
theorem dX12_scan_218 : decode cX12_scan 218 = .ok (.iload_n 2, 1) := by decide +kernel
theorem dX12_scan_219 : decode cX12_scan 219 = .ok (.bipush 59, 2) := by decide +kernel
theorem dX12_scan_221 : decode cX12_scan 221 = .ok (.if_icmp .ne 7, 3) := by decide +kernel
theorem dX12_scan_224 : decode cX12_scan 224 = .ok (.iconst 3, 1) := by decide +kernel
theorem dX12_scan_225 : decode cX12_scan 225 = .ok (.goto 14, 3) := by decide +kernel
theorem dX12_scan_228 : decode cX12_scan 228 = .ok (.iload_n 2, 1) := by decide +kernel
theorem dX12_scan_229 : decode cX12_scan 229 = .ok (.bipush 45, 2) := by decide +kernel
theorem dX12_scan_231 : decode cX12_scan 231 = .ok (.if_icmp .ne 7, 3) := by decide +kernel
theorem dX12_scan_234 : decode cX12_scan 234 = .ok (.iconst 4, 1) := by decide +kernel
theorem dX12_scan_235 : decode cX12_scan 235 = .ok (.goto 4, 3) := by decide +kernel
theorem dX12_scan_238 : decode cX12_scan 238 = .ok (.iconst 0, 1) := by decide +kernel
theorem dX12_scan_239 : decode cX12_scan 239 = .ok (.putfield 152, 3) := by decide +kernel
theorem dX12_scan_242 : decode cX12_scan 242 = .ok (.aload_n 0, 1) := by decide +kernel
theorem dX12_scan_243 : decode cX12_scan 243 = .ok (.iload_n 3, 1) := by decide +kernel
theorem dX12_scan_244 : decode cX12_scan 244 = .ok (.putfield 143, 3) := by decide +kernel
theorem dX12_scan_247 : decode cX12_scan 247 = .ok (.return_, 1) := by decide +kernel
set_option maxRecDepth 20000 in
theorem sX12_scan_0 {P : Option Value → AH → Prop} (h : AH) (r0 : Nat) (hf : (isO h 12 r0) ∧ (Rr mX12_scan 0 0 5 [(0, .ref r0), (1, .int (gI h r0 6))] [] h P)) : Rr mX12_scan 0 0 0 [(0, .ref r0)] [] h P := by
  refine R_aload_n dX12_scan_0 rfl 0 rfl ?_
  obtain ⟨ob1, hf⟩ := hf
  refine G12_6 dX12_scan_1 lfX12_143 ob1 ?_
  refine R_istore_n dX12_scan_4 rfl (by decide) rfl ?_
  exact R_sub [1, 0] rfl hf
set_option maxRecDepth 20000 in
theorem sX12_scan_5 {P : Option Value → AH → Prop} (h : AH) (r0 : Nat) (x1 : Int32) (hf : (isO h 12 r0) ∧ ((isA h 2 (gF h r0 0)) ∧ ((¬ (gI h r0 2) ≤ x1 → vp_in x1 (ln (gF h r0 0))) ∧ (((if (gI h r0 2) ≤ x1 then (-1) else ((gI h (gF h r0 0) x1.toNatClampNeg) &&& 255)) = 32 → Rr mX12_scan 0 0 5 [(0, .ref r0), (1, .int (x1 + 1))] [] h P) ∧ (¬ (if (gI h r0 2) ≤ x1 then (-1) else ((gI h (gF h r0 0) x1.toNatClampNeg) &&& 255)) = 32 → (¬ (if (gI h r0 2) ≤ x1 then (-1) else ((gI h (gF h r0 0) x1.toNatClampNeg) &&& 255)) = 10 → (¬ (gI (sI h r0 5 x1) r0 2) ≤ x1 → vp_in x1 (ln (gF (sI h r0 5 x1) r0 0))) ∧ ((¬ (if (gI (sI h r0 5 x1) r0 2) ≤ x1 then (-1) else ((gI (sI h r0 5 x1) (gF (sI h r0 5 x1) r0 0) x1.toNatClampNeg) &&& 255)) = (-1) → (¬ (¬ (if (gI (sI h r0 5 x1) r0 2) ≤ x1 then (-1) else ((gI (sI h r0 5 x1) (gF (sI h r0 5 x1) r0 0) x1.toNatClampNeg) &&& 255)) < 97 ∧ ¬ 122 < (if (gI (sI h r0 5 x1) r0 2) ≤ x1 then (-1) else ((gI (sI h r0 5 x1) (gF (sI h r0 5 x1) r0 0) x1.toNatClampNeg) &&& 255))) → (¬ (¬ (if (gI (sI h r0 5 x1) r0 2) ≤ x1 then (-1) else ((gI (sI h r0 5 x1) (gF (sI h r0 5 x1) r0 0) x1.toNatClampNeg) &&& 255)) < 48 ∧ ¬ 57 < (if (gI (sI h r0 5 x1) r0 2) ≤ x1 then (-1) else ((gI (sI h r0 5 x1) (gF (sI h r0 5 x1) r0 0) x1.toNatClampNeg) &&& 255))) → ∀ z12 : Int32, z12 = (if (if (gI (sI h r0 5 x1) r0 2) ≤ x1 then (-1) else ((gI (sI h r0 5 x1) (gF (sI h r0 5 x1) r0 0) x1.toNatClampNeg) &&& 255)) = 59 then 3 else (if (if (gI (sI h r0 5 x1) r0 2) ≤ x1 then (-1) else ((gI (sI h r0 5 x1) (gF (sI h r0 5 x1) r0 0) x1.toNatClampNeg) &&& 255)) = 45 then 4 else 0)) → (P none (sI (sI (sI (sI h r0 5 x1) r0 4 (-1)) r0 3 z12) r0 6 (x1 + 1)))) ∧ ((¬ (if (gI (sI h r0 5 x1) r0 2) ≤ x1 then (-1) else ((gI (sI h r0 5 x1) (gF (sI h r0 5 x1) r0 0) x1.toNatClampNeg) &&& 255)) < 48 ∧ ¬ 57 < (if (gI (sI h r0 5 x1) r0 2) ≤ x1 then (-1) else ((gI (sI h r0 5 x1) (gF (sI h r0 5 x1) r0 0) x1.toNatClampNeg) &&& 255))) → Rr mX12_scan 0 0 147 [(0, .ref r0), (1, .int x1), (3, .int (x1 + 1))] [] (sI (sI (sI h r0 5 x1) r0 4 (-1)) r0 7 ((if (gI (sI h r0 5 x1) r0 2) ≤ x1 then (-1) else ((gI (sI h r0 5 x1) (gF (sI h r0 5 x1) r0 0) x1.toNatClampNeg) &&& 255)) - 48)) P)) ∧ ((¬ (if (gI (sI h r0 5 x1) r0 2) ≤ x1 then (-1) else ((gI (sI h r0 5 x1) (gF (sI h r0 5 x1) r0 0) x1.toNatClampNeg) &&& 255)) < 97 ∧ ¬ 122 < (if (gI (sI h r0 5 x1) r0 2) ≤ x1 then (-1) else ((gI (sI h r0 5 x1) (gF (sI h r0 5 x1) r0 0) x1.toNatClampNeg) &&& 255))) → Rr mX12_scan 0 0 75 [(0, .ref r0), (1, .int x1), (3, .int x1)] [] (sI (sI h r0 5 x1) r0 4 (-1)) P)) ∧ ((if (gI (sI h r0 5 x1) r0 2) ≤ x1 then (-1) else ((gI (sI h r0 5 x1) (gF (sI h r0 5 x1) r0 0) x1.toNatClampNeg) &&& 255)) = (-1) → P none (sI (sI (sI (sI h r0 5 x1) r0 4 (-1)) r0 3 5) r0 6 x1)))) ∧ ((if (gI h r0 2) ≤ x1 then (-1) else ((gI h (gF h r0 0) x1.toNatClampNeg) &&& 255)) = 10 → Rr mX12_scan 0 0 5 [(0, .ref r0), (1, .int (x1 + 1))] [] h P)))))) : Rr mX12_scan 0 0 5 [(0, .ref r0), (1, .int x1)] [] h P := by
  refine R_aload_n dX12_scan_5 rfl 0 rfl ?_
  refine R_iload_n dX12_scan_6 rfl 1 rfl ?_
  obtain ⟨ob1, hf⟩ := hf
  obtain ⟨ob2, hf⟩ := hf
  obtain ⟨ob3, hf⟩ := hf
  refine R_callV (ci := 12) (N := mX12_byteAt) (as := [.int x1]) (rest := []) (kc2 := 0) (ks2 := 0) dX12_scan_7 lmX12_139 oX12_byteAt (Nat.le_of_ble_eq_true rfl) rfl rfl (Nat.le_of_ble_eq_true rfl) rfl rfl ob1 ok12 (aX12_byteAt ob1 ob2 ob3 ?_)
  refine R_bipush (v := 32) dX12_scan_10 (by decide) ?_
  refine R_icmp_eq (tgt := 25) dX12_scan_12 (by decide) (fun b4 => ?_) (fun b4 => ?_)
  · have hf := hf.1 b4
    refine R_iinc (v := x1 + 1) dX12_scan_25 1 rfl rfl (by decide) rfl ?_
    refine R_goto (tgt := 5) dX12_scan_28 (by decide) ?_
    exact R_sub [1, 0] rfl hf
  · have hf := hf.2 b4
    refine R_aload_n dX12_scan_15 rfl 0 rfl ?_
    refine R_iload_n dX12_scan_16 rfl 1 rfl ?_
    refine R_callV (ci := 12) (N := mX12_byteAt) (as := [.int x1]) (rest := []) (kc2 := 0) (ks2 := 0) dX12_scan_17 lmX12_139 oX12_byteAt (Nat.le_of_ble_eq_true rfl) rfl rfl (Nat.le_of_ble_eq_true rfl) rfl rfl ob1 ok12 (aX12_byteAt ob1 ob2 ob3 ?_)
    refine R_bipush (v := 10) dX12_scan_20 (by decide) ?_
    refine R_icmp_ne (tgt := 31) dX12_scan_22 (by decide) (fun b5 => ?_) (fun b5 => ?_)
    · have hf := hf.1 b5
      refine R_aload_n dX12_scan_31 rfl 0 rfl ?_
      refine R_iload_n dX12_scan_32 rfl 1 rfl ?_
      refine S12_5 dX12_scan_33 lfX12_146 ob1 ?_
      refine R_aload_n dX12_scan_36 rfl 0 rfl ?_
      refine R_iload_n dX12_scan_37 rfl 1 rfl ?_
      obtain ⟨ob6, hf⟩ := hf
      refine R_callV (ci := 12) (N := mX12_byteAt) (as := [.int x1]) (rest := []) (kc2 := 0) (ks2 := 0) dX12_scan_38 lmX12_139 oX12_byteAt (Nat.le_of_ble_eq_true rfl) rfl rfl (Nat.le_of_ble_eq_true rfl) rfl rfl ob1 ok12 (aX12_byteAt ob1 ob2 ob6 ?_)
      refine R_istore_n dX12_scan_41 rfl (by decide) rfl ?_
      refine R_iload_n dX12_scan_42 rfl 2 rfl ?_
      refine R_iconst (v := 1) dX12_scan_43 (by decide) ?_
      refine R_iadd dX12_scan_44 ?_
      refine R_istore_n dX12_scan_45 rfl (by decide) rfl ?_
      refine R_aload_n dX12_scan_46 rfl 2 rfl ?_
      refine R_iconst (v := (-1)) dX12_scan_47 (by decide) ?_
      refine S12_4 dX12_scan_48 lfX12_149 ob1 ?_
      refine R_iload_n dX12_scan_51 rfl 1 rfl ?_
      refine R_iconst (v := (-1)) dX12_scan_52 (by decide) ?_
      refine R_icmp_ne (tgt := 66) dX12_scan_53 (by decide) (fun b7 => ?_) (fun b7 => ?_)
      · have hf := hf.1 b7
        refine R_iload_n dX12_scan_66 rfl 1 rfl ?_
        refine R_callS (N := mX12_isSmall) (as := [.int (if (gI (sI h r0 5 x1) r0 2) ≤ x1 then (-1) else ((gI (sI h r0 5 x1) (gF (sI h r0 5 x1) r0 0) x1.toNatClampNeg) &&& 255))]) (rest := []) (kc2 := 0) (ks2 := 0) dX12_scan_67 lmX12_155 oX12_isSmall (Nat.le_of_ble_eq_true rfl) rfl rfl (Nat.le_of_ble_eq_true rfl) rfl rfl (aX12_isSmall  ?_)
        refine R_if_eq_b (tgt := 132) dX12_scan_70 (by decide) (fun b8 => ?_) (fun b8 => ?_)
        · have hf := hf.1 b8
          refine R_iload_n dX12_scan_132 rfl 1 rfl ?_
          refine R_callS (N := mX12_isDigit) (as := [.int (if (gI (sI h r0 5 x1) r0 2) ≤ x1 then (-1) else ((gI (sI h r0 5 x1) (gF (sI h r0 5 x1) r0 0) x1.toNatClampNeg) &&& 255))]) (rest := []) (kc2 := 0) (ks2 := 0) dX12_scan_133 lmX12_163 oX12_isDigit (Nat.le_of_ble_eq_true rfl) rfl rfl (Nat.le_of_ble_eq_true rfl) rfl rfl (aX12_isDigit  ?_)
          refine R_if_eq_b (tgt := 217) dX12_scan_136 (by decide) (fun b9 => ?_) (fun b9 => ?_)
          · have hf := hf.1 b9
            refine R_aload_n dX12_scan_217 rfl 2 rfl ?_
            refine R_iload_n dX12_scan_218 rfl 1 rfl ?_
            refine R_bipush (v := 59) dX12_scan_219 (by decide) ?_
            have key : ∀ z12 : Int32, z12 = (if (if (gI (sI h r0 5 x1) r0 2) ≤ x1 then (-1) else ((gI (sI h r0 5 x1) (gF (sI h r0 5 x1) r0 0) x1.toNatClampNeg) &&& 255)) = 59 then 3 else (if (if (gI (sI h r0 5 x1) r0 2) ≤ x1 then (-1) else ((gI (sI h r0 5 x1) (gF (sI h r0 5 x1) r0 0) x1.toNatClampNeg) &&& 255)) = 45 then 4 else 0)) → Rr mX12_scan 0 0 239 [(0, .ref r0), (3, .int (x1 + 1))] [.int z12, .ref r0] (sI (sI h r0 5 x1) r0 4 (-1)) P := by
              intro z12 ez12
              have hf := hf z12 ez12
              refine S12_3 dX12_scan_239 lfX12_152 ob1 ?_
              refine R_aload_n dX12_scan_242 rfl 0 rfl ?_
              refine R_iload_n dX12_scan_243 rfl 1 rfl ?_
              refine S12_6 dX12_scan_244 lfX12_143 ob1 ?_
              exact R_ret dX12_scan_247 rfl hf
            refine R_icmp_ne (tgt := 228) dX12_scan_221 (by decide) (fun b10 => ?_) (fun b10 => ?_)
            · refine R_iload_n dX12_scan_228 rfl 1 rfl ?_
              refine R_bipush (v := 45) dX12_scan_229 (by decide) ?_
              refine R_icmp_ne (tgt := 238) dX12_scan_231 (by decide) (fun b11 => ?_) (fun b11 => ?_)
              · refine R_iconst (v := 0) dX12_scan_238 (by decide) ?_
                exact R_sub [2, 0] rfl (key _ (by rw [if_neg b10, if_neg b11]))
              · refine R_iconst (v := 4) dX12_scan_234 (by decide) ?_
                refine R_goto (tgt := 239) dX12_scan_235 (by decide) ?_
                exact R_sub [2, 0] rfl (key _ (by rw [if_neg b10, if_pos b11]))
            · refine R_iconst (v := 3) dX12_scan_224 (by decide) ?_
              refine R_goto (tgt := 239) dX12_scan_225 (by decide) ?_
              exact R_sub [2, 0] rfl (key _ (by rw [if_pos b10]))
          · have hf := hf.2 b9
            refine R_aload_n dX12_scan_139 rfl 2 rfl ?_
            refine R_iload_n dX12_scan_140 rfl 1 rfl ?_
            refine R_bipush (v := 48) dX12_scan_141 (by decide) ?_
            refine R_isub dX12_scan_143 ?_
            refine S12_7 dX12_scan_144 lfX12_166 ob1 ?_
            exact R_sub [2, 3, 0] rfl hf
        · have hf := hf.2 b8
          refine R_iload_n dX12_scan_73 rfl 3 rfl ?_
          refine R_istore_n dX12_scan_74 rfl (by decide) rfl ?_
          exact R_sub [2, 3, 0] rfl hf
      · have hf := hf.2 b7
        refine R_aload_n dX12_scan_56 rfl 2 rfl ?_
        refine R_iconst (v := 5) dX12_scan_57 (by decide) ?_
        refine S12_3 dX12_scan_58 lfX12_152 ob1 ?_
        refine R_iload_n dX12_scan_61 rfl 3 rfl ?_
        refine R_istore_n dX12_scan_62 rfl (by decide) rfl ?_
        refine R_goto (tgt := 242) dX12_scan_63 (by decide) ?_
        refine R_aload_n dX12_scan_242 rfl 2 rfl ?_
        refine R_iload_n dX12_scan_243 rfl 0 rfl ?_
        refine S12_6 dX12_scan_244 lfX12_143 ob1 ?_
        exact R_ret dX12_scan_247 rfl hf
    · have hf := hf.2 b5
      refine R_iinc (v := x1 + 1) dX12_scan_25 1 rfl rfl (by decide) rfl ?_
      refine R_goto (tgt := 5) dX12_scan_28 (by decide) ?_
      exact R_sub [1, 0] rfl hf
set_option maxRecDepth 20000 in
theorem sX12_scan_75 {P : Option Value → AH → Prop} (h : AH) (r0 : Nat) (x1 : Int32) (x3 : Int32) (hf : (isO h 12 r0) ∧ ((isA h 2 (gF h r0 0)) ∧ ((¬ (gI h r0 2) ≤ x3 → vp_in x3 (ln (gF h r0 0))) ∧ ((¬ (¬ (if (gI h r0 2) ≤ x3 then (-1) else ((gI h (gF h r0 0) x3.toNatClampNeg) &&& 255)) < 97 ∧ ¬ 122 < (if (gI h r0 2) ≤ x3 then (-1) else ((gI h (gF h r0 0) x3.toNatClampNeg) &&& 255))) → (¬ (gI (sI h r0 3 (bi ((x3 - x1) ≤ 8))) r0 3) = 1 → P none (sI (sI h r0 3 (bi ((x3 - x1) ≤ 8))) r0 6 x3)) ∧ ((gI (sI h r0 3 (bi ((x3 - x1) ≤ 8))) r0 3) = 1 → Call mX12_keyAt [.ref r0, .int x1, .int (x3 - x1)] (sI h r0 3 (bi ((x3 - x1) ≤ 8))) (fun v h7 => ∃ z8 : Int32, v = some (.int z8) ∧ ((isO h7 12 r0) ∧ (P none (sI (sI h7 r0 4 z8) r0 6 x3)))))) ∧ ((¬ (if (gI h r0 2) ≤ x3 then (-1) else ((gI h (gF h r0 0) x3.toNatClampNeg) &&& 255)) < 97 ∧ ¬ 122 < (if (gI h r0 2) ≤ x3 then (-1) else ((gI h (gF h r0 0) x3.toNatClampNeg) &&& 255))) → Rr mX12_scan 0 0 75 [(0, .ref r0), (1, .int x1), (3, .int (x3 + 1))] [] h P))))) : Rr mX12_scan 0 0 75 [(0, .ref r0), (1, .int x1), (3, .int x3)] [] h P := by
  refine R_aload_n dX12_scan_75 rfl 0 rfl ?_
  refine R_iload_n dX12_scan_76 rfl 2 rfl ?_
  obtain ⟨ob1, hf⟩ := hf
  obtain ⟨ob2, hf⟩ := hf
  obtain ⟨ob3, hf⟩ := hf
  refine R_callV (ci := 12) (N := mX12_byteAt) (as := [.int x3]) (rest := []) (kc2 := 0) (ks2 := 0) dX12_scan_77 lmX12_139 oX12_byteAt (Nat.le_of_ble_eq_true rfl) rfl rfl (Nat.le_of_ble_eq_true rfl) rfl rfl ob1 ok12 (aX12_byteAt ob1 ob2 ob3 ?_)
  refine R_callS (N := mX12_isSmall) (as := [.int (if (gI h r0 2) ≤ x3 then (-1) else ((gI h (gF h r0 0) x3.toNatClampNeg) &&& 255))]) (rest := []) (kc2 := 0) (ks2 := 0) dX12_scan_80 lmX12_155 oX12_isSmall (Nat.le_of_ble_eq_true rfl) rfl rfl (Nat.le_of_ble_eq_true rfl) rfl rfl (aX12_isSmall  ?_)
  refine R_if_eq_b (tgt := 92) dX12_scan_83 (by decide) (fun b4 => ?_) (fun b4 => ?_)
  · have hf := hf.1 b4
    refine R_aload_n dX12_scan_92 rfl 0 rfl ?_
    refine R_iload_n dX12_scan_93 rfl 2 rfl ?_
    refine R_iload_n dX12_scan_94 rfl 1 rfl ?_
    refine R_isub dX12_scan_95 ?_
    refine R_bipush (v := 8) dX12_scan_96 (by decide) ?_
    have key :  Rr mX12_scan 0 0 106 [(0, .ref r0), (1, .int x1), (3, .int x3)] [.int (bi ((x3 - x1) ≤ 8)), .ref r0] h P := by
      refine S12_3 dX12_scan_106 lfX12_152 ob1 ?_
      refine R_aload_n dX12_scan_109 rfl 0 rfl ?_
      refine G12_3 dX12_scan_110 lfX12_152 ob1 ?_
      refine R_iconst (v := 1) dX12_scan_113 (by decide) ?_
      refine R_icmp_ne (tgt := 242) dX12_scan_114 (by decide) (fun b6 => ?_) (fun b6 => ?_)
      · have hf := hf.1 b6
        refine R_aload_n dX12_scan_242 rfl 0 rfl ?_
        refine R_iload_n dX12_scan_243 rfl 2 rfl ?_
        refine S12_6 dX12_scan_244 lfX12_143 ob1 ?_
        exact R_ret dX12_scan_247 rfl hf
      · have hf := hf.2 b6
        refine R_aload_n dX12_scan_117 rfl 0 rfl ?_
        refine R_aload_n dX12_scan_118 rfl 0 rfl ?_
        refine R_iload_n dX12_scan_119 rfl 1 rfl ?_
        refine R_iload_n dX12_scan_120 rfl 2 rfl ?_
        refine R_iload_n dX12_scan_121 rfl 1 rfl ?_
        refine R_isub dX12_scan_122 ?_
        refine R_callV (ci := 12) (N := mX12_keyAt) (as := [.int x1, .int (x3 - x1)]) (rest := [.ref r0]) (kc2 := 0) (ks2 := 0) dX12_scan_123 lmX12_159 oX12_keyAt (Nat.le_of_ble_eq_true rfl) rfl rfl (Nat.le_of_ble_eq_true rfl) rfl rfl ob1 ok12 (Call.mono hf ?_)
        rintro _ h7 ⟨z8, rfl, hf⟩
        obtain ⟨ob9, hf⟩ := hf
        refine S12_4 dX12_scan_126 lfX12_149 ob9 ?_
        refine R_goto (tgt := 242) dX12_scan_129 (by decide) ?_
        refine R_aload_n dX12_scan_242 rfl 0 rfl ?_
        refine R_iload_n dX12_scan_243 rfl 2 rfl ?_
        refine S12_6 dX12_scan_244 lfX12_143 ob9 ?_
        exact R_ret dX12_scan_247 rfl hf
    refine R_icmp_le (tgt := 105) dX12_scan_98 (by decide) (fun b5 => ?_) (fun b5 => ?_)
    · refine R_iconst (v := 1) dX12_scan_105 (by decide) ?_
      have kb := key
      rw [show bi ((x3 - x1) ≤ 8) = 1 from by simp only [bi, b5, false_and, and_false, true_and, and_true, not_true_eq_false, not_false_eq_true, if_true, if_false, true_or, or_true, false_or, or_false, reduceIte]] at kb
      exact R_sub [0, 1, 2] rfl kb
    · refine R_iconst (v := 0) dX12_scan_101 (by decide) ?_
      refine R_goto (tgt := 106) dX12_scan_102 (by decide) ?_
      have kb := key
      rw [show bi ((x3 - x1) ≤ 8) = 0 from by simp only [bi, b5, false_and, and_false, true_and, and_true, not_true_eq_false, not_false_eq_true, if_true, if_false, true_or, or_true, false_or, or_false, reduceIte]] at kb
      exact R_sub [0, 1, 2] rfl kb
  · have hf := hf.2 b4
    refine R_iinc (v := x3 + 1) dX12_scan_86 2 rfl rfl (by decide) rfl ?_
    refine R_goto (tgt := 75) dX12_scan_89 (by decide) ?_
    exact R_sub [1, 2, 0] rfl hf
set_option maxRecDepth 20000 in
theorem sX12_scan_147 {P : Option Value → AH → Prop} (h : AH) (r0 : Nat) (x1 : Int32) (x3 : Int32) (hf : (isO h 12 r0) ∧ ((isA h 2 (gF h r0 0)) ∧ ((¬ (gI h r0 2) ≤ x3 → vp_in x3 (ln (gF h r0 0))) ∧ ((¬ (¬ (if (gI h r0 2) ≤ x3 then (-1) else ((gI h (gF h r0 0) x3.toNatClampNeg) &&& 255)) < 48 ∧ ¬ 57 < (if (gI h r0 2) ≤ x3 then (-1) else ((gI h (gF h r0 0) x3.toNatClampNeg) &&& 255))) → ∀ z6 : Int32, z6 = (if (x3 - x1) ≤ 4 then 2 else 0) → (P none (sI (sI h r0 3 z6) r0 6 x3))) ∧ ((¬ (if (gI h r0 2) ≤ x3 then (-1) else ((gI h (gF h r0 0) x3.toNatClampNeg) &&& 255)) < 48 ∧ ¬ 57 < (if (gI h r0 2) ≤ x3 then (-1) else ((gI h (gF h r0 0) x3.toNatClampNeg) &&& 255))) → ∀ z8 : Int32, z8 = (if 4 ≤ (x3 - x1) then (gI h r0 7) else (((10 * (gI h r0 7)) + (if (gI h r0 2) ≤ x3 then (-1) else ((gI h (gF h r0 0) x3.toNatClampNeg) &&& 255))) - 48)) → (Rr mX12_scan 0 0 147 [(0, .ref r0), (1, .int x1), (3, .int (x3 + 1))] [] (sI h r0 7 z8) P)))))) : Rr mX12_scan 0 0 147 [(0, .ref r0), (1, .int x1), (3, .int x3)] [] h P := by
  refine R_aload_n dX12_scan_147 rfl 0 rfl ?_
  refine R_iload_n dX12_scan_148 rfl 2 rfl ?_
  obtain ⟨ob1, hf⟩ := hf
  obtain ⟨ob2, hf⟩ := hf
  obtain ⟨ob3, hf⟩ := hf
  refine R_callV (ci := 12) (N := mX12_byteAt) (as := [.int x3]) (rest := []) (kc2 := 0) (ks2 := 0) dX12_scan_149 lmX12_139 oX12_byteAt (Nat.le_of_ble_eq_true rfl) rfl rfl (Nat.le_of_ble_eq_true rfl) rfl rfl ob1 ok12 (aX12_byteAt ob1 ob2 ob3 ?_)
  refine R_callS (N := mX12_isDigit) (as := [.int (if (gI h r0 2) ≤ x3 then (-1) else ((gI h (gF h r0 0) x3.toNatClampNeg) &&& 255))]) (rest := []) (kc2 := 0) (ks2 := 0) dX12_scan_152 lmX12_163 oX12_isDigit (Nat.le_of_ble_eq_true rfl) rfl rfl (Nat.le_of_ble_eq_true rfl) rfl rfl (aX12_isDigit  ?_)
  refine R_if_eq_b (tgt := 198) dX12_scan_155 (by decide) (fun b4 => ?_) (fun b4 => ?_)
  · have hf := hf.1 b4
    refine R_aload_n dX12_scan_198 rfl 0 rfl ?_
    refine R_iload_n dX12_scan_199 rfl 2 rfl ?_
    refine R_iload_n dX12_scan_200 rfl 1 rfl ?_
    refine R_isub dX12_scan_201 ?_
    refine R_iconst (v := 4) dX12_scan_202 (by decide) ?_
    have key : ∀ z6 : Int32, z6 = (if (x3 - x1) ≤ 4 then 2 else 0) → Rr mX12_scan 0 0 211 [(0, .ref r0), (3, .int x3)] [.int z6, .ref r0] h P := by
      intro z6 ez6
      have hf := hf z6 ez6
      refine S12_3 dX12_scan_211 lfX12_152 ob1 ?_
      refine R_goto (tgt := 242) dX12_scan_214 (by decide) ?_
      refine R_aload_n dX12_scan_242 rfl 0 rfl ?_
      refine R_iload_n dX12_scan_243 rfl 1 rfl ?_
      refine S12_6 dX12_scan_244 lfX12_143 ob1 ?_
      exact R_ret dX12_scan_247 rfl hf
    refine R_icmp_le (tgt := 210) dX12_scan_203 (by decide) (fun b5 => ?_) (fun b5 => ?_)
    · refine R_iconst (v := 2) dX12_scan_210 (by decide) ?_
      exact R_sub [0, 2] rfl (key _ (by rw [if_pos b5]))
    · refine R_iconst (v := 0) dX12_scan_206 (by decide) ?_
      refine R_goto (tgt := 211) dX12_scan_207 (by decide) ?_
      exact R_sub [0, 2] rfl (key _ (by rw [if_neg b5]))
  · have hf := hf.2 b4
    refine R_aload_n dX12_scan_158 rfl 0 rfl ?_
    refine R_iload_n dX12_scan_159 rfl 2 rfl ?_
    refine R_iload_n dX12_scan_160 rfl 1 rfl ?_
    refine R_isub dX12_scan_161 ?_
    refine R_iconst (v := 4) dX12_scan_162 (by decide) ?_
    have key : ∀ z8 : Int32, z8 = (if 4 ≤ (x3 - x1) then (gI h r0 7) else (((10 * (gI h r0 7)) + (if (gI h r0 2) ≤ x3 then (-1) else ((gI h (gF h r0 0) x3.toNatClampNeg) &&& 255))) - 48)) → Rr mX12_scan 0 0 189 [(0, .ref r0), (1, .int x1), (3, .int x3)] [.int z8, .ref r0] h P := by
      intro z8 ez8
      have hf := hf z8 ez8
      refine S12_7 dX12_scan_189 lfX12_166 ob1 ?_
      refine R_iinc (v := x3 + 1) dX12_scan_192 2 rfl rfl (by decide) rfl ?_
      refine R_goto (tgt := 147) dX12_scan_195 (by decide) ?_
      exact R_sub [1, 2, 0] rfl hf
    refine R_icmp_ge (tgt := 185) dX12_scan_163 (by decide) (fun b7 => ?_) (fun b7 => ?_)
    · refine R_aload_n dX12_scan_185 rfl 0 rfl ?_
      refine G12_7 dX12_scan_186 lfX12_166 ob1 ?_
      exact R_sub [0, 1, 2] rfl (key _ (by rw [if_pos b7]))
    · refine R_bipush (v := 10) dX12_scan_166 (by decide) ?_
      refine R_aload_n dX12_scan_168 rfl 0 rfl ?_
      refine G12_7 dX12_scan_169 lfX12_166 ob1 ?_
      refine R_imul dX12_scan_172 ?_
      refine R_aload_n dX12_scan_173 rfl 0 rfl ?_
      refine R_iload_n dX12_scan_174 rfl 2 rfl ?_
      refine R_callV (ci := 12) (N := mX12_byteAt) (as := [.int x3]) (rest := [.int (10 * (gI h r0 7)), .ref r0]) (kc2 := 0) (ks2 := 0) dX12_scan_175 lmX12_139 oX12_byteAt (Nat.le_of_ble_eq_true rfl) rfl rfl (Nat.le_of_ble_eq_true rfl) rfl rfl ob1 ok12 (aX12_byteAt ob1 ob2 ob3 ?_)
      refine R_iadd dX12_scan_178 ?_
      refine R_bipush (v := 48) dX12_scan_179 (by decide) ?_
      refine R_isub dX12_scan_181 ?_
      refine R_goto (tgt := 189) dX12_scan_182 (by decide) ?_
      exact R_sub [0, 1, 2] rfl (key _ (by rw [if_neg b7]))
theorem dX9_wordIn_0 : decode cX9_wordIn 0 = .ok (.aload_n 0, 1) := by decide +kernel
theorem dX9_wordIn_1 : decode cX9_wordIn 1 = .ok (.getfield 32, 3) := by decide +kernel
theorem dX9_wordIn_4 : decode cX9_wordIn 4 = .ok (.iconst 1, 1) := by decide +kernel
theorem dX9_wordIn_5 : decode cX9_wordIn 5 = .ok (.if_icmp .eq 5, 3) := by decide +kernel
theorem dX9_wordIn_8 : decode cX9_wordIn 8 = .ok (.iconst (-1), 1) := by decide +kernel
theorem dX9_wordIn_9 : decode cX9_wordIn 9 = .ok (.ireturn, 1) := by decide +kernel
theorem dX9_wordIn_10 : decode cX9_wordIn 10 = .ok (.iconst 0, 1) := by decide +kernel
theorem dX9_wordIn_11 : decode cX9_wordIn 11 = .ok (.istore_n 2, 1) := by decide +kernel
theorem dX9_wordIn_12 : decode cX9_wordIn 12 = .ok (.iload_n 2, 1) := by decide +kernel
theorem dX9_wordIn_13 : decode cX9_wordIn 13 = .ok (.bipush 8, 2) := by decide +kernel
theorem dX9_wordIn_15 : decode cX9_wordIn 15 = .ok (.iadd, 1) := by decide +kernel
theorem dX9_wordIn_16 : decode cX9_wordIn 16 = .ok (.aload_n 1, 1) := by decide +kernel
theorem dX9_wordIn_17 : decode cX9_wordIn 17 = .ok (.invokevirtual 51, 3) := by decide +kernel
theorem dX9_wordIn_20 : decode cX9_wordIn 20 = .ok (.if_icmp .gt 23, 3) := by decide +kernel
theorem dX9_wordIn_23 : decode cX9_wordIn 23 = .ok (.aload_n 0, 1) := by decide +kernel
theorem dX9_wordIn_24 : decode cX9_wordIn 24 = .ok (.aload_n 1, 1) := by decide +kernel
theorem dX9_wordIn_25 : decode cX9_wordIn 25 = .ok (.iload_n 2, 1) := by decide +kernel
theorem dX9_wordIn_26 : decode cX9_wordIn 26 = .ok (.invokevirtual 56, 3) := by decide +kernel
theorem dX9_wordIn_29 : decode cX9_wordIn 29 = .ok (.ifCond .eq 8, 3) := by decide +kernel
theorem dX9_wordIn_32 : decode cX9_wordIn 32 = .ok (.iload_n 2, 1) := by decide +kernel
theorem dX9_wordIn_33 : decode cX9_wordIn 33 = .ok (.bipush 8, 2) := by decide +kernel
theorem dX9_wordIn_35 : decode cX9_wordIn 35 = .ok (.idiv, 1) := by decide +kernel
theorem dX9_wordIn_36 : decode cX9_wordIn 36 = .ok (.ireturn, 1) := by decide +kernel
theorem dX9_wordIn_37 : decode cX9_wordIn 37 = .ok (.iinc 2 8, 3) := by decide +kernel
theorem dX9_wordIn_40 : decode cX9_wordIn 40 = .ok (.goto (-28), 3) := by decide +kernel
theorem dX9_wordIn_43 : decode cX9_wordIn 43 = .ok (.iconst (-1), 1) := by decide +kernel
theorem dX9_wordIn_44 : decode cX9_wordIn 44 = .ok (.ireturn, 1) := by decide +kernel
set_option maxRecDepth 20000 in
theorem sX9_wordIn_0 {P : Option Value → AH → Prop} (h : AH) (r0 : Nat) (j1 : Nat) (hf : (isO h 9 r0) ∧ (((gI h r0 3) = 1 → Rr mX9_wordIn 0 0 12 [(0, .ref r0), (1, .ref (1000 + j1)), (2, .int 0)] [] h P) ∧ (¬ (gI h r0 3) = 1 → P (some (.int (-1))) h))) : Rr mX9_wordIn 0 0 0 [(0, .ref r0), (1, .ref (1000 + j1))] [] h P := by
  refine R_aload_n dX9_wordIn_0 rfl 0 rfl ?_
  obtain ⟨ob1, hf⟩ := hf
  refine G9_3 dX9_wordIn_1 lfX9_32 ob1 ?_
  refine R_iconst (v := 1) dX9_wordIn_4 (by decide) ?_
  refine R_icmp_eq (tgt := 10) dX9_wordIn_5 (by decide) (fun b2 => ?_) (fun b2 => ?_)
  · have hf := hf.1 b2
    refine R_iconst (v := 0) dX9_wordIn_10 (by decide) ?_
    refine R_istore_n dX9_wordIn_11 rfl (by decide) rfl ?_
    exact R_sub [1, 2, 0] rfl hf
  · have hf := hf.2 b2
    refine R_iconst (v := (-1)) dX9_wordIn_8 (by decide) ?_
    exact R_iret dX9_wordIn_9 rfl rfl hf
set_option maxRecDepth 20000 in
theorem sX9_wordIn_12 {P : Option Value → AH → Prop} (h : AH) (r0 : Nat) (j1 : Nat) (x2 : Int32) (hf : (j1 < 3) ∧ (Call mJ0_length_8abf5 [.ref (1000 + j1)] h (fun v h2 => ∃ z3 : Int32, v = some (.int z3) ∧ ((z3 < (x2 + 8) → P (some (.int (-1))) h2) ∧ (¬ z3 < (x2 + 8) → (isO h2 9 r0) ∧ (Call mX9_spells [.ref r0, .ref (1000 + j1), .int x2] h2 (fun v h6 => ∃ z7 : Int32, v = some (.int z7) ∧ ((z7 = 0 → Rr mX9_wordIn 0 0 12 [(0, .ref r0), (1, .ref (1000 + j1)), (2, .int (x2 + 8))] [] h6 P) ∧ (¬ z7 = 0 → P (some (.int (x2 / 8))) h6))))))))) : Rr mX9_wordIn 0 0 12 [(0, .ref r0), (1, .ref (1000 + j1)), (2, .int x2)] [] h P := by
  refine R_iload_n dX9_wordIn_12 rfl 2 rfl ?_
  refine R_bipush (v := 8) dX9_wordIn_13 (by decide) ?_
  refine R_iadd dX9_wordIn_15 ?_
  refine R_aload_n dX9_wordIn_16 rfl 1 rfl ?_
  obtain ⟨ob1, hf⟩ := hf
  refine R_callStr (j := j1) (N := mJ0_length_8abf5) (as := []) (rest := [.int (x2 + 8)]) (kc2 := 0) (ks2 := 0) dX9_wordIn_17 lmX9_51 oJ0_length_8abf5 rfl (Nat.le_of_ble_eq_true rfl) rfl rfl (Nat.le_of_ble_eq_true rfl) rfl rfl ob1 (Call.mono hf ?_)
  rintro _ h2 ⟨z3, rfl, hf⟩
  refine R_icmp_gt (tgt := 43) dX9_wordIn_20 (by decide) (fun b4 => ?_) (fun b4 => ?_)
  · have hf := hf.1 b4
    refine R_iconst (v := (-1)) dX9_wordIn_43 (by decide) ?_
    exact R_iret dX9_wordIn_44 rfl rfl hf
  · have hf := hf.2 b4
    refine R_aload_n dX9_wordIn_23 rfl 0 rfl ?_
    refine R_aload_n dX9_wordIn_24 rfl 1 rfl ?_
    refine R_iload_n dX9_wordIn_25 rfl 2 rfl ?_
    obtain ⟨ob5, hf⟩ := hf
    refine R_callV (ci := 9) (N := mX9_spells) (as := [.ref (1000 + j1), .int x2]) (rest := []) (kc2 := 0) (ks2 := 0) dX9_wordIn_26 lmX9_56 oX9_spells (Nat.le_of_ble_eq_true rfl) rfl rfl (Nat.le_of_ble_eq_true rfl) rfl rfl ob5 ok9 (Call.mono hf ?_)
    rintro _ h6 ⟨z7, rfl, hf⟩
    refine R_if_eq (tgt := 37) dX9_wordIn_29 (by decide) (fun b8 => ?_) (fun b8 => ?_)
    · have hf := hf.1 b8
      refine R_iinc (v := x2 + 8) dX9_wordIn_37 2 rfl rfl (by decide) rfl ?_
      refine R_goto (tgt := 12) dX9_wordIn_40 (by decide) ?_
      exact R_sub [1, 2, 0] rfl hf
    · have hf := hf.2 b8
      refine R_iload_n dX9_wordIn_32 rfl 2 rfl ?_
      refine R_bipush (v := 8) dX9_wordIn_33 (by decide) ?_
      refine R_idiv dX9_wordIn_35 (by decide) ?_
      exact R_iret dX9_wordIn_36 rfl rfl hf
theorem dX12_readNumber_0 : decode cX12_readNumber 0 = .ok (.aload_n 0, 1) := by decide +kernel
theorem dX12_readNumber_1 : decode cX12_readNumber 1 = .ok (.getfield 152, 3) := by decide +kernel
theorem dX12_readNumber_4 : decode cX12_readNumber 4 = .ok (.iconst 2, 1) := by decide +kernel
theorem dX12_readNumber_5 : decode cX12_readNumber 5 = .ok (.if_icmp .eq 9, 3) := by decide +kernel
theorem dX12_readNumber_8 : decode cX12_readNumber 8 = .ok (.aload_n 0, 1) := by decide +kernel
theorem dX12_readNumber_9 : decode cX12_readNumber 9 = .ok (.iconst 1, 1) := by decide +kernel
theorem dX12_readNumber_10 : decode cX12_readNumber 10 = .ok (.invokevirtual 175, 3) := by decide +kernel
theorem dX12_readNumber_13 : decode cX12_readNumber 13 = .ok (.ireturn, 1) := by decide +kernel
theorem dX12_readNumber_14 : decode cX12_readNumber 14 = .ok (.aload_n 0, 1) := by decide +kernel
theorem dX12_readNumber_15 : decode cX12_readNumber 15 = .ok (.getfield 166, 3) := by decide +kernel
theorem dX12_readNumber_18 : decode cX12_readNumber 18 = .ok (.iload_n 1, 1) := by decide +kernel
theorem dX12_readNumber_19 : decode cX12_readNumber 19 = .ok (.iload_n 2, 1) := by decide +kernel
theorem dX12_readNumber_20 : decode cX12_readNumber 20 = .ok (.invokestatic 178, 3) := by decide +kernel
theorem dX12_readNumber_23 : decode cX12_readNumber 23 = .ok (.ifCond .ne 9, 3) := by decide +kernel
theorem dX12_readNumber_26 : decode cX12_readNumber 26 = .ok (.aload_n 0, 1) := by decide +kernel
theorem dX12_readNumber_27 : decode cX12_readNumber 27 = .ok (.iconst 2, 1) := by decide +kernel
theorem dX12_readNumber_28 : decode cX12_readNumber 28 = .ok (.invokevirtual 175, 3) := by decide +kernel
theorem dX12_readNumber_31 : decode cX12_readNumber 31 = .ok (.ireturn, 1) := by decide +kernel
theorem dX12_readNumber_32 : decode cX12_readNumber 32 = .ok (.aload_n 0, 1) := by decide +kernel
theorem dX12_readNumber_33 : decode cX12_readNumber 33 = .ok (.aload_n 0, 1) := by decide +kernel
theorem dX12_readNumber_34 : decode cX12_readNumber 34 = .ok (.getfield 166, 3) := by decide +kernel
theorem dX12_readNumber_37 : decode cX12_readNumber 37 = .ok (.putfield 182, 3) := by decide +kernel
theorem dX12_readNumber_40 : decode cX12_readNumber 40 = .ok (.aload_n 0, 1) := by decide +kernel
theorem dX12_readNumber_41 : decode cX12_readNumber 41 = .ok (.invokevirtual 169, 3) := by decide +kernel
theorem dX12_readNumber_44 : decode cX12_readNumber 44 = .ok (.iconst 1, 1) := by decide +kernel
theorem dX12_readNumber_45 : decode cX12_readNumber 45 = .ok (.ireturn, 1) := by decide +kernel
set_option maxRecDepth 20000 in
theorem sX12_readNumber_0 {P : Option Value → AH → Prop} (h : AH) (r0 : Nat) (x1 : Int32) (x2 : Int32) (hf : (isO h 12 r0) ∧ (((gI h r0 3) = 2 → ((¬ (gI h r0 7) < x1 ∧ ¬ x2 < (gI h r0 7)) → Call mX12_scan [.ref r0] (sI h r0 10 (gI h r0 7)) (fun v h4 => v = none ∧ (P (some (.int 1)) h4))) ∧ (¬ (¬ (gI h r0 7) < x1 ∧ ¬ x2 < (gI h r0 7)) → Call mX12_fails [.ref r0, .int 2] h (fun v h5 => ∃ z6 : Int32, v = some (.int z6) ∧ ((z6 = 0 ∨ z6 = 1) ∧ (P (some (.int z6)) h5))))) ∧ (¬ (gI h r0 3) = 2 → Call mX12_fails [.ref r0, .int 1] h (fun v h8 => ∃ z9 : Int32, v = some (.int z9) ∧ ((z9 = 0 ∨ z9 = 1) ∧ (P (some (.int z9)) h8)))))) : Rr mX12_readNumber 0 0 0 [(0, .ref r0), (1, .int x1), (2, .int x2)] [] h P := by
  refine R_aload_n dX12_readNumber_0 rfl 0 rfl ?_
  obtain ⟨ob1, hf⟩ := hf
  refine G12_3 dX12_readNumber_1 lfX12_152 ob1 ?_
  refine R_iconst (v := 2) dX12_readNumber_4 (by decide) ?_
  refine R_icmp_eq (tgt := 14) dX12_readNumber_5 (by decide) (fun b2 => ?_) (fun b2 => ?_)
  · have hf := hf.1 b2
    refine R_aload_n dX12_readNumber_14 rfl 0 rfl ?_
    refine G12_7 dX12_readNumber_15 lfX12_166 ob1 ?_
    refine R_iload_n dX12_readNumber_18 rfl 1 rfl ?_
    refine R_iload_n dX12_readNumber_19 rfl 2 rfl ?_
    refine R_callS (N := mX12_in) (as := [.int (gI h r0 7), .int x1, .int x2]) (rest := []) (kc2 := 0) (ks2 := 0) dX12_readNumber_20 lmX12_178 oX12_in (Nat.le_of_ble_eq_true rfl) rfl rfl (Nat.le_of_ble_eq_true rfl) rfl rfl (aX12_in  ?_)
    refine R_if_ne_b (tgt := 32) dX12_readNumber_23 (by decide) (fun b3 => ?_) (fun b3 => ?_)
    · have hf := hf.1 b3
      refine R_aload_n dX12_readNumber_32 rfl 0 rfl ?_
      refine R_aload_n dX12_readNumber_33 rfl 0 rfl ?_
      refine G12_7 dX12_readNumber_34 lfX12_166 ob1 ?_
      refine S12_10 dX12_readNumber_37 lfX12_182 ob1 ?_
      refine R_aload_n dX12_readNumber_40 rfl 0 rfl ?_
      refine R_callV (ci := 12) (N := mX12_scan) (as := []) (rest := []) (kc2 := 0) (ks2 := 0) dX12_readNumber_41 lmX12_169 oX12_scan (Nat.le_of_ble_eq_true rfl) rfl rfl (Nat.le_of_ble_eq_true rfl) rfl rfl ob1 ok12 (Call.mono hf ?_)
      rintro _ h4 ⟨rfl, hf⟩
      refine R_iconst (v := 1) dX12_readNumber_44 (by decide) ?_
      exact R_iret dX12_readNumber_45 rfl rfl hf
    · have hf := hf.2 b3
      refine R_aload_n dX12_readNumber_26 rfl 0 rfl ?_
      refine R_iconst (v := 2) dX12_readNumber_27 (by decide) ?_
      refine R_callV (ci := 12) (N := mX12_fails) (as := [.int 2]) (rest := []) (kc2 := 0) (ks2 := 0) dX12_readNumber_28 lmX12_175 oX12_fails (Nat.le_of_ble_eq_true rfl) rfl rfl (Nat.le_of_ble_eq_true rfl) rfl rfl ob1 ok12 (Call.mono hf ?_)
      rintro _ h5 ⟨z6, rfl, hf⟩
      obtain ⟨ob7, hf⟩ := hf
      exact R_iret dX12_readNumber_31 rfl (nb_n ob7) hf
  · have hf := hf.2 b2
    refine R_aload_n dX12_readNumber_8 rfl 0 rfl ?_
    refine R_iconst (v := 1) dX12_readNumber_9 (by decide) ?_
    refine R_callV (ci := 12) (N := mX12_fails) (as := [.int 1]) (rest := []) (kc2 := 0) (ks2 := 0) dX12_readNumber_10 lmX12_175 oX12_fails (Nat.le_of_ble_eq_true rfl) rfl rfl (Nat.le_of_ble_eq_true rfl) rfl rfl ob1 ok12 (Call.mono hf ?_)
    rintro _ h8 ⟨z9, rfl, hf⟩
    obtain ⟨ob10, hf⟩ := hf
    exact R_iret dX12_readNumber_13 rfl (nb_n ob10) hf
theorem dX12_start_0 : decode cX12_start 0 = .ok (.aload_n 0, 1) := by decide +kernel
theorem dX12_start_1 : decode cX12_start 1 = .ok (.aload_n 0, 1) := by decide +kernel
theorem dX12_start_2 : decode cX12_start 2 = .ok (.getfield 121, 3) := by decide +kernel
theorem dX12_start_5 : decode cX12_start 5 = .ok (.putfield 124, 3) := by decide +kernel
theorem dX12_start_8 : decode cX12_start 8 = .ok (.aload_n 0, 1) := by decide +kernel
theorem dX12_start_9 : decode cX12_start 9 = .ok (.iconst 0, 1) := by decide +kernel
theorem dX12_start_10 : decode cX12_start 10 = .ok (.putfield 121, 3) := by decide +kernel
theorem dX12_start_13 : decode cX12_start 13 = .ok (.aload_n 0, 1) := by decide +kernel
theorem dX12_start_14 : decode cX12_start 14 = .ok (.iconst 0, 1) := by decide +kernel
theorem dX12_start_15 : decode cX12_start 15 = .ok (.putfield 143, 3) := by decide +kernel
theorem dX12_start_18 : decode cX12_start 18 = .ok (.aload_n 0, 1) := by decide +kernel
theorem dX12_start_19 : decode cX12_start 19 = .ok (.invokevirtual 169, 3) := by decide +kernel
theorem dX12_start_22 : decode cX12_start 22 = .ok (.return_, 1) := by decide +kernel
set_option maxRecDepth 20000 in
theorem sX12_start_0 {P : Option Value → AH → Prop} (h : AH) (r0 : Nat) (hf : (isO h 12 r0) ∧ (Call mX12_scan [.ref r0] (sI (sI (sI h r0 2 (gI h r0 1)) r0 1 0) r0 6 0) (fun v h2 => v = none ∧ (P none h2)))) : Rr mX12_start 0 0 0 [(0, .ref r0)] [] h P := by
  refine R_aload_n dX12_start_0 rfl 0 rfl ?_
  refine R_aload_n dX12_start_1 rfl 0 rfl ?_
  obtain ⟨ob1, hf⟩ := hf
  refine G12_1 dX12_start_2 lfX12_121 ob1 ?_
  refine S12_2 dX12_start_5 lfX12_124 ob1 ?_
  refine R_aload_n dX12_start_8 rfl 0 rfl ?_
  refine R_iconst (v := 0) dX12_start_9 (by decide) ?_
  refine S12_1 dX12_start_10 lfX12_121 ob1 ?_
  refine R_aload_n dX12_start_13 rfl 0 rfl ?_
  refine R_iconst (v := 0) dX12_start_14 (by decide) ?_
  refine S12_6 dX12_start_15 lfX12_143 ob1 ?_
  refine R_aload_n dX12_start_18 rfl 0 rfl ?_
  refine R_callV (ci := 12) (N := mX12_scan) (as := []) (rest := []) (kc2 := 0) (ks2 := 0) dX12_start_19 lmX12_169 oX12_scan (Nat.le_of_ble_eq_true rfl) rfl rfl (Nat.le_of_ble_eq_true rfl) rfl rfl ob1 ok12 (Call.mono hf ?_)
  rintro _ h2 ⟨rfl, hf⟩
  exact R_ret dX12_start_22 rfl hf
