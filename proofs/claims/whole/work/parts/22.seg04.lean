theorem dX2_costBehind_0 : decode cX2_costBehind 0 = .ok (.iload_n 1, 1) := by decide +kernel
theorem dX2_costBehind_1 : decode cX2_costBehind 1 = .ok (.iconst 1, 1) := by decide +kernel
theorem dX2_costBehind_2 : decode cX2_costBehind 2 = .ok (.iadd, 1) := by decide +kernel
theorem dX2_costBehind_3 : decode cX2_costBehind 3 = .ok (.bipush 6, 2) := by decide +kernel
theorem dX2_costBehind_5 : decode cX2_costBehind 5 = .ok (.invokestatic 54, 3) := by decide +kernel
theorem dX2_costBehind_8 : decode cX2_costBehind 8 = .ok (.istore 4, 2) := by decide +kernel
theorem dX2_costBehind_10 : decode cX2_costBehind 10 = .ok (.iload_n 1, 1) := by decide +kernel
theorem dX2_costBehind_11 : decode cX2_costBehind 11 = .ok (.iconst 1, 1) := by decide +kernel
theorem dX2_costBehind_12 : decode cX2_costBehind 12 = .ok (.isub, 1) := by decide +kernel
theorem dX2_costBehind_13 : decode cX2_costBehind 13 = .ok (.iconst 0, 1) := by decide +kernel
theorem dX2_costBehind_14 : decode cX2_costBehind 14 = .ok (.invokestatic 57, 3) := by decide +kernel
theorem dX2_costBehind_17 : decode cX2_costBehind 17 = .ok (.istore 5, 2) := by decide +kernel
theorem dX2_costBehind_19 : decode cX2_costBehind 19 = .ok (.iload_n 2, 1) := by decide +kernel
theorem dX2_costBehind_20 : decode cX2_costBehind 20 = .ok (.i2l, 1) := by decide +kernel
theorem dX2_costBehind_21 : decode cX2_costBehind 21 = .ok (.aload_n 0, 1) := by decide +kernel
theorem dX2_costBehind_22 : decode cX2_costBehind 22 = .ok (.getfield 9, 3) := by decide +kernel
theorem dX2_costBehind_25 : decode cX2_costBehind 25 = .ok (.iload 4, 2) := by decide +kernel
theorem dX2_costBehind_27 : decode cX2_costBehind 27 = .ok (.laload, 1) := by decide +kernel
theorem dX2_costBehind_28 : decode cX2_costBehind 28 = .ok (.lmul, 1) := by decide +kernel
theorem dX2_costBehind_29 : decode cX2_costBehind 29 = .ok (.iload_n 3, 1) := by decide +kernel
theorem dX2_costBehind_30 : decode cX2_costBehind 30 = .ok (.i2l, 1) := by decide +kernel
theorem dX2_costBehind_31 : decode cX2_costBehind 31 = .ok (.aload_n 0, 1) := by decide +kernel
theorem dX2_costBehind_32 : decode cX2_costBehind 32 = .ok (.getfield 9, 3) := by decide +kernel
theorem dX2_costBehind_35 : decode cX2_costBehind 35 = .ok (.iload 5, 2) := by decide +kernel
theorem dX2_costBehind_37 : decode cX2_costBehind 37 = .ok (.laload, 1) := by decide +kernel
theorem dX2_costBehind_38 : decode cX2_costBehind 38 = .ok (.lmul, 1) := by decide +kernel
theorem dX2_costBehind_39 : decode cX2_costBehind 39 = .ok (.ladd, 1) := by decide +kernel
theorem dX2_costBehind_40 : decode cX2_costBehind 40 = .ok (.bipush 10, 2) := by decide +kernel
theorem dX2_costBehind_42 : decode cX2_costBehind 42 = .ok (.iload_n 2, 1) := by decide +kernel
theorem dX2_costBehind_43 : decode cX2_costBehind 43 = .ok (.isub, 1) := by decide +kernel
theorem dX2_costBehind_44 : decode cX2_costBehind 44 = .ok (.iload_n 3, 1) := by decide +kernel
theorem dX2_costBehind_45 : decode cX2_costBehind 45 = .ok (.isub, 1) := by decide +kernel
theorem dX2_costBehind_46 : decode cX2_costBehind 46 = .ok (.i2l, 1) := by decide +kernel
theorem dX2_costBehind_47 : decode cX2_costBehind 47 = .ok (.aload_n 0, 1) := by decide +kernel
theorem dX2_costBehind_48 : decode cX2_costBehind 48 = .ok (.getfield 9, 3) := by decide +kernel
theorem dX2_costBehind_51 : decode cX2_costBehind 51 = .ok (.iload_n 1, 1) := by decide +kernel
theorem dX2_costBehind_52 : decode cX2_costBehind 52 = .ok (.laload, 1) := by decide +kernel
theorem dX2_costBehind_53 : decode cX2_costBehind 53 = .ok (.lmul, 1) := by decide +kernel
theorem dX2_costBehind_54 : decode cX2_costBehind 54 = .ok (.ladd, 1) := by decide +kernel
theorem dX2_costBehind_55 : decode cX2_costBehind 55 = .ok (.lreturn, 1) := by decide +kernel
set_option maxRecDepth 20000 in
theorem sX2_costBehind_0 {P : Option Value → AH → Prop} (h : AH) (r0 : Nat) (x1 : Int32) (x2 : Int32) (x3 : Int32) (hf : (isO h 2 r0) ∧ ((isA h 1 (gF h r0 0)) ∧ ((vp_in (imin (x1 + 1) 6) (ln (gF h r0 0))) ∧ ((vp_in (imax (x1 - 1) 0) (ln (gF h r0 0))) ∧ ((vp_in x1 (ln (gF h r0 0))) ∧ (P (some (.long (((x2.toInt64 * (gL h (gF h r0 0) (imin (x1 + 1) 6).toNatClampNeg)) + (x3.toInt64 * (gL h (gF h r0 0) (imax (x1 - 1) 0).toNatClampNeg))) + (((10 - x2) - x3).toInt64 * (gL h (gF h r0 0) x1.toNatClampNeg))))) h)))))) : Rr mX2_costBehind 0 0 0 [(0, .ref r0), (1, .int x1), (2, .int x2), (3, .int x3)] [] h P := by
  refine R_iload_n dX2_costBehind_0 rfl 1 rfl ?_
  refine R_iconst (v := 1) dX2_costBehind_1 (by decide) ?_
  refine R_iadd dX2_costBehind_2 ?_
  refine R_bipush (v := 6) dX2_costBehind_3 (by decide) ?_
  refine R_mmin dX2_costBehind_5 lmX2_54 (by decide) (Nat.le_of_ble_eq_true rfl) ?_
  refine R_istore dX2_costBehind_8 (by decide) rfl ?_
  refine R_iload_n dX2_costBehind_10 rfl 2 rfl ?_
  refine R_iconst (v := 1) dX2_costBehind_11 (by decide) ?_
  refine R_isub dX2_costBehind_12 ?_
  refine R_iconst (v := 0) dX2_costBehind_13 (by decide) ?_
  refine R_mmax dX2_costBehind_14 lmX2_57 (by decide) (Nat.le_of_ble_eq_true rfl) ?_
  refine R_istore dX2_costBehind_17 (by decide) rfl ?_
  refine R_iload_n dX2_costBehind_19 rfl 4 rfl ?_
  refine R_i2l dX2_costBehind_20 ?_
  refine R_aload_n dX2_costBehind_21 rfl 2 rfl ?_
  obtain ⟨ob1, hf⟩ := hf
  refine G2_0 dX2_costBehind_22 lfX2_9 ob1 ?_
  refine R_iload dX2_costBehind_25 1 rfl ?_
  obtain ⟨ob2, hf⟩ := hf
  obtain ⟨ob3, hf⟩ := hf
  refine R_laload dX2_costBehind_27 ob2 ob3 ?_
  refine R_lmul dX2_costBehind_28 ?_
  refine R_iload_n dX2_costBehind_29 rfl 5 rfl ?_
  refine R_i2l dX2_costBehind_30 ?_
  refine R_aload_n dX2_costBehind_31 rfl 2 rfl ?_
  refine G2_0 dX2_costBehind_32 lfX2_9 ob1 ?_
  refine R_iload dX2_costBehind_35 0 rfl ?_
  obtain ⟨ob4, hf⟩ := hf
  refine R_laload dX2_costBehind_37 ob2 ob4 ?_
  refine R_lmul dX2_costBehind_38 ?_
  refine R_ladd dX2_costBehind_39 ?_
  refine R_bipush (v := 10) dX2_costBehind_40 (by decide) ?_
  refine R_iload_n dX2_costBehind_42 rfl 4 rfl ?_
  refine R_isub dX2_costBehind_43 ?_
  refine R_iload_n dX2_costBehind_44 rfl 5 rfl ?_
  refine R_isub dX2_costBehind_45 ?_
  refine R_i2l dX2_costBehind_46 ?_
  refine R_aload_n dX2_costBehind_47 rfl 2 rfl ?_
  refine G2_0 dX2_costBehind_48 lfX2_9 ob1 ?_
  refine R_iload_n dX2_costBehind_51 rfl 3 rfl ?_
  obtain ⟨ob5, hf⟩ := hf
  refine R_laload dX2_costBehind_52 ob2 ob5 ?_
  refine R_lmul dX2_costBehind_53 ?_
  refine R_ladd dX2_costBehind_54 ?_
  exact R_lret dX2_costBehind_55 rfl hf
theorem aX2_costBehind {h : AH} {P : Option Value → AH → Prop} {r0 : Nat} {x1 : Int32} {x2 : Int32} {x3 : Int32} (o0 : isO h 2 r0) (o1 : isA h 1 (gF h r0 0)) (o2 : vp_in (imin (x1 + 1) 6) (ln (gF h r0 0))) (o3 : vp_in (imax (x1 - 1) 0) (ln (gF h r0 0))) (o4 : vp_in x1 (ln (gF h r0 0))) (k : P (some (.long (((x2.toInt64 * (gL h (gF h r0 0) (imin (x1 + 1) 6).toNatClampNeg)) + (x3.toInt64 * (gL h (gF h r0 0) (imax (x1 - 1) 0).toNatClampNeg))) + (((10 - x2) - x3).toInt64 * (gL h (gF h r0 0) x1.toNatClampNeg))))) h) : Call mX2_costBehind [.ref r0, .int x1, .int x2, .int x3] h P :=
  Call.ofR (by decide +kernel) (Nat.le_of_ble_eq_true rfl) (sX2_costBehind_0 h r0 x1 x2 x3 (⟨o0, ⟨o1, ⟨o2, ⟨o3, ⟨o4, k⟩⟩⟩⟩⟩))
theorem dX4_numberHere_0 : decode cX4_numberHere 0 = .ok (.aload_n 0, 1) := by decide +kernel
theorem dX4_numberHere_1 : decode cX4_numberHere 1 = .ok (.getfield 12, 3) := by decide +kernel
theorem dX4_numberHere_4 : decode cX4_numberHere 4 = .ok (.getfield 47, 3) := by decide +kernel
theorem dX4_numberHere_7 : decode cX4_numberHere 7 = .ok (.iconst 2, 1) := by decide +kernel
theorem dX4_numberHere_8 : decode cX4_numberHere 8 = .ok (.if_icmp .eq 10, 3) := by decide +kernel
theorem dX4_numberHere_11 : decode cX4_numberHere 11 = .ok (.aload_n 0, 1) := by decide +kernel
theorem dX4_numberHere_12 : decode cX4_numberHere 12 = .ok (.iconst 1, 1) := by decide +kernel
theorem dX4_numberHere_13 : decode cX4_numberHere 13 = .ok (.invokevirtual 99, 3) := by decide +kernel
theorem dX4_numberHere_16 : decode cX4_numberHere 16 = .ok (.iload_n 1, 1) := by decide +kernel
theorem dX4_numberHere_17 : decode cX4_numberHere 17 = .ok (.ireturn, 1) := by decide +kernel
theorem dX4_numberHere_18 : decode cX4_numberHere 18 = .ok (.aload_n 0, 1) := by decide +kernel
theorem dX4_numberHere_19 : decode cX4_numberHere 19 = .ok (.getfield 12, 3) := by decide +kernel
theorem dX4_numberHere_22 : decode cX4_numberHere 22 = .ok (.getfield 180, 3) := by decide +kernel
theorem dX4_numberHere_25 : decode cX4_numberHere 25 = .ok (.iload_n 1, 1) := by decide +kernel
theorem dX4_numberHere_26 : decode cX4_numberHere 26 = .ok (.if_icmp .lt 14, 3) := by decide +kernel
theorem dX4_numberHere_29 : decode cX4_numberHere 29 = .ok (.aload_n 0, 1) := by decide +kernel
theorem dX4_numberHere_30 : decode cX4_numberHere 30 = .ok (.getfield 12, 3) := by decide +kernel
theorem dX4_numberHere_33 : decode cX4_numberHere 33 = .ok (.getfield 180, 3) := by decide +kernel
theorem dX4_numberHere_36 : decode cX4_numberHere 36 = .ok (.iload_n 2, 1) := by decide +kernel
theorem dX4_numberHere_37 : decode cX4_numberHere 37 = .ok (.if_icmp .le 10, 3) := by decide +kernel
theorem dX4_numberHere_40 : decode cX4_numberHere 40 = .ok (.aload_n 0, 1) := by decide +kernel
theorem dX4_numberHere_41 : decode cX4_numberHere 41 = .ok (.iconst 2, 1) := by decide +kernel
theorem dX4_numberHere_42 : decode cX4_numberHere 42 = .ok (.invokevirtual 99, 3) := by decide +kernel
theorem dX4_numberHere_45 : decode cX4_numberHere 45 = .ok (.iload_n 1, 1) := by decide +kernel
theorem dX4_numberHere_46 : decode cX4_numberHere 46 = .ok (.ireturn, 1) := by decide +kernel
theorem dX4_numberHere_47 : decode cX4_numberHere 47 = .ok (.aload_n 0, 1) := by decide +kernel
theorem dX4_numberHere_48 : decode cX4_numberHere 48 = .ok (.getfield 12, 3) := by decide +kernel
theorem dX4_numberHere_51 : decode cX4_numberHere 51 = .ok (.getfield 180, 3) := by decide +kernel
theorem dX4_numberHere_54 : decode cX4_numberHere 54 = .ok (.ireturn, 1) := by decide +kernel
set_option maxRecDepth 20000 in
theorem sX4_numberHere_0 {P : Option Value → AH → Prop} (h : AH) (r0 : Nat) (x1 : Int32) (x2 : Int32) (hf : (isO h 4 r0) ∧ ((isO h 9 (gF h r0 0)) ∧ (((gI h (gF h r0 0) 3) = 2 → ((gI h (gF h r0 0) 5) < x1 → Call mX4_refuse [.ref r0, .int 2] h (fun v h5 => v = none ∧ (P (some (.int x1)) h5))) ∧ (¬ (gI h (gF h r0 0) 5) < x1 → ((gI h (gF h r0 0) 5) ≤ x2 → P (some (.int (gI h (gF h r0 0) 5))) h) ∧ (¬ (gI h (gF h r0 0) 5) ≤ x2 → Call mX4_refuse [.ref r0, .int 2] h (fun v h7 => v = none ∧ (P (some (.int x1)) h7))))) ∧ (¬ (gI h (gF h r0 0) 3) = 2 → Call mX4_refuse [.ref r0, .int 1] h (fun v h8 => v = none ∧ (P (some (.int x1)) h8)))))) : Rr mX4_numberHere 0 0 0 [(0, .ref r0), (1, .int x1), (2, .int x2)] [] h P := by
  refine R_aload_n dX4_numberHere_0 rfl 0 rfl ?_
  obtain ⟨ob1, hf⟩ := hf
  refine G4_0 dX4_numberHere_1 lfX4_12 ob1 ?_
  obtain ⟨ob2, hf⟩ := hf
  refine G9_3 dX4_numberHere_4 lfX4_47 ob2 ?_
  refine R_iconst (v := 2) dX4_numberHere_7 (by decide) ?_
  refine R_icmp_eq (tgt := 18) dX4_numberHere_8 (by decide) (fun b3 => ?_) (fun b3 => ?_)
  · have hf := hf.1 b3
    refine R_aload_n dX4_numberHere_18 rfl 0 rfl ?_
    refine G4_0 dX4_numberHere_19 lfX4_12 ob1 ?_
    refine G9_5 dX4_numberHere_22 lfX4_180 ob2 ?_
    refine R_iload_n dX4_numberHere_25 rfl 1 rfl ?_
    refine R_icmp_lt (tgt := 40) dX4_numberHere_26 (by decide) (fun b4 => ?_) (fun b4 => ?_)
    · have hf := hf.1 b4
      refine R_aload_n dX4_numberHere_40 rfl 0 rfl ?_
      refine R_iconst (v := 2) dX4_numberHere_41 (by decide) ?_
      refine R_callV (ci := 4) (N := mX4_refuse) (as := [.int 2]) (rest := []) (kc2 := 0) (ks2 := 0) dX4_numberHere_42 lmX4_99 oX4_refuse (Nat.le_of_ble_eq_true rfl) rfl rfl (Nat.le_of_ble_eq_true rfl) rfl rfl ob1 ok4 (Call.mono hf ?_)
      rintro _ h5 ⟨rfl, hf⟩
      refine R_iload_n dX4_numberHere_45 rfl 1 rfl ?_
      exact R_iret dX4_numberHere_46 rfl rfl hf
    · have hf := hf.2 b4
      refine R_aload_n dX4_numberHere_29 rfl 0 rfl ?_
      refine G4_0 dX4_numberHere_30 lfX4_12 ob1 ?_
      refine G9_5 dX4_numberHere_33 lfX4_180 ob2 ?_
      refine R_iload_n dX4_numberHere_36 rfl 2 rfl ?_
      refine R_icmp_le (tgt := 47) dX4_numberHere_37 (by decide) (fun b6 => ?_) (fun b6 => ?_)
      · have hf := hf.1 b6
        refine R_aload_n dX4_numberHere_47 rfl 0 rfl ?_
        refine G4_0 dX4_numberHere_48 lfX4_12 ob1 ?_
        refine G9_5 dX4_numberHere_51 lfX4_180 ob2 ?_
        exact R_iret dX4_numberHere_54 rfl rfl hf
      · have hf := hf.2 b6
        refine R_aload_n dX4_numberHere_40 rfl 0 rfl ?_
        refine R_iconst (v := 2) dX4_numberHere_41 (by decide) ?_
        refine R_callV (ci := 4) (N := mX4_refuse) (as := [.int 2]) (rest := []) (kc2 := 0) (ks2 := 0) dX4_numberHere_42 lmX4_99 oX4_refuse (Nat.le_of_ble_eq_true rfl) rfl rfl (Nat.le_of_ble_eq_true rfl) rfl rfl ob1 ok4 (Call.mono hf ?_)
        rintro _ h7 ⟨rfl, hf⟩
        refine R_iload_n dX4_numberHere_45 rfl 1 rfl ?_
        exact R_iret dX4_numberHere_46 rfl rfl hf
  · have hf := hf.2 b3
    refine R_aload_n dX4_numberHere_11 rfl 0 rfl ?_
    refine R_iconst (v := 1) dX4_numberHere_12 (by decide) ?_
    refine R_callV (ci := 4) (N := mX4_refuse) (as := [.int 1]) (rest := []) (kc2 := 0) (ks2 := 0) dX4_numberHere_13 lmX4_99 oX4_refuse (Nat.le_of_ble_eq_true rfl) rfl rfl (Nat.le_of_ble_eq_true rfl) rfl rfl ob1 ok4 (Call.mono hf ?_)
    rintro _ h8 ⟨rfl, hf⟩
    refine R_iload_n dX4_numberHere_16 rfl 1 rfl ?_
    exact R_iret dX4_numberHere_17 rfl rfl hf
theorem dX4_refuseTwice_0 : decode cX4_refuseTwice 0 = .ok (.aload_n 0, 1) := by decide +kernel
theorem dX4_refuseTwice_1 : decode cX4_refuseTwice 1 = .ok (.getfield 32, 3) := by decide +kernel
theorem dX4_refuseTwice_4 : decode cX4_refuseTwice 4 = .ok (.iload_n 1, 1) := by decide +kernel
theorem dX4_refuseTwice_5 : decode cX4_refuseTwice 5 = .ok (.ishr, 1) := by decide +kernel
theorem dX4_refuseTwice_6 : decode cX4_refuseTwice 6 = .ok (.iconst 1, 1) := by decide +kernel
theorem dX4_refuseTwice_7 : decode cX4_refuseTwice 7 = .ok (.iand, 1) := by decide +kernel
theorem dX4_refuseTwice_8 : decode cX4_refuseTwice 8 = .ok (.ifCond .eq 8, 3) := by decide +kernel
theorem dX4_refuseTwice_11 : decode cX4_refuseTwice 11 = .ok (.aload_n 0, 1) := by decide +kernel
theorem dX4_refuseTwice_12 : decode cX4_refuseTwice 12 = .ok (.iconst 3, 1) := by decide +kernel
theorem dX4_refuseTwice_13 : decode cX4_refuseTwice 13 = .ok (.invokevirtual 99, 3) := by decide +kernel
theorem dX4_refuseTwice_16 : decode cX4_refuseTwice 16 = .ok (.aload_n 0, 1) := by decide +kernel
theorem dX4_refuseTwice_17 : decode cX4_refuseTwice 17 = .ok (.dup, 1) := by decide +kernel
theorem dX4_refuseTwice_18 : decode cX4_refuseTwice 18 = .ok (.getfield 32, 3) := by decide +kernel
theorem dX4_refuseTwice_21 : decode cX4_refuseTwice 21 = .ok (.iconst 1, 1) := by decide +kernel
theorem dX4_refuseTwice_22 : decode cX4_refuseTwice 22 = .ok (.iload_n 1, 1) := by decide +kernel
theorem dX4_refuseTwice_23 : decode cX4_refuseTwice 23 = .ok (.ishl, 1) := by decide +kernel
theorem dX4_refuseTwice_24 : decode cX4_refuseTwice 24 = .ok (.ior, 1) := by decide +kernel
theorem dX4_refuseTwice_25 : decode cX4_refuseTwice 25 = .ok (.putfield 32, 3) := by decide +kernel
theorem dX4_refuseTwice_28 : decode cX4_refuseTwice 28 = .ok (.return_, 1) := by decide +kernel
set_option maxRecDepth 20000 in
theorem sX4_refuseTwice_0 {P : Option Value → AH → Prop} (h : AH) (r0 : Nat) (x1 : Int32) (hf : (isO h 4 r0) ∧ (((((gI h r0 1) >>> (x1 &&& 31)) &&& 1) = 0 → P none (sI h r0 1 ((gI h r0 1) ||| ((1 : Int32) <<< (x1 &&& 31))))) ∧ (¬ (((gI h r0 1) >>> (x1 &&& 31)) &&& 1) = 0 → Call mX4_refuse [.ref r0, .int 3] h (fun v h3 => v = none ∧ ((isO h3 4 r0) ∧ (P none (sI h3 r0 1 ((gI h3 r0 1) ||| ((1 : Int32) <<< (x1 &&& 31)))))))))) : Rr mX4_refuseTwice 0 0 0 [(0, .ref r0), (1, .int x1)] [] h P := by
  refine R_aload_n dX4_refuseTwice_0 rfl 0 rfl ?_
  obtain ⟨ob1, hf⟩ := hf
  refine G4_1 dX4_refuseTwice_1 lfX4_32 ob1 ?_
  refine R_iload_n dX4_refuseTwice_4 rfl 1 rfl ?_
  refine R_ishr dX4_refuseTwice_5 ?_
  refine R_iconst (v := 1) dX4_refuseTwice_6 (by decide) ?_
  refine R_iand dX4_refuseTwice_7 ?_
  refine R_if_eq (tgt := 16) dX4_refuseTwice_8 (by decide) (fun b2 => ?_) (fun b2 => ?_)
  · have hf := hf.1 b2
    refine R_aload_n dX4_refuseTwice_16 rfl 0 rfl ?_
    refine R_dup dX4_refuseTwice_17 rfl ?_
    refine G4_1 dX4_refuseTwice_18 lfX4_32 ob1 ?_
    refine R_iconst (v := 1) dX4_refuseTwice_21 (by decide) ?_
    refine R_iload_n dX4_refuseTwice_22 rfl 1 rfl ?_
    refine R_ishl dX4_refuseTwice_23 ?_
    refine R_ior dX4_refuseTwice_24 ?_
    refine S4_1 dX4_refuseTwice_25 lfX4_32 ob1 ?_
    exact R_ret dX4_refuseTwice_28 rfl hf
  · have hf := hf.2 b2
    refine R_aload_n dX4_refuseTwice_11 rfl 0 rfl ?_
    refine R_iconst (v := 3) dX4_refuseTwice_12 (by decide) ?_
    refine R_callV (ci := 4) (N := mX4_refuse) (as := [.int 3]) (rest := []) (kc2 := 0) (ks2 := 0) dX4_refuseTwice_13 lmX4_99 oX4_refuse (Nat.le_of_ble_eq_true rfl) rfl rfl (Nat.le_of_ble_eq_true rfl) rfl rfl ob1 ok4 (Call.mono hf ?_)
    rintro _ h3 ⟨rfl, hf⟩
    refine R_aload_n dX4_refuseTwice_16 rfl 0 rfl ?_
    refine R_dup dX4_refuseTwice_17 rfl ?_
    obtain ⟨ob4, hf⟩ := hf
    refine G4_1 dX4_refuseTwice_18 lfX4_32 ob4 ?_
    refine R_iconst (v := 1) dX4_refuseTwice_21 (by decide) ?_
    refine R_iload_n dX4_refuseTwice_22 rfl 1 rfl ?_
    refine R_ishl dX4_refuseTwice_23 ?_
    refine R_ior dX4_refuseTwice_24 ?_
    refine S4_1 dX4_refuseTwice_25 lfX4_32 ob4 ?_
    exact R_ret dX4_refuseTwice_28 rfl hf
theorem dX6_badOf_0 : decode cX6_badOf 0 = .ok (.iconst 0, 1) := by decide +kernel
theorem dX6_badOf_1 : decode cX6_badOf 1 = .ok (.istore 5, 2) := by decide +kernel
theorem dX6_badOf_3 : decode cX6_badOf 3 = .ok (.iconst 0, 1) := by decide +kernel
theorem dX6_badOf_4 : decode cX6_badOf 4 = .ok (.istore 6, 2) := by decide +kernel
theorem dX6_badOf_6 : decode cX6_badOf 6 = .ok (.iload 6, 2) := by decide +kernel
theorem dX6_badOf_8 : decode cX6_badOf 8 = .ok (.aload_n 1, 1) := by decide +kernel
theorem dX6_badOf_9 : decode cX6_badOf 9 = .ok (.getfield 81, 3) := by decide +kernel
theorem dX6_badOf_12 : decode cX6_badOf 12 = .ok (.if_icmp .ge 77, 3) := by decide +kernel
theorem dX6_badOf_15 : decode cX6_badOf 15 = .ok (.aload_n 1, 1) := by decide +kernel
theorem dX6_badOf_16 : decode cX6_badOf 16 = .ok (.getfield 84, 3) := by decide +kernel
theorem dX6_badOf_19 : decode cX6_badOf 19 = .ok (.iload 6, 2) := by decide +kernel
theorem dX6_badOf_21 : decode cX6_badOf 21 = .ok (.iaload, 1) := by decide +kernel
theorem dX6_badOf_22 : decode cX6_badOf 22 = .ok (.istore 7, 2) := by decide +kernel
theorem dX6_badOf_24 : decode cX6_badOf 24 = .ok (.aload_n 1, 1) := by decide +kernel
theorem dX6_badOf_25 : decode cX6_badOf 25 = .ok (.getfield 87, 3) := by decide +kernel
theorem dX6_badOf_28 : decode cX6_badOf 28 = .ok (.iload 6, 2) := by decide +kernel
theorem dX6_badOf_30 : decode cX6_badOf 30 = .ok (.iaload, 1) := by decide +kernel
theorem dX6_badOf_31 : decode cX6_badOf 31 = .ok (.istore 8, 2) := by decide +kernel
theorem dX6_badOf_33 : decode cX6_badOf 33 = .ok (.iload 5, 2) := by decide +kernel
theorem dX6_badOf_35 : decode cX6_badOf 35 = .ok (.iload_n 2, 1) := by decide +kernel
theorem dX6_badOf_36 : decode cX6_badOf 36 = .ok (.iload 4, 2) := by decide +kernel
theorem dX6_badOf_38 : decode cX6_badOf 38 = .ok (.aload_n 0, 1) := by decide +kernel
theorem dX6_badOf_39 : decode cX6_badOf 39 = .ok (.getfield 33, 3) := by decide +kernel
theorem dX6_badOf_42 : decode cX6_badOf 42 = .ok (.iload 7, 2) := by decide +kernel
theorem dX6_badOf_44 : decode cX6_badOf 44 = .ok (.iload 8, 2) := by decide +kernel
theorem dX6_badOf_46 : decode cX6_badOf 46 = .ok (.invokestatic 90, 3) := by decide +kernel
theorem dX6_badOf_49 : decode cX6_badOf 49 = .ok (.iadd, 1) := by decide +kernel
theorem dX6_badOf_50 : decode cX6_badOf 50 = .ok (.invokestatic 70, 3) := by decide +kernel
theorem dX6_badOf_53 : decode cX6_badOf 53 = .ok (.invokestatic 94, 3) := by decide +kernel
theorem dX6_badOf_56 : decode cX6_badOf 56 = .ok (.istore 5, 2) := by decide +kernel
theorem dX6_badOf_58 : decode cX6_badOf 58 = .ok (.iload 5, 2) := by decide +kernel
theorem dX6_badOf_60 : decode cX6_badOf 60 = .ok (.iload_n 3, 1) := by decide +kernel
theorem dX6_badOf_61 : decode cX6_badOf 61 = .ok (.iload 4, 2) := by decide +kernel
theorem dX6_badOf_63 : decode cX6_badOf 63 = .ok (.aload_n 0, 1) := by decide +kernel
theorem dX6_badOf_64 : decode cX6_badOf 64 = .ok (.getfield 33, 3) := by decide +kernel
theorem dX6_badOf_67 : decode cX6_badOf 67 = .ok (.iload 7, 2) := by decide +kernel
theorem dX6_badOf_69 : decode cX6_badOf 69 = .ok (.iload 8, 2) := by decide +kernel
theorem dX6_badOf_71 : decode cX6_badOf 71 = .ok (.invokestatic 97, 3) := by decide +kernel
theorem dX6_badOf_74 : decode cX6_badOf 74 = .ok (.iadd, 1) := by decide +kernel
theorem dX6_badOf_75 : decode cX6_badOf 75 = .ok (.invokestatic 70, 3) := by decide +kernel
theorem dX6_badOf_78 : decode cX6_badOf 78 = .ok (.invokestatic 94, 3) := by decide +kernel
theorem dX6_badOf_81 : decode cX6_badOf 81 = .ok (.istore 5, 2) := by decide +kernel
theorem dX6_badOf_83 : decode cX6_badOf 83 = .ok (.iinc 6 1, 3) := by decide +kernel
theorem dX6_badOf_86 : decode cX6_badOf 86 = .ok (.goto (-80), 3) := by decide +kernel
theorem dX6_badOf_89 : decode cX6_badOf 89 = .ok (.iload 5, 2) := by decide +kernel
theorem dX6_badOf_91 : decode cX6_badOf 91 = .ok (.ireturn, 1) := by decide +kernel
set_option maxRecDepth 20000 in
theorem sX6_badOf_0 {P : Option Value → AH → Prop} (h : AH) (r0 : Nat) (r1 : Nat) (x2 : Int32) (x3 : Int32) (x4 : Int32) (hf : Rr mX6_badOf 0 0 6 [(0, .ref r0), (1, .ref r1), (2, .int x2), (3, .int x3), (4, .int x4), (5, .int 0), (6, .int 0)] [] h P) : Rr mX6_badOf 0 0 0 [(0, .ref r0), (1, .ref r1), (2, .int x2), (3, .int x3), (4, .int x4)] [] h P := by
  refine R_iconst (v := 0) dX6_badOf_0 (by decide) ?_
  refine R_istore dX6_badOf_1 (by decide) rfl ?_
  refine R_iconst (v := 0) dX6_badOf_3 (by decide) ?_
  refine R_istore dX6_badOf_4 (by decide) rfl ?_
  exact R_sub [2, 3, 4, 5, 6, 1, 0] rfl hf
set_option maxRecDepth 20000 in
theorem sX6_badOf_6 {P : Option Value → AH → Prop} (h : AH) (r0 : Nat) (r1 : Nat) (x2 : Int32) (x3 : Int32) (x4 : Int32) (x5 : Int32) (x6 : Int32) (hf : (isO h 3 r1) ∧ (((gI h r1 3) ≤ x6 → P (some (.int x5)) h) ∧ (¬ (gI h r1 3) ≤ x6 → (isA h 0 (gF h r1 4)) ∧ ((vp_in x6 (ln (gF h r1 4))) ∧ ((isA h 0 (gF h r1 5)) ∧ ((vp_in x6 (ln (gF h r1 5))) ∧ ((isO h 6 r0) ∧ (∀ v8 : Int32, v8 = (imax (imax x5 (iabs (x2 + ((((gI h r0 3) * (gI h (gF h r1 4) x6.toNatClampNeg)) - (x4 * (gI h (gF h r1 5) x6.toNatClampNeg))) / 100)))) (iabs (x3 + (((x4 * (gI h (gF h r1 4) x6.toNatClampNeg)) + ((gI h r0 3) * (gI h (gF h r1 5) x6.toNatClampNeg))) / 100)))) → (Rr mX6_badOf 0 0 6 [(0, .ref r0), (1, .ref r1), (2, .int x2), (3, .int x3), (4, .int x4), (5, .int v8), (6, .int (x6 + 1))] [] h P))))))))) : Rr mX6_badOf 0 0 6 [(0, .ref r0), (1, .ref r1), (2, .int x2), (3, .int x3), (4, .int x4), (5, .int x5), (6, .int x6)] [] h P := by
  refine R_iload dX6_badOf_6 6 rfl ?_
  refine R_aload_n dX6_badOf_8 rfl 1 rfl ?_
  obtain ⟨ob1, hf⟩ := hf
  refine G3_3 dX6_badOf_9 lfX6_81 ob1 ?_
  refine R_icmp_ge (tgt := 89) dX6_badOf_12 (by decide) (fun b2 => ?_) (fun b2 => ?_)
  · have hf := hf.1 b2
    refine R_iload dX6_badOf_89 5 rfl ?_
    exact R_iret dX6_badOf_91 rfl rfl hf
  · have hf := hf.2 b2
    refine R_aload_n dX6_badOf_15 rfl 1 rfl ?_
    refine G3_4 dX6_badOf_16 lfX6_84 ob1 ?_
    refine R_iload dX6_badOf_19 6 rfl ?_
    obtain ⟨ob3, hf⟩ := hf
    obtain ⟨ob4, hf⟩ := hf
    refine R_iaload dX6_badOf_21 ob3 ob4 ?_
    refine R_istore dX6_badOf_22 (by decide) rfl ?_
    refine R_aload_n dX6_badOf_24 rfl 2 rfl ?_
    refine G3_5 dX6_badOf_25 lfX6_87 ob1 ?_
    refine R_iload dX6_badOf_28 7 rfl ?_
    obtain ⟨ob5, hf⟩ := hf
    obtain ⟨ob6, hf⟩ := hf
    refine R_iaload dX6_badOf_30 ob5 ob6 ?_
    refine R_istore dX6_badOf_31 (by decide) rfl ?_
    refine R_iload dX6_badOf_33 7 rfl ?_
    refine R_iload_n dX6_badOf_35 rfl 4 rfl ?_
    refine R_iload dX6_badOf_36 6 rfl ?_
    refine R_aload_n dX6_badOf_38 rfl 2 rfl ?_
    obtain ⟨ob7, hf⟩ := hf
    refine G6_3 dX6_badOf_39 lfX6_33 ob7 ?_
    refine R_iload dX6_badOf_42 1 rfl ?_
    refine R_iload dX6_badOf_44 0 rfl ?_
    refine R_callSN (N := mX11_turnedAcross) (as := [.int x4, .int (gI h r0 3), .int (gI h (gF h r1 4) x6.toNatClampNeg), .int (gI h (gF h r1 5) x6.toNatClampNeg)]) (rest := [.int x2, .int x5]) (kc2 := 0) (ks2 := 0) dX6_badOf_46 lnX6_90 oX11_turnedAcross (Nat.le_of_ble_eq_true rfl) rfl rfl (Nat.le_of_ble_eq_true rfl) rfl rfl (aX11_turnedAcross  ?_)
    refine R_iadd dX6_badOf_49 ?_
    refine R_mabs dX6_badOf_50 lmX6_70 (by decide) (Nat.le_of_ble_eq_true rfl) ?_
    refine R_mmax dX6_badOf_53 lmX6_94 (by decide) (Nat.le_of_ble_eq_true rfl) ?_
    refine R_istore dX6_badOf_56 (by decide) rfl ?_
    refine R_iload dX6_badOf_58 0 rfl ?_
    refine R_iload_n dX6_badOf_60 rfl 6 rfl ?_
    refine R_iload dX6_badOf_61 7 rfl ?_
    refine R_aload_n dX6_badOf_63 rfl 3 rfl ?_
    refine G6_3 dX6_badOf_64 lfX6_33 ob7 ?_
    refine R_iload dX6_badOf_67 2 rfl ?_
    refine R_iload dX6_badOf_69 1 rfl ?_
    refine R_callSN (N := mX11_turnedUp) (as := [.int x4, .int (gI h r0 3), .int (gI h (gF h r1 4) x6.toNatClampNeg), .int (gI h (gF h r1 5) x6.toNatClampNeg)]) (rest := [.int x3, .int (imax x5 (iabs (x2 + ((((gI h r0 3) * (gI h (gF h r1 4) x6.toNatClampNeg)) - (x4 * (gI h (gF h r1 5) x6.toNatClampNeg))) / 100))))]) (kc2 := 0) (ks2 := 0) dX6_badOf_71 lnX6_97 oX11_turnedUp (Nat.le_of_ble_eq_true rfl) rfl rfl (Nat.le_of_ble_eq_true rfl) rfl rfl (aX11_turnedUp  ?_)
    refine R_iadd dX6_badOf_74 ?_
    refine R_mabs dX6_badOf_75 lmX6_70 (by decide) (Nat.le_of_ble_eq_true rfl) ?_
    refine R_mmax dX6_badOf_78 lmX6_94 (by decide) (Nat.le_of_ble_eq_true rfl) ?_
    refine R_topi (fun v8 ev8 => ?_)
    have hf := hf v8 ev8
    refine R_istore dX6_badOf_81 (by decide) rfl ?_
    refine R_iinc (v := x6 + 1) dX6_badOf_83 8 rfl rfl (by decide) rfl ?_
    refine R_goto (tgt := 6) dX6_badOf_86 (by decide) ?_
    exact R_sub [4, 5, 6, 7, 8, 1, 0] rfl hf
theorem dX6_turnsOfRow_0 : decode cX6_turnsOfRow 0 = .ok (.iconst 0, 1) := by decide +kernel
theorem dX6_turnsOfRow_1 : decode cX6_turnsOfRow 1 = .ok (.istore_n 1, 1) := by decide +kernel
theorem dX6_turnsOfRow_2 : decode cX6_turnsOfRow 2 = .ok (.iconst 0, 1) := by decide +kernel
theorem dX6_turnsOfRow_3 : decode cX6_turnsOfRow 3 = .ok (.istore_n 2, 1) := by decide +kernel
theorem dX6_turnsOfRow_4 : decode cX6_turnsOfRow 4 = .ok (.iload_n 2, 1) := by decide +kernel
theorem dX6_turnsOfRow_5 : decode cX6_turnsOfRow 5 = .ok (.aload_n 0, 1) := by decide +kernel
theorem dX6_turnsOfRow_6 : decode cX6_turnsOfRow 6 = .ok (.getfield 20, 3) := by decide +kernel
theorem dX6_turnsOfRow_9 : decode cX6_turnsOfRow 9 = .ok (.if_icmp .ge 21, 3) := by decide +kernel
theorem dX6_turnsOfRow_12 : decode cX6_turnsOfRow 12 = .ok (.iload_n 1, 1) := by decide +kernel
theorem dX6_turnsOfRow_13 : decode cX6_turnsOfRow 13 = .ok (.aload_n 0, 1) := by decide +kernel
theorem dX6_turnsOfRow_14 : decode cX6_turnsOfRow 14 = .ok (.getfield 11, 3) := by decide +kernel
theorem dX6_turnsOfRow_17 : decode cX6_turnsOfRow 17 = .ok (.iload_n 2, 1) := by decide +kernel
theorem dX6_turnsOfRow_18 : decode cX6_turnsOfRow 18 = .ok (.iaload, 1) := by decide +kernel
theorem dX6_turnsOfRow_19 : decode cX6_turnsOfRow 19 = .ok (.invokestatic 70, 3) := by decide +kernel
theorem dX6_turnsOfRow_22 : decode cX6_turnsOfRow 22 = .ok (.iadd, 1) := by decide +kernel
theorem dX6_turnsOfRow_23 : decode cX6_turnsOfRow 23 = .ok (.istore_n 1, 1) := by decide +kernel
theorem dX6_turnsOfRow_24 : decode cX6_turnsOfRow 24 = .ok (.iinc 2 1, 3) := by decide +kernel
theorem dX6_turnsOfRow_27 : decode cX6_turnsOfRow 27 = .ok (.goto (-23), 3) := by decide +kernel
theorem dX6_turnsOfRow_30 : decode cX6_turnsOfRow 30 = .ok (.iload_n 1, 1) := by decide +kernel
theorem dX6_turnsOfRow_31 : decode cX6_turnsOfRow 31 = .ok (.ireturn, 1) := by decide +kernel
set_option maxRecDepth 20000 in
theorem sX6_turnsOfRow_0 {P : Option Value → AH → Prop} (h : AH) (r0 : Nat) (hf : Rr mX6_turnsOfRow 0 0 4 [(0, .ref r0), (1, .int 0), (2, .int 0)] [] h P) : Rr mX6_turnsOfRow 0 0 0 [(0, .ref r0)] [] h P := by
  refine R_iconst (v := 0) dX6_turnsOfRow_0 (by decide) ?_
  refine R_istore_n dX6_turnsOfRow_1 rfl (by decide) rfl ?_
  refine R_iconst (v := 0) dX6_turnsOfRow_2 (by decide) ?_
  refine R_istore_n dX6_turnsOfRow_3 rfl (by decide) rfl ?_
  exact R_sub [2, 1, 0] rfl hf
set_option maxRecDepth 20000 in
theorem sX6_turnsOfRow_4 {P : Option Value → AH → Prop} (h : AH) (r0 : Nat) (x1 : Int32) (x2 : Int32) (hf : (isO h 6 r0) ∧ (((gI h r0 5) ≤ x2 → P (some (.int x1)) h) ∧ (¬ (gI h r0 5) ≤ x2 → (isA h 0 (gF h r0 4)) ∧ ((vp_in x2 (ln (gF h r0 4))) ∧ (Rr mX6_turnsOfRow 0 0 4 [(0, .ref r0), (1, .int (x1 + (iabs (gI h (gF h r0 4) x2.toNatClampNeg)))), (2, .int (x2 + 1))] [] h P))))) : Rr mX6_turnsOfRow 0 0 4 [(0, .ref r0), (1, .int x1), (2, .int x2)] [] h P := by
  refine R_iload_n dX6_turnsOfRow_4 rfl 2 rfl ?_
  refine R_aload_n dX6_turnsOfRow_5 rfl 0 rfl ?_
  obtain ⟨ob1, hf⟩ := hf
  refine G6_5 dX6_turnsOfRow_6 lfX6_20 ob1 ?_
  refine R_icmp_ge (tgt := 30) dX6_turnsOfRow_9 (by decide) (fun b2 => ?_) (fun b2 => ?_)
  · have hf := hf.1 b2
    refine R_iload_n dX6_turnsOfRow_30 rfl 1 rfl ?_
    exact R_iret dX6_turnsOfRow_31 rfl rfl hf
  · have hf := hf.2 b2
    refine R_iload_n dX6_turnsOfRow_12 rfl 1 rfl ?_
    refine R_aload_n dX6_turnsOfRow_13 rfl 0 rfl ?_
    refine G6_4 dX6_turnsOfRow_14 lfX6_11 ob1 ?_
    refine R_iload_n dX6_turnsOfRow_17 rfl 2 rfl ?_
    obtain ⟨ob3, hf⟩ := hf
    obtain ⟨ob4, hf⟩ := hf
    refine R_iaload dX6_turnsOfRow_18 ob3 ob4 ?_
    refine R_mabs dX6_turnsOfRow_19 lmX6_70 (by decide) (Nat.le_of_ble_eq_true rfl) ?_
    refine R_iadd dX6_turnsOfRow_22 ?_
    refine R_istore_n dX6_turnsOfRow_23 rfl (by decide) rfl ?_
    refine R_iinc (v := x2 + 1) dX6_turnsOfRow_24 2 rfl rfl (by decide) rfl ?_
    refine R_goto (tgt := 4) dX6_turnsOfRow_27 (by decide) ?_
    exact R_sub [2, 1, 0] rfl hf
theorem dX7_acrossKnown_0 : decode cX7_acrossKnown 0 = .ok (.aload_n 0, 1) := by decide +kernel
theorem dX7_acrossKnown_1 : decode cX7_acrossKnown 1 = .ok (.iload_n 1, 1) := by decide +kernel
theorem dX7_acrossKnown_2 : decode cX7_acrossKnown 2 = .ok (.iload_n 2, 1) := by decide +kernel
theorem dX7_acrossKnown_3 : decode cX7_acrossKnown 3 = .ok (.invokevirtual 60, 3) := by decide +kernel
theorem dX7_acrossKnown_6 : decode cX7_acrossKnown 6 = .ok (.istore_n 3, 1) := by decide +kernel
theorem dX7_acrossKnown_7 : decode cX7_acrossKnown 7 = .ok (.iload_n 3, 1) := by decide +kernel
theorem dX7_acrossKnown_8 : decode cX7_acrossKnown 8 = .ok (.iconst (-1), 1) := by decide +kernel
theorem dX7_acrossKnown_9 : decode cX7_acrossKnown 9 = .ok (.if_icmp .ne 12, 3) := by decide +kernel
theorem dX7_acrossKnown_12 : decode cX7_acrossKnown 12 = .ok (.aload_n 0, 1) := by decide +kernel
theorem dX7_acrossKnown_13 : decode cX7_acrossKnown 13 = .ok (.getfield 21, 3) := by decide +kernel
theorem dX7_acrossKnown_16 : decode cX7_acrossKnown 16 = .ok (.iload_n 1, 1) := by decide +kernel
theorem dX7_acrossKnown_17 : decode cX7_acrossKnown 17 = .ok (.iaload, 1) := by decide +kernel
theorem dX7_acrossKnown_18 : decode cX7_acrossKnown 18 = .ok (.goto 9, 3) := by decide +kernel
theorem dX7_acrossKnown_21 : decode cX7_acrossKnown 21 = .ok (.aload_n 0, 1) := by decide +kernel
theorem dX7_acrossKnown_22 : decode cX7_acrossKnown 22 = .ok (.getfield 33, 3) := by decide +kernel
theorem dX7_acrossKnown_25 : decode cX7_acrossKnown 25 = .ok (.iload_n 3, 1) := by decide +kernel
theorem dX7_acrossKnown_26 : decode cX7_acrossKnown 26 = .ok (.iaload, 1) := by decide +kernel
theorem dX7_acrossKnown_27 : decode cX7_acrossKnown 27 = .ok (.ireturn, 1) := by decide +kernel
set_option maxRecDepth 20000 in
theorem sX7_acrossKnown_0 {P : Option Value → AH → Prop} (h : AH) (r0 : Nat) (x1 : Int32) (x2 : Int32) (hf : (isO h 7 r0) ∧ (Call mX7_lastRight [.ref r0, .int x1, .int x2] h (fun v h2 => ∃ z3 : Int32, v = some (.int z3) ∧ ((isO h2 7 r0) ∧ ((isA h2 0 (gF h2 r0 10)) ∧ ((¬ z3 = (-1) → vp_in z3 (ln (gF h2 r0 10))) ∧ ((isA h2 0 (gF h2 r0 6)) ∧ ((z3 = (-1) → vp_in x1 (ln (gF h2 r0 6))) ∧ (∀ z10 : Int32, z10 = (if z3 = (-1) then (gI h2 (gF h2 r0 6) x1.toNatClampNeg) else (gI h2 (gF h2 r0 10) z3.toNatClampNeg)) → (P (some (.int z10)) h2)))))))))) : Rr mX7_acrossKnown 0 0 0 [(0, .ref r0), (1, .int x1), (2, .int x2)] [] h P := by
  refine R_aload_n dX7_acrossKnown_0 rfl 0 rfl ?_
  refine R_iload_n dX7_acrossKnown_1 rfl 1 rfl ?_
  refine R_iload_n dX7_acrossKnown_2 rfl 2 rfl ?_
  obtain ⟨ob1, hf⟩ := hf
  refine R_callV (ci := 7) (N := mX7_lastRight) (as := [.int x1, .int x2]) (rest := []) (kc2 := 0) (ks2 := 0) dX7_acrossKnown_3 lmX7_60 oX7_lastRight (Nat.le_of_ble_eq_true rfl) rfl rfl (Nat.le_of_ble_eq_true rfl) rfl rfl ob1 ok7 (Call.mono hf ?_)
  rintro _ h2 ⟨z3, rfl, hf⟩
  refine R_istore_n dX7_acrossKnown_6 rfl (by decide) rfl ?_
  refine R_iload_n dX7_acrossKnown_7 rfl 0 rfl ?_
  refine R_iconst (v := (-1)) dX7_acrossKnown_8 (by decide) ?_
  obtain ⟨ob5, hf⟩ := hf
  obtain ⟨ob6, hf⟩ := hf
  obtain ⟨ob7, hf⟩ := hf
  obtain ⟨ob8, hf⟩ := hf
  obtain ⟨ob9, hf⟩ := hf
  have key : ∀ z10 : Int32, z10 = (if z3 = (-1) then (gI h2 (gF h2 r0 6) x1.toNatClampNeg) else (gI h2 (gF h2 r0 10) z3.toNatClampNeg)) → Rr mX7_acrossKnown 0 0 27 [] [.int z10] h2 P := by
    intro z10 ez10
    have hf := hf z10 ez10
    exact R_iret dX7_acrossKnown_27 rfl rfl hf
  refine R_icmp_ne (tgt := 21) dX7_acrossKnown_9 (by decide) (fun b4 => ?_) (fun b4 => ?_)
  · refine R_aload_n dX7_acrossKnown_21 rfl 1 rfl ?_
    refine G7_10 dX7_acrossKnown_22 lfX7_33 ob5 ?_
    refine R_iload_n dX7_acrossKnown_25 rfl 0 rfl ?_
    refine R_iaload dX7_acrossKnown_26 ob6 (ob7 b4) ?_
    exact R_sub [] rfl (key _ (by rw [if_neg b4]))
  · refine R_aload_n dX7_acrossKnown_12 rfl 1 rfl ?_
    refine G7_6 dX7_acrossKnown_13 lfX7_21 ob5 ?_
    refine R_iload_n dX7_acrossKnown_16 rfl 2 rfl ?_
    refine R_iaload dX7_acrossKnown_17 ob8 (ob9 b4) ?_
    refine R_goto (tgt := 27) dX7_acrossKnown_18 (by decide) ?_
    exact R_sub [] rfl (key _ (by rw [if_pos b4]))
theorem dX7_mayTell_0 : decode cX7_mayTell 0 = .ok (.iload_n 1, 1) := by decide +kernel
theorem dX7_mayTell_1 : decode cX7_mayTell 1 = .ok (.invokestatic 49, 3) := by decide +kernel
theorem dX7_mayTell_4 : decode cX7_mayTell 4 = .ok (.ifCond .eq 29, 3) := by decide +kernel
theorem dX7_mayTell_7 : decode cX7_mayTell 7 = .ok (.iload_n 1, 1) := by decide +kernel
theorem dX7_mayTell_8 : decode cX7_mayTell 8 = .ok (.aload_n 0, 1) := by decide +kernel
theorem dX7_mayTell_9 : decode cX7_mayTell 9 = .ok (.getfield 46, 3) := by decide +kernel
theorem dX7_mayTell_12 : decode cX7_mayTell 12 = .ok (.if_icmp .lt 21, 3) := by decide +kernel
theorem dX7_mayTell_15 : decode cX7_mayTell 15 = .ok (.iload_n 2, 1) := by decide +kernel
theorem dX7_mayTell_16 : decode cX7_mayTell 16 = .ok (.invokestatic 53, 3) := by decide +kernel
theorem dX7_mayTell_19 : decode cX7_mayTell 19 = .ok (.ifCond .eq 14, 3) := by decide +kernel
theorem dX7_mayTell_22 : decode cX7_mayTell 22 = .ok (.iload_n 3, 1) := by decide +kernel
theorem dX7_mayTell_23 : decode cX7_mayTell 23 = .ok (.invokestatic 53, 3) := by decide +kernel
theorem dX7_mayTell_26 : decode cX7_mayTell 26 = .ok (.ifCond .eq 7, 3) := by decide +kernel
theorem dX7_mayTell_29 : decode cX7_mayTell 29 = .ok (.iconst 1, 1) := by decide +kernel
theorem dX7_mayTell_30 : decode cX7_mayTell 30 = .ok (.goto 4, 3) := by decide +kernel
theorem dX7_mayTell_33 : decode cX7_mayTell 33 = .ok (.iconst 0, 1) := by decide +kernel
theorem dX7_mayTell_34 : decode cX7_mayTell 34 = .ok (.ireturn, 1) := by decide +kernel
set_option maxRecDepth 20000 in
theorem sX7_mayTell_0 {P : Option Value → AH → Prop} (h : AH) (r0 : Nat) (x1 : Int32) (x2 : Int32) (x3 : Int32) (hf : (isO h 7 r0) ∧ (P (some (.int (bi ((¬ x1 < 0 ∧ ¬ 999 < x1) ∧ ¬ x1 < (gI h r0 2) ∧ (¬ x2 < (-99) ∧ ¬ 99 < x2) ∧ (¬ x3 < (-99) ∧ ¬ 99 < x3))))) h)) : Rr mX7_mayTell 0 0 0 [(0, .ref r0), (1, .int x1), (2, .int x2), (3, .int x3)] [] h P := by
  refine R_iload_n dX7_mayTell_0 rfl 1 rfl ?_
  refine R_callS (N := mX7_isStep) (as := [.int x1]) (rest := []) (kc2 := 0) (ks2 := 0) dX7_mayTell_1 lmX7_49 oX7_isStep (Nat.le_of_ble_eq_true rfl) rfl rfl (Nat.le_of_ble_eq_true rfl) rfl rfl (aX7_isStep  ?_)
  obtain ⟨ob2, hf⟩ := hf
  have key :  Rr mX7_mayTell 0 0 34 [] [.int (bi ((¬ x1 < 0 ∧ ¬ 999 < x1) ∧ ¬ x1 < (gI h r0 2) ∧ (¬ x2 < (-99) ∧ ¬ 99 < x2) ∧ (¬ x3 < (-99) ∧ ¬ 99 < x3)))] h P := by
    exact R_iret dX7_mayTell_34 rfl (nb_n (bi_01 _)) hf
  refine R_if_eq_b (tgt := 33) dX7_mayTell_4 (by decide) (fun b1 => ?_) (fun b1 => ?_)
  · refine R_iconst (v := 0) dX7_mayTell_33 (by decide) ?_
    have kb := key
    rw [show bi ((¬ x1 < 0 ∧ ¬ 999 < x1) ∧ ¬ x1 < (gI h r0 2) ∧ (¬ x2 < (-99) ∧ ¬ 99 < x2) ∧ (¬ x3 < (-99) ∧ ¬ 99 < x3)) = 0 from by simp only [bi, b1, false_and, and_false, true_and, and_true, not_true_eq_false, not_false_eq_true, if_true, if_false, true_or, or_true, false_or, or_false, reduceIte]] at kb
    exact R_sub [] rfl kb
  · refine R_iload_n dX7_mayTell_7 rfl 1 rfl ?_
    refine R_aload_n dX7_mayTell_8 rfl 0 rfl ?_
    refine G7_2 dX7_mayTell_9 lfX7_46 ob2 ?_
    refine R_icmp_lt (tgt := 33) dX7_mayTell_12 (by decide) (fun b3 => ?_) (fun b3 => ?_)
    · refine R_iconst (v := 0) dX7_mayTell_33 (by decide) ?_
      have kb := key
      rw [show bi ((¬ x1 < 0 ∧ ¬ 999 < x1) ∧ ¬ x1 < (gI h r0 2) ∧ (¬ x2 < (-99) ∧ ¬ 99 < x2) ∧ (¬ x3 < (-99) ∧ ¬ 99 < x3)) = 0 from by simp only [bi, b1, b3, false_and, and_false, true_and, and_true, not_true_eq_false, not_false_eq_true, if_true, if_false, true_or, or_true, false_or, or_false, reduceIte]] at kb
      exact R_sub [] rfl kb
    · refine R_iload_n dX7_mayTell_15 rfl 2 rfl ?_
      refine R_callS (N := mX7_isShiftSeen) (as := [.int x2]) (rest := []) (kc2 := 0) (ks2 := 0) dX7_mayTell_16 lmX7_53 oX7_isShiftSeen (Nat.le_of_ble_eq_true rfl) rfl rfl (Nat.le_of_ble_eq_true rfl) rfl rfl (aX7_isShiftSeen  ?_)
      refine R_if_eq_b (tgt := 33) dX7_mayTell_19 (by decide) (fun b4 => ?_) (fun b4 => ?_)
      · refine R_iconst (v := 0) dX7_mayTell_33 (by decide) ?_
        have kb := key
        rw [show bi ((¬ x1 < 0 ∧ ¬ 999 < x1) ∧ ¬ x1 < (gI h r0 2) ∧ (¬ x2 < (-99) ∧ ¬ 99 < x2) ∧ (¬ x3 < (-99) ∧ ¬ 99 < x3)) = 0 from by simp only [bi, b1, b3, b4, false_and, and_false, true_and, and_true, not_true_eq_false, not_false_eq_true, if_true, if_false, true_or, or_true, false_or, or_false, reduceIte]] at kb
        exact R_sub [] rfl kb
      · refine R_iload_n dX7_mayTell_22 rfl 3 rfl ?_
        refine R_callS (N := mX7_isShiftSeen) (as := [.int x3]) (rest := []) (kc2 := 0) (ks2 := 0) dX7_mayTell_23 lmX7_53 oX7_isShiftSeen (Nat.le_of_ble_eq_true rfl) rfl rfl (Nat.le_of_ble_eq_true rfl) rfl rfl (aX7_isShiftSeen  ?_)
        refine R_if_eq_b (tgt := 33) dX7_mayTell_26 (by decide) (fun b5 => ?_) (fun b5 => ?_)
        · refine R_iconst (v := 0) dX7_mayTell_33 (by decide) ?_
          have kb := key
          rw [show bi ((¬ x1 < 0 ∧ ¬ 999 < x1) ∧ ¬ x1 < (gI h r0 2) ∧ (¬ x2 < (-99) ∧ ¬ 99 < x2) ∧ (¬ x3 < (-99) ∧ ¬ 99 < x3)) = 0 from by simp only [bi, b1, b3, b4, b5, false_and, and_false, true_and, and_true, not_true_eq_false, not_false_eq_true, if_true, if_false, true_or, or_true, false_or, or_false, reduceIte]] at kb
          exact R_sub [] rfl kb
        · refine R_iconst (v := 1) dX7_mayTell_29 (by decide) ?_
          refine R_goto (tgt := 34) dX7_mayTell_30 (by decide) ?_
          have kb := key
          rw [show bi ((¬ x1 < 0 ∧ ¬ 999 < x1) ∧ ¬ x1 < (gI h r0 2) ∧ (¬ x2 < (-99) ∧ ¬ 99 < x2) ∧ (¬ x3 < (-99) ∧ ¬ 99 < x3)) = 1 from by simp only [bi, b1, b3, b4, b5, false_and, and_false, true_and, and_true, not_true_eq_false, not_false_eq_true, if_true, if_false, true_or, or_true, false_or, or_false, reduceIte]] at kb
          exact R_sub [] rfl kb
theorem aX7_mayTell {h : AH} {P : Option Value → AH → Prop} {r0 : Nat} {x1 : Int32} {x2 : Int32} {x3 : Int32} (o0 : isO h 7 r0) (k : P (some (.int (bi ((¬ x1 < 0 ∧ ¬ 999 < x1) ∧ ¬ x1 < (gI h r0 2) ∧ (¬ x2 < (-99) ∧ ¬ 99 < x2) ∧ (¬ x3 < (-99) ∧ ¬ 99 < x3))))) h) : Call mX7_mayTell [.ref r0, .int x1, .int x2, .int x3] h P :=
  Call.ofR (by decide +kernel) (Nat.le_of_ble_eq_true rfl) (sX7_mayTell_0 h r0 x1 x2 x3 (⟨o0, k⟩))
theorem dX7_putRight_0 : decode cX7_putRight 0 = .ok (.aload_n 0, 1) := by decide +kernel
theorem dX7_putRight_1 : decode cX7_putRight 1 = .ok (.getfield 43, 3) := by decide +kernel
theorem dX7_putRight_4 : decode cX7_putRight 4 = .ok (.bipush 20, 2) := by decide +kernel
theorem dX7_putRight_6 : decode cX7_putRight 6 = .ok (.if_icmp .lt 6, 3) := by decide +kernel
theorem dX7_putRight_9 : decode cX7_putRight 9 = .ok (.bipush (-3), 2) := by decide +kernel
theorem dX7_putRight_11 : decode cX7_putRight 11 = .ok (.ireturn, 1) := by decide +kernel
theorem dX7_putRight_12 : decode cX7_putRight 12 = .ok (.aload_n 0, 1) := by decide +kernel
theorem dX7_putRight_13 : decode cX7_putRight 13 = .ok (.getfield 27, 3) := by decide +kernel
theorem dX7_putRight_16 : decode cX7_putRight 16 = .ok (.aload_n 0, 1) := by decide +kernel
theorem dX7_putRight_17 : decode cX7_putRight 17 = .ok (.getfield 43, 3) := by decide +kernel
theorem dX7_putRight_20 : decode cX7_putRight 20 = .ok (.iload_n 2, 1) := by decide +kernel
theorem dX7_putRight_21 : decode cX7_putRight 21 = .ok (.iastore, 1) := by decide +kernel
theorem dX7_putRight_22 : decode cX7_putRight 22 = .ok (.aload_n 0, 1) := by decide +kernel
theorem dX7_putRight_23 : decode cX7_putRight 23 = .ok (.getfield 30, 3) := by decide +kernel
theorem dX7_putRight_26 : decode cX7_putRight 26 = .ok (.aload_n 0, 1) := by decide +kernel
theorem dX7_putRight_27 : decode cX7_putRight 27 = .ok (.getfield 43, 3) := by decide +kernel
theorem dX7_putRight_30 : decode cX7_putRight 30 = .ok (.iload_n 1, 1) := by decide +kernel
theorem dX7_putRight_31 : decode cX7_putRight 31 = .ok (.iastore, 1) := by decide +kernel
theorem dX7_putRight_32 : decode cX7_putRight 32 = .ok (.aload_n 0, 1) := by decide +kernel
theorem dX7_putRight_33 : decode cX7_putRight 33 = .ok (.getfield 33, 3) := by decide +kernel
theorem dX7_putRight_36 : decode cX7_putRight 36 = .ok (.aload_n 0, 1) := by decide +kernel
theorem dX7_putRight_37 : decode cX7_putRight 37 = .ok (.getfield 43, 3) := by decide +kernel
theorem dX7_putRight_40 : decode cX7_putRight 40 = .ok (.iload_n 3, 1) := by decide +kernel
theorem dX7_putRight_41 : decode cX7_putRight 41 = .ok (.iastore, 1) := by decide +kernel
theorem dX7_putRight_42 : decode cX7_putRight 42 = .ok (.aload_n 0, 1) := by decide +kernel
theorem dX7_putRight_43 : decode cX7_putRight 43 = .ok (.getfield 36, 3) := by decide +kernel
theorem dX7_putRight_46 : decode cX7_putRight 46 = .ok (.aload_n 0, 1) := by decide +kernel
theorem dX7_putRight_47 : decode cX7_putRight 47 = .ok (.getfield 43, 3) := by decide +kernel
theorem dX7_putRight_50 : decode cX7_putRight 50 = .ok (.iload 4, 2) := by decide +kernel
theorem dX7_putRight_52 : decode cX7_putRight 52 = .ok (.iastore, 1) := by decide +kernel
theorem dX7_putRight_53 : decode cX7_putRight 53 = .ok (.aload_n 0, 1) := by decide +kernel
theorem dX7_putRight_54 : decode cX7_putRight 54 = .ok (.iload_n 1, 1) := by decide +kernel
theorem dX7_putRight_55 : decode cX7_putRight 55 = .ok (.putfield 46, 3) := by decide +kernel
theorem dX7_putRight_58 : decode cX7_putRight 58 = .ok (.aload_n 0, 1) := by decide +kernel
theorem dX7_putRight_59 : decode cX7_putRight 59 = .ok (.dup, 1) := by decide +kernel
theorem dX7_putRight_60 : decode cX7_putRight 60 = .ok (.getfield 43, 3) := by decide +kernel
theorem dX7_putRight_63 : decode cX7_putRight 63 = .ok (.iconst 1, 1) := by decide +kernel
theorem dX7_putRight_64 : decode cX7_putRight 64 = .ok (.iadd, 1) := by decide +kernel
theorem dX7_putRight_65 : decode cX7_putRight 65 = .ok (.putfield 43, 3) := by decide +kernel
theorem dX7_putRight_68 : decode cX7_putRight 68 = .ok (.aload_n 0, 1) := by decide +kernel
theorem dX7_putRight_69 : decode cX7_putRight 69 = .ok (.iload_n 2, 1) := by decide +kernel
theorem dX7_putRight_70 : decode cX7_putRight 70 = .ok (.invokevirtual 56, 3) := by decide +kernel
theorem dX7_putRight_73 : decode cX7_putRight 73 = .ok (.ireturn, 1) := by decide +kernel
set_option maxRecDepth 20000 in
theorem sX7_putRight_0 {P : Option Value → AH → Prop} (h : AH) (r0 : Nat) (x1 : Int32) (x2 : Int32) (x3 : Int32) (x4 : Int32) (hf : (isO h 7 r0) ∧ (((gI h r0 1) < 20 → (isA h 0 (gF h r0 8)) ∧ ((vp_in (gI h r0 1) (ln (gF h r0 8))) ∧ ((isA h 0 (gF h r0 9)) ∧ ((vp_in (gI h r0 1) (ln (gF h r0 9))) ∧ ((isA h 0 (gF h r0 10)) ∧ ((vp_in (gI h r0 1) (ln (gF h r0 10))) ∧ ((isA h 0 (gF h r0 11)) ∧ ((vp_in (gI h r0 1) (ln (gF h r0 11))) ∧ (Call mX7_timesRight [.ref r0, .int x2] (sI (sI (sI (sI (sI (sI h (gF h r0 8) (gI h r0 1).toNatClampNeg x2) (gF h r0 9) (gI h r0 1).toNatClampNeg x1) (gF h r0 10) (gI h r0 1).toNatClampNeg x3) (gF h r0 11) (gI h r0 1).toNatClampNeg x4) r0 2 x1) r0 1 ((gI h r0 1) + 1)) (fun v h11 => ∃ z12 : Int32, v = some (.int z12) ∧ (P (some (.int z12)) h11))))))))))) ∧ (¬ (gI h r0 1) < 20 → P (some (.int (-3))) h))) : Rr mX7_putRight 0 0 0 [(0, .ref r0), (1, .int x1), (2, .int x2), (3, .int x3), (4, .int x4)] [] h P := by
  refine R_aload_n dX7_putRight_0 rfl 0 rfl ?_
  obtain ⟨ob1, hf⟩ := hf
  refine G7_1 dX7_putRight_1 lfX7_43 ob1 ?_
  refine R_bipush (v := 20) dX7_putRight_4 (by decide) ?_
  refine R_icmp_lt (tgt := 12) dX7_putRight_6 (by decide) (fun b2 => ?_) (fun b2 => ?_)
  · have hf := hf.1 b2
    refine R_aload_n dX7_putRight_12 rfl 0 rfl ?_
    refine G7_8 dX7_putRight_13 lfX7_27 ob1 ?_
    refine R_aload_n dX7_putRight_16 rfl 0 rfl ?_
    refine G7_1 dX7_putRight_17 lfX7_43 ob1 ?_
    refine R_iload_n dX7_putRight_20 rfl 2 rfl ?_
    obtain ⟨ob3, hf⟩ := hf
    obtain ⟨ob4, hf⟩ := hf
    refine R_iastore dX7_putRight_21 ob3 ob4 ?_
    refine R_aload_n dX7_putRight_22 rfl 0 rfl ?_
    refine G7_9 dX7_putRight_23 lfX7_30 ob1 ?_
    refine R_eqF (y := gF h r0 9) rfl ?_
    refine R_aload_n dX7_putRight_26 rfl 0 rfl ?_
    refine G7_1 dX7_putRight_27 lfX7_43 ob1 ?_
    refine R_eqI (y := gI h r0 1) (rd_r (ne_oa ob1 ob3 (by decide))) ?_
    refine R_iload_n dX7_putRight_30 rfl 1 rfl ?_
    obtain ⟨ob5, hf⟩ := hf
    obtain ⟨ob6, hf⟩ := hf
    refine R_iastore dX7_putRight_31 ob5 ob6 ?_
    refine R_aload_n dX7_putRight_32 rfl 0 rfl ?_
    refine G7_10 dX7_putRight_33 lfX7_33 ob1 ?_
    refine R_eqF (y := gF h r0 10) rfl ?_
    refine R_aload_n dX7_putRight_36 rfl 0 rfl ?_
    refine G7_1 dX7_putRight_37 lfX7_43 ob1 ?_
    refine R_eqI (y := gI h r0 1) ((rd_r (ne_oa ob1 ob5 (by decide))).trans (rd_r (ne_oa ob1 ob3 (by decide)))) ?_
    refine R_iload_n dX7_putRight_40 rfl 3 rfl ?_
    obtain ⟨ob7, hf⟩ := hf
    obtain ⟨ob8, hf⟩ := hf
    refine R_iastore dX7_putRight_41 ob7 ob8 ?_
    refine R_aload_n dX7_putRight_42 rfl 0 rfl ?_
    refine G7_11 dX7_putRight_43 lfX7_36 ob1 ?_
    refine R_eqF (y := gF h r0 11) rfl ?_
    refine R_aload_n dX7_putRight_46 rfl 0 rfl ?_
    refine G7_1 dX7_putRight_47 lfX7_43 ob1 ?_
    refine R_eqI (y := gI h r0 1) ((rd_r (ne_oa ob1 ob7 (by decide))).trans ((rd_r (ne_oa ob1 ob5 (by decide))).trans (rd_r (ne_oa ob1 ob3 (by decide))))) ?_
    refine R_iload dX7_putRight_50 4 rfl ?_
    obtain ⟨ob9, hf⟩ := hf
    obtain ⟨ob10, hf⟩ := hf
    refine R_iastore dX7_putRight_52 ob9 ob10 ?_
    refine R_aload_n dX7_putRight_53 rfl 0 rfl ?_
    refine R_iload_n dX7_putRight_54 rfl 1 rfl ?_
    refine S7_2 dX7_putRight_55 lfX7_46 ob1 ?_
    refine R_aload_n dX7_putRight_58 rfl 0 rfl ?_
    refine R_dup dX7_putRight_59 rfl ?_
    refine G7_1 dX7_putRight_60 lfX7_43 ob1 ?_
    refine R_eqI (y := gI h r0 1) ((rd_k (by decide)).trans ((rd_r (ne_oa ob1 ob9 (by decide))).trans ((rd_r (ne_oa ob1 ob7 (by decide))).trans ((rd_r (ne_oa ob1 ob5 (by decide))).trans (rd_r (ne_oa ob1 ob3 (by decide))))))) ?_
    refine R_iconst (v := 1) dX7_putRight_63 (by decide) ?_
    refine R_iadd dX7_putRight_64 ?_
    refine S7_1 dX7_putRight_65 lfX7_43 ob1 ?_
    refine R_aload_n dX7_putRight_68 rfl 0 rfl ?_
    refine R_iload_n dX7_putRight_69 rfl 2 rfl ?_
    refine R_callV (ci := 7) (N := mX7_timesRight) (as := [.int x2]) (rest := []) (kc2 := 0) (ks2 := 0) dX7_putRight_70 lmX7_56 oX7_timesRight (Nat.le_of_ble_eq_true rfl) rfl rfl (Nat.le_of_ble_eq_true rfl) rfl rfl ob1 ok7 (Call.mono hf ?_)
    rintro _ h11 ⟨z12, rfl, hf⟩
    exact R_iret dX7_putRight_73 rfl rfl hf
  · have hf := hf.2 b2
    refine R_bipush (v := (-3)) dX7_putRight_9 (by decide) ?_
    exact R_iret dX7_putRight_11 rfl rfl hf
theorem dX7_upKnown_0 : decode cX7_upKnown 0 = .ok (.aload_n 0, 1) := by decide +kernel
theorem dX7_upKnown_1 : decode cX7_upKnown 1 = .ok (.iload_n 1, 1) := by decide +kernel
theorem dX7_upKnown_2 : decode cX7_upKnown 2 = .ok (.iload_n 2, 1) := by decide +kernel
theorem dX7_upKnown_3 : decode cX7_upKnown 3 = .ok (.invokevirtual 60, 3) := by decide +kernel
theorem dX7_upKnown_6 : decode cX7_upKnown 6 = .ok (.istore_n 3, 1) := by decide +kernel
theorem dX7_upKnown_7 : decode cX7_upKnown 7 = .ok (.iload_n 3, 1) := by decide +kernel
theorem dX7_upKnown_8 : decode cX7_upKnown 8 = .ok (.iconst (-1), 1) := by decide +kernel
theorem dX7_upKnown_9 : decode cX7_upKnown 9 = .ok (.if_icmp .ne 12, 3) := by decide +kernel
theorem dX7_upKnown_12 : decode cX7_upKnown 12 = .ok (.aload_n 0, 1) := by decide +kernel
theorem dX7_upKnown_13 : decode cX7_upKnown 13 = .ok (.getfield 24, 3) := by decide +kernel
theorem dX7_upKnown_16 : decode cX7_upKnown 16 = .ok (.iload_n 1, 1) := by decide +kernel
theorem dX7_upKnown_17 : decode cX7_upKnown 17 = .ok (.iaload, 1) := by decide +kernel
theorem dX7_upKnown_18 : decode cX7_upKnown 18 = .ok (.goto 9, 3) := by decide +kernel
theorem dX7_upKnown_21 : decode cX7_upKnown 21 = .ok (.aload_n 0, 1) := by decide +kernel
theorem dX7_upKnown_22 : decode cX7_upKnown 22 = .ok (.getfield 36, 3) := by decide +kernel
theorem dX7_upKnown_25 : decode cX7_upKnown 25 = .ok (.iload_n 3, 1) := by decide +kernel
theorem dX7_upKnown_26 : decode cX7_upKnown 26 = .ok (.iaload, 1) := by decide +kernel
theorem dX7_upKnown_27 : decode cX7_upKnown 27 = .ok (.ireturn, 1) := by decide +kernel
set_option maxRecDepth 20000 in
theorem sX7_upKnown_0 {P : Option Value → AH → Prop} (h : AH) (r0 : Nat) (x1 : Int32) (x2 : Int32) (hf : (isO h 7 r0) ∧ (Call mX7_lastRight [.ref r0, .int x1, .int x2] h (fun v h2 => ∃ z3 : Int32, v = some (.int z3) ∧ ((isO h2 7 r0) ∧ ((isA h2 0 (gF h2 r0 11)) ∧ ((¬ z3 = (-1) → vp_in z3 (ln (gF h2 r0 11))) ∧ ((isA h2 0 (gF h2 r0 7)) ∧ ((z3 = (-1) → vp_in x1 (ln (gF h2 r0 7))) ∧ (∀ z10 : Int32, z10 = (if z3 = (-1) then (gI h2 (gF h2 r0 7) x1.toNatClampNeg) else (gI h2 (gF h2 r0 11) z3.toNatClampNeg)) → (P (some (.int z10)) h2)))))))))) : Rr mX7_upKnown 0 0 0 [(0, .ref r0), (1, .int x1), (2, .int x2)] [] h P := by
  refine R_aload_n dX7_upKnown_0 rfl 0 rfl ?_
  refine R_iload_n dX7_upKnown_1 rfl 1 rfl ?_
  refine R_iload_n dX7_upKnown_2 rfl 2 rfl ?_
  obtain ⟨ob1, hf⟩ := hf
  refine R_callV (ci := 7) (N := mX7_lastRight) (as := [.int x1, .int x2]) (rest := []) (kc2 := 0) (ks2 := 0) dX7_upKnown_3 lmX7_60 oX7_lastRight (Nat.le_of_ble_eq_true rfl) rfl rfl (Nat.le_of_ble_eq_true rfl) rfl rfl ob1 ok7 (Call.mono hf ?_)
  rintro _ h2 ⟨z3, rfl, hf⟩
  refine R_istore_n dX7_upKnown_6 rfl (by decide) rfl ?_
  refine R_iload_n dX7_upKnown_7 rfl 0 rfl ?_
  refine R_iconst (v := (-1)) dX7_upKnown_8 (by decide) ?_
  obtain ⟨ob5, hf⟩ := hf
  obtain ⟨ob6, hf⟩ := hf
  obtain ⟨ob7, hf⟩ := hf
  obtain ⟨ob8, hf⟩ := hf
  obtain ⟨ob9, hf⟩ := hf
  have key : ∀ z10 : Int32, z10 = (if z3 = (-1) then (gI h2 (gF h2 r0 7) x1.toNatClampNeg) else (gI h2 (gF h2 r0 11) z3.toNatClampNeg)) → Rr mX7_upKnown 0 0 27 [] [.int z10] h2 P := by
    intro z10 ez10
    have hf := hf z10 ez10
    exact R_iret dX7_upKnown_27 rfl rfl hf
  refine R_icmp_ne (tgt := 21) dX7_upKnown_9 (by decide) (fun b4 => ?_) (fun b4 => ?_)
  · refine R_aload_n dX7_upKnown_21 rfl 1 rfl ?_
    refine G7_11 dX7_upKnown_22 lfX7_36 ob5 ?_
    refine R_iload_n dX7_upKnown_25 rfl 0 rfl ?_
    refine R_iaload dX7_upKnown_26 ob6 (ob7 b4) ?_
    exact R_sub [] rfl (key _ (by rw [if_neg b4]))
  · refine R_aload_n dX7_upKnown_12 rfl 1 rfl ?_
    refine G7_7 dX7_upKnown_13 lfX7_24 ob5 ?_
    refine R_iload_n dX7_upKnown_16 rfl 2 rfl ?_
    refine R_iaload dX7_upKnown_17 ob8 (ob9 b4) ?_
    refine R_goto (tgt := 27) dX7_upKnown_18 (by decide) ?_
    exact R_sub [] rfl (key _ (by rw [if_pos b4]))
theorem dX8_beatOf_0 : decode cX8_beatOf 0 = .ok (.aload_n 0, 1) := by decide +kernel
theorem dX8_beatOf_1 : decode cX8_beatOf 1 = .ok (.iload_n 1, 1) := by decide +kernel
theorem dX8_beatOf_2 : decode cX8_beatOf 2 = .ok (.aload_n 0, 1) := by decide +kernel
theorem dX8_beatOf_3 : decode cX8_beatOf 3 = .ok (.getfield 11, 3) := by decide +kernel
theorem dX8_beatOf_6 : decode cX8_beatOf 6 = .ok (.iload_n 2, 1) := by decide +kernel
theorem dX8_beatOf_7 : decode cX8_beatOf 7 = .ok (.iaload, 1) := by decide +kernel
theorem dX8_beatOf_8 : decode cX8_beatOf 8 = .ok (.aload_n 0, 1) := by decide +kernel
theorem dX8_beatOf_9 : decode cX8_beatOf 9 = .ok (.getfield 15, 3) := by decide +kernel
theorem dX8_beatOf_12 : decode cX8_beatOf 12 = .ok (.iload_n 2, 1) := by decide +kernel
theorem dX8_beatOf_13 : decode cX8_beatOf 13 = .ok (.iaload, 1) := by decide +kernel
theorem dX8_beatOf_14 : decode cX8_beatOf 14 = .ok (.invokevirtual 29, 3) := by decide +kernel
theorem dX8_beatOf_17 : decode cX8_beatOf 17 = .ok (.aload_n 0, 1) := by decide +kernel
theorem dX8_beatOf_18 : decode cX8_beatOf 18 = .ok (.iload_n 1, 1) := by decide +kernel
theorem dX8_beatOf_19 : decode cX8_beatOf 19 = .ok (.aload_n 0, 1) := by decide +kernel
theorem dX8_beatOf_20 : decode cX8_beatOf 20 = .ok (.getfield 11, 3) := by decide +kernel
theorem dX8_beatOf_23 : decode cX8_beatOf 23 = .ok (.iload_n 2, 1) := by decide +kernel
theorem dX8_beatOf_24 : decode cX8_beatOf 24 = .ok (.iaload, 1) := by decide +kernel
theorem dX8_beatOf_25 : decode cX8_beatOf 25 = .ok (.ineg, 1) := by decide +kernel
theorem dX8_beatOf_26 : decode cX8_beatOf 26 = .ok (.aload_n 0, 1) := by decide +kernel
theorem dX8_beatOf_27 : decode cX8_beatOf 27 = .ok (.getfield 15, 3) := by decide +kernel
theorem dX8_beatOf_30 : decode cX8_beatOf 30 = .ok (.iload_n 2, 1) := by decide +kernel
theorem dX8_beatOf_31 : decode cX8_beatOf 31 = .ok (.iaload, 1) := by decide +kernel
theorem dX8_beatOf_32 : decode cX8_beatOf 32 = .ok (.ineg, 1) := by decide +kernel
theorem dX8_beatOf_33 : decode cX8_beatOf 33 = .ok (.invokevirtual 29, 3) := by decide +kernel
theorem dX8_beatOf_36 : decode cX8_beatOf 36 = .ok (.invokestatic 33, 3) := by decide +kernel
theorem dX8_beatOf_39 : decode cX8_beatOf 39 = .ok (.istore_n 3, 1) := by decide +kernel
theorem dX8_beatOf_40 : decode cX8_beatOf 40 = .ok (.aload_n 0, 1) := by decide +kernel
theorem dX8_beatOf_41 : decode cX8_beatOf 41 = .ok (.iload_n 1, 1) := by decide +kernel
theorem dX8_beatOf_42 : decode cX8_beatOf 42 = .ok (.aload_n 0, 1) := by decide +kernel
theorem dX8_beatOf_43 : decode cX8_beatOf 43 = .ok (.getfield 15, 3) := by decide +kernel
theorem dX8_beatOf_46 : decode cX8_beatOf 46 = .ok (.iload_n 2, 1) := by decide +kernel
theorem dX8_beatOf_47 : decode cX8_beatOf 47 = .ok (.iaload, 1) := by decide +kernel
theorem dX8_beatOf_48 : decode cX8_beatOf 48 = .ok (.ineg, 1) := by decide +kernel
theorem dX8_beatOf_49 : decode cX8_beatOf 49 = .ok (.aload_n 0, 1) := by decide +kernel
theorem dX8_beatOf_50 : decode cX8_beatOf 50 = .ok (.getfield 11, 3) := by decide +kernel
theorem dX8_beatOf_53 : decode cX8_beatOf 53 = .ok (.iload_n 2, 1) := by decide +kernel
theorem dX8_beatOf_54 : decode cX8_beatOf 54 = .ok (.iaload, 1) := by decide +kernel
theorem dX8_beatOf_55 : decode cX8_beatOf 55 = .ok (.invokevirtual 29, 3) := by decide +kernel
theorem dX8_beatOf_58 : decode cX8_beatOf 58 = .ok (.aload_n 0, 1) := by decide +kernel
theorem dX8_beatOf_59 : decode cX8_beatOf 59 = .ok (.iload_n 1, 1) := by decide +kernel
theorem dX8_beatOf_60 : decode cX8_beatOf 60 = .ok (.aload_n 0, 1) := by decide +kernel
theorem dX8_beatOf_61 : decode cX8_beatOf 61 = .ok (.getfield 15, 3) := by decide +kernel
theorem dX8_beatOf_64 : decode cX8_beatOf 64 = .ok (.iload_n 2, 1) := by decide +kernel
theorem dX8_beatOf_65 : decode cX8_beatOf 65 = .ok (.iaload, 1) := by decide +kernel
theorem dX8_beatOf_66 : decode cX8_beatOf 66 = .ok (.aload_n 0, 1) := by decide +kernel
theorem dX8_beatOf_67 : decode cX8_beatOf 67 = .ok (.getfield 11, 3) := by decide +kernel
theorem dX8_beatOf_70 : decode cX8_beatOf 70 = .ok (.iload_n 2, 1) := by decide +kernel
theorem dX8_beatOf_71 : decode cX8_beatOf 71 = .ok (.iaload, 1) := by decide +kernel
theorem dX8_beatOf_72 : decode cX8_beatOf 72 = .ok (.ineg, 1) := by decide +kernel
theorem dX8_beatOf_73 : decode cX8_beatOf 73 = .ok (.invokevirtual 29, 3) := by decide +kernel
theorem dX8_beatOf_76 : decode cX8_beatOf 76 = .ok (.invokestatic 33, 3) := by decide +kernel
theorem dX8_beatOf_79 : decode cX8_beatOf 79 = .ok (.istore 4, 2) := by decide +kernel
theorem dX8_beatOf_81 : decode cX8_beatOf 81 = .ok (.iload_n 3, 1) := by decide +kernel
theorem dX8_beatOf_82 : decode cX8_beatOf 82 = .ok (.iload 4, 2) := by decide +kernel
theorem dX8_beatOf_84 : decode cX8_beatOf 84 = .ok (.invokestatic 33, 3) := by decide +kernel
theorem dX8_beatOf_87 : decode cX8_beatOf 87 = .ok (.ireturn, 1) := by decide +kernel
set_option maxRecDepth 20000 in
theorem sX8_beatOf_0 {P : Option Value → AH → Prop} (h : AH) (r0 : Nat) (x1 : Int32) (x2 : Int32) (hf : (isO h 8 r0) ∧ ((isA h 0 (gF h r0 1)) ∧ ((vp_in x2 (ln (gF h r0 1))) ∧ ((isA h 0 (gF h r0 2)) ∧ ((vp_in x2 (ln (gF h r0 2))) ∧ (Call mX8_squaresFrom [.ref r0, .int x1, .int (gI h (gF h r0 1) x2.toNatClampNeg), .int (gI h (gF h r0 2) x2.toNatClampNeg)] h (fun v h6 => ∃ z7 : Int32, v = some (.int z7) ∧ ((isO h6 8 r0) ∧ ((isA h6 0 (gF h6 r0 1)) ∧ ((vp_in x2 (ln (gF h6 r0 1))) ∧ ((isA h6 0 (gF h6 r0 2)) ∧ ((vp_in x2 (ln (gF h6 r0 2))) ∧ (Call mX8_squaresFrom [.ref r0, .int x1, .int (-(gI h6 (gF h6 r0 1) x2.toNatClampNeg)), .int (-(gI h6 (gF h6 r0 2) x2.toNatClampNeg))] h6 (fun v h13 => ∃ z14 : Int32, v = some (.int z14) ∧ ((isO h13 8 r0) ∧ ((isA h13 0 (gF h13 r0 2)) ∧ ((vp_in x2 (ln (gF h13 r0 2))) ∧ ((isA h13 0 (gF h13 r0 1)) ∧ ((vp_in x2 (ln (gF h13 r0 1))) ∧ (Call mX8_squaresFrom [.ref r0, .int x1, .int (-(gI h13 (gF h13 r0 2) x2.toNatClampNeg)), .int (gI h13 (gF h13 r0 1) x2.toNatClampNeg)] h13 (fun v h20 => ∃ z21 : Int32, v = some (.int z21) ∧ ((isO h20 8 r0) ∧ ((isA h20 0 (gF h20 r0 2)) ∧ ((vp_in x2 (ln (gF h20 r0 2))) ∧ ((isA h20 0 (gF h20 r0 1)) ∧ ((vp_in x2 (ln (gF h20 r0 1))) ∧ (Call mX8_squaresFrom [.ref r0, .int x1, .int (gI h20 (gF h20 r0 2) x2.toNatClampNeg), .int (-(gI h20 (gF h20 r0 1) x2.toNatClampNeg))] h20 (fun v h27 => ∃ z28 : Int32, v = some (.int z28) ∧ (P (some (.int (imin (imin z7 z14) (imin z21 z28)))) h27))))))))))))))))))))))))))))) : Rr mX8_beatOf 0 0 0 [(0, .ref r0), (1, .int x1), (2, .int x2)] [] h P := by
  refine R_aload_n dX8_beatOf_0 rfl 0 rfl ?_
  refine R_iload_n dX8_beatOf_1 rfl 1 rfl ?_
  refine R_aload_n dX8_beatOf_2 rfl 0 rfl ?_
  obtain ⟨ob1, hf⟩ := hf
  refine G8_1 dX8_beatOf_3 lfX8_11 ob1 ?_
  refine R_iload_n dX8_beatOf_6 rfl 2 rfl ?_
  obtain ⟨ob2, hf⟩ := hf
  obtain ⟨ob3, hf⟩ := hf
  refine R_iaload dX8_beatOf_7 ob2 ob3 ?_
  refine R_aload_n dX8_beatOf_8 rfl 0 rfl ?_
  refine G8_2 dX8_beatOf_9 lfX8_15 ob1 ?_
  refine R_iload_n dX8_beatOf_12 rfl 2 rfl ?_
  obtain ⟨ob4, hf⟩ := hf
  obtain ⟨ob5, hf⟩ := hf
  refine R_iaload dX8_beatOf_13 ob4 ob5 ?_
  refine R_callV (ci := 8) (N := mX8_squaresFrom) (as := [.int x1, .int (gI h (gF h r0 1) x2.toNatClampNeg), .int (gI h (gF h r0 2) x2.toNatClampNeg)]) (rest := []) (kc2 := 0) (ks2 := 0) dX8_beatOf_14 lmX8_29 oX8_squaresFrom (Nat.le_of_ble_eq_true rfl) rfl rfl (Nat.le_of_ble_eq_true rfl) rfl rfl ob1 ok8 (Call.mono hf ?_)
  rintro _ h6 ⟨z7, rfl, hf⟩
  refine R_aload_n dX8_beatOf_17 rfl 0 rfl ?_
  refine R_iload_n dX8_beatOf_18 rfl 1 rfl ?_
  refine R_aload_n dX8_beatOf_19 rfl 0 rfl ?_
  obtain ⟨ob8, hf⟩ := hf
  refine G8_1 dX8_beatOf_20 lfX8_11 ob8 ?_
  refine R_iload_n dX8_beatOf_23 rfl 2 rfl ?_
  obtain ⟨ob9, hf⟩ := hf
  obtain ⟨ob10, hf⟩ := hf
  refine R_iaload dX8_beatOf_24 ob9 ob10 ?_
  refine R_ineg dX8_beatOf_25 ?_
  refine R_aload_n dX8_beatOf_26 rfl 0 rfl ?_
  refine G8_2 dX8_beatOf_27 lfX8_15 ob8 ?_
  refine R_iload_n dX8_beatOf_30 rfl 2 rfl ?_
  obtain ⟨ob11, hf⟩ := hf
  obtain ⟨ob12, hf⟩ := hf
  refine R_iaload dX8_beatOf_31 ob11 ob12 ?_
  refine R_ineg dX8_beatOf_32 ?_
  refine R_callV (ci := 8) (N := mX8_squaresFrom) (as := [.int x1, .int (-(gI h6 (gF h6 r0 1) x2.toNatClampNeg)), .int (-(gI h6 (gF h6 r0 2) x2.toNatClampNeg))]) (rest := [.int z7]) (kc2 := 0) (ks2 := 0) dX8_beatOf_33 lmX8_29 oX8_squaresFrom (Nat.le_of_ble_eq_true rfl) rfl rfl (Nat.le_of_ble_eq_true rfl) rfl rfl ob8 ok8 (Call.mono hf ?_)
  rintro _ h13 ⟨z14, rfl, hf⟩
  refine R_mmin dX8_beatOf_36 lmX8_33 (by decide) (Nat.le_of_ble_eq_true rfl) ?_
  refine R_istore_n dX8_beatOf_39 rfl (by decide) rfl ?_
  refine R_aload_n dX8_beatOf_40 rfl 1 rfl ?_
  refine R_iload_n dX8_beatOf_41 rfl 2 rfl ?_
  refine R_aload_n dX8_beatOf_42 rfl 1 rfl ?_
  obtain ⟨ob15, hf⟩ := hf
  refine G8_2 dX8_beatOf_43 lfX8_15 ob15 ?_
  refine R_iload_n dX8_beatOf_46 rfl 3 rfl ?_
  obtain ⟨ob16, hf⟩ := hf
  obtain ⟨ob17, hf⟩ := hf
  refine R_iaload dX8_beatOf_47 ob16 ob17 ?_
  refine R_ineg dX8_beatOf_48 ?_
  refine R_aload_n dX8_beatOf_49 rfl 1 rfl ?_
  refine G8_1 dX8_beatOf_50 lfX8_11 ob15 ?_
  refine R_iload_n dX8_beatOf_53 rfl 3 rfl ?_
  obtain ⟨ob18, hf⟩ := hf
  obtain ⟨ob19, hf⟩ := hf
  refine R_iaload dX8_beatOf_54 ob18 ob19 ?_
  refine R_callV (ci := 8) (N := mX8_squaresFrom) (as := [.int x1, .int (-(gI h13 (gF h13 r0 2) x2.toNatClampNeg)), .int (gI h13 (gF h13 r0 1) x2.toNatClampNeg)]) (rest := []) (kc2 := 0) (ks2 := 0) dX8_beatOf_55 lmX8_29 oX8_squaresFrom (Nat.le_of_ble_eq_true rfl) rfl rfl (Nat.le_of_ble_eq_true rfl) rfl rfl ob15 ok8 (Call.mono hf ?_)
  rintro _ h20 ⟨z21, rfl, hf⟩
  refine R_aload_n dX8_beatOf_58 rfl 1 rfl ?_
  refine R_iload_n dX8_beatOf_59 rfl 2 rfl ?_
  refine R_aload_n dX8_beatOf_60 rfl 1 rfl ?_
  obtain ⟨ob22, hf⟩ := hf
  refine G8_2 dX8_beatOf_61 lfX8_15 ob22 ?_
  refine R_iload_n dX8_beatOf_64 rfl 3 rfl ?_
  obtain ⟨ob23, hf⟩ := hf
  obtain ⟨ob24, hf⟩ := hf
  refine R_iaload dX8_beatOf_65 ob23 ob24 ?_
  refine R_aload_n dX8_beatOf_66 rfl 1 rfl ?_
  refine G8_1 dX8_beatOf_67 lfX8_11 ob22 ?_
  refine R_iload_n dX8_beatOf_70 rfl 3 rfl ?_
  obtain ⟨ob25, hf⟩ := hf
  obtain ⟨ob26, hf⟩ := hf
  refine R_iaload dX8_beatOf_71 ob25 ob26 ?_
  refine R_ineg dX8_beatOf_72 ?_
  refine R_callV (ci := 8) (N := mX8_squaresFrom) (as := [.int x1, .int (gI h20 (gF h20 r0 2) x2.toNatClampNeg), .int (-(gI h20 (gF h20 r0 1) x2.toNatClampNeg))]) (rest := [.int z21]) (kc2 := 0) (ks2 := 0) dX8_beatOf_73 lmX8_29 oX8_squaresFrom (Nat.le_of_ble_eq_true rfl) rfl rfl (Nat.le_of_ble_eq_true rfl) rfl rfl ob22 ok8 (Call.mono hf ?_)
  rintro _ h27 ⟨z28, rfl, hf⟩
  refine R_mmin dX8_beatOf_76 lmX8_33 (by decide) (Nat.le_of_ble_eq_true rfl) ?_
  refine R_istore dX8_beatOf_79 (by decide) rfl ?_
  refine R_iload_n dX8_beatOf_81 rfl 1 rfl ?_
  refine R_iload dX8_beatOf_82 0 rfl ?_
  refine R_mmin dX8_beatOf_84 lmX8_33 (by decide) (Nat.le_of_ble_eq_true rfl) ?_
  exact R_iret dX8_beatOf_87 rfl rfl hf
theorem dX8_stepOf_0 : decode cX8_stepOf 0 = .ok (.aload_n 0, 1) := by decide +kernel
theorem dX8_stepOf_1 : decode cX8_stepOf 1 = .ok (.iload_n 1, 1) := by decide +kernel
theorem dX8_stepOf_2 : decode cX8_stepOf 2 = .ok (.invokevirtual 25, 3) := by decide +kernel
theorem dX8_stepOf_5 : decode cX8_stepOf 5 = .ok (.ifCond .ne 5, 3) := by decide +kernel
theorem dX8_stepOf_8 : decode cX8_stepOf 8 = .ok (.iconst (-1), 1) := by decide +kernel
theorem dX8_stepOf_9 : decode cX8_stepOf 9 = .ok (.ireturn, 1) := by decide +kernel
theorem dX8_stepOf_10 : decode cX8_stepOf 10 = .ok (.iload_n 2, 1) := by decide +kernel
theorem dX8_stepOf_11 : decode cX8_stepOf 11 = .ok (.ifCond .eq 12, 3) := by decide +kernel
theorem dX8_stepOf_14 : decode cX8_stepOf 14 = .ok (.aload_n 0, 1) := by decide +kernel
theorem dX8_stepOf_15 : decode cX8_stepOf 15 = .ok (.getfield 15, 3) := by decide +kernel
theorem dX8_stepOf_18 : decode cX8_stepOf 18 = .ok (.iload_n 1, 1) := by decide +kernel
theorem dX8_stepOf_19 : decode cX8_stepOf 19 = .ok (.iaload, 1) := by decide +kernel
theorem dX8_stepOf_20 : decode cX8_stepOf 20 = .ok (.goto 9, 3) := by decide +kernel
theorem dX8_stepOf_23 : decode cX8_stepOf 23 = .ok (.aload_n 0, 1) := by decide +kernel
theorem dX8_stepOf_24 : decode cX8_stepOf 24 = .ok (.getfield 11, 3) := by decide +kernel
theorem dX8_stepOf_27 : decode cX8_stepOf 27 = .ok (.iload_n 1, 1) := by decide +kernel
theorem dX8_stepOf_28 : decode cX8_stepOf 28 = .ok (.iaload, 1) := by decide +kernel
theorem dX8_stepOf_29 : decode cX8_stepOf 29 = .ok (.ireturn, 1) := by decide +kernel
set_option maxRecDepth 20000 in
theorem sX8_stepOf_0 {P : Option Value → AH → Prop} (h : AH) (r0 : Nat) (x1 : Int32) (x2 : Int32) (hf : (isO h 8 r0) ∧ (((¬ x1 < 0 ∧ ¬ (gI h r0 0) ≤ x1) → (isA h 0 (gF h r0 1)) ∧ ((x2 = 0 → vp_in x1 (ln (gF h r0 1))) ∧ ((isA h 0 (gF h r0 2)) ∧ ((¬ x2 = 0 → vp_in x1 (ln (gF h r0 2))) ∧ (∀ z8 : Int32, z8 = (if x2 = 0 then (gI h (gF h r0 1) x1.toNatClampNeg) else (gI h (gF h r0 2) x1.toNatClampNeg)) → (P (some (.int z8)) h)))))) ∧ (¬ (¬ x1 < 0 ∧ ¬ (gI h r0 0) ≤ x1) → P (some (.int (-1))) h))) : Rr mX8_stepOf 0 0 0 [(0, .ref r0), (1, .int x1), (2, .int x2)] [] h P := by
  refine R_aload_n dX8_stepOf_0 rfl 0 rfl ?_
  refine R_iload_n dX8_stepOf_1 rfl 1 rfl ?_
  obtain ⟨ob1, hf⟩ := hf
  refine R_callV (ci := 8) (N := mX8_isScreen) (as := [.int x1]) (rest := []) (kc2 := 0) (ks2 := 0) dX8_stepOf_2 lmX8_25 oX8_isScreen (Nat.le_of_ble_eq_true rfl) rfl rfl (Nat.le_of_ble_eq_true rfl) rfl rfl ob1 ok8 (aX8_isScreen ob1 ?_)
  refine R_if_ne_b (tgt := 10) dX8_stepOf_5 (by decide) (fun b2 => ?_) (fun b2 => ?_)
  · have hf := hf.1 b2
    refine R_iload_n dX8_stepOf_10 rfl 2 rfl ?_
    obtain ⟨ob4, hf⟩ := hf
    obtain ⟨ob5, hf⟩ := hf
    obtain ⟨ob6, hf⟩ := hf
    obtain ⟨ob7, hf⟩ := hf
    have key : ∀ z8 : Int32, z8 = (if x2 = 0 then (gI h (gF h r0 1) x1.toNatClampNeg) else (gI h (gF h r0 2) x1.toNatClampNeg)) → Rr mX8_stepOf 0 0 29 [] [.int z8] h P := by
      intro z8 ez8
      have hf := hf z8 ez8
      exact R_iret dX8_stepOf_29 rfl rfl hf
    refine R_if_eq (tgt := 23) dX8_stepOf_11 (by decide) (fun b3 => ?_) (fun b3 => ?_)
    · refine R_aload_n dX8_stepOf_23 rfl 0 rfl ?_
      refine G8_1 dX8_stepOf_24 lfX8_11 ob1 ?_
      refine R_iload_n dX8_stepOf_27 rfl 1 rfl ?_
      refine R_iaload dX8_stepOf_28 ob4 (ob5 b3) ?_
      exact R_sub [] rfl (key _ (by rw [if_pos b3]))
    · refine R_aload_n dX8_stepOf_14 rfl 0 rfl ?_
      refine G8_2 dX8_stepOf_15 lfX8_15 ob1 ?_
      refine R_iload_n dX8_stepOf_18 rfl 1 rfl ?_
      refine R_iaload dX8_stepOf_19 ob6 (ob7 b3) ?_
      refine R_goto (tgt := 29) dX8_stepOf_20 (by decide) ?_
      exact R_sub [] rfl (key _ (by rw [if_neg b3]))
  · have hf := hf.2 b2
    refine R_iconst (v := (-1)) dX8_stepOf_8 (by decide) ?_
    exact R_iret dX8_stepOf_9 rfl rfl hf
theorem dX9_takeNumber_0 : decode cX9_takeNumber 0 = .ok (.aload_n 0, 1) := by decide +kernel
theorem dX9_takeNumber_1 : decode cX9_takeNumber 1 = .ok (.getfield 19, 3) := by decide +kernel
theorem dX9_takeNumber_4 : decode cX9_takeNumber 4 = .ok (.aload_n 0, 1) := by decide +kernel
theorem dX9_takeNumber_5 : decode cX9_takeNumber 5 = .ok (.getfield 15, 3) := by decide +kernel
theorem dX9_takeNumber_8 : decode cX9_takeNumber 8 = .ok (.if_icmp .ge 55, 3) := by decide +kernel
theorem dX9_takeNumber_11 : decode cX9_takeNumber 11 = .ok (.aload_n 0, 1) := by decide +kernel
theorem dX9_takeNumber_12 : decode cX9_takeNumber 12 = .ok (.getfield 11, 3) := by decide +kernel
theorem dX9_takeNumber_15 : decode cX9_takeNumber 15 = .ok (.aload_n 0, 1) := by decide +kernel
theorem dX9_takeNumber_16 : decode cX9_takeNumber 16 = .ok (.getfield 19, 3) := by decide +kernel
theorem dX9_takeNumber_19 : decode cX9_takeNumber 19 = .ok (.baload, 1) := by decide +kernel
theorem dX9_takeNumber_20 : decode cX9_takeNumber 20 = .ok (.invokestatic 41, 3) := by decide +kernel
theorem dX9_takeNumber_23 : decode cX9_takeNumber 23 = .ok (.ifCond .eq 40, 3) := by decide +kernel
theorem dX9_takeNumber_26 : decode cX9_takeNumber 26 = .ok (.aload_n 0, 1) := by decide +kernel
theorem dX9_takeNumber_27 : decode cX9_takeNumber 27 = .ok (.aload_n 0, 1) := by decide +kernel
theorem dX9_takeNumber_28 : decode cX9_takeNumber 28 = .ok (.getfield 29, 3) := by decide +kernel
theorem dX9_takeNumber_31 : decode cX9_takeNumber 31 = .ok (.bipush 10, 2) := by decide +kernel
theorem dX9_takeNumber_33 : decode cX9_takeNumber 33 = .ok (.imul, 1) := by decide +kernel
theorem dX9_takeNumber_34 : decode cX9_takeNumber 34 = .ok (.aload_n 0, 1) := by decide +kernel
theorem dX9_takeNumber_35 : decode cX9_takeNumber 35 = .ok (.getfield 11, 3) := by decide +kernel
theorem dX9_takeNumber_38 : decode cX9_takeNumber 38 = .ok (.aload_n 0, 1) := by decide +kernel
theorem dX9_takeNumber_39 : decode cX9_takeNumber 39 = .ok (.getfield 19, 3) := by decide +kernel
theorem dX9_takeNumber_42 : decode cX9_takeNumber 42 = .ok (.baload, 1) := by decide +kernel
theorem dX9_takeNumber_43 : decode cX9_takeNumber 43 = .ok (.iadd, 1) := by decide +kernel
theorem dX9_takeNumber_44 : decode cX9_takeNumber 44 = .ok (.bipush 48, 2) := by decide +kernel
theorem dX9_takeNumber_46 : decode cX9_takeNumber 46 = .ok (.isub, 1) := by decide +kernel
theorem dX9_takeNumber_47 : decode cX9_takeNumber 47 = .ok (.putfield 29, 3) := by decide +kernel
theorem dX9_takeNumber_50 : decode cX9_takeNumber 50 = .ok (.aload_n 0, 1) := by decide +kernel
theorem dX9_takeNumber_51 : decode cX9_takeNumber 51 = .ok (.dup, 1) := by decide +kernel
theorem dX9_takeNumber_52 : decode cX9_takeNumber 52 = .ok (.getfield 19, 3) := by decide +kernel
theorem dX9_takeNumber_55 : decode cX9_takeNumber 55 = .ok (.iconst 1, 1) := by decide +kernel
theorem dX9_takeNumber_56 : decode cX9_takeNumber 56 = .ok (.iadd, 1) := by decide +kernel
theorem dX9_takeNumber_57 : decode cX9_takeNumber 57 = .ok (.putfield 19, 3) := by decide +kernel
theorem dX9_takeNumber_60 : decode cX9_takeNumber 60 = .ok (.goto (-60), 3) := by decide +kernel
theorem dX9_takeNumber_63 : decode cX9_takeNumber 63 = .ok (.aload_n 0, 1) := by decide +kernel
theorem dX9_takeNumber_64 : decode cX9_takeNumber 64 = .ok (.aload_n 0, 1) := by decide +kernel
theorem dX9_takeNumber_65 : decode cX9_takeNumber 65 = .ok (.getfield 19, 3) := by decide +kernel
theorem dX9_takeNumber_68 : decode cX9_takeNumber 68 = .ok (.aload_n 0, 1) := by decide +kernel
theorem dX9_takeNumber_69 : decode cX9_takeNumber 69 = .ok (.getfield 26, 3) := by decide +kernel
theorem dX9_takeNumber_72 : decode cX9_takeNumber 72 = .ok (.isub, 1) := by decide +kernel
theorem dX9_takeNumber_73 : decode cX9_takeNumber 73 = .ok (.iconst 4, 1) := by decide +kernel
theorem dX9_takeNumber_74 : decode cX9_takeNumber 74 = .ok (.if_icmp .gt 7, 3) := by decide +kernel
theorem dX9_takeNumber_77 : decode cX9_takeNumber 77 = .ok (.iconst 2, 1) := by decide +kernel
theorem dX9_takeNumber_78 : decode cX9_takeNumber 78 = .ok (.goto 4, 3) := by decide +kernel
theorem dX9_takeNumber_81 : decode cX9_takeNumber 81 = .ok (.iconst 5, 1) := by decide +kernel
theorem dX9_takeNumber_82 : decode cX9_takeNumber 82 = .ok (.putfield 32, 3) := by decide +kernel
theorem dX9_takeNumber_85 : decode cX9_takeNumber 85 = .ok (.return_, 1) := by decide +kernel
set_option maxRecDepth 20000 in
theorem sX9_takeNumber_0 {P : Option Value → AH → Prop} (h : AH) (r0 : Nat) (hf : (isO h 9 r0) ∧ (((gI h r0 2) ≤ (gI h r0 1) → ∀ z4 : Int32, z4 = (if 4 < ((gI h r0 1) - (gI h r0 4)) then 5 else 2) → (P none (sI h r0 3 z4))) ∧ (¬ (gI h r0 2) ≤ (gI h r0 1) → (isA h 2 (gF h r0 0)) ∧ ((vp_in (gI h r0 1) (ln (gF h r0 0))) ∧ ((¬ (¬ (gI h (gF h r0 0) (gI h r0 1).toNatClampNeg) < 48 ∧ ¬ 57 < (gI h (gF h r0 0) (gI h r0 1).toNatClampNeg)) → ∀ z9 : Int32, z9 = (if 4 < ((gI h r0 1) - (gI h r0 4)) then 5 else 2) → (P none (sI h r0 3 z9))) ∧ ((¬ (gI h (gF h r0 0) (gI h r0 1).toNatClampNeg) < 48 ∧ ¬ 57 < (gI h (gF h r0 0) (gI h r0 1).toNatClampNeg)) → Rr mX9_takeNumber 0 0 0 [(0, .ref r0)] [] (sI (sI h r0 5 ((((gI h r0 5) * 10) + (gI h (gF h r0 0) (gI h r0 1).toNatClampNeg)) - 48)) r0 1 ((gI h r0 1) + 1)) P)))))) : Rr mX9_takeNumber 0 0 0 [(0, .ref r0)] [] h P := by
  refine R_aload_n dX9_takeNumber_0 rfl 0 rfl ?_
  obtain ⟨ob1, hf⟩ := hf
  refine G9_1 dX9_takeNumber_1 lfX9_19 ob1 ?_
  refine R_aload_n dX9_takeNumber_4 rfl 0 rfl ?_
  refine G9_2 dX9_takeNumber_5 lfX9_15 ob1 ?_
  refine R_icmp_ge (tgt := 63) dX9_takeNumber_8 (by decide) (fun b2 => ?_) (fun b2 => ?_)
  · have hf := hf.1 b2
    refine R_aload_n dX9_takeNumber_63 rfl 0 rfl ?_
    refine R_aload_n dX9_takeNumber_64 rfl 0 rfl ?_
    refine G9_1 dX9_takeNumber_65 lfX9_19 ob1 ?_
    refine R_aload_n dX9_takeNumber_68 rfl 0 rfl ?_
    refine G9_4 dX9_takeNumber_69 lfX9_26 ob1 ?_
    refine R_isub dX9_takeNumber_72 ?_
    refine R_iconst (v := 4) dX9_takeNumber_73 (by decide) ?_
    have key : ∀ z4 : Int32, z4 = (if 4 < ((gI h r0 1) - (gI h r0 4)) then 5 else 2) → Rr mX9_takeNumber 0 0 82 [] [.int z4, .ref r0] h P := by
      intro z4 ez4
      have hf := hf z4 ez4
      refine S9_3 dX9_takeNumber_82 lfX9_32 ob1 ?_
      exact R_ret dX9_takeNumber_85 rfl hf
    refine R_icmp_gt (tgt := 81) dX9_takeNumber_74 (by decide) (fun b3 => ?_) (fun b3 => ?_)
    · refine R_iconst (v := 5) dX9_takeNumber_81 (by decide) ?_
      exact R_sub [] rfl (key _ (by rw [if_pos b3]))
    · refine R_iconst (v := 2) dX9_takeNumber_77 (by decide) ?_
      refine R_goto (tgt := 82) dX9_takeNumber_78 (by decide) ?_
      exact R_sub [] rfl (key _ (by rw [if_neg b3]))
  · have hf := hf.2 b2
    refine R_aload_n dX9_takeNumber_11 rfl 0 rfl ?_
    refine G9_0 dX9_takeNumber_12 lfX9_11 ob1 ?_
    refine R_aload_n dX9_takeNumber_15 rfl 0 rfl ?_
    refine G9_1 dX9_takeNumber_16 lfX9_19 ob1 ?_
    obtain ⟨ob5, hf⟩ := hf
    obtain ⟨ob6, hf⟩ := hf
    refine R_baload dX9_takeNumber_19 ob5 ob6 ?_
    refine R_callS (N := mX9_isDigit) (as := [.int (gI h (gF h r0 0) (gI h r0 1).toNatClampNeg)]) (rest := []) (kc2 := 0) (ks2 := 0) dX9_takeNumber_20 lmX9_41 oX9_isDigit (Nat.le_of_ble_eq_true rfl) rfl rfl (Nat.le_of_ble_eq_true rfl) rfl rfl (aX9_isDigit  ?_)
    refine R_if_eq_b (tgt := 63) dX9_takeNumber_23 (by decide) (fun b7 => ?_) (fun b7 => ?_)
    · have hf := hf.1 b7
      refine R_aload_n dX9_takeNumber_63 rfl 0 rfl ?_
      refine R_aload_n dX9_takeNumber_64 rfl 0 rfl ?_
      refine G9_1 dX9_takeNumber_65 lfX9_19 ob1 ?_
      refine R_aload_n dX9_takeNumber_68 rfl 0 rfl ?_
      refine G9_4 dX9_takeNumber_69 lfX9_26 ob1 ?_
      refine R_isub dX9_takeNumber_72 ?_
      refine R_iconst (v := 4) dX9_takeNumber_73 (by decide) ?_
      have key : ∀ z9 : Int32, z9 = (if 4 < ((gI h r0 1) - (gI h r0 4)) then 5 else 2) → Rr mX9_takeNumber 0 0 82 [] [.int z9, .ref r0] h P := by
        intro z9 ez9
        have hf := hf z9 ez9
        refine S9_3 dX9_takeNumber_82 lfX9_32 ob1 ?_
        exact R_ret dX9_takeNumber_85 rfl hf
      refine R_icmp_gt (tgt := 81) dX9_takeNumber_74 (by decide) (fun b8 => ?_) (fun b8 => ?_)
      · refine R_iconst (v := 5) dX9_takeNumber_81 (by decide) ?_
        exact R_sub [] rfl (key _ (by rw [if_pos b8]))
      · refine R_iconst (v := 2) dX9_takeNumber_77 (by decide) ?_
        refine R_goto (tgt := 82) dX9_takeNumber_78 (by decide) ?_
        exact R_sub [] rfl (key _ (by rw [if_neg b8]))
    · have hf := hf.2 b7
      refine R_aload_n dX9_takeNumber_26 rfl 0 rfl ?_
      refine R_aload_n dX9_takeNumber_27 rfl 0 rfl ?_
      refine G9_5 dX9_takeNumber_28 lfX9_29 ob1 ?_
      refine R_bipush (v := 10) dX9_takeNumber_31 (by decide) ?_
      refine R_imul dX9_takeNumber_33 ?_
      refine R_aload_n dX9_takeNumber_34 rfl 0 rfl ?_
      refine G9_0 dX9_takeNumber_35 lfX9_11 ob1 ?_
      refine R_aload_n dX9_takeNumber_38 rfl 0 rfl ?_
      refine G9_1 dX9_takeNumber_39 lfX9_19 ob1 ?_
      refine R_baload dX9_takeNumber_42 ob5 ob6 ?_
      refine R_iadd dX9_takeNumber_43 ?_
      refine R_bipush (v := 48) dX9_takeNumber_44 (by decide) ?_
      refine R_isub dX9_takeNumber_46 ?_
      refine S9_5 dX9_takeNumber_47 lfX9_29 ob1 ?_
      refine R_aload_n dX9_takeNumber_50 rfl 0 rfl ?_
      refine R_dup dX9_takeNumber_51 rfl ?_
      refine G9_1 dX9_takeNumber_52 lfX9_19 ob1 ?_
      refine R_eqI (y := gI h r0 1) (rd_k (by decide)) ?_
      refine R_iconst (v := 1) dX9_takeNumber_55 (by decide) ?_
      refine R_iadd dX9_takeNumber_56 ?_
      refine S9_1 dX9_takeNumber_57 lfX9_19 ob1 ?_
      refine R_goto (tgt := 0) dX9_takeNumber_60 (by decide) ?_
      exact R_sub [0] rfl hf
theorem dX9_takeWord_0 : decode cX9_takeWord 0 = .ok (.aload_n 0, 1) := by decide +kernel
theorem dX9_takeWord_1 : decode cX9_takeWord 1 = .ok (.getfield 19, 3) := by decide +kernel
theorem dX9_takeWord_4 : decode cX9_takeWord 4 = .ok (.aload_n 0, 1) := by decide +kernel
theorem dX9_takeWord_5 : decode cX9_takeWord 5 = .ok (.getfield 15, 3) := by decide +kernel
theorem dX9_takeWord_8 : decode cX9_takeWord 8 = .ok (.if_icmp .ge 31, 3) := by decide +kernel
theorem dX9_takeWord_11 : decode cX9_takeWord 11 = .ok (.aload_n 0, 1) := by decide +kernel
theorem dX9_takeWord_12 : decode cX9_takeWord 12 = .ok (.getfield 11, 3) := by decide +kernel
theorem dX9_takeWord_15 : decode cX9_takeWord 15 = .ok (.aload_n 0, 1) := by decide +kernel
theorem dX9_takeWord_16 : decode cX9_takeWord 16 = .ok (.getfield 19, 3) := by decide +kernel
theorem dX9_takeWord_19 : decode cX9_takeWord 19 = .ok (.baload, 1) := by decide +kernel
theorem dX9_takeWord_20 : decode cX9_takeWord 20 = .ok (.invokestatic 35, 3) := by decide +kernel
theorem dX9_takeWord_23 : decode cX9_takeWord 23 = .ok (.ifCond .eq 16, 3) := by decide +kernel
theorem dX9_takeWord_26 : decode cX9_takeWord 26 = .ok (.aload_n 0, 1) := by decide +kernel
theorem dX9_takeWord_27 : decode cX9_takeWord 27 = .ok (.dup, 1) := by decide +kernel
theorem dX9_takeWord_28 : decode cX9_takeWord 28 = .ok (.getfield 19, 3) := by decide +kernel
theorem dX9_takeWord_31 : decode cX9_takeWord 31 = .ok (.iconst 1, 1) := by decide +kernel
theorem dX9_takeWord_32 : decode cX9_takeWord 32 = .ok (.iadd, 1) := by decide +kernel
theorem dX9_takeWord_33 : decode cX9_takeWord 33 = .ok (.putfield 19, 3) := by decide +kernel
theorem dX9_takeWord_36 : decode cX9_takeWord 36 = .ok (.goto (-36), 3) := by decide +kernel
theorem dX9_takeWord_39 : decode cX9_takeWord 39 = .ok (.aload_n 0, 1) := by decide +kernel
theorem dX9_takeWord_40 : decode cX9_takeWord 40 = .ok (.aload_n 0, 1) := by decide +kernel
theorem dX9_takeWord_41 : decode cX9_takeWord 41 = .ok (.getfield 19, 3) := by decide +kernel
theorem dX9_takeWord_44 : decode cX9_takeWord 44 = .ok (.aload_n 0, 1) := by decide +kernel
theorem dX9_takeWord_45 : decode cX9_takeWord 45 = .ok (.getfield 26, 3) := by decide +kernel
theorem dX9_takeWord_48 : decode cX9_takeWord 48 = .ok (.isub, 1) := by decide +kernel
theorem dX9_takeWord_49 : decode cX9_takeWord 49 = .ok (.bipush 8, 2) := by decide +kernel
theorem dX9_takeWord_51 : decode cX9_takeWord 51 = .ok (.if_icmp .gt 7, 3) := by decide +kernel
theorem dX9_takeWord_54 : decode cX9_takeWord 54 = .ok (.iconst 1, 1) := by decide +kernel
theorem dX9_takeWord_55 : decode cX9_takeWord 55 = .ok (.goto 4, 3) := by decide +kernel
theorem dX9_takeWord_58 : decode cX9_takeWord 58 = .ok (.iconst 5, 1) := by decide +kernel
theorem dX9_takeWord_59 : decode cX9_takeWord 59 = .ok (.putfield 32, 3) := by decide +kernel
theorem dX9_takeWord_62 : decode cX9_takeWord 62 = .ok (.return_, 1) := by decide +kernel
set_option maxRecDepth 20000 in
theorem sX9_takeWord_0 {P : Option Value → AH → Prop} (h : AH) (r0 : Nat) (hf : (isO h 9 r0) ∧ (((gI h r0 2) ≤ (gI h r0 1) → ∀ z4 : Int32, z4 = (if 8 < ((gI h r0 1) - (gI h r0 4)) then 5 else 1) → (P none (sI h r0 3 z4))) ∧ (¬ (gI h r0 2) ≤ (gI h r0 1) → (isA h 2 (gF h r0 0)) ∧ ((vp_in (gI h r0 1) (ln (gF h r0 0))) ∧ ((¬ (¬ (gI h (gF h r0 0) (gI h r0 1).toNatClampNeg) < 97 ∧ ¬ 122 < (gI h (gF h r0 0) (gI h r0 1).toNatClampNeg)) → ∀ z9 : Int32, z9 = (if 8 < ((gI h r0 1) - (gI h r0 4)) then 5 else 1) → (P none (sI h r0 3 z9))) ∧ ((¬ (gI h (gF h r0 0) (gI h r0 1).toNatClampNeg) < 97 ∧ ¬ 122 < (gI h (gF h r0 0) (gI h r0 1).toNatClampNeg)) → Rr mX9_takeWord 0 0 0 [(0, .ref r0)] [] (sI h r0 1 ((gI h r0 1) + 1)) P)))))) : Rr mX9_takeWord 0 0 0 [(0, .ref r0)] [] h P := by
  refine R_aload_n dX9_takeWord_0 rfl 0 rfl ?_
  obtain ⟨ob1, hf⟩ := hf
  refine G9_1 dX9_takeWord_1 lfX9_19 ob1 ?_
  refine R_aload_n dX9_takeWord_4 rfl 0 rfl ?_
  refine G9_2 dX9_takeWord_5 lfX9_15 ob1 ?_
  refine R_icmp_ge (tgt := 39) dX9_takeWord_8 (by decide) (fun b2 => ?_) (fun b2 => ?_)
  · have hf := hf.1 b2
    refine R_aload_n dX9_takeWord_39 rfl 0 rfl ?_
    refine R_aload_n dX9_takeWord_40 rfl 0 rfl ?_
    refine G9_1 dX9_takeWord_41 lfX9_19 ob1 ?_
    refine R_aload_n dX9_takeWord_44 rfl 0 rfl ?_
    refine G9_4 dX9_takeWord_45 lfX9_26 ob1 ?_
    refine R_isub dX9_takeWord_48 ?_
    refine R_bipush (v := 8) dX9_takeWord_49 (by decide) ?_
    have key : ∀ z4 : Int32, z4 = (if 8 < ((gI h r0 1) - (gI h r0 4)) then 5 else 1) → Rr mX9_takeWord 0 0 59 [] [.int z4, .ref r0] h P := by
      intro z4 ez4
      have hf := hf z4 ez4
      refine S9_3 dX9_takeWord_59 lfX9_32 ob1 ?_
      exact R_ret dX9_takeWord_62 rfl hf
    refine R_icmp_gt (tgt := 58) dX9_takeWord_51 (by decide) (fun b3 => ?_) (fun b3 => ?_)
    · refine R_iconst (v := 5) dX9_takeWord_58 (by decide) ?_
      exact R_sub [] rfl (key _ (by rw [if_pos b3]))
    · refine R_iconst (v := 1) dX9_takeWord_54 (by decide) ?_
      refine R_goto (tgt := 59) dX9_takeWord_55 (by decide) ?_
      exact R_sub [] rfl (key _ (by rw [if_neg b3]))
  · have hf := hf.2 b2
    refine R_aload_n dX9_takeWord_11 rfl 0 rfl ?_
    refine G9_0 dX9_takeWord_12 lfX9_11 ob1 ?_
    refine R_aload_n dX9_takeWord_15 rfl 0 rfl ?_
    refine G9_1 dX9_takeWord_16 lfX9_19 ob1 ?_
    obtain ⟨ob5, hf⟩ := hf
    obtain ⟨ob6, hf⟩ := hf
    refine R_baload dX9_takeWord_19 ob5 ob6 ?_
    refine R_callS (N := mX9_isLetter) (as := [.int (gI h (gF h r0 0) (gI h r0 1).toNatClampNeg)]) (rest := []) (kc2 := 0) (ks2 := 0) dX9_takeWord_20 lmX9_35 oX9_isLetter (Nat.le_of_ble_eq_true rfl) rfl rfl (Nat.le_of_ble_eq_true rfl) rfl rfl (aX9_isLetter  ?_)
    refine R_if_eq_b (tgt := 39) dX9_takeWord_23 (by decide) (fun b7 => ?_) (fun b7 => ?_)
    · have hf := hf.1 b7
      refine R_aload_n dX9_takeWord_39 rfl 0 rfl ?_
      refine R_aload_n dX9_takeWord_40 rfl 0 rfl ?_
      refine G9_1 dX9_takeWord_41 lfX9_19 ob1 ?_
      refine R_aload_n dX9_takeWord_44 rfl 0 rfl ?_
      refine G9_4 dX9_takeWord_45 lfX9_26 ob1 ?_
      refine R_isub dX9_takeWord_48 ?_
      refine R_bipush (v := 8) dX9_takeWord_49 (by decide) ?_
      have key : ∀ z9 : Int32, z9 = (if 8 < ((gI h r0 1) - (gI h r0 4)) then 5 else 1) → Rr mX9_takeWord 0 0 59 [] [.int z9, .ref r0] h P := by
        intro z9 ez9
        have hf := hf z9 ez9
        refine S9_3 dX9_takeWord_59 lfX9_32 ob1 ?_
        exact R_ret dX9_takeWord_62 rfl hf
      refine R_icmp_gt (tgt := 58) dX9_takeWord_51 (by decide) (fun b8 => ?_) (fun b8 => ?_)
      · refine R_iconst (v := 5) dX9_takeWord_58 (by decide) ?_
        exact R_sub [] rfl (key _ (by rw [if_pos b8]))
      · refine R_iconst (v := 1) dX9_takeWord_54 (by decide) ?_
        refine R_goto (tgt := 59) dX9_takeWord_55 (by decide) ?_
        exact R_sub [] rfl (key _ (by rw [if_neg b8]))
    · have hf := hf.2 b7
      refine R_aload_n dX9_takeWord_26 rfl 0 rfl ?_
      refine R_dup dX9_takeWord_27 rfl ?_
      refine G9_1 dX9_takeWord_28 lfX9_19 ob1 ?_
      refine R_iconst (v := 1) dX9_takeWord_31 (by decide) ?_
      refine R_iadd dX9_takeWord_32 ?_
      refine S9_1 dX9_takeWord_33 lfX9_19 ob1 ?_
      refine R_goto (tgt := 0) dX9_takeWord_36 (by decide) ?_
      exact R_sub [0] rfl hf
theorem dX10_lightest_0 : decode cX10_lightest 0 = .ok (.aload_n 0, 1) := by decide +kernel
theorem dX10_lightest_1 : decode cX10_lightest 1 = .ok (.getfield 15, 3) := by decide +kernel
theorem dX10_lightest_4 : decode cX10_lightest 4 = .ok (.iload_n 1, 1) := by decide +kernel
theorem dX10_lightest_5 : decode cX10_lightest 5 = .ok (.iaload, 1) := by decide +kernel
theorem dX10_lightest_6 : decode cX10_lightest 6 = .ok (.istore_n 3, 1) := by decide +kernel
theorem dX10_lightest_7 : decode cX10_lightest 7 = .ok (.aload_n 0, 1) := by decide +kernel
theorem dX10_lightest_8 : decode cX10_lightest 8 = .ok (.getfield 15, 3) := by decide +kernel
theorem dX10_lightest_11 : decode cX10_lightest 11 = .ok (.iload_n 1, 1) := by decide +kernel
theorem dX10_lightest_12 : decode cX10_lightest 12 = .ok (.iaload, 1) := by decide +kernel
theorem dX10_lightest_13 : decode cX10_lightest 13 = .ok (.iconst 1, 1) := by decide +kernel
theorem dX10_lightest_14 : decode cX10_lightest 14 = .ok (.iadd, 1) := by decide +kernel
theorem dX10_lightest_15 : decode cX10_lightest 15 = .ok (.istore 4, 2) := by decide +kernel
theorem dX10_lightest_17 : decode cX10_lightest 17 = .ok (.iload 4, 2) := by decide +kernel
theorem dX10_lightest_19 : decode cX10_lightest 19 = .ok (.aload_n 0, 1) := by decide +kernel
theorem dX10_lightest_20 : decode cX10_lightest 20 = .ok (.getfield 18, 3) := by decide +kernel
theorem dX10_lightest_23 : decode cX10_lightest 23 = .ok (.iload_n 1, 1) := by decide +kernel
theorem dX10_lightest_24 : decode cX10_lightest 24 = .ok (.iaload, 1) := by decide +kernel
theorem dX10_lightest_25 : decode cX10_lightest 25 = .ok (.if_icmp .gt 30, 3) := by decide +kernel
theorem dX10_lightest_28 : decode cX10_lightest 28 = .ok (.aload_n 0, 1) := by decide +kernel
theorem dX10_lightest_29 : decode cX10_lightest 29 = .ok (.iload_n 1, 1) := by decide +kernel
theorem dX10_lightest_30 : decode cX10_lightest 30 = .ok (.iload_n 2, 1) := by decide +kernel
theorem dX10_lightest_31 : decode cX10_lightest 31 = .ok (.iload 4, 2) := by decide +kernel
theorem dX10_lightest_33 : decode cX10_lightest 33 = .ok (.invokevirtual 48, 3) := by decide +kernel
theorem dX10_lightest_36 : decode cX10_lightest 36 = .ok (.aload_n 0, 1) := by decide +kernel
theorem dX10_lightest_37 : decode cX10_lightest 37 = .ok (.iload_n 1, 1) := by decide +kernel
theorem dX10_lightest_38 : decode cX10_lightest 38 = .ok (.iload_n 2, 1) := by decide +kernel
theorem dX10_lightest_39 : decode cX10_lightest 39 = .ok (.iload_n 3, 1) := by decide +kernel
theorem dX10_lightest_40 : decode cX10_lightest 40 = .ok (.invokevirtual 48, 3) := by decide +kernel
theorem dX10_lightest_43 : decode cX10_lightest 43 = .ok (.if_icmp .ge 6, 3) := by decide +kernel
theorem dX10_lightest_46 : decode cX10_lightest 46 = .ok (.iload 4, 2) := by decide +kernel
theorem dX10_lightest_48 : decode cX10_lightest 48 = .ok (.istore_n 3, 1) := by decide +kernel
theorem dX10_lightest_49 : decode cX10_lightest 49 = .ok (.iinc 4 1, 3) := by decide +kernel
theorem dX10_lightest_52 : decode cX10_lightest 52 = .ok (.goto (-35), 3) := by decide +kernel
theorem dX10_lightest_55 : decode cX10_lightest 55 = .ok (.iload_n 3, 1) := by decide +kernel
theorem dX10_lightest_56 : decode cX10_lightest 56 = .ok (.ireturn, 1) := by decide +kernel
set_option maxRecDepth 20000 in
theorem sX10_lightest_0 {P : Option Value → AH → Prop} (h : AH) (r0 : Nat) (x1 : Int32) (x2 : Int32) (hf : (isO h 10 r0) ∧ ((isA h 0 (gF h r0 1)) ∧ ((vp_in x1 (ln (gF h r0 1))) ∧ (Rr mX10_lightest 0 0 17 [(0, .ref r0), (1, .int x1), (2, .int x2), (3, .int (gI h (gF h r0 1) x1.toNatClampNeg)), (4, .int ((gI h (gF h r0 1) x1.toNatClampNeg) + 1))] [] h P)))) : Rr mX10_lightest 0 0 0 [(0, .ref r0), (1, .int x1), (2, .int x2)] [] h P := by
  refine R_aload_n dX10_lightest_0 rfl 0 rfl ?_
  obtain ⟨ob1, hf⟩ := hf
  refine G10_1 dX10_lightest_1 lfX10_15 ob1 ?_
  refine R_iload_n dX10_lightest_4 rfl 1 rfl ?_
  obtain ⟨ob2, hf⟩ := hf
  obtain ⟨ob3, hf⟩ := hf
  refine R_iaload dX10_lightest_5 ob2 ob3 ?_
  refine R_istore_n dX10_lightest_6 rfl (by decide) rfl ?_
  refine R_aload_n dX10_lightest_7 rfl 1 rfl ?_
  refine G10_1 dX10_lightest_8 lfX10_15 ob1 ?_
  refine R_iload_n dX10_lightest_11 rfl 2 rfl ?_
  refine R_iaload dX10_lightest_12 ob2 ob3 ?_
  refine R_iconst (v := 1) dX10_lightest_13 (by decide) ?_
  refine R_iadd dX10_lightest_14 ?_
  refine R_istore dX10_lightest_15 (by decide) rfl ?_
  exact R_sub [2, 3, 4, 1, 0] rfl hf
set_option maxRecDepth 20000 in
theorem sX10_lightest_17 {P : Option Value → AH → Prop} (h : AH) (r0 : Nat) (x1 : Int32) (x2 : Int32) (x3 : Int32) (x4 : Int32) (hf : (isO h 10 r0) ∧ ((isA h 0 (gF h r0 2)) ∧ ((vp_in x1 (ln (gF h r0 2))) ∧ (((gI h (gF h r0 2) x1.toNatClampNeg) < x4 → P (some (.int x3)) h) ∧ (¬ (gI h (gF h r0 2) x1.toNatClampNeg) < x4 → (isA h 4 (gF h r0 3)) ∧ ((vp_in (x1 + 1) (ln (gF h r0 3))) ∧ ((isA h 0 (gF h (gF h r0 3) (x1 + 1).toNatClampNeg)) ∧ ((vp_in x4 (ln (gF h (gF h r0 3) (x1 + 1).toNatClampNeg))) ∧ ((vp_in x3 (ln (gF h (gF h r0 3) (x1 + 1).toNatClampNeg))) ∧ (∀ z11 : Int32, z11 = (if (((1000 * (imax (x3 - x2) 0)) + x3) + (gI h (gF h (gF h r0 3) (x1 + 1).toNatClampNeg) x3.toNatClampNeg)) ≤ (((1000 * (imax (x4 - x2) 0)) + x4) + (gI h (gF h (gF h r0 3) (x1 + 1).toNatClampNeg) x4.toNatClampNeg)) then x3 else x4) → (Rr mX10_lightest 0 0 17 [(0, .ref r0), (1, .int x1), (2, .int x2), (3, .int z11), (4, .int (x4 + 1))] [] h P))))))))))) : Rr mX10_lightest 0 0 17 [(0, .ref r0), (1, .int x1), (2, .int x2), (3, .int x3), (4, .int x4)] [] h P := by
  refine R_iload dX10_lightest_17 4 rfl ?_
  refine R_aload_n dX10_lightest_19 rfl 0 rfl ?_
  obtain ⟨ob1, hf⟩ := hf
  refine G10_2 dX10_lightest_20 lfX10_18 ob1 ?_
  refine R_iload_n dX10_lightest_23 rfl 1 rfl ?_
  obtain ⟨ob2, hf⟩ := hf
  obtain ⟨ob3, hf⟩ := hf
  refine R_iaload dX10_lightest_24 ob2 ob3 ?_
  refine R_icmp_gt (tgt := 55) dX10_lightest_25 (by decide) (fun b4 => ?_) (fun b4 => ?_)
  · have hf := hf.1 b4
    refine R_iload_n dX10_lightest_55 rfl 3 rfl ?_
    exact R_iret dX10_lightest_56 rfl rfl hf
  · have hf := hf.2 b4
    refine R_aload_n dX10_lightest_28 rfl 0 rfl ?_
    refine R_iload_n dX10_lightest_29 rfl 1 rfl ?_
    refine R_iload_n dX10_lightest_30 rfl 2 rfl ?_
    refine R_iload dX10_lightest_31 4 rfl ?_
    obtain ⟨ob5, hf⟩ := hf
    obtain ⟨ob6, hf⟩ := hf
    obtain ⟨ob7, hf⟩ := hf
    obtain ⟨ob8, hf⟩ := hf
    refine R_callV (ci := 10) (N := mX10_weight) (as := [.int x1, .int x2, .int x4]) (rest := []) (kc2 := 0) (ks2 := 0) dX10_lightest_33 lmX10_48 oX10_weight (Nat.le_of_ble_eq_true rfl) rfl rfl (Nat.le_of_ble_eq_true rfl) rfl rfl ob1 ok10 (aX10_weight ob1 ob5 ob6 ob7 ob8 ?_)
    refine R_aload_n dX10_lightest_36 rfl 0 rfl ?_
    refine R_iload_n dX10_lightest_37 rfl 1 rfl ?_
    refine R_iload_n dX10_lightest_38 rfl 2 rfl ?_
    refine R_iload_n dX10_lightest_39 rfl 3 rfl ?_
    obtain ⟨ob9, hf⟩ := hf
    refine R_callV (ci := 10) (N := mX10_weight) (as := [.int x1, .int x2, .int x3]) (rest := [.int (((1000 * (imax (x4 - x2) 0)) + x4) + (gI h (gF h (gF h r0 3) (x1 + 1).toNatClampNeg) x4.toNatClampNeg))]) (kc2 := 0) (ks2 := 0) dX10_lightest_40 lmX10_48 oX10_weight (Nat.le_of_ble_eq_true rfl) rfl rfl (Nat.le_of_ble_eq_true rfl) rfl rfl ob1 ok10 (aX10_weight ob1 ob5 ob6 ob7 ob9 ?_)
    have key : ∀ z11 : Int32, z11 = (if (((1000 * (imax (x3 - x2) 0)) + x3) + (gI h (gF h (gF h r0 3) (x1 + 1).toNatClampNeg) x3.toNatClampNeg)) ≤ (((1000 * (imax (x4 - x2) 0)) + x4) + (gI h (gF h (gF h r0 3) (x1 + 1).toNatClampNeg) x4.toNatClampNeg)) then x3 else x4) → Rr mX10_lightest 0 0 49 [(0, .ref r0), (1, .int x1), (2, .int x2), (3, .int z11), (4, .int x4)] [] h P := by
      intro z11 ez11
      have hf := hf z11 ez11
      refine R_iinc (v := x4 + 1) dX10_lightest_49 4 rfl rfl (by decide) rfl ?_
      refine R_goto (tgt := 17) dX10_lightest_52 (by decide) ?_
      exact R_sub [1, 2, 3, 4, 0] rfl hf
    refine R_icmp_ge (tgt := 49) dX10_lightest_43 (by decide) (fun b10 => ?_) (fun b10 => ?_)
    · exact R_sub [0, 1, 2, 3, 4] rfl (key _ (by rw [if_pos b10]))
    · refine R_iload dX10_lightest_46 4 rfl ?_
      refine R_istore_n dX10_lightest_48 rfl (by decide) rfl ?_
      exact R_sub [1, 2, 3, 0, 4] rfl (key _ (by rw [if_neg b10]))
theorem dX11_beat_0 : decode cX11_beat 0 = .ok (.aload_n 0, 1) := by decide +kernel
theorem dX11_beat_1 : decode cX11_beat 1 = .ok (.getfield 24, 3) := by decide +kernel
theorem dX11_beat_4 : decode cX11_beat 4 = .ok (.getfield 141, 3) := by decide +kernel
theorem dX11_beat_7 : decode cX11_beat 7 = .ok (.astore_n 3, 1) := by decide +kernel
theorem dX11_beat_8 : decode cX11_beat 8 = .ok (.aload_n 3, 1) := by decide +kernel
theorem dX11_beat_9 : decode cX11_beat 9 = .ok (.iload_n 1, 1) := by decide +kernel
theorem dX11_beat_10 : decode cX11_beat 10 = .ok (.invokevirtual 366, 3) := by decide +kernel
theorem dX11_beat_13 : decode cX11_beat 13 = .ok (.ifCond .eq 20, 3) := by decide +kernel
theorem dX11_beat_16 : decode cX11_beat 16 = .ok (.aload_n 3, 1) := by decide +kernel
theorem dX11_beat_17 : decode cX11_beat 17 = .ok (.iload_n 2, 1) := by decide +kernel
theorem dX11_beat_18 : decode cX11_beat 18 = .ok (.invokevirtual 366, 3) := by decide +kernel
theorem dX11_beat_21 : decode cX11_beat 21 = .ok (.ifCond .eq 12, 3) := by decide +kernel
theorem dX11_beat_24 : decode cX11_beat 24 = .ok (.aload_n 3, 1) := by decide +kernel
theorem dX11_beat_25 : decode cX11_beat 25 = .ok (.iload_n 1, 1) := by decide +kernel
theorem dX11_beat_26 : decode cX11_beat 26 = .ok (.iload_n 2, 1) := by decide +kernel
theorem dX11_beat_27 : decode cX11_beat 27 = .ok (.invokevirtual 369, 3) := by decide +kernel
theorem dX11_beat_30 : decode cX11_beat 30 = .ok (.goto 5, 3) := by decide +kernel
theorem dX11_beat_33 : decode cX11_beat 33 = .ok (.bipush (-2), 2) := by decide +kernel
theorem dX11_beat_35 : decode cX11_beat 35 = .ok (.ireturn, 1) := by decide +kernel
set_option maxRecDepth 20000 in
theorem sX11_beat_0 {P : Option Value → AH → Prop} (h : AH) (r0 : Nat) (x1 : Int32) (x2 : Int32) (hf : (isO h 11 r0) ∧ ((isO h 3 (gF h r0 2)) ∧ ((isO h 8 (gF h (gF h r0 2) 14)) ∧ ((¬ (¬ x1 < 0 ∧ ¬ (gI h (gF h (gF h r0 2) 14) 0) ≤ x1) → P (some (.int (-2))) h) ∧ ((¬ x1 < 0 ∧ ¬ (gI h (gF h (gF h r0 2) 14) 0) ≤ x1) → (¬ (¬ x2 < 0 ∧ ¬ (gI h (gF h (gF h r0 2) 14) 0) ≤ x2) → P (some (.int (-2))) h) ∧ ((¬ x2 < 0 ∧ ¬ (gI h (gF h (gF h r0 2) 14) 0) ≤ x2) → Call mX8_beatOf [.ref (gF h (gF h r0 2) 14), .int x1, .int x2] h (fun v h6 => ∃ z7 : Int32, v = some (.int z7) ∧ (P (some (.int z7)) h6)))))))) : Rr mX11_beat 0 0 0 [(0, .ref r0), (1, .int x1), (2, .int x2)] [] h P := by
  refine R_aload_n dX11_beat_0 rfl 0 rfl ?_
  obtain ⟨ob1, hf⟩ := hf
  refine G11_2 dX11_beat_1 lfX11_24 ob1 ?_
  obtain ⟨ob2, hf⟩ := hf
  refine G3_14 dX11_beat_4 lfX11_141 ob2 ?_
  refine R_astore_n dX11_beat_7 rfl (by decide) rfl ?_
  refine R_aload_n dX11_beat_8 rfl 0 rfl ?_
  refine R_iload_n dX11_beat_9 rfl 2 rfl ?_
  obtain ⟨ob3, hf⟩ := hf
  refine R_callV (ci := 8) (N := mX8_isScreen) (as := [.int x1]) (rest := []) (kc2 := 0) (ks2 := 0) dX11_beat_10 lmX11_366 oX8_isScreen (Nat.le_of_ble_eq_true rfl) rfl rfl (Nat.le_of_ble_eq_true rfl) rfl rfl ob3 ok8 (aX8_isScreen ob3 ?_)
  refine R_if_eq_b (tgt := 33) dX11_beat_13 (by decide) (fun b4 => ?_) (fun b4 => ?_)
  · have hf := hf.1 b4
    refine R_bipush (v := (-2)) dX11_beat_33 (by decide) ?_
    exact R_iret dX11_beat_35 rfl rfl hf
  · have hf := hf.2 b4
    refine R_aload_n dX11_beat_16 rfl 0 rfl ?_
    refine R_iload_n dX11_beat_17 rfl 3 rfl ?_
    refine R_callV (ci := 8) (N := mX8_isScreen) (as := [.int x2]) (rest := []) (kc2 := 0) (ks2 := 0) dX11_beat_18 lmX11_366 oX8_isScreen (Nat.le_of_ble_eq_true rfl) rfl rfl (Nat.le_of_ble_eq_true rfl) rfl rfl ob3 ok8 (aX8_isScreen ob3 ?_)
    refine R_if_eq_b (tgt := 33) dX11_beat_21 (by decide) (fun b5 => ?_) (fun b5 => ?_)
    · have hf := hf.1 b5
      refine R_bipush (v := (-2)) dX11_beat_33 (by decide) ?_
      exact R_iret dX11_beat_35 rfl rfl hf
    · have hf := hf.2 b5
      refine R_aload_n dX11_beat_24 rfl 0 rfl ?_
      refine R_iload_n dX11_beat_25 rfl 2 rfl ?_
      refine R_iload_n dX11_beat_26 rfl 3 rfl ?_
      refine R_callV (ci := 8) (N := mX8_beatOf) (as := [.int x1, .int x2]) (rest := []) (kc2 := 0) (ks2 := 0) dX11_beat_27 lmX11_369 oX8_beatOf (Nat.le_of_ble_eq_true rfl) rfl rfl (Nat.le_of_ble_eq_true rfl) rfl rfl ob3 ok8 (Call.mono hf ?_)
      rintro _ h6 ⟨z7, rfl, hf⟩
      refine R_goto (tgt := 35) dX11_beat_30 (by decide) ?_
      exact R_iret dX11_beat_35 rfl rfl hf
theorem dX11_isDrift_0 : decode cX11_isDrift 0 = .ok (.bipush (-50), 2) := by decide +kernel
theorem dX11_isDrift_2 : decode cX11_isDrift 2 = .ok (.istore_n 3, 1) := by decide +kernel
theorem dX11_isDrift_3 : decode cX11_isDrift 3 = .ok (.iload_n 3, 1) := by decide +kernel
theorem dX11_isDrift_4 : decode cX11_isDrift 4 = .ok (.bipush 50, 2) := by decide +kernel
theorem dX11_isDrift_6 : decode cX11_isDrift 6 = .ok (.if_icmp .gt 26, 3) := by decide +kernel
theorem dX11_isDrift_9 : decode cX11_isDrift 9 = .ok (.iload_n 3, 1) := by decide +kernel
theorem dX11_isDrift_10 : decode cX11_isDrift 10 = .ok (.ifCond .eq 16, 3) := by decide +kernel
theorem dX11_isDrift_13 : decode cX11_isDrift 13 = .ok (.aload_n 0, 1) := by decide +kernel
theorem dX11_isDrift_14 : decode cX11_isDrift 14 = .ok (.iconst 0, 1) := by decide +kernel
theorem dX11_isDrift_15 : decode cX11_isDrift 15 = .ok (.iload_n 1, 1) := by decide +kernel
theorem dX11_isDrift_16 : decode cX11_isDrift 16 = .ok (.iload_n 3, 1) := by decide +kernel
theorem dX11_isDrift_17 : decode cX11_isDrift 17 = .ok (.invokevirtual 310, 3) := by decide +kernel
theorem dX11_isDrift_20 : decode cX11_isDrift 20 = .ok (.iload_n 2, 1) := by decide +kernel
theorem dX11_isDrift_21 : decode cX11_isDrift 21 = .ok (.if_icmp .gt 5, 3) := by decide +kernel
theorem dX11_isDrift_24 : decode cX11_isDrift 24 = .ok (.iconst 1, 1) := by decide +kernel
theorem dX11_isDrift_25 : decode cX11_isDrift 25 = .ok (.ireturn, 1) := by decide +kernel
theorem dX11_isDrift_26 : decode cX11_isDrift 26 = .ok (.iinc 3 1, 3) := by decide +kernel
theorem dX11_isDrift_29 : decode cX11_isDrift 29 = .ok (.goto (-26), 3) := by decide +kernel
theorem dX11_isDrift_32 : decode cX11_isDrift 32 = .ok (.iconst 0, 1) := by decide +kernel
theorem dX11_isDrift_33 : decode cX11_isDrift 33 = .ok (.ireturn, 1) := by decide +kernel
set_option maxRecDepth 20000 in
theorem sX11_isDrift_0 {P : Option Value → AH → Prop} (h : AH) (r0 : Nat) (x1 : Int32) (x2 : Int32) (hf : Rr mX11_isDrift 0 0 3 [(0, .ref r0), (1, .int x1), (2, .int x2), (3, .int (-50))] [] h P) : Rr mX11_isDrift 0 0 0 [(0, .ref r0), (1, .int x1), (2, .int x2)] [] h P := by
  refine R_bipush (v := (-50)) dX11_isDrift_0 (by decide) ?_
  refine R_istore_n dX11_isDrift_2 rfl (by decide) rfl ?_
  exact R_sub [1, 2, 3, 0] rfl hf
set_option maxRecDepth 20000 in
theorem sX11_isDrift_3 {P : Option Value → AH → Prop} (h : AH) (r0 : Nat) (x1 : Int32) (x2 : Int32) (x3 : Int32) (hf : (50 < x3 → P (some (.int 0)) h) ∧ (¬ 50 < x3 → (x3 = 0 → Rr mX11_isDrift 0 0 3 [(0, .ref r0), (1, .int x1), (2, .int x2), (3, .int (x3 + 1))] [] h P) ∧ (¬ x3 = 0 → (isO h 11 r0) ∧ (Call mX11_breadthOf [.ref r0, .int 0, .int x1, .int x3] h (fun v h4 => ∃ z5 : Int32, v = some (.int z5) ∧ ((x2 < z5 → Rr mX11_isDrift 0 0 3 [(0, .ref r0), (1, .int x1), (2, .int x2), (3, .int (x3 + 1))] [] h4 P) ∧ (¬ x2 < z5 → P (some (.int 1)) h4))))))) : Rr mX11_isDrift 0 0 3 [(0, .ref r0), (1, .int x1), (2, .int x2), (3, .int x3)] [] h P := by
  refine R_iload_n dX11_isDrift_3 rfl 3 rfl ?_
  refine R_bipush (v := 50) dX11_isDrift_4 (by decide) ?_
  refine R_icmp_gt (tgt := 32) dX11_isDrift_6 (by decide) (fun b1 => ?_) (fun b1 => ?_)
  · have hf := hf.1 b1
    refine R_iconst (v := 0) dX11_isDrift_32 (by decide) ?_
    exact R_iret dX11_isDrift_33 rfl rfl hf
  · have hf := hf.2 b1
    refine R_iload_n dX11_isDrift_9 rfl 3 rfl ?_
    refine R_if_eq (tgt := 26) dX11_isDrift_10 (by decide) (fun b2 => ?_) (fun b2 => ?_)
    · have hf := hf.1 b2
      refine R_iinc (v := x3 + 1) dX11_isDrift_26 3 rfl rfl (by decide) rfl ?_
      refine R_goto (tgt := 3) dX11_isDrift_29 (by decide) ?_
      exact R_sub [1, 2, 3, 0] rfl hf
    · have hf := hf.2 b2
      refine R_aload_n dX11_isDrift_13 rfl 0 rfl ?_
      refine R_iconst (v := 0) dX11_isDrift_14 (by decide) ?_
      refine R_iload_n dX11_isDrift_15 rfl 1 rfl ?_
      refine R_iload_n dX11_isDrift_16 rfl 3 rfl ?_
      obtain ⟨ob3, hf⟩ := hf
      refine R_callV (ci := 11) (N := mX11_breadthOf) (as := [.int 0, .int x1, .int x3]) (rest := []) (kc2 := 0) (ks2 := 0) dX11_isDrift_17 lmX11_310 oX11_breadthOf (Nat.le_of_ble_eq_true rfl) rfl rfl (Nat.le_of_ble_eq_true rfl) rfl rfl ob3 ok11 (Call.mono hf ?_)
      rintro _ h4 ⟨z5, rfl, hf⟩
      refine R_iload_n dX11_isDrift_20 rfl 2 rfl ?_
      refine R_icmp_gt (tgt := 26) dX11_isDrift_21 (by decide) (fun b6 => ?_) (fun b6 => ?_)
      · have hf := hf.1 b6
        refine R_iinc (v := x3 + 1) dX11_isDrift_26 3 rfl rfl (by decide) rfl ?_
        refine R_goto (tgt := 3) dX11_isDrift_29 (by decide) ?_
        exact R_sub [1, 2, 3, 0] rfl hf
      · have hf := hf.2 b6
        refine R_iconst (v := 1) dX11_isDrift_24 (by decide) ?_
        exact R_iret dX11_isDrift_25 rfl rfl hf
theorem dX11_isJump_0 : decode cX11_isJump 0 = .ok (.iconst 1, 1) := by decide +kernel
theorem dX11_isJump_1 : decode cX11_isJump 1 = .ok (.istore_n 3, 1) := by decide +kernel
theorem dX11_isJump_2 : decode cX11_isJump 2 = .ok (.iload_n 3, 1) := by decide +kernel
theorem dX11_isJump_3 : decode cX11_isJump 3 = .ok (.iload_n 1, 1) := by decide +kernel
theorem dX11_isJump_4 : decode cX11_isJump 4 = .ok (.if_icmp .ge 33, 3) := by decide +kernel
theorem dX11_isJump_7 : decode cX11_isJump 7 = .ok (.aload_n 0, 1) := by decide +kernel
theorem dX11_isJump_8 : decode cX11_isJump 8 = .ok (.iconst 0, 1) := by decide +kernel
theorem dX11_isJump_9 : decode cX11_isJump 9 = .ok (.iload_n 3, 1) := by decide +kernel
theorem dX11_isJump_10 : decode cX11_isJump 10 = .ok (.iconst 0, 1) := by decide +kernel
theorem dX11_isJump_11 : decode cX11_isJump 11 = .ok (.invokevirtual 310, 3) := by decide +kernel
theorem dX11_isJump_14 : decode cX11_isJump 14 = .ok (.iload_n 2, 1) := by decide +kernel
theorem dX11_isJump_15 : decode cX11_isJump 15 = .ok (.if_icmp .gt 16, 3) := by decide +kernel
theorem dX11_isJump_18 : decode cX11_isJump 18 = .ok (.aload_n 0, 1) := by decide +kernel
theorem dX11_isJump_19 : decode cX11_isJump 19 = .ok (.iload_n 3, 1) := by decide +kernel
theorem dX11_isJump_20 : decode cX11_isJump 20 = .ok (.iload_n 1, 1) := by decide +kernel
theorem dX11_isJump_21 : decode cX11_isJump 21 = .ok (.iconst 0, 1) := by decide +kernel
theorem dX11_isJump_22 : decode cX11_isJump 22 = .ok (.invokevirtual 310, 3) := by decide +kernel
theorem dX11_isJump_25 : decode cX11_isJump 25 = .ok (.iload_n 2, 1) := by decide +kernel
theorem dX11_isJump_26 : decode cX11_isJump 26 = .ok (.if_icmp .gt 5, 3) := by decide +kernel
theorem dX11_isJump_29 : decode cX11_isJump 29 = .ok (.iconst 1, 1) := by decide +kernel
theorem dX11_isJump_30 : decode cX11_isJump 30 = .ok (.ireturn, 1) := by decide +kernel
theorem dX11_isJump_31 : decode cX11_isJump 31 = .ok (.iinc 3 1, 3) := by decide +kernel
theorem dX11_isJump_34 : decode cX11_isJump 34 = .ok (.goto (-32), 3) := by decide +kernel
theorem dX11_isJump_37 : decode cX11_isJump 37 = .ok (.iconst 0, 1) := by decide +kernel
theorem dX11_isJump_38 : decode cX11_isJump 38 = .ok (.ireturn, 1) := by decide +kernel
set_option maxRecDepth 20000 in
theorem sX11_isJump_0 {P : Option Value → AH → Prop} (h : AH) (r0 : Nat) (x1 : Int32) (x2 : Int32) (hf : Rr mX11_isJump 0 0 2 [(0, .ref r0), (1, .int x1), (2, .int x2), (3, .int 1)] [] h P) : Rr mX11_isJump 0 0 0 [(0, .ref r0), (1, .int x1), (2, .int x2)] [] h P := by
  refine R_iconst (v := 1) dX11_isJump_0 (by decide) ?_
  refine R_istore_n dX11_isJump_1 rfl (by decide) rfl ?_
  exact R_sub [1, 2, 3, 0] rfl hf
set_option maxRecDepth 20000 in
theorem sX11_isJump_2 {P : Option Value → AH → Prop} (h : AH) (r0 : Nat) (x1 : Int32) (x2 : Int32) (x3 : Int32) (hf : (x1 ≤ x3 → P (some (.int 0)) h) ∧ (¬ x1 ≤ x3 → (isO h 11 r0) ∧ (Call mX11_breadthOf [.ref r0, .int 0, .int x3, .int 0] h (fun v h3 => ∃ z4 : Int32, v = some (.int z4) ∧ ((x2 < z4 → Rr mX11_isJump 0 0 2 [(0, .ref r0), (1, .int x1), (2, .int x2), (3, .int (x3 + 1))] [] h3 P) ∧ (¬ x2 < z4 → (isO h3 11 r0) ∧ (Call mX11_breadthOf [.ref r0, .int x3, .int x1, .int 0] h3 (fun v h7 => ∃ z8 : Int32, v = some (.int z8) ∧ ((x2 < z8 → Rr mX11_isJump 0 0 2 [(0, .ref r0), (1, .int x1), (2, .int x2), (3, .int (x3 + 1))] [] h7 P) ∧ (¬ x2 < z8 → P (some (.int 1)) h7)))))))))) : Rr mX11_isJump 0 0 2 [(0, .ref r0), (1, .int x1), (2, .int x2), (3, .int x3)] [] h P := by
  refine R_iload_n dX11_isJump_2 rfl 3 rfl ?_
  refine R_iload_n dX11_isJump_3 rfl 1 rfl ?_
  refine R_icmp_ge (tgt := 37) dX11_isJump_4 (by decide) (fun b1 => ?_) (fun b1 => ?_)
  · have hf := hf.1 b1
    refine R_iconst (v := 0) dX11_isJump_37 (by decide) ?_
    exact R_iret dX11_isJump_38 rfl rfl hf
  · have hf := hf.2 b1
    refine R_aload_n dX11_isJump_7 rfl 0 rfl ?_
    refine R_iconst (v := 0) dX11_isJump_8 (by decide) ?_
    refine R_iload_n dX11_isJump_9 rfl 3 rfl ?_
    refine R_iconst (v := 0) dX11_isJump_10 (by decide) ?_
    obtain ⟨ob2, hf⟩ := hf
    refine R_callV (ci := 11) (N := mX11_breadthOf) (as := [.int 0, .int x3, .int 0]) (rest := []) (kc2 := 0) (ks2 := 0) dX11_isJump_11 lmX11_310 oX11_breadthOf (Nat.le_of_ble_eq_true rfl) rfl rfl (Nat.le_of_ble_eq_true rfl) rfl rfl ob2 ok11 (Call.mono hf ?_)
    rintro _ h3 ⟨z4, rfl, hf⟩
    refine R_iload_n dX11_isJump_14 rfl 2 rfl ?_
    refine R_icmp_gt (tgt := 31) dX11_isJump_15 (by decide) (fun b5 => ?_) (fun b5 => ?_)
    · have hf := hf.1 b5
      refine R_iinc (v := x3 + 1) dX11_isJump_31 3 rfl rfl (by decide) rfl ?_
      refine R_goto (tgt := 2) dX11_isJump_34 (by decide) ?_
      exact R_sub [1, 2, 3, 0] rfl hf
    · have hf := hf.2 b5
      refine R_aload_n dX11_isJump_18 rfl 0 rfl ?_
      refine R_iload_n dX11_isJump_19 rfl 3 rfl ?_
      refine R_iload_n dX11_isJump_20 rfl 1 rfl ?_
      refine R_iconst (v := 0) dX11_isJump_21 (by decide) ?_
      obtain ⟨ob6, hf⟩ := hf
      refine R_callV (ci := 11) (N := mX11_breadthOf) (as := [.int x3, .int x1, .int 0]) (rest := []) (kc2 := 0) (ks2 := 0) dX11_isJump_22 lmX11_310 oX11_breadthOf (Nat.le_of_ble_eq_true rfl) rfl rfl (Nat.le_of_ble_eq_true rfl) rfl rfl ob6 ok11 (Call.mono hf ?_)
      rintro _ h7 ⟨z8, rfl, hf⟩
      refine R_iload_n dX11_isJump_25 rfl 2 rfl ?_
      refine R_icmp_gt (tgt := 31) dX11_isJump_26 (by decide) (fun b9 => ?_) (fun b9 => ?_)
      · have hf := hf.1 b9
        refine R_iinc (v := x3 + 1) dX11_isJump_31 3 rfl rfl (by decide) rfl ?_
        refine R_goto (tgt := 2) dX11_isJump_34 (by decide) ?_
        exact R_sub [1, 2, 3, 0] rfl hf
      · have hf := hf.2 b9
        refine R_iconst (v := 1) dX11_isJump_29 (by decide) ?_
        exact R_iret dX11_isJump_30 rfl rfl hf
theorem dX11_markUnlike_0 : decode cX11_markUnlike 0 = .ok (.aload_n 0, 1) := by decide +kernel
theorem dX11_markUnlike_1 : decode cX11_markUnlike 1 = .ok (.getfield 67, 3) := by decide +kernel
theorem dX11_markUnlike_4 : decode cX11_markUnlike 4 = .ok (.aload_n 0, 1) := by decide +kernel
theorem dX11_markUnlike_5 : decode cX11_markUnlike 5 = .ok (.getfield 24, 3) := by decide +kernel
theorem dX11_markUnlike_8 : decode cX11_markUnlike 8 = .ok (.getfield 223, 3) := by decide +kernel
theorem dX11_markUnlike_11 : decode cX11_markUnlike 11 = .ok (.iload_n 1, 1) := by decide +kernel
theorem dX11_markUnlike_12 : decode cX11_markUnlike 12 = .ok (.aaload, 1) := by decide +kernel
theorem dX11_markUnlike_13 : decode cX11_markUnlike 13 = .ok (.invokevirtual 226, 3) := by decide +kernel
theorem dX11_markUnlike_16 : decode cX11_markUnlike 16 = .ok (.aload_n 0, 1) := by decide +kernel
theorem dX11_markUnlike_17 : decode cX11_markUnlike 17 = .ok (.getfield 67, 3) := by decide +kernel
theorem dX11_markUnlike_20 : decode cX11_markUnlike 20 = .ok (.iload_n 2, 1) := by decide +kernel
theorem dX11_markUnlike_21 : decode cX11_markUnlike 21 = .ok (.iconst 5, 1) := by decide +kernel
theorem dX11_markUnlike_22 : decode cX11_markUnlike 22 = .ok (.irem, 1) := by decide +kernel
theorem dX11_markUnlike_23 : decode cX11_markUnlike 23 = .ok (.iconst 2, 1) := by decide +kernel
theorem dX11_markUnlike_24 : decode cX11_markUnlike 24 = .ok (.isub, 1) := by decide +kernel
theorem dX11_markUnlike_25 : decode cX11_markUnlike 25 = .ok (.iload_n 2, 1) := by decide +kernel
theorem dX11_markUnlike_26 : decode cX11_markUnlike 26 = .ok (.iconst 5, 1) := by decide +kernel
theorem dX11_markUnlike_27 : decode cX11_markUnlike 27 = .ok (.idiv, 1) := by decide +kernel
theorem dX11_markUnlike_28 : decode cX11_markUnlike 28 = .ok (.iconst 2, 1) := by decide +kernel
theorem dX11_markUnlike_29 : decode cX11_markUnlike 29 = .ok (.isub, 1) := by decide +kernel
theorem dX11_markUnlike_30 : decode cX11_markUnlike 30 = .ok (.invokevirtual 296, 3) := by decide +kernel
theorem dX11_markUnlike_33 : decode cX11_markUnlike 33 = .ok (.aload_n 0, 1) := by decide +kernel
theorem dX11_markUnlike_34 : decode cX11_markUnlike 34 = .ok (.getfield 71, 3) := by decide +kernel
theorem dX11_markUnlike_37 : decode cX11_markUnlike 37 = .ok (.aload_n 0, 1) := by decide +kernel
theorem dX11_markUnlike_38 : decode cX11_markUnlike 38 = .ok (.getfield 62, 3) := by decide +kernel
theorem dX11_markUnlike_41 : decode cX11_markUnlike 41 = .ok (.iload_n 1, 1) := by decide +kernel
theorem dX11_markUnlike_42 : decode cX11_markUnlike 42 = .ok (.aaload, 1) := by decide +kernel
theorem dX11_markUnlike_43 : decode cX11_markUnlike 43 = .ok (.aload_n 0, 1) := by decide +kernel
theorem dX11_markUnlike_44 : decode cX11_markUnlike 44 = .ok (.getfield 67, 3) := by decide +kernel
theorem dX11_markUnlike_47 : decode cX11_markUnlike 47 = .ok (.invokevirtual 299, 3) := by decide +kernel
theorem dX11_markUnlike_50 : decode cX11_markUnlike 50 = .ok (.return_, 1) := by decide +kernel
set_option maxRecDepth 20000 in
theorem sX11_markUnlike_0 {P : Option Value → AH → Prop} (h : AH) (r0 : Nat) (x1 : Int32) (x2 : Int32) (hf : (isO h 11 r0) ∧ ((isO h 3 (gF h r0 2)) ∧ ((isA h 3 (gF h (gF h r0 2) 11)) ∧ ((vp_in x1 (ln (gF h (gF h r0 2) 11))) ∧ ((isO h 0 (gF h r0 9)) ∧ ((isO h 0 (gF h (gF h (gF h r0 2) 11) x1.toNatClampNeg)) ∧ ((isA h 1 (gF h (gF h (gF h (gF h r0 2) 11) x1.toNatClampNeg) 0)) ∧ ((isA h 1 (gF h (gF h r0 9) 0)) ∧ (((Int32.toNatClampNeg 0) + (Int32.toNatClampNeg 4) ≤ ln (gF h (gF h (gF h (gF h r0 2) 11) x1.toNatClampNeg) 0)) ∧ (((Int32.toNatClampNeg 0) + (Int32.toNatClampNeg 4) ≤ ln (gF h (gF h r0 9) 0)) ∧ ((isO h 0 (gF (rL h (gF h (gF h r0 9) 0) (va_cpy (gL h (gF h (gF h (gF h (gF h r0 2) 11) x1.toNatClampNeg) 0)) (gL h (gF h (gF h r0 9) 0)) (Int32.toNatClampNeg 0) (Int32.toNatClampNeg 0) (Int32.toNatClampNeg 4))) r0 9)) ∧ (Call mX0_move [.ref (gF (rL h (gF h (gF h r0 9) 0) (va_cpy (gL h (gF h (gF h (gF h (gF h r0 2) 11) x1.toNatClampNeg) 0)) (gL h (gF h (gF h r0 9) 0)) (Int32.toNatClampNeg 0) (Int32.toNatClampNeg 0) (Int32.toNatClampNeg 4))) r0 9), .int ((x2 % 5) - 2), .int ((x2 / 5) - 2)] (rL h (gF h (gF h r0 9) 0) (va_cpy (gL h (gF h (gF h (gF h (gF h r0 2) 11) x1.toNatClampNeg) 0)) (gL h (gF h (gF h r0 9) 0)) (Int32.toNatClampNeg 0) (Int32.toNatClampNeg 0) (Int32.toNatClampNeg 4))) (fun v h12 => v = none ∧ ((isO h12 11 r0) ∧ ((isA h12 3 (gF h12 r0 7)) ∧ ((vp_in x1 (ln (gF h12 r0 7))) ∧ ((isO h12 0 (gF h12 r0 10)) ∧ (Call mX0_addUnlike [.ref (gF h12 r0 10), .ref (gF h12 (gF h12 r0 7) x1.toNatClampNeg), .ref (gF h12 r0 9)] h12 (fun v h17 => v = none ∧ (P none h17)))))))))))))))))))) : Rr mX11_markUnlike 0 0 0 [(0, .ref r0), (1, .int x1), (2, .int x2)] [] h P := by
  refine R_aload_n dX11_markUnlike_0 rfl 0 rfl ?_
  obtain ⟨ob1, hf⟩ := hf
  refine G11_9 dX11_markUnlike_1 lfX11_67 ob1 ?_
  refine R_aload_n dX11_markUnlike_4 rfl 0 rfl ?_
  refine G11_2 dX11_markUnlike_5 lfX11_24 ob1 ?_
  obtain ⟨ob2, hf⟩ := hf
  refine G3_11 dX11_markUnlike_8 lfX11_223 ob2 ?_
  refine R_iload_n dX11_markUnlike_11 rfl 1 rfl ?_
  obtain ⟨ob3, hf⟩ := hf
  obtain ⟨ob4, hf⟩ := hf
  refine R_aaload (t := 3) (by decide) dX11_markUnlike_12 ob3 ob4 ?_
  obtain ⟨ob5, hf⟩ := hf
  obtain ⟨ob6, hf⟩ := hf
  obtain ⟨ob7, hf⟩ := hf
  obtain ⟨ob8, hf⟩ := hf
  obtain ⟨ob9, hf⟩ := hf
  obtain ⟨ob10, hf⟩ := hf
  refine R_callV (ci := 0) (N := mX0_copy) (as := [.ref (gF h (gF h (gF h r0 2) 11) x1.toNatClampNeg)]) (rest := []) (kc2 := 0) (ks2 := 0) dX11_markUnlike_13 lmX11_226 oX0_copy (Nat.le_of_ble_eq_true rfl) rfl rfl (Nat.le_of_ble_eq_true rfl) rfl rfl ob5 ok0 (aX0_copy ob6 ob5 ob7 ob8 ob9 ob10 ?_)
  refine R_aload_n dX11_markUnlike_16 rfl 0 rfl ?_
  refine G11_9 dX11_markUnlike_17 lfX11_67 ob1 ?_
  refine R_iload_n dX11_markUnlike_20 rfl 2 rfl ?_
  refine R_iconst (v := 5) dX11_markUnlike_21 (by decide) ?_
  refine R_irem dX11_markUnlike_22 (by decide) ?_
  refine R_iconst (v := 2) dX11_markUnlike_23 (by decide) ?_
  refine R_isub dX11_markUnlike_24 ?_
  refine R_iload_n dX11_markUnlike_25 rfl 2 rfl ?_
  refine R_iconst (v := 5) dX11_markUnlike_26 (by decide) ?_
  refine R_idiv dX11_markUnlike_27 (by decide) ?_
  refine R_iconst (v := 2) dX11_markUnlike_28 (by decide) ?_
  refine R_isub dX11_markUnlike_29 ?_
  obtain ⟨ob11, hf⟩ := hf
  refine R_callV (ci := 0) (N := mX0_move) (as := [.int ((x2 % 5) - 2), .int ((x2 / 5) - 2)]) (rest := []) (kc2 := 0) (ks2 := 0) dX11_markUnlike_30 lmX11_296 oX0_move (Nat.le_of_ble_eq_true rfl) rfl rfl (Nat.le_of_ble_eq_true rfl) rfl rfl ob11 ok0 (Call.mono hf ?_)
  rintro _ h12 ⟨rfl, hf⟩
  refine R_aload_n dX11_markUnlike_33 rfl 0 rfl ?_
  obtain ⟨ob13, hf⟩ := hf
  refine G11_10 dX11_markUnlike_34 lfX11_71 ob13 ?_
  refine R_aload_n dX11_markUnlike_37 rfl 0 rfl ?_
  refine G11_7 dX11_markUnlike_38 lfX11_62 ob13 ?_
  refine R_iload_n dX11_markUnlike_41 rfl 1 rfl ?_
  obtain ⟨ob14, hf⟩ := hf
  obtain ⟨ob15, hf⟩ := hf
  refine R_aaload (t := 3) (by decide) dX11_markUnlike_42 ob14 ob15 ?_
  refine R_aload_n dX11_markUnlike_43 rfl 0 rfl ?_
  refine G11_9 dX11_markUnlike_44 lfX11_67 ob13 ?_
  obtain ⟨ob16, hf⟩ := hf
  refine R_callV (ci := 0) (N := mX0_addUnlike) (as := [.ref (gF h12 (gF h12 r0 7) x1.toNatClampNeg), .ref (gF h12 r0 9)]) (rest := []) (kc2 := 0) (ks2 := 0) dX11_markUnlike_47 lmX11_299 oX0_addUnlike (Nat.le_of_ble_eq_true rfl) rfl rfl (Nat.le_of_ble_eq_true rfl) rfl rfl ob16 ok0 (Call.mono hf ?_)
  rintro _ h17 ⟨rfl, hf⟩
  exact R_ret dX11_markUnlike_50 rfl hf
theorem dX11_read_0 : decode cX11_read 0 = .ok (.aload_n 0, 1) := by decide +kernel
theorem dX11_read_1 : decode cX11_read 1 = .ok (.getfield 31, 3) := by decide +kernel
theorem dX11_read_4 : decode cX11_read 4 = .ok (.iload_n 1, 1) := by decide +kernel
theorem dX11_read_5 : decode cX11_read 5 = .ok (.iload 4, 2) := by decide +kernel
theorem dX11_read_7 : decode cX11_read 7 = .ok (.iload 5, 2) := by decide +kernel
theorem dX11_read_9 : decode cX11_read 9 = .ok (.invokevirtual 172, 3) := by decide +kernel
theorem dX11_read_12 : decode cX11_read 12 = .ok (.ifCond .eq 25, 3) := by decide +kernel
theorem dX11_read_15 : decode cX11_read 15 = .ok (.iload_n 2, 1) := by decide +kernel
theorem dX11_read_16 : decode cX11_read 16 = .ok (.invokestatic 150, 3) := by decide +kernel
theorem dX11_read_19 : decode cX11_read 19 = .ok (.ifCond .eq 18, 3) := by decide +kernel
theorem dX11_read_22 : decode cX11_read 22 = .ok (.iload_n 3, 1) := by decide +kernel
theorem dX11_read_23 : decode cX11_read 23 = .ok (.ifCond .lt 14, 3) := by decide +kernel
theorem dX11_read_26 : decode cX11_read 26 = .ok (.iload_n 3, 1) := by decide +kernel
theorem dX11_read_27 : decode cX11_read 27 = .ok (.aload_n 0, 1) := by decide +kernel
theorem dX11_read_28 : decode cX11_read 28 = .ok (.getfield 24, 3) := by decide +kernel
theorem dX11_read_31 : decode cX11_read 31 = .ok (.getfield 176, 3) := by decide +kernel
theorem dX11_read_34 : decode cX11_read 34 = .ok (.if_icmp .lt 6, 3) := by decide +kernel
theorem dX11_read_37 : decode cX11_read 37 = .ok (.bipush (-2), 2) := by decide +kernel
theorem dX11_read_39 : decode cX11_read 39 = .ok (.ireturn, 1) := by decide +kernel
theorem dX11_read_40 : decode cX11_read 40 = .ok (.aload_n 0, 1) := by decide +kernel
theorem dX11_read_41 : decode cX11_read 41 = .ok (.getfield 31, 3) := by decide +kernel
theorem dX11_read_44 : decode cX11_read 44 = .ok (.iload_n 1, 1) := by decide +kernel
theorem dX11_read_45 : decode cX11_read 45 = .ok (.iload_n 2, 1) := by decide +kernel
theorem dX11_read_46 : decode cX11_read 46 = .ok (.iload_n 3, 1) := by decide +kernel
theorem dX11_read_47 : decode cX11_read 47 = .ok (.iload 4, 2) := by decide +kernel
theorem dX11_read_49 : decode cX11_read 49 = .ok (.iload 5, 2) := by decide +kernel
theorem dX11_read_51 : decode cX11_read 51 = .ok (.invokevirtual 179, 3) := by decide +kernel
theorem dX11_read_54 : decode cX11_read 54 = .ok (.ireturn, 1) := by decide +kernel
set_option maxRecDepth 20000 in
theorem sX11_read_0 {P : Option Value → AH → Prop} (h : AH) (r0 : Nat) (x1 : Int32) (x2 : Int32) (x3 : Int32) (x4 : Int32) (x5 : Int32) (hf : (isO h 11 r0) ∧ ((isO h 7 (gF h r0 3)) ∧ ((¬ ((¬ x1 < 0 ∧ ¬ 999 < x1) ∧ ¬ x1 < (gI h (gF h r0 3) 2) ∧ (¬ x4 < (-99) ∧ ¬ 99 < x4) ∧ (¬ x5 < (-99) ∧ ¬ 99 < x5)) → P (some (.int (-2))) h) ∧ (((¬ x1 < 0 ∧ ¬ 999 < x1) ∧ ¬ x1 < (gI h (gF h r0 3) 2) ∧ (¬ x4 < (-99) ∧ ¬ 99 < x4) ∧ (¬ x5 < (-99) ∧ ¬ 99 < x5)) → (¬ (¬ x2 < 0 ∧ ¬ 4 ≤ x2) → P (some (.int (-2))) h) ∧ ((¬ x2 < 0 ∧ ¬ 4 ≤ x2) → (x3 < 0 → P (some (.int (-2))) h) ∧ (¬ x3 < 0 → (isO h 3 (gF h r0 2)) ∧ ((x3 < (gI h (gF h r0 2) 3) → Call mX7_put [.ref (gF h r0 3), .int x1, .int x2, .int x3, .int x4, .int x5] h (fun v h8 => ∃ z9 : Int32, v = some (.int z9) ∧ (P (some (.int z9)) h8))) ∧ (¬ x3 < (gI h (gF h r0 2) 3) → P (some (.int (-2))) h)))))))) : Rr mX11_read 0 0 0 [(0, .ref r0), (1, .int x1), (2, .int x2), (3, .int x3), (4, .int x4), (5, .int x5)] [] h P := by
  refine R_aload_n dX11_read_0 rfl 0 rfl ?_
  obtain ⟨ob1, hf⟩ := hf
  refine G11_3 dX11_read_1 lfX11_31 ob1 ?_
  refine R_iload_n dX11_read_4 rfl 1 rfl ?_
  refine R_iload dX11_read_5 4 rfl ?_
  refine R_iload dX11_read_7 5 rfl ?_
  obtain ⟨ob2, hf⟩ := hf
  refine R_callV (ci := 7) (N := mX7_mayTell) (as := [.int x1, .int x4, .int x5]) (rest := []) (kc2 := 0) (ks2 := 0) dX11_read_9 lmX11_172 oX7_mayTell (Nat.le_of_ble_eq_true rfl) rfl rfl (Nat.le_of_ble_eq_true rfl) rfl rfl ob2 ok7 (aX7_mayTell ob2 ?_)
  refine R_if_eq_b (tgt := 37) dX11_read_12 (by decide) (fun b3 => ?_) (fun b3 => ?_)
  · have hf := hf.1 b3
    refine R_bipush (v := (-2)) dX11_read_37 (by decide) ?_
    exact R_iret dX11_read_39 rfl rfl hf
  · have hf := hf.2 b3
    refine R_iload_n dX11_read_15 rfl 2 rfl ?_
    refine R_callS (N := mX11_isInk) (as := [.int x2]) (rest := []) (kc2 := 0) (ks2 := 0) dX11_read_16 lmX11_150 oX11_isInk (Nat.le_of_ble_eq_true rfl) rfl rfl (Nat.le_of_ble_eq_true rfl) rfl rfl (aX11_isInk  ?_)
    refine R_if_eq_b (tgt := 37) dX11_read_19 (by decide) (fun b4 => ?_) (fun b4 => ?_)
    · have hf := hf.1 b4
      refine R_bipush (v := (-2)) dX11_read_37 (by decide) ?_
      exact R_iret dX11_read_39 rfl rfl hf
    · have hf := hf.2 b4
      refine R_iload_n dX11_read_22 rfl 3 rfl ?_
      refine R_if_lt (tgt := 37) dX11_read_23 (by decide) (fun b5 => ?_) (fun b5 => ?_)
      · have hf := hf.1 b5
        refine R_bipush (v := (-2)) dX11_read_37 (by decide) ?_
        exact R_iret dX11_read_39 rfl rfl hf
      · have hf := hf.2 b5
        refine R_iload_n dX11_read_26 rfl 3 rfl ?_
        refine R_aload_n dX11_read_27 rfl 0 rfl ?_
        refine G11_2 dX11_read_28 lfX11_24 ob1 ?_
        obtain ⟨ob6, hf⟩ := hf
        refine G3_3 dX11_read_31 lfX11_176 ob6 ?_
        refine R_icmp_lt (tgt := 40) dX11_read_34 (by decide) (fun b7 => ?_) (fun b7 => ?_)
        · have hf := hf.1 b7
          refine R_aload_n dX11_read_40 rfl 0 rfl ?_
          refine G11_3 dX11_read_41 lfX11_31 ob1 ?_
          refine R_iload_n dX11_read_44 rfl 1 rfl ?_
          refine R_iload_n dX11_read_45 rfl 2 rfl ?_
          refine R_iload_n dX11_read_46 rfl 3 rfl ?_
          refine R_iload dX11_read_47 4 rfl ?_
          refine R_iload dX11_read_49 5 rfl ?_
          refine R_callV (ci := 7) (N := mX7_put) (as := [.int x1, .int x2, .int x3, .int x4, .int x5]) (rest := []) (kc2 := 0) (ks2 := 0) dX11_read_51 lmX11_179 oX7_put (Nat.le_of_ble_eq_true rfl) rfl rfl (Nat.le_of_ble_eq_true rfl) rfl rfl ob2 ok7 (Call.mono hf ?_)
          rintro _ h8 ⟨z9, rfl, hf⟩
          exact R_iret dX11_read_54 rfl rfl hf
        · have hf := hf.2 b7
          refine R_bipush (v := (-2)) dX11_read_37 (by decide) ?_
          exact R_iret dX11_read_39 rfl rfl hf
theorem dX11_right_0 : decode cX11_right 0 = .ok (.aload_n 0, 1) := by decide +kernel
theorem dX11_right_1 : decode cX11_right 1 = .ok (.getfield 31, 3) := by decide +kernel
theorem dX11_right_4 : decode cX11_right 4 = .ok (.iload_n 1, 1) := by decide +kernel
theorem dX11_right_5 : decode cX11_right 5 = .ok (.iload_n 3, 1) := by decide +kernel
theorem dX11_right_6 : decode cX11_right 6 = .ok (.iload 4, 2) := by decide +kernel
theorem dX11_right_8 : decode cX11_right 8 = .ok (.invokevirtual 172, 3) := by decide +kernel
theorem dX11_right_11 : decode cX11_right 11 = .ok (.ifCond .eq 18, 3) := by decide +kernel
theorem dX11_right_14 : decode cX11_right 14 = .ok (.iload_n 2, 1) := by decide +kernel
theorem dX11_right_15 : decode cX11_right 15 = .ok (.ifCond .lt 14, 3) := by decide +kernel
theorem dX11_right_18 : decode cX11_right 18 = .ok (.iload_n 2, 1) := by decide +kernel
theorem dX11_right_19 : decode cX11_right 19 = .ok (.aload_n 0, 1) := by decide +kernel
theorem dX11_right_20 : decode cX11_right 20 = .ok (.getfield 31, 3) := by decide +kernel
theorem dX11_right_23 : decode cX11_right 23 = .ok (.getfield 182, 3) := by decide +kernel
theorem dX11_right_26 : decode cX11_right 26 = .ok (.if_icmp .lt 6, 3) := by decide +kernel
theorem dX11_right_29 : decode cX11_right 29 = .ok (.bipush (-2), 2) := by decide +kernel
theorem dX11_right_31 : decode cX11_right 31 = .ok (.ireturn, 1) := by decide +kernel
theorem dX11_right_32 : decode cX11_right 32 = .ok (.aload_n 0, 1) := by decide +kernel
theorem dX11_right_33 : decode cX11_right 33 = .ok (.getfield 31, 3) := by decide +kernel
theorem dX11_right_36 : decode cX11_right 36 = .ok (.iload_n 1, 1) := by decide +kernel
theorem dX11_right_37 : decode cX11_right 37 = .ok (.iload_n 2, 1) := by decide +kernel
theorem dX11_right_38 : decode cX11_right 38 = .ok (.iload_n 3, 1) := by decide +kernel
theorem dX11_right_39 : decode cX11_right 39 = .ok (.iload 4, 2) := by decide +kernel
theorem dX11_right_41 : decode cX11_right 41 = .ok (.invokevirtual 185, 3) := by decide +kernel
theorem dX11_right_44 : decode cX11_right 44 = .ok (.ireturn, 1) := by decide +kernel
set_option maxRecDepth 20000 in
theorem sX11_right_0 {P : Option Value → AH → Prop} (h : AH) (r0 : Nat) (x1 : Int32) (x2 : Int32) (x3 : Int32) (x4 : Int32) (hf : (isO h 11 r0) ∧ ((isO h 7 (gF h r0 3)) ∧ ((¬ ((¬ x1 < 0 ∧ ¬ 999 < x1) ∧ ¬ x1 < (gI h (gF h r0 3) 2) ∧ (¬ x3 < (-99) ∧ ¬ 99 < x3) ∧ (¬ x4 < (-99) ∧ ¬ 99 < x4)) → P (some (.int (-2))) h) ∧ (((¬ x1 < 0 ∧ ¬ 999 < x1) ∧ ¬ x1 < (gI h (gF h r0 3) 2) ∧ (¬ x3 < (-99) ∧ ¬ 99 < x3) ∧ (¬ x4 < (-99) ∧ ¬ 99 < x4)) → (x2 < 0 → P (some (.int (-2))) h) ∧ (¬ x2 < 0 → (x2 < (gI h (gF h r0 3) 0) → Call mX7_putRight [.ref (gF h r0 3), .int x1, .int x2, .int x3, .int x4] h (fun v h6 => ∃ z7 : Int32, v = some (.int z7) ∧ (P (some (.int z7)) h6))) ∧ (¬ x2 < (gI h (gF h r0 3) 0) → P (some (.int (-2))) h)))))) : Rr mX11_right 0 0 0 [(0, .ref r0), (1, .int x1), (2, .int x2), (3, .int x3), (4, .int x4)] [] h P := by
  refine R_aload_n dX11_right_0 rfl 0 rfl ?_
  obtain ⟨ob1, hf⟩ := hf
  refine G11_3 dX11_right_1 lfX11_31 ob1 ?_
  refine R_iload_n dX11_right_4 rfl 1 rfl ?_
  refine R_iload_n dX11_right_5 rfl 3 rfl ?_
  refine R_iload dX11_right_6 4 rfl ?_
  obtain ⟨ob2, hf⟩ := hf
  refine R_callV (ci := 7) (N := mX7_mayTell) (as := [.int x1, .int x3, .int x4]) (rest := []) (kc2 := 0) (ks2 := 0) dX11_right_8 lmX11_172 oX7_mayTell (Nat.le_of_ble_eq_true rfl) rfl rfl (Nat.le_of_ble_eq_true rfl) rfl rfl ob2 ok7 (aX7_mayTell ob2 ?_)
  refine R_if_eq_b (tgt := 29) dX11_right_11 (by decide) (fun b3 => ?_) (fun b3 => ?_)
  · have hf := hf.1 b3
    refine R_bipush (v := (-2)) dX11_right_29 (by decide) ?_
    exact R_iret dX11_right_31 rfl rfl hf
  · have hf := hf.2 b3
    refine R_iload_n dX11_right_14 rfl 2 rfl ?_
    refine R_if_lt (tgt := 29) dX11_right_15 (by decide) (fun b4 => ?_) (fun b4 => ?_)
    · have hf := hf.1 b4
      refine R_bipush (v := (-2)) dX11_right_29 (by decide) ?_
      exact R_iret dX11_right_31 rfl rfl hf
    · have hf := hf.2 b4
      refine R_iload_n dX11_right_18 rfl 2 rfl ?_
      refine R_aload_n dX11_right_19 rfl 0 rfl ?_
      refine G11_3 dX11_right_20 lfX11_31 ob1 ?_
      refine G7_0 dX11_right_23 lfX11_182 ob2 ?_
      refine R_icmp_lt (tgt := 32) dX11_right_26 (by decide) (fun b5 => ?_) (fun b5 => ?_)
      · have hf := hf.1 b5
        refine R_aload_n dX11_right_32 rfl 0 rfl ?_
        refine G11_3 dX11_right_33 lfX11_31 ob1 ?_
        refine R_iload_n dX11_right_36 rfl 1 rfl ?_
        refine R_iload_n dX11_right_37 rfl 2 rfl ?_
        refine R_iload_n dX11_right_38 rfl 3 rfl ?_
        refine R_iload dX11_right_39 4 rfl ?_
        refine R_callV (ci := 7) (N := mX7_putRight) (as := [.int x1, .int x2, .int x3, .int x4]) (rest := []) (kc2 := 0) (ks2 := 0) dX11_right_41 lmX11_185 oX7_putRight (Nat.le_of_ble_eq_true rfl) rfl rfl (Nat.le_of_ble_eq_true rfl) rfl rfl ob2 ok7 (Call.mono hf ?_)
        rintro _ h6 ⟨z7, rfl, hf⟩
        exact R_iret dX11_right_44 rfl rfl hf
      · have hf := hf.2 b5
        refine R_bipush (v := (-2)) dX11_right_29 (by decide) ?_
        exact R_iret dX11_right_31 rfl rfl hf
theorem dX11_shape_0 : decode cX11_shape 0 = .ok (.iload_n 1, 1) := by decide +kernel
theorem dX11_shape_1 : decode cX11_shape 1 = .ok (.invokestatic 150, 3) := by decide +kernel
theorem dX11_shape_4 : decode cX11_shape 4 = .ok (.ifCond .eq 20, 3) := by decide +kernel
theorem dX11_shape_7 : decode cX11_shape 7 = .ok (.iload_n 2, 1) := by decide +kernel
theorem dX11_shape_8 : decode cX11_shape 8 = .ok (.invokestatic 220, 3) := by decide +kernel
theorem dX11_shape_11 : decode cX11_shape 11 = .ok (.ifCond .eq 13, 3) := by decide +kernel
theorem dX11_shape_14 : decode cX11_shape 14 = .ok (.iload_n 3, 1) := by decide +kernel
theorem dX11_shape_15 : decode cX11_shape 15 = .ok (.ifCond .lt 9, 3) := by decide +kernel
theorem dX11_shape_18 : decode cX11_shape 18 = .ok (.iload_n 3, 1) := by decide +kernel
theorem dX11_shape_19 : decode cX11_shape 19 = .ok (.bipush 16, 2) := by decide +kernel
theorem dX11_shape_21 : decode cX11_shape 21 = .ok (.if_icmp .lt 6, 3) := by decide +kernel
theorem dX11_shape_24 : decode cX11_shape 24 = .ok (.bipush (-2), 2) := by decide +kernel
theorem dX11_shape_26 : decode cX11_shape 26 = .ok (.ireturn, 1) := by decide +kernel
theorem dX11_shape_27 : decode cX11_shape 27 = .ok (.aload_n 0, 1) := by decide +kernel
theorem dX11_shape_28 : decode cX11_shape 28 = .ok (.getfield 67, 3) := by decide +kernel
theorem dX11_shape_31 : decode cX11_shape 31 = .ok (.aload_n 0, 1) := by decide +kernel
theorem dX11_shape_32 : decode cX11_shape 32 = .ok (.getfield 24, 3) := by decide +kernel
theorem dX11_shape_35 : decode cX11_shape 35 = .ok (.getfield 223, 3) := by decide +kernel
theorem dX11_shape_38 : decode cX11_shape 38 = .ok (.iload_n 1, 1) := by decide +kernel
theorem dX11_shape_39 : decode cX11_shape 39 = .ok (.aaload, 1) := by decide +kernel
theorem dX11_shape_40 : decode cX11_shape 40 = .ok (.invokevirtual 226, 3) := by decide +kernel
theorem dX11_shape_43 : decode cX11_shape 43 = .ok (.aload_n 0, 1) := by decide +kernel
theorem dX11_shape_44 : decode cX11_shape 44 = .ok (.getfield 67, 3) := by decide +kernel
theorem dX11_shape_47 : decode cX11_shape 47 = .ok (.iload_n 2, 1) := by decide +kernel
theorem dX11_shape_48 : decode cX11_shape 48 = .ok (.invokevirtual 230, 3) := by decide +kernel
theorem dX11_shape_51 : decode cX11_shape 51 = .ok (.aload_n 0, 1) := by decide +kernel
theorem dX11_shape_52 : decode cX11_shape 52 = .ok (.getfield 67, 3) := by decide +kernel
theorem dX11_shape_55 : decode cX11_shape 55 = .ok (.iload_n 3, 1) := by decide +kernel
theorem dX11_shape_56 : decode cX11_shape 56 = .ok (.invokevirtual 233, 3) := by decide +kernel
theorem dX11_shape_59 : decode cX11_shape 59 = .ok (.ireturn, 1) := by decide +kernel
set_option maxRecDepth 20000 in
theorem sX11_shape_0 {P : Option Value → AH → Prop} (h : AH) (r0 : Nat) (x1 : Int32) (x2 : Int32) (x3 : Int32) (hf : (¬ (¬ x1 < 0 ∧ ¬ 4 ≤ x1) → P (some (.int (-2))) h) ∧ ((¬ x1 < 0 ∧ ¬ 4 ≤ x1) → (¬ (¬ x2 < (-2) ∧ ¬ 2 < x2) → P (some (.int (-2))) h) ∧ ((¬ x2 < (-2) ∧ ¬ 2 < x2) → (x3 < 0 → P (some (.int (-2))) h) ∧ (¬ x3 < 0 → (x3 < 16 → (isO h 11 r0) ∧ ((isO h 3 (gF h r0 2)) ∧ ((isA h 3 (gF h (gF h r0 2) 11)) ∧ ((vp_in x1 (ln (gF h (gF h r0 2) 11))) ∧ ((isO h 0 (gF h r0 9)) ∧ ((isO h 0 (gF h (gF h (gF h r0 2) 11) x1.toNatClampNeg)) ∧ ((isA h 1 (gF h (gF h (gF h (gF h r0 2) 11) x1.toNatClampNeg) 0)) ∧ ((isA h 1 (gF h (gF h r0 9) 0)) ∧ (((Int32.toNatClampNeg 0) + (Int32.toNatClampNeg 4) ≤ ln (gF h (gF h (gF h (gF h r0 2) 11) x1.toNatClampNeg) 0)) ∧ (((Int32.toNatClampNeg 0) + (Int32.toNatClampNeg 4) ≤ ln (gF h (gF h r0 9) 0)) ∧ ((isO h 0 (gF (rL h (gF h (gF h r0 9) 0) (va_cpy (gL h (gF h (gF h (gF h (gF h r0 2) 11) x1.toNatClampNeg) 0)) (gL h (gF h (gF h r0 9) 0)) (Int32.toNatClampNeg 0) (Int32.toNatClampNeg 0) (Int32.toNatClampNeg 4))) r0 9)) ∧ (Call mX0_grow [.ref (gF (rL h (gF h (gF h r0 9) 0) (va_cpy (gL h (gF h (gF h (gF h (gF h r0 2) 11) x1.toNatClampNeg) 0)) (gL h (gF h (gF h r0 9) 0)) (Int32.toNatClampNeg 0) (Int32.toNatClampNeg 0) (Int32.toNatClampNeg 4))) r0 9), .int x2] (rL h (gF h (gF h r0 9) 0) (va_cpy (gL h (gF h (gF h (gF h (gF h r0 2) 11) x1.toNatClampNeg) 0)) (gL h (gF h (gF h r0 9) 0)) (Int32.toNatClampNeg 0) (Int32.toNatClampNeg 0) (Int32.toNatClampNeg 4))) (fun v h16 => v = none ∧ ((isO h16 11 r0) ∧ ((isO h16 0 (gF h16 r0 9)) ∧ ((isA h16 1 (gF h16 (gF h16 r0 9) 0)) ∧ ((vp_in (x3 / 4) (ln (gF h16 (gF h16 r0 9) 0))) ∧ (P (some (.int ((lushr (gL h16 (gF h16 (gF h16 r0 9) 0) (x3 / 4).toNatClampNeg) ((x3 % 4) * 16)).toInt32 &&& 65535))) h16)))))))))))))))))) ∧ (¬ x3 < 16 → P (some (.int (-2))) h))))) : Rr mX11_shape 0 0 0 [(0, .ref r0), (1, .int x1), (2, .int x2), (3, .int x3)] [] h P := by
  refine R_iload_n dX11_shape_0 rfl 1 rfl ?_
  refine R_callS (N := mX11_isInk) (as := [.int x1]) (rest := []) (kc2 := 0) (ks2 := 0) dX11_shape_1 lmX11_150 oX11_isInk (Nat.le_of_ble_eq_true rfl) rfl rfl (Nat.le_of_ble_eq_true rfl) rfl rfl (aX11_isInk  ?_)
  refine R_if_eq_b (tgt := 24) dX11_shape_4 (by decide) (fun b1 => ?_) (fun b1 => ?_)
  · have hf := hf.1 b1
    refine R_bipush (v := (-2)) dX11_shape_24 (by decide) ?_
    exact R_iret dX11_shape_26 rfl rfl hf
  · have hf := hf.2 b1
    refine R_iload_n dX11_shape_7 rfl 2 rfl ?_
    refine R_callS (N := mX11_isSpread) (as := [.int x2]) (rest := []) (kc2 := 0) (ks2 := 0) dX11_shape_8 lmX11_220 oX11_isSpread (Nat.le_of_ble_eq_true rfl) rfl rfl (Nat.le_of_ble_eq_true rfl) rfl rfl (aX11_isSpread  ?_)
    refine R_if_eq_b (tgt := 24) dX11_shape_11 (by decide) (fun b2 => ?_) (fun b2 => ?_)
    · have hf := hf.1 b2
      refine R_bipush (v := (-2)) dX11_shape_24 (by decide) ?_
      exact R_iret dX11_shape_26 rfl rfl hf
    · have hf := hf.2 b2
      refine R_iload_n dX11_shape_14 rfl 3 rfl ?_
      refine R_if_lt (tgt := 24) dX11_shape_15 (by decide) (fun b3 => ?_) (fun b3 => ?_)
      · have hf := hf.1 b3
        refine R_bipush (v := (-2)) dX11_shape_24 (by decide) ?_
        exact R_iret dX11_shape_26 rfl rfl hf
      · have hf := hf.2 b3
        refine R_iload_n dX11_shape_18 rfl 3 rfl ?_
        refine R_bipush (v := 16) dX11_shape_19 (by decide) ?_
        refine R_icmp_lt (tgt := 27) dX11_shape_21 (by decide) (fun b4 => ?_) (fun b4 => ?_)
        · have hf := hf.1 b4
          refine R_aload_n dX11_shape_27 rfl 0 rfl ?_
          obtain ⟨ob5, hf⟩ := hf
          refine G11_9 dX11_shape_28 lfX11_67 ob5 ?_
          refine R_aload_n dX11_shape_31 rfl 0 rfl ?_
          refine G11_2 dX11_shape_32 lfX11_24 ob5 ?_
          obtain ⟨ob6, hf⟩ := hf
          refine G3_11 dX11_shape_35 lfX11_223 ob6 ?_
          refine R_iload_n dX11_shape_38 rfl 1 rfl ?_
          obtain ⟨ob7, hf⟩ := hf
          obtain ⟨ob8, hf⟩ := hf
          refine R_aaload (t := 3) (by decide) dX11_shape_39 ob7 ob8 ?_
          obtain ⟨ob9, hf⟩ := hf
          obtain ⟨ob10, hf⟩ := hf
          obtain ⟨ob11, hf⟩ := hf
          obtain ⟨ob12, hf⟩ := hf
          obtain ⟨ob13, hf⟩ := hf
          obtain ⟨ob14, hf⟩ := hf
          refine R_callV (ci := 0) (N := mX0_copy) (as := [.ref (gF h (gF h (gF h r0 2) 11) x1.toNatClampNeg)]) (rest := []) (kc2 := 0) (ks2 := 0) dX11_shape_40 lmX11_226 oX0_copy (Nat.le_of_ble_eq_true rfl) rfl rfl (Nat.le_of_ble_eq_true rfl) rfl rfl ob9 ok0 (aX0_copy ob10 ob9 ob11 ob12 ob13 ob14 ?_)
          refine R_aload_n dX11_shape_43 rfl 0 rfl ?_
          refine G11_9 dX11_shape_44 lfX11_67 ob5 ?_
          refine R_iload_n dX11_shape_47 rfl 2 rfl ?_
          obtain ⟨ob15, hf⟩ := hf
          refine R_callV (ci := 0) (N := mX0_grow) (as := [.int x2]) (rest := []) (kc2 := 0) (ks2 := 0) dX11_shape_48 lmX11_230 oX0_grow (Nat.le_of_ble_eq_true rfl) rfl rfl (Nat.le_of_ble_eq_true rfl) rfl rfl ob15 ok0 (Call.mono hf ?_)
          rintro _ h16 ⟨rfl, hf⟩
          refine R_aload_n dX11_shape_51 rfl 0 rfl ?_
          obtain ⟨ob17, hf⟩ := hf
          refine G11_9 dX11_shape_52 lfX11_67 ob17 ?_
          refine R_iload_n dX11_shape_55 rfl 3 rfl ?_
          obtain ⟨ob18, hf⟩ := hf
          obtain ⟨ob19, hf⟩ := hf
          obtain ⟨ob20, hf⟩ := hf
          refine R_callV (ci := 0) (N := mX0_row) (as := [.int x3]) (rest := []) (kc2 := 0) (ks2 := 0) dX11_shape_56 lmX11_233 oX0_row (Nat.le_of_ble_eq_true rfl) rfl rfl (Nat.le_of_ble_eq_true rfl) rfl rfl ob18 ok0 (aX0_row ob18 ob19 ob20 ?_)
          exact R_iret dX11_shape_59 rfl rfl hf
        · have hf := hf.2 b4
          refine R_bipush (v := (-2)) dX11_shape_24 (by decide) ?_
          exact R_iret dX11_shape_26 rfl rfl hf
theorem dX11_shift_0 : decode cX11_shift 0 = .ok (.iload_n 1, 1) := by decide +kernel
theorem dX11_shift_1 : decode cX11_shift 1 = .ok (.iload_n 2, 1) := by decide +kernel
theorem dX11_shift_2 : decode cX11_shift 2 = .ok (.iload_n 3, 1) := by decide +kernel
theorem dX11_shift_3 : decode cX11_shift 3 = .ok (.iload 4, 2) := by decide +kernel
theorem dX11_shift_5 : decode cX11_shift 5 = .ok (.invokestatic 158, 3) := by decide +kernel
theorem dX11_shift_8 : decode cX11_shift 8 = .ok (.ifCond .eq 19, 3) := by decide +kernel
theorem dX11_shift_11 : decode cX11_shift 11 = .ok (.iload 5, 2) := by decide +kernel
theorem dX11_shift_13 : decode cX11_shift 13 = .ok (.invokestatic 162, 3) := by decide +kernel
theorem dX11_shift_16 : decode cX11_shift 16 = .ok (.ifCond .eq 11, 3) := by decide +kernel
theorem dX11_shift_19 : decode cX11_shift 19 = .ok (.iload 6, 2) := by decide +kernel
theorem dX11_shift_21 : decode cX11_shift 21 = .ok (.invokestatic 162, 3) := by decide +kernel
theorem dX11_shift_24 : decode cX11_shift 24 = .ok (.ifCond .ne 7, 3) := by decide +kernel
theorem dX11_shift_27 : decode cX11_shift 27 = .ok (.sipush (-9999), 3) := by decide +kernel
theorem dX11_shift_30 : decode cX11_shift 30 = .ok (.ireturn, 1) := by decide +kernel
theorem dX11_shift_31 : decode cX11_shift 31 = .ok (.iload 7, 2) := by decide +kernel
theorem dX11_shift_33 : decode cX11_shift 33 = .ok (.lookupswitch 53 #[(0, 27), (1, 40)], 27) := by decide +kernel
theorem dX11_shift_60 : decode cX11_shift 60 = .ok (.iload_n 1, 1) := by decide +kernel
theorem dX11_shift_61 : decode cX11_shift 61 = .ok (.iload_n 3, 1) := by decide +kernel
theorem dX11_shift_62 : decode cX11_shift 62 = .ok (.iload 4, 2) := by decide +kernel
theorem dX11_shift_64 : decode cX11_shift 64 = .ok (.iload 5, 2) := by decide +kernel
theorem dX11_shift_66 : decode cX11_shift 66 = .ok (.iload 6, 2) := by decide +kernel
theorem dX11_shift_68 : decode cX11_shift 68 = .ok (.invokestatic 165, 3) := by decide +kernel
theorem dX11_shift_71 : decode cX11_shift 71 = .ok (.iadd, 1) := by decide +kernel
theorem dX11_shift_72 : decode cX11_shift 72 = .ok (.ireturn, 1) := by decide +kernel
theorem dX11_shift_73 : decode cX11_shift 73 = .ok (.iload_n 2, 1) := by decide +kernel
theorem dX11_shift_74 : decode cX11_shift 74 = .ok (.iload_n 3, 1) := by decide +kernel
theorem dX11_shift_75 : decode cX11_shift 75 = .ok (.iload 4, 2) := by decide +kernel
theorem dX11_shift_77 : decode cX11_shift 77 = .ok (.iload 5, 2) := by decide +kernel
theorem dX11_shift_79 : decode cX11_shift 79 = .ok (.iload 6, 2) := by decide +kernel
theorem dX11_shift_81 : decode cX11_shift 81 = .ok (.invokestatic 169, 3) := by decide +kernel
theorem dX11_shift_84 : decode cX11_shift 84 = .ok (.iadd, 1) := by decide +kernel
theorem dX11_shift_85 : decode cX11_shift 85 = .ok (.ireturn, 1) := by decide +kernel
theorem dX11_shift_86 : decode cX11_shift 86 = .ok (.sipush (-9999), 3) := by decide +kernel
theorem dX11_shift_89 : decode cX11_shift 89 = .ok (.ireturn, 1) := by decide +kernel
set_option maxRecDepth 20000 in
theorem sX11_shift_0 {P : Option Value → AH → Prop} (h : AH) (r0 : Nat) (x1 : Int32) (x2 : Int32) (x3 : Int32) (x4 : Int32) (x5 : Int32) (x6 : Int32) (x7 : Int32) (hf : (¬ ((¬ x1 < (-9) ∧ ¬ 9 < x1) ∧ (¬ x2 < (-9) ∧ ¬ 9 < x2) ∧ (¬ x3 < (-9) ∧ ¬ 9 < x3) ∧ ¬ x4 < 0 ∧ ¬ 9 < x4) → P (some (.int (-9999))) h) ∧ (((¬ x1 < (-9) ∧ ¬ 9 < x1) ∧ (¬ x2 < (-9) ∧ ¬ 9 < x2) ∧ (¬ x3 < (-9) ∧ ¬ 9 < x3) ∧ ¬ x4 < 0 ∧ ¬ 9 < x4) → (¬ (¬ x5 < 0 ∧ ¬ 200 < x5) → P (some (.int (-9999))) h) ∧ ((¬ x5 < 0 ∧ ¬ 200 < x5) → ((¬ x6 < 0 ∧ ¬ 200 < x6) → (x7 = 0 → P (some (.int (x1 + (((x4 * x5) - (x3 * x6)) / 100)))) h) ∧ (¬ x7 = 0 → (x7 = 1 → P (some (.int (x2 + (((x3 * x5) + (x4 * x6)) / 100)))) h) ∧ (¬ x7 = 1 → P (some (.int (-9999))) h))) ∧ (¬ (¬ x6 < 0 ∧ ¬ 200 < x6) → P (some (.int (-9999))) h)))) : Rr mX11_shift 0 0 0 [(0, .ref r0), (1, .int x1), (2, .int x2), (3, .int x3), (4, .int x4), (5, .int x5), (6, .int x6), (7, .int x7)] [] h P := by
  refine R_iload_n dX11_shift_0 rfl 1 rfl ?_
  refine R_iload_n dX11_shift_1 rfl 2 rfl ?_
  refine R_iload_n dX11_shift_2 rfl 3 rfl ?_
  refine R_iload dX11_shift_3 4 rfl ?_
  refine R_callS (N := mX11_isSlip) (as := [.int x1, .int x2, .int x3, .int x4]) (rest := []) (kc2 := 0) (ks2 := 0) dX11_shift_5 lmX11_158 oX11_isSlip (Nat.le_of_ble_eq_true rfl) rfl rfl (Nat.le_of_ble_eq_true rfl) rfl rfl (aX11_isSlip  ?_)
  refine R_if_eq_b (tgt := 27) dX11_shift_8 (by decide) (fun b1 => ?_) (fun b1 => ?_)
  · have hf := hf.1 b1
    refine R_sipush (v := (-9999)) dX11_shift_27 (by decide) ?_
    exact R_iret dX11_shift_30 rfl rfl hf
  · have hf := hf.2 b1
    refine R_iload dX11_shift_11 5 rfl ?_
    refine R_callS (N := mX11_isPlace) (as := [.int x5]) (rest := []) (kc2 := 0) (ks2 := 0) dX11_shift_13 lmX11_162 oX11_isPlace (Nat.le_of_ble_eq_true rfl) rfl rfl (Nat.le_of_ble_eq_true rfl) rfl rfl (aX11_isPlace  ?_)
    refine R_if_eq_b (tgt := 27) dX11_shift_16 (by decide) (fun b2 => ?_) (fun b2 => ?_)
    · have hf := hf.1 b2
      refine R_sipush (v := (-9999)) dX11_shift_27 (by decide) ?_
      exact R_iret dX11_shift_30 rfl rfl hf
    · have hf := hf.2 b2
      refine R_iload dX11_shift_19 6 rfl ?_
      refine R_callS (N := mX11_isPlace) (as := [.int x6]) (rest := []) (kc2 := 0) (ks2 := 0) dX11_shift_21 lmX11_162 oX11_isPlace (Nat.le_of_ble_eq_true rfl) rfl rfl (Nat.le_of_ble_eq_true rfl) rfl rfl (aX11_isPlace  ?_)
      refine R_if_ne_b (tgt := 31) dX11_shift_24 (by decide) (fun b3 => ?_) (fun b3 => ?_)
      · have hf := hf.1 b3
        refine R_iload dX11_shift_31 7 rfl ?_
        by_cases b4 : x7 = 0
        · have hf := hf.1 b4
          refine R_lookup (off := 27) (tgt := 60) dX11_shift_33 (by decide) (by rw [b4]; decide) (by decide) ?_
          refine R_iload_n dX11_shift_60 rfl 1 rfl ?_
          refine R_iload_n dX11_shift_61 rfl 3 rfl ?_
          refine R_iload dX11_shift_62 4 rfl ?_
          refine R_iload dX11_shift_64 5 rfl ?_
          refine R_iload dX11_shift_66 6 rfl ?_
          refine R_callS (N := mX11_turnedAcross) (as := [.int x3, .int x4, .int x5, .int x6]) (rest := [.int x1]) (kc2 := 0) (ks2 := 0) dX11_shift_68 lmX11_165 oX11_turnedAcross (Nat.le_of_ble_eq_true rfl) rfl rfl (Nat.le_of_ble_eq_true rfl) rfl rfl (aX11_turnedAcross  ?_)
          refine R_iadd dX11_shift_71 ?_
          exact R_iret dX11_shift_72 rfl rfl hf
        have hf := hf.2 b4
        by_cases b5 : x7 = 1
        · have hf := hf.1 b5
          refine R_lookup (off := 40) (tgt := 73) dX11_shift_33 (by decide) (by rw [b5]; decide) (by decide) ?_
          refine R_iload_n dX11_shift_73 rfl 2 rfl ?_
          refine R_iload_n dX11_shift_74 rfl 3 rfl ?_
          refine R_iload dX11_shift_75 4 rfl ?_
          refine R_iload dX11_shift_77 5 rfl ?_
          refine R_iload dX11_shift_79 6 rfl ?_
          refine R_callS (N := mX11_turnedUp) (as := [.int x3, .int x4, .int x5, .int x6]) (rest := [.int x2]) (kc2 := 0) (ks2 := 0) dX11_shift_81 lmX11_169 oX11_turnedUp (Nat.le_of_ble_eq_true rfl) rfl rfl (Nat.le_of_ble_eq_true rfl) rfl rfl (aX11_turnedUp  ?_)
          refine R_iadd dX11_shift_84 ?_
          exact R_iret dX11_shift_85 rfl rfl hf
        have hf := hf.2 b5
        refine R_lookup (off := 53) (tgt := 86) dX11_shift_33 (by decide) (by rw [lv_osw b4 (by decide)]; rw [lv_osw b5 (by decide)]; rfl) (by decide) ?_
        refine R_sipush (v := (-9999)) dX11_shift_86 (by decide) ?_
        exact R_iret dX11_shift_89 rfl rfl hf
      · have hf := hf.2 b3
        refine R_sipush (v := (-9999)) dX11_shift_27 (by decide) ?_
        exact R_iret dX11_shift_30 rfl rfl hf
theorem aX11_shift {h : AH} {P : Option Value → AH → Prop} {r0 : Nat} {x1 : Int32} {x2 : Int32} {x3 : Int32} {x4 : Int32} {x5 : Int32} {x6 : Int32} {x7 : Int32}  (k : P (some (.int (if ((¬ x1 < (-9) ∧ ¬ 9 < x1) ∧ (¬ x2 < (-9) ∧ ¬ 9 < x2) ∧ (¬ x3 < (-9) ∧ ¬ 9 < x3) ∧ ¬ x4 < 0 ∧ ¬ 9 < x4) then (if (¬ x5 < 0 ∧ ¬ 200 < x5) then (if (¬ x6 < 0 ∧ ¬ 200 < x6) then (if x7 = 0 then (x1 + (((x4 * x5) - (x3 * x6)) / 100)) else (if x7 = 1 then (x2 + (((x3 * x5) + (x4 * x6)) / 100)) else (-9999))) else (-9999)) else (-9999)) else (-9999)))) h) : Call mX11_shift [.ref r0, .int x1, .int x2, .int x3, .int x4, .int x5, .int x6, .int x7] h P :=
  Call.ofR (by decide +kernel) (Nat.le_of_ble_eq_true rfl) (sX11_shift_0 h r0 x1 x2 x3 x4 x5 x6 x7 (⟨fun b0 => by rw [if_neg b0] at k; exact k, fun b0 => ⟨fun b1 => by rw [if_pos b0, if_neg b1] at k; exact k, fun b1 => ⟨fun b2 => ⟨fun b3 => by rw [if_pos b0, if_pos b1, if_pos b2, if_pos b3] at k; exact k, fun b3 => ⟨fun b4 => by rw [if_pos b0, if_pos b1, if_pos b2, if_neg b3, if_pos b4] at k; exact k, fun b4 => by rw [if_pos b0, if_pos b1, if_pos b2, if_neg b3, if_neg b4] at k; exact k⟩⟩, fun b2 => by rw [if_pos b0, if_pos b1, if_neg b2] at k; exact k⟩⟩⟩))
theorem dX11_sign_0 : decode cX11_sign 0 = .ok (.aload_n 0, 1) := by decide +kernel
theorem dX11_sign_1 : decode cX11_sign 1 = .ok (.getfield 71, 3) := by decide +kernel
theorem dX11_sign_4 : decode cX11_sign 4 = .ok (.invokevirtual 277, 3) := by decide +kernel
theorem dX11_sign_7 : decode cX11_sign 7 = .ok (.iconst 0, 1) := by decide +kernel
theorem dX11_sign_8 : decode cX11_sign 8 = .ok (.istore_n 1, 1) := by decide +kernel
theorem dX11_sign_9 : decode cX11_sign 9 = .ok (.iload_n 1, 1) := by decide +kernel
theorem dX11_sign_10 : decode cX11_sign 10 = .ok (.iconst 4, 1) := by decide +kernel
theorem dX11_sign_11 : decode cX11_sign 11 = .ok (.if_icmp .ge 40, 3) := by decide +kernel
theorem dX11_sign_14 : decode cX11_sign 14 = .ok (.aload_n 0, 1) := by decide +kernel
theorem dX11_sign_15 : decode cX11_sign 15 = .ok (.getfield 62, 3) := by decide +kernel
theorem dX11_sign_18 : decode cX11_sign 18 = .ok (.iload_n 1, 1) := by decide +kernel
theorem dX11_sign_19 : decode cX11_sign 19 = .ok (.aaload, 1) := by decide +kernel
theorem dX11_sign_20 : decode cX11_sign 20 = .ok (.aload_n 0, 1) := by decide +kernel
theorem dX11_sign_21 : decode cX11_sign 21 = .ok (.getfield 24, 3) := by decide +kernel
theorem dX11_sign_24 : decode cX11_sign 24 = .ok (.getfield 223, 3) := by decide +kernel
theorem dX11_sign_27 : decode cX11_sign 27 = .ok (.iload_n 1, 1) := by decide +kernel
theorem dX11_sign_28 : decode cX11_sign 28 = .ok (.aaload, 1) := by decide +kernel
theorem dX11_sign_29 : decode cX11_sign 29 = .ok (.invokevirtual 226, 3) := by decide +kernel
theorem dX11_sign_32 : decode cX11_sign 32 = .ok (.aload_n 0, 1) := by decide +kernel
theorem dX11_sign_33 : decode cX11_sign 33 = .ok (.getfield 71, 3) := by decide +kernel
theorem dX11_sign_36 : decode cX11_sign 36 = .ok (.aload_n 0, 1) := by decide +kernel
theorem dX11_sign_37 : decode cX11_sign 37 = .ok (.getfield 62, 3) := by decide +kernel
theorem dX11_sign_40 : decode cX11_sign 40 = .ok (.iload_n 1, 1) := by decide +kernel
theorem dX11_sign_41 : decode cX11_sign 41 = .ok (.aaload, 1) := by decide +kernel
theorem dX11_sign_42 : decode cX11_sign 42 = .ok (.invokevirtual 280, 3) := by decide +kernel
theorem dX11_sign_45 : decode cX11_sign 45 = .ok (.iinc 1 1, 3) := by decide +kernel
theorem dX11_sign_48 : decode cX11_sign 48 = .ok (.goto (-39), 3) := by decide +kernel
theorem dX11_sign_51 : decode cX11_sign 51 = .ok (.aload_n 0, 1) := by decide +kernel
theorem dX11_sign_52 : decode cX11_sign 52 = .ok (.iconst 1, 1) := by decide +kernel
theorem dX11_sign_53 : decode cX11_sign 53 = .ok (.putfield 283, 3) := by decide +kernel
theorem dX11_sign_56 : decode cX11_sign 56 = .ok (.aload_n 0, 1) := by decide +kernel
theorem dX11_sign_57 : decode cX11_sign 57 = .ok (.getfield 71, 3) := by decide +kernel
theorem dX11_sign_60 : decode cX11_sign 60 = .ok (.invokevirtual 286, 3) := by decide +kernel
theorem dX11_sign_63 : decode cX11_sign 63 = .ok (.ireturn, 1) := by decide +kernel
set_option maxRecDepth 20000 in
theorem sX11_sign_0 {P : Option Value → AH → Prop} (h : AH) (r0 : Nat) (hf : (isO h 11 r0) ∧ ((isO h 0 (gF h r0 10)) ∧ (Call mX0_clear [.ref (gF h r0 10)] h (fun v h3 => v = none ∧ (Rr mX11_sign 0 0 9 [(0, .ref r0), (1, .int 0)] [] h3 P))))) : Rr mX11_sign 0 0 0 [(0, .ref r0)] [] h P := by
  refine R_aload_n dX11_sign_0 rfl 0 rfl ?_
  obtain ⟨ob1, hf⟩ := hf
  refine G11_10 dX11_sign_1 lfX11_71 ob1 ?_
  obtain ⟨ob2, hf⟩ := hf
  refine R_callV (ci := 0) (N := mX0_clear) (as := []) (rest := []) (kc2 := 0) (ks2 := 0) dX11_sign_4 lmX11_277 oX0_clear (Nat.le_of_ble_eq_true rfl) rfl rfl (Nat.le_of_ble_eq_true rfl) rfl rfl ob2 ok0 (Call.mono hf ?_)
  rintro _ h3 ⟨rfl, hf⟩
  refine R_iconst (v := 0) dX11_sign_7 (by decide) ?_
  refine R_istore_n dX11_sign_8 rfl (by decide) rfl ?_
  exact R_sub [1, 0] rfl hf
set_option maxRecDepth 20000 in
theorem sX11_sign_9 {P : Option Value → AH → Prop} (h : AH) (r0 : Nat) (x1 : Int32) (hf : (4 ≤ x1 → (isO h 11 r0) ∧ ((isO h 0 (gF h r0 10)) ∧ (Call mX0_cells [.ref (gF h r0 10)] (sI h r0 8 1) (fun v h4 => ∃ z5 : Int32, v = some (.int z5) ∧ (P (some (.int z5)) h4))))) ∧ (¬ 4 ≤ x1 → (isO h 11 r0) ∧ ((isA h 3 (gF h r0 7)) ∧ ((vp_in x1 (ln (gF h r0 7))) ∧ ((isO h 3 (gF h r0 2)) ∧ ((isA h 3 (gF h (gF h r0 2) 11)) ∧ ((vp_in x1 (ln (gF h (gF h r0 2) 11))) ∧ ((isO h 0 (gF h (gF h r0 7) x1.toNatClampNeg)) ∧ ((isO h 0 (gF h (gF h (gF h r0 2) 11) x1.toNatClampNeg)) ∧ ((isA h 1 (gF h (gF h (gF h (gF h r0 2) 11) x1.toNatClampNeg) 0)) ∧ ((isA h 1 (gF h (gF h (gF h r0 7) x1.toNatClampNeg) 0)) ∧ (((Int32.toNatClampNeg 0) + (Int32.toNatClampNeg 4) ≤ ln (gF h (gF h (gF h (gF h r0 2) 11) x1.toNatClampNeg) 0)) ∧ (((Int32.toNatClampNeg 0) + (Int32.toNatClampNeg 4) ≤ ln (gF h (gF h (gF h r0 7) x1.toNatClampNeg) 0)) ∧ ((isA h 3 (gF (rL h (gF h (gF h (gF h r0 7) x1.toNatClampNeg) 0) (va_cpy (gL h (gF h (gF h (gF h (gF h r0 2) 11) x1.toNatClampNeg) 0)) (gL h (gF h (gF h (gF h r0 7) x1.toNatClampNeg) 0)) (Int32.toNatClampNeg 0) (Int32.toNatClampNeg 0) (Int32.toNatClampNeg 4))) r0 7)) ∧ ((vp_in x1 (ln (gF (rL h (gF h (gF h (gF h r0 7) x1.toNatClampNeg) 0) (va_cpy (gL h (gF h (gF h (gF h (gF h r0 2) 11) x1.toNatClampNeg) 0)) (gL h (gF h (gF h (gF h r0 7) x1.toNatClampNeg) 0)) (Int32.toNatClampNeg 0) (Int32.toNatClampNeg 0) (Int32.toNatClampNeg 4))) r0 7))) ∧ ((isO h 0 (gF (rL h (gF h (gF h (gF h r0 7) x1.toNatClampNeg) 0) (va_cpy (gL h (gF h (gF h (gF h (gF h r0 2) 11) x1.toNatClampNeg) 0)) (gL h (gF h (gF h (gF h r0 7) x1.toNatClampNeg) 0)) (Int32.toNatClampNeg 0) (Int32.toNatClampNeg 0) (Int32.toNatClampNeg 4))) r0 10)) ∧ (Call mX0_add [.ref (gF (rL h (gF h (gF h (gF h r0 7) x1.toNatClampNeg) 0) (va_cpy (gL h (gF h (gF h (gF h (gF h r0 2) 11) x1.toNatClampNeg) 0)) (gL h (gF h (gF h (gF h r0 7) x1.toNatClampNeg) 0)) (Int32.toNatClampNeg 0) (Int32.toNatClampNeg 0) (Int32.toNatClampNeg 4))) r0 10), .ref (gF (rL h (gF h (gF h (gF h r0 7) x1.toNatClampNeg) 0) (va_cpy (gL h (gF h (gF h (gF h (gF h r0 2) 11) x1.toNatClampNeg) 0)) (gL h (gF h (gF h (gF h r0 7) x1.toNatClampNeg) 0)) (Int32.toNatClampNeg 0) (Int32.toNatClampNeg 0) (Int32.toNatClampNeg 4))) (gF (rL h (gF h (gF h (gF h r0 7) x1.toNatClampNeg) 0) (va_cpy (gL h (gF h (gF h (gF h (gF h r0 2) 11) x1.toNatClampNeg) 0)) (gL h (gF h (gF h (gF h r0 7) x1.toNatClampNeg) 0)) (Int32.toNatClampNeg 0) (Int32.toNatClampNeg 0) (Int32.toNatClampNeg 4))) r0 7) x1.toNatClampNeg)] (rL h (gF h (gF h (gF h r0 7) x1.toNatClampNeg) 0) (va_cpy (gL h (gF h (gF h (gF h (gF h r0 2) 11) x1.toNatClampNeg) 0)) (gL h (gF h (gF h (gF h r0 7) x1.toNatClampNeg) 0)) (Int32.toNatClampNeg 0) (Int32.toNatClampNeg 0) (Int32.toNatClampNeg 4))) (fun v h21 => v = none ∧ (Rr mX11_sign 0 0 9 [(0, .ref r0), (1, .int (x1 + 1))] [] h21 P))))))))))))))))))) : Rr mX11_sign 0 0 9 [(0, .ref r0), (1, .int x1)] [] h P := by
  refine R_iload_n dX11_sign_9 rfl 1 rfl ?_
  refine R_iconst (v := 4) dX11_sign_10 (by decide) ?_
  refine R_icmp_ge (tgt := 51) dX11_sign_11 (by decide) (fun b1 => ?_) (fun b1 => ?_)
  · have hf := hf.1 b1
    refine R_aload_n dX11_sign_51 rfl 0 rfl ?_
    refine R_iconst (v := 1) dX11_sign_52 (by decide) ?_
    obtain ⟨ob2, hf⟩ := hf
    refine S11_8 dX11_sign_53 lfX11_283 ob2 rfl rfl ?_
    refine R_aload_n dX11_sign_56 rfl 0 rfl ?_
    refine G11_10 dX11_sign_57 lfX11_71 ob2 ?_
    refine R_eqF (y := gF h r0 10) rfl ?_
    obtain ⟨ob3, hf⟩ := hf
    refine R_callV (ci := 0) (N := mX0_cells) (as := []) (rest := []) (kc2 := 0) (ks2 := 0) dX11_sign_60 lmX11_286 oX0_cells (Nat.le_of_ble_eq_true rfl) rfl rfl (Nat.le_of_ble_eq_true rfl) rfl rfl ob3 ok0 (Call.mono hf ?_)
    rintro _ h4 ⟨z5, rfl, hf⟩
    exact R_iret dX11_sign_63 rfl rfl hf
  · have hf := hf.2 b1
    refine R_aload_n dX11_sign_14 rfl 0 rfl ?_
    obtain ⟨ob6, hf⟩ := hf
    refine G11_7 dX11_sign_15 lfX11_62 ob6 ?_
    refine R_iload_n dX11_sign_18 rfl 1 rfl ?_
    obtain ⟨ob7, hf⟩ := hf
    obtain ⟨ob8, hf⟩ := hf
    refine R_aaload (t := 3) (by decide) dX11_sign_19 ob7 ob8 ?_
    refine R_aload_n dX11_sign_20 rfl 0 rfl ?_
    refine G11_2 dX11_sign_21 lfX11_24 ob6 ?_
    obtain ⟨ob9, hf⟩ := hf
    refine G3_11 dX11_sign_24 lfX11_223 ob9 ?_
    refine R_iload_n dX11_sign_27 rfl 1 rfl ?_
    obtain ⟨ob10, hf⟩ := hf
    obtain ⟨ob11, hf⟩ := hf
    refine R_aaload (t := 3) (by decide) dX11_sign_28 ob10 ob11 ?_
    obtain ⟨ob12, hf⟩ := hf
    obtain ⟨ob13, hf⟩ := hf
    obtain ⟨ob14, hf⟩ := hf
    obtain ⟨ob15, hf⟩ := hf
    obtain ⟨ob16, hf⟩ := hf
    obtain ⟨ob17, hf⟩ := hf
    refine R_callV (ci := 0) (N := mX0_copy) (as := [.ref (gF h (gF h (gF h r0 2) 11) x1.toNatClampNeg)]) (rest := []) (kc2 := 0) (ks2 := 0) dX11_sign_29 lmX11_226 oX0_copy (Nat.le_of_ble_eq_true rfl) rfl rfl (Nat.le_of_ble_eq_true rfl) rfl rfl ob12 ok0 (aX0_copy ob13 ob12 ob14 ob15 ob16 ob17 ?_)
    refine R_aload_n dX11_sign_32 rfl 0 rfl ?_
    refine G11_10 dX11_sign_33 lfX11_71 ob6 ?_
    refine R_aload_n dX11_sign_36 rfl 0 rfl ?_
    refine G11_7 dX11_sign_37 lfX11_62 ob6 ?_
    refine R_iload_n dX11_sign_40 rfl 1 rfl ?_
    obtain ⟨ob18, hf⟩ := hf
    obtain ⟨ob19, hf⟩ := hf
    refine R_aaload (t := 3) (by decide) dX11_sign_41 ob18 ob19 ?_
    obtain ⟨ob20, hf⟩ := hf
    refine R_callV (ci := 0) (N := mX0_add) (as := [.ref (gF (rL h (gF h (gF h (gF h r0 7) x1.toNatClampNeg) 0) (va_cpy (gL h (gF h (gF h (gF h (gF h r0 2) 11) x1.toNatClampNeg) 0)) (gL h (gF h (gF h (gF h r0 7) x1.toNatClampNeg) 0)) (Int32.toNatClampNeg 0) (Int32.toNatClampNeg 0) (Int32.toNatClampNeg 4))) (gF (rL h (gF h (gF h (gF h r0 7) x1.toNatClampNeg) 0) (va_cpy (gL h (gF h (gF h (gF h (gF h r0 2) 11) x1.toNatClampNeg) 0)) (gL h (gF h (gF h (gF h r0 7) x1.toNatClampNeg) 0)) (Int32.toNatClampNeg 0) (Int32.toNatClampNeg 0) (Int32.toNatClampNeg 4))) r0 7) x1.toNatClampNeg)]) (rest := []) (kc2 := 0) (ks2 := 0) dX11_sign_42 lmX11_280 oX0_add (Nat.le_of_ble_eq_true rfl) rfl rfl (Nat.le_of_ble_eq_true rfl) rfl rfl ob20 ok0 (Call.mono hf ?_)
    rintro _ h21 ⟨rfl, hf⟩
    refine R_iinc (v := x1 + 1) dX11_sign_45 1 rfl rfl (by decide) rfl ?_
    refine R_goto (tgt := 9) dX11_sign_48 (by decide) ?_
    exact R_sub [1, 0] rfl hf
theorem dX11_sumOf_0 : decode cX11_sumOf 0 = .ok (.iload_n 1, 1) := by decide +kernel
theorem dX11_sumOf_1 : decode cX11_sumOf 1 = .ok (.iload_n 2, 1) := by decide +kernel
theorem dX11_sumOf_2 : decode cX11_sumOf 2 = .ok (.invokestatic 236, 3) := by decide +kernel
theorem dX11_sumOf_5 : decode cX11_sumOf 5 = .ok (.ifCond .eq 12, 3) := by decide +kernel
theorem dX11_sumOf_8 : decode cX11_sumOf 8 = .ok (.iload_n 3, 1) := by decide +kernel
theorem dX11_sumOf_9 : decode cX11_sumOf 9 = .ok (.iload 4, 2) := by decide +kernel
theorem dX11_sumOf_11 : decode cX11_sumOf 11 = .ok (.invokestatic 236, 3) := by decide +kernel
theorem dX11_sumOf_14 : decode cX11_sumOf 14 = .ok (.ifCond .ne 6, 3) := by decide +kernel
theorem dX11_sumOf_17 : decode cX11_sumOf 17 = .ok (.bipush (-2), 2) := by decide +kernel
theorem dX11_sumOf_19 : decode cX11_sumOf 19 = .ok (.ireturn, 1) := by decide +kernel
theorem dX11_sumOf_20 : decode cX11_sumOf 20 = .ok (.iconst 1, 1) := by decide +kernel
theorem dX11_sumOf_21 : decode cX11_sumOf 21 = .ok (.iload_n 1, 1) := by decide +kernel
theorem dX11_sumOf_22 : decode cX11_sumOf 22 = .ok (.ishl, 1) := by decide +kernel
theorem dX11_sumOf_23 : decode cX11_sumOf 23 = .ok (.iconst 1, 1) := by decide +kernel
theorem dX11_sumOf_24 : decode cX11_sumOf 24 = .ok (.iload_n 2, 1) := by decide +kernel
theorem dX11_sumOf_25 : decode cX11_sumOf 25 = .ok (.ishl, 1) := by decide +kernel
theorem dX11_sumOf_26 : decode cX11_sumOf 26 = .ok (.ior, 1) := by decide +kernel
theorem dX11_sumOf_27 : decode cX11_sumOf 27 = .ok (.iconst 1, 1) := by decide +kernel
theorem dX11_sumOf_28 : decode cX11_sumOf 28 = .ok (.iload_n 3, 1) := by decide +kernel
theorem dX11_sumOf_29 : decode cX11_sumOf 29 = .ok (.ishl, 1) := by decide +kernel
theorem dX11_sumOf_30 : decode cX11_sumOf 30 = .ok (.ior, 1) := by decide +kernel
theorem dX11_sumOf_31 : decode cX11_sumOf 31 = .ok (.iconst 1, 1) := by decide +kernel
theorem dX11_sumOf_32 : decode cX11_sumOf 32 = .ok (.iload 4, 2) := by decide +kernel
theorem dX11_sumOf_34 : decode cX11_sumOf 34 = .ok (.ishl, 1) := by decide +kernel
theorem dX11_sumOf_35 : decode cX11_sumOf 35 = .ok (.ior, 1) := by decide +kernel
theorem dX11_sumOf_36 : decode cX11_sumOf 36 = .ok (.bipush 15, 2) := by decide +kernel
theorem dX11_sumOf_38 : decode cX11_sumOf 38 = .ok (.if_icmp .eq 6, 3) := by decide +kernel
theorem dX11_sumOf_41 : decode cX11_sumOf 41 = .ok (.bipush (-2), 2) := by decide +kernel
theorem dX11_sumOf_43 : decode cX11_sumOf 43 = .ok (.ireturn, 1) := by decide +kernel
theorem dX11_sumOf_44 : decode cX11_sumOf 44 = .ok (.aload_n 0, 1) := by decide +kernel
theorem dX11_sumOf_45 : decode cX11_sumOf 45 = .ok (.getfield 24, 3) := by decide +kernel
theorem dX11_sumOf_48 : decode cX11_sumOf 48 = .ok (.getfield 385, 3) := by decide +kernel
theorem dX11_sumOf_51 : decode cX11_sumOf 51 = .ok (.iload_n 1, 1) := by decide +kernel
theorem dX11_sumOf_52 : decode cX11_sumOf 52 = .ok (.iconst 4, 1) := by decide +kernel
theorem dX11_sumOf_53 : decode cX11_sumOf 53 = .ok (.imul, 1) := by decide +kernel
theorem dX11_sumOf_54 : decode cX11_sumOf 54 = .ok (.iload_n 2, 1) := by decide +kernel
theorem dX11_sumOf_55 : decode cX11_sumOf 55 = .ok (.iadd, 1) := by decide +kernel
theorem dX11_sumOf_56 : decode cX11_sumOf 56 = .ok (.iaload, 1) := by decide +kernel
theorem dX11_sumOf_57 : decode cX11_sumOf 57 = .ok (.aload_n 0, 1) := by decide +kernel
theorem dX11_sumOf_58 : decode cX11_sumOf 58 = .ok (.getfield 24, 3) := by decide +kernel
theorem dX11_sumOf_61 : decode cX11_sumOf 61 = .ok (.getfield 385, 3) := by decide +kernel
theorem dX11_sumOf_64 : decode cX11_sumOf 64 = .ok (.iload_n 2, 1) := by decide +kernel
theorem dX11_sumOf_65 : decode cX11_sumOf 65 = .ok (.iconst 4, 1) := by decide +kernel
theorem dX11_sumOf_66 : decode cX11_sumOf 66 = .ok (.imul, 1) := by decide +kernel
theorem dX11_sumOf_67 : decode cX11_sumOf 67 = .ok (.iload_n 3, 1) := by decide +kernel
theorem dX11_sumOf_68 : decode cX11_sumOf 68 = .ok (.iadd, 1) := by decide +kernel
theorem dX11_sumOf_69 : decode cX11_sumOf 69 = .ok (.iaload, 1) := by decide +kernel
theorem dX11_sumOf_70 : decode cX11_sumOf 70 = .ok (.iadd, 1) := by decide +kernel
theorem dX11_sumOf_71 : decode cX11_sumOf 71 = .ok (.aload_n 0, 1) := by decide +kernel
theorem dX11_sumOf_72 : decode cX11_sumOf 72 = .ok (.getfield 24, 3) := by decide +kernel
theorem dX11_sumOf_75 : decode cX11_sumOf 75 = .ok (.getfield 385, 3) := by decide +kernel
theorem dX11_sumOf_78 : decode cX11_sumOf 78 = .ok (.iload_n 3, 1) := by decide +kernel
theorem dX11_sumOf_79 : decode cX11_sumOf 79 = .ok (.iconst 4, 1) := by decide +kernel
theorem dX11_sumOf_80 : decode cX11_sumOf 80 = .ok (.imul, 1) := by decide +kernel
theorem dX11_sumOf_81 : decode cX11_sumOf 81 = .ok (.iload 4, 2) := by decide +kernel
theorem dX11_sumOf_83 : decode cX11_sumOf 83 = .ok (.iadd, 1) := by decide +kernel
theorem dX11_sumOf_84 : decode cX11_sumOf 84 = .ok (.iaload, 1) := by decide +kernel
theorem dX11_sumOf_85 : decode cX11_sumOf 85 = .ok (.iadd, 1) := by decide +kernel
theorem dX11_sumOf_86 : decode cX11_sumOf 86 = .ok (.ireturn, 1) := by decide +kernel
set_option maxRecDepth 20000 in
theorem sX11_sumOf_0 {P : Option Value → AH → Prop} (h : AH) (r0 : Nat) (x1 : Int32) (x2 : Int32) (x3 : Int32) (x4 : Int32) (hf : (¬ ((¬ x1 < 0 ∧ ¬ 4 ≤ x1) ∧ (¬ x2 < 0 ∧ ¬ 4 ≤ x2) ∧ ¬ x1 = x2) → P (some (.int (-2))) h) ∧ (((¬ x1 < 0 ∧ ¬ 4 ≤ x1) ∧ (¬ x2 < 0 ∧ ¬ 4 ≤ x2) ∧ ¬ x1 = x2) → (((¬ x3 < 0 ∧ ¬ 4 ≤ x3) ∧ (¬ x4 < 0 ∧ ¬ 4 ≤ x4) ∧ ¬ x3 = x4) → ((((((1 : Int32) <<< (x1 &&& 31)) ||| ((1 : Int32) <<< (x2 &&& 31))) ||| ((1 : Int32) <<< (x3 &&& 31))) ||| ((1 : Int32) <<< (x4 &&& 31))) = 15 → (isO h 11 r0) ∧ ((isO h 3 (gF h r0 2)) ∧ ((isA h 0 (gF h (gF h r0 2) 15)) ∧ ((vp_in ((x1 * 4) + x2) (ln (gF h (gF h r0 2) 15))) ∧ ((vp_in ((x2 * 4) + x3) (ln (gF h (gF h r0 2) 15))) ∧ ((vp_in ((x3 * 4) + x4) (ln (gF h (gF h r0 2) 15))) ∧ (P (some (.int (((gI h (gF h (gF h r0 2) 15) ((x1 * 4) + x2).toNatClampNeg) + (gI h (gF h (gF h r0 2) 15) ((x2 * 4) + x3).toNatClampNeg)) + (gI h (gF h (gF h r0 2) 15) ((x3 * 4) + x4).toNatClampNeg)))) h))))))) ∧ (¬ (((((1 : Int32) <<< (x1 &&& 31)) ||| ((1 : Int32) <<< (x2 &&& 31))) ||| ((1 : Int32) <<< (x3 &&& 31))) ||| ((1 : Int32) <<< (x4 &&& 31))) = 15 → P (some (.int (-2))) h)) ∧ (¬ ((¬ x3 < 0 ∧ ¬ 4 ≤ x3) ∧ (¬ x4 < 0 ∧ ¬ 4 ≤ x4) ∧ ¬ x3 = x4) → P (some (.int (-2))) h))) : Rr mX11_sumOf 0 0 0 [(0, .ref r0), (1, .int x1), (2, .int x2), (3, .int x3), (4, .int x4)] [] h P := by
  refine R_iload_n dX11_sumOf_0 rfl 1 rfl ?_
  refine R_iload_n dX11_sumOf_1 rfl 2 rfl ?_
  refine R_callS (N := mX11_areUnlikeInks) (as := [.int x1, .int x2]) (rest := []) (kc2 := 0) (ks2 := 0) dX11_sumOf_2 lmX11_236 oX11_areUnlikeInks (Nat.le_of_ble_eq_true rfl) rfl rfl (Nat.le_of_ble_eq_true rfl) rfl rfl (aX11_areUnlikeInks  ?_)
  refine R_if_eq_b (tgt := 17) dX11_sumOf_5 (by decide) (fun b1 => ?_) (fun b1 => ?_)
  · have hf := hf.1 b1
    refine R_bipush (v := (-2)) dX11_sumOf_17 (by decide) ?_
    exact R_iret dX11_sumOf_19 rfl rfl hf
  · have hf := hf.2 b1
    refine R_iload_n dX11_sumOf_8 rfl 3 rfl ?_
    refine R_iload dX11_sumOf_9 4 rfl ?_
    refine R_callS (N := mX11_areUnlikeInks) (as := [.int x3, .int x4]) (rest := []) (kc2 := 0) (ks2 := 0) dX11_sumOf_11 lmX11_236 oX11_areUnlikeInks (Nat.le_of_ble_eq_true rfl) rfl rfl (Nat.le_of_ble_eq_true rfl) rfl rfl (aX11_areUnlikeInks  ?_)
    refine R_if_ne_b (tgt := 20) dX11_sumOf_14 (by decide) (fun b2 => ?_) (fun b2 => ?_)
    · have hf := hf.1 b2
      refine R_iconst (v := 1) dX11_sumOf_20 (by decide) ?_
      refine R_iload_n dX11_sumOf_21 rfl 1 rfl ?_
      refine R_ishl dX11_sumOf_22 ?_
      refine R_iconst (v := 1) dX11_sumOf_23 (by decide) ?_
      refine R_iload_n dX11_sumOf_24 rfl 2 rfl ?_
      refine R_ishl dX11_sumOf_25 ?_
      refine R_ior dX11_sumOf_26 ?_
      refine R_iconst (v := 1) dX11_sumOf_27 (by decide) ?_
      refine R_iload_n dX11_sumOf_28 rfl 3 rfl ?_
      refine R_ishl dX11_sumOf_29 ?_
      refine R_ior dX11_sumOf_30 ?_
      refine R_iconst (v := 1) dX11_sumOf_31 (by decide) ?_
      refine R_iload dX11_sumOf_32 4 rfl ?_
      refine R_ishl dX11_sumOf_34 ?_
      refine R_ior dX11_sumOf_35 ?_
      refine R_bipush (v := 15) dX11_sumOf_36 (by decide) ?_
      refine R_icmp_eq (tgt := 44) dX11_sumOf_38 (by decide) (fun b3 => ?_) (fun b3 => ?_)
      · have hf := hf.1 b3
        refine R_aload_n dX11_sumOf_44 rfl 0 rfl ?_
        obtain ⟨ob4, hf⟩ := hf
        refine G11_2 dX11_sumOf_45 lfX11_24 ob4 ?_
        obtain ⟨ob5, hf⟩ := hf
        refine G3_15 dX11_sumOf_48 lfX11_385 ob5 ?_
        refine R_iload_n dX11_sumOf_51 rfl 1 rfl ?_
        refine R_iconst (v := 4) dX11_sumOf_52 (by decide) ?_
        refine R_imul dX11_sumOf_53 ?_
        refine R_iload_n dX11_sumOf_54 rfl 2 rfl ?_
        refine R_iadd dX11_sumOf_55 ?_
        obtain ⟨ob6, hf⟩ := hf
        obtain ⟨ob7, hf⟩ := hf
        refine R_iaload dX11_sumOf_56 ob6 ob7 ?_
        refine R_aload_n dX11_sumOf_57 rfl 0 rfl ?_
        refine G11_2 dX11_sumOf_58 lfX11_24 ob4 ?_
        refine G3_15 dX11_sumOf_61 lfX11_385 ob5 ?_
        refine R_iload_n dX11_sumOf_64 rfl 2 rfl ?_
        refine R_iconst (v := 4) dX11_sumOf_65 (by decide) ?_
        refine R_imul dX11_sumOf_66 ?_
        refine R_iload_n dX11_sumOf_67 rfl 3 rfl ?_
        refine R_iadd dX11_sumOf_68 ?_
        obtain ⟨ob8, hf⟩ := hf
        refine R_iaload dX11_sumOf_69 ob6 ob8 ?_
        refine R_iadd dX11_sumOf_70 ?_
        refine R_aload_n dX11_sumOf_71 rfl 0 rfl ?_
        refine G11_2 dX11_sumOf_72 lfX11_24 ob4 ?_
        refine G3_15 dX11_sumOf_75 lfX11_385 ob5 ?_
        refine R_iload_n dX11_sumOf_78 rfl 3 rfl ?_
        refine R_iconst (v := 4) dX11_sumOf_79 (by decide) ?_
        refine R_imul dX11_sumOf_80 ?_
        refine R_iload dX11_sumOf_81 4 rfl ?_
        refine R_iadd dX11_sumOf_83 ?_
        obtain ⟨ob9, hf⟩ := hf
        refine R_iaload dX11_sumOf_84 ob6 ob9 ?_
        refine R_iadd dX11_sumOf_85 ?_
        exact R_iret dX11_sumOf_86 rfl rfl hf
      · have hf := hf.2 b3
        refine R_bipush (v := (-2)) dX11_sumOf_41 (by decide) ?_
        exact R_iret dX11_sumOf_43 rfl rfl hf
    · have hf := hf.2 b2
      refine R_bipush (v := (-2)) dX11_sumOf_17 (by decide) ?_
      exact R_iret dX11_sumOf_19 rfl rfl hf
