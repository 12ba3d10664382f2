theorem dX10_takeLayers_0 : decode cX10_takeLayers 0 = .ok (.iconst 0, 1) := by decide +kernel
theorem dX10_takeLayers_1 : decode cX10_takeLayers 1 = .ok (.istore_n 1, 1) := by decide +kernel
theorem dX10_takeLayers_2 : decode cX10_takeLayers 2 = .ok (.aload_n 0, 1) := by decide +kernel
theorem dX10_takeLayers_3 : decode cX10_takeLayers 3 = .ok (.iconst 0, 1) := by decide +kernel
theorem dX10_takeLayers_4 : decode cX10_takeLayers 4 = .ok (.putfield 58, 3) := by decide +kernel
theorem dX10_takeLayers_7 : decode cX10_takeLayers 7 = .ok (.iconst 0, 1) := by decide +kernel
theorem dX10_takeLayers_8 : decode cX10_takeLayers 8 = .ok (.istore_n 2, 1) := by decide +kernel
theorem dX10_takeLayers_9 : decode cX10_takeLayers 9 = .ok (.iload_n 2, 1) := by decide +kernel
theorem dX10_takeLayers_10 : decode cX10_takeLayers 10 = .ok (.aload_n 0, 1) := by decide +kernel
theorem dX10_takeLayers_11 : decode cX10_takeLayers 11 = .ok (.getfield 29, 3) := by decide +kernel
theorem dX10_takeLayers_14 : decode cX10_takeLayers 14 = .ok (.if_icmp .ge 33, 3) := by decide +kernel
theorem dX10_takeLayers_17 : decode cX10_takeLayers 17 = .ok (.aload_n 0, 1) := by decide +kernel
theorem dX10_takeLayers_18 : decode cX10_takeLayers 18 = .ok (.iload_n 2, 1) := by decide +kernel
theorem dX10_takeLayers_19 : decode cX10_takeLayers 19 = .ok (.iload_n 1, 1) := by decide +kernel
theorem dX10_takeLayers_20 : decode cX10_takeLayers 20 = .ok (.invokevirtual 45, 3) := by decide +kernel
theorem dX10_takeLayers_23 : decode cX10_takeLayers 23 = .ok (.istore_n 1, 1) := by decide +kernel
theorem dX10_takeLayers_24 : decode cX10_takeLayers 24 = .ok (.aload_n 0, 1) := by decide +kernel
theorem dX10_takeLayers_25 : decode cX10_takeLayers 25 = .ok (.getfield 26, 3) := by decide +kernel
theorem dX10_takeLayers_28 : decode cX10_takeLayers 28 = .ok (.iload_n 2, 1) := by decide +kernel
theorem dX10_takeLayers_29 : decode cX10_takeLayers 29 = .ok (.iload_n 1, 1) := by decide +kernel
theorem dX10_takeLayers_30 : decode cX10_takeLayers 30 = .ok (.iastore, 1) := by decide +kernel
theorem dX10_takeLayers_31 : decode cX10_takeLayers 31 = .ok (.aload_n 0, 1) := by decide +kernel
theorem dX10_takeLayers_32 : decode cX10_takeLayers 32 = .ok (.dup, 1) := by decide +kernel
theorem dX10_takeLayers_33 : decode cX10_takeLayers 33 = .ok (.getfield 58, 3) := by decide +kernel
theorem dX10_takeLayers_36 : decode cX10_takeLayers 36 = .ok (.iload_n 1, 1) := by decide +kernel
theorem dX10_takeLayers_37 : decode cX10_takeLayers 37 = .ok (.iadd, 1) := by decide +kernel
theorem dX10_takeLayers_38 : decode cX10_takeLayers 38 = .ok (.putfield 58, 3) := by decide +kernel
theorem dX10_takeLayers_41 : decode cX10_takeLayers 41 = .ok (.iinc 2 1, 3) := by decide +kernel
theorem dX10_takeLayers_44 : decode cX10_takeLayers 44 = .ok (.goto (-35), 3) := by decide +kernel
theorem dX10_takeLayers_47 : decode cX10_takeLayers 47 = .ok (.return_, 1) := by decide +kernel
set_option maxRecDepth 20000 in
theorem sX10_takeLayers_0 {P : Option Value → AH → Prop} (h : AH) (r0 : Nat) (hf : (isO h 10 r0) ∧ (Rr mX10_takeLayers 0 0 9 [(0, .ref r0), (1, .int 0), (2, .int 0)] [] (sI h r0 6 0) P)) : Rr mX10_takeLayers 0 0 0 [(0, .ref r0)] [] h P := by
  refine R_iconst (v := 0) dX10_takeLayers_0 (by decide) ?_
  refine R_istore_n dX10_takeLayers_1 rfl (by decide) rfl ?_
  refine R_aload_n dX10_takeLayers_2 rfl 1 rfl ?_
  refine R_iconst (v := 0) dX10_takeLayers_3 (by decide) ?_
  obtain ⟨ob1, hf⟩ := hf
  refine S10_6 dX10_takeLayers_4 lfX10_58 ob1 ?_
  refine R_iconst (v := 0) dX10_takeLayers_7 (by decide) ?_
  refine R_istore_n dX10_takeLayers_8 rfl (by decide) rfl ?_
  exact R_sub [2, 1, 0] rfl hf
set_option maxRecDepth 20000 in
theorem sX10_takeLayers_9 {P : Option Value → AH → Prop} (h : AH) (r0 : Nat) (x1 : Int32) (x2 : Int32) (hf : (isO h 10 r0) ∧ (((gI h r0 4) ≤ x2 → P none h) ∧ (¬ (gI h r0 4) ≤ x2 → Call mX10_lightest [.ref r0, .int x2, .int x1] h (fun v h3 => ∃ z4 : Int32, v = some (.int z4) ∧ ((isO h3 10 r0) ∧ ((isA h3 0 (gF h3 r0 5)) ∧ ((vp_in x2 (ln (gF h3 r0 5))) ∧ (Rr mX10_takeLayers 0 0 9 [(0, .ref r0), (1, .int z4), (2, .int (x2 + 1))] [] (sI (sI h3 (gF h3 r0 5) x2.toNatClampNeg z4) r0 6 ((gI h3 r0 6) + z4)) P)))))))) : Rr mX10_takeLayers 0 0 9 [(0, .ref r0), (1, .int x1), (2, .int x2)] [] h P := by
  refine R_iload_n dX10_takeLayers_9 rfl 2 rfl ?_
  refine R_aload_n dX10_takeLayers_10 rfl 0 rfl ?_
  obtain ⟨ob1, hf⟩ := hf
  refine G10_4 dX10_takeLayers_11 lfX10_29 ob1 ?_
  refine R_icmp_ge (tgt := 47) dX10_takeLayers_14 (by decide) (fun b2 => ?_) (fun b2 => ?_)
  · have hf := hf.1 b2
    exact R_ret dX10_takeLayers_47 rfl hf
  · have hf := hf.2 b2
    refine R_aload_n dX10_takeLayers_17 rfl 0 rfl ?_
    refine R_iload_n dX10_takeLayers_18 rfl 2 rfl ?_
    refine R_iload_n dX10_takeLayers_19 rfl 1 rfl ?_
    refine R_callV (ci := 10) (N := mX10_lightest) (as := [.int x2, .int x1]) (rest := []) (kc2 := 0) (ks2 := 0) dX10_takeLayers_20 lmX10_45 oX10_lightest (Nat.le_of_ble_eq_true rfl) rfl rfl (Nat.le_of_ble_eq_true rfl) rfl rfl ob1 ok10 (Call.mono hf ?_)
    rintro _ h3 ⟨z4, rfl, hf⟩
    refine R_istore_n dX10_takeLayers_23 rfl (by decide) rfl ?_
    refine R_aload_n dX10_takeLayers_24 rfl 1 rfl ?_
    obtain ⟨ob5, hf⟩ := hf
    refine G10_5 dX10_takeLayers_25 lfX10_26 ob5 ?_
    refine R_iload_n dX10_takeLayers_28 rfl 2 rfl ?_
    refine R_iload_n dX10_takeLayers_29 rfl 0 rfl ?_
    obtain ⟨ob6, hf⟩ := hf
    obtain ⟨ob7, hf⟩ := hf
    refine R_iastore dX10_takeLayers_30 ob6 ob7 ?_
    refine R_aload_n dX10_takeLayers_31 rfl 1 rfl ?_
    refine R_dup dX10_takeLayers_32 rfl ?_
    refine G10_6 dX10_takeLayers_33 lfX10_58 ob5 ?_
    refine R_eqI (y := gI h3 r0 6) (rd_r (ne_oa ob5 ob6 (by decide))) ?_
    refine R_iload_n dX10_takeLayers_36 rfl 0 rfl ?_
    refine R_iadd dX10_takeLayers_37 ?_
    refine S10_6 dX10_takeLayers_38 lfX10_58 ob5 ?_
    refine R_iinc (v := x2 + 1) dX10_takeLayers_41 2 rfl rfl (by decide) rfl ?_
    refine R_goto (tgt := 9) dX10_takeLayers_44 (by decide) ?_
    exact R_sub [2, 1, 0] rfl hf
theorem dX11_causesOf_0 : decode cX11_causesOf 0 = .ok (.aload_n 0, 1) := by decide +kernel
theorem dX11_causesOf_1 : decode cX11_causesOf 1 = .ok (.iconst 0, 1) := by decide +kernel
theorem dX11_causesOf_2 : decode cX11_causesOf 2 = .ok (.iload_n 1, 1) := by decide +kernel
theorem dX11_causesOf_3 : decode cX11_causesOf 3 = .ok (.iconst 0, 1) := by decide +kernel
theorem dX11_causesOf_4 : decode cX11_causesOf 4 = .ok (.invokevirtual 310, 3) := by decide +kernel
theorem dX11_causesOf_7 : decode cX11_causesOf 7 = .ok (.iload_n 2, 1) := by decide +kernel
theorem dX11_causesOf_8 : decode cX11_causesOf 8 = .ok (.if_icmp .gt 5, 3) := by decide +kernel
theorem dX11_causesOf_11 : decode cX11_causesOf 11 = .ok (.iconst 1, 1) := by decide +kernel
theorem dX11_causesOf_12 : decode cX11_causesOf 12 = .ok (.ireturn, 1) := by decide +kernel
theorem dX11_causesOf_13 : decode cX11_causesOf 13 = .ok (.aload_n 0, 1) := by decide +kernel
theorem dX11_causesOf_14 : decode cX11_causesOf 14 = .ok (.iload_n 1, 1) := by decide +kernel
theorem dX11_causesOf_15 : decode cX11_causesOf 15 = .ok (.iload_n 2, 1) := by decide +kernel
theorem dX11_causesOf_16 : decode cX11_causesOf 16 = .ok (.invokevirtual 313, 3) := by decide +kernel
theorem dX11_causesOf_19 : decode cX11_causesOf 19 = .ok (.ifCond .eq 7, 3) := by decide +kernel
theorem dX11_causesOf_22 : decode cX11_causesOf 22 = .ok (.iconst 2, 1) := by decide +kernel
theorem dX11_causesOf_23 : decode cX11_causesOf 23 = .ok (.goto 4, 3) := by decide +kernel
theorem dX11_causesOf_26 : decode cX11_causesOf 26 = .ok (.iconst 0, 1) := by decide +kernel
theorem dX11_causesOf_27 : decode cX11_causesOf 27 = .ok (.istore_n 3, 1) := by decide +kernel
theorem dX11_causesOf_28 : decode cX11_causesOf 28 = .ok (.aload_n 0, 1) := by decide +kernel
theorem dX11_causesOf_29 : decode cX11_causesOf 29 = .ok (.iload_n 1, 1) := by decide +kernel
theorem dX11_causesOf_30 : decode cX11_causesOf 30 = .ok (.iload_n 2, 1) := by decide +kernel
theorem dX11_causesOf_31 : decode cX11_causesOf 31 = .ok (.invokevirtual 316, 3) := by decide +kernel
theorem dX11_causesOf_34 : decode cX11_causesOf 34 = .ok (.ifCond .eq 9, 3) := by decide +kernel
theorem dX11_causesOf_37 : decode cX11_causesOf 37 = .ok (.iload_n 3, 1) := by decide +kernel
theorem dX11_causesOf_38 : decode cX11_causesOf 38 = .ok (.iconst 4, 1) := by decide +kernel
theorem dX11_causesOf_39 : decode cX11_causesOf 39 = .ok (.ior, 1) := by decide +kernel
theorem dX11_causesOf_40 : decode cX11_causesOf 40 = .ok (.goto 4, 3) := by decide +kernel
theorem dX11_causesOf_43 : decode cX11_causesOf 43 = .ok (.iload_n 3, 1) := by decide +kernel
theorem dX11_causesOf_44 : decode cX11_causesOf 44 = .ok (.ireturn, 1) := by decide +kernel
set_option maxRecDepth 20000 in
theorem sX11_causesOf_0 {P : Option Value → AH → Prop} (h : AH) (r0 : Nat) (x1 : Int32) (x2 : Int32) (hf : (isO h 11 r0) ∧ (Call mX11_breadthOf [.ref r0, .int 0, .int x1, .int 0] h (fun v h2 => ∃ z3 : Int32, v = some (.int z3) ∧ ((x2 < z3 → (isO h2 11 r0) ∧ (Call mX11_isJump [.ref r0, .int x1, .int x2] h2 (fun v h6 => ∃ z7 : Int32, v = some (.int z7) ∧ (∀ z9 : Int32, z9 = (if z7 = 0 then 0 else 2) → ((isO h6 11 r0) ∧ (Call mX11_isDrift [.ref r0, .int x1, .int x2] h6 (fun v h11 => ∃ z12 : Int32, v = some (.int z12) ∧ (∀ z14 : Int32, z14 = (if z12 = 0 then z9 else (z9 ||| 4)) → (P (some (.int z14)) h11))))))))) ∧ (¬ x2 < z3 → P (some (.int 1)) h2))))) : Rr mX11_causesOf 0 0 0 [(0, .ref r0), (1, .int x1), (2, .int x2)] [] h P := by
  refine R_aload_n dX11_causesOf_0 rfl 0 rfl ?_
  refine R_iconst (v := 0) dX11_causesOf_1 (by decide) ?_
  refine R_iload_n dX11_causesOf_2 rfl 1 rfl ?_
  refine R_iconst (v := 0) dX11_causesOf_3 (by decide) ?_
  obtain ⟨ob1, hf⟩ := hf
  refine R_callV (ci := 11) (N := mX11_breadthOf) (as := [.int 0, .int x1, .int 0]) (rest := []) (kc2 := 0) (ks2 := 0) dX11_causesOf_4 lmX11_310 oX11_breadthOf (Nat.le_of_ble_eq_true rfl) rfl rfl (Nat.le_of_ble_eq_true rfl) rfl rfl ob1 ok11 (Call.mono hf ?_)
  rintro _ h2 ⟨z3, rfl, hf⟩
  refine R_iload_n dX11_causesOf_7 rfl 2 rfl ?_
  refine R_icmp_gt (tgt := 13) dX11_causesOf_8 (by decide) (fun b4 => ?_) (fun b4 => ?_)
  · have hf := hf.1 b4
    refine R_aload_n dX11_causesOf_13 rfl 0 rfl ?_
    refine R_iload_n dX11_causesOf_14 rfl 1 rfl ?_
    refine R_iload_n dX11_causesOf_15 rfl 2 rfl ?_
    obtain ⟨ob5, hf⟩ := hf
    refine R_callV (ci := 11) (N := mX11_isJump) (as := [.int x1, .int x2]) (rest := []) (kc2 := 0) (ks2 := 0) dX11_causesOf_16 lmX11_313 oX11_isJump (Nat.le_of_ble_eq_true rfl) rfl rfl (Nat.le_of_ble_eq_true rfl) rfl rfl ob5 ok11 (Call.mono hf ?_)
    rintro _ h6 ⟨z7, rfl, hf⟩
    have key : ∀ z9 : Int32, z9 = (if z7 = 0 then 0 else 2) → Rr mX11_causesOf 0 0 27 [(0, .ref r0), (1, .int x1), (2, .int x2)] [.int z9] h6 P := by
      intro z9 ez9
      have hf := hf z9 ez9
      refine R_istore_n dX11_causesOf_27 rfl (by decide) rfl ?_
      refine R_aload_n dX11_causesOf_28 rfl 1 rfl ?_
      refine R_iload_n dX11_causesOf_29 rfl 2 rfl ?_
      refine R_iload_n dX11_causesOf_30 rfl 3 rfl ?_
      obtain ⟨ob10, hf⟩ := hf
      refine R_callV (ci := 11) (N := mX11_isDrift) (as := [.int x1, .int x2]) (rest := []) (kc2 := 0) (ks2 := 0) dX11_causesOf_31 lmX11_316 oX11_isDrift (Nat.le_of_ble_eq_true rfl) rfl rfl (Nat.le_of_ble_eq_true rfl) rfl rfl ob10 ok11 (Call.mono hf ?_)
      rintro _ h11 ⟨z12, rfl, hf⟩
      have key : ∀ z14 : Int32, z14 = (if z12 = 0 then z9 else (z9 ||| 4)) → Rr mX11_causesOf 0 0 44 [] [.int z14] h11 P := by
        intro z14 ez14
        have hf := hf z14 ez14
        exact R_iret dX11_causesOf_44 rfl rfl hf
      refine R_if_eq (tgt := 43) dX11_causesOf_34 (by decide) (fun b13 => ?_) (fun b13 => ?_)
      · refine R_iload_n dX11_causesOf_43 rfl 0 rfl ?_
        exact R_sub [] rfl (key _ (by rw [if_pos b13]))
      · refine R_iload_n dX11_causesOf_37 rfl 0 rfl ?_
        refine R_iconst (v := 4) dX11_causesOf_38 (by decide) ?_
        refine R_ior dX11_causesOf_39 ?_
        refine R_goto (tgt := 44) dX11_causesOf_40 (by decide) ?_
        exact R_sub [] rfl (key _ (by rw [if_neg b13]))
    refine R_if_eq (tgt := 26) dX11_causesOf_19 (by decide) (fun b8 => ?_) (fun b8 => ?_)
    · refine R_iconst (v := 0) dX11_causesOf_26 (by decide) ?_
      exact R_sub [0, 1, 2] rfl (key _ (by rw [if_pos b8]))
    · refine R_iconst (v := 2) dX11_causesOf_22 (by decide) ?_
      refine R_goto (tgt := 27) dX11_causesOf_23 (by decide) ?_
      exact R_sub [0, 1, 2] rfl (key _ (by rw [if_neg b8]))
  · have hf := hf.2 b4
    refine R_iconst (v := 1) dX11_causesOf_11 (by decide) ?_
    exact R_iret dX11_causesOf_12 rfl rfl hf
theorem dX11_cost_0 : decode cX11_cost 0 = .ok (.iload_n 1, 1) := by decide +kernel
theorem dX11_cost_1 : decode cX11_cost 1 = .ok (.iload_n 2, 1) := by decide +kernel
theorem dX11_cost_2 : decode cX11_cost 2 = .ok (.iload_n 3, 1) := by decide +kernel
theorem dX11_cost_3 : decode cX11_cost 3 = .ok (.iload 4, 2) := by decide +kernel
theorem dX11_cost_5 : decode cX11_cost 5 = .ok (.invokestatic 327, 3) := by decide +kernel
theorem dX11_cost_8 : decode cX11_cost 8 = .ok (.ifCond .eq 13, 3) := by decide +kernel
theorem dX11_cost_11 : decode cX11_cost 11 = .ok (.iload 5, 2) := by decide +kernel
theorem dX11_cost_13 : decode cX11_cost 13 = .ok (.iload 6, 2) := by decide +kernel
theorem dX11_cost_15 : decode cX11_cost 15 = .ok (.invokestatic 330, 3) := by decide +kernel
theorem dX11_cost_18 : decode cX11_cost 18 = .ok (.ifCond .ne 7, 3) := by decide +kernel
theorem dX11_cost_21 : decode cX11_cost 21 = .ok (.ldc2_w 333, 3) := by decide +kernel
theorem dX11_cost_24 : decode cX11_cost 24 = .ok (.lreturn, 1) := by decide +kernel
theorem dX11_cost_25 : decode cX11_cost 25 = .ok (.aload_n 0, 1) := by decide +kernel
theorem dX11_cost_26 : decode cX11_cost 26 = .ok (.getfield 81, 3) := by decide +kernel
theorem dX11_cost_29 : decode cX11_cost 29 = .ok (.iload_n 1, 1) := by decide +kernel
theorem dX11_cost_30 : decode cX11_cost 30 = .ok (.iload_n 2, 1) := by decide +kernel
theorem dX11_cost_31 : decode cX11_cost 31 = .ok (.iload_n 3, 1) := by decide +kernel
theorem dX11_cost_32 : decode cX11_cost 32 = .ok (.iload 4, 2) := by decide +kernel
theorem dX11_cost_34 : decode cX11_cost 34 = .ok (.iload 5, 2) := by decide +kernel
theorem dX11_cost_36 : decode cX11_cost 36 = .ok (.iload 6, 2) := by decide +kernel
theorem dX11_cost_38 : decode cX11_cost 38 = .ok (.invokevirtual 335, 3) := by decide +kernel
theorem dX11_cost_41 : decode cX11_cost 41 = .ok (.aload_n 0, 1) := by decide +kernel
theorem dX11_cost_42 : decode cX11_cost 42 = .ok (.getfield 81, 3) := by decide +kernel
theorem dX11_cost_45 : decode cX11_cost 45 = .ok (.getfield 339, 3) := by decide +kernel
theorem dX11_cost_48 : decode cX11_cost 48 = .ok (.aload_n 0, 1) := by decide +kernel
theorem dX11_cost_49 : decode cX11_cost 49 = .ok (.getfield 81, 3) := by decide +kernel
theorem dX11_cost_52 : decode cX11_cost 52 = .ok (.getfield 343, 3) := by decide +kernel
theorem dX11_cost_55 : decode cX11_cost 55 = .ok (.invokestatic 346, 3) := by decide +kernel
theorem dX11_cost_58 : decode cX11_cost 58 = .ok (.lreturn, 1) := by decide +kernel
set_option maxRecDepth 20000 in
theorem sX11_cost_0 {P : Option Value → AH → Prop} (h : AH) (r0 : Nat) (x1 : Int32) (x2 : Int32) (x3 : Int32) (x4 : Int32) (x5 : Int32) (x6 : Int32) (hf : (¬ (¬ x1 < 1 ∧ ¬ 8 < x1 ∧ ¬ x2 < 0 ∧ ¬ 6 < x2 ∧ (¬ x3 < 0 ∧ ¬ 999 < x3) ∧ (¬ x4 < 0 ∧ ¬ 999 < x4)) → P (some (.long (-2))) h) ∧ ((¬ x1 < 1 ∧ ¬ 8 < x1 ∧ ¬ x2 < 0 ∧ ¬ 6 < x2 ∧ (¬ x3 < 0 ∧ ¬ 999 < x3) ∧ (¬ x4 < 0 ∧ ¬ 999 < x4)) → (((¬ x5 < 0 ∧ ¬ 10 < x5) ∧ (¬ x6 < 0 ∧ ¬ 10 < x6) ∧ ¬ 10 < (x5 + x6)) → (isO h 11 r0) ∧ ((isO h 2 (gF h r0 12)) ∧ (Call mX2_weigh [.ref (gF h r0 12), .int x1, .int x2, .int x3, .int x4, .int x5, .int x6] h (fun v h5 => v = none ∧ ((isO h5 11 r0) ∧ ((isO h5 2 (gF h5 r0 12)) ∧ (P (some (.long (lmin (gL h5 (gF h5 r0 12) 2) (gL h5 (gF h5 r0 12) 3)))) h5))))))) ∧ (¬ ((¬ x5 < 0 ∧ ¬ 10 < x5) ∧ (¬ x6 < 0 ∧ ¬ 10 < x6) ∧ ¬ 10 < (x5 + x6)) → P (some (.long (-2))) h))) : Rr mX11_cost 0 0 0 [(0, .ref r0), (1, .int x1), (2, .int x2), (3, .int x3), (4, .int x4), (5, .int x5), (6, .int x6)] [] h P := by
  refine R_iload_n dX11_cost_0 rfl 1 rfl ?_
  refine R_iload_n dX11_cost_1 rfl 2 rfl ?_
  refine R_iload_n dX11_cost_2 rfl 3 rfl ?_
  refine R_iload dX11_cost_3 4 rfl ?_
  refine R_callS (N := mX2_areBounds) (as := [.int x1, .int x2, .int x3, .int x4]) (rest := []) (kc2 := 0) (ks2 := 0) dX11_cost_5 lmX11_327 oX2_areBounds (Nat.le_of_ble_eq_true rfl) rfl rfl (Nat.le_of_ble_eq_true rfl) rfl rfl (aX2_areBounds  ?_)
  refine R_if_eq_b (tgt := 21) dX11_cost_8 (by decide) (fun b1 => ?_) (fun b1 => ?_)
  · have hf := hf.1 b1
    refine R_ldc2 (v := (-2)) dX11_cost_21 lcX11_333 ?_
    exact R_lret dX11_cost_24 rfl hf
  · have hf := hf.2 b1
    refine R_iload dX11_cost_11 5 rfl ?_
    refine R_iload dX11_cost_13 6 rfl ?_
    refine R_callS (N := mX2_areChances) (as := [.int x5, .int x6]) (rest := []) (kc2 := 0) (ks2 := 0) dX11_cost_15 lmX11_330 oX2_areChances (Nat.le_of_ble_eq_true rfl) rfl rfl (Nat.le_of_ble_eq_true rfl) rfl rfl (aX2_areChances  ?_)
    refine R_if_ne_b (tgt := 25) dX11_cost_18 (by decide) (fun b2 => ?_) (fun b2 => ?_)
    · have hf := hf.1 b2
      refine R_aload_n dX11_cost_25 rfl 0 rfl ?_
      obtain ⟨ob3, hf⟩ := hf
      refine G11_12 dX11_cost_26 lfX11_81 ob3 ?_
      refine R_iload_n dX11_cost_29 rfl 1 rfl ?_
      refine R_iload_n dX11_cost_30 rfl 2 rfl ?_
      refine R_iload_n dX11_cost_31 rfl 3 rfl ?_
      refine R_iload dX11_cost_32 4 rfl ?_
      refine R_iload dX11_cost_34 5 rfl ?_
      refine R_iload dX11_cost_36 6 rfl ?_
      obtain ⟨ob4, hf⟩ := hf
      refine R_callV (ci := 2) (N := mX2_weigh) (as := [.int x1, .int x2, .int x3, .int x4, .int x5, .int x6]) (rest := []) (kc2 := 0) (ks2 := 0) dX11_cost_38 lmX11_335 oX2_weigh (Nat.le_of_ble_eq_true rfl) rfl rfl (Nat.le_of_ble_eq_true rfl) rfl rfl ob4 ok2 (Call.mono hf ?_)
      rintro _ h5 ⟨rfl, hf⟩
      refine R_aload_n dX11_cost_41 rfl 0 rfl ?_
      obtain ⟨ob6, hf⟩ := hf
      refine G11_12 dX11_cost_42 lfX11_81 ob6 ?_
      obtain ⟨ob7, hf⟩ := hf
      refine G2_2 dX11_cost_45 lfX11_339 ob7 ?_
      refine R_aload_n dX11_cost_48 rfl 0 rfl ?_
      refine G11_12 dX11_cost_49 lfX11_81 ob6 ?_
      refine G2_3 dX11_cost_52 lfX11_343 ob7 ?_
      refine R_mminL dX11_cost_55 lmX11_346 (by decide) (Nat.le_of_ble_eq_true rfl) ?_
      exact R_lret dX11_cost_58 rfl hf
    · have hf := hf.2 b2
      refine R_ldc2 (v := (-2)) dX11_cost_21 lcX11_333 ?_
      exact R_lret dX11_cost_24 rfl hf
theorem dX11_findOrder_0 : decode cX11_findOrder 0 = .ok (.iconst (-1), 1) := by decide +kernel
theorem dX11_findOrder_1 : decode cX11_findOrder 1 = .ok (.istore_n 1, 1) := by decide +kernel
theorem dX11_findOrder_2 : decode cX11_findOrder 2 = .ok (.iconst 0, 1) := by decide +kernel
theorem dX11_findOrder_3 : decode cX11_findOrder 3 = .ok (.istore_n 2, 1) := by decide +kernel
theorem dX11_findOrder_4 : decode cX11_findOrder 4 = .ok (.iload_n 2, 1) := by decide +kernel
theorem dX11_findOrder_5 : decode cX11_findOrder 5 = .ok (.iconst 4, 1) := by decide +kernel
theorem dX11_findOrder_6 : decode cX11_findOrder 6 = .ok (.if_icmp .ge 99, 3) := by decide +kernel
theorem dX11_findOrder_9 : decode cX11_findOrder 9 = .ok (.iconst 0, 1) := by decide +kernel
theorem dX11_findOrder_10 : decode cX11_findOrder 10 = .ok (.istore_n 3, 1) := by decide +kernel
theorem dX11_findOrder_11 : decode cX11_findOrder 11 = .ok (.iload_n 3, 1) := by decide +kernel
theorem dX11_findOrder_12 : decode cX11_findOrder 12 = .ok (.iconst 4, 1) := by decide +kernel
theorem dX11_findOrder_13 : decode cX11_findOrder 13 = .ok (.if_icmp .ge 86, 3) := by decide +kernel
theorem dX11_findOrder_16 : decode cX11_findOrder 16 = .ok (.iconst 0, 1) := by decide +kernel
theorem dX11_findOrder_17 : decode cX11_findOrder 17 = .ok (.istore 4, 2) := by decide +kernel
theorem dX11_findOrder_19 : decode cX11_findOrder 19 = .ok (.iload 4, 2) := by decide +kernel
theorem dX11_findOrder_21 : decode cX11_findOrder 21 = .ok (.iconst 4, 1) := by decide +kernel
theorem dX11_findOrder_22 : decode cX11_findOrder 22 = .ok (.if_icmp .ge 71, 3) := by decide +kernel
theorem dX11_findOrder_25 : decode cX11_findOrder 25 = .ok (.bipush 6, 2) := by decide +kernel
theorem dX11_findOrder_27 : decode cX11_findOrder 27 = .ok (.iload_n 2, 1) := by decide +kernel
theorem dX11_findOrder_28 : decode cX11_findOrder 28 = .ok (.isub, 1) := by decide +kernel
theorem dX11_findOrder_29 : decode cX11_findOrder 29 = .ok (.iload_n 3, 1) := by decide +kernel
theorem dX11_findOrder_30 : decode cX11_findOrder 30 = .ok (.isub, 1) := by decide +kernel
theorem dX11_findOrder_31 : decode cX11_findOrder 31 = .ok (.iload 4, 2) := by decide +kernel
theorem dX11_findOrder_33 : decode cX11_findOrder 33 = .ok (.isub, 1) := by decide +kernel
theorem dX11_findOrder_34 : decode cX11_findOrder 34 = .ok (.istore 5, 2) := by decide +kernel
theorem dX11_findOrder_36 : decode cX11_findOrder 36 = .ok (.aload_n 0, 1) := by decide +kernel
theorem dX11_findOrder_37 : decode cX11_findOrder 37 = .ok (.iload_n 2, 1) := by decide +kernel
theorem dX11_findOrder_38 : decode cX11_findOrder 38 = .ok (.iload_n 3, 1) := by decide +kernel
theorem dX11_findOrder_39 : decode cX11_findOrder 39 = .ok (.iload 4, 2) := by decide +kernel
theorem dX11_findOrder_41 : decode cX11_findOrder 41 = .ok (.iload 5, 2) := by decide +kernel
theorem dX11_findOrder_43 : decode cX11_findOrder 43 = .ok (.invokevirtual 382, 3) := by decide +kernel
theorem dX11_findOrder_46 : decode cX11_findOrder 46 = .ok (.istore 6, 2) := by decide +kernel
theorem dX11_findOrder_48 : decode cX11_findOrder 48 = .ok (.iload 6, 2) := by decide +kernel
theorem dX11_findOrder_50 : decode cX11_findOrder 50 = .ok (.iload_n 1, 1) := by decide +kernel
theorem dX11_findOrder_51 : decode cX11_findOrder 51 = .ok (.if_icmp .le 36, 3) := by decide +kernel
theorem dX11_findOrder_54 : decode cX11_findOrder 54 = .ok (.iload 6, 2) := by decide +kernel
theorem dX11_findOrder_56 : decode cX11_findOrder 56 = .ok (.istore_n 1, 1) := by decide +kernel
theorem dX11_findOrder_57 : decode cX11_findOrder 57 = .ok (.aload_n 0, 1) := by decide +kernel
theorem dX11_findOrder_58 : decode cX11_findOrder 58 = .ok (.getfield 92, 3) := by decide +kernel
theorem dX11_findOrder_61 : decode cX11_findOrder 61 = .ok (.iconst 0, 1) := by decide +kernel
theorem dX11_findOrder_62 : decode cX11_findOrder 62 = .ok (.iload_n 2, 1) := by decide +kernel
theorem dX11_findOrder_63 : decode cX11_findOrder 63 = .ok (.iastore, 1) := by decide +kernel
theorem dX11_findOrder_64 : decode cX11_findOrder 64 = .ok (.aload_n 0, 1) := by decide +kernel
theorem dX11_findOrder_65 : decode cX11_findOrder 65 = .ok (.getfield 92, 3) := by decide +kernel
theorem dX11_findOrder_68 : decode cX11_findOrder 68 = .ok (.iconst 1, 1) := by decide +kernel
theorem dX11_findOrder_69 : decode cX11_findOrder 69 = .ok (.iload_n 3, 1) := by decide +kernel
theorem dX11_findOrder_70 : decode cX11_findOrder 70 = .ok (.iastore, 1) := by decide +kernel
theorem dX11_findOrder_71 : decode cX11_findOrder 71 = .ok (.aload_n 0, 1) := by decide +kernel
theorem dX11_findOrder_72 : decode cX11_findOrder 72 = .ok (.getfield 92, 3) := by decide +kernel
theorem dX11_findOrder_75 : decode cX11_findOrder 75 = .ok (.iconst 2, 1) := by decide +kernel
theorem dX11_findOrder_76 : decode cX11_findOrder 76 = .ok (.iload 4, 2) := by decide +kernel
theorem dX11_findOrder_78 : decode cX11_findOrder 78 = .ok (.iastore, 1) := by decide +kernel
theorem dX11_findOrder_79 : decode cX11_findOrder 79 = .ok (.aload_n 0, 1) := by decide +kernel
theorem dX11_findOrder_80 : decode cX11_findOrder 80 = .ok (.getfield 92, 3) := by decide +kernel
theorem dX11_findOrder_83 : decode cX11_findOrder 83 = .ok (.iconst 3, 1) := by decide +kernel
theorem dX11_findOrder_84 : decode cX11_findOrder 84 = .ok (.iload 5, 2) := by decide +kernel
theorem dX11_findOrder_86 : decode cX11_findOrder 86 = .ok (.iastore, 1) := by decide +kernel
theorem dX11_findOrder_87 : decode cX11_findOrder 87 = .ok (.iinc 4 1, 3) := by decide +kernel
theorem dX11_findOrder_90 : decode cX11_findOrder 90 = .ok (.goto (-71), 3) := by decide +kernel
theorem dX11_findOrder_93 : decode cX11_findOrder 93 = .ok (.iinc 3 1, 3) := by decide +kernel
theorem dX11_findOrder_96 : decode cX11_findOrder 96 = .ok (.goto (-85), 3) := by decide +kernel
theorem dX11_findOrder_99 : decode cX11_findOrder 99 = .ok (.iinc 2 1, 3) := by decide +kernel
theorem dX11_findOrder_102 : decode cX11_findOrder 102 = .ok (.goto (-98), 3) := by decide +kernel
theorem dX11_findOrder_105 : decode cX11_findOrder 105 = .ok (.iload_n 1, 1) := by decide +kernel
theorem dX11_findOrder_106 : decode cX11_findOrder 106 = .ok (.ireturn, 1) := by decide +kernel
set_option maxRecDepth 20000 in
theorem sX11_findOrder_0 {P : Option Value → AH → Prop} (h : AH) (r0 : Nat) (hf : Rr mX11_findOrder 0 0 4 [(0, .ref r0), (1, .int (-1)), (2, .int 0)] [] h P) : Rr mX11_findOrder 0 0 0 [(0, .ref r0)] [] h P := by
  refine R_iconst (v := (-1)) dX11_findOrder_0 (by decide) ?_
  refine R_istore_n dX11_findOrder_1 rfl (by decide) rfl ?_
  refine R_iconst (v := 0) dX11_findOrder_2 (by decide) ?_
  refine R_istore_n dX11_findOrder_3 rfl (by decide) rfl ?_
  exact R_sub [2, 1, 0] rfl hf
set_option maxRecDepth 20000 in
theorem sX11_findOrder_4 {P : Option Value → AH → Prop} (h : AH) (r0 : Nat) (x1 : Int32) (x2 : Int32) (hf : (4 ≤ x2 → P (some (.int x1)) h) ∧ (¬ 4 ≤ x2 → Rr mX11_findOrder 0 0 11 [(0, .ref r0), (1, .int x1), (2, .int x2), (3, .int 0)] [] h P)) : Rr mX11_findOrder 0 0 4 [(0, .ref r0), (1, .int x1), (2, .int x2)] [] h P := by
  refine R_iload_n dX11_findOrder_4 rfl 2 rfl ?_
  refine R_iconst (v := 4) dX11_findOrder_5 (by decide) ?_
  refine R_icmp_ge (tgt := 105) dX11_findOrder_6 (by decide) (fun b1 => ?_) (fun b1 => ?_)
  · have hf := hf.1 b1
    refine R_iload_n dX11_findOrder_105 rfl 1 rfl ?_
    exact R_iret dX11_findOrder_106 rfl rfl hf
  · have hf := hf.2 b1
    refine R_iconst (v := 0) dX11_findOrder_9 (by decide) ?_
    refine R_istore_n dX11_findOrder_10 rfl (by decide) rfl ?_
    exact R_sub [1, 2, 3, 0] rfl hf
set_option maxRecDepth 20000 in
theorem sX11_findOrder_11 {P : Option Value → AH → Prop} (h : AH) (r0 : Nat) (x1 : Int32) (x2 : Int32) (x3 : Int32) (hf : (4 ≤ x3 → Rr mX11_findOrder 0 0 4 [(0, .ref r0), (1, .int x1), (2, .int (x2 + 1))] [] h P) ∧ (¬ 4 ≤ x3 → Rr mX11_findOrder 0 0 19 [(0, .ref r0), (1, .int x1), (2, .int x2), (3, .int x3), (4, .int 0)] [] h P)) : Rr mX11_findOrder 0 0 11 [(0, .ref r0), (1, .int x1), (2, .int x2), (3, .int x3)] [] h P := by
  refine R_iload_n dX11_findOrder_11 rfl 3 rfl ?_
  refine R_iconst (v := 4) dX11_findOrder_12 (by decide) ?_
  refine R_icmp_ge (tgt := 99) dX11_findOrder_13 (by decide) (fun b1 => ?_) (fun b1 => ?_)
  · have hf := hf.1 b1
    refine R_iinc (v := x2 + 1) dX11_findOrder_99 2 rfl rfl (by decide) rfl ?_
    refine R_goto (tgt := 4) dX11_findOrder_102 (by decide) ?_
    exact R_sub [1, 2, 0] rfl hf
  · have hf := hf.2 b1
    refine R_iconst (v := 0) dX11_findOrder_16 (by decide) ?_
    refine R_istore dX11_findOrder_17 (by decide) rfl ?_
    exact R_sub [1, 2, 3, 4, 0] rfl hf
set_option maxRecDepth 20000 in
theorem sX11_findOrder_19 {P : Option Value → AH → Prop} (h : AH) (r0 : Nat) (x1 : Int32) (x2 : Int32) (x3 : Int32) (x4 : Int32) (hf : (4 ≤ x4 → Rr mX11_findOrder 0 0 11 [(0, .ref r0), (1, .int x1), (2, .int x2), (3, .int (x3 + 1))] [] h P) ∧ (¬ 4 ≤ x4 → (isO h 11 r0) ∧ (Call mX11_sumOf [.ref r0, .int x2, .int x3, .int x4, .int (((6 - x2) - x3) - x4)] h (fun v h3 => ∃ z4 : Int32, v = some (.int z4) ∧ ((z4 ≤ x1 → Rr mX11_findOrder 0 0 19 [(0, .ref r0), (1, .int x1), (2, .int x2), (3, .int x3), (4, .int (x4 + 1))] [] h3 P) ∧ (¬ z4 ≤ x1 → (isO h3 11 r0) ∧ ((isA h3 0 (gF h3 r0 14)) ∧ ((vp_in 0 (ln (gF h3 r0 14))) ∧ ((vp_in 1 (ln (gF h3 r0 14))) ∧ ((vp_in 2 (ln (gF h3 r0 14))) ∧ ((vp_in 3 (ln (gF h3 r0 14))) ∧ (Rr mX11_findOrder 0 0 19 [(0, .ref r0), (1, .int z4), (2, .int x2), (3, .int x3), (4, .int (x4 + 1))] [] (sI (sI (sI (sI h3 (gF h3 r0 14) (Int32.toNatClampNeg 0) x2) (gF h3 r0 14) (Int32.toNatClampNeg 1) x3) (gF h3 r0 14) (Int32.toNatClampNeg 2) x4) (gF h3 r0 14) (Int32.toNatClampNeg 3) (((6 - x2) - x3) - x4)) P)))))))))))) : Rr mX11_findOrder 0 0 19 [(0, .ref r0), (1, .int x1), (2, .int x2), (3, .int x3), (4, .int x4)] [] h P := by
  refine R_iload dX11_findOrder_19 4 rfl ?_
  refine R_iconst (v := 4) dX11_findOrder_21 (by decide) ?_
  refine R_icmp_ge (tgt := 93) dX11_findOrder_22 (by decide) (fun b1 => ?_) (fun b1 => ?_)
  · have hf := hf.1 b1
    refine R_iinc (v := x3 + 1) dX11_findOrder_93 3 rfl rfl (by decide) rfl ?_
    refine R_goto (tgt := 11) dX11_findOrder_96 (by decide) ?_
    exact R_sub [1, 2, 3, 0] rfl hf
  · have hf := hf.2 b1
    refine R_bipush (v := 6) dX11_findOrder_25 (by decide) ?_
    refine R_iload_n dX11_findOrder_27 rfl 2 rfl ?_
    refine R_isub dX11_findOrder_28 ?_
    refine R_iload_n dX11_findOrder_29 rfl 3 rfl ?_
    refine R_isub dX11_findOrder_30 ?_
    refine R_iload dX11_findOrder_31 4 rfl ?_
    refine R_isub dX11_findOrder_33 ?_
    refine R_istore dX11_findOrder_34 (by decide) rfl ?_
    refine R_aload_n dX11_findOrder_36 rfl 1 rfl ?_
    refine R_iload_n dX11_findOrder_37 rfl 3 rfl ?_
    refine R_iload_n dX11_findOrder_38 rfl 4 rfl ?_
    refine R_iload dX11_findOrder_39 5 rfl ?_
    refine R_iload dX11_findOrder_41 0 rfl ?_
    obtain ⟨ob2, hf⟩ := hf
    refine R_callV (ci := 11) (N := mX11_sumOf) (as := [.int x2, .int x3, .int x4, .int (((6 - x2) - x3) - x4)]) (rest := []) (kc2 := 0) (ks2 := 0) dX11_findOrder_43 lmX11_382 oX11_sumOf (Nat.le_of_ble_eq_true rfl) rfl rfl (Nat.le_of_ble_eq_true rfl) rfl rfl ob2 ok11 (Call.mono hf ?_)
    rintro _ h3 ⟨z4, rfl, hf⟩
    refine R_istore dX11_findOrder_46 (by decide) rfl ?_
    refine R_iload dX11_findOrder_48 0 rfl ?_
    refine R_iload_n dX11_findOrder_50 rfl 3 rfl ?_
    refine R_icmp_le (tgt := 87) dX11_findOrder_51 (by decide) (fun b5 => ?_) (fun b5 => ?_)
    · have hf := hf.1 b5
      refine R_iinc (v := x4 + 1) dX11_findOrder_87 6 rfl rfl (by decide) rfl ?_
      refine R_goto (tgt := 19) dX11_findOrder_90 (by decide) ?_
      exact R_sub [3, 4, 5, 6, 0] rfl hf
    · have hf := hf.2 b5
      refine R_iload dX11_findOrder_54 0 rfl ?_
      refine R_istore_n dX11_findOrder_56 rfl (by decide) rfl ?_
      refine R_aload_n dX11_findOrder_57 rfl 3 rfl ?_
      obtain ⟨ob6, hf⟩ := hf
      refine G11_14 dX11_findOrder_58 lfX11_92 ob6 ?_
      refine R_iconst (v := 0) dX11_findOrder_61 (by decide) ?_
      refine R_iload_n dX11_findOrder_62 rfl 4 rfl ?_
      obtain ⟨ob7, hf⟩ := hf
      obtain ⟨ob8, hf⟩ := hf
      refine R_iastore dX11_findOrder_63 ob7 ob8 ?_
      refine R_aload_n dX11_findOrder_64 rfl 3 rfl ?_
      refine G11_14 dX11_findOrder_65 lfX11_92 ob6 ?_
      refine R_eqF (y := gF h3 r0 14) rfl ?_
      refine R_iconst (v := 1) dX11_findOrder_68 (by decide) ?_
      refine R_iload_n dX11_findOrder_69 rfl 5 rfl ?_
      obtain ⟨ob9, hf⟩ := hf
      refine R_iastore dX11_findOrder_70 ob7 ob9 ?_
      refine R_aload_n dX11_findOrder_71 rfl 3 rfl ?_
      refine G11_14 dX11_findOrder_72 lfX11_92 ob6 ?_
      refine R_eqF (y := gF h3 r0 14) rfl ?_
      refine R_iconst (v := 2) dX11_findOrder_75 (by decide) ?_
      refine R_iload dX11_findOrder_76 6 rfl ?_
      obtain ⟨ob10, hf⟩ := hf
      refine R_iastore dX11_findOrder_78 ob7 ob10 ?_
      refine R_aload_n dX11_findOrder_79 rfl 3 rfl ?_
      refine G11_14 dX11_findOrder_80 lfX11_92 ob6 ?_
      refine R_eqF (y := gF h3 r0 14) rfl ?_
      refine R_iconst (v := 3) dX11_findOrder_83 (by decide) ?_
      refine R_iload dX11_findOrder_84 2 rfl ?_
      obtain ⟨ob11, hf⟩ := hf
      refine R_iastore dX11_findOrder_86 ob7 ob11 ?_
      refine R_iinc (v := x4 + 1) dX11_findOrder_87 6 rfl rfl (by decide) rfl ?_
      refine R_goto (tgt := 19) dX11_findOrder_90 (by decide) ?_
      exact R_sub [4, 1, 5, 6, 0] rfl hf
theorem dX11_halt_0 : decode cX11_halt 0 = .ok (.iload_n 1, 1) := by decide +kernel
theorem dX11_halt_1 : decode cX11_halt 1 = .ok (.iload_n 2, 1) := by decide +kernel
theorem dX11_halt_2 : decode cX11_halt 2 = .ok (.iload_n 3, 1) := by decide +kernel
theorem dX11_halt_3 : decode cX11_halt 3 = .ok (.iload 4, 2) := by decide +kernel
theorem dX11_halt_5 : decode cX11_halt 5 = .ok (.invokestatic 327, 3) := by decide +kernel
theorem dX11_halt_8 : decode cX11_halt 8 = .ok (.ifCond .eq 13, 3) := by decide +kernel
theorem dX11_halt_11 : decode cX11_halt 11 = .ok (.iload 5, 2) := by decide +kernel
theorem dX11_halt_13 : decode cX11_halt 13 = .ok (.iload 6, 2) := by decide +kernel
theorem dX11_halt_15 : decode cX11_halt 15 = .ok (.invokestatic 330, 3) := by decide +kernel
theorem dX11_halt_18 : decode cX11_halt 18 = .ok (.ifCond .ne 6, 3) := by decide +kernel
theorem dX11_halt_21 : decode cX11_halt 21 = .ok (.bipush (-2), 2) := by decide +kernel
theorem dX11_halt_23 : decode cX11_halt 23 = .ok (.ireturn, 1) := by decide +kernel
theorem dX11_halt_24 : decode cX11_halt 24 = .ok (.aload_n 0, 1) := by decide +kernel
theorem dX11_halt_25 : decode cX11_halt 25 = .ok (.getfield 81, 3) := by decide +kernel
theorem dX11_halt_28 : decode cX11_halt 28 = .ok (.iload_n 1, 1) := by decide +kernel
theorem dX11_halt_29 : decode cX11_halt 29 = .ok (.iload_n 2, 1) := by decide +kernel
theorem dX11_halt_30 : decode cX11_halt 30 = .ok (.iload_n 3, 1) := by decide +kernel
theorem dX11_halt_31 : decode cX11_halt 31 = .ok (.iload 4, 2) := by decide +kernel
theorem dX11_halt_33 : decode cX11_halt 33 = .ok (.iload 5, 2) := by decide +kernel
theorem dX11_halt_35 : decode cX11_halt 35 = .ok (.iload 6, 2) := by decide +kernel
theorem dX11_halt_37 : decode cX11_halt 37 = .ok (.invokevirtual 335, 3) := by decide +kernel
theorem dX11_halt_40 : decode cX11_halt 40 = .ok (.aload_n 0, 1) := by decide +kernel
theorem dX11_halt_41 : decode cX11_halt 41 = .ok (.getfield 81, 3) := by decide +kernel
theorem dX11_halt_44 : decode cX11_halt 44 = .ok (.getfield 343, 3) := by decide +kernel
theorem dX11_halt_47 : decode cX11_halt 47 = .ok (.aload_n 0, 1) := by decide +kernel
theorem dX11_halt_48 : decode cX11_halt 48 = .ok (.getfield 81, 3) := by decide +kernel
theorem dX11_halt_51 : decode cX11_halt 51 = .ok (.getfield 339, 3) := by decide +kernel
theorem dX11_halt_54 : decode cX11_halt 54 = .ok (.lcmp, 1) := by decide +kernel
theorem dX11_halt_55 : decode cX11_halt 55 = .ok (.ifCond .ge 7, 3) := by decide +kernel
theorem dX11_halt_58 : decode cX11_halt 58 = .ok (.iconst 1, 1) := by decide +kernel
theorem dX11_halt_59 : decode cX11_halt 59 = .ok (.goto 4, 3) := by decide +kernel
theorem dX11_halt_62 : decode cX11_halt 62 = .ok (.iconst 0, 1) := by decide +kernel
theorem dX11_halt_63 : decode cX11_halt 63 = .ok (.ireturn, 1) := by decide +kernel
set_option maxRecDepth 20000 in
theorem sX11_halt_0 {P : Option Value → AH → Prop} (h : AH) (r0 : Nat) (x1 : Int32) (x2 : Int32) (x3 : Int32) (x4 : Int32) (x5 : Int32) (x6 : Int32) (hf : (¬ (¬ x1 < 1 ∧ ¬ 8 < x1 ∧ ¬ x2 < 0 ∧ ¬ 6 < x2 ∧ (¬ x3 < 0 ∧ ¬ 999 < x3) ∧ (¬ x4 < 0 ∧ ¬ 999 < x4)) → P (some (.int (-2))) h) ∧ ((¬ x1 < 1 ∧ ¬ 8 < x1 ∧ ¬ x2 < 0 ∧ ¬ 6 < x2 ∧ (¬ x3 < 0 ∧ ¬ 999 < x3) ∧ (¬ x4 < 0 ∧ ¬ 999 < x4)) → (((¬ x5 < 0 ∧ ¬ 10 < x5) ∧ (¬ x6 < 0 ∧ ¬ 10 < x6) ∧ ¬ 10 < (x5 + x6)) → (isO h 11 r0) ∧ ((isO h 2 (gF h r0 12)) ∧ (Call mX2_weigh [.ref (gF h r0 12), .int x1, .int x2, .int x3, .int x4, .int x5, .int x6] h (fun v h5 => v = none ∧ ((isO h5 11 r0) ∧ ((isO h5 2 (gF h5 r0 12)) ∧ (P (some (.int (bi (¬ 0 ≤ (lg_cmp (gL h5 (gF h5 r0 12) 3) (gL h5 (gF h5 r0 12) 2)))))) h5))))))) ∧ (¬ ((¬ x5 < 0 ∧ ¬ 10 < x5) ∧ (¬ x6 < 0 ∧ ¬ 10 < x6) ∧ ¬ 10 < (x5 + x6)) → P (some (.int (-2))) h))) : Rr mX11_halt 0 0 0 [(0, .ref r0), (1, .int x1), (2, .int x2), (3, .int x3), (4, .int x4), (5, .int x5), (6, .int x6)] [] h P := by
  refine R_iload_n dX11_halt_0 rfl 1 rfl ?_
  refine R_iload_n dX11_halt_1 rfl 2 rfl ?_
  refine R_iload_n dX11_halt_2 rfl 3 rfl ?_
  refine R_iload dX11_halt_3 4 rfl ?_
  refine R_callS (N := mX2_areBounds) (as := [.int x1, .int x2, .int x3, .int x4]) (rest := []) (kc2 := 0) (ks2 := 0) dX11_halt_5 lmX11_327 oX2_areBounds (Nat.le_of_ble_eq_true rfl) rfl rfl (Nat.le_of_ble_eq_true rfl) rfl rfl (aX2_areBounds  ?_)
  refine R_if_eq_b (tgt := 21) dX11_halt_8 (by decide) (fun b1 => ?_) (fun b1 => ?_)
  · have hf := hf.1 b1
    refine R_bipush (v := (-2)) dX11_halt_21 (by decide) ?_
    exact R_iret dX11_halt_23 rfl rfl hf
  · have hf := hf.2 b1
    refine R_iload dX11_halt_11 5 rfl ?_
    refine R_iload dX11_halt_13 6 rfl ?_
    refine R_callS (N := mX2_areChances) (as := [.int x5, .int x6]) (rest := []) (kc2 := 0) (ks2 := 0) dX11_halt_15 lmX11_330 oX2_areChances (Nat.le_of_ble_eq_true rfl) rfl rfl (Nat.le_of_ble_eq_true rfl) rfl rfl (aX2_areChances  ?_)
    refine R_if_ne_b (tgt := 24) dX11_halt_18 (by decide) (fun b2 => ?_) (fun b2 => ?_)
    · have hf := hf.1 b2
      refine R_aload_n dX11_halt_24 rfl 0 rfl ?_
      obtain ⟨ob3, hf⟩ := hf
      refine G11_12 dX11_halt_25 lfX11_81 ob3 ?_
      refine R_iload_n dX11_halt_28 rfl 1 rfl ?_
      refine R_iload_n dX11_halt_29 rfl 2 rfl ?_
      refine R_iload_n dX11_halt_30 rfl 3 rfl ?_
      refine R_iload dX11_halt_31 4 rfl ?_
      refine R_iload dX11_halt_33 5 rfl ?_
      refine R_iload dX11_halt_35 6 rfl ?_
      obtain ⟨ob4, hf⟩ := hf
      refine R_callV (ci := 2) (N := mX2_weigh) (as := [.int x1, .int x2, .int x3, .int x4, .int x5, .int x6]) (rest := []) (kc2 := 0) (ks2 := 0) dX11_halt_37 lmX11_335 oX2_weigh (Nat.le_of_ble_eq_true rfl) rfl rfl (Nat.le_of_ble_eq_true rfl) rfl rfl ob4 ok2 (Call.mono hf ?_)
      rintro _ h5 ⟨rfl, hf⟩
      refine R_aload_n dX11_halt_40 rfl 0 rfl ?_
      obtain ⟨ob6, hf⟩ := hf
      refine G11_12 dX11_halt_41 lfX11_81 ob6 ?_
      obtain ⟨ob7, hf⟩ := hf
      refine G2_3 dX11_halt_44 lfX11_343 ob7 ?_
      refine R_aload_n dX11_halt_47 rfl 0 rfl ?_
      refine G11_12 dX11_halt_48 lfX11_81 ob6 ?_
      refine G2_2 dX11_halt_51 lfX11_339 ob7 ?_
      refine R_lcmp dX11_halt_54 ?_
      have key :  Rr mX11_halt 0 0 63 [] [.int (bi (¬ 0 ≤ (lg_cmp (gL h5 (gF h5 r0 12) 3) (gL h5 (gF h5 r0 12) 2))))] h5 P := by
        exact R_iret dX11_halt_63 rfl rfl hf
      refine R_if_ge (tgt := 62) dX11_halt_55 (by decide) (fun b8 => ?_) (fun b8 => ?_)
      · refine R_iconst (v := 0) dX11_halt_62 (by decide) ?_
        have kb := key
        rw [show bi (¬ 0 ≤ (lg_cmp (gL h5 (gF h5 r0 12) 3) (gL h5 (gF h5 r0 12) 2))) = 0 from by simp only [bi, b8, false_and, and_false, true_and, and_true, not_true_eq_false, not_false_eq_true, if_true, if_false, true_or, or_true, false_or, or_false, reduceIte]] at kb
        exact R_sub [] rfl kb
      · refine R_iconst (v := 1) dX11_halt_58 (by decide) ?_
        refine R_goto (tgt := 63) dX11_halt_59 (by decide) ?_
        have kb := key
        rw [show bi (¬ 0 ≤ (lg_cmp (gL h5 (gF h5 r0 12) 3) (gL h5 (gF h5 r0 12) 2))) = 1 from by simp only [bi, b8, false_and, and_false, true_and, and_true, not_true_eq_false, not_false_eq_true, if_true, if_false, true_or, or_true, false_or, or_false, reduceIte]] at kb
        exact R_sub [] rfl kb
    · have hf := hf.2 b2
      refine R_bipush (v := (-2)) dX11_halt_21 (by decide) ?_
      exact R_iret dX11_halt_23 rfl rfl hf
theorem dX11_held_0 : decode cX11_held 0 = .ok (.iload_n 1, 1) := by decide +kernel
theorem dX11_held_1 : decode cX11_held 1 = .ok (.invokestatic 289, 3) := by decide +kernel
theorem dX11_held_4 : decode cX11_held 4 = .ok (.ifCond .eq 25, 3) := by decide +kernel
theorem dX11_held_7 : decode cX11_held 7 = .ok (.iload_n 2, 1) := by decide +kernel
theorem dX11_held_8 : decode cX11_held 8 = .ok (.invokestatic 289, 3) := by decide +kernel
theorem dX11_held_11 : decode cX11_held 11 = .ok (.ifCond .eq 18, 3) := by decide +kernel
theorem dX11_held_14 : decode cX11_held 14 = .ok (.iload_n 3, 1) := by decide +kernel
theorem dX11_held_15 : decode cX11_held 15 = .ok (.invokestatic 289, 3) := by decide +kernel
theorem dX11_held_18 : decode cX11_held 18 = .ok (.ifCond .eq 11, 3) := by decide +kernel
theorem dX11_held_21 : decode cX11_held 21 = .ok (.iload 4, 2) := by decide +kernel
theorem dX11_held_23 : decode cX11_held 23 = .ok (.invokestatic 289, 3) := by decide +kernel
theorem dX11_held_26 : decode cX11_held 26 = .ok (.ifCond .ne 6, 3) := by decide +kernel
theorem dX11_held_29 : decode cX11_held 29 = .ok (.bipush (-2), 2) := by decide +kernel
theorem dX11_held_31 : decode cX11_held 31 = .ok (.ireturn, 1) := by decide +kernel
theorem dX11_held_32 : decode cX11_held 32 = .ok (.aload_n 0, 1) := by decide +kernel
theorem dX11_held_33 : decode cX11_held 33 = .ok (.getfield 283, 3) := by decide +kernel
theorem dX11_held_36 : decode cX11_held 36 = .ok (.ifCond .ne 6, 3) := by decide +kernel
theorem dX11_held_39 : decode cX11_held 39 = .ok (.bipush (-4), 2) := by decide +kernel
theorem dX11_held_41 : decode cX11_held 41 = .ok (.ireturn, 1) := by decide +kernel
theorem dX11_held_42 : decode cX11_held 42 = .ok (.aload_n 0, 1) := by decide +kernel
theorem dX11_held_43 : decode cX11_held 43 = .ok (.getfield 71, 3) := by decide +kernel
theorem dX11_held_46 : decode cX11_held 46 = .ok (.invokevirtual 277, 3) := by decide +kernel
theorem dX11_held_49 : decode cX11_held 49 = .ok (.aload_n 0, 1) := by decide +kernel
theorem dX11_held_50 : decode cX11_held 50 = .ok (.iconst 0, 1) := by decide +kernel
theorem dX11_held_51 : decode cX11_held 51 = .ok (.iload_n 1, 1) := by decide +kernel
theorem dX11_held_52 : decode cX11_held 52 = .ok (.invokevirtual 292, 3) := by decide +kernel
theorem dX11_held_55 : decode cX11_held 55 = .ok (.aload_n 0, 1) := by decide +kernel
theorem dX11_held_56 : decode cX11_held 56 = .ok (.iconst 1, 1) := by decide +kernel
theorem dX11_held_57 : decode cX11_held 57 = .ok (.iload_n 2, 1) := by decide +kernel
theorem dX11_held_58 : decode cX11_held 58 = .ok (.invokevirtual 292, 3) := by decide +kernel
theorem dX11_held_61 : decode cX11_held 61 = .ok (.aload_n 0, 1) := by decide +kernel
theorem dX11_held_62 : decode cX11_held 62 = .ok (.iconst 2, 1) := by decide +kernel
theorem dX11_held_63 : decode cX11_held 63 = .ok (.iload_n 3, 1) := by decide +kernel
theorem dX11_held_64 : decode cX11_held 64 = .ok (.invokevirtual 292, 3) := by decide +kernel
theorem dX11_held_67 : decode cX11_held 67 = .ok (.aload_n 0, 1) := by decide +kernel
theorem dX11_held_68 : decode cX11_held 68 = .ok (.iconst 3, 1) := by decide +kernel
theorem dX11_held_69 : decode cX11_held 69 = .ok (.iload 4, 2) := by decide +kernel
theorem dX11_held_71 : decode cX11_held 71 = .ok (.invokevirtual 292, 3) := by decide +kernel
theorem dX11_held_74 : decode cX11_held 74 = .ok (.aload_n 0, 1) := by decide +kernel
theorem dX11_held_75 : decode cX11_held 75 = .ok (.getfield 71, 3) := by decide +kernel
theorem dX11_held_78 : decode cX11_held 78 = .ok (.invokevirtual 286, 3) := by decide +kernel
theorem dX11_held_81 : decode cX11_held 81 = .ok (.ireturn, 1) := by decide +kernel
set_option maxRecDepth 20000 in
theorem sX11_held_0 {P : Option Value → AH → Prop} (h : AH) (r0 : Nat) (x1 : Int32) (x2 : Int32) (x3 : Int32) (x4 : Int32) (hf : (¬ (¬ x1 < 0 ∧ ¬ 24 < x1) → P (some (.int (-2))) h) ∧ ((¬ x1 < 0 ∧ ¬ 24 < x1) → (¬ (¬ x2 < 0 ∧ ¬ 24 < x2) → P (some (.int (-2))) h) ∧ ((¬ x2 < 0 ∧ ¬ 24 < x2) → (¬ (¬ x3 < 0 ∧ ¬ 24 < x3) → P (some (.int (-2))) h) ∧ ((¬ x3 < 0 ∧ ¬ 24 < x3) → ((¬ x4 < 0 ∧ ¬ 24 < x4) → (isO h 11 r0) ∧ ((¬ (gI h r0 8) = 0 → (isO h 0 (gF h r0 10)) ∧ (Call mX0_clear [.ref (gF h r0 10)] h (fun v h8 => v = none ∧ ((isO h8 11 r0) ∧ (Call mX11_markUnlike [.ref r0, .int 0, .int x1] h8 (fun v h10 => v = none ∧ ((isO h10 11 r0) ∧ (Call mX11_markUnlike [.ref r0, .int 1, .int x2] h10 (fun v h12 => v = none ∧ ((isO h12 11 r0) ∧ (Call mX11_markUnlike [.ref r0, .int 2, .int x3] h12 (fun v h14 => v = none ∧ ((isO h14 11 r0) ∧ (Call mX11_markUnlike [.ref r0, .int 3, .int x4] h14 (fun v h16 => v = none ∧ ((isO h16 11 r0) ∧ ((isO h16 0 (gF h16 r0 10)) ∧ (Call mX0_cells [.ref (gF h16 r0 10)] h16 (fun v h19 => ∃ z20 : Int32, v = some (.int z20) ∧ (P (some (.int z20)) h19)))))))))))))))))))) ∧ ((gI h r0 8) = 0 → P (some (.int (-4))) h))) ∧ (¬ (¬ x4 < 0 ∧ ¬ 24 < x4) → P (some (.int (-2))) h))))) : Rr mX11_held 0 0 0 [(0, .ref r0), (1, .int x1), (2, .int x2), (3, .int x3), (4, .int x4)] [] h P := by
  refine R_iload_n dX11_held_0 rfl 1 rfl ?_
  refine R_callS (N := mX11_isShiftCode) (as := [.int x1]) (rest := []) (kc2 := 0) (ks2 := 0) dX11_held_1 lmX11_289 oX11_isShiftCode (Nat.le_of_ble_eq_true rfl) rfl rfl (Nat.le_of_ble_eq_true rfl) rfl rfl (aX11_isShiftCode  ?_)
  refine R_if_eq_b (tgt := 29) dX11_held_4 (by decide) (fun b1 => ?_) (fun b1 => ?_)
  · have hf := hf.1 b1
    refine R_bipush (v := (-2)) dX11_held_29 (by decide) ?_
    exact R_iret dX11_held_31 rfl rfl hf
  · have hf := hf.2 b1
    refine R_iload_n dX11_held_7 rfl 2 rfl ?_
    refine R_callS (N := mX11_isShiftCode) (as := [.int x2]) (rest := []) (kc2 := 0) (ks2 := 0) dX11_held_8 lmX11_289 oX11_isShiftCode (Nat.le_of_ble_eq_true rfl) rfl rfl (Nat.le_of_ble_eq_true rfl) rfl rfl (aX11_isShiftCode  ?_)
    refine R_if_eq_b (tgt := 29) dX11_held_11 (by decide) (fun b2 => ?_) (fun b2 => ?_)
    · have hf := hf.1 b2
      refine R_bipush (v := (-2)) dX11_held_29 (by decide) ?_
      exact R_iret dX11_held_31 rfl rfl hf
    · have hf := hf.2 b2
      refine R_iload_n dX11_held_14 rfl 3 rfl ?_
      refine R_callS (N := mX11_isShiftCode) (as := [.int x3]) (rest := []) (kc2 := 0) (ks2 := 0) dX11_held_15 lmX11_289 oX11_isShiftCode (Nat.le_of_ble_eq_true rfl) rfl rfl (Nat.le_of_ble_eq_true rfl) rfl rfl (aX11_isShiftCode  ?_)
      refine R_if_eq_b (tgt := 29) dX11_held_18 (by decide) (fun b3 => ?_) (fun b3 => ?_)
      · have hf := hf.1 b3
        refine R_bipush (v := (-2)) dX11_held_29 (by decide) ?_
        exact R_iret dX11_held_31 rfl rfl hf
      · have hf := hf.2 b3
        refine R_iload dX11_held_21 4 rfl ?_
        refine R_callS (N := mX11_isShiftCode) (as := [.int x4]) (rest := []) (kc2 := 0) (ks2 := 0) dX11_held_23 lmX11_289 oX11_isShiftCode (Nat.le_of_ble_eq_true rfl) rfl rfl (Nat.le_of_ble_eq_true rfl) rfl rfl (aX11_isShiftCode  ?_)
        refine R_if_ne_b (tgt := 32) dX11_held_26 (by decide) (fun b4 => ?_) (fun b4 => ?_)
        · have hf := hf.1 b4
          refine R_aload_n dX11_held_32 rfl 0 rfl ?_
          obtain ⟨ob5, hf⟩ := hf
          refine G11_8 dX11_held_33 lfX11_283 ob5 ?_
          refine R_if_ne (tgt := 42) dX11_held_36 (by decide) (fun b6 => ?_) (fun b6 => ?_)
          · have hf := hf.1 b6
            refine R_aload_n dX11_held_42 rfl 0 rfl ?_
            refine G11_10 dX11_held_43 lfX11_71 ob5 ?_
            obtain ⟨ob7, hf⟩ := hf
            refine R_callV (ci := 0) (N := mX0_clear) (as := []) (rest := []) (kc2 := 0) (ks2 := 0) dX11_held_46 lmX11_277 oX0_clear (Nat.le_of_ble_eq_true rfl) rfl rfl (Nat.le_of_ble_eq_true rfl) rfl rfl ob7 ok0 (Call.mono hf ?_)
            rintro _ h8 ⟨rfl, hf⟩
            refine R_aload_n dX11_held_49 rfl 0 rfl ?_
            refine R_iconst (v := 0) dX11_held_50 (by decide) ?_
            refine R_iload_n dX11_held_51 rfl 1 rfl ?_
            obtain ⟨ob9, hf⟩ := hf
            refine R_callV (ci := 11) (N := mX11_markUnlike) (as := [.int 0, .int x1]) (rest := []) (kc2 := 0) (ks2 := 0) dX11_held_52 lmX11_292 oX11_markUnlike (Nat.le_of_ble_eq_true rfl) rfl rfl (Nat.le_of_ble_eq_true rfl) rfl rfl ob9 ok11 (Call.mono hf ?_)
            rintro _ h10 ⟨rfl, hf⟩
            refine R_aload_n dX11_held_55 rfl 0 rfl ?_
            refine R_iconst (v := 1) dX11_held_56 (by decide) ?_
            refine R_iload_n dX11_held_57 rfl 2 rfl ?_
            obtain ⟨ob11, hf⟩ := hf
            refine R_callV (ci := 11) (N := mX11_markUnlike) (as := [.int 1, .int x2]) (rest := []) (kc2 := 0) (ks2 := 0) dX11_held_58 lmX11_292 oX11_markUnlike (Nat.le_of_ble_eq_true rfl) rfl rfl (Nat.le_of_ble_eq_true rfl) rfl rfl ob11 ok11 (Call.mono hf ?_)
            rintro _ h12 ⟨rfl, hf⟩
            refine R_aload_n dX11_held_61 rfl 0 rfl ?_
            refine R_iconst (v := 2) dX11_held_62 (by decide) ?_
            refine R_iload_n dX11_held_63 rfl 3 rfl ?_
            obtain ⟨ob13, hf⟩ := hf
            refine R_callV (ci := 11) (N := mX11_markUnlike) (as := [.int 2, .int x3]) (rest := []) (kc2 := 0) (ks2 := 0) dX11_held_64 lmX11_292 oX11_markUnlike (Nat.le_of_ble_eq_true rfl) rfl rfl (Nat.le_of_ble_eq_true rfl) rfl rfl ob13 ok11 (Call.mono hf ?_)
            rintro _ h14 ⟨rfl, hf⟩
            refine R_aload_n dX11_held_67 rfl 0 rfl ?_
            refine R_iconst (v := 3) dX11_held_68 (by decide) ?_
            refine R_iload dX11_held_69 4 rfl ?_
            obtain ⟨ob15, hf⟩ := hf
            refine R_callV (ci := 11) (N := mX11_markUnlike) (as := [.int 3, .int x4]) (rest := []) (kc2 := 0) (ks2 := 0) dX11_held_71 lmX11_292 oX11_markUnlike (Nat.le_of_ble_eq_true rfl) rfl rfl (Nat.le_of_ble_eq_true rfl) rfl rfl ob15 ok11 (Call.mono hf ?_)
            rintro _ h16 ⟨rfl, hf⟩
            refine R_aload_n dX11_held_74 rfl 0 rfl ?_
            obtain ⟨ob17, hf⟩ := hf
            refine G11_10 dX11_held_75 lfX11_71 ob17 ?_
            obtain ⟨ob18, hf⟩ := hf
            refine R_callV (ci := 0) (N := mX0_cells) (as := []) (rest := []) (kc2 := 0) (ks2 := 0) dX11_held_78 lmX11_286 oX0_cells (Nat.le_of_ble_eq_true rfl) rfl rfl (Nat.le_of_ble_eq_true rfl) rfl rfl ob18 ok0 (Call.mono hf ?_)
            rintro _ h19 ⟨z20, rfl, hf⟩
            exact R_iret dX11_held_81 rfl rfl hf
          · have hf := hf.2 b6
            refine R_bipush (v := (-4)) dX11_held_39 (by decide) ?_
            exact R_iret dX11_held_41 rfl rfl hf
        · have hf := hf.2 b4
          refine R_bipush (v := (-2)) dX11_held_29 (by decide) ?_
          exact R_iret dX11_held_31 rfl rfl hf
theorem dX11_seen_0 : decode cX11_seen 0 = .ok (.iload_n 1, 1) := by decide +kernel
theorem dX11_seen_1 : decode cX11_seen 1 = .ok (.iload_n 2, 1) := by decide +kernel
theorem dX11_seen_2 : decode cX11_seen 2 = .ok (.invokestatic 236, 3) := by decide +kernel
theorem dX11_seen_5 : decode cX11_seen 5 = .ok (.ifCond .eq 18, 3) := by decide +kernel
theorem dX11_seen_8 : decode cX11_seen 8 = .ok (.iload_n 3, 1) := by decide +kernel
theorem dX11_seen_9 : decode cX11_seen 9 = .ok (.invokestatic 220, 3) := by decide +kernel
theorem dX11_seen_12 : decode cX11_seen 12 = .ok (.ifCond .eq 11, 3) := by decide +kernel
theorem dX11_seen_15 : decode cX11_seen 15 = .ok (.iload 4, 2) := by decide +kernel
theorem dX11_seen_17 : decode cX11_seen 17 = .ok (.invokestatic 220, 3) := by decide +kernel
theorem dX11_seen_20 : decode cX11_seen 20 = .ok (.ifCond .ne 6, 3) := by decide +kernel
theorem dX11_seen_23 : decode cX11_seen 23 = .ok (.bipush (-2), 2) := by decide +kernel
theorem dX11_seen_25 : decode cX11_seen 25 = .ok (.ireturn, 1) := by decide +kernel
theorem dX11_seen_26 : decode cX11_seen 26 = .ok (.iload 5, 2) := by decide +kernel
theorem dX11_seen_28 : decode cX11_seen 28 = .ok (.invokestatic 240, 3) := by decide +kernel
theorem dX11_seen_31 : decode cX11_seen 31 = .ok (.ifCond .eq 22, 3) := by decide +kernel
theorem dX11_seen_34 : decode cX11_seen 34 = .ok (.iload 6, 2) := by decide +kernel
theorem dX11_seen_36 : decode cX11_seen 36 = .ok (.invokestatic 240, 3) := by decide +kernel
theorem dX11_seen_39 : decode cX11_seen 39 = .ok (.ifCond .eq 14, 3) := by decide +kernel
theorem dX11_seen_42 : decode cX11_seen 42 = .ok (.iload 7, 2) := by decide +kernel
theorem dX11_seen_44 : decode cX11_seen 44 = .ok (.ifCond .lt 9, 3) := by decide +kernel
theorem dX11_seen_47 : decode cX11_seen 47 = .ok (.iload 7, 2) := by decide +kernel
theorem dX11_seen_49 : decode cX11_seen 49 = .ok (.iconst 2, 1) := by decide +kernel
theorem dX11_seen_50 : decode cX11_seen 50 = .ok (.if_icmp .le 6, 3) := by decide +kernel
theorem dX11_seen_53 : decode cX11_seen 53 = .ok (.bipush (-2), 2) := by decide +kernel
theorem dX11_seen_55 : decode cX11_seen 55 = .ok (.ireturn, 1) := by decide +kernel
theorem dX11_seen_56 : decode cX11_seen 56 = .ok (.aload_n 0, 1) := by decide +kernel
theorem dX11_seen_57 : decode cX11_seen 57 = .ok (.getfield 52, 3) := by decide +kernel
theorem dX11_seen_60 : decode cX11_seen 60 = .ok (.aload_n 0, 1) := by decide +kernel
theorem dX11_seen_61 : decode cX11_seen 61 = .ok (.getfield 24, 3) := by decide +kernel
theorem dX11_seen_64 : decode cX11_seen 64 = .ok (.iload_n 1, 1) := by decide +kernel
theorem dX11_seen_65 : decode cX11_seen 65 = .ok (.iload_n 2, 1) := by decide +kernel
theorem dX11_seen_66 : decode cX11_seen 66 = .ok (.iload_n 3, 1) := by decide +kernel
theorem dX11_seen_67 : decode cX11_seen 67 = .ok (.iload 4, 2) := by decide +kernel
theorem dX11_seen_69 : decode cX11_seen 69 = .ok (.invokevirtual 243, 3) := by decide +kernel
theorem dX11_seen_72 : decode cX11_seen 72 = .ok (.aload_n 0, 1) := by decide +kernel
theorem dX11_seen_73 : decode cX11_seen 73 = .ok (.getfield 52, 3) := by decide +kernel
theorem dX11_seen_76 : decode cX11_seen 76 = .ok (.iload 5, 2) := by decide +kernel
theorem dX11_seen_78 : decode cX11_seen 78 = .ok (.iload 6, 2) := by decide +kernel
theorem dX11_seen_80 : decode cX11_seen 80 = .ok (.invokevirtual 247, 3) := by decide +kernel
theorem dX11_seen_83 : decode cX11_seen 83 = .ok (.istore 8, 2) := by decide +kernel
theorem dX11_seen_85 : decode cX11_seen 85 = .ok (.iload 7, 2) := by decide +kernel
theorem dX11_seen_87 : decode cX11_seen 87 = .ok (.lookupswitch 41 #[(0, 25), (1, 33)], 25) := by decide +kernel
theorem dX11_seen_112 : decode cX11_seen 112 = .ok (.aload_n 0, 1) := by decide +kernel
theorem dX11_seen_113 : decode cX11_seen 113 = .ok (.getfield 52, 3) := by decide +kernel
theorem dX11_seen_116 : decode cX11_seen 116 = .ok (.getfield 251, 3) := by decide +kernel
theorem dX11_seen_119 : decode cX11_seen 119 = .ok (.ireturn, 1) := by decide +kernel
theorem dX11_seen_120 : decode cX11_seen 120 = .ok (.aload_n 0, 1) := by decide +kernel
theorem dX11_seen_121 : decode cX11_seen 121 = .ok (.getfield 52, 3) := by decide +kernel
theorem dX11_seen_124 : decode cX11_seen 124 = .ok (.getfield 254, 3) := by decide +kernel
theorem dX11_seen_127 : decode cX11_seen 127 = .ok (.ireturn, 1) := by decide +kernel
theorem dX11_seen_128 : decode cX11_seen 128 = .ok (.iload 8, 2) := by decide +kernel
theorem dX11_seen_130 : decode cX11_seen 130 = .ok (.ireturn, 1) := by decide +kernel
set_option maxRecDepth 20000 in
theorem sX11_seen_0 {P : Option Value → AH → Prop} (h : AH) (r0 : Nat) (x1 : Int32) (x2 : Int32) (x3 : Int32) (x4 : Int32) (x5 : Int32) (x6 : Int32) (x7 : Int32) (hf : (¬ ((¬ x1 < 0 ∧ ¬ 4 ≤ x1) ∧ (¬ x2 < 0 ∧ ¬ 4 ≤ x2) ∧ ¬ x1 = x2) → P (some (.int (-2))) h) ∧ (((¬ x1 < 0 ∧ ¬ 4 ≤ x1) ∧ (¬ x2 < 0 ∧ ¬ 4 ≤ x2) ∧ ¬ x1 = x2) → (¬ (¬ x3 < (-2) ∧ ¬ 2 < x3) → P (some (.int (-2))) h) ∧ ((¬ x3 < (-2) ∧ ¬ 2 < x3) → ((¬ x4 < (-2) ∧ ¬ 2 < x4) → (¬ (¬ x5 < (-2) ∧ ¬ 2 < x5) → P (some (.int (-2))) h) ∧ ((¬ x5 < (-2) ∧ ¬ 2 < x5) → (¬ (¬ x6 < (-2) ∧ ¬ 2 < x6) → P (some (.int (-2))) h) ∧ ((¬ x6 < (-2) ∧ ¬ 2 < x6) → (x7 < 0 → P (some (.int (-2))) h) ∧ (¬ x7 < 0 → (x7 ≤ 2 → (isO h 11 r0) ∧ ((isO h 5 (gF h r0 6)) ∧ (Call mX5_lay [.ref (gF h r0 6), .ref (gF h r0 2), .int x1, .int x2, .int x3, .int x4] h (fun v h10 => v = none ∧ ((isO h10 11 r0) ∧ ((isO h10 5 (gF h10 r0 6)) ∧ (Call mX5_slip [.ref (gF h10 r0 6), .int x5, .int x6] h10 (fun v h13 => ∃ z14 : Int32, v = some (.int z14) ∧ ((x7 = 0 → (isO h13 11 r0) ∧ ((isO h13 5 (gF h13 r0 6)) ∧ (P (some (.int (gI h13 (gF h13 r0 6) 7))) h13))) ∧ (¬ x7 = 0 → (x7 = 1 → (isO h13 11 r0) ∧ ((isO h13 5 (gF h13 r0 6)) ∧ (P (some (.int (gI h13 (gF h13 r0 6) 8))) h13))) ∧ (¬ x7 = 1 → P (some (.int z14)) h13))))))))))) ∧ (¬ x7 ≤ 2 → P (some (.int (-2))) h))))) ∧ (¬ (¬ x4 < (-2) ∧ ¬ 2 < x4) → P (some (.int (-2))) h)))) : Rr mX11_seen 0 0 0 [(0, .ref r0), (1, .int x1), (2, .int x2), (3, .int x3), (4, .int x4), (5, .int x5), (6, .int x6), (7, .int x7)] [] h P := by
  refine R_iload_n dX11_seen_0 rfl 1 rfl ?_
  refine R_iload_n dX11_seen_1 rfl 2 rfl ?_
  refine R_callS (N := mX11_areUnlikeInks) (as := [.int x1, .int x2]) (rest := []) (kc2 := 0) (ks2 := 0) dX11_seen_2 lmX11_236 oX11_areUnlikeInks (Nat.le_of_ble_eq_true rfl) rfl rfl (Nat.le_of_ble_eq_true rfl) rfl rfl (aX11_areUnlikeInks  ?_)
  refine R_if_eq_b (tgt := 23) dX11_seen_5 (by decide) (fun b1 => ?_) (fun b1 => ?_)
  · have hf := hf.1 b1
    refine R_bipush (v := (-2)) dX11_seen_23 (by decide) ?_
    exact R_iret dX11_seen_25 rfl rfl hf
  · have hf := hf.2 b1
    refine R_iload_n dX11_seen_8 rfl 3 rfl ?_
    refine R_callS (N := mX11_isSpread) (as := [.int x3]) (rest := []) (kc2 := 0) (ks2 := 0) dX11_seen_9 lmX11_220 oX11_isSpread (Nat.le_of_ble_eq_true rfl) rfl rfl (Nat.le_of_ble_eq_true rfl) rfl rfl (aX11_isSpread  ?_)
    refine R_if_eq_b (tgt := 23) dX11_seen_12 (by decide) (fun b2 => ?_) (fun b2 => ?_)
    · have hf := hf.1 b2
      refine R_bipush (v := (-2)) dX11_seen_23 (by decide) ?_
      exact R_iret dX11_seen_25 rfl rfl hf
    · have hf := hf.2 b2
      refine R_iload dX11_seen_15 4 rfl ?_
      refine R_callS (N := mX11_isSpread) (as := [.int x4]) (rest := []) (kc2 := 0) (ks2 := 0) dX11_seen_17 lmX11_220 oX11_isSpread (Nat.le_of_ble_eq_true rfl) rfl rfl (Nat.le_of_ble_eq_true rfl) rfl rfl (aX11_isSpread  ?_)
      refine R_if_ne_b (tgt := 26) dX11_seen_20 (by decide) (fun b3 => ?_) (fun b3 => ?_)
      · have hf := hf.1 b3
        refine R_iload dX11_seen_26 5 rfl ?_
        refine R_callS (N := mX0_isShift) (as := [.int x5]) (rest := []) (kc2 := 0) (ks2 := 0) dX11_seen_28 lmX11_240 oX0_isShift (Nat.le_of_ble_eq_true rfl) rfl rfl (Nat.le_of_ble_eq_true rfl) rfl rfl (aX0_isShift  ?_)
        refine R_if_eq_b (tgt := 53) dX11_seen_31 (by decide) (fun b4 => ?_) (fun b4 => ?_)
        · have hf := hf.1 b4
          refine R_bipush (v := (-2)) dX11_seen_53 (by decide) ?_
          exact R_iret dX11_seen_55 rfl rfl hf
        · have hf := hf.2 b4
          refine R_iload dX11_seen_34 6 rfl ?_
          refine R_callS (N := mX0_isShift) (as := [.int x6]) (rest := []) (kc2 := 0) (ks2 := 0) dX11_seen_36 lmX11_240 oX0_isShift (Nat.le_of_ble_eq_true rfl) rfl rfl (Nat.le_of_ble_eq_true rfl) rfl rfl (aX0_isShift  ?_)
          refine R_if_eq_b (tgt := 53) dX11_seen_39 (by decide) (fun b5 => ?_) (fun b5 => ?_)
          · have hf := hf.1 b5
            refine R_bipush (v := (-2)) dX11_seen_53 (by decide) ?_
            exact R_iret dX11_seen_55 rfl rfl hf
          · have hf := hf.2 b5
            refine R_iload dX11_seen_42 7 rfl ?_
            refine R_if_lt (tgt := 53) dX11_seen_44 (by decide) (fun b6 => ?_) (fun b6 => ?_)
            · have hf := hf.1 b6
              refine R_bipush (v := (-2)) dX11_seen_53 (by decide) ?_
              exact R_iret dX11_seen_55 rfl rfl hf
            · have hf := hf.2 b6
              refine R_iload dX11_seen_47 7 rfl ?_
              refine R_iconst (v := 2) dX11_seen_49 (by decide) ?_
              refine R_icmp_le (tgt := 56) dX11_seen_50 (by decide) (fun b7 => ?_) (fun b7 => ?_)
              · have hf := hf.1 b7
                refine R_aload_n dX11_seen_56 rfl 0 rfl ?_
                obtain ⟨ob8, hf⟩ := hf
                refine G11_6 dX11_seen_57 lfX11_52 ob8 ?_
                refine R_aload_n dX11_seen_60 rfl 0 rfl ?_
                refine G11_2 dX11_seen_61 lfX11_24 ob8 ?_
                refine R_iload_n dX11_seen_64 rfl 1 rfl ?_
                refine R_iload_n dX11_seen_65 rfl 2 rfl ?_
                refine R_iload_n dX11_seen_66 rfl 3 rfl ?_
                refine R_iload dX11_seen_67 4 rfl ?_
                obtain ⟨ob9, hf⟩ := hf
                refine R_callV (ci := 5) (N := mX5_lay) (as := [.ref (gF h r0 2), .int x1, .int x2, .int x3, .int x4]) (rest := []) (kc2 := 0) (ks2 := 0) dX11_seen_69 lmX11_243 oX5_lay (Nat.le_of_ble_eq_true rfl) rfl rfl (Nat.le_of_ble_eq_true rfl) rfl rfl ob9 ok5 (Call.mono hf ?_)
                rintro _ h10 ⟨rfl, hf⟩
                refine R_aload_n dX11_seen_72 rfl 0 rfl ?_
                obtain ⟨ob11, hf⟩ := hf
                refine G11_6 dX11_seen_73 lfX11_52 ob11 ?_
                refine R_iload dX11_seen_76 5 rfl ?_
                refine R_iload dX11_seen_78 6 rfl ?_
                obtain ⟨ob12, hf⟩ := hf
                refine R_callV (ci := 5) (N := mX5_slip) (as := [.int x5, .int x6]) (rest := []) (kc2 := 0) (ks2 := 0) dX11_seen_80 lmX11_247 oX5_slip (Nat.le_of_ble_eq_true rfl) rfl rfl (Nat.le_of_ble_eq_true rfl) rfl rfl ob12 ok5 (Call.mono hf ?_)
                rintro _ h13 ⟨z14, rfl, hf⟩
                refine R_istore dX11_seen_83 (by decide) rfl ?_
                refine R_iload dX11_seen_85 8 rfl ?_
                by_cases b15 : x7 = 0
                · have hf := hf.1 b15
                  refine R_lookup (off := 25) (tgt := 112) dX11_seen_87 (by decide) (by rw [b15]; decide) (by decide) ?_
                  refine R_aload_n dX11_seen_112 rfl 1 rfl ?_
                  obtain ⟨ob16, hf⟩ := hf
                  refine G11_6 dX11_seen_113 lfX11_52 ob16 ?_
                  obtain ⟨ob17, hf⟩ := hf
                  refine G5_7 dX11_seen_116 lfX11_251 ob17 ?_
                  exact R_iret dX11_seen_119 rfl rfl hf
                have hf := hf.2 b15
                by_cases b18 : x7 = 1
                · have hf := hf.1 b18
                  refine R_lookup (off := 33) (tgt := 120) dX11_seen_87 (by decide) (by rw [b18]; decide) (by decide) ?_
                  refine R_aload_n dX11_seen_120 rfl 1 rfl ?_
                  obtain ⟨ob19, hf⟩ := hf
                  refine G11_6 dX11_seen_121 lfX11_52 ob19 ?_
                  obtain ⟨ob20, hf⟩ := hf
                  refine G5_8 dX11_seen_124 lfX11_254 ob20 ?_
                  exact R_iret dX11_seen_127 rfl rfl hf
                have hf := hf.2 b18
                refine R_lookup (off := 41) (tgt := 128) dX11_seen_87 (by decide) (by rw [lv_osw b15 (by decide)]; rw [lv_osw b18 (by decide)]; rfl) (by decide) ?_
                refine R_iload dX11_seen_128 0 rfl ?_
                exact R_iret dX11_seen_130 rfl rfl hf
              · have hf := hf.2 b7
                refine R_bipush (v := (-2)) dX11_seen_53 (by decide) ?_
                exact R_iret dX11_seen_55 rfl rfl hf
      · have hf := hf.2 b3
        refine R_bipush (v := (-2)) dX11_seen_23 (by decide) ?_
        exact R_iret dX11_seen_25 rfl rfl hf
theorem dX11_sum_0 : decode cX11_sum 0 = .ok (.iload_n 1, 1) := by decide +kernel
theorem dX11_sum_1 : decode cX11_sum 1 = .ok (.ifCond .lt 10, 3) := by decide +kernel
theorem dX11_sum_4 : decode cX11_sum 4 = .ok (.iload_n 1, 1) := by decide +kernel
theorem dX11_sum_5 : decode cX11_sum 5 = .ok (.sipush 9999, 3) := by decide +kernel
theorem dX11_sum_8 : decode cX11_sum 8 = .ok (.if_icmp .le 6, 3) := by decide +kernel
theorem dX11_sum_11 : decode cX11_sum 11 = .ok (.bipush (-2), 2) := by decide +kernel
theorem dX11_sum_13 : decode cX11_sum 13 = .ok (.ireturn, 1) := by decide +kernel
theorem dX11_sum_14 : decode cX11_sum 14 = .ok (.aload_n 0, 1) := by decide +kernel
theorem dX11_sum_15 : decode cX11_sum 15 = .ok (.iload_n 1, 1) := by decide +kernel
theorem dX11_sum_16 : decode cX11_sum 16 = .ok (.sipush 1000, 3) := by decide +kernel
theorem dX11_sum_19 : decode cX11_sum 19 = .ok (.idiv, 1) := by decide +kernel
theorem dX11_sum_20 : decode cX11_sum 20 = .ok (.iload_n 1, 1) := by decide +kernel
theorem dX11_sum_21 : decode cX11_sum 21 = .ok (.bipush 100, 2) := by decide +kernel
theorem dX11_sum_23 : decode cX11_sum 23 = .ok (.idiv, 1) := by decide +kernel
theorem dX11_sum_24 : decode cX11_sum 24 = .ok (.bipush 10, 2) := by decide +kernel
theorem dX11_sum_26 : decode cX11_sum 26 = .ok (.irem, 1) := by decide +kernel
theorem dX11_sum_27 : decode cX11_sum 27 = .ok (.iload_n 1, 1) := by decide +kernel
theorem dX11_sum_28 : decode cX11_sum 28 = .ok (.bipush 10, 2) := by decide +kernel
theorem dX11_sum_30 : decode cX11_sum 30 = .ok (.idiv, 1) := by decide +kernel
theorem dX11_sum_31 : decode cX11_sum 31 = .ok (.bipush 10, 2) := by decide +kernel
theorem dX11_sum_33 : decode cX11_sum 33 = .ok (.irem, 1) := by decide +kernel
theorem dX11_sum_34 : decode cX11_sum 34 = .ok (.iload_n 1, 1) := by decide +kernel
theorem dX11_sum_35 : decode cX11_sum 35 = .ok (.bipush 10, 2) := by decide +kernel
theorem dX11_sum_37 : decode cX11_sum 37 = .ok (.irem, 1) := by decide +kernel
theorem dX11_sum_38 : decode cX11_sum 38 = .ok (.invokevirtual 382, 3) := by decide +kernel
theorem dX11_sum_41 : decode cX11_sum 41 = .ok (.ireturn, 1) := by decide +kernel
set_option maxRecDepth 20000 in
theorem sX11_sum_0 {P : Option Value → AH → Prop} (h : AH) (r0 : Nat) (x1 : Int32) (hf : (x1 < 0 → P (some (.int (-2))) h) ∧ (¬ x1 < 0 → (x1 ≤ 9999 → (isO h 11 r0) ∧ (Call mX11_sumOf [.ref r0, .int (x1 / 1000), .int ((x1 / 100) % 10), .int ((x1 / 10) % 10), .int (x1 % 10)] h (fun v h4 => ∃ z5 : Int32, v = some (.int z5) ∧ (P (some (.int z5)) h4)))) ∧ (¬ x1 ≤ 9999 → P (some (.int (-2))) h))) : Rr mX11_sum 0 0 0 [(0, .ref r0), (1, .int x1)] [] h P := by
  refine R_iload_n dX11_sum_0 rfl 1 rfl ?_
  refine R_if_lt (tgt := 11) dX11_sum_1 (by decide) (fun b1 => ?_) (fun b1 => ?_)
  · have hf := hf.1 b1
    refine R_bipush (v := (-2)) dX11_sum_11 (by decide) ?_
    exact R_iret dX11_sum_13 rfl rfl hf
  · have hf := hf.2 b1
    refine R_iload_n dX11_sum_4 rfl 1 rfl ?_
    refine R_sipush (v := 9999) dX11_sum_5 (by decide) ?_
    refine R_icmp_le (tgt := 14) dX11_sum_8 (by decide) (fun b2 => ?_) (fun b2 => ?_)
    · have hf := hf.1 b2
      refine R_aload_n dX11_sum_14 rfl 0 rfl ?_
      refine R_iload_n dX11_sum_15 rfl 1 rfl ?_
      refine R_sipush (v := 1000) dX11_sum_16 (by decide) ?_
      refine R_idiv dX11_sum_19 (by decide) ?_
      refine R_iload_n dX11_sum_20 rfl 1 rfl ?_
      refine R_bipush (v := 100) dX11_sum_21 (by decide) ?_
      refine R_idiv dX11_sum_23 (by decide) ?_
      refine R_bipush (v := 10) dX11_sum_24 (by decide) ?_
      refine R_irem dX11_sum_26 (by decide) ?_
      refine R_iload_n dX11_sum_27 rfl 1 rfl ?_
      refine R_bipush (v := 10) dX11_sum_28 (by decide) ?_
      refine R_idiv dX11_sum_30 (by decide) ?_
      refine R_bipush (v := 10) dX11_sum_31 (by decide) ?_
      refine R_irem dX11_sum_33 (by decide) ?_
      refine R_iload_n dX11_sum_34 rfl 1 rfl ?_
      refine R_bipush (v := 10) dX11_sum_35 (by decide) ?_
      refine R_irem dX11_sum_37 (by decide) ?_
      obtain ⟨ob3, hf⟩ := hf
      refine R_callV (ci := 11) (N := mX11_sumOf) (as := [.int (x1 / 1000), .int ((x1 / 100) % 10), .int ((x1 / 10) % 10), .int (x1 % 10)]) (rest := []) (kc2 := 0) (ks2 := 0) dX11_sum_38 lmX11_382 oX11_sumOf (Nat.le_of_ble_eq_true rfl) rfl rfl (Nat.le_of_ble_eq_true rfl) rfl rfl ob3 ok11 (Call.mono hf ?_)
      rintro _ h4 ⟨z5, rfl, hf⟩
      exact R_iret dX11_sum_41 rfl rfl hf
    · have hf := hf.2 b2
      refine R_bipush (v := (-2)) dX11_sum_11 (by decide) ?_
      exact R_iret dX11_sum_13 rfl rfl hf
theorem dX12_fit_0 : decode cX12_fit 0 = .ok (.iload_n 1, 1) := by decide +kernel
theorem dX12_fit_1 : decode cX12_fit 1 = .ok (.invokestatic 259, 3) := by decide +kernel
theorem dX12_fit_4 : decode cX12_fit 4 = .ok (.ifCond .eq 40, 3) := by decide +kernel
theorem dX12_fit_7 : decode cX12_fit 7 = .ok (.iload_n 2, 1) := by decide +kernel
theorem dX12_fit_8 : decode cX12_fit 8 = .ok (.iconst 0, 1) := by decide +kernel
theorem dX12_fit_9 : decode cX12_fit 9 = .ok (.sipush 999, 3) := by decide +kernel
theorem dX12_fit_12 : decode cX12_fit 12 = .ok (.invokestatic 178, 3) := by decide +kernel
theorem dX12_fit_15 : decode cX12_fit 15 = .ok (.ifCond .eq 29, 3) := by decide +kernel
theorem dX12_fit_18 : decode cX12_fit 18 = .ok (.iload_n 3, 1) := by decide +kernel
theorem dX12_fit_19 : decode cX12_fit 19 = .ok (.ifCond .eq 28, 3) := by decide +kernel
theorem dX12_fit_22 : decode cX12_fit 22 = .ok (.iload_n 3, 1) := by decide +kernel
theorem dX12_fit_23 : decode cX12_fit 23 = .ok (.bipush 10, 2) := by decide +kernel
theorem dX12_fit_25 : decode cX12_fit 25 = .ok (.bipush 13, 2) := by decide +kernel
theorem dX12_fit_27 : decode cX12_fit 27 = .ok (.invokestatic 178, 3) := by decide +kernel
theorem dX12_fit_30 : decode cX12_fit 30 = .ok (.ifCond .ne 17, 3) := by decide +kernel
theorem dX12_fit_33 : decode cX12_fit 33 = .ok (.iload_n 3, 1) := by decide +kernel
theorem dX12_fit_34 : decode cX12_fit 34 = .ok (.bipush 20, 2) := by decide +kernel
theorem dX12_fit_36 : decode cX12_fit 36 = .ok (.bipush 23, 2) := by decide +kernel
theorem dX12_fit_38 : decode cX12_fit 38 = .ok (.invokestatic 178, 3) := by decide +kernel
theorem dX12_fit_41 : decode cX12_fit 41 = .ok (.ifCond .ne 6, 3) := by decide +kernel
theorem dX12_fit_44 : decode cX12_fit 44 = .ok (.bipush (-99), 2) := by decide +kernel
theorem dX12_fit_46 : decode cX12_fit 46 = .ok (.ireturn, 1) := by decide +kernel
theorem dX12_fit_47 : decode cX12_fit 47 = .ok (.aload_n 0, 1) := by decide +kernel
theorem dX12_fit_48 : decode cX12_fit 48 = .ok (.iload_n 1, 1) := by decide +kernel
theorem dX12_fit_49 : decode cX12_fit 49 = .ok (.iload_n 2, 1) := by decide +kernel
theorem dX12_fit_50 : decode cX12_fit 50 = .ok (.invokevirtual 292, 3) := by decide +kernel
theorem dX12_fit_53 : decode cX12_fit 53 = .ok (.iload_n 3, 1) := by decide +kernel
theorem dX12_fit_54 : decode cX12_fit 54 = .ok (.ifCond .ne 8, 3) := by decide +kernel
theorem dX12_fit_57 : decode cX12_fit 57 = .ok (.aload_n 0, 1) := by decide +kernel
theorem dX12_fit_58 : decode cX12_fit 58 = .ok (.getfield 279, 3) := by decide +kernel
theorem dX12_fit_61 : decode cX12_fit 61 = .ok (.ireturn, 1) := by decide +kernel
theorem dX12_fit_62 : decode cX12_fit 62 = .ok (.aload_n 0, 1) := by decide +kernel
theorem dX12_fit_63 : decode cX12_fit 63 = .ok (.getfield 279, 3) := by decide +kernel
theorem dX12_fit_66 : decode cX12_fit 66 = .ok (.ifCond .ne 8, 3) := by decide +kernel
theorem dX12_fit_69 : decode cX12_fit 69 = .ok (.bipush (-99), 2) := by decide +kernel
theorem dX12_fit_71 : decode cX12_fit 71 = .ok (.goto 30, 3) := by decide +kernel
theorem dX12_fit_74 : decode cX12_fit 74 = .ok (.iload_n 3, 1) := by decide +kernel
theorem dX12_fit_75 : decode cX12_fit 75 = .ok (.bipush 20, 2) := by decide +kernel
theorem dX12_fit_77 : decode cX12_fit 77 = .ok (.if_icmp .ge 15, 3) := by decide +kernel
theorem dX12_fit_80 : decode cX12_fit 80 = .ok (.aload_n 0, 1) := by decide +kernel
theorem dX12_fit_81 : decode cX12_fit 81 = .ok (.getfield 84, 3) := by decide +kernel
theorem dX12_fit_84 : decode cX12_fit 84 = .ok (.iload_n 3, 1) := by decide +kernel
theorem dX12_fit_85 : decode cX12_fit 85 = .ok (.bipush 10, 2) := by decide +kernel
theorem dX12_fit_87 : decode cX12_fit 87 = .ok (.isub, 1) := by decide +kernel
theorem dX12_fit_88 : decode cX12_fit 88 = .ok (.iaload, 1) := by decide +kernel
theorem dX12_fit_89 : decode cX12_fit 89 = .ok (.goto 12, 3) := by decide +kernel
theorem dX12_fit_92 : decode cX12_fit 92 = .ok (.aload_n 0, 1) := by decide +kernel
theorem dX12_fit_93 : decode cX12_fit 93 = .ok (.getfield 87, 3) := by decide +kernel
theorem dX12_fit_96 : decode cX12_fit 96 = .ok (.iload_n 3, 1) := by decide +kernel
theorem dX12_fit_97 : decode cX12_fit 97 = .ok (.bipush 20, 2) := by decide +kernel
theorem dX12_fit_99 : decode cX12_fit 99 = .ok (.isub, 1) := by decide +kernel
theorem dX12_fit_100 : decode cX12_fit 100 = .ok (.iaload, 1) := by decide +kernel
theorem dX12_fit_101 : decode cX12_fit 101 = .ok (.ireturn, 1) := by decide +kernel
set_option maxRecDepth 20000 in
theorem sX12_fit_0 {P : Option Value → AH → Prop} (h : AH) (r0 : Nat) (x1 : Int32) (x2 : Int32) (x3 : Int32) (hf : (¬ (¬ x1 < 0 ∧ ¬ 3 < x1) → P (some (.int (-99))) h) ∧ ((¬ x1 < 0 ∧ ¬ 3 < x1) → (¬ (¬ x2 < 0 ∧ ¬ 999 < x2) → P (some (.int (-99))) h) ∧ ((¬ x2 < 0 ∧ ¬ 999 < x2) → (x3 = 0 → (isO h 12 r0) ∧ (Call mX12_makeFits [.ref r0, .int x1, .int x2] h (fun v h5 => v = none ∧ ((¬ x3 = 0 → (isO h5 12 r0) ∧ ((isA h5 0 (gF h5 r0 42)) ∧ ((¬ (gI h5 r0 40) = 0 → 20 ≤ x3 → vp_in (x3 - 20) (ln (gF h5 r0 42))) ∧ ((isA h5 0 (gF h5 r0 41)) ∧ ((¬ (gI h5 r0 40) = 0 → ¬ 20 ≤ x3 → vp_in (x3 - 10) (ln (gF h5 r0 41))) ∧ (∀ z14 : Int32, z14 = (if (gI h5 r0 40) = 0 then (-99) else (if 20 ≤ x3 then (gI h5 (gF h5 r0 42) (x3 - 20).toNatClampNeg) else (gI h5 (gF h5 r0 41) (x3 - 10).toNatClampNeg))) → (P (some (.int z14)) h5))))))) ∧ (x3 = 0 → (isO h5 12 r0) ∧ (P (some (.int (gI h5 r0 40))) h5)))))) ∧ (¬ x3 = 0 → ((¬ x3 < 10 ∧ ¬ 13 < x3) → (isO h 12 r0) ∧ (Call mX12_makeFits [.ref r0, .int x1, .int x2] h (fun v h18 => v = none ∧ ((¬ x3 = 0 → (isO h18 12 r0) ∧ ((isA h18 0 (gF h18 r0 42)) ∧ ((¬ (gI h18 r0 40) = 0 → 20 ≤ x3 → vp_in (x3 - 20) (ln (gF h18 r0 42))) ∧ ((isA h18 0 (gF h18 r0 41)) ∧ ((¬ (gI h18 r0 40) = 0 → ¬ 20 ≤ x3 → vp_in (x3 - 10) (ln (gF h18 r0 41))) ∧ (∀ z27 : Int32, z27 = (if (gI h18 r0 40) = 0 then (-99) else (if 20 ≤ x3 then (gI h18 (gF h18 r0 42) (x3 - 20).toNatClampNeg) else (gI h18 (gF h18 r0 41) (x3 - 10).toNatClampNeg))) → (P (some (.int z27)) h18))))))) ∧ (x3 = 0 → (isO h18 12 r0) ∧ (P (some (.int (gI h18 r0 40))) h18)))))) ∧ (¬ (¬ x3 < 10 ∧ ¬ 13 < x3) → ((¬ x3 < 20 ∧ ¬ 23 < x3) → (isO h 12 r0) ∧ (Call mX12_makeFits [.ref r0, .int x1, .int x2] h (fun v h31 => v = none ∧ ((¬ x3 = 0 → (isO h31 12 r0) ∧ ((isA h31 0 (gF h31 r0 42)) ∧ ((¬ (gI h31 r0 40) = 0 → 20 ≤ x3 → vp_in (x3 - 20) (ln (gF h31 r0 42))) ∧ ((isA h31 0 (gF h31 r0 41)) ∧ ((¬ (gI h31 r0 40) = 0 → ¬ 20 ≤ x3 → vp_in (x3 - 10) (ln (gF h31 r0 41))) ∧ (∀ z40 : Int32, z40 = (if (gI h31 r0 40) = 0 then (-99) else (if 20 ≤ x3 then (gI h31 (gF h31 r0 42) (x3 - 20).toNatClampNeg) else (gI h31 (gF h31 r0 41) (x3 - 10).toNatClampNeg))) → (P (some (.int z40)) h31))))))) ∧ (x3 = 0 → (isO h31 12 r0) ∧ (P (some (.int (gI h31 r0 40))) h31)))))) ∧ (¬ (¬ x3 < 20 ∧ ¬ 23 < x3) → P (some (.int (-99))) h)))))) : Rr mX12_fit 0 0 0 [(0, .ref r0), (1, .int x1), (2, .int x2), (3, .int x3)] [] h P := by
  refine R_iload_n dX12_fit_0 rfl 1 rfl ?_
  refine R_callS (N := mX12_isInkNumber) (as := [.int x1]) (rest := []) (kc2 := 0) (ks2 := 0) dX12_fit_1 lmX12_259 oX12_isInkNumber (Nat.le_of_ble_eq_true rfl) rfl rfl (Nat.le_of_ble_eq_true rfl) rfl rfl (aX12_isInkNumber  ?_)
  refine R_if_eq_b (tgt := 44) dX12_fit_4 (by decide) (fun b1 => ?_) (fun b1 => ?_)
  · have hf := hf.1 b1
    refine R_bipush (v := (-99)) dX12_fit_44 (by decide) ?_
    exact R_iret dX12_fit_46 rfl rfl hf
  · have hf := hf.2 b1
    refine R_iload_n dX12_fit_7 rfl 2 rfl ?_
    refine R_iconst (v := 0) dX12_fit_8 (by decide) ?_
    refine R_sipush (v := 999) dX12_fit_9 (by decide) ?_
    refine R_callS (N := mX12_in) (as := [.int x2, .int 0, .int 999]) (rest := []) (kc2 := 0) (ks2 := 0) dX12_fit_12 lmX12_178 oX12_in (Nat.le_of_ble_eq_true rfl) rfl rfl (Nat.le_of_ble_eq_true rfl) rfl rfl (aX12_in  ?_)
    refine R_if_eq_b (tgt := 44) dX12_fit_15 (by decide) (fun b2 => ?_) (fun b2 => ?_)
    · have hf := hf.1 b2
      refine R_bipush (v := (-99)) dX12_fit_44 (by decide) ?_
      exact R_iret dX12_fit_46 rfl rfl hf
    · have hf := hf.2 b2
      refine R_iload_n dX12_fit_18 rfl 3 rfl ?_
      refine R_if_eq (tgt := 47) dX12_fit_19 (by decide) (fun b3 => ?_) (fun b3 => ?_)
      · have hf := hf.1 b3
        refine R_aload_n dX12_fit_47 rfl 0 rfl ?_
        refine R_iload_n dX12_fit_48 rfl 1 rfl ?_
        refine R_iload_n dX12_fit_49 rfl 2 rfl ?_
        obtain ⟨ob4, hf⟩ := hf
        refine R_callV (ci := 12) (N := mX12_makeFits) (as := [.int x1, .int x2]) (rest := []) (kc2 := 0) (ks2 := 0) dX12_fit_50 lmX12_292 oX12_makeFits (Nat.le_of_ble_eq_true rfl) rfl rfl (Nat.le_of_ble_eq_true rfl) rfl rfl ob4 ok12 (Call.mono hf ?_)
        rintro _ h5 ⟨rfl, hf⟩
        refine R_iload_n dX12_fit_53 rfl 3 rfl ?_
        refine R_if_ne (tgt := 62) dX12_fit_54 (by decide) (fun b6 => ?_) (fun b6 => ?_)
        · have hf := hf.1 b6
          refine R_aload_n dX12_fit_62 rfl 0 rfl ?_
          obtain ⟨ob7, hf⟩ := hf
          refine G12_40 dX12_fit_63 lfX12_279 ob7 ?_
          obtain ⟨ob10, hf⟩ := hf
          obtain ⟨ob11, hf⟩ := hf
          obtain ⟨ob12, hf⟩ := hf
          obtain ⟨ob13, hf⟩ := hf
          have key : ∀ z14 : Int32, z14 = (if (gI h5 r0 40) = 0 then (-99) else (if 20 ≤ x3 then (gI h5 (gF h5 r0 42) (x3 - 20).toNatClampNeg) else (gI h5 (gF h5 r0 41) (x3 - 10).toNatClampNeg))) → Rr mX12_fit 0 0 101 [] [.int z14] h5 P := by
            intro z14 ez14
            have hf := hf z14 ez14
            exact R_iret dX12_fit_101 rfl rfl hf
          refine R_if_ne (tgt := 74) dX12_fit_66 (by decide) (fun b8 => ?_) (fun b8 => ?_)
          · refine R_iload_n dX12_fit_74 rfl 3 rfl ?_
            refine R_bipush (v := 20) dX12_fit_75 (by decide) ?_
            refine R_icmp_ge (tgt := 92) dX12_fit_77 (by decide) (fun b9 => ?_) (fun b9 => ?_)
            · refine R_aload_n dX12_fit_92 rfl 0 rfl ?_
              refine G12_42 dX12_fit_93 lfX12_87 ob7 ?_
              refine R_iload_n dX12_fit_96 rfl 3 rfl ?_
              refine R_bipush (v := 20) dX12_fit_97 (by decide) ?_
              refine R_isub dX12_fit_99 ?_
              refine R_iaload dX12_fit_100 ob10 (ob11 b8 b9) ?_
              exact R_sub [] rfl (key _ (by rw [if_neg b8, if_pos b9]))
            · refine R_aload_n dX12_fit_80 rfl 0 rfl ?_
              refine G12_41 dX12_fit_81 lfX12_84 ob7 ?_
              refine R_iload_n dX12_fit_84 rfl 3 rfl ?_
              refine R_bipush (v := 10) dX12_fit_85 (by decide) ?_
              refine R_isub dX12_fit_87 ?_
              refine R_iaload dX12_fit_88 ob12 (ob13 b8 b9) ?_
              refine R_goto (tgt := 101) dX12_fit_89 (by decide) ?_
              exact R_sub [] rfl (key _ (by rw [if_neg b8, if_neg b9]))
          · refine R_bipush (v := (-99)) dX12_fit_69 (by decide) ?_
            refine R_goto (tgt := 101) dX12_fit_71 (by decide) ?_
            exact R_sub [] rfl (key _ (by rw [if_pos b8]))
        · have hf := hf.2 b6
          refine R_aload_n dX12_fit_57 rfl 0 rfl ?_
          obtain ⟨ob15, hf⟩ := hf
          refine G12_40 dX12_fit_58 lfX12_279 ob15 ?_
          exact R_iret dX12_fit_61 rfl rfl hf
      · have hf := hf.2 b3
        refine R_iload_n dX12_fit_22 rfl 3 rfl ?_
        refine R_bipush (v := 10) dX12_fit_23 (by decide) ?_
        refine R_bipush (v := 13) dX12_fit_25 (by decide) ?_
        refine R_callS (N := mX12_in) (as := [.int x3, .int 10, .int 13]) (rest := []) (kc2 := 0) (ks2 := 0) dX12_fit_27 lmX12_178 oX12_in (Nat.le_of_ble_eq_true rfl) rfl rfl (Nat.le_of_ble_eq_true rfl) rfl rfl (aX12_in  ?_)
        refine R_if_ne_b (tgt := 47) dX12_fit_30 (by decide) (fun b16 => ?_) (fun b16 => ?_)
        · have hf := hf.1 b16
          refine R_aload_n dX12_fit_47 rfl 0 rfl ?_
          refine R_iload_n dX12_fit_48 rfl 1 rfl ?_
          refine R_iload_n dX12_fit_49 rfl 2 rfl ?_
          obtain ⟨ob17, hf⟩ := hf
          refine R_callV (ci := 12) (N := mX12_makeFits) (as := [.int x1, .int x2]) (rest := []) (kc2 := 0) (ks2 := 0) dX12_fit_50 lmX12_292 oX12_makeFits (Nat.le_of_ble_eq_true rfl) rfl rfl (Nat.le_of_ble_eq_true rfl) rfl rfl ob17 ok12 (Call.mono hf ?_)
          rintro _ h18 ⟨rfl, hf⟩
          refine R_iload_n dX12_fit_53 rfl 3 rfl ?_
          refine R_if_ne (tgt := 62) dX12_fit_54 (by decide) (fun b19 => ?_) (fun b19 => ?_)
          · have hf := hf.1 b19
            refine R_aload_n dX12_fit_62 rfl 0 rfl ?_
            obtain ⟨ob20, hf⟩ := hf
            refine G12_40 dX12_fit_63 lfX12_279 ob20 ?_
            obtain ⟨ob23, hf⟩ := hf
            obtain ⟨ob24, hf⟩ := hf
            obtain ⟨ob25, hf⟩ := hf
            obtain ⟨ob26, hf⟩ := hf
            have key : ∀ z27 : Int32, z27 = (if (gI h18 r0 40) = 0 then (-99) else (if 20 ≤ x3 then (gI h18 (gF h18 r0 42) (x3 - 20).toNatClampNeg) else (gI h18 (gF h18 r0 41) (x3 - 10).toNatClampNeg))) → Rr mX12_fit 0 0 101 [] [.int z27] h18 P := by
              intro z27 ez27
              have hf := hf z27 ez27
              exact R_iret dX12_fit_101 rfl rfl hf
            refine R_if_ne (tgt := 74) dX12_fit_66 (by decide) (fun b21 => ?_) (fun b21 => ?_)
            · refine R_iload_n dX12_fit_74 rfl 3 rfl ?_
              refine R_bipush (v := 20) dX12_fit_75 (by decide) ?_
              refine R_icmp_ge (tgt := 92) dX12_fit_77 (by decide) (fun b22 => ?_) (fun b22 => ?_)
              · refine R_aload_n dX12_fit_92 rfl 0 rfl ?_
                refine G12_42 dX12_fit_93 lfX12_87 ob20 ?_
                refine R_iload_n dX12_fit_96 rfl 3 rfl ?_
                refine R_bipush (v := 20) dX12_fit_97 (by decide) ?_
                refine R_isub dX12_fit_99 ?_
                refine R_iaload dX12_fit_100 ob23 (ob24 b21 b22) ?_
                exact R_sub [] rfl (key _ (by rw [if_neg b21, if_pos b22]))
              · refine R_aload_n dX12_fit_80 rfl 0 rfl ?_
                refine G12_41 dX12_fit_81 lfX12_84 ob20 ?_
                refine R_iload_n dX12_fit_84 rfl 3 rfl ?_
                refine R_bipush (v := 10) dX12_fit_85 (by decide) ?_
                refine R_isub dX12_fit_87 ?_
                refine R_iaload dX12_fit_88 ob25 (ob26 b21 b22) ?_
                refine R_goto (tgt := 101) dX12_fit_89 (by decide) ?_
                exact R_sub [] rfl (key _ (by rw [if_neg b21, if_neg b22]))
            · refine R_bipush (v := (-99)) dX12_fit_69 (by decide) ?_
              refine R_goto (tgt := 101) dX12_fit_71 (by decide) ?_
              exact R_sub [] rfl (key _ (by rw [if_pos b21]))
          · have hf := hf.2 b19
            refine R_aload_n dX12_fit_57 rfl 0 rfl ?_
            obtain ⟨ob28, hf⟩ := hf
            refine G12_40 dX12_fit_58 lfX12_279 ob28 ?_
            exact R_iret dX12_fit_61 rfl rfl hf
        · have hf := hf.2 b16
          refine R_iload_n dX12_fit_33 rfl 3 rfl ?_
          refine R_bipush (v := 20) dX12_fit_34 (by decide) ?_
          refine R_bipush (v := 23) dX12_fit_36 (by decide) ?_
          refine R_callS (N := mX12_in) (as := [.int x3, .int 20, .int 23]) (rest := []) (kc2 := 0) (ks2 := 0) dX12_fit_38 lmX12_178 oX12_in (Nat.le_of_ble_eq_true rfl) rfl rfl (Nat.le_of_ble_eq_true rfl) rfl rfl (aX12_in  ?_)
          refine R_if_ne_b (tgt := 47) dX12_fit_41 (by decide) (fun b29 => ?_) (fun b29 => ?_)
          · have hf := hf.1 b29
            refine R_aload_n dX12_fit_47 rfl 0 rfl ?_
            refine R_iload_n dX12_fit_48 rfl 1 rfl ?_
            refine R_iload_n dX12_fit_49 rfl 2 rfl ?_
            obtain ⟨ob30, hf⟩ := hf
            refine R_callV (ci := 12) (N := mX12_makeFits) (as := [.int x1, .int x2]) (rest := []) (kc2 := 0) (ks2 := 0) dX12_fit_50 lmX12_292 oX12_makeFits (Nat.le_of_ble_eq_true rfl) rfl rfl (Nat.le_of_ble_eq_true rfl) rfl rfl ob30 ok12 (Call.mono hf ?_)
            rintro _ h31 ⟨rfl, hf⟩
            refine R_iload_n dX12_fit_53 rfl 3 rfl ?_
            refine R_if_ne (tgt := 62) dX12_fit_54 (by decide) (fun b32 => ?_) (fun b32 => ?_)
            · have hf := hf.1 b32
              refine R_aload_n dX12_fit_62 rfl 0 rfl ?_
              obtain ⟨ob33, hf⟩ := hf
              refine G12_40 dX12_fit_63 lfX12_279 ob33 ?_
              obtain ⟨ob36, hf⟩ := hf
              obtain ⟨ob37, hf⟩ := hf
              obtain ⟨ob38, hf⟩ := hf
              obtain ⟨ob39, hf⟩ := hf
              have key : ∀ z40 : Int32, z40 = (if (gI h31 r0 40) = 0 then (-99) else (if 20 ≤ x3 then (gI h31 (gF h31 r0 42) (x3 - 20).toNatClampNeg) else (gI h31 (gF h31 r0 41) (x3 - 10).toNatClampNeg))) → Rr mX12_fit 0 0 101 [] [.int z40] h31 P := by
                intro z40 ez40
                have hf := hf z40 ez40
                exact R_iret dX12_fit_101 rfl rfl hf
              refine R_if_ne (tgt := 74) dX12_fit_66 (by decide) (fun b34 => ?_) (fun b34 => ?_)
              · refine R_iload_n dX12_fit_74 rfl 3 rfl ?_
                refine R_bipush (v := 20) dX12_fit_75 (by decide) ?_
                refine R_icmp_ge (tgt := 92) dX12_fit_77 (by decide) (fun b35 => ?_) (fun b35 => ?_)
                · refine R_aload_n dX12_fit_92 rfl 0 rfl ?_
                  refine G12_42 dX12_fit_93 lfX12_87 ob33 ?_
                  refine R_iload_n dX12_fit_96 rfl 3 rfl ?_
                  refine R_bipush (v := 20) dX12_fit_97 (by decide) ?_
                  refine R_isub dX12_fit_99 ?_
                  refine R_iaload dX12_fit_100 ob36 (ob37 b34 b35) ?_
                  exact R_sub [] rfl (key _ (by rw [if_neg b34, if_pos b35]))
                · refine R_aload_n dX12_fit_80 rfl 0 rfl ?_
                  refine G12_41 dX12_fit_81 lfX12_84 ob33 ?_
                  refine R_iload_n dX12_fit_84 rfl 3 rfl ?_
                  refine R_bipush (v := 10) dX12_fit_85 (by decide) ?_
                  refine R_isub dX12_fit_87 ?_
                  refine R_iaload dX12_fit_88 ob38 (ob39 b34 b35) ?_
                  refine R_goto (tgt := 101) dX12_fit_89 (by decide) ?_
                  exact R_sub [] rfl (key _ (by rw [if_neg b34, if_neg b35]))
              · refine R_bipush (v := (-99)) dX12_fit_69 (by decide) ?_
                refine R_goto (tgt := 101) dX12_fit_71 (by decide) ?_
                exact R_sub [] rfl (key _ (by rw [if_pos b34]))
            · have hf := hf.2 b32
              refine R_aload_n dX12_fit_57 rfl 0 rfl ?_
              obtain ⟨ob41, hf⟩ := hf
              refine G12_40 dX12_fit_58 lfX12_279 ob41 ?_
              exact R_iret dX12_fit_61 rfl rfl hf
          · have hf := hf.2 b29
            refine R_bipush (v := (-99)) dX12_fit_44 (by decide) ?_
            exact R_iret dX12_fit_46 rfl rfl hf
theorem dX12_seen_0 : decode cX12_seen 0 = .ok (.iload_n 1, 1) := by decide +kernel
theorem dX12_seen_1 : decode cX12_seen 1 = .ok (.iload_n 2, 1) := by decide +kernel
theorem dX12_seen_2 : decode cX12_seen 2 = .ok (.invokestatic 319, 3) := by decide +kernel
theorem dX12_seen_5 : decode cX12_seen 5 = .ok (.ifCond .eq 56, 3) := by decide +kernel
theorem dX12_seen_8 : decode cX12_seen 8 = .ok (.iload_n 3, 1) := by decide +kernel
theorem dX12_seen_9 : decode cX12_seen 9 = .ok (.bipush (-2), 2) := by decide +kernel
theorem dX12_seen_11 : decode cX12_seen 11 = .ok (.iconst 2, 1) := by decide +kernel
theorem dX12_seen_12 : decode cX12_seen 12 = .ok (.invokestatic 178, 3) := by decide +kernel
theorem dX12_seen_15 : decode cX12_seen 15 = .ok (.ifCond .eq 46, 3) := by decide +kernel
theorem dX12_seen_18 : decode cX12_seen 18 = .ok (.iload 4, 2) := by decide +kernel
theorem dX12_seen_20 : decode cX12_seen 20 = .ok (.bipush (-2), 2) := by decide +kernel
theorem dX12_seen_22 : decode cX12_seen 22 = .ok (.iconst 2, 1) := by decide +kernel
theorem dX12_seen_23 : decode cX12_seen 23 = .ok (.invokestatic 178, 3) := by decide +kernel
theorem dX12_seen_26 : decode cX12_seen 26 = .ok (.ifCond .eq 35, 3) := by decide +kernel
theorem dX12_seen_29 : decode cX12_seen 29 = .ok (.iload 5, 2) := by decide +kernel
theorem dX12_seen_31 : decode cX12_seen 31 = .ok (.bipush (-2), 2) := by decide +kernel
theorem dX12_seen_33 : decode cX12_seen 33 = .ok (.iconst 2, 1) := by decide +kernel
theorem dX12_seen_34 : decode cX12_seen 34 = .ok (.invokestatic 178, 3) := by decide +kernel
theorem dX12_seen_37 : decode cX12_seen 37 = .ok (.ifCond .eq 24, 3) := by decide +kernel
theorem dX12_seen_40 : decode cX12_seen 40 = .ok (.iload 6, 2) := by decide +kernel
theorem dX12_seen_42 : decode cX12_seen 42 = .ok (.bipush (-2), 2) := by decide +kernel
theorem dX12_seen_44 : decode cX12_seen 44 = .ok (.iconst 2, 1) := by decide +kernel
theorem dX12_seen_45 : decode cX12_seen 45 = .ok (.invokestatic 178, 3) := by decide +kernel
theorem dX12_seen_48 : decode cX12_seen 48 = .ok (.ifCond .eq 13, 3) := by decide +kernel
theorem dX12_seen_51 : decode cX12_seen 51 = .ok (.iload 7, 2) := by decide +kernel
theorem dX12_seen_53 : decode cX12_seen 53 = .ok (.iconst 0, 1) := by decide +kernel
theorem dX12_seen_54 : decode cX12_seen 54 = .ok (.iconst 2, 1) := by decide +kernel
theorem dX12_seen_55 : decode cX12_seen 55 = .ok (.invokestatic 178, 3) := by decide +kernel
theorem dX12_seen_58 : decode cX12_seen 58 = .ok (.ifCond .ne 6, 3) := by decide +kernel
theorem dX12_seen_61 : decode cX12_seen 61 = .ok (.bipush (-2), 2) := by decide +kernel
theorem dX12_seen_63 : decode cX12_seen 63 = .ok (.ireturn, 1) := by decide +kernel
theorem dX12_seen_64 : decode cX12_seen 64 = .ok (.aload_n 0, 1) := by decide +kernel
theorem dX12_seen_65 : decode cX12_seen 65 = .ok (.iload_n 1, 1) := by decide +kernel
theorem dX12_seen_66 : decode cX12_seen 66 = .ok (.iload_n 2, 1) := by decide +kernel
theorem dX12_seen_67 : decode cX12_seen 67 = .ok (.iload_n 3, 1) := by decide +kernel
theorem dX12_seen_68 : decode cX12_seen 68 = .ok (.iload 4, 2) := by decide +kernel
theorem dX12_seen_70 : decode cX12_seen 70 = .ok (.iload 5, 2) := by decide +kernel
theorem dX12_seen_72 : decode cX12_seen 72 = .ok (.iload 6, 2) := by decide +kernel
theorem dX12_seen_74 : decode cX12_seen 74 = .ok (.invokevirtual 322, 3) := by decide +kernel
theorem dX12_seen_77 : decode cX12_seen 77 = .ok (.istore 8, 2) := by decide +kernel
theorem dX12_seen_79 : decode cX12_seen 79 = .ok (.iload 7, 2) := by decide +kernel
theorem dX12_seen_81 : decode cX12_seen 81 = .ok (.ifCond .ne 10, 3) := by decide +kernel
theorem dX12_seen_84 : decode cX12_seen 84 = .ok (.aload_n 0, 1) := by decide +kernel
theorem dX12_seen_85 : decode cX12_seen 85 = .ok (.getfield 310, 3) := by decide +kernel
theorem dX12_seen_88 : decode cX12_seen 88 = .ok (.goto 18, 3) := by decide +kernel
theorem dX12_seen_91 : decode cX12_seen 91 = .ok (.iload 7, 2) := by decide +kernel
theorem dX12_seen_93 : decode cX12_seen 93 = .ok (.iconst 1, 1) := by decide +kernel
theorem dX12_seen_94 : decode cX12_seen 94 = .ok (.if_icmp .ne 10, 3) := by decide +kernel
theorem dX12_seen_97 : decode cX12_seen 97 = .ok (.aload_n 0, 1) := by decide +kernel
theorem dX12_seen_98 : decode cX12_seen 98 = .ok (.getfield 313, 3) := by decide +kernel
theorem dX12_seen_101 : decode cX12_seen 101 = .ok (.goto 5, 3) := by decide +kernel
theorem dX12_seen_104 : decode cX12_seen 104 = .ok (.iload 8, 2) := by decide +kernel
theorem dX12_seen_106 : decode cX12_seen 106 = .ok (.ireturn, 1) := by decide +kernel
set_option maxRecDepth 20000 in
theorem sX12_seen_0 {P : Option Value → AH → Prop} (h : AH) (r0 : Nat) (x1 : Int32) (x2 : Int32) (x3 : Int32) (x4 : Int32) (x5 : Int32) (x6 : Int32) (x7 : Int32) (hf : (¬ ((¬ x1 < 0 ∧ ¬ 3 < x1) ∧ (¬ x2 < 0 ∧ ¬ 3 < x2) ∧ ¬ x1 = x2) → P (some (.int (-2))) h) ∧ (((¬ x1 < 0 ∧ ¬ 3 < x1) ∧ (¬ x2 < 0 ∧ ¬ 3 < x2) ∧ ¬ x1 = x2) → (¬ (¬ x3 < (-2) ∧ ¬ 2 < x3) → P (some (.int (-2))) h) ∧ ((¬ x3 < (-2) ∧ ¬ 2 < x3) → (¬ (¬ x4 < (-2) ∧ ¬ 2 < x4) → P (some (.int (-2))) h) ∧ ((¬ x4 < (-2) ∧ ¬ 2 < x4) → (¬ (¬ x5 < (-2) ∧ ¬ 2 < x5) → P (some (.int (-2))) h) ∧ ((¬ x5 < (-2) ∧ ¬ 2 < x5) → (¬ (¬ x6 < (-2) ∧ ¬ 2 < x6) → P (some (.int (-2))) h) ∧ ((¬ x6 < (-2) ∧ ¬ 2 < x6) → ((¬ x7 < 0 ∧ ¬ 2 < x7) → (isO h 12 r0) ∧ (Call mX12_look [.ref r0, .int x1, .int x2, .int x3, .int x4, .int x5, .int x6] h (fun v h8 => ∃ z9 : Int32, v = some (.int z9) ∧ ((isO h8 12 r0) ∧ (∀ z13 : Int32, z13 = (if x7 = 0 then (gI h8 r0 46) else (if x7 = 1 then (gI h8 r0 47) else z9)) → (P (some (.int z13)) h8)))))) ∧ (¬ (¬ x7 < 0 ∧ ¬ 2 < x7) → P (some (.int (-2))) h))))))) : Rr mX12_seen 0 0 0 [(0, .ref r0), (1, .int x1), (2, .int x2), (3, .int x3), (4, .int x4), (5, .int x5), (6, .int x6), (7, .int x7)] [] h P := by
  refine R_iload_n dX12_seen_0 rfl 1 rfl ?_
  refine R_iload_n dX12_seen_1 rfl 2 rfl ?_
  refine R_callS (N := mX12_isPair) (as := [.int x1, .int x2]) (rest := []) (kc2 := 0) (ks2 := 0) dX12_seen_2 lmX12_319 oX12_isPair (Nat.le_of_ble_eq_true rfl) rfl rfl (Nat.le_of_ble_eq_true rfl) rfl rfl (aX12_isPair  ?_)
  refine R_if_eq_b (tgt := 61) dX12_seen_5 (by decide) (fun b1 => ?_) (fun b1 => ?_)
  · have hf := hf.1 b1
    refine R_bipush (v := (-2)) dX12_seen_61 (by decide) ?_
    exact R_iret dX12_seen_63 rfl rfl hf
  · have hf := hf.2 b1
    refine R_iload_n dX12_seen_8 rfl 3 rfl ?_
    refine R_bipush (v := (-2)) dX12_seen_9 (by decide) ?_
    refine R_iconst (v := 2) dX12_seen_11 (by decide) ?_
    refine R_callS (N := mX12_in) (as := [.int x3, .int (-2), .int 2]) (rest := []) (kc2 := 0) (ks2 := 0) dX12_seen_12 lmX12_178 oX12_in (Nat.le_of_ble_eq_true rfl) rfl rfl (Nat.le_of_ble_eq_true rfl) rfl rfl (aX12_in  ?_)
    refine R_if_eq_b (tgt := 61) dX12_seen_15 (by decide) (fun b2 => ?_) (fun b2 => ?_)
    · have hf := hf.1 b2
      refine R_bipush (v := (-2)) dX12_seen_61 (by decide) ?_
      exact R_iret dX12_seen_63 rfl rfl hf
    · have hf := hf.2 b2
      refine R_iload dX12_seen_18 4 rfl ?_
      refine R_bipush (v := (-2)) dX12_seen_20 (by decide) ?_
      refine R_iconst (v := 2) dX12_seen_22 (by decide) ?_
      refine R_callS (N := mX12_in) (as := [.int x4, .int (-2), .int 2]) (rest := []) (kc2 := 0) (ks2 := 0) dX12_seen_23 lmX12_178 oX12_in (Nat.le_of_ble_eq_true rfl) rfl rfl (Nat.le_of_ble_eq_true rfl) rfl rfl (aX12_in  ?_)
      refine R_if_eq_b (tgt := 61) dX12_seen_26 (by decide) (fun b3 => ?_) (fun b3 => ?_)
      · have hf := hf.1 b3
        refine R_bipush (v := (-2)) dX12_seen_61 (by decide) ?_
        exact R_iret dX12_seen_63 rfl rfl hf
      · have hf := hf.2 b3
        refine R_iload dX12_seen_29 5 rfl ?_
        refine R_bipush (v := (-2)) dX12_seen_31 (by decide) ?_
        refine R_iconst (v := 2) dX12_seen_33 (by decide) ?_
        refine R_callS (N := mX12_in) (as := [.int x5, .int (-2), .int 2]) (rest := []) (kc2 := 0) (ks2 := 0) dX12_seen_34 lmX12_178 oX12_in (Nat.le_of_ble_eq_true rfl) rfl rfl (Nat.le_of_ble_eq_true rfl) rfl rfl (aX12_in  ?_)
        refine R_if_eq_b (tgt := 61) dX12_seen_37 (by decide) (fun b4 => ?_) (fun b4 => ?_)
        · have hf := hf.1 b4
          refine R_bipush (v := (-2)) dX12_seen_61 (by decide) ?_
          exact R_iret dX12_seen_63 rfl rfl hf
        · have hf := hf.2 b4
          refine R_iload dX12_seen_40 6 rfl ?_
          refine R_bipush (v := (-2)) dX12_seen_42 (by decide) ?_
          refine R_iconst (v := 2) dX12_seen_44 (by decide) ?_
          refine R_callS (N := mX12_in) (as := [.int x6, .int (-2), .int 2]) (rest := []) (kc2 := 0) (ks2 := 0) dX12_seen_45 lmX12_178 oX12_in (Nat.le_of_ble_eq_true rfl) rfl rfl (Nat.le_of_ble_eq_true rfl) rfl rfl (aX12_in  ?_)
          refine R_if_eq_b (tgt := 61) dX12_seen_48 (by decide) (fun b5 => ?_) (fun b5 => ?_)
          · have hf := hf.1 b5
            refine R_bipush (v := (-2)) dX12_seen_61 (by decide) ?_
            exact R_iret dX12_seen_63 rfl rfl hf
          · have hf := hf.2 b5
            refine R_iload dX12_seen_51 7 rfl ?_
            refine R_iconst (v := 0) dX12_seen_53 (by decide) ?_
            refine R_iconst (v := 2) dX12_seen_54 (by decide) ?_
            refine R_callS (N := mX12_in) (as := [.int x7, .int 0, .int 2]) (rest := []) (kc2 := 0) (ks2 := 0) dX12_seen_55 lmX12_178 oX12_in (Nat.le_of_ble_eq_true rfl) rfl rfl (Nat.le_of_ble_eq_true rfl) rfl rfl (aX12_in  ?_)
            refine R_if_ne_b (tgt := 64) dX12_seen_58 (by decide) (fun b6 => ?_) (fun b6 => ?_)
            · have hf := hf.1 b6
              refine R_aload_n dX12_seen_64 rfl 0 rfl ?_
              refine R_iload_n dX12_seen_65 rfl 1 rfl ?_
              refine R_iload_n dX12_seen_66 rfl 2 rfl ?_
              refine R_iload_n dX12_seen_67 rfl 3 rfl ?_
              refine R_iload dX12_seen_68 4 rfl ?_
              refine R_iload dX12_seen_70 5 rfl ?_
              refine R_iload dX12_seen_72 6 rfl ?_
              obtain ⟨ob7, hf⟩ := hf
              refine R_callV (ci := 12) (N := mX12_look) (as := [.int x1, .int x2, .int x3, .int x4, .int x5, .int x6]) (rest := []) (kc2 := 0) (ks2 := 0) dX12_seen_74 lmX12_322 oX12_look (Nat.le_of_ble_eq_true rfl) rfl rfl (Nat.le_of_ble_eq_true rfl) rfl rfl ob7 ok12 (Call.mono hf ?_)
              rintro _ h8 ⟨z9, rfl, hf⟩
              refine R_istore dX12_seen_77 (by decide) rfl ?_
              refine R_iload dX12_seen_79 8 rfl ?_
              obtain ⟨ob12, hf⟩ := hf
              have key : ∀ z13 : Int32, z13 = (if x7 = 0 then (gI h8 r0 46) else (if x7 = 1 then (gI h8 r0 47) else z9)) → Rr mX12_seen 0 0 106 [] [.int z13] h8 P := by
                intro z13 ez13
                have hf := hf z13 ez13
                exact R_iret dX12_seen_106 rfl rfl hf
              refine R_if_ne (tgt := 91) dX12_seen_81 (by decide) (fun b10 => ?_) (fun b10 => ?_)
              · refine R_iload dX12_seen_91 8 rfl ?_
                refine R_iconst (v := 1) dX12_seen_93 (by decide) ?_
                refine R_icmp_ne (tgt := 104) dX12_seen_94 (by decide) (fun b11 => ?_) (fun b11 => ?_)
                · refine R_iload dX12_seen_104 0 rfl ?_
                  exact R_sub [] rfl (key _ (by rw [if_neg b10, if_neg b11]))
                · refine R_aload_n dX12_seen_97 rfl 1 rfl ?_
                  refine G12_47 dX12_seen_98 lfX12_313 ob12 ?_
                  refine R_goto (tgt := 106) dX12_seen_101 (by decide) ?_
                  exact R_sub [] rfl (key _ (by rw [if_neg b10, if_pos b11]))
              · refine R_aload_n dX12_seen_84 rfl 1 rfl ?_
                refine G12_46 dX12_seen_85 lfX12_310 ob12 ?_
                refine R_goto (tgt := 106) dX12_seen_88 (by decide) ?_
                exact R_sub [] rfl (key _ (by rw [if_pos b10]))
            · have hf := hf.2 b6
              refine R_bipush (v := (-2)) dX12_seen_61 (by decide) ?_
              exact R_iret dX12_seen_63 rfl rfl hf
theorem dX12_sure_0 : decode cX12_sure 0 = .ok (.iload_n 1, 1) := by decide +kernel
theorem dX12_sure_1 : decode cX12_sure 1 = .ok (.invokestatic 259, 3) := by decide +kernel
theorem dX12_sure_4 : decode cX12_sure 4 = .ok (.ifCond .eq 14, 3) := by decide +kernel
theorem dX12_sure_7 : decode cX12_sure 7 = .ok (.iload_n 2, 1) := by decide +kernel
theorem dX12_sure_8 : decode cX12_sure 8 = .ok (.iconst 0, 1) := by decide +kernel
theorem dX12_sure_9 : decode cX12_sure 9 = .ok (.sipush 999, 3) := by decide +kernel
theorem dX12_sure_12 : decode cX12_sure 12 = .ok (.invokestatic 178, 3) := by decide +kernel
theorem dX12_sure_15 : decode cX12_sure 15 = .ok (.ifCond .ne 6, 3) := by decide +kernel
theorem dX12_sure_18 : decode cX12_sure 18 = .ok (.bipush (-2), 2) := by decide +kernel
theorem dX12_sure_20 : decode cX12_sure 20 = .ok (.ireturn, 1) := by decide +kernel
theorem dX12_sure_21 : decode cX12_sure 21 = .ok (.aload_n 0, 1) := by decide +kernel
theorem dX12_sure_22 : decode cX12_sure 22 = .ok (.iload_n 1, 1) := by decide +kernel
theorem dX12_sure_23 : decode cX12_sure 23 = .ok (.iload_n 2, 1) := by decide +kernel
theorem dX12_sure_24 : decode cX12_sure 24 = .ok (.invokevirtual 292, 3) := by decide +kernel
theorem dX12_sure_27 : decode cX12_sure 27 = .ok (.aload_n 0, 1) := by decide +kernel
theorem dX12_sure_28 : decode cX12_sure 28 = .ok (.getfield 279, 3) := by decide +kernel
theorem dX12_sure_31 : decode cX12_sure 31 = .ok (.ifCond .ne 5, 3) := by decide +kernel
theorem dX12_sure_34 : decode cX12_sure 34 = .ok (.iconst (-1), 1) := by decide +kernel
theorem dX12_sure_35 : decode cX12_sure 35 = .ok (.ireturn, 1) := by decide +kernel
theorem dX12_sure_36 : decode cX12_sure 36 = .ok (.iconst 0, 1) := by decide +kernel
theorem dX12_sure_37 : decode cX12_sure 37 = .ok (.istore_n 3, 1) := by decide +kernel
theorem dX12_sure_38 : decode cX12_sure 38 = .ok (.iconst 0, 1) := by decide +kernel
theorem dX12_sure_39 : decode cX12_sure 39 = .ok (.istore 4, 2) := by decide +kernel
theorem dX12_sure_41 : decode cX12_sure 41 = .ok (.iload 4, 2) := by decide +kernel
theorem dX12_sure_43 : decode cX12_sure 43 = .ok (.iconst 4, 1) := by decide +kernel
theorem dX12_sure_44 : decode cX12_sure 44 = .ok (.if_icmp .ge 37, 3) := by decide +kernel
theorem dX12_sure_47 : decode cX12_sure 47 = .ok (.iload_n 3, 1) := by decide +kernel
theorem dX12_sure_48 : decode cX12_sure 48 = .ok (.aload_n 0, 1) := by decide +kernel
theorem dX12_sure_49 : decode cX12_sure 49 = .ok (.getfield 84, 3) := by decide +kernel
theorem dX12_sure_52 : decode cX12_sure 52 = .ok (.iload 4, 2) := by decide +kernel
theorem dX12_sure_54 : decode cX12_sure 54 = .ok (.iaload, 1) := by decide +kernel
theorem dX12_sure_55 : decode cX12_sure 55 = .ok (.aload_n 0, 1) := by decide +kernel
theorem dX12_sure_56 : decode cX12_sure 56 = .ok (.getfield 87, 3) := by decide +kernel
theorem dX12_sure_59 : decode cX12_sure 59 = .ok (.iload 4, 2) := by decide +kernel
theorem dX12_sure_61 : decode cX12_sure 61 = .ok (.iaload, 1) := by decide +kernel
theorem dX12_sure_62 : decode cX12_sure 62 = .ok (.if_icmp .ne 10, 3) := by decide +kernel
theorem dX12_sure_65 : decode cX12_sure 65 = .ok (.iconst 1, 1) := by decide +kernel
theorem dX12_sure_66 : decode cX12_sure 66 = .ok (.iload 4, 2) := by decide +kernel
theorem dX12_sure_68 : decode cX12_sure 68 = .ok (.ishl, 1) := by decide +kernel
theorem dX12_sure_69 : decode cX12_sure 69 = .ok (.goto 4, 3) := by decide +kernel
theorem dX12_sure_72 : decode cX12_sure 72 = .ok (.iconst 0, 1) := by decide +kernel
theorem dX12_sure_73 : decode cX12_sure 73 = .ok (.ior, 1) := by decide +kernel
theorem dX12_sure_74 : decode cX12_sure 74 = .ok (.istore_n 3, 1) := by decide +kernel
theorem dX12_sure_75 : decode cX12_sure 75 = .ok (.iinc 4 1, 3) := by decide +kernel
theorem dX12_sure_78 : decode cX12_sure 78 = .ok (.goto (-37), 3) := by decide +kernel
theorem dX12_sure_81 : decode cX12_sure 81 = .ok (.iload_n 3, 1) := by decide +kernel
theorem dX12_sure_82 : decode cX12_sure 82 = .ok (.ireturn, 1) := by decide +kernel
set_option maxRecDepth 20000 in
theorem sX12_sure_0 {P : Option Value → AH → Prop} (h : AH) (r0 : Nat) (x1 : Int32) (x2 : Int32) (hf : (¬ (¬ x1 < 0 ∧ ¬ 3 < x1) → P (some (.int (-2))) h) ∧ ((¬ x1 < 0 ∧ ¬ 3 < x1) → ((¬ x2 < 0 ∧ ¬ 999 < x2) → (isO h 12 r0) ∧ (Call mX12_makeFits [.ref r0, .int x1, .int x2] h (fun v h4 => v = none ∧ ((isO h4 12 r0) ∧ ((¬ (gI h4 r0 40) = 0 → Rr mX12_sure 0 0 41 [(0, .ref r0), (3, .int 0), (4, .int 0)] [] h4 P) ∧ ((gI h4 r0 40) = 0 → P (some (.int (-1))) h4)))))) ∧ (¬ (¬ x2 < 0 ∧ ¬ 999 < x2) → P (some (.int (-2))) h))) : Rr mX12_sure 0 0 0 [(0, .ref r0), (1, .int x1), (2, .int x2)] [] h P := by
  refine R_iload_n dX12_sure_0 rfl 1 rfl ?_
  refine R_callS (N := mX12_isInkNumber) (as := [.int x1]) (rest := []) (kc2 := 0) (ks2 := 0) dX12_sure_1 lmX12_259 oX12_isInkNumber (Nat.le_of_ble_eq_true rfl) rfl rfl (Nat.le_of_ble_eq_true rfl) rfl rfl (aX12_isInkNumber  ?_)
  refine R_if_eq_b (tgt := 18) dX12_sure_4 (by decide) (fun b1 => ?_) (fun b1 => ?_)
  · have hf := hf.1 b1
    refine R_bipush (v := (-2)) dX12_sure_18 (by decide) ?_
    exact R_iret dX12_sure_20 rfl rfl hf
  · have hf := hf.2 b1
    refine R_iload_n dX12_sure_7 rfl 2 rfl ?_
    refine R_iconst (v := 0) dX12_sure_8 (by decide) ?_
    refine R_sipush (v := 999) dX12_sure_9 (by decide) ?_
    refine R_callS (N := mX12_in) (as := [.int x2, .int 0, .int 999]) (rest := []) (kc2 := 0) (ks2 := 0) dX12_sure_12 lmX12_178 oX12_in (Nat.le_of_ble_eq_true rfl) rfl rfl (Nat.le_of_ble_eq_true rfl) rfl rfl (aX12_in  ?_)
    refine R_if_ne_b (tgt := 21) dX12_sure_15 (by decide) (fun b2 => ?_) (fun b2 => ?_)
    · have hf := hf.1 b2
      refine R_aload_n dX12_sure_21 rfl 0 rfl ?_
      refine R_iload_n dX12_sure_22 rfl 1 rfl ?_
      refine R_iload_n dX12_sure_23 rfl 2 rfl ?_
      obtain ⟨ob3, hf⟩ := hf
      refine R_callV (ci := 12) (N := mX12_makeFits) (as := [.int x1, .int x2]) (rest := []) (kc2 := 0) (ks2 := 0) dX12_sure_24 lmX12_292 oX12_makeFits (Nat.le_of_ble_eq_true rfl) rfl rfl (Nat.le_of_ble_eq_true rfl) rfl rfl ob3 ok12 (Call.mono hf ?_)
      rintro _ h4 ⟨rfl, hf⟩
      refine R_aload_n dX12_sure_27 rfl 0 rfl ?_
      obtain ⟨ob5, hf⟩ := hf
      refine G12_40 dX12_sure_28 lfX12_279 ob5 ?_
      refine R_if_ne (tgt := 36) dX12_sure_31 (by decide) (fun b6 => ?_) (fun b6 => ?_)
      · have hf := hf.1 b6
        refine R_iconst (v := 0) dX12_sure_36 (by decide) ?_
        refine R_istore_n dX12_sure_37 rfl (by decide) rfl ?_
        refine R_iconst (v := 0) dX12_sure_38 (by decide) ?_
        refine R_istore dX12_sure_39 (by decide) rfl ?_
        exact R_sub [2, 1, 0] rfl hf
      · have hf := hf.2 b6
        refine R_iconst (v := (-1)) dX12_sure_34 (by decide) ?_
        exact R_iret dX12_sure_35 rfl rfl hf
    · have hf := hf.2 b2
      refine R_bipush (v := (-2)) dX12_sure_18 (by decide) ?_
      exact R_iret dX12_sure_20 rfl rfl hf
set_option maxRecDepth 20000 in
theorem sX12_sure_41 {P : Option Value → AH → Prop} (h : AH) (r0 : Nat) (x3 : Int32) (x4 : Int32) (hf : (4 ≤ x4 → P (some (.int x3)) h) ∧ (¬ 4 ≤ x4 → (isO h 12 r0) ∧ ((isA h 0 (gF h r0 41)) ∧ ((vp_in x4 (ln (gF h r0 41))) ∧ ((isA h 0 (gF h r0 42)) ∧ ((vp_in x4 (ln (gF h r0 42))) ∧ (∀ z8 : Int32, z8 = (if (gI h (gF h r0 41) x4.toNatClampNeg) = (gI h (gF h r0 42) x4.toNatClampNeg) then ((1 : Int32) <<< (x4 &&& 31)) else 0) → (Rr mX12_sure 0 0 41 [(0, .ref r0), (3, .int (x3 ||| z8)), (4, .int (x4 + 1))] [] h P)))))))) : Rr mX12_sure 0 0 41 [(0, .ref r0), (3, .int x3), (4, .int x4)] [] h P := by
  refine R_iload dX12_sure_41 2 rfl ?_
  refine R_iconst (v := 4) dX12_sure_43 (by decide) ?_
  refine R_icmp_ge (tgt := 81) dX12_sure_44 (by decide) (fun b1 => ?_) (fun b1 => ?_)
  · have hf := hf.1 b1
    refine R_iload_n dX12_sure_81 rfl 1 rfl ?_
    exact R_iret dX12_sure_82 rfl rfl hf
  · have hf := hf.2 b1
    refine R_iload_n dX12_sure_47 rfl 1 rfl ?_
    refine R_aload_n dX12_sure_48 rfl 0 rfl ?_
    obtain ⟨ob2, hf⟩ := hf
    refine G12_41 dX12_sure_49 lfX12_84 ob2 ?_
    refine R_iload dX12_sure_52 2 rfl ?_
    obtain ⟨ob3, hf⟩ := hf
    obtain ⟨ob4, hf⟩ := hf
    refine R_iaload dX12_sure_54 ob3 ob4 ?_
    refine R_aload_n dX12_sure_55 rfl 0 rfl ?_
    refine G12_42 dX12_sure_56 lfX12_87 ob2 ?_
    refine R_iload dX12_sure_59 2 rfl ?_
    obtain ⟨ob5, hf⟩ := hf
    obtain ⟨ob6, hf⟩ := hf
    refine R_iaload dX12_sure_61 ob5 ob6 ?_
    have key : ∀ z8 : Int32, z8 = (if (gI h (gF h r0 41) x4.toNatClampNeg) = (gI h (gF h r0 42) x4.toNatClampNeg) then ((1 : Int32) <<< (x4 &&& 31)) else 0) → Rr mX12_sure 0 0 73 [(0, .ref r0), (4, .int x4)] [.int z8, .int x3] h P := by
      intro z8 ez8
      have hf := hf z8 ez8
      refine R_ior dX12_sure_73 ?_
      refine R_istore_n dX12_sure_74 rfl (by decide) rfl ?_
      refine R_iinc (v := x4 + 1) dX12_sure_75 2 rfl rfl (by decide) rfl ?_
      refine R_goto (tgt := 41) dX12_sure_78 (by decide) ?_
      exact R_sub [2, 1, 0] rfl hf
    refine R_icmp_ne (tgt := 72) dX12_sure_62 (by decide) (fun b7 => ?_) (fun b7 => ?_)
    · refine R_iconst (v := 0) dX12_sure_72 (by decide) ?_
      exact R_sub [0, 2] rfl (key _ (by rw [if_neg b7]))
    · refine R_iconst (v := 1) dX12_sure_65 (by decide) ?_
      refine R_iload dX12_sure_66 2 rfl ?_
      refine R_ishl dX12_sure_68 ?_
      refine R_goto (tgt := 73) dX12_sure_69 (by decide) ?_
      exact R_sub [0, 2] rfl (key _ (by rw [if_pos b7]))
theorem dX12_worstOf_0 : decode cX12_worstOf 0 = .ok (.iconst 0, 1) := by decide +kernel
theorem dX12_worstOf_1 : decode cX12_worstOf 1 = .ok (.istore 6, 2) := by decide +kernel
theorem dX12_worstOf_3 : decode cX12_worstOf 3 = .ok (.iload 5, 2) := by decide +kernel
theorem dX12_worstOf_5 : decode cX12_worstOf 5 = .ok (.ineg, 1) := by decide +kernel
theorem dX12_worstOf_6 : decode cX12_worstOf 6 = .ok (.istore 7, 2) := by decide +kernel
theorem dX12_worstOf_8 : decode cX12_worstOf 8 = .ok (.iload 7, 2) := by decide +kernel
theorem dX12_worstOf_10 : decode cX12_worstOf 10 = .ok (.iload 5, 2) := by decide +kernel
theorem dX12_worstOf_12 : decode cX12_worstOf 12 = .ok (.if_icmp .gt 58, 3) := by decide +kernel
theorem dX12_worstOf_15 : decode cX12_worstOf 15 = .ok (.iload 5, 2) := by decide +kernel
theorem dX12_worstOf_17 : decode cX12_worstOf 17 = .ok (.ineg, 1) := by decide +kernel
theorem dX12_worstOf_18 : decode cX12_worstOf 18 = .ok (.istore 8, 2) := by decide +kernel
theorem dX12_worstOf_20 : decode cX12_worstOf 20 = .ok (.iload 8, 2) := by decide +kernel
theorem dX12_worstOf_22 : decode cX12_worstOf 22 = .ok (.iload 5, 2) := by decide +kernel
theorem dX12_worstOf_24 : decode cX12_worstOf 24 = .ok (.if_icmp .gt 40, 3) := by decide +kernel
theorem dX12_worstOf_27 : decode cX12_worstOf 27 = .ok (.aload_n 0, 1) := by decide +kernel
theorem dX12_worstOf_28 : decode cX12_worstOf 28 = .ok (.iload_n 1, 1) := by decide +kernel
theorem dX12_worstOf_29 : decode cX12_worstOf 29 = .ok (.iload_n 2, 1) := by decide +kernel
theorem dX12_worstOf_30 : decode cX12_worstOf 30 = .ok (.iload_n 3, 1) := by decide +kernel
theorem dX12_worstOf_31 : decode cX12_worstOf 31 = .ok (.iload 4, 2) := by decide +kernel
theorem dX12_worstOf_33 : decode cX12_worstOf 33 = .ok (.iload 7, 2) := by decide +kernel
theorem dX12_worstOf_35 : decode cX12_worstOf 35 = .ok (.iload 8, 2) := by decide +kernel
theorem dX12_worstOf_37 : decode cX12_worstOf 37 = .ok (.invokevirtual 322, 3) := by decide +kernel
theorem dX12_worstOf_40 : decode cX12_worstOf 40 = .ok (.istore 9, 2) := by decide +kernel
theorem dX12_worstOf_42 : decode cX12_worstOf 42 = .ok (.iload 9, 2) := by decide +kernel
theorem dX12_worstOf_44 : decode cX12_worstOf 44 = .ok (.iload 6, 2) := by decide +kernel
theorem dX12_worstOf_46 : decode cX12_worstOf 46 = .ok (.if_icmp .le 8, 3) := by decide +kernel
theorem dX12_worstOf_49 : decode cX12_worstOf 49 = .ok (.iload 9, 2) := by decide +kernel
theorem dX12_worstOf_51 : decode cX12_worstOf 51 = .ok (.goto 5, 3) := by decide +kernel
theorem dX12_worstOf_54 : decode cX12_worstOf 54 = .ok (.iload 6, 2) := by decide +kernel
theorem dX12_worstOf_56 : decode cX12_worstOf 56 = .ok (.istore 6, 2) := by decide +kernel
theorem dX12_worstOf_58 : decode cX12_worstOf 58 = .ok (.iinc 8 1, 3) := by decide +kernel
theorem dX12_worstOf_61 : decode cX12_worstOf 61 = .ok (.goto (-41), 3) := by decide +kernel
theorem dX12_worstOf_64 : decode cX12_worstOf 64 = .ok (.iinc 7 1, 3) := by decide +kernel
theorem dX12_worstOf_67 : decode cX12_worstOf 67 = .ok (.goto (-59), 3) := by decide +kernel
theorem dX12_worstOf_70 : decode cX12_worstOf 70 = .ok (.iload 6, 2) := by decide +kernel
theorem dX12_worstOf_72 : decode cX12_worstOf 72 = .ok (.ireturn, 1) := by decide +kernel
set_option maxRecDepth 20000 in
theorem sX12_worstOf_0 {P : Option Value → AH → Prop} (h : AH) (r0 : Nat) (x1 : Int32) (x2 : Int32) (x3 : Int32) (x4 : Int32) (x5 : Int32) (hf : Rr mX12_worstOf 0 0 8 [(0, .ref r0), (1, .int x1), (2, .int x2), (3, .int x3), (4, .int x4), (5, .int x5), (6, .int 0), (7, .int (-x5))] [] h P) : Rr mX12_worstOf 0 0 0 [(0, .ref r0), (1, .int x1), (2, .int x2), (3, .int x3), (4, .int x4), (5, .int x5)] [] h P := by
  refine R_iconst (v := 0) dX12_worstOf_0 (by decide) ?_
  refine R_istore dX12_worstOf_1 (by decide) rfl ?_
  refine R_iload dX12_worstOf_3 6 rfl ?_
  refine R_ineg dX12_worstOf_5 ?_
  refine R_istore dX12_worstOf_6 (by decide) rfl ?_
  exact R_sub [2, 3, 4, 5, 6, 7, 1, 0] rfl hf
set_option maxRecDepth 20000 in
theorem sX12_worstOf_8 {P : Option Value → AH → Prop} (h : AH) (r0 : Nat) (x1 : Int32) (x2 : Int32) (x3 : Int32) (x4 : Int32) (x5 : Int32) (x6 : Int32) (x7 : Int32) (hf : (x5 < x7 → P (some (.int x6)) h) ∧ (¬ x5 < x7 → Rr mX12_worstOf 0 0 20 [(0, .ref r0), (1, .int x1), (2, .int x2), (3, .int x3), (4, .int x4), (5, .int x5), (6, .int x6), (7, .int x7), (8, .int (-x5))] [] h P)) : Rr mX12_worstOf 0 0 8 [(0, .ref r0), (1, .int x1), (2, .int x2), (3, .int x3), (4, .int x4), (5, .int x5), (6, .int x6), (7, .int x7)] [] h P := by
  refine R_iload dX12_worstOf_8 7 rfl ?_
  refine R_iload dX12_worstOf_10 5 rfl ?_
  refine R_icmp_gt (tgt := 70) dX12_worstOf_12 (by decide) (fun b1 => ?_) (fun b1 => ?_)
  · have hf := hf.1 b1
    refine R_iload dX12_worstOf_70 6 rfl ?_
    exact R_iret dX12_worstOf_72 rfl rfl hf
  · have hf := hf.2 b1
    refine R_iload dX12_worstOf_15 5 rfl ?_
    refine R_ineg dX12_worstOf_17 ?_
    refine R_istore dX12_worstOf_18 (by decide) rfl ?_
    exact R_sub [1, 2, 3, 4, 5, 6, 7, 8, 0] rfl hf
set_option maxRecDepth 20000 in
theorem sX12_worstOf_20 {P : Option Value → AH → Prop} (h : AH) (r0 : Nat) (x1 : Int32) (x2 : Int32) (x3 : Int32) (x4 : Int32) (x5 : Int32) (x6 : Int32) (x7 : Int32) (x8 : Int32) (hf : (x5 < x8 → Rr mX12_worstOf 0 0 8 [(0, .ref r0), (1, .int x1), (2, .int x2), (3, .int x3), (4, .int x4), (5, .int x5), (6, .int x6), (7, .int (x7 + 1))] [] h P) ∧ (¬ x5 < x8 → (isO h 12 r0) ∧ (Call mX12_look [.ref r0, .int x1, .int x2, .int x3, .int x4, .int x7, .int x8] h (fun v h3 => ∃ z4 : Int32, v = some (.int z4) ∧ (∀ z6 : Int32, z6 = (if z4 ≤ x6 then x6 else z4) → (Rr mX12_worstOf 0 0 20 [(0, .ref r0), (1, .int x1), (2, .int x2), (3, .int x3), (4, .int x4), (5, .int x5), (6, .int z6), (7, .int x7), (8, .int (x8 + 1))] [] h3 P)))))) : Rr mX12_worstOf 0 0 20 [(0, .ref r0), (1, .int x1), (2, .int x2), (3, .int x3), (4, .int x4), (5, .int x5), (6, .int x6), (7, .int x7), (8, .int x8)] [] h P := by
  refine R_iload dX12_worstOf_20 8 rfl ?_
  refine R_iload dX12_worstOf_22 5 rfl ?_
  refine R_icmp_gt (tgt := 64) dX12_worstOf_24 (by decide) (fun b1 => ?_) (fun b1 => ?_)
  · have hf := hf.1 b1
    refine R_iinc (v := x7 + 1) dX12_worstOf_64 7 rfl rfl (by decide) rfl ?_
    refine R_goto (tgt := 8) dX12_worstOf_67 (by decide) ?_
    exact R_sub [1, 2, 3, 4, 5, 6, 7, 0] rfl hf
  · have hf := hf.2 b1
    refine R_aload_n dX12_worstOf_27 rfl 0 rfl ?_
    refine R_iload_n dX12_worstOf_28 rfl 1 rfl ?_
    refine R_iload_n dX12_worstOf_29 rfl 2 rfl ?_
    refine R_iload_n dX12_worstOf_30 rfl 3 rfl ?_
    refine R_iload dX12_worstOf_31 4 rfl ?_
    refine R_iload dX12_worstOf_33 7 rfl ?_
    refine R_iload dX12_worstOf_35 8 rfl ?_
    obtain ⟨ob2, hf⟩ := hf
    refine R_callV (ci := 12) (N := mX12_look) (as := [.int x1, .int x2, .int x3, .int x4, .int x7, .int x8]) (rest := []) (kc2 := 0) (ks2 := 0) dX12_worstOf_37 lmX12_322 oX12_look (Nat.le_of_ble_eq_true rfl) rfl rfl (Nat.le_of_ble_eq_true rfl) rfl rfl ob2 ok12 (Call.mono hf ?_)
    rintro _ h3 ⟨z4, rfl, hf⟩
    refine R_istore dX12_worstOf_40 (by decide) rfl ?_
    refine R_iload dX12_worstOf_42 0 rfl ?_
    refine R_iload dX12_worstOf_44 7 rfl ?_
    have key : ∀ z6 : Int32, z6 = (if z4 ≤ x6 then x6 else z4) → Rr mX12_worstOf 0 0 56 [(0, .ref r0), (1, .int x1), (2, .int x2), (3, .int x3), (4, .int x4), (5, .int x5), (7, .int x7), (8, .int x8)] [.int z6] h3 P := by
      intro z6 ez6
      have hf := hf z6 ez6
      refine R_istore dX12_worstOf_56 (by decide) rfl ?_
      refine R_iinc (v := x8 + 1) dX12_worstOf_58 8 rfl rfl (by decide) rfl ?_
      refine R_goto (tgt := 20) dX12_worstOf_61 (by decide) ?_
      exact R_sub [2, 3, 4, 5, 6, 7, 1, 8, 0] rfl hf
    refine R_icmp_le (tgt := 54) dX12_worstOf_46 (by decide) (fun b5 => ?_) (fun b5 => ?_)
    · refine R_iload dX12_worstOf_54 7 rfl ?_
      exact R_sub [1, 2, 3, 4, 5, 6, 8, 9] rfl (key _ (by rw [if_pos b5]))
    · refine R_iload dX12_worstOf_49 0 rfl ?_
      refine R_goto (tgt := 56) dX12_worstOf_51 (by decide) ?_
      exact R_sub [1, 2, 3, 4, 5, 6, 8, 9] rfl (key _ (by rw [if_neg b5]))
theorem dX1_find_0 : decode cX1_find 0 = .ok (.aload_n 0, 1) := by decide +kernel
theorem dX1_find_1 : decode cX1_find 1 = .ok (.aload_n 1, 1) := by decide +kernel
theorem dX1_find_2 : decode cX1_find 2 = .ok (.aload_n 2, 1) := by decide +kernel
theorem dX1_find_3 : decode cX1_find 3 = .ok (.iload_n 3, 1) := by decide +kernel
theorem dX1_find_4 : decode cX1_find 4 = .ok (.iload 4, 2) := by decide +kernel
theorem dX1_find_6 : decode cX1_find 6 = .ok (.invokevirtual 30, 3) := by decide +kernel
theorem dX1_find_9 : decode cX1_find 9 = .ok (.aload_n 0, 1) := by decide +kernel
theorem dX1_find_10 : decode cX1_find 10 = .ok (.iconst 0, 1) := by decide +kernel
theorem dX1_find_11 : decode cX1_find 11 = .ok (.putfield 34, 3) := by decide +kernel
theorem dX1_find_14 : decode cX1_find 14 = .ok (.bipush (-9), 2) := by decide +kernel
theorem dX1_find_16 : decode cX1_find 16 = .ok (.istore 5, 2) := by decide +kernel
theorem dX1_find_18 : decode cX1_find 18 = .ok (.iload 5, 2) := by decide +kernel
theorem dX1_find_20 : decode cX1_find 20 = .ok (.bipush 9, 2) := by decide +kernel
theorem dX1_find_22 : decode cX1_find 22 = .ok (.if_icmp .gt 67, 3) := by decide +kernel
theorem dX1_find_25 : decode cX1_find 25 = .ok (.iconst 0, 1) := by decide +kernel
theorem dX1_find_26 : decode cX1_find 26 = .ok (.istore 6, 2) := by decide +kernel
theorem dX1_find_28 : decode cX1_find 28 = .ok (.iload 6, 2) := by decide +kernel
theorem dX1_find_30 : decode cX1_find 30 = .ok (.bipush 9, 2) := by decide +kernel
theorem dX1_find_32 : decode cX1_find 32 = .ok (.if_icmp .gt 51, 3) := by decide +kernel
theorem dX1_find_35 : decode cX1_find 35 = .ok (.aload_n 0, 1) := by decide +kernel
theorem dX1_find_36 : decode cX1_find 36 = .ok (.iload 5, 2) := by decide +kernel
theorem dX1_find_38 : decode cX1_find 38 = .ok (.iload 6, 2) := by decide +kernel
theorem dX1_find_40 : decode cX1_find 40 = .ok (.aload_n 1, 1) := by decide +kernel
theorem dX1_find_41 : decode cX1_find 41 = .ok (.getfield 38, 3) := by decide +kernel
theorem dX1_find_44 : decode cX1_find 44 = .ok (.invokevirtual 43, 3) := by decide +kernel
theorem dX1_find_47 : decode cX1_find 47 = .ok (.aload_n 0, 1) := by decide +kernel
theorem dX1_find_48 : decode cX1_find 48 = .ok (.getfield 47, 3) := by decide +kernel
theorem dX1_find_51 : decode cX1_find 51 = .ok (.aload_n 0, 1) := by decide +kernel
theorem dX1_find_52 : decode cX1_find 52 = .ok (.getfield 50, 3) := by decide +kernel
theorem dX1_find_55 : decode cX1_find 55 = .ok (.if_icmp .gt 22, 3) := by decide +kernel
theorem dX1_find_58 : decode cX1_find 58 = .ok (.aload_n 0, 1) := by decide +kernel
theorem dX1_find_59 : decode cX1_find 59 = .ok (.getfield 53, 3) := by decide +kernel
theorem dX1_find_62 : decode cX1_find 62 = .ok (.aload_n 0, 1) := by decide +kernel
theorem dX1_find_63 : decode cX1_find 63 = .ok (.getfield 56, 3) := by decide +kernel
theorem dX1_find_66 : decode cX1_find 66 = .ok (.if_icmp .gt 11, 3) := by decide +kernel
theorem dX1_find_69 : decode cX1_find 69 = .ok (.aload_n 0, 1) := by decide +kernel
theorem dX1_find_70 : decode cX1_find 70 = .ok (.iload 5, 2) := by decide +kernel
theorem dX1_find_72 : decode cX1_find 72 = .ok (.iload 6, 2) := by decide +kernel
theorem dX1_find_74 : decode cX1_find 74 = .ok (.invokevirtual 59, 3) := by decide +kernel
theorem dX1_find_77 : decode cX1_find 77 = .ok (.iinc 6 1, 3) := by decide +kernel
theorem dX1_find_80 : decode cX1_find 80 = .ok (.goto (-52), 3) := by decide +kernel
theorem dX1_find_83 : decode cX1_find 83 = .ok (.iinc 5 1, 3) := by decide +kernel
theorem dX1_find_86 : decode cX1_find 86 = .ok (.goto (-68), 3) := by decide +kernel
theorem dX1_find_89 : decode cX1_find 89 = .ok (.return_, 1) := by decide +kernel
set_option maxRecDepth 20000 in
theorem sX1_find_0 {P : Option Value → AH → Prop} (h : AH) (r0 : Nat) (r1 : Nat) (r2 : Nat) (x3 : Int32) (x4 : Int32) (hf : (isO h 1 r0) ∧ (Call mX1_gather [.ref r0, .ref r1, .ref r2, .int x3, .int x4] h (fun v h2 => v = none ∧ ((isO h2 1 r0) ∧ (Rr mX1_find 0 0 18 [(0, .ref r0), (1, .ref r1), (5, .int (-9))] [] (sI h2 r0 9 0) P))))) : Rr mX1_find 0 0 0 [(0, .ref r0), (1, .ref r1), (2, .ref r2), (3, .int x3), (4, .int x4)] [] h P := by
  refine R_aload_n dX1_find_0 rfl 0 rfl ?_
  refine R_aload_n dX1_find_1 rfl 1 rfl ?_
  refine R_aload_n dX1_find_2 rfl 2 rfl ?_
  refine R_iload_n dX1_find_3 rfl 3 rfl ?_
  refine R_iload dX1_find_4 4 rfl ?_
  obtain ⟨ob1, hf⟩ := hf
  refine R_callV (ci := 1) (N := mX1_gather) (as := [.ref r1, .ref r2, .int x3, .int x4]) (rest := []) (kc2 := 0) (ks2 := 0) dX1_find_6 lmX1_30 oX1_gather (Nat.le_of_ble_eq_true rfl) rfl rfl (Nat.le_of_ble_eq_true rfl) rfl rfl ob1 ok1 (Call.mono hf ?_)
  rintro _ h2 ⟨rfl, hf⟩
  refine R_aload_n dX1_find_9 rfl 0 rfl ?_
  refine R_iconst (v := 0) dX1_find_10 (by decide) ?_
  obtain ⟨ob3, hf⟩ := hf
  refine S1_9 dX1_find_11 lfX1_34 ob3 ?_
  refine R_bipush (v := (-9)) dX1_find_14 (by decide) ?_
  refine R_istore dX1_find_16 (by decide) rfl ?_
  exact R_sub [1, 2, 0] rfl hf
set_option maxRecDepth 20000 in
theorem sX1_find_18 {P : Option Value → AH → Prop} (h : AH) (r0 : Nat) (r1 : Nat) (x5 : Int32) (hf : (9 < x5 → P none h) ∧ (¬ 9 < x5 → Rr mX1_find 0 0 28 [(0, .ref r0), (1, .ref r1), (5, .int x5), (6, .int 0)] [] h P)) : Rr mX1_find 0 0 18 [(0, .ref r0), (1, .ref r1), (5, .int x5)] [] h P := by
  refine R_iload dX1_find_18 2 rfl ?_
  refine R_bipush (v := 9) dX1_find_20 (by decide) ?_
  refine R_icmp_gt (tgt := 89) dX1_find_22 (by decide) (fun b1 => ?_) (fun b1 => ?_)
  · have hf := hf.1 b1
    exact R_ret dX1_find_89 rfl hf
  · have hf := hf.2 b1
    refine R_iconst (v := 0) dX1_find_25 (by decide) ?_
    refine R_istore dX1_find_26 (by decide) rfl ?_
    exact R_sub [1, 2, 3, 0] rfl hf
set_option maxRecDepth 20000 in
theorem sX1_find_28 {P : Option Value → AH → Prop} (h : AH) (r0 : Nat) (r1 : Nat) (x5 : Int32) (x6 : Int32) (hf : (9 < x6 → Rr mX1_find 0 0 18 [(0, .ref r0), (1, .ref r1), (5, .int (x5 + 1))] [] h P) ∧ (¬ 9 < x6 → (isO h 3 r1) ∧ ((isO h 1 r0) ∧ (Call mX1_boundShifts [.ref r0, .int x5, .int x6, .int (gI h r1 6)] h (fun v h4 => v = none ∧ ((isO h4 1 r0) ∧ (((gI h4 r0 6) < (gI h4 r0 5) → Rr mX1_find 0 0 28 [(0, .ref r0), (1, .ref r1), (5, .int x5), (6, .int (x6 + 1))] [] h4 P) ∧ (¬ (gI h4 r0 6) < (gI h4 r0 5) → ((gI h4 r0 8) < (gI h4 r0 7) → Rr mX1_find 0 0 28 [(0, .ref r0), (1, .ref r1), (5, .int x5), (6, .int (x6 + 1))] [] h4 P) ∧ (¬ (gI h4 r0 8) < (gI h4 r0 7) → Call mX1_takeIn [.ref r0, .int x5, .int x6] h4 (fun v h8 => v = none ∧ (Rr mX1_find 0 0 28 [(0, .ref r0), (1, .ref r1), (5, .int x5), (6, .int (x6 + 1))] [] h8 P))))))))))) : Rr mX1_find 0 0 28 [(0, .ref r0), (1, .ref r1), (5, .int x5), (6, .int x6)] [] h P := by
  refine R_iload dX1_find_28 3 rfl ?_
  refine R_bipush (v := 9) dX1_find_30 (by decide) ?_
  refine R_icmp_gt (tgt := 83) dX1_find_32 (by decide) (fun b1 => ?_) (fun b1 => ?_)
  · have hf := hf.1 b1
    refine R_iinc (v := x5 + 1) dX1_find_83 2 rfl rfl (by decide) rfl ?_
    refine R_goto (tgt := 18) dX1_find_86 (by decide) ?_
    exact R_sub [1, 2, 0] rfl hf
  · have hf := hf.2 b1
    refine R_aload_n dX1_find_35 rfl 0 rfl ?_
    refine R_iload dX1_find_36 2 rfl ?_
    refine R_iload dX1_find_38 3 rfl ?_
    refine R_aload_n dX1_find_40 rfl 1 rfl ?_
    obtain ⟨ob2, hf⟩ := hf
    refine G3_6 dX1_find_41 lfX1_38 ob2 ?_
    obtain ⟨ob3, hf⟩ := hf
    refine R_callV (ci := 1) (N := mX1_boundShifts) (as := [.int x5, .int x6, .int (gI h r1 6)]) (rest := []) (kc2 := 0) (ks2 := 0) dX1_find_44 lmX1_43 oX1_boundShifts (Nat.le_of_ble_eq_true rfl) rfl rfl (Nat.le_of_ble_eq_true rfl) rfl rfl ob3 ok1 (Call.mono hf ?_)
    rintro _ h4 ⟨rfl, hf⟩
    refine R_aload_n dX1_find_47 rfl 0 rfl ?_
    obtain ⟨ob5, hf⟩ := hf
    refine G1_5 dX1_find_48 lfX1_47 ob5 ?_
    refine R_aload_n dX1_find_51 rfl 0 rfl ?_
    refine G1_6 dX1_find_52 lfX1_50 ob5 ?_
    refine R_icmp_gt (tgt := 77) dX1_find_55 (by decide) (fun b6 => ?_) (fun b6 => ?_)
    · have hf := hf.1 b6
      refine R_iinc (v := x6 + 1) dX1_find_77 3 rfl rfl (by decide) rfl ?_
      refine R_goto (tgt := 28) dX1_find_80 (by decide) ?_
      exact R_sub [1, 2, 3, 0] rfl hf
    · have hf := hf.2 b6
      refine R_aload_n dX1_find_58 rfl 0 rfl ?_
      refine G1_7 dX1_find_59 lfX1_53 ob5 ?_
      refine R_aload_n dX1_find_62 rfl 0 rfl ?_
      refine G1_8 dX1_find_63 lfX1_56 ob5 ?_
      refine R_icmp_gt (tgt := 77) dX1_find_66 (by decide) (fun b7 => ?_) (fun b7 => ?_)
      · have hf := hf.1 b7
        refine R_iinc (v := x6 + 1) dX1_find_77 3 rfl rfl (by decide) rfl ?_
        refine R_goto (tgt := 28) dX1_find_80 (by decide) ?_
        exact R_sub [1, 2, 3, 0] rfl hf
      · have hf := hf.2 b7
        refine R_aload_n dX1_find_69 rfl 0 rfl ?_
        refine R_iload dX1_find_70 2 rfl ?_
        refine R_iload dX1_find_72 3 rfl ?_
        refine R_callV (ci := 1) (N := mX1_takeIn) (as := [.int x5, .int x6]) (rest := []) (kc2 := 0) (ks2 := 0) dX1_find_74 lmX1_59 oX1_takeIn (Nat.le_of_ble_eq_true rfl) rfl rfl (Nat.le_of_ble_eq_true rfl) rfl rfl ob5 ok1 (Call.mono hf ?_)
        rintro _ h8 ⟨rfl, hf⟩
        refine R_iinc (v := x6 + 1) dX1_find_77 3 rfl rfl (by decide) rfl ?_
        refine R_goto (tgt := 28) dX1_find_80 (by decide) ?_
        exact R_sub [1, 2, 3, 0] rfl hf
theorem dX4_number_0 : decode cX4_number 0 = .ok (.aload_n 0, 1) := by decide +kernel
theorem dX4_number_1 : decode cX4_number 1 = .ok (.getfield 38, 3) := by decide +kernel
theorem dX4_number_4 : decode cX4_number 4 = .ok (.ifCond .eq 5, 3) := by decide +kernel
theorem dX4_number_7 : decode cX4_number 7 = .ok (.iload_n 1, 1) := by decide +kernel
theorem dX4_number_8 : decode cX4_number 8 = .ok (.ireturn, 1) := by decide +kernel
theorem dX4_number_9 : decode cX4_number 9 = .ok (.aload_n 0, 1) := by decide +kernel
theorem dX4_number_10 : decode cX4_number 10 = .ok (.getfield 12, 3) := by decide +kernel
theorem dX4_number_13 : decode cX4_number 13 = .ok (.invokevirtual 44, 3) := by decide +kernel
theorem dX4_number_16 : decode cX4_number 16 = .ok (.aload_n 0, 1) := by decide +kernel
theorem dX4_number_17 : decode cX4_number 17 = .ok (.iload_n 1, 1) := by decide +kernel
theorem dX4_number_18 : decode cX4_number 18 = .ok (.iload_n 2, 1) := by decide +kernel
theorem dX4_number_19 : decode cX4_number 19 = .ok (.invokevirtual 177, 3) := by decide +kernel
theorem dX4_number_22 : decode cX4_number 22 = .ok (.ireturn, 1) := by decide +kernel
set_option maxRecDepth 20000 in
theorem sX4_number_0 {P : Option Value → AH → Prop} (h : AH) (r0 : Nat) (x1 : Int32) (x2 : Int32) (hf : (isO h 4 r0) ∧ (((gI h r0 4) = 0 → (isO h 9 (gF h r0 0)) ∧ (Call mX9_next [.ref (gF h r0 0)] h (fun v h4 => v = none ∧ ((isO h4 4 r0) ∧ (Call mX4_numberHere [.ref r0, .int x1, .int x2] h4 (fun v h6 => ∃ z7 : Int32, v = some (.int z7) ∧ (P (some (.int z7)) h6))))))) ∧ (¬ (gI h r0 4) = 0 → P (some (.int x1)) h))) : Rr mX4_number 0 0 0 [(0, .ref r0), (1, .int x1), (2, .int x2)] [] h P := by
  refine R_aload_n dX4_number_0 rfl 0 rfl ?_
  obtain ⟨ob1, hf⟩ := hf
  refine G4_4 dX4_number_1 lfX4_38 ob1 ?_
  refine R_if_eq (tgt := 9) dX4_number_4 (by decide) (fun b2 => ?_) (fun b2 => ?_)
  · have hf := hf.1 b2
    refine R_aload_n dX4_number_9 rfl 0 rfl ?_
    refine G4_0 dX4_number_10 lfX4_12 ob1 ?_
    obtain ⟨ob3, hf⟩ := hf
    refine R_callV (ci := 9) (N := mX9_next) (as := []) (rest := []) (kc2 := 0) (ks2 := 0) dX4_number_13 lmX4_44 oX9_next (Nat.le_of_ble_eq_true rfl) rfl rfl (Nat.le_of_ble_eq_true rfl) rfl rfl ob3 ok9 (Call.mono hf ?_)
    rintro _ h4 ⟨rfl, hf⟩
    refine R_aload_n dX4_number_16 rfl 0 rfl ?_
    refine R_iload_n dX4_number_17 rfl 1 rfl ?_
    refine R_iload_n dX4_number_18 rfl 2 rfl ?_
    obtain ⟨ob5, hf⟩ := hf
    refine R_callV (ci := 4) (N := mX4_numberHere) (as := [.int x1, .int x2]) (rest := []) (kc2 := 0) (ks2 := 0) dX4_number_19 lmX4_177 oX4_numberHere (Nat.le_of_ble_eq_true rfl) rfl rfl (Nat.le_of_ble_eq_true rfl) rfl rfl ob5 ok4 (Call.mono hf ?_)
    rintro _ h6 ⟨z7, rfl, hf⟩
    exact R_iret dX4_number_22 rfl rfl hf
  · have hf := hf.2 b2
    refine R_iload_n dX4_number_7 rfl 1 rfl ?_
    exact R_iret dX4_number_8 rfl rfl hf
theorem dX4_signedNumber_0 : decode cX4_signedNumber 0 = .ok (.aload_n 0, 1) := by decide +kernel
theorem dX4_signedNumber_1 : decode cX4_signedNumber 1 = .ok (.getfield 38, 3) := by decide +kernel
theorem dX4_signedNumber_4 : decode cX4_signedNumber 4 = .ok (.ifCond .eq 5, 3) := by decide +kernel
theorem dX4_signedNumber_7 : decode cX4_signedNumber 7 = .ok (.iconst 0, 1) := by decide +kernel
theorem dX4_signedNumber_8 : decode cX4_signedNumber 8 = .ok (.ireturn, 1) := by decide +kernel
theorem dX4_signedNumber_9 : decode cX4_signedNumber 9 = .ok (.aload_n 0, 1) := by decide +kernel
theorem dX4_signedNumber_10 : decode cX4_signedNumber 10 = .ok (.getfield 12, 3) := by decide +kernel
theorem dX4_signedNumber_13 : decode cX4_signedNumber 13 = .ok (.invokevirtual 44, 3) := by decide +kernel
theorem dX4_signedNumber_16 : decode cX4_signedNumber 16 = .ok (.aload_n 0, 1) := by decide +kernel
theorem dX4_signedNumber_17 : decode cX4_signedNumber 17 = .ok (.getfield 12, 3) := by decide +kernel
theorem dX4_signedNumber_20 : decode cX4_signedNumber 20 = .ok (.getfield 47, 3) := by decide +kernel
theorem dX4_signedNumber_23 : decode cX4_signedNumber 23 = .ok (.iconst 4, 1) := by decide +kernel
theorem dX4_signedNumber_24 : decode cX4_signedNumber 24 = .ok (.if_icmp .ne 7, 3) := by decide +kernel
theorem dX4_signedNumber_27 : decode cX4_signedNumber 27 = .ok (.iconst 1, 1) := by decide +kernel
theorem dX4_signedNumber_28 : decode cX4_signedNumber 28 = .ok (.goto 4, 3) := by decide +kernel
theorem dX4_signedNumber_31 : decode cX4_signedNumber 31 = .ok (.iconst 0, 1) := by decide +kernel
theorem dX4_signedNumber_32 : decode cX4_signedNumber 32 = .ok (.istore_n 2, 1) := by decide +kernel
theorem dX4_signedNumber_33 : decode cX4_signedNumber 33 = .ok (.iload_n 2, 1) := by decide +kernel
theorem dX4_signedNumber_34 : decode cX4_signedNumber 34 = .ok (.ifCond .eq 10, 3) := by decide +kernel
theorem dX4_signedNumber_37 : decode cX4_signedNumber 37 = .ok (.aload_n 0, 1) := by decide +kernel
theorem dX4_signedNumber_38 : decode cX4_signedNumber 38 = .ok (.getfield 12, 3) := by decide +kernel
theorem dX4_signedNumber_41 : decode cX4_signedNumber 41 = .ok (.invokevirtual 44, 3) := by decide +kernel
theorem dX4_signedNumber_44 : decode cX4_signedNumber 44 = .ok (.aload_n 0, 1) := by decide +kernel
theorem dX4_signedNumber_45 : decode cX4_signedNumber 45 = .ok (.iconst 0, 1) := by decide +kernel
theorem dX4_signedNumber_46 : decode cX4_signedNumber 46 = .ok (.iload_n 1, 1) := by decide +kernel
theorem dX4_signedNumber_47 : decode cX4_signedNumber 47 = .ok (.invokevirtual 177, 3) := by decide +kernel
theorem dX4_signedNumber_50 : decode cX4_signedNumber 50 = .ok (.istore_n 3, 1) := by decide +kernel
theorem dX4_signedNumber_51 : decode cX4_signedNumber 51 = .ok (.iload_n 2, 1) := by decide +kernel
theorem dX4_signedNumber_52 : decode cX4_signedNumber 52 = .ok (.ifCond .eq 8, 3) := by decide +kernel
theorem dX4_signedNumber_55 : decode cX4_signedNumber 55 = .ok (.iload_n 3, 1) := by decide +kernel
theorem dX4_signedNumber_56 : decode cX4_signedNumber 56 = .ok (.ineg, 1) := by decide +kernel
theorem dX4_signedNumber_57 : decode cX4_signedNumber 57 = .ok (.goto 4, 3) := by decide +kernel
theorem dX4_signedNumber_60 : decode cX4_signedNumber 60 = .ok (.iload_n 3, 1) := by decide +kernel
theorem dX4_signedNumber_61 : decode cX4_signedNumber 61 = .ok (.ireturn, 1) := by decide +kernel
set_option maxRecDepth 20000 in
theorem sX4_signedNumber_0 {P : Option Value → AH → Prop} (h : AH) (r0 : Nat) (x1 : Int32) (hf : (isO h 4 r0) ∧ (((gI h r0 4) = 0 → (isO h 9 (gF h r0 0)) ∧ (Call mX9_next [.ref (gF h r0 0)] h (fun v h4 => v = none ∧ ((isO h4 4 r0) ∧ ((isO h4 9 (gF h4 r0 0)) ∧ ((¬ ((gI h4 (gF h4 r0 0) 3) = 4) → Call mX4_numberHere [.ref r0, .int 0, .int x1] h4 (fun v h9 => ∃ z10 : Int32, v = some (.int z10) ∧ (∀ z12 : Int32, z12 = (if ((gI h4 (gF h4 r0 0) 3) = 4) then (-z10) else z10) → (P (some (.int z12)) h9)))) ∧ (((gI h4 (gF h4 r0 0) 3) = 4) → Call mX9_next [.ref (gF h4 r0 0)] h4 (fun v h13 => v = none ∧ ((isO h13 4 r0) ∧ (Call mX4_numberHere [.ref r0, .int 0, .int x1] h13 (fun v h15 => ∃ z16 : Int32, v = some (.int z16) ∧ (∀ z18 : Int32, z18 = (if ((gI h4 (gF h4 r0 0) 3) = 4) then (-z16) else z16) → (P (some (.int z18)) h15))))))))))))) ∧ (¬ (gI h r0 4) = 0 → P (some (.int 0)) h))) : Rr mX4_signedNumber 0 0 0 [(0, .ref r0), (1, .int x1)] [] h P := by
  refine R_aload_n dX4_signedNumber_0 rfl 0 rfl ?_
  obtain ⟨ob1, hf⟩ := hf
  refine G4_4 dX4_signedNumber_1 lfX4_38 ob1 ?_
  refine R_if_eq (tgt := 9) dX4_signedNumber_4 (by decide) (fun b2 => ?_) (fun b2 => ?_)
  · have hf := hf.1 b2
    refine R_aload_n dX4_signedNumber_9 rfl 0 rfl ?_
    refine G4_0 dX4_signedNumber_10 lfX4_12 ob1 ?_
    obtain ⟨ob3, hf⟩ := hf
    refine R_callV (ci := 9) (N := mX9_next) (as := []) (rest := []) (kc2 := 0) (ks2 := 0) dX4_signedNumber_13 lmX4_44 oX9_next (Nat.le_of_ble_eq_true rfl) rfl rfl (Nat.le_of_ble_eq_true rfl) rfl rfl ob3 ok9 (Call.mono hf ?_)
    rintro _ h4 ⟨rfl, hf⟩
    refine R_aload_n dX4_signedNumber_16 rfl 0 rfl ?_
    obtain ⟨ob5, hf⟩ := hf
    refine G4_0 dX4_signedNumber_17 lfX4_12 ob5 ?_
    obtain ⟨ob6, hf⟩ := hf
    refine G9_3 dX4_signedNumber_20 lfX4_47 ob6 ?_
    refine R_iconst (v := 4) dX4_signedNumber_23 (by decide) ?_
    have key :  Rr mX4_signedNumber 0 0 32 [(0, .ref r0), (1, .int x1)] [.int (bi ((gI h4 (gF h4 r0 0) 3) = 4))] h4 P := by
      refine R_istore_n dX4_signedNumber_32 rfl (by decide) rfl ?_
      refine R_iload_n dX4_signedNumber_33 rfl 0 rfl ?_
      refine R_if_eq_b (tgt := 44) dX4_signedNumber_34 (by decide) (fun b8 => ?_) (fun b8 => ?_)
      · have hf := hf.1 b8
        refine R_aload_n dX4_signedNumber_44 rfl 1 rfl ?_
        refine R_iconst (v := 0) dX4_signedNumber_45 (by decide) ?_
        refine R_iload_n dX4_signedNumber_46 rfl 2 rfl ?_
        refine R_callV (ci := 4) (N := mX4_numberHere) (as := [.int 0, .int x1]) (rest := []) (kc2 := 0) (ks2 := 0) dX4_signedNumber_47 lmX4_177 oX4_numberHere (Nat.le_of_ble_eq_true rfl) rfl rfl (Nat.le_of_ble_eq_true rfl) rfl rfl ob5 ok4 (Call.mono hf ?_)
        rintro _ h9 ⟨z10, rfl, hf⟩
        refine R_istore_n dX4_signedNumber_50 rfl (by decide) rfl ?_
        refine R_iload_n dX4_signedNumber_51 rfl 1 rfl ?_
        have key : ∀ z12 : Int32, z12 = (if ((gI h4 (gF h4 r0 0) 3) = 4) then (-z10) else z10) → Rr mX4_signedNumber 0 0 61 [] [.int z12] h9 P := by
          intro z12 ez12
          have hf := hf z12 ez12
          exact R_iret dX4_signedNumber_61 rfl rfl hf
        refine R_if_eq_b (tgt := 60) dX4_signedNumber_52 (by decide) (fun b11 => ?_) (fun b11 => ?_)
        · refine R_iload_n dX4_signedNumber_60 rfl 0 rfl ?_
          exact R_sub [] rfl (key _ (by rw [if_neg b11]))
        · refine R_iload_n dX4_signedNumber_55 rfl 0 rfl ?_
          refine R_ineg dX4_signedNumber_56 ?_
          refine R_goto (tgt := 61) dX4_signedNumber_57 (by decide) ?_
          exact R_sub [] rfl (key _ (by rw [if_pos b11]))
      · have hf := hf.2 b8
        refine R_aload_n dX4_signedNumber_37 rfl 1 rfl ?_
        refine G4_0 dX4_signedNumber_38 lfX4_12 ob5 ?_
        refine R_callV (ci := 9) (N := mX9_next) (as := []) (rest := []) (kc2 := 0) (ks2 := 0) dX4_signedNumber_41 lmX4_44 oX9_next (Nat.le_of_ble_eq_true rfl) rfl rfl (Nat.le_of_ble_eq_true rfl) rfl rfl ob6 ok9 (Call.mono hf ?_)
        rintro _ h13 ⟨rfl, hf⟩
        refine R_aload_n dX4_signedNumber_44 rfl 1 rfl ?_
        refine R_iconst (v := 0) dX4_signedNumber_45 (by decide) ?_
        refine R_iload_n dX4_signedNumber_46 rfl 2 rfl ?_
        obtain ⟨ob14, hf⟩ := hf
        refine R_callV (ci := 4) (N := mX4_numberHere) (as := [.int 0, .int x1]) (rest := []) (kc2 := 0) (ks2 := 0) dX4_signedNumber_47 lmX4_177 oX4_numberHere (Nat.le_of_ble_eq_true rfl) rfl rfl (Nat.le_of_ble_eq_true rfl) rfl rfl ob14 ok4 (Call.mono hf ?_)
        rintro _ h15 ⟨z16, rfl, hf⟩
        refine R_istore_n dX4_signedNumber_50 rfl (by decide) rfl ?_
        refine R_iload_n dX4_signedNumber_51 rfl 1 rfl ?_
        have key : ∀ z18 : Int32, z18 = (if ((gI h4 (gF h4 r0 0) 3) = 4) then (-z16) else z16) → Rr mX4_signedNumber 0 0 61 [] [.int z18] h15 P := by
          intro z18 ez18
          have hf := hf z18 ez18
          exact R_iret dX4_signedNumber_61 rfl rfl hf
        refine R_if_eq_b (tgt := 60) dX4_signedNumber_52 (by decide) (fun b17 => ?_) (fun b17 => ?_)
        · refine R_iload_n dX4_signedNumber_60 rfl 0 rfl ?_
          exact R_sub [] rfl (key _ (by rw [if_neg b17]))
        · refine R_iload_n dX4_signedNumber_55 rfl 0 rfl ?_
          refine R_ineg dX4_signedNumber_56 ?_
          refine R_goto (tgt := 61) dX4_signedNumber_57 (by decide) ?_
          exact R_sub [] rfl (key _ (by rw [if_pos b17]))
    refine R_icmp_ne (tgt := 31) dX4_signedNumber_24 (by decide) (fun b7 => ?_) (fun b7 => ?_)
    · refine R_iconst (v := 0) dX4_signedNumber_31 (by decide) ?_
      have kb := key
      rw [show bi ((gI h4 (gF h4 r0 0) 3) = 4) = 0 from by simp only [bi, b7, false_and, and_false, true_and, and_true, not_true_eq_false, not_false_eq_true, if_true, if_false, true_or, or_true, false_or, or_false, reduceIte]] at kb
      exact R_sub [0, 1] rfl kb
    · refine R_iconst (v := 1) dX4_signedNumber_27 (by decide) ?_
      refine R_goto (tgt := 32) dX4_signedNumber_28 (by decide) ?_
      have kb := key
      rw [show bi ((gI h4 (gF h4 r0 0) 3) = 4) = 1 from by simp only [bi, b7, false_and, and_false, true_and, and_true, not_true_eq_false, not_false_eq_true, if_true, if_false, true_or, or_true, false_or, or_false, reduceIte]] at kb
      exact R_sub [0, 1] rfl kb
  · have hf := hf.2 b2
    refine R_iconst (v := 0) dX4_signedNumber_7 (by decide) ?_
    exact R_iret dX4_signedNumber_8 rfl rfl hf
theorem dX4_takeSemicolon_0 : decode cX4_takeSemicolon 0 = .ok (.aload_n 0, 1) := by decide +kernel
theorem dX4_takeSemicolon_1 : decode cX4_takeSemicolon 1 = .ok (.getfield 38, 3) := by decide +kernel
theorem dX4_takeSemicolon_4 : decode cX4_takeSemicolon 4 = .ok (.ifCond .eq 4, 3) := by decide +kernel
theorem dX4_takeSemicolon_7 : decode cX4_takeSemicolon 7 = .ok (.return_, 1) := by decide +kernel
theorem dX4_takeSemicolon_8 : decode cX4_takeSemicolon 8 = .ok (.aload_n 0, 1) := by decide +kernel
theorem dX4_takeSemicolon_9 : decode cX4_takeSemicolon 9 = .ok (.getfield 12, 3) := by decide +kernel
theorem dX4_takeSemicolon_12 : decode cX4_takeSemicolon 12 = .ok (.invokevirtual 44, 3) := by decide +kernel
theorem dX4_takeSemicolon_15 : decode cX4_takeSemicolon 15 = .ok (.aload_n 0, 1) := by decide +kernel
theorem dX4_takeSemicolon_16 : decode cX4_takeSemicolon 16 = .ok (.getfield 12, 3) := by decide +kernel
theorem dX4_takeSemicolon_19 : decode cX4_takeSemicolon 19 = .ok (.getfield 47, 3) := by decide +kernel
theorem dX4_takeSemicolon_22 : decode cX4_takeSemicolon 22 = .ok (.iconst 3, 1) := by decide +kernel
theorem dX4_takeSemicolon_23 : decode cX4_takeSemicolon 23 = .ok (.if_icmp .ne 19, 3) := by decide +kernel
theorem dX4_takeSemicolon_26 : decode cX4_takeSemicolon 26 = .ok (.aload_n 0, 1) := by decide +kernel
theorem dX4_takeSemicolon_27 : decode cX4_takeSemicolon 27 = .ok (.getfield 21, 3) := by decide +kernel
theorem dX4_takeSemicolon_30 : decode cX4_takeSemicolon 30 = .ok (.dup, 1) := by decide +kernel
theorem dX4_takeSemicolon_31 : decode cX4_takeSemicolon 31 = .ok (.getfield 103, 3) := by decide +kernel
theorem dX4_takeSemicolon_34 : decode cX4_takeSemicolon 34 = .ok (.iconst 1, 1) := by decide +kernel
theorem dX4_takeSemicolon_35 : decode cX4_takeSemicolon 35 = .ok (.iadd, 1) := by decide +kernel
theorem dX4_takeSemicolon_36 : decode cX4_takeSemicolon 36 = .ok (.putfield 103, 3) := by decide +kernel
theorem dX4_takeSemicolon_39 : decode cX4_takeSemicolon 39 = .ok (.goto 8, 3) := by decide +kernel
theorem dX4_takeSemicolon_42 : decode cX4_takeSemicolon 42 = .ok (.aload_n 0, 1) := by decide +kernel
theorem dX4_takeSemicolon_43 : decode cX4_takeSemicolon 43 = .ok (.iconst 1, 1) := by decide +kernel
theorem dX4_takeSemicolon_44 : decode cX4_takeSemicolon 44 = .ok (.invokevirtual 99, 3) := by decide +kernel
theorem dX4_takeSemicolon_47 : decode cX4_takeSemicolon 47 = .ok (.return_, 1) := by decide +kernel
set_option maxRecDepth 20000 in
theorem sX4_takeSemicolon_0 {P : Option Value → AH → Prop} (h : AH) (r0 : Nat) (hf : (isO h 4 r0) ∧ (((gI h r0 4) = 0 → (isO h 9 (gF h r0 0)) ∧ (Call mX9_next [.ref (gF h r0 0)] h (fun v h4 => v = none ∧ ((isO h4 4 r0) ∧ ((isO h4 9 (gF h4 r0 0)) ∧ ((¬ (gI h4 (gF h4 r0 0) 3) = 3 → Call mX4_refuse [.ref r0, .int 1] h4 (fun v h8 => v = none ∧ (P none h8))) ∧ ((gI h4 (gF h4 r0 0) 3) = 3 → (isO h4 3 (gF h4 r0 3)) ∧ (P none (sI h4 (gF h4 r0 3) 0 ((gI h4 (gF h4 r0 3) 0) + 1)))))))))) ∧ (¬ (gI h r0 4) = 0 → P none h))) : Rr mX4_takeSemicolon 0 0 0 [(0, .ref r0)] [] h P := by
  refine R_aload_n dX4_takeSemicolon_0 rfl 0 rfl ?_
  obtain ⟨ob1, hf⟩ := hf
  refine G4_4 dX4_takeSemicolon_1 lfX4_38 ob1 ?_
  refine R_if_eq (tgt := 8) dX4_takeSemicolon_4 (by decide) (fun b2 => ?_) (fun b2 => ?_)
  · have hf := hf.1 b2
    refine R_aload_n dX4_takeSemicolon_8 rfl 0 rfl ?_
    refine G4_0 dX4_takeSemicolon_9 lfX4_12 ob1 ?_
    obtain ⟨ob3, hf⟩ := hf
    refine R_callV (ci := 9) (N := mX9_next) (as := []) (rest := []) (kc2 := 0) (ks2 := 0) dX4_takeSemicolon_12 lmX4_44 oX9_next (Nat.le_of_ble_eq_true rfl) rfl rfl (Nat.le_of_ble_eq_true rfl) rfl rfl ob3 ok9 (Call.mono hf ?_)
    rintro _ h4 ⟨rfl, hf⟩
    refine R_aload_n dX4_takeSemicolon_15 rfl 0 rfl ?_
    obtain ⟨ob5, hf⟩ := hf
    refine G4_0 dX4_takeSemicolon_16 lfX4_12 ob5 ?_
    obtain ⟨ob6, hf⟩ := hf
    refine G9_3 dX4_takeSemicolon_19 lfX4_47 ob6 ?_
    refine R_iconst (v := 3) dX4_takeSemicolon_22 (by decide) ?_
    refine R_icmp_ne (tgt := 42) dX4_takeSemicolon_23 (by decide) (fun b7 => ?_) (fun b7 => ?_)
    · have hf := hf.1 b7
      refine R_aload_n dX4_takeSemicolon_42 rfl 0 rfl ?_
      refine R_iconst (v := 1) dX4_takeSemicolon_43 (by decide) ?_
      refine R_callV (ci := 4) (N := mX4_refuse) (as := [.int 1]) (rest := []) (kc2 := 0) (ks2 := 0) dX4_takeSemicolon_44 lmX4_99 oX4_refuse (Nat.le_of_ble_eq_true rfl) rfl rfl (Nat.le_of_ble_eq_true rfl) rfl rfl ob5 ok4 (Call.mono hf ?_)
      rintro _ h8 ⟨rfl, hf⟩
      exact R_ret dX4_takeSemicolon_47 rfl hf
    · have hf := hf.2 b7
      refine R_aload_n dX4_takeSemicolon_26 rfl 0 rfl ?_
      refine G4_3 dX4_takeSemicolon_27 lfX4_21 ob5 ?_
      refine R_dup dX4_takeSemicolon_30 rfl ?_
      obtain ⟨ob9, hf⟩ := hf
      refine G3_0 dX4_takeSemicolon_31 lfX4_103 ob9 ?_
      refine R_iconst (v := 1) dX4_takeSemicolon_34 (by decide) ?_
      refine R_iadd dX4_takeSemicolon_35 ?_
      refine S3_0 dX4_takeSemicolon_36 lfX4_103 ob9 ?_
      refine R_goto (tgt := 47) dX4_takeSemicolon_39 (by decide) ?_
      exact R_ret dX4_takeSemicolon_47 rfl hf
  · have hf := hf.2 b2
    exact R_ret dX4_takeSemicolon_7 rfl hf
theorem dX5_worstWithin_0 : decode cX5_worstWithin 0 = .ok (.iconst 0, 1) := by decide +kernel
theorem dX5_worstWithin_1 : decode cX5_worstWithin 1 = .ok (.istore_n 2, 1) := by decide +kernel
theorem dX5_worstWithin_2 : decode cX5_worstWithin 2 = .ok (.iload_n 1, 1) := by decide +kernel
theorem dX5_worstWithin_3 : decode cX5_worstWithin 3 = .ok (.ineg, 1) := by decide +kernel
theorem dX5_worstWithin_4 : decode cX5_worstWithin 4 = .ok (.istore_n 3, 1) := by decide +kernel
theorem dX5_worstWithin_5 : decode cX5_worstWithin 5 = .ok (.iload_n 3, 1) := by decide +kernel
theorem dX5_worstWithin_6 : decode cX5_worstWithin 6 = .ok (.iload_n 1, 1) := by decide +kernel
theorem dX5_worstWithin_7 : decode cX5_worstWithin 7 = .ok (.if_icmp .gt 37, 3) := by decide +kernel
theorem dX5_worstWithin_10 : decode cX5_worstWithin 10 = .ok (.iload_n 1, 1) := by decide +kernel
theorem dX5_worstWithin_11 : decode cX5_worstWithin 11 = .ok (.ineg, 1) := by decide +kernel
theorem dX5_worstWithin_12 : decode cX5_worstWithin 12 = .ok (.istore 4, 2) := by decide +kernel
theorem dX5_worstWithin_14 : decode cX5_worstWithin 14 = .ok (.iload 4, 2) := by decide +kernel
theorem dX5_worstWithin_16 : decode cX5_worstWithin 16 = .ok (.iload_n 1, 1) := by decide +kernel
theorem dX5_worstWithin_17 : decode cX5_worstWithin 17 = .ok (.if_icmp .gt 21, 3) := by decide +kernel
theorem dX5_worstWithin_20 : decode cX5_worstWithin 20 = .ok (.iload_n 2, 1) := by decide +kernel
theorem dX5_worstWithin_21 : decode cX5_worstWithin 21 = .ok (.aload_n 0, 1) := by decide +kernel
theorem dX5_worstWithin_22 : decode cX5_worstWithin 22 = .ok (.iload_n 3, 1) := by decide +kernel
theorem dX5_worstWithin_23 : decode cX5_worstWithin 23 = .ok (.iload 4, 2) := by decide +kernel
theorem dX5_worstWithin_25 : decode cX5_worstWithin 25 = .ok (.invokevirtual 83, 3) := by decide +kernel
theorem dX5_worstWithin_28 : decode cX5_worstWithin 28 = .ok (.invokestatic 87, 3) := by decide +kernel
theorem dX5_worstWithin_31 : decode cX5_worstWithin 31 = .ok (.istore_n 2, 1) := by decide +kernel
theorem dX5_worstWithin_32 : decode cX5_worstWithin 32 = .ok (.iinc 4 1, 3) := by decide +kernel
theorem dX5_worstWithin_35 : decode cX5_worstWithin 35 = .ok (.goto (-21), 3) := by decide +kernel
theorem dX5_worstWithin_38 : decode cX5_worstWithin 38 = .ok (.iinc 3 1, 3) := by decide +kernel
theorem dX5_worstWithin_41 : decode cX5_worstWithin 41 = .ok (.goto (-36), 3) := by decide +kernel
theorem dX5_worstWithin_44 : decode cX5_worstWithin 44 = .ok (.iload_n 2, 1) := by decide +kernel
theorem dX5_worstWithin_45 : decode cX5_worstWithin 45 = .ok (.ireturn, 1) := by decide +kernel
set_option maxRecDepth 20000 in
theorem sX5_worstWithin_0 {P : Option Value → AH → Prop} (h : AH) (r0 : Nat) (x1 : Int32) (hf : Rr mX5_worstWithin 0 0 5 [(0, .ref r0), (1, .int x1), (2, .int 0), (3, .int (-x1))] [] h P) : Rr mX5_worstWithin 0 0 0 [(0, .ref r0), (1, .int x1)] [] h P := by
  refine R_iconst (v := 0) dX5_worstWithin_0 (by decide) ?_
  refine R_istore_n dX5_worstWithin_1 rfl (by decide) rfl ?_
  refine R_iload_n dX5_worstWithin_2 rfl 2 rfl ?_
  refine R_ineg dX5_worstWithin_3 ?_
  refine R_istore_n dX5_worstWithin_4 rfl (by decide) rfl ?_
  exact R_sub [2, 3, 1, 0] rfl hf
set_option maxRecDepth 20000 in
theorem sX5_worstWithin_5 {P : Option Value → AH → Prop} (h : AH) (r0 : Nat) (x1 : Int32) (x2 : Int32) (x3 : Int32) (hf : (x1 < x3 → P (some (.int x2)) h) ∧ (¬ x1 < x3 → Rr mX5_worstWithin 0 0 14 [(0, .ref r0), (1, .int x1), (2, .int x2), (3, .int x3), (4, .int (-x1))] [] h P)) : Rr mX5_worstWithin 0 0 5 [(0, .ref r0), (1, .int x1), (2, .int x2), (3, .int x3)] [] h P := by
  refine R_iload_n dX5_worstWithin_5 rfl 3 rfl ?_
  refine R_iload_n dX5_worstWithin_6 rfl 1 rfl ?_
  refine R_icmp_gt (tgt := 44) dX5_worstWithin_7 (by decide) (fun b1 => ?_) (fun b1 => ?_)
  · have hf := hf.1 b1
    refine R_iload_n dX5_worstWithin_44 rfl 2 rfl ?_
    exact R_iret dX5_worstWithin_45 rfl rfl hf
  · have hf := hf.2 b1
    refine R_iload_n dX5_worstWithin_10 rfl 1 rfl ?_
    refine R_ineg dX5_worstWithin_11 ?_
    refine R_istore dX5_worstWithin_12 (by decide) rfl ?_
    exact R_sub [1, 2, 3, 4, 0] rfl hf
set_option maxRecDepth 20000 in
theorem sX5_worstWithin_14 {P : Option Value → AH → Prop} (h : AH) (r0 : Nat) (x1 : Int32) (x2 : Int32) (x3 : Int32) (x4 : Int32) (hf : (x1 < x4 → Rr mX5_worstWithin 0 0 5 [(0, .ref r0), (1, .int x1), (2, .int x2), (3, .int (x3 + 1))] [] h P) ∧ (¬ x1 < x4 → (isO h 5 r0) ∧ (Call mX5_slip [.ref r0, .int x3, .int x4] h (fun v h3 => ∃ z4 : Int32, v = some (.int z4) ∧ (Rr mX5_worstWithin 0 0 14 [(0, .ref r0), (1, .int x1), (2, .int (imax x2 z4)), (3, .int x3), (4, .int (x4 + 1))] [] h3 P))))) : Rr mX5_worstWithin 0 0 14 [(0, .ref r0), (1, .int x1), (2, .int x2), (3, .int x3), (4, .int x4)] [] h P := by
  refine R_iload dX5_worstWithin_14 4 rfl ?_
  refine R_iload_n dX5_worstWithin_16 rfl 1 rfl ?_
  refine R_icmp_gt (tgt := 38) dX5_worstWithin_17 (by decide) (fun b1 => ?_) (fun b1 => ?_)
  · have hf := hf.1 b1
    refine R_iinc (v := x3 + 1) dX5_worstWithin_38 3 rfl rfl (by decide) rfl ?_
    refine R_goto (tgt := 5) dX5_worstWithin_41 (by decide) ?_
    exact R_sub [1, 2, 3, 0] rfl hf
  · have hf := hf.2 b1
    refine R_iload_n dX5_worstWithin_20 rfl 2 rfl ?_
    refine R_aload_n dX5_worstWithin_21 rfl 0 rfl ?_
    refine R_iload_n dX5_worstWithin_22 rfl 3 rfl ?_
    refine R_iload dX5_worstWithin_23 4 rfl ?_
    obtain ⟨ob2, hf⟩ := hf
    refine R_callV (ci := 5) (N := mX5_slip) (as := [.int x3, .int x4]) (rest := [.int x2]) (kc2 := 0) (ks2 := 0) dX5_worstWithin_25 lmX5_83 oX5_slip (Nat.le_of_ble_eq_true rfl) rfl rfl (Nat.le_of_ble_eq_true rfl) rfl rfl ob2 ok5 (Call.mono hf ?_)
    rintro _ h3 ⟨z4, rfl, hf⟩
    refine R_mmax dX5_worstWithin_28 lmX5_87 (by decide) (Nat.le_of_ble_eq_true rfl) ?_
    refine R_istore_n dX5_worstWithin_31 rfl (by decide) rfl ?_
    refine R_iinc (v := x4 + 1) dX5_worstWithin_32 4 rfl rfl (by decide) rfl ?_
    refine R_goto (tgt := 14) dX5_worstWithin_35 (by decide) ?_
    exact R_sub [2, 3, 1, 4, 0] rfl hf
theorem dX6_find_0 : decode cX6_find 0 = .ok (.ldc 36, 2) := by decide +kernel
theorem dX6_find_2 : decode cX6_find 2 = .ok (.istore_n 3, 1) := by decide +kernel
theorem dX6_find_3 : decode cX6_find 3 = .ok (.ldc 36, 2) := by decide +kernel
theorem dX6_find_5 : decode cX6_find 5 = .ok (.istore 4, 2) := by decide +kernel
theorem dX6_find_7 : decode cX6_find 7 = .ok (.aload_n 0, 1) := by decide +kernel
theorem dX6_find_8 : decode cX6_find 8 = .ok (.aload_n 1, 1) := by decide +kernel
theorem dX6_find_9 : decode cX6_find 9 = .ok (.getfield 37, 3) := by decide +kernel
theorem dX6_find_12 : decode cX6_find 12 = .ok (.iload_n 2, 1) := by decide +kernel
theorem dX6_find_13 : decode cX6_find 13 = .ok (.iaload, 1) := by decide +kernel
theorem dX6_find_14 : decode cX6_find 14 = .ok (.iconst 3, 1) := by decide +kernel
theorem dX6_find_15 : decode cX6_find 15 = .ok (.invokestatic 39, 3) := by decide +kernel
theorem dX6_find_18 : decode cX6_find 18 = .ok (.putfield 20, 3) := by decide +kernel
theorem dX6_find_21 : decode cX6_find 21 = .ok (.aload_n 0, 1) := by decide +kernel
theorem dX6_find_22 : decode cX6_find 22 = .ok (.aload_n 1, 1) := by decide +kernel
theorem dX6_find_23 : decode cX6_find 23 = .ok (.getfield 45, 3) := by decide +kernel
theorem dX6_find_26 : decode cX6_find 26 = .ok (.invokevirtual 48, 3) := by decide +kernel
theorem dX6_find_29 : decode cX6_find 29 = .ok (.istore 5, 2) := by decide +kernel
theorem dX6_find_31 : decode cX6_find 31 = .ok (.iconst 0, 1) := by decide +kernel
theorem dX6_find_32 : decode cX6_find 32 = .ok (.istore 6, 2) := by decide +kernel
theorem dX6_find_34 : decode cX6_find 34 = .ok (.iload 6, 2) := by decide +kernel
theorem dX6_find_36 : decode cX6_find 36 = .ok (.iload 5, 2) := by decide +kernel
theorem dX6_find_38 : decode cX6_find 38 = .ok (.if_icmp .ge 74, 3) := by decide +kernel
theorem dX6_find_41 : decode cX6_find 41 = .ok (.aload_n 0, 1) := by decide +kernel
theorem dX6_find_42 : decode cX6_find 42 = .ok (.aload_n 1, 1) := by decide +kernel
theorem dX6_find_43 : decode cX6_find 43 = .ok (.iload_n 2, 1) := by decide +kernel
theorem dX6_find_44 : decode cX6_find 44 = .ok (.invokevirtual 52, 3) := by decide +kernel
theorem dX6_find_47 : decode cX6_find 47 = .ok (.istore 7, 2) := by decide +kernel
theorem dX6_find_49 : decode cX6_find 49 = .ok (.aload_n 0, 1) := by decide +kernel
theorem dX6_find_50 : decode cX6_find 50 = .ok (.invokevirtual 56, 3) := by decide +kernel
theorem dX6_find_53 : decode cX6_find 53 = .ok (.istore 8, 2) := by decide +kernel
theorem dX6_find_55 : decode cX6_find 55 = .ok (.iload 7, 2) := by decide +kernel
theorem dX6_find_57 : decode cX6_find 57 = .ok (.iload_n 3, 1) := by decide +kernel
theorem dX6_find_58 : decode cX6_find 58 = .ok (.if_icmp .lt 16, 3) := by decide +kernel
theorem dX6_find_61 : decode cX6_find 61 = .ok (.iload 7, 2) := by decide +kernel
theorem dX6_find_63 : decode cX6_find 63 = .ok (.iload_n 3, 1) := by decide +kernel
theorem dX6_find_64 : decode cX6_find 64 = .ok (.if_icmp .ne 34, 3) := by decide +kernel
theorem dX6_find_67 : decode cX6_find 67 = .ok (.iload 8, 2) := by decide +kernel
theorem dX6_find_69 : decode cX6_find 69 = .ok (.iload 4, 2) := by decide +kernel
theorem dX6_find_71 : decode cX6_find 71 = .ok (.if_icmp .ge 27, 3) := by decide +kernel
theorem dX6_find_74 : decode cX6_find 74 = .ok (.iload 7, 2) := by decide +kernel
theorem dX6_find_76 : decode cX6_find 76 = .ok (.istore_n 3, 1) := by decide +kernel
theorem dX6_find_77 : decode cX6_find 77 = .ok (.iload 8, 2) := by decide +kernel
theorem dX6_find_79 : decode cX6_find 79 = .ok (.istore 4, 2) := by decide +kernel
theorem dX6_find_81 : decode cX6_find 81 = .ok (.aload_n 0, 1) := by decide +kernel
theorem dX6_find_82 : decode cX6_find 82 = .ok (.getfield 11, 3) := by decide +kernel
theorem dX6_find_85 : decode cX6_find 85 = .ok (.iconst 0, 1) := by decide +kernel
theorem dX6_find_86 : decode cX6_find 86 = .ok (.aload_n 0, 1) := by decide +kernel
theorem dX6_find_87 : decode cX6_find 87 = .ok (.getfield 17, 3) := by decide +kernel
theorem dX6_find_90 : decode cX6_find 90 = .ok (.iconst 0, 1) := by decide +kernel
theorem dX6_find_91 : decode cX6_find 91 = .ok (.aload_n 0, 1) := by decide +kernel
theorem dX6_find_92 : decode cX6_find 92 = .ok (.getfield 20, 3) := by decide +kernel
theorem dX6_find_95 : decode cX6_find 95 = .ok (.invokestatic 60, 3) := by decide +kernel
theorem dX6_find_98 : decode cX6_find 98 = .ok (.aload_n 0, 1) := by decide +kernel
theorem dX6_find_99 : decode cX6_find 99 = .ok (.aload_n 1, 1) := by decide +kernel
theorem dX6_find_100 : decode cX6_find 100 = .ok (.getfield 45, 3) := by decide +kernel
theorem dX6_find_103 : decode cX6_find 103 = .ok (.invokevirtual 66, 3) := by decide +kernel
theorem dX6_find_106 : decode cX6_find 106 = .ok (.iinc 6 1, 3) := by decide +kernel
theorem dX6_find_109 : decode cX6_find 109 = .ok (.goto (-75), 3) := by decide +kernel
theorem dX6_find_112 : decode cX6_find 112 = .ok (.iload_n 3, 1) := by decide +kernel
theorem dX6_find_113 : decode cX6_find 113 = .ok (.ireturn, 1) := by decide +kernel
set_option maxRecDepth 20000 in
theorem sX6_find_0 {P : Option Value → AH → Prop} (h : AH) (r0 : Nat) (r1 : Nat) (x2 : Int32) (hf : (isO h 3 r1) ∧ ((isA h 0 (gF h r1 7)) ∧ ((vp_in x2 (ln (gF h r1 7))) ∧ ((isO h 6 r0) ∧ (Call mX6_beginRows [.ref r0, .int (gI h r1 9)] (sI h r0 5 (imin (gI h (gF h r1 7) x2.toNatClampNeg) 3)) (fun v h5 => ∃ z6 : Int32, v = some (.int z6) ∧ (Rr mX6_find 0 0 34 [(0, .ref r0), (1, .ref r1), (2, .int x2), (3, .int 1000000000), (4, .int 1000000000), (5, .int z6), (6, .int 0)] [] h5 P))))))) : Rr mX6_find 0 0 0 [(0, .ref r0), (1, .ref r1), (2, .int x2)] [] h P := by
  refine R_ldc (v := 1000000000) dX6_find_0 lcX6_36 ?_
  refine R_istore_n dX6_find_2 rfl (by decide) rfl ?_
  refine R_ldc (v := 1000000000) dX6_find_3 lcX6_36 ?_
  refine R_istore dX6_find_5 (by decide) rfl ?_
  refine R_aload_n dX6_find_7 rfl 2 rfl ?_
  refine R_aload_n dX6_find_8 rfl 3 rfl ?_
  obtain ⟨ob1, hf⟩ := hf
  refine G3_7 dX6_find_9 lfX6_37 ob1 ?_
  refine R_iload_n dX6_find_12 rfl 4 rfl ?_
  obtain ⟨ob2, hf⟩ := hf
  obtain ⟨ob3, hf⟩ := hf
  refine R_iaload dX6_find_13 ob2 ob3 ?_
  refine R_iconst (v := 3) dX6_find_14 (by decide) ?_
  refine R_mmin dX6_find_15 lmX6_39 (by decide) (Nat.le_of_ble_eq_true rfl) ?_
  obtain ⟨ob4, hf⟩ := hf
  refine S6_5 dX6_find_18 lfX6_20 ob4 ?_
  refine R_aload_n dX6_find_21 rfl 2 rfl ?_
  refine R_aload_n dX6_find_22 rfl 3 rfl ?_
  refine G3_9 dX6_find_23 lfX6_45 ob1 ?_
  refine R_eqI (y := gI h r1 9) (rd_r (ne_oo ob1 ob4 (by decide))) ?_
  refine R_callV (ci := 6) (N := mX6_beginRows) (as := [.int (gI h r1 9)]) (rest := []) (kc2 := 0) (ks2 := 0) dX6_find_26 lmX6_48 oX6_beginRows (Nat.le_of_ble_eq_true rfl) rfl rfl (Nat.le_of_ble_eq_true rfl) rfl rfl ob4 ok6 (Call.mono hf ?_)
  rintro _ h5 ⟨z6, rfl, hf⟩
  refine R_istore dX6_find_29 (by decide) rfl ?_
  refine R_iconst (v := 0) dX6_find_31 (by decide) ?_
  refine R_istore dX6_find_32 (by decide) rfl ?_
  exact R_sub [4, 5, 6, 3, 2, 1, 0] rfl hf
set_option maxRecDepth 20000 in
theorem sX6_find_34 {P : Option Value → AH → Prop} (h : AH) (r0 : Nat) (r1 : Nat) (x2 : Int32) (x3 : Int32) (x4 : Int32) (x5 : Int32) (x6 : Int32) (hf : (x5 ≤ x6 → P (some (.int x3)) h) ∧ (¬ x5 ≤ x6 → (isO h 6 r0) ∧ (Call mX6_badOfRow [.ref r0, .ref r1, .int x2] h (fun v h3 => ∃ z4 : Int32, v = some (.int z4) ∧ ((isO h3 6 r0) ∧ (Call mX6_turnsOfRow [.ref r0] h3 (fun v h6 => ∃ z7 : Int32, v = some (.int z7) ∧ ((z4 < x3 → (isO h6 6 r0) ∧ ((isA h6 0 (gF h6 r0 4)) ∧ ((isA h6 0 (gF h6 r0 6)) ∧ ((¬ (gI h6 r0 5) < 0) ∧ (((Int32.toNatClampNeg 0) + (gI h6 r0 5).toNatClampNeg ≤ ln (gF h6 r0 4)) ∧ (((Int32.toNatClampNeg 0) + (gI h6 r0 5).toNatClampNeg ≤ ln (gF h6 r0 6)) ∧ ((isO h6 3 r1) ∧ (Call mX6_nextRow [.ref r0, .int (gI (rI h6 (gF h6 r0 6) (va_cpy (gI h6 (gF h6 r0 4)) (gI h6 (gF h6 r0 6)) (Int32.toNatClampNeg 0) (Int32.toNatClampNeg 0) (gI h6 r0 5).toNatClampNeg)) r1 9)] (rI h6 (gF h6 r0 6) (va_cpy (gI h6 (gF h6 r0 4)) (gI h6 (gF h6 r0 6)) (Int32.toNatClampNeg 0) (Int32.toNatClampNeg 0) (gI h6 r0 5).toNatClampNeg)) (fun v h16 => v = none ∧ (Rr mX6_find 0 0 34 [(0, .ref r0), (1, .ref r1), (2, .int x2), (3, .int z4), (4, .int z7), (5, .int x5), (6, .int (x6 + 1))] [] h16 P)))))))))) ∧ (¬ z4 < x3 → (¬ z4 = x3 → (isO h6 3 r1) ∧ ((isO h6 6 r0) ∧ (Call mX6_nextRow [.ref r0, .int (gI h6 r1 9)] h6 (fun v h20 => v = none ∧ (Rr mX6_find 0 0 34 [(0, .ref r0), (1, .ref r1), (2, .int x2), (3, .int x3), (4, .int x4), (5, .int x5), (6, .int (x6 + 1))] [] h20 P))))) ∧ (z4 = x3 → (x4 ≤ z7 → (isO h6 3 r1) ∧ ((isO h6 6 r0) ∧ (Call mX6_nextRow [.ref r0, .int (gI h6 r1 9)] h6 (fun v h24 => v = none ∧ (Rr mX6_find 0 0 34 [(0, .ref r0), (1, .ref r1), (2, .int x2), (3, .int x3), (4, .int x4), (5, .int x5), (6, .int (x6 + 1))] [] h24 P))))) ∧ (¬ x4 ≤ z7 → (isO h6 6 r0) ∧ ((isA h6 0 (gF h6 r0 4)) ∧ ((isA h6 0 (gF h6 r0 6)) ∧ ((¬ (gI h6 r0 5) < 0) ∧ (((Int32.toNatClampNeg 0) + (gI h6 r0 5).toNatClampNeg ≤ ln (gF h6 r0 4)) ∧ (((Int32.toNatClampNeg 0) + (gI h6 r0 5).toNatClampNeg ≤ ln (gF h6 r0 6)) ∧ ((isO h6 3 r1) ∧ (Call mX6_nextRow [.ref r0, .int (gI (rI h6 (gF h6 r0 6) (va_cpy (gI h6 (gF h6 r0 4)) (gI h6 (gF h6 r0 6)) (Int32.toNatClampNeg 0) (Int32.toNatClampNeg 0) (gI h6 r0 5).toNatClampNeg)) r1 9)] (rI h6 (gF h6 r0 6) (va_cpy (gI h6 (gF h6 r0 4)) (gI h6 (gF h6 r0 6)) (Int32.toNatClampNeg 0) (Int32.toNatClampNeg 0) (gI h6 r0 5).toNatClampNeg)) (fun v h32 => v = none ∧ (Rr mX6_find 0 0 34 [(0, .ref r0), (1, .ref r1), (2, .int x2), (3, .int z4), (4, .int z7), (5, .int x5), (6, .int (x6 + 1))] [] h32 P)))))))))))))))))))) : Rr mX6_find 0 0 34 [(0, .ref r0), (1, .ref r1), (2, .int x2), (3, .int x3), (4, .int x4), (5, .int x5), (6, .int x6)] [] h P := by
  refine R_iload dX6_find_34 6 rfl ?_
  refine R_iload dX6_find_36 5 rfl ?_
  refine R_icmp_ge (tgt := 112) dX6_find_38 (by decide) (fun b1 => ?_) (fun b1 => ?_)
  · have hf := hf.1 b1
    refine R_iload_n dX6_find_112 rfl 3 rfl ?_
    exact R_iret dX6_find_113 rfl rfl hf
  · have hf := hf.2 b1
    refine R_aload_n dX6_find_41 rfl 0 rfl ?_
    refine R_aload_n dX6_find_42 rfl 1 rfl ?_
    refine R_iload_n dX6_find_43 rfl 2 rfl ?_
    obtain ⟨ob2, hf⟩ := hf
    refine R_callV (ci := 6) (N := mX6_badOfRow) (as := [.ref r1, .int x2]) (rest := []) (kc2 := 0) (ks2 := 0) dX6_find_44 lmX6_52 oX6_badOfRow (Nat.le_of_ble_eq_true rfl) rfl rfl (Nat.le_of_ble_eq_true rfl) rfl rfl ob2 ok6 (Call.mono hf ?_)
    rintro _ h3 ⟨z4, rfl, hf⟩
    refine R_istore dX6_find_47 (by decide) rfl ?_
    refine R_aload_n dX6_find_49 rfl 1 rfl ?_
    obtain ⟨ob5, hf⟩ := hf
    refine R_callV (ci := 6) (N := mX6_turnsOfRow) (as := []) (rest := []) (kc2 := 0) (ks2 := 0) dX6_find_50 lmX6_56 oX6_turnsOfRow (Nat.le_of_ble_eq_true rfl) rfl rfl (Nat.le_of_ble_eq_true rfl) rfl rfl ob5 ok6 (Call.mono hf ?_)
    rintro _ h6 ⟨z7, rfl, hf⟩
    refine R_istore dX6_find_53 (by decide) rfl ?_
    refine R_iload dX6_find_55 1 rfl ?_
    refine R_iload_n dX6_find_57 rfl 5 rfl ?_
    refine R_icmp_lt (tgt := 74) dX6_find_58 (by decide) (fun b8 => ?_) (fun b8 => ?_)
    · have hf := hf.1 b8
      refine R_iload dX6_find_74 1 rfl ?_
      refine R_istore_n dX6_find_76 rfl (by decide) rfl ?_
      refine R_iload dX6_find_77 1 rfl ?_
      refine R_istore dX6_find_79 (by decide) rfl ?_
      refine R_aload_n dX6_find_81 rfl 4 rfl ?_
      obtain ⟨ob9, hf⟩ := hf
      refine G6_4 dX6_find_82 lfX6_11 ob9 ?_
      refine R_iconst (v := 0) dX6_find_85 (by decide) ?_
      refine R_aload_n dX6_find_86 rfl 4 rfl ?_
      refine G6_6 dX6_find_87 lfX6_17 ob9 ?_
      refine R_iconst (v := 0) dX6_find_90 (by decide) ?_
      refine R_aload_n dX6_find_91 rfl 4 rfl ?_
      refine G6_5 dX6_find_92 lfX6_20 ob9 ?_
      obtain ⟨ob10, hf⟩ := hf
      obtain ⟨ob11, hf⟩ := hf
      obtain ⟨ob12, hf⟩ := hf
      obtain ⟨ob13, hf⟩ := hf
      obtain ⟨ob14, hf⟩ := hf
      refine R_copyI dX6_find_95 lmX6_60 w_ac1 w_ac2 w_ac3 (by decide) rfl ob10 ob11 (by decide) (by decide) ob12 ob13 ob14 ?_
      refine R_aload_n dX6_find_98 rfl 4 rfl ?_
      refine R_aload_n dX6_find_99 rfl 5 rfl ?_
      obtain ⟨ob15, hf⟩ := hf
      refine G3_9 dX6_find_100 lfX6_45 ob15 ?_
      refine R_callV (ci := 6) (N := mX6_nextRow) (as := [.int (gI (rI h6 (gF h6 r0 6) (va_cpy (gI h6 (gF h6 r0 4)) (gI h6 (gF h6 r0 6)) (Int32.toNatClampNeg 0) (Int32.toNatClampNeg 0) (gI h6 r0 5).toNatClampNeg)) r1 9)]) (rest := []) (kc2 := 0) (ks2 := 0) dX6_find_103 lmX6_66 oX6_nextRow (Nat.le_of_ble_eq_true rfl) rfl rfl (Nat.le_of_ble_eq_true rfl) rfl rfl ob9 ok6 (Call.mono hf ?_)
      rintro _ h16 ⟨rfl, hf⟩
      refine R_iinc (v := x6 + 1) dX6_find_106 8 rfl rfl (by decide) rfl ?_
      refine R_goto (tgt := 34) dX6_find_109 (by decide) ?_
      exact R_sub [5, 6, 7, 2, 1, 8, 0] rfl hf
    · have hf := hf.2 b8
      refine R_iload dX6_find_61 1 rfl ?_
      refine R_iload_n dX6_find_63 rfl 5 rfl ?_
      refine R_icmp_ne (tgt := 98) dX6_find_64 (by decide) (fun b17 => ?_) (fun b17 => ?_)
      · have hf := hf.1 b17
        refine R_aload_n dX6_find_98 rfl 2 rfl ?_
        refine R_aload_n dX6_find_99 rfl 3 rfl ?_
        obtain ⟨ob18, hf⟩ := hf
        refine G3_9 dX6_find_100 lfX6_45 ob18 ?_
        obtain ⟨ob19, hf⟩ := hf
        refine R_callV (ci := 6) (N := mX6_nextRow) (as := [.int (gI h6 r1 9)]) (rest := []) (kc2 := 0) (ks2 := 0) dX6_find_103 lmX6_66 oX6_nextRow (Nat.le_of_ble_eq_true rfl) rfl rfl (Nat.le_of_ble_eq_true rfl) rfl rfl ob19 ok6 (Call.mono hf ?_)
        rintro _ h20 ⟨rfl, hf⟩
        refine R_iinc (v := x6 + 1) dX6_find_106 8 rfl rfl (by decide) rfl ?_
        refine R_goto (tgt := 34) dX6_find_109 (by decide) ?_
        exact R_sub [3, 4, 5, 6, 7, 8, 0] rfl hf
      · have hf := hf.2 b17
        refine R_iload dX6_find_67 0 rfl ?_
        refine R_iload dX6_find_69 6 rfl ?_
        refine R_icmp_ge (tgt := 98) dX6_find_71 (by decide) (fun b21 => ?_) (fun b21 => ?_)
        · have hf := hf.1 b21
          refine R_aload_n dX6_find_98 rfl 2 rfl ?_
          refine R_aload_n dX6_find_99 rfl 3 rfl ?_
          obtain ⟨ob22, hf⟩ := hf
          refine G3_9 dX6_find_100 lfX6_45 ob22 ?_
          obtain ⟨ob23, hf⟩ := hf
          refine R_callV (ci := 6) (N := mX6_nextRow) (as := [.int (gI h6 r1 9)]) (rest := []) (kc2 := 0) (ks2 := 0) dX6_find_103 lmX6_66 oX6_nextRow (Nat.le_of_ble_eq_true rfl) rfl rfl (Nat.le_of_ble_eq_true rfl) rfl rfl ob23 ok6 (Call.mono hf ?_)
          rintro _ h24 ⟨rfl, hf⟩
          refine R_iinc (v := x6 + 1) dX6_find_106 8 rfl rfl (by decide) rfl ?_
          refine R_goto (tgt := 34) dX6_find_109 (by decide) ?_
          exact R_sub [3, 4, 5, 6, 7, 8, 0] rfl hf
        · have hf := hf.2 b21
          refine R_iload dX6_find_74 1 rfl ?_
          refine R_istore_n dX6_find_76 rfl (by decide) rfl ?_
          refine R_iload dX6_find_77 1 rfl ?_
          refine R_istore dX6_find_79 (by decide) rfl ?_
          refine R_aload_n dX6_find_81 rfl 4 rfl ?_
          obtain ⟨ob25, hf⟩ := hf
          refine G6_4 dX6_find_82 lfX6_11 ob25 ?_
          refine R_iconst (v := 0) dX6_find_85 (by decide) ?_
          refine R_aload_n dX6_find_86 rfl 4 rfl ?_
          refine G6_6 dX6_find_87 lfX6_17 ob25 ?_
          refine R_iconst (v := 0) dX6_find_90 (by decide) ?_
          refine R_aload_n dX6_find_91 rfl 4 rfl ?_
          refine G6_5 dX6_find_92 lfX6_20 ob25 ?_
          obtain ⟨ob26, hf⟩ := hf
          obtain ⟨ob27, hf⟩ := hf
          obtain ⟨ob28, hf⟩ := hf
          obtain ⟨ob29, hf⟩ := hf
          obtain ⟨ob30, hf⟩ := hf
          refine R_copyI dX6_find_95 lmX6_60 w_ac1 w_ac2 w_ac3 (by decide) rfl ob26 ob27 (by decide) (by decide) ob28 ob29 ob30 ?_
          refine R_aload_n dX6_find_98 rfl 4 rfl ?_
          refine R_aload_n dX6_find_99 rfl 5 rfl ?_
          obtain ⟨ob31, hf⟩ := hf
          refine G3_9 dX6_find_100 lfX6_45 ob31 ?_
          refine R_callV (ci := 6) (N := mX6_nextRow) (as := [.int (gI (rI h6 (gF h6 r0 6) (va_cpy (gI h6 (gF h6 r0 4)) (gI h6 (gF h6 r0 6)) (Int32.toNatClampNeg 0) (Int32.toNatClampNeg 0) (gI h6 r0 5).toNatClampNeg)) r1 9)]) (rest := []) (kc2 := 0) (ks2 := 0) dX6_find_103 lmX6_66 oX6_nextRow (Nat.le_of_ble_eq_true rfl) rfl rfl (Nat.le_of_ble_eq_true rfl) rfl rfl ob25 ok6 (Call.mono hf ?_)
          rintro _ h32 ⟨rfl, hf⟩
          refine R_iinc (v := x6 + 1) dX6_find_106 8 rfl rfl (by decide) rfl ?_
          refine R_goto (tgt := 34) dX6_find_109 (by decide) ?_
          exact R_sub [5, 6, 7, 2, 1, 8, 0] rfl hf
theorem dX8_findSetting_0 : decode cX8_findSetting 0 = .ok (.iconst (-1), 1) := by decide +kernel
theorem dX8_findSetting_1 : decode cX8_findSetting 1 = .ok (.istore_n 1, 1) := by decide +kernel
theorem dX8_findSetting_2 : decode cX8_findSetting 2 = .ok (.iconst 0, 1) := by decide +kernel
theorem dX8_findSetting_3 : decode cX8_findSetting 3 = .ok (.istore_n 2, 1) := by decide +kernel
theorem dX8_findSetting_4 : decode cX8_findSetting 4 = .ok (.iload_n 2, 1) := by decide +kernel
theorem dX8_findSetting_5 : decode cX8_findSetting 5 = .ok (.aload_n 0, 1) := by decide +kernel
theorem dX8_findSetting_6 : decode cX8_findSetting 6 = .ok (.getfield 21, 3) := by decide +kernel
theorem dX8_findSetting_9 : decode cX8_findSetting 9 = .ok (.if_icmp .ge 99, 3) := by decide +kernel
theorem dX8_findSetting_12 : decode cX8_findSetting 12 = .ok (.iload_n 2, 1) := by decide +kernel
theorem dX8_findSetting_13 : decode cX8_findSetting 13 = .ok (.iconst 1, 1) := by decide +kernel
theorem dX8_findSetting_14 : decode cX8_findSetting 14 = .ok (.iadd, 1) := by decide +kernel
theorem dX8_findSetting_15 : decode cX8_findSetting 15 = .ok (.istore_n 3, 1) := by decide +kernel
theorem dX8_findSetting_16 : decode cX8_findSetting 16 = .ok (.iload_n 3, 1) := by decide +kernel
theorem dX8_findSetting_17 : decode cX8_findSetting 17 = .ok (.aload_n 0, 1) := by decide +kernel
theorem dX8_findSetting_18 : decode cX8_findSetting 18 = .ok (.getfield 21, 3) := by decide +kernel
theorem dX8_findSetting_21 : decode cX8_findSetting 21 = .ok (.if_icmp .ge 81, 3) := by decide +kernel
theorem dX8_findSetting_24 : decode cX8_findSetting 24 = .ok (.iload_n 3, 1) := by decide +kernel
theorem dX8_findSetting_25 : decode cX8_findSetting 25 = .ok (.iconst 1, 1) := by decide +kernel
theorem dX8_findSetting_26 : decode cX8_findSetting 26 = .ok (.iadd, 1) := by decide +kernel
theorem dX8_findSetting_27 : decode cX8_findSetting 27 = .ok (.istore 4, 2) := by decide +kernel
theorem dX8_findSetting_29 : decode cX8_findSetting 29 = .ok (.iload 4, 2) := by decide +kernel
theorem dX8_findSetting_31 : decode cX8_findSetting 31 = .ok (.aload_n 0, 1) := by decide +kernel
theorem dX8_findSetting_32 : decode cX8_findSetting 32 = .ok (.getfield 21, 3) := by decide +kernel
theorem dX8_findSetting_35 : decode cX8_findSetting 35 = .ok (.if_icmp .ge 61, 3) := by decide +kernel
theorem dX8_findSetting_38 : decode cX8_findSetting 38 = .ok (.iload 4, 2) := by decide +kernel
theorem dX8_findSetting_40 : decode cX8_findSetting 40 = .ok (.iconst 1, 1) := by decide +kernel
theorem dX8_findSetting_41 : decode cX8_findSetting 41 = .ok (.iadd, 1) := by decide +kernel
theorem dX8_findSetting_42 : decode cX8_findSetting 42 = .ok (.istore 5, 2) := by decide +kernel
theorem dX8_findSetting_44 : decode cX8_findSetting 44 = .ok (.iload 5, 2) := by decide +kernel
theorem dX8_findSetting_46 : decode cX8_findSetting 46 = .ok (.aload_n 0, 1) := by decide +kernel
theorem dX8_findSetting_47 : decode cX8_findSetting 47 = .ok (.getfield 21, 3) := by decide +kernel
theorem dX8_findSetting_50 : decode cX8_findSetting 50 = .ok (.if_icmp .ge 40, 3) := by decide +kernel
theorem dX8_findSetting_53 : decode cX8_findSetting 53 = .ok (.aload_n 0, 1) := by decide +kernel
theorem dX8_findSetting_54 : decode cX8_findSetting 54 = .ok (.iload_n 2, 1) := by decide +kernel
theorem dX8_findSetting_55 : decode cX8_findSetting 55 = .ok (.iload_n 3, 1) := by decide +kernel
theorem dX8_findSetting_56 : decode cX8_findSetting 56 = .ok (.iload 4, 2) := by decide +kernel
theorem dX8_findSetting_58 : decode cX8_findSetting 58 = .ok (.iload 5, 2) := by decide +kernel
theorem dX8_findSetting_60 : decode cX8_findSetting 60 = .ok (.invokevirtual 39, 3) := by decide +kernel
theorem dX8_findSetting_63 : decode cX8_findSetting 63 = .ok (.istore 6, 2) := by decide +kernel
theorem dX8_findSetting_65 : decode cX8_findSetting 65 = .ok (.iload 6, 2) := by decide +kernel
theorem dX8_findSetting_67 : decode cX8_findSetting 67 = .ok (.iload_n 1, 1) := by decide +kernel
theorem dX8_findSetting_68 : decode cX8_findSetting 68 = .ok (.if_icmp .le 16, 3) := by decide +kernel
theorem dX8_findSetting_71 : decode cX8_findSetting 71 = .ok (.iload 6, 2) := by decide +kernel
theorem dX8_findSetting_73 : decode cX8_findSetting 73 = .ok (.istore_n 1, 1) := by decide +kernel
theorem dX8_findSetting_74 : decode cX8_findSetting 74 = .ok (.aload_n 0, 1) := by decide +kernel
theorem dX8_findSetting_75 : decode cX8_findSetting 75 = .ok (.iload_n 2, 1) := by decide +kernel
theorem dX8_findSetting_76 : decode cX8_findSetting 76 = .ok (.iload_n 3, 1) := by decide +kernel
theorem dX8_findSetting_77 : decode cX8_findSetting 77 = .ok (.iload 4, 2) := by decide +kernel
theorem dX8_findSetting_79 : decode cX8_findSetting 79 = .ok (.iload 5, 2) := by decide +kernel
theorem dX8_findSetting_81 : decode cX8_findSetting 81 = .ok (.invokevirtual 43, 3) := by decide +kernel
theorem dX8_findSetting_84 : decode cX8_findSetting 84 = .ok (.iinc 5 1, 3) := by decide +kernel
theorem dX8_findSetting_87 : decode cX8_findSetting 87 = .ok (.goto (-43), 3) := by decide +kernel
theorem dX8_findSetting_90 : decode cX8_findSetting 90 = .ok (.iinc 4 1, 3) := by decide +kernel
theorem dX8_findSetting_93 : decode cX8_findSetting 93 = .ok (.goto (-64), 3) := by decide +kernel
theorem dX8_findSetting_96 : decode cX8_findSetting 96 = .ok (.iinc 3 1, 3) := by decide +kernel
theorem dX8_findSetting_99 : decode cX8_findSetting 99 = .ok (.goto (-83), 3) := by decide +kernel
theorem dX8_findSetting_102 : decode cX8_findSetting 102 = .ok (.iinc 2 1, 3) := by decide +kernel
theorem dX8_findSetting_105 : decode cX8_findSetting 105 = .ok (.goto (-101), 3) := by decide +kernel
theorem dX8_findSetting_108 : decode cX8_findSetting 108 = .ok (.iload_n 1, 1) := by decide +kernel
theorem dX8_findSetting_109 : decode cX8_findSetting 109 = .ok (.ireturn, 1) := by decide +kernel
set_option maxRecDepth 20000 in
theorem sX8_findSetting_0 {P : Option Value → AH → Prop} (h : AH) (r0 : Nat) (hf : Rr mX8_findSetting 0 0 4 [(0, .ref r0), (1, .int (-1)), (2, .int 0)] [] h P) : Rr mX8_findSetting 0 0 0 [(0, .ref r0)] [] h P := by
  refine R_iconst (v := (-1)) dX8_findSetting_0 (by decide) ?_
  refine R_istore_n dX8_findSetting_1 rfl (by decide) rfl ?_
  refine R_iconst (v := 0) dX8_findSetting_2 (by decide) ?_
  refine R_istore_n dX8_findSetting_3 rfl (by decide) rfl ?_
  exact R_sub [2, 1, 0] rfl hf
set_option maxRecDepth 20000 in
theorem sX8_findSetting_4 {P : Option Value → AH → Prop} (h : AH) (r0 : Nat) (x1 : Int32) (x2 : Int32) (hf : (isO h 8 r0) ∧ (((gI h r0 0) ≤ x2 → P (some (.int x1)) h) ∧ (¬ (gI h r0 0) ≤ x2 → Rr mX8_findSetting 0 0 16 [(0, .ref r0), (1, .int x1), (2, .int x2), (3, .int (x2 + 1))] [] h P))) : Rr mX8_findSetting 0 0 4 [(0, .ref r0), (1, .int x1), (2, .int x2)] [] h P := by
  refine R_iload_n dX8_findSetting_4 rfl 2 rfl ?_
  refine R_aload_n dX8_findSetting_5 rfl 0 rfl ?_
  obtain ⟨ob1, hf⟩ := hf
  refine G8_0 dX8_findSetting_6 lfX8_21 ob1 ?_
  refine R_icmp_ge (tgt := 108) dX8_findSetting_9 (by decide) (fun b2 => ?_) (fun b2 => ?_)
  · have hf := hf.1 b2
    refine R_iload_n dX8_findSetting_108 rfl 1 rfl ?_
    exact R_iret dX8_findSetting_109 rfl rfl hf
  · have hf := hf.2 b2
    refine R_iload_n dX8_findSetting_12 rfl 2 rfl ?_
    refine R_iconst (v := 1) dX8_findSetting_13 (by decide) ?_
    refine R_iadd dX8_findSetting_14 ?_
    refine R_istore_n dX8_findSetting_15 rfl (by decide) rfl ?_
    exact R_sub [1, 2, 3, 0] rfl hf
set_option maxRecDepth 20000 in
theorem sX8_findSetting_16 {P : Option Value → AH → Prop} (h : AH) (r0 : Nat) (x1 : Int32) (x2 : Int32) (x3 : Int32) (hf : (isO h 8 r0) ∧ (((gI h r0 0) ≤ x3 → Rr mX8_findSetting 0 0 4 [(0, .ref r0), (1, .int x1), (2, .int (x2 + 1))] [] h P) ∧ (¬ (gI h r0 0) ≤ x3 → Rr mX8_findSetting 0 0 29 [(0, .ref r0), (1, .int x1), (2, .int x2), (3, .int x3), (4, .int (x3 + 1))] [] h P))) : Rr mX8_findSetting 0 0 16 [(0, .ref r0), (1, .int x1), (2, .int x2), (3, .int x3)] [] h P := by
  refine R_iload_n dX8_findSetting_16 rfl 3 rfl ?_
  refine R_aload_n dX8_findSetting_17 rfl 0 rfl ?_
  obtain ⟨ob1, hf⟩ := hf
  refine G8_0 dX8_findSetting_18 lfX8_21 ob1 ?_
  refine R_icmp_ge (tgt := 102) dX8_findSetting_21 (by decide) (fun b2 => ?_) (fun b2 => ?_)
  · have hf := hf.1 b2
    refine R_iinc (v := x2 + 1) dX8_findSetting_102 2 rfl rfl (by decide) rfl ?_
    refine R_goto (tgt := 4) dX8_findSetting_105 (by decide) ?_
    exact R_sub [1, 2, 0] rfl hf
  · have hf := hf.2 b2
    refine R_iload_n dX8_findSetting_24 rfl 3 rfl ?_
    refine R_iconst (v := 1) dX8_findSetting_25 (by decide) ?_
    refine R_iadd dX8_findSetting_26 ?_
    refine R_istore dX8_findSetting_27 (by decide) rfl ?_
    exact R_sub [1, 2, 3, 4, 0] rfl hf
set_option maxRecDepth 20000 in
theorem sX8_findSetting_29 {P : Option Value → AH → Prop} (h : AH) (r0 : Nat) (x1 : Int32) (x2 : Int32) (x3 : Int32) (x4 : Int32) (hf : (isO h 8 r0) ∧ (((gI h r0 0) ≤ x4 → Rr mX8_findSetting 0 0 16 [(0, .ref r0), (1, .int x1), (2, .int x2), (3, .int (x3 + 1))] [] h P) ∧ (¬ (gI h r0 0) ≤ x4 → Rr mX8_findSetting 0 0 44 [(0, .ref r0), (1, .int x1), (2, .int x2), (3, .int x3), (4, .int x4), (5, .int (x4 + 1))] [] h P))) : Rr mX8_findSetting 0 0 29 [(0, .ref r0), (1, .int x1), (2, .int x2), (3, .int x3), (4, .int x4)] [] h P := by
  refine R_iload dX8_findSetting_29 4 rfl ?_
  refine R_aload_n dX8_findSetting_31 rfl 0 rfl ?_
  obtain ⟨ob1, hf⟩ := hf
  refine G8_0 dX8_findSetting_32 lfX8_21 ob1 ?_
  refine R_icmp_ge (tgt := 96) dX8_findSetting_35 (by decide) (fun b2 => ?_) (fun b2 => ?_)
  · have hf := hf.1 b2
    refine R_iinc (v := x3 + 1) dX8_findSetting_96 3 rfl rfl (by decide) rfl ?_
    refine R_goto (tgt := 16) dX8_findSetting_99 (by decide) ?_
    exact R_sub [1, 2, 3, 0] rfl hf
  · have hf := hf.2 b2
    refine R_iload dX8_findSetting_38 4 rfl ?_
    refine R_iconst (v := 1) dX8_findSetting_40 (by decide) ?_
    refine R_iadd dX8_findSetting_41 ?_
    refine R_istore dX8_findSetting_42 (by decide) rfl ?_
    exact R_sub [1, 2, 3, 4, 5, 0] rfl hf
set_option maxRecDepth 20000 in
theorem sX8_findSetting_44 {P : Option Value → AH → Prop} (h : AH) (r0 : Nat) (x1 : Int32) (x2 : Int32) (x3 : Int32) (x4 : Int32) (x5 : Int32) (hf : (isO h 8 r0) ∧ (((gI h r0 0) ≤ x5 → Rr mX8_findSetting 0 0 29 [(0, .ref r0), (1, .int x1), (2, .int x2), (3, .int x3), (4, .int (x4 + 1))] [] h P) ∧ (¬ (gI h r0 0) ≤ x5 → Call mX8_leastBeat [.ref r0, .int x2, .int x3, .int x4, .int x5] h (fun v h3 => ∃ z4 : Int32, v = some (.int z4) ∧ ((z4 ≤ x1 → Rr mX8_findSetting 0 0 44 [(0, .ref r0), (1, .int x1), (2, .int x2), (3, .int x3), (4, .int x4), (5, .int (x5 + 1))] [] h3 P) ∧ (¬ z4 ≤ x1 → (isO h3 8 r0) ∧ ((isA h3 0 (gF h3 r0 3)) ∧ ((vp_in 0 (ln (gF h3 r0 3))) ∧ ((vp_in 1 (ln (gF h3 r0 3))) ∧ ((vp_in 2 (ln (gF h3 r0 3))) ∧ ((vp_in 3 (ln (gF h3 r0 3))) ∧ (Rr mX8_findSetting 0 0 44 [(0, .ref r0), (1, .int z4), (2, .int x2), (3, .int x3), (4, .int x4), (5, .int (x5 + 1))] [] (sI (sI (sI (sI h3 (gF h3 r0 3) (Int32.toNatClampNeg 0) x2) (gF h3 r0 3) (Int32.toNatClampNeg 1) x3) (gF h3 r0 3) (Int32.toNatClampNeg 2) x4) (gF h3 r0 3) (Int32.toNatClampNeg 3) x5) P)))))))))))) : Rr mX8_findSetting 0 0 44 [(0, .ref r0), (1, .int x1), (2, .int x2), (3, .int x3), (4, .int x4), (5, .int x5)] [] h P := by
  refine R_iload dX8_findSetting_44 5 rfl ?_
  refine R_aload_n dX8_findSetting_46 rfl 0 rfl ?_
  obtain ⟨ob1, hf⟩ := hf
  refine G8_0 dX8_findSetting_47 lfX8_21 ob1 ?_
  refine R_icmp_ge (tgt := 90) dX8_findSetting_50 (by decide) (fun b2 => ?_) (fun b2 => ?_)
  · have hf := hf.1 b2
    refine R_iinc (v := x4 + 1) dX8_findSetting_90 4 rfl rfl (by decide) rfl ?_
    refine R_goto (tgt := 29) dX8_findSetting_93 (by decide) ?_
    exact R_sub [1, 2, 3, 4, 0] rfl hf
  · have hf := hf.2 b2
    refine R_aload_n dX8_findSetting_53 rfl 0 rfl ?_
    refine R_iload_n dX8_findSetting_54 rfl 2 rfl ?_
    refine R_iload_n dX8_findSetting_55 rfl 3 rfl ?_
    refine R_iload dX8_findSetting_56 4 rfl ?_
    refine R_iload dX8_findSetting_58 5 rfl ?_
    refine R_callV (ci := 8) (N := mX8_leastBeat) (as := [.int x2, .int x3, .int x4, .int x5]) (rest := []) (kc2 := 0) (ks2 := 0) dX8_findSetting_60 lmX8_39 oX8_leastBeat (Nat.le_of_ble_eq_true rfl) rfl rfl (Nat.le_of_ble_eq_true rfl) rfl rfl ob1 ok8 (Call.mono hf ?_)
    rintro _ h3 ⟨z4, rfl, hf⟩
    refine R_istore dX8_findSetting_63 (by decide) rfl ?_
    refine R_iload dX8_findSetting_65 0 rfl ?_
    refine R_iload_n dX8_findSetting_67 rfl 2 rfl ?_
    refine R_icmp_le (tgt := 84) dX8_findSetting_68 (by decide) (fun b5 => ?_) (fun b5 => ?_)
    · have hf := hf.1 b5
      refine R_iinc (v := x5 + 1) dX8_findSetting_84 6 rfl rfl (by decide) rfl ?_
      refine R_goto (tgt := 44) dX8_findSetting_87 (by decide) ?_
      exact R_sub [2, 3, 4, 5, 6, 0] rfl hf
    · have hf := hf.2 b5
      refine R_iload dX8_findSetting_71 0 rfl ?_
      refine R_istore_n dX8_findSetting_73 rfl (by decide) rfl ?_
      refine R_aload_n dX8_findSetting_74 rfl 2 rfl ?_
      refine R_iload_n dX8_findSetting_75 rfl 3 rfl ?_
      refine R_iload_n dX8_findSetting_76 rfl 4 rfl ?_
      refine R_iload dX8_findSetting_77 5 rfl ?_
      refine R_iload dX8_findSetting_79 6 rfl ?_
      obtain ⟨ob6, hf⟩ := hf
      obtain ⟨ob7, hf⟩ := hf
      obtain ⟨ob8, hf⟩ := hf
      obtain ⟨ob9, hf⟩ := hf
      obtain ⟨ob10, hf⟩ := hf
      obtain ⟨ob11, hf⟩ := hf
      refine R_callV (ci := 8) (N := mX8_set) (as := [.int x2, .int x3, .int x4, .int x5]) (rest := []) (kc2 := 0) (ks2 := 0) dX8_findSetting_81 lmX8_43 oX8_set (Nat.le_of_ble_eq_true rfl) rfl rfl (Nat.le_of_ble_eq_true rfl) rfl rfl ob6 ok8 (aX8_set ob6 ob7 ob8 ob9 ob10 ob11 ?_)
      refine R_iinc (v := x5 + 1) dX8_findSetting_84 6 rfl rfl (by decide) rfl ?_
      refine R_goto (tgt := 44) dX8_findSetting_87 (by decide) ?_
      exact R_sub [3, 1, 4, 5, 6, 0] rfl hf
