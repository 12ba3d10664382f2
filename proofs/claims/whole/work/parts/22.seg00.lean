theorem dX0_add_0 : decode cX0_add 0 = .ok (.iconst 0, 1) := by decide +kernel
theorem dX0_add_1 : decode cX0_add 1 = .ok (.istore_n 2, 1) := by decide +kernel
theorem dX0_add_2 : decode cX0_add 2 = .ok (.iload_n 2, 1) := by decide +kernel
theorem dX0_add_3 : decode cX0_add 3 = .ok (.iconst 4, 1) := by decide +kernel
theorem dX0_add_4 : decode cX0_add 4 = .ok (.if_icmp .ge 24, 3) := by decide +kernel
theorem dX0_add_7 : decode cX0_add 7 = .ok (.aload_n 0, 1) := by decide +kernel
theorem dX0_add_8 : decode cX0_add 8 = .ok (.getfield 11, 3) := by decide +kernel
theorem dX0_add_11 : decode cX0_add 11 = .ok (.iload_n 2, 1) := by decide +kernel
theorem dX0_add_12 : decode cX0_add 12 = .ok (.dup2, 1) := by decide +kernel
theorem dX0_add_13 : decode cX0_add 13 = .ok (.laload, 1) := by decide +kernel
theorem dX0_add_14 : decode cX0_add 14 = .ok (.aload_n 1, 1) := by decide +kernel
theorem dX0_add_15 : decode cX0_add 15 = .ok (.getfield 11, 3) := by decide +kernel
theorem dX0_add_18 : decode cX0_add 18 = .ok (.iload_n 2, 1) := by decide +kernel
theorem dX0_add_19 : decode cX0_add 19 = .ok (.laload, 1) := by decide +kernel
theorem dX0_add_20 : decode cX0_add 20 = .ok (.lor, 1) := by decide +kernel
theorem dX0_add_21 : decode cX0_add 21 = .ok (.lastore, 1) := by decide +kernel
theorem dX0_add_22 : decode cX0_add 22 = .ok (.iinc 2 1, 3) := by decide +kernel
theorem dX0_add_25 : decode cX0_add 25 = .ok (.goto (-23), 3) := by decide +kernel
theorem dX0_add_28 : decode cX0_add 28 = .ok (.return_, 1) := by decide +kernel
set_option maxRecDepth 20000 in
theorem sX0_add_0 {P : Option Value → AH → Prop} (h : AH) (r0 : Nat) (r1 : Nat) (hf : Rr mX0_add 0 0 2 [(0, .ref r0), (1, .ref r1), (2, .int 0)] [] h P) : Rr mX0_add 0 0 0 [(0, .ref r0), (1, .ref r1)] [] h P := by
  refine R_iconst (v := 0) dX0_add_0 (by decide) ?_
  refine R_istore_n dX0_add_1 rfl (by decide) rfl ?_
  exact R_sub [1, 2, 0] rfl hf
set_option maxRecDepth 20000 in
theorem sX0_add_2 {P : Option Value → AH → Prop} (h : AH) (r0 : Nat) (r1 : Nat) (x2 : Int32) (hf : (4 ≤ x2 → P none h) ∧ (¬ 4 ≤ x2 → (isO h 0 r0) ∧ ((isA h 1 (gF h r0 0)) ∧ ((vp_in x2 (ln (gF h r0 0))) ∧ ((isO h 0 r1) ∧ ((isA h 1 (gF h r1 0)) ∧ ((vp_in x2 (ln (gF h r1 0))) ∧ (Rr mX0_add 0 0 2 [(0, .ref r0), (1, .ref r1), (2, .int (x2 + 1))] [] (sL h (gF h r0 0) x2.toNatClampNeg ((gL h (gF h r0 0) x2.toNatClampNeg) ||| (gL h (gF h r1 0) x2.toNatClampNeg))) P)))))))) : Rr mX0_add 0 0 2 [(0, .ref r0), (1, .ref r1), (2, .int x2)] [] h P := by
  refine R_iload_n dX0_add_2 rfl 2 rfl ?_
  refine R_iconst (v := 4) dX0_add_3 (by decide) ?_
  refine R_icmp_ge (tgt := 28) dX0_add_4 (by decide) (fun b1 => ?_) (fun b1 => ?_)
  · have hf := hf.1 b1
    exact R_ret dX0_add_28 rfl hf
  · have hf := hf.2 b1
    refine R_aload_n dX0_add_7 rfl 0 rfl ?_
    obtain ⟨ob2, hf⟩ := hf
    refine G0_0 dX0_add_8 lfX0_11 ob2 ?_
    refine R_iload_n dX0_add_11 rfl 2 rfl ?_
    refine R_dup2 dX0_add_12 rfl rfl ?_
    obtain ⟨ob3, hf⟩ := hf
    obtain ⟨ob4, hf⟩ := hf
    refine R_laload dX0_add_13 ob3 ob4 ?_
    refine R_aload_n dX0_add_14 rfl 1 rfl ?_
    obtain ⟨ob5, hf⟩ := hf
    refine G0_0 dX0_add_15 lfX0_11 ob5 ?_
    refine R_iload_n dX0_add_18 rfl 2 rfl ?_
    obtain ⟨ob6, hf⟩ := hf
    obtain ⟨ob7, hf⟩ := hf
    refine R_laload dX0_add_19 ob6 ob7 ?_
    refine R_lor dX0_add_20 ?_
    refine R_lastore dX0_add_21 ob3 ob4 ?_
    refine R_iinc (v := x2 + 1) dX0_add_22 2 rfl rfl (by decide) rfl ?_
    refine R_goto (tgt := 2) dX0_add_25 (by decide) ?_
    exact R_sub [1, 2, 0] rfl hf
theorem dX0_addBox_0 : decode cX0_addBox 0 = .ok (.iconst 1, 1) := by decide +kernel
theorem dX0_addBox_1 : decode cX0_addBox 1 = .ok (.iload_n 3, 1) := by decide +kernel
theorem dX0_addBox_2 : decode cX0_addBox 2 = .ok (.ishl, 1) := by decide +kernel
theorem dX0_addBox_3 : decode cX0_addBox 3 = .ok (.iconst 1, 1) := by decide +kernel
theorem dX0_addBox_4 : decode cX0_addBox 4 = .ok (.isub, 1) := by decide +kernel
theorem dX0_addBox_5 : decode cX0_addBox 5 = .ok (.iload_n 1, 1) := by decide +kernel
theorem dX0_addBox_6 : decode cX0_addBox 6 = .ok (.ishl, 1) := by decide +kernel
theorem dX0_addBox_7 : decode cX0_addBox 7 = .ok (.ldc 34, 2) := by decide +kernel
theorem dX0_addBox_9 : decode cX0_addBox 9 = .ok (.iand, 1) := by decide +kernel
theorem dX0_addBox_10 : decode cX0_addBox 10 = .ok (.istore 5, 2) := by decide +kernel
theorem dX0_addBox_12 : decode cX0_addBox 12 = .ok (.iload_n 2, 1) := by decide +kernel
theorem dX0_addBox_13 : decode cX0_addBox 13 = .ok (.istore 6, 2) := by decide +kernel
theorem dX0_addBox_15 : decode cX0_addBox 15 = .ok (.iload 6, 2) := by decide +kernel
theorem dX0_addBox_17 : decode cX0_addBox 17 = .ok (.iload_n 2, 1) := by decide +kernel
theorem dX0_addBox_18 : decode cX0_addBox 18 = .ok (.iload 4, 2) := by decide +kernel
theorem dX0_addBox_20 : decode cX0_addBox 20 = .ok (.iadd, 1) := by decide +kernel
theorem dX0_addBox_21 : decode cX0_addBox 21 = .ok (.if_icmp .ge 39, 3) := by decide +kernel
theorem dX0_addBox_24 : decode cX0_addBox 24 = .ok (.iload 6, 2) := by decide +kernel
theorem dX0_addBox_26 : decode cX0_addBox 26 = .ok (.bipush 16, 2) := by decide +kernel
theorem dX0_addBox_28 : decode cX0_addBox 28 = .ok (.if_icmp .ge 32, 3) := by decide +kernel
theorem dX0_addBox_31 : decode cX0_addBox 31 = .ok (.aload_n 0, 1) := by decide +kernel
theorem dX0_addBox_32 : decode cX0_addBox 32 = .ok (.getfield 11, 3) := by decide +kernel
theorem dX0_addBox_35 : decode cX0_addBox 35 = .ok (.iload 6, 2) := by decide +kernel
theorem dX0_addBox_37 : decode cX0_addBox 37 = .ok (.iconst 4, 1) := by decide +kernel
theorem dX0_addBox_38 : decode cX0_addBox 38 = .ok (.idiv, 1) := by decide +kernel
theorem dX0_addBox_39 : decode cX0_addBox 39 = .ok (.dup2, 1) := by decide +kernel
theorem dX0_addBox_40 : decode cX0_addBox 40 = .ok (.laload, 1) := by decide +kernel
theorem dX0_addBox_41 : decode cX0_addBox 41 = .ok (.iload 5, 2) := by decide +kernel
theorem dX0_addBox_43 : decode cX0_addBox 43 = .ok (.i2l, 1) := by decide +kernel
theorem dX0_addBox_44 : decode cX0_addBox 44 = .ok (.iload 6, 2) := by decide +kernel
theorem dX0_addBox_46 : decode cX0_addBox 46 = .ok (.iconst 4, 1) := by decide +kernel
theorem dX0_addBox_47 : decode cX0_addBox 47 = .ok (.irem, 1) := by decide +kernel
theorem dX0_addBox_48 : decode cX0_addBox 48 = .ok (.bipush 16, 2) := by decide +kernel
theorem dX0_addBox_50 : decode cX0_addBox 50 = .ok (.imul, 1) := by decide +kernel
theorem dX0_addBox_51 : decode cX0_addBox 51 = .ok (.lshl, 1) := by decide +kernel
theorem dX0_addBox_52 : decode cX0_addBox 52 = .ok (.lor, 1) := by decide +kernel
theorem dX0_addBox_53 : decode cX0_addBox 53 = .ok (.lastore, 1) := by decide +kernel
theorem dX0_addBox_54 : decode cX0_addBox 54 = .ok (.iinc 6 1, 3) := by decide +kernel
theorem dX0_addBox_57 : decode cX0_addBox 57 = .ok (.goto (-42), 3) := by decide +kernel
theorem dX0_addBox_60 : decode cX0_addBox 60 = .ok (.return_, 1) := by decide +kernel
set_option maxRecDepth 20000 in
theorem sX0_addBox_0 {P : Option Value → AH → Prop} (h : AH) (r0 : Nat) (x1 : Int32) (x2 : Int32) (x3 : Int32) (x4 : Int32) (hf : Rr mX0_addBox 0 0 15 [(0, .ref r0), (2, .int x2), (4, .int x4), (5, .int (((((1 : Int32) <<< (x3 &&& 31)) - 1) <<< (x1 &&& 31)) &&& 65535)), (6, .int x2)] [] h P) : Rr mX0_addBox 0 0 0 [(0, .ref r0), (1, .int x1), (2, .int x2), (3, .int x3), (4, .int x4)] [] h P := by
  refine R_iconst (v := 1) dX0_addBox_0 (by decide) ?_
  refine R_iload_n dX0_addBox_1 rfl 3 rfl ?_
  refine R_ishl dX0_addBox_2 ?_
  refine R_iconst (v := 1) dX0_addBox_3 (by decide) ?_
  refine R_isub dX0_addBox_4 ?_
  refine R_iload_n dX0_addBox_5 rfl 1 rfl ?_
  refine R_ishl dX0_addBox_6 ?_
  refine R_ldc (v := 65535) dX0_addBox_7 lcX0_34 ?_
  refine R_iand dX0_addBox_9 ?_
  refine R_istore dX0_addBox_10 (by decide) rfl ?_
  refine R_iload_n dX0_addBox_12 rfl 3 rfl ?_
  refine R_istore dX0_addBox_13 (by decide) rfl ?_
  exact R_sub [2, 4, 6, 1, 0] rfl hf
set_option maxRecDepth 20000 in
theorem sX0_addBox_15 {P : Option Value → AH → Prop} (h : AH) (r0 : Nat) (x2 : Int32) (x4 : Int32) (x5 : Int32) (x6 : Int32) (hf : ((x2 + x4) ≤ x6 → P none h) ∧ (¬ (x2 + x4) ≤ x6 → (16 ≤ x6 → P none h) ∧ (¬ 16 ≤ x6 → (isO h 0 r0) ∧ ((isA h 1 (gF h r0 0)) ∧ ((vp_in (x6 / 4) (ln (gF h r0 0))) ∧ (Rr mX0_addBox 0 0 15 [(0, .ref r0), (2, .int x2), (4, .int x4), (5, .int x5), (6, .int (x6 + 1))] [] (sL h (gF h r0 0) (x6 / 4).toNatClampNeg ((gL h (gF h r0 0) (x6 / 4).toNatClampNeg) ||| (lshl x5.toInt64 ((x6 % 4) * 16)))) P)))))) : Rr mX0_addBox 0 0 15 [(0, .ref r0), (2, .int x2), (4, .int x4), (5, .int x5), (6, .int x6)] [] h P := by
  refine R_iload dX0_addBox_15 4 rfl ?_
  refine R_iload_n dX0_addBox_17 rfl 1 rfl ?_
  refine R_iload dX0_addBox_18 2 rfl ?_
  refine R_iadd dX0_addBox_20 ?_
  refine R_icmp_ge (tgt := 60) dX0_addBox_21 (by decide) (fun b1 => ?_) (fun b1 => ?_)
  · have hf := hf.1 b1
    exact R_ret dX0_addBox_60 rfl hf
  · have hf := hf.2 b1
    refine R_iload dX0_addBox_24 4 rfl ?_
    refine R_bipush (v := 16) dX0_addBox_26 (by decide) ?_
    refine R_icmp_ge (tgt := 60) dX0_addBox_28 (by decide) (fun b2 => ?_) (fun b2 => ?_)
    · have hf := hf.1 b2
      exact R_ret dX0_addBox_60 rfl hf
    · have hf := hf.2 b2
      refine R_aload_n dX0_addBox_31 rfl 0 rfl ?_
      obtain ⟨ob3, hf⟩ := hf
      refine G0_0 dX0_addBox_32 lfX0_11 ob3 ?_
      refine R_iload dX0_addBox_35 4 rfl ?_
      refine R_iconst (v := 4) dX0_addBox_37 (by decide) ?_
      refine R_idiv dX0_addBox_38 (by decide) ?_
      refine R_dup2 dX0_addBox_39 rfl rfl ?_
      obtain ⟨ob4, hf⟩ := hf
      obtain ⟨ob5, hf⟩ := hf
      refine R_laload dX0_addBox_40 ob4 ob5 ?_
      refine R_iload dX0_addBox_41 3 rfl ?_
      refine R_i2l dX0_addBox_43 ?_
      refine R_iload dX0_addBox_44 4 rfl ?_
      refine R_iconst (v := 4) dX0_addBox_46 (by decide) ?_
      refine R_irem dX0_addBox_47 (by decide) ?_
      refine R_bipush (v := 16) dX0_addBox_48 (by decide) ?_
      refine R_imul dX0_addBox_50 ?_
      refine R_lshl dX0_addBox_51 ?_
      refine R_lor dX0_addBox_52 ?_
      refine R_lastore dX0_addBox_53 ob4 ob5 ?_
      refine R_iinc (v := x6 + 1) dX0_addBox_54 4 rfl rfl (by decide) rfl ?_
      refine R_goto (tgt := 15) dX0_addBox_57 (by decide) ?_
      exact R_sub [1, 2, 3, 4, 0] rfl hf
theorem dX0_addUnlike_0 : decode cX0_addUnlike 0 = .ok (.iconst 0, 1) := by decide +kernel
theorem dX0_addUnlike_1 : decode cX0_addUnlike 1 = .ok (.istore_n 3, 1) := by decide +kernel
theorem dX0_addUnlike_2 : decode cX0_addUnlike 2 = .ok (.iload_n 3, 1) := by decide +kernel
theorem dX0_addUnlike_3 : decode cX0_addUnlike 3 = .ok (.iconst 4, 1) := by decide +kernel
theorem dX0_addUnlike_4 : decode cX0_addUnlike 4 = .ok (.if_icmp .ge 31, 3) := by decide +kernel
theorem dX0_addUnlike_7 : decode cX0_addUnlike 7 = .ok (.aload_n 0, 1) := by decide +kernel
theorem dX0_addUnlike_8 : decode cX0_addUnlike 8 = .ok (.getfield 11, 3) := by decide +kernel
theorem dX0_addUnlike_11 : decode cX0_addUnlike 11 = .ok (.iload_n 3, 1) := by decide +kernel
theorem dX0_addUnlike_12 : decode cX0_addUnlike 12 = .ok (.dup2, 1) := by decide +kernel
theorem dX0_addUnlike_13 : decode cX0_addUnlike 13 = .ok (.laload, 1) := by decide +kernel
theorem dX0_addUnlike_14 : decode cX0_addUnlike 14 = .ok (.aload_n 1, 1) := by decide +kernel
theorem dX0_addUnlike_15 : decode cX0_addUnlike 15 = .ok (.getfield 11, 3) := by decide +kernel
theorem dX0_addUnlike_18 : decode cX0_addUnlike 18 = .ok (.iload_n 3, 1) := by decide +kernel
theorem dX0_addUnlike_19 : decode cX0_addUnlike 19 = .ok (.laload, 1) := by decide +kernel
theorem dX0_addUnlike_20 : decode cX0_addUnlike 20 = .ok (.aload_n 2, 1) := by decide +kernel
theorem dX0_addUnlike_21 : decode cX0_addUnlike 21 = .ok (.getfield 11, 3) := by decide +kernel
theorem dX0_addUnlike_24 : decode cX0_addUnlike 24 = .ok (.iload_n 3, 1) := by decide +kernel
theorem dX0_addUnlike_25 : decode cX0_addUnlike 25 = .ok (.laload, 1) := by decide +kernel
theorem dX0_addUnlike_26 : decode cX0_addUnlike 26 = .ok (.lxor, 1) := by decide +kernel
theorem dX0_addUnlike_27 : decode cX0_addUnlike 27 = .ok (.lor, 1) := by decide +kernel
theorem dX0_addUnlike_28 : decode cX0_addUnlike 28 = .ok (.lastore, 1) := by decide +kernel
theorem dX0_addUnlike_29 : decode cX0_addUnlike 29 = .ok (.iinc 3 1, 3) := by decide +kernel
theorem dX0_addUnlike_32 : decode cX0_addUnlike 32 = .ok (.goto (-30), 3) := by decide +kernel
theorem dX0_addUnlike_35 : decode cX0_addUnlike 35 = .ok (.return_, 1) := by decide +kernel
set_option maxRecDepth 20000 in
theorem sX0_addUnlike_0 {P : Option Value → AH → Prop} (h : AH) (r0 : Nat) (r1 : Nat) (r2 : Nat) (hf : Rr mX0_addUnlike 0 0 2 [(0, .ref r0), (1, .ref r1), (2, .ref r2), (3, .int 0)] [] h P) : Rr mX0_addUnlike 0 0 0 [(0, .ref r0), (1, .ref r1), (2, .ref r2)] [] h P := by
  refine R_iconst (v := 0) dX0_addUnlike_0 (by decide) ?_
  refine R_istore_n dX0_addUnlike_1 rfl (by decide) rfl ?_
  exact R_sub [1, 2, 3, 0] rfl hf
set_option maxRecDepth 20000 in
theorem sX0_addUnlike_2 {P : Option Value → AH → Prop} (h : AH) (r0 : Nat) (r1 : Nat) (r2 : Nat) (x3 : Int32) (hf : (4 ≤ x3 → P none h) ∧ (¬ 4 ≤ x3 → (isO h 0 r0) ∧ ((isA h 1 (gF h r0 0)) ∧ ((vp_in x3 (ln (gF h r0 0))) ∧ ((isO h 0 r1) ∧ ((isA h 1 (gF h r1 0)) ∧ ((vp_in x3 (ln (gF h r1 0))) ∧ ((isO h 0 r2) ∧ ((isA h 1 (gF h r2 0)) ∧ ((vp_in x3 (ln (gF h r2 0))) ∧ (Rr mX0_addUnlike 0 0 2 [(0, .ref r0), (1, .ref r1), (2, .ref r2), (3, .int (x3 + 1))] [] (sL h (gF h r0 0) x3.toNatClampNeg ((gL h (gF h r0 0) x3.toNatClampNeg) ||| ((gL h (gF h r1 0) x3.toNatClampNeg) ^^^ (gL h (gF h r2 0) x3.toNatClampNeg)))) P))))))))))) : Rr mX0_addUnlike 0 0 2 [(0, .ref r0), (1, .ref r1), (2, .ref r2), (3, .int x3)] [] h P := by
  refine R_iload_n dX0_addUnlike_2 rfl 3 rfl ?_
  refine R_iconst (v := 4) dX0_addUnlike_3 (by decide) ?_
  refine R_icmp_ge (tgt := 35) dX0_addUnlike_4 (by decide) (fun b1 => ?_) (fun b1 => ?_)
  · have hf := hf.1 b1
    exact R_ret dX0_addUnlike_35 rfl hf
  · have hf := hf.2 b1
    refine R_aload_n dX0_addUnlike_7 rfl 0 rfl ?_
    obtain ⟨ob2, hf⟩ := hf
    refine G0_0 dX0_addUnlike_8 lfX0_11 ob2 ?_
    refine R_iload_n dX0_addUnlike_11 rfl 3 rfl ?_
    refine R_dup2 dX0_addUnlike_12 rfl rfl ?_
    obtain ⟨ob3, hf⟩ := hf
    obtain ⟨ob4, hf⟩ := hf
    refine R_laload dX0_addUnlike_13 ob3 ob4 ?_
    refine R_aload_n dX0_addUnlike_14 rfl 1 rfl ?_
    obtain ⟨ob5, hf⟩ := hf
    refine G0_0 dX0_addUnlike_15 lfX0_11 ob5 ?_
    refine R_iload_n dX0_addUnlike_18 rfl 3 rfl ?_
    obtain ⟨ob6, hf⟩ := hf
    obtain ⟨ob7, hf⟩ := hf
    refine R_laload dX0_addUnlike_19 ob6 ob7 ?_
    refine R_aload_n dX0_addUnlike_20 rfl 2 rfl ?_
    obtain ⟨ob8, hf⟩ := hf
    refine G0_0 dX0_addUnlike_21 lfX0_11 ob8 ?_
    refine R_iload_n dX0_addUnlike_24 rfl 3 rfl ?_
    obtain ⟨ob9, hf⟩ := hf
    obtain ⟨ob10, hf⟩ := hf
    refine R_laload dX0_addUnlike_25 ob9 ob10 ?_
    refine R_lxor dX0_addUnlike_26 ?_
    refine R_lor dX0_addUnlike_27 ?_
    refine R_lastore dX0_addUnlike_28 ob3 ob4 ?_
    refine R_iinc (v := x3 + 1) dX0_addUnlike_29 3 rfl rfl (by decide) rfl ?_
    refine R_goto (tgt := 2) dX0_addUnlike_32 (by decide) ?_
    exact R_sub [1, 2, 3, 0] rfl hf
theorem dX0_growOnce_0 : decode cX0_growOnce 0 = .ok (.lconst 0, 1) := by decide +kernel
theorem dX0_growOnce_1 : decode cX0_growOnce 1 = .ok (.lstore_n 1, 1) := by decide +kernel
theorem dX0_growOnce_2 : decode cX0_growOnce 2 = .ok (.iconst 0, 1) := by decide +kernel
theorem dX0_growOnce_3 : decode cX0_growOnce 3 = .ok (.istore_n 3, 1) := by decide +kernel
theorem dX0_growOnce_4 : decode cX0_growOnce 4 = .ok (.iload_n 3, 1) := by decide +kernel
theorem dX0_growOnce_5 : decode cX0_growOnce 5 = .ok (.iconst 4, 1) := by decide +kernel
theorem dX0_growOnce_6 : decode cX0_growOnce 6 = .ok (.if_icmp .ge 102, 3) := by decide +kernel
theorem dX0_growOnce_9 : decode cX0_growOnce 9 = .ok (.aload_n 0, 1) := by decide +kernel
theorem dX0_growOnce_10 : decode cX0_growOnce 10 = .ok (.getfield 11, 3) := by decide +kernel
theorem dX0_growOnce_13 : decode cX0_growOnce 13 = .ok (.iload_n 3, 1) := by decide +kernel
theorem dX0_growOnce_14 : decode cX0_growOnce 14 = .ok (.laload, 1) := by decide +kernel
theorem dX0_growOnce_15 : decode cX0_growOnce 15 = .ok (.lstore 4, 2) := by decide +kernel
theorem dX0_growOnce_17 : decode cX0_growOnce 17 = .ok (.iload_n 3, 1) := by decide +kernel
theorem dX0_growOnce_18 : decode cX0_growOnce 18 = .ok (.iconst 1, 1) := by decide +kernel
theorem dX0_growOnce_19 : decode cX0_growOnce 19 = .ok (.iadd, 1) := by decide +kernel
theorem dX0_growOnce_20 : decode cX0_growOnce 20 = .ok (.iconst 4, 1) := by decide +kernel
theorem dX0_growOnce_21 : decode cX0_growOnce 21 = .ok (.if_icmp .ge 14, 3) := by decide +kernel
theorem dX0_growOnce_24 : decode cX0_growOnce 24 = .ok (.aload_n 0, 1) := by decide +kernel
theorem dX0_growOnce_25 : decode cX0_growOnce 25 = .ok (.getfield 11, 3) := by decide +kernel
theorem dX0_growOnce_28 : decode cX0_growOnce 28 = .ok (.iload_n 3, 1) := by decide +kernel
theorem dX0_growOnce_29 : decode cX0_growOnce 29 = .ok (.iconst 1, 1) := by decide +kernel
theorem dX0_growOnce_30 : decode cX0_growOnce 30 = .ok (.iadd, 1) := by decide +kernel
theorem dX0_growOnce_31 : decode cX0_growOnce 31 = .ok (.laload, 1) := by decide +kernel
theorem dX0_growOnce_32 : decode cX0_growOnce 32 = .ok (.goto 4, 3) := by decide +kernel
theorem dX0_growOnce_35 : decode cX0_growOnce 35 = .ok (.lconst 0, 1) := by decide +kernel
theorem dX0_growOnce_36 : decode cX0_growOnce 36 = .ok (.lstore 6, 2) := by decide +kernel
theorem dX0_growOnce_38 : decode cX0_growOnce 38 = .ok (.lload 4, 2) := by decide +kernel
theorem dX0_growOnce_40 : decode cX0_growOnce 40 = .ok (.iconst 1, 1) := by decide +kernel
theorem dX0_growOnce_41 : decode cX0_growOnce 41 = .ok (.lshl, 1) := by decide +kernel
theorem dX0_growOnce_42 : decode cX0_growOnce 42 = .ok (.ldc2_w 49, 3) := by decide +kernel
theorem dX0_growOnce_45 : decode cX0_growOnce 45 = .ok (.land, 1) := by decide +kernel
theorem dX0_growOnce_46 : decode cX0_growOnce 46 = .ok (.lload 4, 2) := by decide +kernel
theorem dX0_growOnce_48 : decode cX0_growOnce 48 = .ok (.iconst 1, 1) := by decide +kernel
theorem dX0_growOnce_49 : decode cX0_growOnce 49 = .ok (.lushr, 1) := by decide +kernel
theorem dX0_growOnce_50 : decode cX0_growOnce 50 = .ok (.ldc2_w 51, 3) := by decide +kernel
theorem dX0_growOnce_53 : decode cX0_growOnce 53 = .ok (.land, 1) := by decide +kernel
theorem dX0_growOnce_54 : decode cX0_growOnce 54 = .ok (.lor, 1) := by decide +kernel
theorem dX0_growOnce_55 : decode cX0_growOnce 55 = .ok (.lstore 8, 2) := by decide +kernel
theorem dX0_growOnce_57 : decode cX0_growOnce 57 = .ok (.lload 4, 2) := by decide +kernel
theorem dX0_growOnce_59 : decode cX0_growOnce 59 = .ok (.bipush 16, 2) := by decide +kernel
theorem dX0_growOnce_61 : decode cX0_growOnce 61 = .ok (.lshl, 1) := by decide +kernel
theorem dX0_growOnce_62 : decode cX0_growOnce 62 = .ok (.lload_n 1, 1) := by decide +kernel
theorem dX0_growOnce_63 : decode cX0_growOnce 63 = .ok (.bipush 48, 2) := by decide +kernel
theorem dX0_growOnce_65 : decode cX0_growOnce 65 = .ok (.lushr, 1) := by decide +kernel
theorem dX0_growOnce_66 : decode cX0_growOnce 66 = .ok (.lor, 1) := by decide +kernel
theorem dX0_growOnce_67 : decode cX0_growOnce 67 = .ok (.lstore 10, 2) := by decide +kernel
theorem dX0_growOnce_69 : decode cX0_growOnce 69 = .ok (.lload 4, 2) := by decide +kernel
theorem dX0_growOnce_71 : decode cX0_growOnce 71 = .ok (.bipush 16, 2) := by decide +kernel
theorem dX0_growOnce_73 : decode cX0_growOnce 73 = .ok (.lushr, 1) := by decide +kernel
theorem dX0_growOnce_74 : decode cX0_growOnce 74 = .ok (.lload 6, 2) := by decide +kernel
theorem dX0_growOnce_76 : decode cX0_growOnce 76 = .ok (.bipush 48, 2) := by decide +kernel
theorem dX0_growOnce_78 : decode cX0_growOnce 78 = .ok (.lshl, 1) := by decide +kernel
theorem dX0_growOnce_79 : decode cX0_growOnce 79 = .ok (.lor, 1) := by decide +kernel
theorem dX0_growOnce_80 : decode cX0_growOnce 80 = .ok (.lstore 12, 2) := by decide +kernel
theorem dX0_growOnce_82 : decode cX0_growOnce 82 = .ok (.aload_n 0, 1) := by decide +kernel
theorem dX0_growOnce_83 : decode cX0_growOnce 83 = .ok (.getfield 11, 3) := by decide +kernel
theorem dX0_growOnce_86 : decode cX0_growOnce 86 = .ok (.iload_n 3, 1) := by decide +kernel
theorem dX0_growOnce_87 : decode cX0_growOnce 87 = .ok (.lload 4, 2) := by decide +kernel
theorem dX0_growOnce_89 : decode cX0_growOnce 89 = .ok (.lload 8, 2) := by decide +kernel
theorem dX0_growOnce_91 : decode cX0_growOnce 91 = .ok (.lor, 1) := by decide +kernel
theorem dX0_growOnce_92 : decode cX0_growOnce 92 = .ok (.lload 10, 2) := by decide +kernel
theorem dX0_growOnce_94 : decode cX0_growOnce 94 = .ok (.lor, 1) := by decide +kernel
theorem dX0_growOnce_95 : decode cX0_growOnce 95 = .ok (.lload 12, 2) := by decide +kernel
theorem dX0_growOnce_97 : decode cX0_growOnce 97 = .ok (.lor, 1) := by decide +kernel
theorem dX0_growOnce_98 : decode cX0_growOnce 98 = .ok (.lastore, 1) := by decide +kernel
theorem dX0_growOnce_99 : decode cX0_growOnce 99 = .ok (.lload 4, 2) := by decide +kernel
theorem dX0_growOnce_101 : decode cX0_growOnce 101 = .ok (.lstore_n 1, 1) := by decide +kernel
theorem dX0_growOnce_102 : decode cX0_growOnce 102 = .ok (.iinc 3 1, 3) := by decide +kernel
theorem dX0_growOnce_105 : decode cX0_growOnce 105 = .ok (.goto (-101), 3) := by decide +kernel
theorem dX0_growOnce_108 : decode cX0_growOnce 108 = .ok (.return_, 1) := by decide +kernel
set_option maxRecDepth 20000 in
theorem sX0_growOnce_0 {P : Option Value → AH → Prop} (h : AH) (r0 : Nat) (hf : Rr mX0_growOnce 0 0 4 [(0, .ref r0), (1, .long 0), (3, .int 0)] [] h P) : Rr mX0_growOnce 0 0 0 [(0, .ref r0)] [] h P := by
  refine R_lconst (v := 0) dX0_growOnce_0 (by decide) ?_
  refine R_lstore_n dX0_growOnce_1 rfl (by decide) rfl ?_
  refine R_iconst (v := 0) dX0_growOnce_2 (by decide) ?_
  refine R_istore_n dX0_growOnce_3 rfl (by decide) rfl ?_
  exact R_sub [2, 1, 0] rfl hf
set_option maxRecDepth 20000 in
theorem sX0_growOnce_4 {P : Option Value → AH → Prop} (h : AH) (r0 : Nat) (y1 : Int64) (x3 : Int32) (hf : (4 ≤ x3 → P none h) ∧ (¬ 4 ≤ x3 → (isO h 0 r0) ∧ ((isA h 1 (gF h r0 0)) ∧ ((vp_in x3 (ln (gF h r0 0))) ∧ ((¬ 4 ≤ (x3 + 1) → vp_in (x3 + 1) (ln (gF h r0 0))) ∧ (∀ w7 : Int64, w7 = (if 4 ≤ (x3 + 1) then 0 else (gL h (gF h r0 0) (x3 + 1).toNatClampNeg)) → (∀ v8 : Int64, v8 = (((lshl (gL h (gF h r0 0) x3.toNatClampNeg) 1) &&& (-281479271743490)) ||| ((lushr (gL h (gF h r0 0) x3.toNatClampNeg) 1) &&& 9223231297218904063)) → (Rr mX0_growOnce 0 0 4 [(0, .ref r0), (1, .long (gL h (gF h r0 0) x3.toNatClampNeg)), (3, .int (x3 + 1))] [] (sL h (gF h r0 0) x3.toNatClampNeg ((((gL h (gF h r0 0) x3.toNatClampNeg) ||| v8) ||| ((lshl (gL h (gF h r0 0) x3.toNatClampNeg) 16) ||| (lushr y1 48))) ||| ((lushr (gL h (gF h r0 0) x3.toNatClampNeg) 16) ||| (lshl w7 48)))) P)))))))) : Rr mX0_growOnce 0 0 4 [(0, .ref r0), (1, .long y1), (3, .int x3)] [] h P := by
  refine R_iload_n dX0_growOnce_4 rfl 2 rfl ?_
  refine R_iconst (v := 4) dX0_growOnce_5 (by decide) ?_
  refine R_icmp_ge (tgt := 108) dX0_growOnce_6 (by decide) (fun b1 => ?_) (fun b1 => ?_)
  · have hf := hf.1 b1
    exact R_ret dX0_growOnce_108 rfl hf
  · have hf := hf.2 b1
    refine R_aload_n dX0_growOnce_9 rfl 0 rfl ?_
    obtain ⟨ob2, hf⟩ := hf
    refine G0_0 dX0_growOnce_10 lfX0_11 ob2 ?_
    refine R_iload_n dX0_growOnce_13 rfl 2 rfl ?_
    obtain ⟨ob3, hf⟩ := hf
    obtain ⟨ob4, hf⟩ := hf
    refine R_laload dX0_growOnce_14 ob3 ob4 ?_
    refine R_lstore dX0_growOnce_15 (by decide) rfl ?_
    refine R_iload_n dX0_growOnce_17 rfl 3 rfl ?_
    refine R_iconst (v := 1) dX0_growOnce_18 (by decide) ?_
    refine R_iadd dX0_growOnce_19 ?_
    refine R_iconst (v := 4) dX0_growOnce_20 (by decide) ?_
    obtain ⟨ob6, hf⟩ := hf
    have key : ∀ w7 : Int64, w7 = (if 4 ≤ (x3 + 1) then 0 else (gL h (gF h r0 0) (x3 + 1).toNatClampNeg)) → Rr mX0_growOnce 0 0 36 [(0, .ref r0), (1, .long y1), (3, .int x3), (4, .long (gL h (gF h r0 0) x3.toNatClampNeg))] [.long w7] h P := by
      intro w7 ew7
      have hf := hf w7 ew7
      refine R_lstore dX0_growOnce_36 (by decide) rfl ?_
      refine R_lload dX0_growOnce_38 4 rfl ?_
      refine R_iconst (v := 1) dX0_growOnce_40 (by decide) ?_
      refine R_lshl dX0_growOnce_41 ?_
      refine R_ldc2 (v := (-281479271743490)) dX0_growOnce_42 lcX0_49 ?_
      refine R_land dX0_growOnce_45 ?_
      refine R_lload dX0_growOnce_46 4 rfl ?_
      refine R_iconst (v := 1) dX0_growOnce_48 (by decide) ?_
      refine R_lushr dX0_growOnce_49 ?_
      refine R_ldc2 (v := 9223231297218904063) dX0_growOnce_50 lcX0_51 ?_
      refine R_land dX0_growOnce_53 ?_
      refine R_lor dX0_growOnce_54 ?_
      refine R_topl (fun v8 ev8 => ?_)
      have hf := hf v8 ev8
      refine R_lstore dX0_growOnce_55 (by decide) rfl ?_
      refine R_lload dX0_growOnce_57 5 rfl ?_
      refine R_bipush (v := 16) dX0_growOnce_59 (by decide) ?_
      refine R_lshl dX0_growOnce_61 ?_
      refine R_lload_n dX0_growOnce_62 rfl 3 rfl ?_
      refine R_bipush (v := 48) dX0_growOnce_63 (by decide) ?_
      refine R_lushr dX0_growOnce_65 ?_
      refine R_lor dX0_growOnce_66 ?_
      refine R_lstore dX0_growOnce_67 (by decide) rfl ?_
      refine R_lload dX0_growOnce_69 6 rfl ?_
      refine R_bipush (v := 16) dX0_growOnce_71 (by decide) ?_
      refine R_lushr dX0_growOnce_73 ?_
      refine R_lload dX0_growOnce_74 2 rfl ?_
      refine R_bipush (v := 48) dX0_growOnce_76 (by decide) ?_
      refine R_lshl dX0_growOnce_78 ?_
      refine R_lor dX0_growOnce_79 ?_
      refine R_lstore dX0_growOnce_80 (by decide) rfl ?_
      refine R_aload_n dX0_growOnce_82 rfl 4 rfl ?_
      refine G0_0 dX0_growOnce_83 lfX0_11 ob2 ?_
      refine R_iload_n dX0_growOnce_86 rfl 6 rfl ?_
      refine R_lload dX0_growOnce_87 7 rfl ?_
      refine R_lload dX0_growOnce_89 2 rfl ?_
      refine R_lor dX0_growOnce_91 ?_
      refine R_lload dX0_growOnce_92 1 rfl ?_
      refine R_lor dX0_growOnce_94 ?_
      refine R_lload dX0_growOnce_95 0 rfl ?_
      refine R_lor dX0_growOnce_97 ?_
      refine R_lastore dX0_growOnce_98 ob3 ob4 ?_
      refine R_lload dX0_growOnce_99 7 rfl ?_
      refine R_lstore_n dX0_growOnce_101 rfl (by decide) rfl ?_
      refine R_iinc (v := x3 + 1) dX0_growOnce_102 6 rfl rfl (by decide) rfl ?_
      refine R_goto (tgt := 4) dX0_growOnce_105 (by decide) ?_
      exact R_sub [6, 1, 0] rfl hf
    refine R_icmp_ge (tgt := 35) dX0_growOnce_21 (by decide) (fun b5 => ?_) (fun b5 => ?_)
    · refine R_lconst (v := 0) dX0_growOnce_35 (by decide) ?_
      exact R_sub [1, 2, 3, 0] rfl (key _ (by rw [if_pos b5]))
    · refine R_aload_n dX0_growOnce_24 rfl 1 rfl ?_
      refine G0_0 dX0_growOnce_25 lfX0_11 ob2 ?_
      refine R_iload_n dX0_growOnce_28 rfl 3 rfl ?_
      refine R_iconst (v := 1) dX0_growOnce_29 (by decide) ?_
      refine R_iadd dX0_growOnce_30 ?_
      refine R_laload dX0_growOnce_31 ob3 (ob6 b5) ?_
      refine R_goto (tgt := 36) dX0_growOnce_32 (by decide) ?_
      exact R_sub [1, 2, 3, 0] rfl (key _ (by rw [if_neg b5]))
theorem dX0_invert_0 : decode cX0_invert 0 = .ok (.iconst 0, 1) := by decide +kernel
theorem dX0_invert_1 : decode cX0_invert 1 = .ok (.istore_n 1, 1) := by decide +kernel
theorem dX0_invert_2 : decode cX0_invert 2 = .ok (.iload_n 1, 1) := by decide +kernel
theorem dX0_invert_3 : decode cX0_invert 3 = .ok (.iconst 4, 1) := by decide +kernel
theorem dX0_invert_4 : decode cX0_invert 4 = .ok (.if_icmp .ge 25, 3) := by decide +kernel
theorem dX0_invert_7 : decode cX0_invert 7 = .ok (.aload_n 0, 1) := by decide +kernel
theorem dX0_invert_8 : decode cX0_invert 8 = .ok (.getfield 11, 3) := by decide +kernel
theorem dX0_invert_11 : decode cX0_invert 11 = .ok (.iload_n 1, 1) := by decide +kernel
theorem dX0_invert_12 : decode cX0_invert 12 = .ok (.aload_n 0, 1) := by decide +kernel
theorem dX0_invert_13 : decode cX0_invert 13 = .ok (.getfield 11, 3) := by decide +kernel
theorem dX0_invert_16 : decode cX0_invert 16 = .ok (.iload_n 1, 1) := by decide +kernel
theorem dX0_invert_17 : decode cX0_invert 17 = .ok (.laload, 1) := by decide +kernel
theorem dX0_invert_18 : decode cX0_invert 18 = .ok (.ldc2_w 47, 3) := by decide +kernel
theorem dX0_invert_21 : decode cX0_invert 21 = .ok (.lxor, 1) := by decide +kernel
theorem dX0_invert_22 : decode cX0_invert 22 = .ok (.lastore, 1) := by decide +kernel
theorem dX0_invert_23 : decode cX0_invert 23 = .ok (.iinc 1 1, 3) := by decide +kernel
theorem dX0_invert_26 : decode cX0_invert 26 = .ok (.goto (-24), 3) := by decide +kernel
theorem dX0_invert_29 : decode cX0_invert 29 = .ok (.return_, 1) := by decide +kernel
set_option maxRecDepth 20000 in
theorem sX0_invert_0 {P : Option Value → AH → Prop} (h : AH) (r0 : Nat) (hf : Rr mX0_invert 0 0 2 [(0, .ref r0), (1, .int 0)] [] h P) : Rr mX0_invert 0 0 0 [(0, .ref r0)] [] h P := by
  refine R_iconst (v := 0) dX0_invert_0 (by decide) ?_
  refine R_istore_n dX0_invert_1 rfl (by decide) rfl ?_
  exact R_sub [1, 0] rfl hf
set_option maxRecDepth 20000 in
theorem sX0_invert_2 {P : Option Value → AH → Prop} (h : AH) (r0 : Nat) (x1 : Int32) (hf : (4 ≤ x1 → P none h) ∧ (¬ 4 ≤ x1 → (isO h 0 r0) ∧ ((isA h 1 (gF h r0 0)) ∧ ((vp_in x1 (ln (gF h r0 0))) ∧ (Rr mX0_invert 0 0 2 [(0, .ref r0), (1, .int (x1 + 1))] [] (sL h (gF h r0 0) x1.toNatClampNeg ((gL h (gF h r0 0) x1.toNatClampNeg) ^^^ (-1))) P))))) : Rr mX0_invert 0 0 2 [(0, .ref r0), (1, .int x1)] [] h P := by
  refine R_iload_n dX0_invert_2 rfl 1 rfl ?_
  refine R_iconst (v := 4) dX0_invert_3 (by decide) ?_
  refine R_icmp_ge (tgt := 29) dX0_invert_4 (by decide) (fun b1 => ?_) (fun b1 => ?_)
  · have hf := hf.1 b1
    exact R_ret dX0_invert_29 rfl hf
  · have hf := hf.2 b1
    refine R_aload_n dX0_invert_7 rfl 0 rfl ?_
    obtain ⟨ob2, hf⟩ := hf
    refine G0_0 dX0_invert_8 lfX0_11 ob2 ?_
    refine R_iload_n dX0_invert_11 rfl 1 rfl ?_
    refine R_aload_n dX0_invert_12 rfl 0 rfl ?_
    refine G0_0 dX0_invert_13 lfX0_11 ob2 ?_
    refine R_iload_n dX0_invert_16 rfl 1 rfl ?_
    obtain ⟨ob3, hf⟩ := hf
    obtain ⟨ob4, hf⟩ := hf
    refine R_laload dX0_invert_17 ob3 ob4 ?_
    refine R_ldc2 (v := (-1)) dX0_invert_18 lcX0_47 ?_
    refine R_lxor dX0_invert_21 ?_
    refine R_lastore dX0_invert_22 ob3 ob4 ?_
    refine R_iinc (v := x1 + 1) dX0_invert_23 1 rfl rfl (by decide) rfl ?_
    refine R_goto (tgt := 2) dX0_invert_26 (by decide) ?_
    exact R_sub [1, 0] rfl hf
theorem dX0_isShift_0 : decode cX0_isShift 0 = .ok (.iload_n 0, 1) := by decide +kernel
theorem dX0_isShift_1 : decode cX0_isShift 1 = .ok (.bipush (-2), 2) := by decide +kernel
theorem dX0_isShift_3 : decode cX0_isShift 3 = .ok (.if_icmp .lt 12, 3) := by decide +kernel
theorem dX0_isShift_6 : decode cX0_isShift 6 = .ok (.iload_n 0, 1) := by decide +kernel
theorem dX0_isShift_7 : decode cX0_isShift 7 = .ok (.iconst 2, 1) := by decide +kernel
theorem dX0_isShift_8 : decode cX0_isShift 8 = .ok (.if_icmp .gt 7, 3) := by decide +kernel
theorem dX0_isShift_11 : decode cX0_isShift 11 = .ok (.iconst 1, 1) := by decide +kernel
theorem dX0_isShift_12 : decode cX0_isShift 12 = .ok (.goto 4, 3) := by decide +kernel
theorem dX0_isShift_15 : decode cX0_isShift 15 = .ok (.iconst 0, 1) := by decide +kernel
theorem dX0_isShift_16 : decode cX0_isShift 16 = .ok (.ireturn, 1) := by decide +kernel
set_option maxRecDepth 20000 in
theorem sX0_isShift_0 {P : Option Value → AH → Prop} (h : AH) (x0 : Int32) (hf : P (some (.int (bi (¬ x0 < (-2) ∧ ¬ 2 < x0)))) h) : Rr mX0_isShift 0 0 0 [(0, .int x0)] [] h P := by
  refine R_iload_n dX0_isShift_0 rfl 0 rfl ?_
  refine R_bipush (v := (-2)) dX0_isShift_1 (by decide) ?_
  have key :  Rr mX0_isShift 0 0 16 [] [.int (bi (¬ x0 < (-2) ∧ ¬ 2 < x0))] h P := by
    exact R_iret dX0_isShift_16 rfl (nb_n (bi_01 _)) hf
  refine R_icmp_lt (tgt := 15) dX0_isShift_3 (by decide) (fun b1 => ?_) (fun b1 => ?_)
  · refine R_iconst (v := 0) dX0_isShift_15 (by decide) ?_
    have kb := key
    rw [show bi (¬ x0 < (-2) ∧ ¬ 2 < x0) = 0 from by simp only [bi, b1, false_and, and_false, true_and, and_true, not_true_eq_false, not_false_eq_true, if_true, if_false, true_or, or_true, false_or, or_false, reduceIte]] at kb
    exact R_sub [] rfl kb
  · refine R_iload_n dX0_isShift_6 rfl 0 rfl ?_
    refine R_iconst (v := 2) dX0_isShift_7 (by decide) ?_
    refine R_icmp_gt (tgt := 15) dX0_isShift_8 (by decide) (fun b2 => ?_) (fun b2 => ?_)
    · refine R_iconst (v := 0) dX0_isShift_15 (by decide) ?_
      have kb := key
      rw [show bi (¬ x0 < (-2) ∧ ¬ 2 < x0) = 0 from by simp only [bi, b1, b2, false_and, and_false, true_and, and_true, not_true_eq_false, not_false_eq_true, if_true, if_false, true_or, or_true, false_or, or_false, reduceIte]] at kb
      exact R_sub [] rfl kb
    · refine R_iconst (v := 1) dX0_isShift_11 (by decide) ?_
      refine R_goto (tgt := 16) dX0_isShift_12 (by decide) ?_
      have kb := key
      rw [show bi (¬ x0 < (-2) ∧ ¬ 2 < x0) = 1 from by simp only [bi, b1, b2, false_and, and_false, true_and, and_true, not_true_eq_false, not_false_eq_true, if_true, if_false, true_or, or_true, false_or, or_false, reduceIte]] at kb
      exact R_sub [] rfl kb
theorem aX0_isShift {h : AH} {P : Option Value → AH → Prop} {x0 : Int32}  (k : P (some (.int (bi (¬ x0 < (-2) ∧ ¬ 2 < x0)))) h) : Call mX0_isShift [.int x0] h P :=
  Call.ofR (by decide +kernel) (Nat.le_of_ble_eq_true rfl) (sX0_isShift_0 h x0 (k))
theorem dX0_moveAcross_0 : decode cX0_moveAcross 0 = .ok (.iconst 0, 1) := by decide +kernel
theorem dX0_moveAcross_1 : decode cX0_moveAcross 1 = .ok (.istore_n 2, 1) := by decide +kernel
theorem dX0_moveAcross_2 : decode cX0_moveAcross 2 = .ok (.iload_n 2, 1) := by decide +kernel
theorem dX0_moveAcross_3 : decode cX0_moveAcross 3 = .ok (.iconst 4, 1) := by decide +kernel
theorem dX0_moveAcross_4 : decode cX0_moveAcross 4 = .ok (.if_icmp .ge 72, 3) := by decide +kernel
theorem dX0_moveAcross_7 : decode cX0_moveAcross 7 = .ok (.iconst 0, 1) := by decide +kernel
theorem dX0_moveAcross_8 : decode cX0_moveAcross 8 = .ok (.istore_n 3, 1) := by decide +kernel
theorem dX0_moveAcross_9 : decode cX0_moveAcross 9 = .ok (.iload_n 3, 1) := by decide +kernel
theorem dX0_moveAcross_10 : decode cX0_moveAcross 10 = .ok (.iload_n 1, 1) := by decide +kernel
theorem dX0_moveAcross_11 : decode cX0_moveAcross 11 = .ok (.if_icmp .ge 27, 3) := by decide +kernel
theorem dX0_moveAcross_14 : decode cX0_moveAcross 14 = .ok (.aload_n 0, 1) := by decide +kernel
theorem dX0_moveAcross_15 : decode cX0_moveAcross 15 = .ok (.getfield 11, 3) := by decide +kernel
theorem dX0_moveAcross_18 : decode cX0_moveAcross 18 = .ok (.iload_n 2, 1) := by decide +kernel
theorem dX0_moveAcross_19 : decode cX0_moveAcross 19 = .ok (.aload_n 0, 1) := by decide +kernel
theorem dX0_moveAcross_20 : decode cX0_moveAcross 20 = .ok (.getfield 11, 3) := by decide +kernel
theorem dX0_moveAcross_23 : decode cX0_moveAcross 23 = .ok (.iload_n 2, 1) := by decide +kernel
theorem dX0_moveAcross_24 : decode cX0_moveAcross 24 = .ok (.laload, 1) := by decide +kernel
theorem dX0_moveAcross_25 : decode cX0_moveAcross 25 = .ok (.iconst 1, 1) := by decide +kernel
theorem dX0_moveAcross_26 : decode cX0_moveAcross 26 = .ok (.lshl, 1) := by decide +kernel
theorem dX0_moveAcross_27 : decode cX0_moveAcross 27 = .ok (.ldc2_w 49, 3) := by decide +kernel
theorem dX0_moveAcross_30 : decode cX0_moveAcross 30 = .ok (.land, 1) := by decide +kernel
theorem dX0_moveAcross_31 : decode cX0_moveAcross 31 = .ok (.lastore, 1) := by decide +kernel
theorem dX0_moveAcross_32 : decode cX0_moveAcross 32 = .ok (.iinc 3 1, 3) := by decide +kernel
theorem dX0_moveAcross_35 : decode cX0_moveAcross 35 = .ok (.goto (-26), 3) := by decide +kernel
theorem dX0_moveAcross_38 : decode cX0_moveAcross 38 = .ok (.iconst 0, 1) := by decide +kernel
theorem dX0_moveAcross_39 : decode cX0_moveAcross 39 = .ok (.istore_n 3, 1) := by decide +kernel
theorem dX0_moveAcross_40 : decode cX0_moveAcross 40 = .ok (.iload_n 3, 1) := by decide +kernel
theorem dX0_moveAcross_41 : decode cX0_moveAcross 41 = .ok (.iload_n 1, 1) := by decide +kernel
theorem dX0_moveAcross_42 : decode cX0_moveAcross 42 = .ok (.ineg, 1) := by decide +kernel
theorem dX0_moveAcross_43 : decode cX0_moveAcross 43 = .ok (.if_icmp .ge 27, 3) := by decide +kernel
theorem dX0_moveAcross_46 : decode cX0_moveAcross 46 = .ok (.aload_n 0, 1) := by decide +kernel
theorem dX0_moveAcross_47 : decode cX0_moveAcross 47 = .ok (.getfield 11, 3) := by decide +kernel
theorem dX0_moveAcross_50 : decode cX0_moveAcross 50 = .ok (.iload_n 2, 1) := by decide +kernel
theorem dX0_moveAcross_51 : decode cX0_moveAcross 51 = .ok (.aload_n 0, 1) := by decide +kernel
theorem dX0_moveAcross_52 : decode cX0_moveAcross 52 = .ok (.getfield 11, 3) := by decide +kernel
theorem dX0_moveAcross_55 : decode cX0_moveAcross 55 = .ok (.iload_n 2, 1) := by decide +kernel
theorem dX0_moveAcross_56 : decode cX0_moveAcross 56 = .ok (.laload, 1) := by decide +kernel
theorem dX0_moveAcross_57 : decode cX0_moveAcross 57 = .ok (.iconst 1, 1) := by decide +kernel
theorem dX0_moveAcross_58 : decode cX0_moveAcross 58 = .ok (.lushr, 1) := by decide +kernel
theorem dX0_moveAcross_59 : decode cX0_moveAcross 59 = .ok (.ldc2_w 51, 3) := by decide +kernel
theorem dX0_moveAcross_62 : decode cX0_moveAcross 62 = .ok (.land, 1) := by decide +kernel
theorem dX0_moveAcross_63 : decode cX0_moveAcross 63 = .ok (.lastore, 1) := by decide +kernel
theorem dX0_moveAcross_64 : decode cX0_moveAcross 64 = .ok (.iinc 3 1, 3) := by decide +kernel
theorem dX0_moveAcross_67 : decode cX0_moveAcross 67 = .ok (.goto (-27), 3) := by decide +kernel
theorem dX0_moveAcross_70 : decode cX0_moveAcross 70 = .ok (.iinc 2 1, 3) := by decide +kernel
theorem dX0_moveAcross_73 : decode cX0_moveAcross 73 = .ok (.goto (-71), 3) := by decide +kernel
theorem dX0_moveAcross_76 : decode cX0_moveAcross 76 = .ok (.return_, 1) := by decide +kernel
set_option maxRecDepth 20000 in
theorem sX0_moveAcross_0 {P : Option Value → AH → Prop} (h : AH) (r0 : Nat) (x1 : Int32) (hf : Rr mX0_moveAcross 0 0 2 [(0, .ref r0), (1, .int x1), (2, .int 0)] [] h P) : Rr mX0_moveAcross 0 0 0 [(0, .ref r0), (1, .int x1)] [] h P := by
  refine R_iconst (v := 0) dX0_moveAcross_0 (by decide) ?_
  refine R_istore_n dX0_moveAcross_1 rfl (by decide) rfl ?_
  exact R_sub [1, 2, 0] rfl hf
set_option maxRecDepth 20000 in
theorem sX0_moveAcross_2 {P : Option Value → AH → Prop} (h : AH) (r0 : Nat) (x1 : Int32) (x2 : Int32) (hf : (4 ≤ x2 → P none h) ∧ (¬ 4 ≤ x2 → Rr mX0_moveAcross 0 0 9 [(0, .ref r0), (1, .int x1), (2, .int x2), (3, .int 0)] [] h P)) : Rr mX0_moveAcross 0 0 2 [(0, .ref r0), (1, .int x1), (2, .int x2)] [] h P := by
  refine R_iload_n dX0_moveAcross_2 rfl 2 rfl ?_
  refine R_iconst (v := 4) dX0_moveAcross_3 (by decide) ?_
  refine R_icmp_ge (tgt := 76) dX0_moveAcross_4 (by decide) (fun b1 => ?_) (fun b1 => ?_)
  · have hf := hf.1 b1
    exact R_ret dX0_moveAcross_76 rfl hf
  · have hf := hf.2 b1
    refine R_iconst (v := 0) dX0_moveAcross_7 (by decide) ?_
    refine R_istore_n dX0_moveAcross_8 rfl (by decide) rfl ?_
    exact R_sub [1, 2, 3, 0] rfl hf
set_option maxRecDepth 20000 in
theorem sX0_moveAcross_9 {P : Option Value → AH → Prop} (h : AH) (r0 : Nat) (x1 : Int32) (x2 : Int32) (x3 : Int32) (hf : (x1 ≤ x3 → Rr mX0_moveAcross 0 0 40 [(0, .ref r0), (1, .int x1), (2, .int x2), (3, .int 0)] [] h P) ∧ (¬ x1 ≤ x3 → (isO h 0 r0) ∧ ((isA h 1 (gF h r0 0)) ∧ ((vp_in x2 (ln (gF h r0 0))) ∧ (Rr mX0_moveAcross 0 0 9 [(0, .ref r0), (1, .int x1), (2, .int x2), (3, .int (x3 + 1))] [] (sL h (gF h r0 0) x2.toNatClampNeg ((lshl (gL h (gF h r0 0) x2.toNatClampNeg) 1) &&& (-281479271743490))) P))))) : Rr mX0_moveAcross 0 0 9 [(0, .ref r0), (1, .int x1), (2, .int x2), (3, .int x3)] [] h P := by
  refine R_iload_n dX0_moveAcross_9 rfl 3 rfl ?_
  refine R_iload_n dX0_moveAcross_10 rfl 1 rfl ?_
  refine R_icmp_ge (tgt := 38) dX0_moveAcross_11 (by decide) (fun b1 => ?_) (fun b1 => ?_)
  · have hf := hf.1 b1
    refine R_iconst (v := 0) dX0_moveAcross_38 (by decide) ?_
    refine R_istore_n dX0_moveAcross_39 rfl (by decide) rfl ?_
    exact R_sub [1, 2, 3, 0] rfl hf
  · have hf := hf.2 b1
    refine R_aload_n dX0_moveAcross_14 rfl 0 rfl ?_
    obtain ⟨ob2, hf⟩ := hf
    refine G0_0 dX0_moveAcross_15 lfX0_11 ob2 ?_
    refine R_iload_n dX0_moveAcross_18 rfl 2 rfl ?_
    refine R_aload_n dX0_moveAcross_19 rfl 0 rfl ?_
    refine G0_0 dX0_moveAcross_20 lfX0_11 ob2 ?_
    refine R_iload_n dX0_moveAcross_23 rfl 2 rfl ?_
    obtain ⟨ob3, hf⟩ := hf
    obtain ⟨ob4, hf⟩ := hf
    refine R_laload dX0_moveAcross_24 ob3 ob4 ?_
    refine R_iconst (v := 1) dX0_moveAcross_25 (by decide) ?_
    refine R_lshl dX0_moveAcross_26 ?_
    refine R_ldc2 (v := (-281479271743490)) dX0_moveAcross_27 lcX0_49 ?_
    refine R_land dX0_moveAcross_30 ?_
    refine R_lastore dX0_moveAcross_31 ob3 ob4 ?_
    refine R_iinc (v := x3 + 1) dX0_moveAcross_32 3 rfl rfl (by decide) rfl ?_
    refine R_goto (tgt := 9) dX0_moveAcross_35 (by decide) ?_
    exact R_sub [1, 2, 3, 0] rfl hf
set_option maxRecDepth 20000 in
theorem sX0_moveAcross_40 {P : Option Value → AH → Prop} (h : AH) (r0 : Nat) (x1 : Int32) (x2 : Int32) (x3 : Int32) (hf : ((-x1) ≤ x3 → Rr mX0_moveAcross 0 0 2 [(0, .ref r0), (1, .int x1), (2, .int (x2 + 1))] [] h P) ∧ (¬ (-x1) ≤ x3 → (isO h 0 r0) ∧ ((isA h 1 (gF h r0 0)) ∧ ((vp_in x2 (ln (gF h r0 0))) ∧ (Rr mX0_moveAcross 0 0 40 [(0, .ref r0), (1, .int x1), (2, .int x2), (3, .int (x3 + 1))] [] (sL h (gF h r0 0) x2.toNatClampNeg ((lushr (gL h (gF h r0 0) x2.toNatClampNeg) 1) &&& 9223231297218904063)) P))))) : Rr mX0_moveAcross 0 0 40 [(0, .ref r0), (1, .int x1), (2, .int x2), (3, .int x3)] [] h P := by
  refine R_iload_n dX0_moveAcross_40 rfl 3 rfl ?_
  refine R_iload_n dX0_moveAcross_41 rfl 1 rfl ?_
  refine R_ineg dX0_moveAcross_42 ?_
  refine R_icmp_ge (tgt := 70) dX0_moveAcross_43 (by decide) (fun b1 => ?_) (fun b1 => ?_)
  · have hf := hf.1 b1
    refine R_iinc (v := x2 + 1) dX0_moveAcross_70 2 rfl rfl (by decide) rfl ?_
    refine R_goto (tgt := 2) dX0_moveAcross_73 (by decide) ?_
    exact R_sub [1, 2, 0] rfl hf
  · have hf := hf.2 b1
    refine R_aload_n dX0_moveAcross_46 rfl 0 rfl ?_
    obtain ⟨ob2, hf⟩ := hf
    refine G0_0 dX0_moveAcross_47 lfX0_11 ob2 ?_
    refine R_iload_n dX0_moveAcross_50 rfl 2 rfl ?_
    refine R_aload_n dX0_moveAcross_51 rfl 0 rfl ?_
    refine G0_0 dX0_moveAcross_52 lfX0_11 ob2 ?_
    refine R_iload_n dX0_moveAcross_55 rfl 2 rfl ?_
    obtain ⟨ob3, hf⟩ := hf
    obtain ⟨ob4, hf⟩ := hf
    refine R_laload dX0_moveAcross_56 ob3 ob4 ?_
    refine R_iconst (v := 1) dX0_moveAcross_57 (by decide) ?_
    refine R_lushr dX0_moveAcross_58 ?_
    refine R_ldc2 (v := 9223231297218904063) dX0_moveAcross_59 lcX0_51 ?_
    refine R_land dX0_moveAcross_62 ?_
    refine R_lastore dX0_moveAcross_63 ob3 ob4 ?_
    refine R_iinc (v := x3 + 1) dX0_moveAcross_64 3 rfl rfl (by decide) rfl ?_
    refine R_goto (tgt := 40) dX0_moveAcross_67 (by decide) ?_
    exact R_sub [1, 2, 3, 0] rfl hf
theorem dX0_moveDownOnce_0 : decode cX0_moveDownOnce 0 = .ok (.iconst 0, 1) := by decide +kernel
theorem dX0_moveDownOnce_1 : decode cX0_moveDownOnce 1 = .ok (.istore_n 1, 1) := by decide +kernel
theorem dX0_moveDownOnce_2 : decode cX0_moveDownOnce 2 = .ok (.iload_n 1, 1) := by decide +kernel
theorem dX0_moveDownOnce_3 : decode cX0_moveDownOnce 3 = .ok (.iconst 3, 1) := by decide +kernel
theorem dX0_moveDownOnce_4 : decode cX0_moveDownOnce 4 = .ok (.if_icmp .ge 36, 3) := by decide +kernel
theorem dX0_moveDownOnce_7 : decode cX0_moveDownOnce 7 = .ok (.aload_n 0, 1) := by decide +kernel
theorem dX0_moveDownOnce_8 : decode cX0_moveDownOnce 8 = .ok (.getfield 11, 3) := by decide +kernel
theorem dX0_moveDownOnce_11 : decode cX0_moveDownOnce 11 = .ok (.iload_n 1, 1) := by decide +kernel
theorem dX0_moveDownOnce_12 : decode cX0_moveDownOnce 12 = .ok (.aload_n 0, 1) := by decide +kernel
theorem dX0_moveDownOnce_13 : decode cX0_moveDownOnce 13 = .ok (.getfield 11, 3) := by decide +kernel
theorem dX0_moveDownOnce_16 : decode cX0_moveDownOnce 16 = .ok (.iload_n 1, 1) := by decide +kernel
theorem dX0_moveDownOnce_17 : decode cX0_moveDownOnce 17 = .ok (.laload, 1) := by decide +kernel
theorem dX0_moveDownOnce_18 : decode cX0_moveDownOnce 18 = .ok (.bipush 16, 2) := by decide +kernel
theorem dX0_moveDownOnce_20 : decode cX0_moveDownOnce 20 = .ok (.lushr, 1) := by decide +kernel
theorem dX0_moveDownOnce_21 : decode cX0_moveDownOnce 21 = .ok (.aload_n 0, 1) := by decide +kernel
theorem dX0_moveDownOnce_22 : decode cX0_moveDownOnce 22 = .ok (.getfield 11, 3) := by decide +kernel
theorem dX0_moveDownOnce_25 : decode cX0_moveDownOnce 25 = .ok (.iload_n 1, 1) := by decide +kernel
theorem dX0_moveDownOnce_26 : decode cX0_moveDownOnce 26 = .ok (.iconst 1, 1) := by decide +kernel
theorem dX0_moveDownOnce_27 : decode cX0_moveDownOnce 27 = .ok (.iadd, 1) := by decide +kernel
theorem dX0_moveDownOnce_28 : decode cX0_moveDownOnce 28 = .ok (.laload, 1) := by decide +kernel
theorem dX0_moveDownOnce_29 : decode cX0_moveDownOnce 29 = .ok (.bipush 48, 2) := by decide +kernel
theorem dX0_moveDownOnce_31 : decode cX0_moveDownOnce 31 = .ok (.lshl, 1) := by decide +kernel
theorem dX0_moveDownOnce_32 : decode cX0_moveDownOnce 32 = .ok (.lor, 1) := by decide +kernel
theorem dX0_moveDownOnce_33 : decode cX0_moveDownOnce 33 = .ok (.lastore, 1) := by decide +kernel
theorem dX0_moveDownOnce_34 : decode cX0_moveDownOnce 34 = .ok (.iinc 1 1, 3) := by decide +kernel
theorem dX0_moveDownOnce_37 : decode cX0_moveDownOnce 37 = .ok (.goto (-35), 3) := by decide +kernel
theorem dX0_moveDownOnce_40 : decode cX0_moveDownOnce 40 = .ok (.aload_n 0, 1) := by decide +kernel
theorem dX0_moveDownOnce_41 : decode cX0_moveDownOnce 41 = .ok (.getfield 11, 3) := by decide +kernel
theorem dX0_moveDownOnce_44 : decode cX0_moveDownOnce 44 = .ok (.iconst 3, 1) := by decide +kernel
theorem dX0_moveDownOnce_45 : decode cX0_moveDownOnce 45 = .ok (.dup2, 1) := by decide +kernel
theorem dX0_moveDownOnce_46 : decode cX0_moveDownOnce 46 = .ok (.laload, 1) := by decide +kernel
theorem dX0_moveDownOnce_47 : decode cX0_moveDownOnce 47 = .ok (.bipush 16, 2) := by decide +kernel
theorem dX0_moveDownOnce_49 : decode cX0_moveDownOnce 49 = .ok (.lushr, 1) := by decide +kernel
theorem dX0_moveDownOnce_50 : decode cX0_moveDownOnce 50 = .ok (.lastore, 1) := by decide +kernel
theorem dX0_moveDownOnce_51 : decode cX0_moveDownOnce 51 = .ok (.return_, 1) := by decide +kernel
set_option maxRecDepth 20000 in
theorem sX0_moveDownOnce_0 {P : Option Value → AH → Prop} (h : AH) (r0 : Nat) (hf : Rr mX0_moveDownOnce 0 0 2 [(0, .ref r0), (1, .int 0)] [] h P) : Rr mX0_moveDownOnce 0 0 0 [(0, .ref r0)] [] h P := by
  refine R_iconst (v := 0) dX0_moveDownOnce_0 (by decide) ?_
  refine R_istore_n dX0_moveDownOnce_1 rfl (by decide) rfl ?_
  exact R_sub [1, 0] rfl hf
set_option maxRecDepth 20000 in
theorem sX0_moveDownOnce_2 {P : Option Value → AH → Prop} (h : AH) (r0 : Nat) (x1 : Int32) (hf : (3 ≤ x1 → (isO h 0 r0) ∧ ((isA h 1 (gF h r0 0)) ∧ ((vp_in 3 (ln (gF h r0 0))) ∧ (P none (sL h (gF h r0 0) (Int32.toNatClampNeg 3) (lushr (gL h (gF h r0 0) (Int32.toNatClampNeg 3)) 16)))))) ∧ (¬ 3 ≤ x1 → (isO h 0 r0) ∧ ((isA h 1 (gF h r0 0)) ∧ ((vp_in x1 (ln (gF h r0 0))) ∧ ((vp_in (x1 + 1) (ln (gF h r0 0))) ∧ (Rr mX0_moveDownOnce 0 0 2 [(0, .ref r0), (1, .int (x1 + 1))] [] (sL h (gF h r0 0) x1.toNatClampNeg ((lushr (gL h (gF h r0 0) x1.toNatClampNeg) 16) ||| (lshl (gL h (gF h r0 0) (x1 + 1).toNatClampNeg) 48))) P)))))) : Rr mX0_moveDownOnce 0 0 2 [(0, .ref r0), (1, .int x1)] [] h P := by
  refine R_iload_n dX0_moveDownOnce_2 rfl 1 rfl ?_
  refine R_iconst (v := 3) dX0_moveDownOnce_3 (by decide) ?_
  refine R_icmp_ge (tgt := 40) dX0_moveDownOnce_4 (by decide) (fun b1 => ?_) (fun b1 => ?_)
  · have hf := hf.1 b1
    refine R_aload_n dX0_moveDownOnce_40 rfl 0 rfl ?_
    obtain ⟨ob2, hf⟩ := hf
    refine G0_0 dX0_moveDownOnce_41 lfX0_11 ob2 ?_
    refine R_iconst (v := 3) dX0_moveDownOnce_44 (by decide) ?_
    refine R_dup2 dX0_moveDownOnce_45 rfl rfl ?_
    obtain ⟨ob3, hf⟩ := hf
    obtain ⟨ob4, hf⟩ := hf
    refine R_laload dX0_moveDownOnce_46 ob3 ob4 ?_
    refine R_bipush (v := 16) dX0_moveDownOnce_47 (by decide) ?_
    refine R_lushr dX0_moveDownOnce_49 ?_
    refine R_lastore dX0_moveDownOnce_50 ob3 ob4 ?_
    exact R_ret dX0_moveDownOnce_51 rfl hf
  · have hf := hf.2 b1
    refine R_aload_n dX0_moveDownOnce_7 rfl 0 rfl ?_
    obtain ⟨ob5, hf⟩ := hf
    refine G0_0 dX0_moveDownOnce_8 lfX0_11 ob5 ?_
    refine R_iload_n dX0_moveDownOnce_11 rfl 1 rfl ?_
    refine R_aload_n dX0_moveDownOnce_12 rfl 0 rfl ?_
    refine G0_0 dX0_moveDownOnce_13 lfX0_11 ob5 ?_
    refine R_iload_n dX0_moveDownOnce_16 rfl 1 rfl ?_
    obtain ⟨ob6, hf⟩ := hf
    obtain ⟨ob7, hf⟩ := hf
    refine R_laload dX0_moveDownOnce_17 ob6 ob7 ?_
    refine R_bipush (v := 16) dX0_moveDownOnce_18 (by decide) ?_
    refine R_lushr dX0_moveDownOnce_20 ?_
    refine R_aload_n dX0_moveDownOnce_21 rfl 0 rfl ?_
    refine G0_0 dX0_moveDownOnce_22 lfX0_11 ob5 ?_
    refine R_iload_n dX0_moveDownOnce_25 rfl 1 rfl ?_
    refine R_iconst (v := 1) dX0_moveDownOnce_26 (by decide) ?_
    refine R_iadd dX0_moveDownOnce_27 ?_
    obtain ⟨ob8, hf⟩ := hf
    refine R_laload dX0_moveDownOnce_28 ob6 ob8 ?_
    refine R_bipush (v := 48) dX0_moveDownOnce_29 (by decide) ?_
    refine R_lshl dX0_moveDownOnce_31 ?_
    refine R_lor dX0_moveDownOnce_32 ?_
    refine R_lastore dX0_moveDownOnce_33 ob6 ob7 ?_
    refine R_iinc (v := x1 + 1) dX0_moveDownOnce_34 1 rfl rfl (by decide) rfl ?_
    refine R_goto (tgt := 2) dX0_moveDownOnce_37 (by decide) ?_
    exact R_sub [1, 0] rfl hf
theorem dX0_moveUpOnce_0 : decode cX0_moveUpOnce 0 = .ok (.iconst 3, 1) := by decide +kernel
theorem dX0_moveUpOnce_1 : decode cX0_moveUpOnce 1 = .ok (.istore_n 1, 1) := by decide +kernel
theorem dX0_moveUpOnce_2 : decode cX0_moveUpOnce 2 = .ok (.iload_n 1, 1) := by decide +kernel
theorem dX0_moveUpOnce_3 : decode cX0_moveUpOnce 3 = .ok (.ifCond .le 36, 3) := by decide +kernel
theorem dX0_moveUpOnce_6 : decode cX0_moveUpOnce 6 = .ok (.aload_n 0, 1) := by decide +kernel
theorem dX0_moveUpOnce_7 : decode cX0_moveUpOnce 7 = .ok (.getfield 11, 3) := by decide +kernel
theorem dX0_moveUpOnce_10 : decode cX0_moveUpOnce 10 = .ok (.iload_n 1, 1) := by decide +kernel
theorem dX0_moveUpOnce_11 : decode cX0_moveUpOnce 11 = .ok (.aload_n 0, 1) := by decide +kernel
theorem dX0_moveUpOnce_12 : decode cX0_moveUpOnce 12 = .ok (.getfield 11, 3) := by decide +kernel
theorem dX0_moveUpOnce_15 : decode cX0_moveUpOnce 15 = .ok (.iload_n 1, 1) := by decide +kernel
theorem dX0_moveUpOnce_16 : decode cX0_moveUpOnce 16 = .ok (.laload, 1) := by decide +kernel
theorem dX0_moveUpOnce_17 : decode cX0_moveUpOnce 17 = .ok (.bipush 16, 2) := by decide +kernel
theorem dX0_moveUpOnce_19 : decode cX0_moveUpOnce 19 = .ok (.lshl, 1) := by decide +kernel
theorem dX0_moveUpOnce_20 : decode cX0_moveUpOnce 20 = .ok (.aload_n 0, 1) := by decide +kernel
theorem dX0_moveUpOnce_21 : decode cX0_moveUpOnce 21 = .ok (.getfield 11, 3) := by decide +kernel
theorem dX0_moveUpOnce_24 : decode cX0_moveUpOnce 24 = .ok (.iload_n 1, 1) := by decide +kernel
theorem dX0_moveUpOnce_25 : decode cX0_moveUpOnce 25 = .ok (.iconst 1, 1) := by decide +kernel
theorem dX0_moveUpOnce_26 : decode cX0_moveUpOnce 26 = .ok (.isub, 1) := by decide +kernel
theorem dX0_moveUpOnce_27 : decode cX0_moveUpOnce 27 = .ok (.laload, 1) := by decide +kernel
theorem dX0_moveUpOnce_28 : decode cX0_moveUpOnce 28 = .ok (.bipush 48, 2) := by decide +kernel
theorem dX0_moveUpOnce_30 : decode cX0_moveUpOnce 30 = .ok (.lushr, 1) := by decide +kernel
theorem dX0_moveUpOnce_31 : decode cX0_moveUpOnce 31 = .ok (.lor, 1) := by decide +kernel
theorem dX0_moveUpOnce_32 : decode cX0_moveUpOnce 32 = .ok (.lastore, 1) := by decide +kernel
theorem dX0_moveUpOnce_33 : decode cX0_moveUpOnce 33 = .ok (.iinc 1 (-1), 3) := by decide +kernel
theorem dX0_moveUpOnce_36 : decode cX0_moveUpOnce 36 = .ok (.goto (-34), 3) := by decide +kernel
theorem dX0_moveUpOnce_39 : decode cX0_moveUpOnce 39 = .ok (.aload_n 0, 1) := by decide +kernel
theorem dX0_moveUpOnce_40 : decode cX0_moveUpOnce 40 = .ok (.getfield 11, 3) := by decide +kernel
theorem dX0_moveUpOnce_43 : decode cX0_moveUpOnce 43 = .ok (.iconst 0, 1) := by decide +kernel
theorem dX0_moveUpOnce_44 : decode cX0_moveUpOnce 44 = .ok (.dup2, 1) := by decide +kernel
theorem dX0_moveUpOnce_45 : decode cX0_moveUpOnce 45 = .ok (.laload, 1) := by decide +kernel
theorem dX0_moveUpOnce_46 : decode cX0_moveUpOnce 46 = .ok (.bipush 16, 2) := by decide +kernel
theorem dX0_moveUpOnce_48 : decode cX0_moveUpOnce 48 = .ok (.lshl, 1) := by decide +kernel
theorem dX0_moveUpOnce_49 : decode cX0_moveUpOnce 49 = .ok (.lastore, 1) := by decide +kernel
theorem dX0_moveUpOnce_50 : decode cX0_moveUpOnce 50 = .ok (.return_, 1) := by decide +kernel
set_option maxRecDepth 20000 in
theorem sX0_moveUpOnce_0 {P : Option Value → AH → Prop} (h : AH) (r0 : Nat) (hf : Rr mX0_moveUpOnce 0 0 2 [(0, .ref r0), (1, .int 3)] [] h P) : Rr mX0_moveUpOnce 0 0 0 [(0, .ref r0)] [] h P := by
  refine R_iconst (v := 3) dX0_moveUpOnce_0 (by decide) ?_
  refine R_istore_n dX0_moveUpOnce_1 rfl (by decide) rfl ?_
  exact R_sub [1, 0] rfl hf
set_option maxRecDepth 20000 in
theorem sX0_moveUpOnce_2 {P : Option Value → AH → Prop} (h : AH) (r0 : Nat) (x1 : Int32) (hf : (x1 ≤ 0 → (isO h 0 r0) ∧ ((isA h 1 (gF h r0 0)) ∧ ((vp_in 0 (ln (gF h r0 0))) ∧ (P none (sL h (gF h r0 0) (Int32.toNatClampNeg 0) (lshl (gL h (gF h r0 0) (Int32.toNatClampNeg 0)) 16)))))) ∧ (¬ x1 ≤ 0 → (isO h 0 r0) ∧ ((isA h 1 (gF h r0 0)) ∧ ((vp_in x1 (ln (gF h r0 0))) ∧ ((vp_in (x1 - 1) (ln (gF h r0 0))) ∧ (Rr mX0_moveUpOnce 0 0 2 [(0, .ref r0), (1, .int (x1 + (-1)))] [] (sL h (gF h r0 0) x1.toNatClampNeg ((lshl (gL h (gF h r0 0) x1.toNatClampNeg) 16) ||| (lushr (gL h (gF h r0 0) (x1 - 1).toNatClampNeg) 48))) P)))))) : Rr mX0_moveUpOnce 0 0 2 [(0, .ref r0), (1, .int x1)] [] h P := by
  refine R_iload_n dX0_moveUpOnce_2 rfl 1 rfl ?_
  refine R_if_le (tgt := 39) dX0_moveUpOnce_3 (by decide) (fun b1 => ?_) (fun b1 => ?_)
  · have hf := hf.1 b1
    refine R_aload_n dX0_moveUpOnce_39 rfl 0 rfl ?_
    obtain ⟨ob2, hf⟩ := hf
    refine G0_0 dX0_moveUpOnce_40 lfX0_11 ob2 ?_
    refine R_iconst (v := 0) dX0_moveUpOnce_43 (by decide) ?_
    refine R_dup2 dX0_moveUpOnce_44 rfl rfl ?_
    obtain ⟨ob3, hf⟩ := hf
    obtain ⟨ob4, hf⟩ := hf
    refine R_laload dX0_moveUpOnce_45 ob3 ob4 ?_
    refine R_bipush (v := 16) dX0_moveUpOnce_46 (by decide) ?_
    refine R_lshl dX0_moveUpOnce_48 ?_
    refine R_lastore dX0_moveUpOnce_49 ob3 ob4 ?_
    exact R_ret dX0_moveUpOnce_50 rfl hf
  · have hf := hf.2 b1
    refine R_aload_n dX0_moveUpOnce_6 rfl 0 rfl ?_
    obtain ⟨ob5, hf⟩ := hf
    refine G0_0 dX0_moveUpOnce_7 lfX0_11 ob5 ?_
    refine R_iload_n dX0_moveUpOnce_10 rfl 1 rfl ?_
    refine R_aload_n dX0_moveUpOnce_11 rfl 0 rfl ?_
    refine G0_0 dX0_moveUpOnce_12 lfX0_11 ob5 ?_
    refine R_iload_n dX0_moveUpOnce_15 rfl 1 rfl ?_
    obtain ⟨ob6, hf⟩ := hf
    obtain ⟨ob7, hf⟩ := hf
    refine R_laload dX0_moveUpOnce_16 ob6 ob7 ?_
    refine R_bipush (v := 16) dX0_moveUpOnce_17 (by decide) ?_
    refine R_lshl dX0_moveUpOnce_19 ?_
    refine R_aload_n dX0_moveUpOnce_20 rfl 0 rfl ?_
    refine G0_0 dX0_moveUpOnce_21 lfX0_11 ob5 ?_
    refine R_iload_n dX0_moveUpOnce_24 rfl 1 rfl ?_
    refine R_iconst (v := 1) dX0_moveUpOnce_25 (by decide) ?_
    refine R_isub dX0_moveUpOnce_26 ?_
    obtain ⟨ob8, hf⟩ := hf
    refine R_laload dX0_moveUpOnce_27 ob6 ob8 ?_
    refine R_bipush (v := 48) dX0_moveUpOnce_28 (by decide) ?_
    refine R_lushr dX0_moveUpOnce_30 ?_
    refine R_lor dX0_moveUpOnce_31 ?_
    refine R_lastore dX0_moveUpOnce_32 ob6 ob7 ?_
    refine R_iinc (v := x1 + (-1)) dX0_moveUpOnce_33 1 rfl rfl (by decide) rfl ?_
    refine R_goto (tgt := 2) dX0_moveUpOnce_36 (by decide) ?_
    exact R_sub [1, 0] rfl hf
theorem dX0_row_0 : decode cX0_row 0 = .ok (.aload_n 0, 1) := by decide +kernel
theorem dX0_row_1 : decode cX0_row 1 = .ok (.getfield 11, 3) := by decide +kernel
theorem dX0_row_4 : decode cX0_row 4 = .ok (.iload_n 1, 1) := by decide +kernel
theorem dX0_row_5 : decode cX0_row 5 = .ok (.iconst 4, 1) := by decide +kernel
theorem dX0_row_6 : decode cX0_row 6 = .ok (.idiv, 1) := by decide +kernel
theorem dX0_row_7 : decode cX0_row 7 = .ok (.laload, 1) := by decide +kernel
theorem dX0_row_8 : decode cX0_row 8 = .ok (.iload_n 1, 1) := by decide +kernel
theorem dX0_row_9 : decode cX0_row 9 = .ok (.iconst 4, 1) := by decide +kernel
theorem dX0_row_10 : decode cX0_row 10 = .ok (.irem, 1) := by decide +kernel
theorem dX0_row_11 : decode cX0_row 11 = .ok (.bipush 16, 2) := by decide +kernel
theorem dX0_row_13 : decode cX0_row 13 = .ok (.imul, 1) := by decide +kernel
theorem dX0_row_14 : decode cX0_row 14 = .ok (.lushr, 1) := by decide +kernel
theorem dX0_row_15 : decode cX0_row 15 = .ok (.l2i, 1) := by decide +kernel
theorem dX0_row_16 : decode cX0_row 16 = .ok (.ldc 34, 2) := by decide +kernel
theorem dX0_row_18 : decode cX0_row 18 = .ok (.iand, 1) := by decide +kernel
theorem dX0_row_19 : decode cX0_row 19 = .ok (.ireturn, 1) := by decide +kernel
set_option maxRecDepth 20000 in
theorem sX0_row_0 {P : Option Value → AH → Prop} (h : AH) (r0 : Nat) (x1 : Int32) (hf : (isO h 0 r0) ∧ ((isA h 1 (gF h r0 0)) ∧ ((vp_in (x1 / 4) (ln (gF h r0 0))) ∧ (P (some (.int ((lushr (gL h (gF h r0 0) (x1 / 4).toNatClampNeg) ((x1 % 4) * 16)).toInt32 &&& 65535))) h)))) : Rr mX0_row 0 0 0 [(0, .ref r0), (1, .int x1)] [] h P := by
  refine R_aload_n dX0_row_0 rfl 0 rfl ?_
  obtain ⟨ob1, hf⟩ := hf
  refine G0_0 dX0_row_1 lfX0_11 ob1 ?_
  refine R_iload_n dX0_row_4 rfl 1 rfl ?_
  refine R_iconst (v := 4) dX0_row_5 (by decide) ?_
  refine R_idiv dX0_row_6 (by decide) ?_
  obtain ⟨ob2, hf⟩ := hf
  obtain ⟨ob3, hf⟩ := hf
  refine R_laload dX0_row_7 ob2 ob3 ?_
  refine R_iload_n dX0_row_8 rfl 1 rfl ?_
  refine R_iconst (v := 4) dX0_row_9 (by decide) ?_
  refine R_irem dX0_row_10 (by decide) ?_
  refine R_bipush (v := 16) dX0_row_11 (by decide) ?_
  refine R_imul dX0_row_13 ?_
  refine R_lushr dX0_row_14 ?_
  refine R_l2i dX0_row_15 ?_
  refine R_ldc (v := 65535) dX0_row_16 lcX0_34 ?_
  refine R_iand dX0_row_18 ?_
  exact R_iret dX0_row_19 rfl rfl hf
theorem aX0_row {h : AH} {P : Option Value → AH → Prop} {r0 : Nat} {x1 : Int32} (o0 : isO h 0 r0) (o1 : isA h 1 (gF h r0 0)) (o2 : vp_in (x1 / 4) (ln (gF h r0 0))) (k : P (some (.int ((lushr (gL h (gF h r0 0) (x1 / 4).toNatClampNeg) ((x1 % 4) * 16)).toInt32 &&& 65535))) h) : Call mX0_row [.ref r0, .int x1] h P :=
  Call.ofR (by decide +kernel) (Nat.le_of_ble_eq_true rfl) (sX0_row_0 h r0 x1 (⟨o0, ⟨o1, ⟨o2, k⟩⟩⟩))
theorem dX10_forget_0 : decode cX10_forget 0 = .ok (.aload_n 0, 1) := by decide +kernel
theorem dX10_forget_1 : decode cX10_forget 1 = .ok (.iconst 0, 1) := by decide +kernel
theorem dX10_forget_2 : decode cX10_forget 2 = .ok (.putfield 29, 3) := by decide +kernel
theorem dX10_forget_5 : decode cX10_forget 5 = .ok (.return_, 1) := by decide +kernel
set_option maxRecDepth 20000 in
theorem sX10_forget_0 {P : Option Value → AH → Prop} (h : AH) (r0 : Nat) (hf : (isO h 10 r0) ∧ (P none (sI h r0 4 0))) : Rr mX10_forget 0 0 0 [(0, .ref r0)] [] h P := by
  refine R_aload_n dX10_forget_0 rfl 0 rfl ?_
  refine R_iconst (v := 0) dX10_forget_1 (by decide) ?_
  obtain ⟨ob1, hf⟩ := hf
  refine S10_4 dX10_forget_2 lfX10_29 ob1 ?_
  exact R_ret dX10_forget_5 rfl hf
theorem aX10_forget {h : AH} {P : Option Value → AH → Prop} {r0 : Nat} (o0 : isO h 10 r0) (k : P none (sI h r0 4 0)) : Call mX10_forget [.ref r0] h P :=
  Call.ofR (by decide +kernel) (Nat.le_of_ble_eq_true rfl) (sX10_forget_0 h r0 (⟨o0, k⟩))
theorem dX11_count_0 : decode cX11_count 0 = .ok (.iload_n 1, 1) := by decide +kernel
theorem dX11_count_1 : decode cX11_count 1 = .ok (.tableswitch 80 0 4 #[35, 43, 51, 59, 72], 35) := by decide +kernel
theorem dX11_count_36 : decode cX11_count 36 = .ok (.aload_n 0, 1) := by decide +kernel
theorem dX11_count_37 : decode cX11_count 37 = .ok (.getfield 24, 3) := by decide +kernel
theorem dX11_count_40 : decode cX11_count 40 = .ok (.getfield 118, 3) := by decide +kernel
theorem dX11_count_43 : decode cX11_count 43 = .ok (.ireturn, 1) := by decide +kernel
theorem dX11_count_44 : decode cX11_count 44 = .ok (.aload_n 0, 1) := by decide +kernel
theorem dX11_count_45 : decode cX11_count 45 = .ok (.getfield 31, 3) := by decide +kernel
theorem dX11_count_48 : decode cX11_count 48 = .ok (.getfield 182, 3) := by decide +kernel
theorem dX11_count_51 : decode cX11_count 51 = .ok (.ireturn, 1) := by decide +kernel
theorem dX11_count_52 : decode cX11_count 52 = .ok (.aload_n 0, 1) := by decide +kernel
theorem dX11_count_53 : decode cX11_count 53 = .ok (.getfield 31, 3) := by decide +kernel
theorem dX11_count_56 : decode cX11_count 56 = .ok (.getfield 388, 3) := by decide +kernel
theorem dX11_count_59 : decode cX11_count 59 = .ok (.ireturn, 1) := by decide +kernel
theorem dX11_count_60 : decode cX11_count 60 = .ok (.aload_n 0, 1) := by decide +kernel
theorem dX11_count_61 : decode cX11_count 61 = .ok (.getfield 283, 3) := by decide +kernel
theorem dX11_count_64 : decode cX11_count 64 = .ok (.ifCond .eq 7, 3) := by decide +kernel
theorem dX11_count_67 : decode cX11_count 67 = .ok (.iconst 1, 1) := by decide +kernel
theorem dX11_count_68 : decode cX11_count 68 = .ok (.goto 4, 3) := by decide +kernel
theorem dX11_count_71 : decode cX11_count 71 = .ok (.iconst 0, 1) := by decide +kernel
theorem dX11_count_72 : decode cX11_count 72 = .ok (.ireturn, 1) := by decide +kernel
theorem dX11_count_73 : decode cX11_count 73 = .ok (.aload_n 0, 1) := by decide +kernel
theorem dX11_count_74 : decode cX11_count 74 = .ok (.getfield 20, 3) := by decide +kernel
theorem dX11_count_77 : decode cX11_count 77 = .ok (.getfield 95, 3) := by decide +kernel
theorem dX11_count_80 : decode cX11_count 80 = .ok (.ireturn, 1) := by decide +kernel
theorem dX11_count_81 : decode cX11_count 81 = .ok (.iconst (-1), 1) := by decide +kernel
theorem dX11_count_82 : decode cX11_count 82 = .ok (.ireturn, 1) := by decide +kernel
set_option maxRecDepth 20000 in
theorem sX11_count_0 {P : Option Value → AH → Prop} (h : AH) (r0 : Nat) (x1 : Int32) (hf : (x1 = 0 → (isO h 11 r0) ∧ ((isO h 3 (gF h r0 2)) ∧ (P (some (.int (gI h (gF h r0 2) 0))) h))) ∧ (¬ x1 = 0 → (x1 = 1 → (isO h 11 r0) ∧ ((isO h 7 (gF h r0 3)) ∧ (P (some (.int (gI h (gF h r0 3) 0))) h))) ∧ (¬ x1 = 1 → (x1 = 2 → (isO h 11 r0) ∧ ((isO h 7 (gF h r0 3)) ∧ (P (some (.int (gI h (gF h r0 3) 1))) h))) ∧ (¬ x1 = 2 → (x1 = 3 → (isO h 11 r0) ∧ (P (some (.int (bi (¬ (gI h r0 8) = 0)))) h)) ∧ (¬ x1 = 3 → (x1 = 4 → (isO h 11 r0) ∧ ((isO h 9 (gF h r0 1)) ∧ (P (some (.int (gI h (gF h r0 1) 2))) h))) ∧ (¬ x1 = 4 → P (some (.int (-1))) h)))))) : Rr mX11_count 0 0 0 [(0, .ref r0), (1, .int x1)] [] h P := by
  refine R_iload_n dX11_count_0 rfl 1 rfl ?_
  by_cases b1 : x1 = 0
  · have hf := hf.1 b1
    refine R_tableIn (off := 35) (tgt := 36) dX11_count_1 (by rw [b1]; decide) (by rw [b1]; decide) (by rw [b1]; decide) (by decide) ?_
    refine R_aload_n dX11_count_36 rfl 0 rfl ?_
    obtain ⟨ob2, hf⟩ := hf
    refine G11_2 dX11_count_37 lfX11_24 ob2 ?_
    obtain ⟨ob3, hf⟩ := hf
    refine G3_0 dX11_count_40 lfX11_118 ob3 ?_
    exact R_iret dX11_count_43 rfl rfl hf
  have hf := hf.2 b1
  by_cases b4 : x1 = 1
  · have hf := hf.1 b4
    refine R_tableIn (off := 43) (tgt := 44) dX11_count_1 (by rw [b4]; decide) (by rw [b4]; decide) (by rw [b4]; decide) (by decide) ?_
    refine R_aload_n dX11_count_44 rfl 0 rfl ?_
    obtain ⟨ob5, hf⟩ := hf
    refine G11_3 dX11_count_45 lfX11_31 ob5 ?_
    obtain ⟨ob6, hf⟩ := hf
    refine G7_0 dX11_count_48 lfX11_182 ob6 ?_
    exact R_iret dX11_count_51 rfl rfl hf
  have hf := hf.2 b4
  by_cases b7 : x1 = 2
  · have hf := hf.1 b7
    refine R_tableIn (off := 51) (tgt := 52) dX11_count_1 (by rw [b7]; decide) (by rw [b7]; decide) (by rw [b7]; decide) (by decide) ?_
    refine R_aload_n dX11_count_52 rfl 0 rfl ?_
    obtain ⟨ob8, hf⟩ := hf
    refine G11_3 dX11_count_53 lfX11_31 ob8 ?_
    obtain ⟨ob9, hf⟩ := hf
    refine G7_1 dX11_count_56 lfX11_388 ob9 ?_
    exact R_iret dX11_count_59 rfl rfl hf
  have hf := hf.2 b7
  by_cases b10 : x1 = 3
  · have hf := hf.1 b10
    refine R_tableIn (off := 59) (tgt := 60) dX11_count_1 (by rw [b10]; decide) (by rw [b10]; decide) (by rw [b10]; decide) (by decide) ?_
    refine R_aload_n dX11_count_60 rfl 0 rfl ?_
    obtain ⟨ob11, hf⟩ := hf
    refine G11_8 dX11_count_61 lfX11_283 ob11 ?_
    have key :  Rr mX11_count 0 0 72 [] [.int (bi (¬ (gI h r0 8) = 0))] h P := by
      exact R_iret dX11_count_72 rfl rfl hf
    refine R_if_eq (tgt := 71) dX11_count_64 (by decide) (fun b12 => ?_) (fun b12 => ?_)
    · refine R_iconst (v := 0) dX11_count_71 (by decide) ?_
      have kb := key
      rw [show bi (¬ (gI h r0 8) = 0) = 0 from by simp only [bi, b12, false_and, and_false, true_and, and_true, not_true_eq_false, not_false_eq_true, if_true, if_false, true_or, or_true, false_or, or_false, reduceIte]] at kb
      exact R_sub [] rfl kb
    · refine R_iconst (v := 1) dX11_count_67 (by decide) ?_
      refine R_goto (tgt := 72) dX11_count_68 (by decide) ?_
      have kb := key
      rw [show bi (¬ (gI h r0 8) = 0) = 1 from by simp only [bi, b12, false_and, and_false, true_and, and_true, not_true_eq_false, not_false_eq_true, if_true, if_false, true_or, or_true, false_or, or_false, reduceIte]] at kb
      exact R_sub [] rfl kb
  have hf := hf.2 b10
  by_cases b13 : x1 = 4
  · have hf := hf.1 b13
    refine R_tableIn (off := 72) (tgt := 73) dX11_count_1 (by rw [b13]; decide) (by rw [b13]; decide) (by rw [b13]; decide) (by decide) ?_
    refine R_aload_n dX11_count_73 rfl 0 rfl ?_
    obtain ⟨ob14, hf⟩ := hf
    refine G11_1 dX11_count_74 lfX11_20 ob14 ?_
    obtain ⟨ob15, hf⟩ := hf
    refine G9_2 dX11_count_77 lfX11_95 ob15 ?_
    exact R_iret dX11_count_80 rfl rfl hf
  have hf := hf.2 b13
  refine R_tableOut (tgt := 81) dX11_count_1 (by have q0 := lv_neT (a := 0) b1 (by decide); have q1 := lv_neT (a := 1) b4 (by decide); have q2 := lv_neT (a := 2) b7 (by decide); have q3 := lv_neT (a := 3) b10 (by decide); have q4 := lv_neT (a := 4) b13 (by decide); omega) (by decide) ?_
  refine R_iconst (v := (-1)) dX11_count_81 (by decide) ?_
  exact R_iret dX11_count_82 rfl rfl hf
theorem aX11_count {h : AH} {P : Option Value → AH → Prop} {r0 : Nat} {x1 : Int32} (o0 : isO h 11 r0) (o1 : isO h 3 (gF h r0 2)) (o2 : isO h 7 (gF h r0 3)) (o3 : isO h 9 (gF h r0 1)) (k : P (some (.int (if x1 = 0 then (gI h (gF h r0 2) 0) else (if x1 = 1 then (gI h (gF h r0 3) 0) else (if x1 = 2 then (gI h (gF h r0 3) 1) else (if x1 = 3 then (bi (¬ (gI h r0 8) = 0)) else (if x1 = 4 then (gI h (gF h r0 1) 2) else (-1)))))))) h) : Call mX11_count [.ref r0, .int x1] h P :=
  Call.ofR (by decide +kernel) (Nat.le_of_ble_eq_true rfl) (sX11_count_0 h r0 x1 (⟨fun b0 => ⟨o0, ⟨o1, by rw [if_pos b0] at k; exact k⟩⟩, fun b0 => ⟨fun b1 => ⟨o0, ⟨o2, by rw [if_neg b0, if_pos b1] at k; exact k⟩⟩, fun b1 => ⟨fun b2 => ⟨o0, ⟨o2, by rw [if_neg b0, if_neg b1, if_pos b2] at k; exact k⟩⟩, fun b2 => ⟨fun b3 => ⟨o0, by rw [if_neg b0, if_neg b1, if_neg b2, if_pos b3] at k; exact k⟩, fun b3 => ⟨fun b4 => ⟨o0, ⟨o3, by rw [if_neg b0, if_neg b1, if_neg b2, if_neg b3, if_pos b4] at k; exact k⟩⟩, fun b4 => by rw [if_neg b0, if_neg b1, if_neg b2, if_neg b3, if_neg b4] at k; exact k⟩⟩⟩⟩⟩))
theorem dX11_end_0 : decode cX11_end 0 = .ok (.iload_n 1, 1) := by decide +kernel
theorem dX11_end_1 : decode cX11_end 1 = .ok (.ifCond .lt 14, 3) := by decide +kernel
theorem dX11_end_4 : decode cX11_end 4 = .ok (.iload_n 1, 1) := by decide +kernel
theorem dX11_end_5 : decode cX11_end 5 = .ok (.aload_n 0, 1) := by decide +kernel
theorem dX11_end_6 : decode cX11_end 6 = .ok (.getfield 20, 3) := by decide +kernel
theorem dX11_end_9 : decode cX11_end 9 = .ok (.getfield 95, 3) := by decide +kernel
theorem dX11_end_12 : decode cX11_end 12 = .ok (.if_icmp .le 5, 3) := by decide +kernel
theorem dX11_end_15 : decode cX11_end 15 = .ok (.iconst (-1), 1) := by decide +kernel
theorem dX11_end_16 : decode cX11_end 16 = .ok (.ireturn, 1) := by decide +kernel
theorem dX11_end_17 : decode cX11_end 17 = .ok (.aload_n 0, 1) := by decide +kernel
theorem dX11_end_18 : decode cX11_end 18 = .ok (.getfield 20, 3) := by decide +kernel
theorem dX11_end_21 : decode cX11_end 21 = .ok (.iload_n 1, 1) := by decide +kernel
theorem dX11_end_22 : decode cX11_end 22 = .ok (.putfield 95, 3) := by decide +kernel
theorem dX11_end_25 : decode cX11_end 25 = .ok (.iload_n 1, 1) := by decide +kernel
theorem dX11_end_26 : decode cX11_end 26 = .ok (.ireturn, 1) := by decide +kernel
set_option maxRecDepth 20000 in
theorem sX11_end_0 {P : Option Value → AH → Prop} (h : AH) (r0 : Nat) (x1 : Int32) (hf : (x1 < 0 → P (some (.int (-1))) h) ∧ (¬ x1 < 0 → (isO h 11 r0) ∧ ((isO h 9 (gF h r0 1)) ∧ ((x1 ≤ (gI h (gF h r0 1) 2) → P (some (.int x1)) (sI h (gF h r0 1) 2 x1)) ∧ (¬ x1 ≤ (gI h (gF h r0 1) 2) → P (some (.int (-1))) h))))) : Rr mX11_end 0 0 0 [(0, .ref r0), (1, .int x1)] [] h P := by
  refine R_iload_n dX11_end_0 rfl 1 rfl ?_
  refine R_if_lt (tgt := 15) dX11_end_1 (by decide) (fun b1 => ?_) (fun b1 => ?_)
  · have hf := hf.1 b1
    refine R_iconst (v := (-1)) dX11_end_15 (by decide) ?_
    exact R_iret dX11_end_16 rfl rfl hf
  · have hf := hf.2 b1
    refine R_iload_n dX11_end_4 rfl 1 rfl ?_
    refine R_aload_n dX11_end_5 rfl 0 rfl ?_
    obtain ⟨ob2, hf⟩ := hf
    refine G11_1 dX11_end_6 lfX11_20 ob2 ?_
    obtain ⟨ob3, hf⟩ := hf
    refine G9_2 dX11_end_9 lfX11_95 ob3 ?_
    refine R_icmp_le (tgt := 17) dX11_end_12 (by decide) (fun b4 => ?_) (fun b4 => ?_)
    · have hf := hf.1 b4
      refine R_aload_n dX11_end_17 rfl 0 rfl ?_
      refine G11_1 dX11_end_18 lfX11_20 ob2 ?_
      refine R_iload_n dX11_end_21 rfl 1 rfl ?_
      refine S9_2 dX11_end_22 lfX11_95 ob3 ?_
      refine R_iload_n dX11_end_25 rfl 1 rfl ?_
      exact R_iret dX11_end_26 rfl rfl hf
    · have hf := hf.2 b4
      refine R_iconst (v := (-1)) dX11_end_15 (by decide) ?_
      exact R_iret dX11_end_16 rfl rfl hf
theorem dX11_fault_0 : decode cX11_fault 0 = .ok (.iload_n 1, 1) := by decide +kernel
theorem dX11_fault_1 : decode cX11_fault 1 = .ok (.lookupswitch 43 #[(0, 27), (1, 35)], 27) := by decide +kernel
theorem dX11_fault_28 : decode cX11_fault 28 = .ok (.aload_n 0, 1) := by decide +kernel
theorem dX11_fault_29 : decode cX11_fault 29 = .ok (.getfield 10, 3) := by decide +kernel
theorem dX11_fault_32 : decode cX11_fault 32 = .ok (.getfield 121, 3) := by decide +kernel
theorem dX11_fault_35 : decode cX11_fault 35 = .ok (.ireturn, 1) := by decide +kernel
theorem dX11_fault_36 : decode cX11_fault 36 = .ok (.aload_n 0, 1) := by decide +kernel
theorem dX11_fault_37 : decode cX11_fault 37 = .ok (.getfield 10, 3) := by decide +kernel
theorem dX11_fault_40 : decode cX11_fault 40 = .ok (.getfield 124, 3) := by decide +kernel
theorem dX11_fault_43 : decode cX11_fault 43 = .ok (.ireturn, 1) := by decide +kernel
theorem dX11_fault_44 : decode cX11_fault 44 = .ok (.iconst (-1), 1) := by decide +kernel
theorem dX11_fault_45 : decode cX11_fault 45 = .ok (.ireturn, 1) := by decide +kernel
set_option maxRecDepth 20000 in
theorem sX11_fault_0 {P : Option Value → AH → Prop} (h : AH) (r0 : Nat) (x1 : Int32) (hf : (x1 = 0 → (isO h 11 r0) ∧ ((isO h 4 (gF h r0 0)) ∧ (P (some (.int (gI h (gF h r0 0) 4))) h))) ∧ (¬ x1 = 0 → (x1 = 1 → (isO h 11 r0) ∧ ((isO h 4 (gF h r0 0)) ∧ (P (some (.int (gI h (gF h r0 0) 5))) h))) ∧ (¬ x1 = 1 → P (some (.int (-1))) h))) : Rr mX11_fault 0 0 0 [(0, .ref r0), (1, .int x1)] [] h P := by
  refine R_iload_n dX11_fault_0 rfl 1 rfl ?_
  by_cases b1 : x1 = 0
  · have hf := hf.1 b1
    refine R_lookup (off := 27) (tgt := 28) dX11_fault_1 (by decide) (by rw [b1]; decide) (by decide) ?_
    refine R_aload_n dX11_fault_28 rfl 0 rfl ?_
    obtain ⟨ob2, hf⟩ := hf
    refine G11_0 dX11_fault_29 lfX11_10 ob2 ?_
    obtain ⟨ob3, hf⟩ := hf
    refine G4_4 dX11_fault_32 lfX11_121 ob3 ?_
    exact R_iret dX11_fault_35 rfl rfl hf
  have hf := hf.2 b1
  by_cases b4 : x1 = 1
  · have hf := hf.1 b4
    refine R_lookup (off := 35) (tgt := 36) dX11_fault_1 (by decide) (by rw [b4]; decide) (by decide) ?_
    refine R_aload_n dX11_fault_36 rfl 0 rfl ?_
    obtain ⟨ob5, hf⟩ := hf
    refine G11_0 dX11_fault_37 lfX11_10 ob5 ?_
    obtain ⟨ob6, hf⟩ := hf
    refine G4_5 dX11_fault_40 lfX11_124 ob6 ?_
    exact R_iret dX11_fault_43 rfl rfl hf
  have hf := hf.2 b4
  refine R_lookup (off := 43) (tgt := 44) dX11_fault_1 (by decide) (by rw [lv_osw b1 (by decide)]; rw [lv_osw b4 (by decide)]; rfl) (by decide) ?_
  refine R_iconst (v := (-1)) dX11_fault_44 (by decide) ?_
  exact R_iret dX11_fault_45 rfl rfl hf
theorem aX11_fault {h : AH} {P : Option Value → AH → Prop} {r0 : Nat} {x1 : Int32} (o0 : isO h 11 r0) (o1 : isO h 4 (gF h r0 0)) (k : P (some (.int (if x1 = 0 then (gI h (gF h r0 0) 4) else (if x1 = 1 then (gI h (gF h r0 0) 5) else (-1))))) h) : Call mX11_fault [.ref r0, .int x1] h P :=
  Call.ofR (by decide +kernel) (Nat.le_of_ble_eq_true rfl) (sX11_fault_0 h r0 x1 (⟨fun b0 => ⟨o0, ⟨o1, by rw [if_pos b0] at k; exact k⟩⟩, fun b0 => ⟨fun b1 => ⟨o0, ⟨o1, by rw [if_neg b0, if_pos b1] at k; exact k⟩⟩, fun b1 => by rw [if_neg b0, if_neg b1] at k; exact k⟩⟩))
theorem dX11_isInk_0 : decode cX11_isInk 0 = .ok (.iload_n 0, 1) := by decide +kernel
theorem dX11_isInk_1 : decode cX11_isInk 1 = .ok (.ifCond .lt 12, 3) := by decide +kernel
theorem dX11_isInk_4 : decode cX11_isInk 4 = .ok (.iload_n 0, 1) := by decide +kernel
theorem dX11_isInk_5 : decode cX11_isInk 5 = .ok (.iconst 4, 1) := by decide +kernel
theorem dX11_isInk_6 : decode cX11_isInk 6 = .ok (.if_icmp .ge 7, 3) := by decide +kernel
theorem dX11_isInk_9 : decode cX11_isInk 9 = .ok (.iconst 1, 1) := by decide +kernel
theorem dX11_isInk_10 : decode cX11_isInk 10 = .ok (.goto 4, 3) := by decide +kernel
theorem dX11_isInk_13 : decode cX11_isInk 13 = .ok (.iconst 0, 1) := by decide +kernel
theorem dX11_isInk_14 : decode cX11_isInk 14 = .ok (.ireturn, 1) := by decide +kernel
set_option maxRecDepth 20000 in
theorem sX11_isInk_0 {P : Option Value → AH → Prop} (h : AH) (x0 : Int32) (hf : P (some (.int (bi (¬ x0 < 0 ∧ ¬ 4 ≤ x0)))) h) : Rr mX11_isInk 0 0 0 [(0, .int x0)] [] h P := by
  refine R_iload_n dX11_isInk_0 rfl 0 rfl ?_
  have key :  Rr mX11_isInk 0 0 14 [] [.int (bi (¬ x0 < 0 ∧ ¬ 4 ≤ x0))] h P := by
    exact R_iret dX11_isInk_14 rfl (nb_n (bi_01 _)) hf
  refine R_if_lt (tgt := 13) dX11_isInk_1 (by decide) (fun b1 => ?_) (fun b1 => ?_)
  · refine R_iconst (v := 0) dX11_isInk_13 (by decide) ?_
    have kb := key
    rw [show bi (¬ x0 < 0 ∧ ¬ 4 ≤ x0) = 0 from by simp only [bi, b1, false_and, and_false, true_and, and_true, not_true_eq_false, not_false_eq_true, if_true, if_false, true_or, or_true, false_or, or_false, reduceIte]] at kb
    exact R_sub [] rfl kb
  · refine R_iload_n dX11_isInk_4 rfl 0 rfl ?_
    refine R_iconst (v := 4) dX11_isInk_5 (by decide) ?_
    refine R_icmp_ge (tgt := 13) dX11_isInk_6 (by decide) (fun b2 => ?_) (fun b2 => ?_)
    · refine R_iconst (v := 0) dX11_isInk_13 (by decide) ?_
      have kb := key
      rw [show bi (¬ x0 < 0 ∧ ¬ 4 ≤ x0) = 0 from by simp only [bi, b1, b2, false_and, and_false, true_and, and_true, not_true_eq_false, not_false_eq_true, if_true, if_false, true_or, or_true, false_or, or_false, reduceIte]] at kb
      exact R_sub [] rfl kb
    · refine R_iconst (v := 1) dX11_isInk_9 (by decide) ?_
      refine R_goto (tgt := 14) dX11_isInk_10 (by decide) ?_
      have kb := key
      rw [show bi (¬ x0 < 0 ∧ ¬ 4 ≤ x0) = 1 from by simp only [bi, b1, b2, false_and, and_false, true_and, and_true, not_true_eq_false, not_false_eq_true, if_true, if_false, true_or, or_true, false_or, or_false, reduceIte]] at kb
      exact R_sub [] rfl kb
theorem aX11_isInk {h : AH} {P : Option Value → AH → Prop} {x0 : Int32}  (k : P (some (.int (bi (¬ x0 < 0 ∧ ¬ 4 ≤ x0)))) h) : Call mX11_isInk [.int x0] h P :=
  Call.ofR (by decide +kernel) (Nat.le_of_ble_eq_true rfl) (sX11_isInk_0 h x0 (k))
theorem dX11_isPlace_0 : decode cX11_isPlace 0 = .ok (.iload_n 0, 1) := by decide +kernel
theorem dX11_isPlace_1 : decode cX11_isPlace 1 = .ok (.ifCond .lt 14, 3) := by decide +kernel
theorem dX11_isPlace_4 : decode cX11_isPlace 4 = .ok (.iload_n 0, 1) := by decide +kernel
theorem dX11_isPlace_5 : decode cX11_isPlace 5 = .ok (.sipush 200, 3) := by decide +kernel
theorem dX11_isPlace_8 : decode cX11_isPlace 8 = .ok (.if_icmp .gt 7, 3) := by decide +kernel
theorem dX11_isPlace_11 : decode cX11_isPlace 11 = .ok (.iconst 1, 1) := by decide +kernel
theorem dX11_isPlace_12 : decode cX11_isPlace 12 = .ok (.goto 4, 3) := by decide +kernel
theorem dX11_isPlace_15 : decode cX11_isPlace 15 = .ok (.iconst 0, 1) := by decide +kernel
theorem dX11_isPlace_16 : decode cX11_isPlace 16 = .ok (.ireturn, 1) := by decide +kernel
set_option maxRecDepth 20000 in
theorem sX11_isPlace_0 {P : Option Value → AH → Prop} (h : AH) (x0 : Int32) (hf : P (some (.int (bi (¬ x0 < 0 ∧ ¬ 200 < x0)))) h) : Rr mX11_isPlace 0 0 0 [(0, .int x0)] [] h P := by
  refine R_iload_n dX11_isPlace_0 rfl 0 rfl ?_
  have key :  Rr mX11_isPlace 0 0 16 [] [.int (bi (¬ x0 < 0 ∧ ¬ 200 < x0))] h P := by
    exact R_iret dX11_isPlace_16 rfl (nb_n (bi_01 _)) hf
  refine R_if_lt (tgt := 15) dX11_isPlace_1 (by decide) (fun b1 => ?_) (fun b1 => ?_)
  · refine R_iconst (v := 0) dX11_isPlace_15 (by decide) ?_
    have kb := key
    rw [show bi (¬ x0 < 0 ∧ ¬ 200 < x0) = 0 from by simp only [bi, b1, false_and, and_false, true_and, and_true, not_true_eq_false, not_false_eq_true, if_true, if_false, true_or, or_true, false_or, or_false, reduceIte]] at kb
    exact R_sub [] rfl kb
  · refine R_iload_n dX11_isPlace_4 rfl 0 rfl ?_
    refine R_sipush (v := 200) dX11_isPlace_5 (by decide) ?_
    refine R_icmp_gt (tgt := 15) dX11_isPlace_8 (by decide) (fun b2 => ?_) (fun b2 => ?_)
    · refine R_iconst (v := 0) dX11_isPlace_15 (by decide) ?_
      have kb := key
      rw [show bi (¬ x0 < 0 ∧ ¬ 200 < x0) = 0 from by simp only [bi, b1, b2, false_and, and_false, true_and, and_true, not_true_eq_false, not_false_eq_true, if_true, if_false, true_or, or_true, false_or, or_false, reduceIte]] at kb
      exact R_sub [] rfl kb
    · refine R_iconst (v := 1) dX11_isPlace_11 (by decide) ?_
      refine R_goto (tgt := 16) dX11_isPlace_12 (by decide) ?_
      have kb := key
      rw [show bi (¬ x0 < 0 ∧ ¬ 200 < x0) = 1 from by simp only [bi, b1, b2, false_and, and_false, true_and, and_true, not_true_eq_false, not_false_eq_true, if_true, if_false, true_or, or_true, false_or, or_false, reduceIte]] at kb
      exact R_sub [] rfl kb
theorem aX11_isPlace {h : AH} {P : Option Value → AH → Prop} {x0 : Int32}  (k : P (some (.int (bi (¬ x0 < 0 ∧ ¬ 200 < x0)))) h) : Call mX11_isPlace [.int x0] h P :=
  Call.ofR (by decide +kernel) (Nat.le_of_ble_eq_true rfl) (sX11_isPlace_0 h x0 (k))
theorem dX11_isReach_0 : decode cX11_isReach 0 = .ok (.iload_n 0, 1) := by decide +kernel
theorem dX11_isReach_1 : decode cX11_isReach 1 = .ok (.ifCond .lt 12, 3) := by decide +kernel
theorem dX11_isReach_4 : decode cX11_isReach 4 = .ok (.iload_n 0, 1) := by decide +kernel
theorem dX11_isReach_5 : decode cX11_isReach 5 = .ok (.iconst 2, 1) := by decide +kernel
theorem dX11_isReach_6 : decode cX11_isReach 6 = .ok (.if_icmp .gt 7, 3) := by decide +kernel
theorem dX11_isReach_9 : decode cX11_isReach 9 = .ok (.iconst 1, 1) := by decide +kernel
theorem dX11_isReach_10 : decode cX11_isReach 10 = .ok (.goto 4, 3) := by decide +kernel
theorem dX11_isReach_13 : decode cX11_isReach 13 = .ok (.iconst 0, 1) := by decide +kernel
theorem dX11_isReach_14 : decode cX11_isReach 14 = .ok (.ireturn, 1) := by decide +kernel
set_option maxRecDepth 20000 in
theorem sX11_isReach_0 {P : Option Value → AH → Prop} (h : AH) (x0 : Int32) (hf : P (some (.int (bi (¬ x0 < 0 ∧ ¬ 2 < x0)))) h) : Rr mX11_isReach 0 0 0 [(0, .int x0)] [] h P := by
  refine R_iload_n dX11_isReach_0 rfl 0 rfl ?_
  have key :  Rr mX11_isReach 0 0 14 [] [.int (bi (¬ x0 < 0 ∧ ¬ 2 < x0))] h P := by
    exact R_iret dX11_isReach_14 rfl (nb_n (bi_01 _)) hf
  refine R_if_lt (tgt := 13) dX11_isReach_1 (by decide) (fun b1 => ?_) (fun b1 => ?_)
  · refine R_iconst (v := 0) dX11_isReach_13 (by decide) ?_
    have kb := key
    rw [show bi (¬ x0 < 0 ∧ ¬ 2 < x0) = 0 from by simp only [bi, b1, false_and, and_false, true_and, and_true, not_true_eq_false, not_false_eq_true, if_true, if_false, true_or, or_true, false_or, or_false, reduceIte]] at kb
    exact R_sub [] rfl kb
  · refine R_iload_n dX11_isReach_4 rfl 0 rfl ?_
    refine R_iconst (v := 2) dX11_isReach_5 (by decide) ?_
    refine R_icmp_gt (tgt := 13) dX11_isReach_6 (by decide) (fun b2 => ?_) (fun b2 => ?_)
    · refine R_iconst (v := 0) dX11_isReach_13 (by decide) ?_
      have kb := key
      rw [show bi (¬ x0 < 0 ∧ ¬ 2 < x0) = 0 from by simp only [bi, b1, b2, false_and, and_false, true_and, and_true, not_true_eq_false, not_false_eq_true, if_true, if_false, true_or, or_true, false_or, or_false, reduceIte]] at kb
      exact R_sub [] rfl kb
    · refine R_iconst (v := 1) dX11_isReach_9 (by decide) ?_
      refine R_goto (tgt := 14) dX11_isReach_10 (by decide) ?_
      have kb := key
      rw [show bi (¬ x0 < 0 ∧ ¬ 2 < x0) = 1 from by simp only [bi, b1, b2, false_and, and_false, true_and, and_true, not_true_eq_false, not_false_eq_true, if_true, if_false, true_or, or_true, false_or, or_false, reduceIte]] at kb
      exact R_sub [] rfl kb
theorem aX11_isReach {h : AH} {P : Option Value → AH → Prop} {x0 : Int32}  (k : P (some (.int (bi (¬ x0 < 0 ∧ ¬ 2 < x0)))) h) : Call mX11_isReach [.int x0] h P :=
  Call.ofR (by decide +kernel) (Nat.le_of_ble_eq_true rfl) (sX11_isReach_0 h x0 (k))
theorem dX11_isShiftCode_0 : decode cX11_isShiftCode 0 = .ok (.iload_n 0, 1) := by decide +kernel
theorem dX11_isShiftCode_1 : decode cX11_isShiftCode 1 = .ok (.ifCond .lt 13, 3) := by decide +kernel
theorem dX11_isShiftCode_4 : decode cX11_isShiftCode 4 = .ok (.iload_n 0, 1) := by decide +kernel
theorem dX11_isShiftCode_5 : decode cX11_isShiftCode 5 = .ok (.bipush 24, 2) := by decide +kernel
theorem dX11_isShiftCode_7 : decode cX11_isShiftCode 7 = .ok (.if_icmp .gt 7, 3) := by decide +kernel
theorem dX11_isShiftCode_10 : decode cX11_isShiftCode 10 = .ok (.iconst 1, 1) := by decide +kernel
theorem dX11_isShiftCode_11 : decode cX11_isShiftCode 11 = .ok (.goto 4, 3) := by decide +kernel
theorem dX11_isShiftCode_14 : decode cX11_isShiftCode 14 = .ok (.iconst 0, 1) := by decide +kernel
theorem dX11_isShiftCode_15 : decode cX11_isShiftCode 15 = .ok (.ireturn, 1) := by decide +kernel
set_option maxRecDepth 20000 in
theorem sX11_isShiftCode_0 {P : Option Value → AH → Prop} (h : AH) (x0 : Int32) (hf : P (some (.int (bi (¬ x0 < 0 ∧ ¬ 24 < x0)))) h) : Rr mX11_isShiftCode 0 0 0 [(0, .int x0)] [] h P := by
  refine R_iload_n dX11_isShiftCode_0 rfl 0 rfl ?_
  have key :  Rr mX11_isShiftCode 0 0 15 [] [.int (bi (¬ x0 < 0 ∧ ¬ 24 < x0))] h P := by
    exact R_iret dX11_isShiftCode_15 rfl (nb_n (bi_01 _)) hf
  refine R_if_lt (tgt := 14) dX11_isShiftCode_1 (by decide) (fun b1 => ?_) (fun b1 => ?_)
  · refine R_iconst (v := 0) dX11_isShiftCode_14 (by decide) ?_
    have kb := key
    rw [show bi (¬ x0 < 0 ∧ ¬ 24 < x0) = 0 from by simp only [bi, b1, false_and, and_false, true_and, and_true, not_true_eq_false, not_false_eq_true, if_true, if_false, true_or, or_true, false_or, or_false, reduceIte]] at kb
    exact R_sub [] rfl kb
  · refine R_iload_n dX11_isShiftCode_4 rfl 0 rfl ?_
    refine R_bipush (v := 24) dX11_isShiftCode_5 (by decide) ?_
    refine R_icmp_gt (tgt := 14) dX11_isShiftCode_7 (by decide) (fun b2 => ?_) (fun b2 => ?_)
    · refine R_iconst (v := 0) dX11_isShiftCode_14 (by decide) ?_
      have kb := key
      rw [show bi (¬ x0 < 0 ∧ ¬ 24 < x0) = 0 from by simp only [bi, b1, b2, false_and, and_false, true_and, and_true, not_true_eq_false, not_false_eq_true, if_true, if_false, true_or, or_true, false_or, or_false, reduceIte]] at kb
      exact R_sub [] rfl kb
    · refine R_iconst (v := 1) dX11_isShiftCode_10 (by decide) ?_
      refine R_goto (tgt := 15) dX11_isShiftCode_11 (by decide) ?_
      have kb := key
      rw [show bi (¬ x0 < 0 ∧ ¬ 24 < x0) = 1 from by simp only [bi, b1, b2, false_and, and_false, true_and, and_true, not_true_eq_false, not_false_eq_true, if_true, if_false, true_or, or_true, false_or, or_false, reduceIte]] at kb
      exact R_sub [] rfl kb
theorem aX11_isShiftCode {h : AH} {P : Option Value → AH → Prop} {x0 : Int32}  (k : P (some (.int (bi (¬ x0 < 0 ∧ ¬ 24 < x0)))) h) : Call mX11_isShiftCode [.int x0] h P :=
  Call.ofR (by decide +kernel) (Nat.le_of_ble_eq_true rfl) (sX11_isShiftCode_0 h x0 (k))
theorem dX11_isSpread_0 : decode cX11_isSpread 0 = .ok (.iload_n 0, 1) := by decide +kernel
theorem dX11_isSpread_1 : decode cX11_isSpread 1 = .ok (.bipush (-2), 2) := by decide +kernel
theorem dX11_isSpread_3 : decode cX11_isSpread 3 = .ok (.if_icmp .lt 12, 3) := by decide +kernel
theorem dX11_isSpread_6 : decode cX11_isSpread 6 = .ok (.iload_n 0, 1) := by decide +kernel
theorem dX11_isSpread_7 : decode cX11_isSpread 7 = .ok (.iconst 2, 1) := by decide +kernel
theorem dX11_isSpread_8 : decode cX11_isSpread 8 = .ok (.if_icmp .gt 7, 3) := by decide +kernel
theorem dX11_isSpread_11 : decode cX11_isSpread 11 = .ok (.iconst 1, 1) := by decide +kernel
theorem dX11_isSpread_12 : decode cX11_isSpread 12 = .ok (.goto 4, 3) := by decide +kernel
theorem dX11_isSpread_15 : decode cX11_isSpread 15 = .ok (.iconst 0, 1) := by decide +kernel
theorem dX11_isSpread_16 : decode cX11_isSpread 16 = .ok (.ireturn, 1) := by decide +kernel
set_option maxRecDepth 20000 in
theorem sX11_isSpread_0 {P : Option Value → AH → Prop} (h : AH) (x0 : Int32) (hf : P (some (.int (bi (¬ x0 < (-2) ∧ ¬ 2 < x0)))) h) : Rr mX11_isSpread 0 0 0 [(0, .int x0)] [] h P := by
  refine R_iload_n dX11_isSpread_0 rfl 0 rfl ?_
  refine R_bipush (v := (-2)) dX11_isSpread_1 (by decide) ?_
  have key :  Rr mX11_isSpread 0 0 16 [] [.int (bi (¬ x0 < (-2) ∧ ¬ 2 < x0))] h P := by
    exact R_iret dX11_isSpread_16 rfl (nb_n (bi_01 _)) hf
  refine R_icmp_lt (tgt := 15) dX11_isSpread_3 (by decide) (fun b1 => ?_) (fun b1 => ?_)
  · refine R_iconst (v := 0) dX11_isSpread_15 (by decide) ?_
    have kb := key
    rw [show bi (¬ x0 < (-2) ∧ ¬ 2 < x0) = 0 from by simp only [bi, b1, false_and, and_false, true_and, and_true, not_true_eq_false, not_false_eq_true, if_true, if_false, true_or, or_true, false_or, or_false, reduceIte]] at kb
    exact R_sub [] rfl kb
  · refine R_iload_n dX11_isSpread_6 rfl 0 rfl ?_
    refine R_iconst (v := 2) dX11_isSpread_7 (by decide) ?_
    refine R_icmp_gt (tgt := 15) dX11_isSpread_8 (by decide) (fun b2 => ?_) (fun b2 => ?_)
    · refine R_iconst (v := 0) dX11_isSpread_15 (by decide) ?_
      have kb := key
      rw [show bi (¬ x0 < (-2) ∧ ¬ 2 < x0) = 0 from by simp only [bi, b1, b2, false_and, and_false, true_and, and_true, not_true_eq_false, not_false_eq_true, if_true, if_false, true_or, or_true, false_or, or_false, reduceIte]] at kb
      exact R_sub [] rfl kb
    · refine R_iconst (v := 1) dX11_isSpread_11 (by decide) ?_
      refine R_goto (tgt := 16) dX11_isSpread_12 (by decide) ?_
      have kb := key
      rw [show bi (¬ x0 < (-2) ∧ ¬ 2 < x0) = 1 from by simp only [bi, b1, b2, false_and, and_false, true_and, and_true, not_true_eq_false, not_false_eq_true, if_true, if_false, true_or, or_true, false_or, or_false, reduceIte]] at kb
      exact R_sub [] rfl kb
theorem aX11_isSpread {h : AH} {P : Option Value → AH → Prop} {x0 : Int32}  (k : P (some (.int (bi (¬ x0 < (-2) ∧ ¬ 2 < x0)))) h) : Call mX11_isSpread [.int x0] h P :=
  Call.ofR (by decide +kernel) (Nat.le_of_ble_eq_true rfl) (sX11_isSpread_0 h x0 (k))
theorem dX11_isWithinNine_0 : decode cX11_isWithinNine 0 = .ok (.iload_n 0, 1) := by decide +kernel
theorem dX11_isWithinNine_1 : decode cX11_isWithinNine 1 = .ok (.bipush (-9), 2) := by decide +kernel
theorem dX11_isWithinNine_3 : decode cX11_isWithinNine 3 = .ok (.if_icmp .lt 13, 3) := by decide +kernel
theorem dX11_isWithinNine_6 : decode cX11_isWithinNine 6 = .ok (.iload_n 0, 1) := by decide +kernel
theorem dX11_isWithinNine_7 : decode cX11_isWithinNine 7 = .ok (.bipush 9, 2) := by decide +kernel
theorem dX11_isWithinNine_9 : decode cX11_isWithinNine 9 = .ok (.if_icmp .gt 7, 3) := by decide +kernel
theorem dX11_isWithinNine_12 : decode cX11_isWithinNine 12 = .ok (.iconst 1, 1) := by decide +kernel
theorem dX11_isWithinNine_13 : decode cX11_isWithinNine 13 = .ok (.goto 4, 3) := by decide +kernel
theorem dX11_isWithinNine_16 : decode cX11_isWithinNine 16 = .ok (.iconst 0, 1) := by decide +kernel
theorem dX11_isWithinNine_17 : decode cX11_isWithinNine 17 = .ok (.ireturn, 1) := by decide +kernel
set_option maxRecDepth 20000 in
theorem sX11_isWithinNine_0 {P : Option Value → AH → Prop} (h : AH) (x0 : Int32) (hf : P (some (.int (bi (¬ x0 < (-9) ∧ ¬ 9 < x0)))) h) : Rr mX11_isWithinNine 0 0 0 [(0, .int x0)] [] h P := by
  refine R_iload_n dX11_isWithinNine_0 rfl 0 rfl ?_
  refine R_bipush (v := (-9)) dX11_isWithinNine_1 (by decide) ?_
  have key :  Rr mX11_isWithinNine 0 0 17 [] [.int (bi (¬ x0 < (-9) ∧ ¬ 9 < x0))] h P := by
    exact R_iret dX11_isWithinNine_17 rfl (nb_n (bi_01 _)) hf
  refine R_icmp_lt (tgt := 16) dX11_isWithinNine_3 (by decide) (fun b1 => ?_) (fun b1 => ?_)
  · refine R_iconst (v := 0) dX11_isWithinNine_16 (by decide) ?_
    have kb := key
    rw [show bi (¬ x0 < (-9) ∧ ¬ 9 < x0) = 0 from by simp only [bi, b1, false_and, and_false, true_and, and_true, not_true_eq_false, not_false_eq_true, if_true, if_false, true_or, or_true, false_or, or_false, reduceIte]] at kb
    exact R_sub [] rfl kb
  · refine R_iload_n dX11_isWithinNine_6 rfl 0 rfl ?_
    refine R_bipush (v := 9) dX11_isWithinNine_7 (by decide) ?_
    refine R_icmp_gt (tgt := 16) dX11_isWithinNine_9 (by decide) (fun b2 => ?_) (fun b2 => ?_)
    · refine R_iconst (v := 0) dX11_isWithinNine_16 (by decide) ?_
      have kb := key
      rw [show bi (¬ x0 < (-9) ∧ ¬ 9 < x0) = 0 from by simp only [bi, b1, b2, false_and, and_false, true_and, and_true, not_true_eq_false, not_false_eq_true, if_true, if_false, true_or, or_true, false_or, or_false, reduceIte]] at kb
      exact R_sub [] rfl kb
    · refine R_iconst (v := 1) dX11_isWithinNine_12 (by decide) ?_
      refine R_goto (tgt := 17) dX11_isWithinNine_13 (by decide) ?_
      have kb := key
      rw [show bi (¬ x0 < (-9) ∧ ¬ 9 < x0) = 1 from by simp only [bi, b1, b2, false_and, and_false, true_and, and_true, not_true_eq_false, not_false_eq_true, if_true, if_false, true_or, or_true, false_or, or_false, reduceIte]] at kb
      exact R_sub [] rfl kb
theorem aX11_isWithinNine {h : AH} {P : Option Value → AH → Prop} {x0 : Int32}  (k : P (some (.int (bi (¬ x0 < (-9) ∧ ¬ 9 < x0)))) h) : Call mX11_isWithinNine [.int x0] h P :=
  Call.ofR (by decide +kernel) (Nat.le_of_ble_eq_true rfl) (sX11_isWithinNine_0 h x0 (k))
theorem dX11_layers_0 : decode cX11_layers 0 = .ok (.aload_n 0, 1) := by decide +kernel
theorem dX11_layers_1 : decode cX11_layers 1 = .ok (.getfield 88, 3) := by decide +kernel
theorem dX11_layers_4 : decode cX11_layers 4 = .ok (.getfield 357, 3) := by decide +kernel
theorem dX11_layers_7 : decode cX11_layers 7 = .ok (.ifCond .ne 5, 3) := by decide +kernel
theorem dX11_layers_10 : decode cX11_layers 10 = .ok (.iconst (-1), 1) := by decide +kernel
theorem dX11_layers_11 : decode cX11_layers 11 = .ok (.ireturn, 1) := by decide +kernel
theorem dX11_layers_12 : decode cX11_layers 12 = .ok (.iload_n 1, 1) := by decide +kernel
theorem dX11_layers_13 : decode cX11_layers 13 = .ok (.iconst (-1), 1) := by decide +kernel
theorem dX11_layers_14 : decode cX11_layers 14 = .ok (.if_icmp .ne 11, 3) := by decide +kernel
theorem dX11_layers_17 : decode cX11_layers 17 = .ok (.aload_n 0, 1) := by decide +kernel
theorem dX11_layers_18 : decode cX11_layers 18 = .ok (.getfield 88, 3) := by decide +kernel
theorem dX11_layers_21 : decode cX11_layers 21 = .ok (.getfield 360, 3) := by decide +kernel
theorem dX11_layers_24 : decode cX11_layers 24 = .ok (.ireturn, 1) := by decide +kernel
theorem dX11_layers_25 : decode cX11_layers 25 = .ok (.iload_n 1, 1) := by decide +kernel
theorem dX11_layers_26 : decode cX11_layers 26 = .ok (.ifCond .lt 14, 3) := by decide +kernel
theorem dX11_layers_29 : decode cX11_layers 29 = .ok (.iload_n 1, 1) := by decide +kernel
theorem dX11_layers_30 : decode cX11_layers 30 = .ok (.aload_n 0, 1) := by decide +kernel
theorem dX11_layers_31 : decode cX11_layers 31 = .ok (.getfield 88, 3) := by decide +kernel
theorem dX11_layers_34 : decode cX11_layers 34 = .ok (.getfield 357, 3) := by decide +kernel
theorem dX11_layers_37 : decode cX11_layers 37 = .ok (.if_icmp .lt 7, 3) := by decide +kernel
theorem dX11_layers_40 : decode cX11_layers 40 = .ok (.iconst (-1), 1) := by decide +kernel
theorem dX11_layers_41 : decode cX11_layers 41 = .ok (.goto 12, 3) := by decide +kernel
theorem dX11_layers_44 : decode cX11_layers 44 = .ok (.aload_n 0, 1) := by decide +kernel
theorem dX11_layers_45 : decode cX11_layers 45 = .ok (.getfield 88, 3) := by decide +kernel
theorem dX11_layers_48 : decode cX11_layers 48 = .ok (.getfield 363, 3) := by decide +kernel
theorem dX11_layers_51 : decode cX11_layers 51 = .ok (.iload_n 1, 1) := by decide +kernel
theorem dX11_layers_52 : decode cX11_layers 52 = .ok (.iaload, 1) := by decide +kernel
theorem dX11_layers_53 : decode cX11_layers 53 = .ok (.ireturn, 1) := by decide +kernel
set_option maxRecDepth 20000 in
theorem sX11_layers_0 {P : Option Value → AH → Prop} (h : AH) (r0 : Nat) (x1 : Int32) (hf : (isO h 11 r0) ∧ ((isO h 10 (gF h r0 13)) ∧ ((¬ (gI h (gF h r0 13) 4) = 0 → (¬ x1 = (-1) → (isA h 0 (gF h (gF h r0 13) 5)) ∧ ((¬ x1 < 0 → x1 < (gI h (gF h r0 13) 4) → vp_in x1 (ln (gF h (gF h r0 13) 5))) ∧ (∀ z9 : Int32, z9 = (if x1 < 0 then (-1) else (if x1 < (gI h (gF h r0 13) 4) then (gI h (gF h (gF h r0 13) 5) x1.toNatClampNeg) else (-1))) → (P (some (.int z9)) h)))) ∧ (x1 = (-1) → P (some (.int (gI h (gF h r0 13) 6))) h)) ∧ ((gI h (gF h r0 13) 4) = 0 → P (some (.int (-1))) h)))) : Rr mX11_layers 0 0 0 [(0, .ref r0), (1, .int x1)] [] h P := by
  refine R_aload_n dX11_layers_0 rfl 0 rfl ?_
  obtain ⟨ob1, hf⟩ := hf
  refine G11_13 dX11_layers_1 lfX11_88 ob1 ?_
  obtain ⟨ob2, hf⟩ := hf
  refine G10_4 dX11_layers_4 lfX11_357 ob2 ?_
  refine R_if_ne (tgt := 12) dX11_layers_7 (by decide) (fun b3 => ?_) (fun b3 => ?_)
  · have hf := hf.1 b3
    refine R_iload_n dX11_layers_12 rfl 1 rfl ?_
    refine R_iconst (v := (-1)) dX11_layers_13 (by decide) ?_
    refine R_icmp_ne (tgt := 25) dX11_layers_14 (by decide) (fun b4 => ?_) (fun b4 => ?_)
    · have hf := hf.1 b4
      refine R_iload_n dX11_layers_25 rfl 1 rfl ?_
      obtain ⟨ob7, hf⟩ := hf
      obtain ⟨ob8, hf⟩ := hf
      have key : ∀ z9 : Int32, z9 = (if x1 < 0 then (-1) else (if x1 < (gI h (gF h r0 13) 4) then (gI h (gF h (gF h r0 13) 5) x1.toNatClampNeg) else (-1))) → Rr mX11_layers 0 0 53 [] [.int z9] h P := by
        intro z9 ez9
        have hf := hf z9 ez9
        exact R_iret dX11_layers_53 rfl rfl hf
      refine R_if_lt (tgt := 40) dX11_layers_26 (by decide) (fun b5 => ?_) (fun b5 => ?_)
      · refine R_iconst (v := (-1)) dX11_layers_40 (by decide) ?_
        refine R_goto (tgt := 53) dX11_layers_41 (by decide) ?_
        exact R_sub [] rfl (key _ (by rw [if_pos b5]))
      · refine R_iload_n dX11_layers_29 rfl 1 rfl ?_
        refine R_aload_n dX11_layers_30 rfl 0 rfl ?_
        refine G11_13 dX11_layers_31 lfX11_88 ob1 ?_
        refine G10_4 dX11_layers_34 lfX11_357 ob2 ?_
        refine R_icmp_lt (tgt := 44) dX11_layers_37 (by decide) (fun b6 => ?_) (fun b6 => ?_)
        · refine R_aload_n dX11_layers_44 rfl 0 rfl ?_
          refine G11_13 dX11_layers_45 lfX11_88 ob1 ?_
          refine G10_5 dX11_layers_48 lfX11_363 ob2 ?_
          refine R_iload_n dX11_layers_51 rfl 1 rfl ?_
          refine R_iaload dX11_layers_52 ob7 (ob8 b5 b6) ?_
          exact R_sub [] rfl (key _ (by rw [if_neg b5, if_pos b6]))
        · refine R_iconst (v := (-1)) dX11_layers_40 (by decide) ?_
          refine R_goto (tgt := 53) dX11_layers_41 (by decide) ?_
          exact R_sub [] rfl (key _ (by rw [if_neg b5, if_neg b6]))
    · have hf := hf.2 b4
      refine R_aload_n dX11_layers_17 rfl 0 rfl ?_
      refine G11_13 dX11_layers_18 lfX11_88 ob1 ?_
      refine G10_6 dX11_layers_21 lfX11_360 ob2 ?_
      exact R_iret dX11_layers_24 rfl rfl hf
  · have hf := hf.2 b3
    refine R_iconst (v := (-1)) dX11_layers_10 (by decide) ?_
    exact R_iret dX11_layers_11 rfl rfl hf
theorem dX11_spread_0 : decode cX11_spread 0 = .ok (.aload_n 0, 1) := by decide +kernel
theorem dX11_spread_1 : decode cX11_spread 1 = .ok (.getfield 52, 3) := by decide +kernel
theorem dX11_spread_4 : decode cX11_spread 4 = .ok (.getfield 267, 3) := by decide +kernel
theorem dX11_spread_7 : decode cX11_spread 7 = .ok (.ifCond .ne 6, 3) := by decide +kernel
theorem dX11_spread_10 : decode cX11_spread 10 = .ok (.bipush (-99), 2) := by decide +kernel
theorem dX11_spread_12 : decode cX11_spread 12 = .ok (.ireturn, 1) := by decide +kernel
theorem dX11_spread_13 : decode cX11_spread 13 = .ok (.iload_n 1, 1) := by decide +kernel
theorem dX11_spread_14 : decode cX11_spread 14 = .ok (.lookupswitch 42 #[(0, 26), (1, 34)], 26) := by decide +kernel
theorem dX11_spread_40 : decode cX11_spread 40 = .ok (.aload_n 0, 1) := by decide +kernel
theorem dX11_spread_41 : decode cX11_spread 41 = .ok (.getfield 52, 3) := by decide +kernel
theorem dX11_spread_44 : decode cX11_spread 44 = .ok (.getfield 271, 3) := by decide +kernel
theorem dX11_spread_47 : decode cX11_spread 47 = .ok (.ireturn, 1) := by decide +kernel
theorem dX11_spread_48 : decode cX11_spread 48 = .ok (.aload_n 0, 1) := by decide +kernel
theorem dX11_spread_49 : decode cX11_spread 49 = .ok (.getfield 52, 3) := by decide +kernel
theorem dX11_spread_52 : decode cX11_spread 52 = .ok (.getfield 274, 3) := by decide +kernel
theorem dX11_spread_55 : decode cX11_spread 55 = .ok (.ireturn, 1) := by decide +kernel
theorem dX11_spread_56 : decode cX11_spread 56 = .ok (.bipush (-99), 2) := by decide +kernel
theorem dX11_spread_58 : decode cX11_spread 58 = .ok (.ireturn, 1) := by decide +kernel
set_option maxRecDepth 20000 in
theorem sX11_spread_0 {P : Option Value → AH → Prop} (h : AH) (r0 : Nat) (x1 : Int32) (hf : (isO h 11 r0) ∧ ((isO h 5 (gF h r0 6)) ∧ ((¬ (gI h (gF h r0 6) 9) = 0 → (x1 = 0 → P (some (.int (gI h (gF h r0 6) 10))) h) ∧ (¬ x1 = 0 → (x1 = 1 → P (some (.int (gI h (gF h r0 6) 11))) h) ∧ (¬ x1 = 1 → P (some (.int (-99))) h))) ∧ ((gI h (gF h r0 6) 9) = 0 → P (some (.int (-99))) h)))) : Rr mX11_spread 0 0 0 [(0, .ref r0), (1, .int x1)] [] h P := by
  refine R_aload_n dX11_spread_0 rfl 0 rfl ?_
  obtain ⟨ob1, hf⟩ := hf
  refine G11_6 dX11_spread_1 lfX11_52 ob1 ?_
  obtain ⟨ob2, hf⟩ := hf
  refine G5_9 dX11_spread_4 lfX11_267 ob2 ?_
  refine R_if_ne (tgt := 13) dX11_spread_7 (by decide) (fun b3 => ?_) (fun b3 => ?_)
  · have hf := hf.1 b3
    refine R_iload_n dX11_spread_13 rfl 1 rfl ?_
    by_cases b4 : x1 = 0
    · have hf := hf.1 b4
      refine R_lookup (off := 26) (tgt := 40) dX11_spread_14 (by decide) (by rw [b4]; decide) (by decide) ?_
      refine R_aload_n dX11_spread_40 rfl 0 rfl ?_
      refine G11_6 dX11_spread_41 lfX11_52 ob1 ?_
      refine G5_10 dX11_spread_44 lfX11_271 ob2 ?_
      exact R_iret dX11_spread_47 rfl rfl hf
    have hf := hf.2 b4
    by_cases b5 : x1 = 1
    · have hf := hf.1 b5
      refine R_lookup (off := 34) (tgt := 48) dX11_spread_14 (by decide) (by rw [b5]; decide) (by decide) ?_
      refine R_aload_n dX11_spread_48 rfl 0 rfl ?_
      refine G11_6 dX11_spread_49 lfX11_52 ob1 ?_
      refine G5_11 dX11_spread_52 lfX11_274 ob2 ?_
      exact R_iret dX11_spread_55 rfl rfl hf
    have hf := hf.2 b5
    refine R_lookup (off := 42) (tgt := 56) dX11_spread_14 (by decide) (by rw [lv_osw b4 (by decide)]; rw [lv_osw b5 (by decide)]; rfl) (by decide) ?_
    refine R_bipush (v := (-99)) dX11_spread_56 (by decide) ?_
    exact R_iret dX11_spread_58 rfl rfl hf
  · have hf := hf.2 b3
    refine R_bipush (v := (-99)) dX11_spread_10 (by decide) ?_
    exact R_iret dX11_spread_12 rfl rfl hf
theorem aX11_spread {h : AH} {P : Option Value → AH → Prop} {r0 : Nat} {x1 : Int32} (o0 : isO h 11 r0) (o1 : isO h 5 (gF h r0 6)) (k : P (some (.int (if (gI h (gF h r0 6) 9) = 0 then (-99) else (if x1 = 0 then (gI h (gF h r0 6) 10) else (if x1 = 1 then (gI h (gF h r0 6) 11) else (-99)))))) h) : Call mX11_spread [.ref r0, .int x1] h P :=
  Call.ofR (by decide +kernel) (Nat.le_of_ble_eq_true rfl) (sX11_spread_0 h r0 x1 (⟨o0, ⟨o1, ⟨fun b0 => ⟨fun b1 => by rw [if_neg b0, if_pos b1] at k; exact k, fun b1 => ⟨fun b2 => by rw [if_neg b0, if_neg b1, if_pos b2] at k; exact k, fun b2 => by rw [if_neg b0, if_neg b1, if_neg b2] at k; exact k⟩⟩, fun b0 => by rw [if_pos b0] at k; exact k⟩⟩⟩))
theorem dX11_turned_0 : decode cX11_turned 0 = .ok (.iload_n 1, 1) := by decide +kernel
theorem dX11_turned_1 : decode cX11_turned 1 = .ok (.ifCond .lt 14, 3) := by decide +kernel
theorem dX11_turned_4 : decode cX11_turned 4 = .ok (.iload_n 1, 1) := by decide +kernel
theorem dX11_turned_5 : decode cX11_turned 5 = .ok (.aload_n 0, 1) := by decide +kernel
theorem dX11_turned_6 : decode cX11_turned 6 = .ok (.getfield 45, 3) := by decide +kernel
theorem dX11_turned_9 : decode cX11_turned 9 = .ok (.getfield 215, 3) := by decide +kernel
theorem dX11_turned_12 : decode cX11_turned 12 = .ok (.if_icmp .lt 8, 3) := by decide +kernel
theorem dX11_turned_15 : decode cX11_turned 15 = .ok (.bipush (-99), 2) := by decide +kernel
theorem dX11_turned_17 : decode cX11_turned 17 = .ok (.goto 12, 3) := by decide +kernel
theorem dX11_turned_20 : decode cX11_turned 20 = .ok (.aload_n 0, 1) := by decide +kernel
theorem dX11_turned_21 : decode cX11_turned 21 = .ok (.getfield 45, 3) := by decide +kernel
theorem dX11_turned_24 : decode cX11_turned 24 = .ok (.getfield 217, 3) := by decide +kernel
theorem dX11_turned_27 : decode cX11_turned 27 = .ok (.iload_n 1, 1) := by decide +kernel
theorem dX11_turned_28 : decode cX11_turned 28 = .ok (.iaload, 1) := by decide +kernel
theorem dX11_turned_29 : decode cX11_turned 29 = .ok (.ireturn, 1) := by decide +kernel
set_option maxRecDepth 20000 in
theorem sX11_turned_0 {P : Option Value → AH → Prop} (h : AH) (r0 : Nat) (x1 : Int32) (hf : (isO h 11 r0) ∧ ((isO h 6 (gF h r0 5)) ∧ ((isA h 0 (gF h (gF h r0 5) 6)) ∧ ((¬ x1 < 0 → x1 < (gI h (gF h r0 5) 5) → vp_in x1 (ln (gF h (gF h r0 5) 6))) ∧ (∀ z7 : Int32, z7 = (if x1 < 0 then (-99) else (if x1 < (gI h (gF h r0 5) 5) then (gI h (gF h (gF h r0 5) 6) x1.toNatClampNeg) else (-99))) → (P (some (.int z7)) h)))))) : Rr mX11_turned 0 0 0 [(0, .ref r0), (1, .int x1)] [] h P := by
  refine R_iload_n dX11_turned_0 rfl 1 rfl ?_
  obtain ⟨ob2, hf⟩ := hf
  obtain ⟨ob3, hf⟩ := hf
  obtain ⟨ob5, hf⟩ := hf
  obtain ⟨ob6, hf⟩ := hf
  have key : ∀ z7 : Int32, z7 = (if x1 < 0 then (-99) else (if x1 < (gI h (gF h r0 5) 5) then (gI h (gF h (gF h r0 5) 6) x1.toNatClampNeg) else (-99))) → Rr mX11_turned 0 0 29 [] [.int z7] h P := by
    intro z7 ez7
    have hf := hf z7 ez7
    exact R_iret dX11_turned_29 rfl rfl hf
  refine R_if_lt (tgt := 15) dX11_turned_1 (by decide) (fun b1 => ?_) (fun b1 => ?_)
  · refine R_bipush (v := (-99)) dX11_turned_15 (by decide) ?_
    refine R_goto (tgt := 29) dX11_turned_17 (by decide) ?_
    exact R_sub [] rfl (key _ (by rw [if_pos b1]))
  · refine R_iload_n dX11_turned_4 rfl 1 rfl ?_
    refine R_aload_n dX11_turned_5 rfl 0 rfl ?_
    refine G11_5 dX11_turned_6 lfX11_45 ob2 ?_
    refine G6_5 dX11_turned_9 lfX11_215 ob3 ?_
    refine R_icmp_lt (tgt := 20) dX11_turned_12 (by decide) (fun b4 => ?_) (fun b4 => ?_)
    · refine R_aload_n dX11_turned_20 rfl 0 rfl ?_
      refine G11_5 dX11_turned_21 lfX11_45 ob2 ?_
      refine G6_6 dX11_turned_24 lfX11_217 ob3 ?_
      refine R_iload_n dX11_turned_27 rfl 1 rfl ?_
      refine R_iaload dX11_turned_28 ob5 (ob6 b1 b4) ?_
      exact R_sub [] rfl (key _ (by rw [if_neg b1, if_pos b4]))
    · refine R_bipush (v := (-99)) dX11_turned_15 (by decide) ?_
      refine R_goto (tgt := 29) dX11_turned_17 (by decide) ?_
      exact R_sub [] rfl (key _ (by rw [if_neg b1, if_neg b4]))
theorem aX11_turned {h : AH} {P : Option Value → AH → Prop} {r0 : Nat} {x1 : Int32} (o0 : isO h 11 r0) (o1 : isO h 6 (gF h r0 5)) (o2 : isA h 0 (gF h (gF h r0 5) 6)) (o3 : ¬ x1 < 0 → x1 < (gI h (gF h r0 5) 5) → vp_in x1 (ln (gF h (gF h r0 5) 6))) (k : P (some (.int (if x1 < 0 then (-99) else (if x1 < (gI h (gF h r0 5) 5) then (gI h (gF h (gF h r0 5) 6) x1.toNatClampNeg) else (-99))))) h) : Call mX11_turned [.ref r0, .int x1] h P :=
  Call.ofR (by decide +kernel) (Nat.le_of_ble_eq_true rfl) (sX11_turned_0 h r0 x1 (⟨o0, ⟨o1, ⟨o2, ⟨o3, fun z7 ez7 => by subst ez7; exact (k)⟩⟩⟩⟩))
theorem dX11_turnedAcross_0 : decode cX11_turnedAcross 0 = .ok (.iload_n 1, 1) := by decide +kernel
theorem dX11_turnedAcross_1 : decode cX11_turnedAcross 1 = .ok (.iload_n 2, 1) := by decide +kernel
theorem dX11_turnedAcross_2 : decode cX11_turnedAcross 2 = .ok (.imul, 1) := by decide +kernel
theorem dX11_turnedAcross_3 : decode cX11_turnedAcross 3 = .ok (.iload_n 0, 1) := by decide +kernel
theorem dX11_turnedAcross_4 : decode cX11_turnedAcross 4 = .ok (.iload_n 3, 1) := by decide +kernel
theorem dX11_turnedAcross_5 : decode cX11_turnedAcross 5 = .ok (.imul, 1) := by decide +kernel
theorem dX11_turnedAcross_6 : decode cX11_turnedAcross 6 = .ok (.isub, 1) := by decide +kernel
theorem dX11_turnedAcross_7 : decode cX11_turnedAcross 7 = .ok (.bipush 100, 2) := by decide +kernel
theorem dX11_turnedAcross_9 : decode cX11_turnedAcross 9 = .ok (.idiv, 1) := by decide +kernel
theorem dX11_turnedAcross_10 : decode cX11_turnedAcross 10 = .ok (.ireturn, 1) := by decide +kernel
set_option maxRecDepth 20000 in
theorem sX11_turnedAcross_0 {P : Option Value → AH → Prop} (h : AH) (x0 : Int32) (x1 : Int32) (x2 : Int32) (x3 : Int32) (hf : P (some (.int (((x1 * x2) - (x0 * x3)) / 100))) h) : Rr mX11_turnedAcross 0 0 0 [(0, .int x0), (1, .int x1), (2, .int x2), (3, .int x3)] [] h P := by
  refine R_iload_n dX11_turnedAcross_0 rfl 1 rfl ?_
  refine R_iload_n dX11_turnedAcross_1 rfl 2 rfl ?_
  refine R_imul dX11_turnedAcross_2 ?_
  refine R_iload_n dX11_turnedAcross_3 rfl 0 rfl ?_
  refine R_iload_n dX11_turnedAcross_4 rfl 3 rfl ?_
  refine R_imul dX11_turnedAcross_5 ?_
  refine R_isub dX11_turnedAcross_6 ?_
  refine R_bipush (v := 100) dX11_turnedAcross_7 (by decide) ?_
  refine R_idiv dX11_turnedAcross_9 (by decide) ?_
  exact R_iret dX11_turnedAcross_10 rfl rfl hf
theorem aX11_turnedAcross {h : AH} {P : Option Value → AH → Prop} {x0 : Int32} {x1 : Int32} {x2 : Int32} {x3 : Int32}  (k : P (some (.int (((x1 * x2) - (x0 * x3)) / 100))) h) : Call mX11_turnedAcross [.int x0, .int x1, .int x2, .int x3] h P :=
  Call.ofR (by decide +kernel) (Nat.le_of_ble_eq_true rfl) (sX11_turnedAcross_0 h x0 x1 x2 x3 (k))
theorem dX11_turnedUp_0 : decode cX11_turnedUp 0 = .ok (.iload_n 0, 1) := by decide +kernel
theorem dX11_turnedUp_1 : decode cX11_turnedUp 1 = .ok (.iload_n 2, 1) := by decide +kernel
theorem dX11_turnedUp_2 : decode cX11_turnedUp 2 = .ok (.imul, 1) := by decide +kernel
theorem dX11_turnedUp_3 : decode cX11_turnedUp 3 = .ok (.iload_n 1, 1) := by decide +kernel
theorem dX11_turnedUp_4 : decode cX11_turnedUp 4 = .ok (.iload_n 3, 1) := by decide +kernel
theorem dX11_turnedUp_5 : decode cX11_turnedUp 5 = .ok (.imul, 1) := by decide +kernel
theorem dX11_turnedUp_6 : decode cX11_turnedUp 6 = .ok (.iadd, 1) := by decide +kernel
theorem dX11_turnedUp_7 : decode cX11_turnedUp 7 = .ok (.bipush 100, 2) := by decide +kernel
theorem dX11_turnedUp_9 : decode cX11_turnedUp 9 = .ok (.idiv, 1) := by decide +kernel
theorem dX11_turnedUp_10 : decode cX11_turnedUp 10 = .ok (.ireturn, 1) := by decide +kernel
set_option maxRecDepth 20000 in
theorem sX11_turnedUp_0 {P : Option Value → AH → Prop} (h : AH) (x0 : Int32) (x1 : Int32) (x2 : Int32) (x3 : Int32) (hf : P (some (.int (((x0 * x2) + (x1 * x3)) / 100))) h) : Rr mX11_turnedUp 0 0 0 [(0, .int x0), (1, .int x1), (2, .int x2), (3, .int x3)] [] h P := by
  refine R_iload_n dX11_turnedUp_0 rfl 0 rfl ?_
  refine R_iload_n dX11_turnedUp_1 rfl 2 rfl ?_
  refine R_imul dX11_turnedUp_2 ?_
  refine R_iload_n dX11_turnedUp_3 rfl 1 rfl ?_
  refine R_iload_n dX11_turnedUp_4 rfl 3 rfl ?_
  refine R_imul dX11_turnedUp_5 ?_
  refine R_iadd dX11_turnedUp_6 ?_
  refine R_bipush (v := 100) dX11_turnedUp_7 (by decide) ?_
  refine R_idiv dX11_turnedUp_9 (by decide) ?_
  exact R_iret dX11_turnedUp_10 rfl rfl hf
theorem aX11_turnedUp {h : AH} {P : Option Value → AH → Prop} {x0 : Int32} {x1 : Int32} {x2 : Int32} {x3 : Int32}  (k : P (some (.int (((x0 * x2) + (x1 * x3)) / 100))) h) : Call mX11_turnedUp [.int x0, .int x1, .int x2, .int x3] h P :=
  Call.ofR (by decide +kernel) (Nat.le_of_ble_eq_true rfl) (sX11_turnedUp_0 h x0 x1 x2 x3 (k))
theorem dX12_acrossAt_0 : decode cX12_acrossAt 0 = .ok (.iload_n 0, 1) := by decide +kernel
theorem dX12_acrossAt_1 : decode cX12_acrossAt 1 = .ok (.iload_n 2, 1) := by decide +kernel
theorem dX12_acrossAt_2 : decode cX12_acrossAt 2 = .ok (.iload_n 3, 1) := by decide +kernel
theorem dX12_acrossAt_3 : decode cX12_acrossAt 3 = .ok (.imul, 1) := by decide +kernel
theorem dX12_acrossAt_4 : decode cX12_acrossAt 4 = .ok (.iload_n 1, 1) := by decide +kernel
theorem dX12_acrossAt_5 : decode cX12_acrossAt 5 = .ok (.iload 4, 2) := by decide +kernel
theorem dX12_acrossAt_7 : decode cX12_acrossAt 7 = .ok (.imul, 1) := by decide +kernel
theorem dX12_acrossAt_8 : decode cX12_acrossAt 8 = .ok (.isub, 1) := by decide +kernel
theorem dX12_acrossAt_9 : decode cX12_acrossAt 9 = .ok (.bipush 100, 2) := by decide +kernel
theorem dX12_acrossAt_11 : decode cX12_acrossAt 11 = .ok (.idiv, 1) := by decide +kernel
theorem dX12_acrossAt_12 : decode cX12_acrossAt 12 = .ok (.iadd, 1) := by decide +kernel
theorem dX12_acrossAt_13 : decode cX12_acrossAt 13 = .ok (.ireturn, 1) := by decide +kernel
set_option maxRecDepth 20000 in
theorem sX12_acrossAt_0 {P : Option Value → AH → Prop} (h : AH) (x0 : Int32) (x1 : Int32) (x2 : Int32) (x3 : Int32) (x4 : Int32) (hf : P (some (.int (x0 + (((x2 * x3) - (x1 * x4)) / 100)))) h) : Rr mX12_acrossAt 0 0 0 [(0, .int x0), (1, .int x1), (2, .int x2), (3, .int x3), (4, .int x4)] [] h P := by
  refine R_iload_n dX12_acrossAt_0 rfl 0 rfl ?_
  refine R_iload_n dX12_acrossAt_1 rfl 2 rfl ?_
  refine R_iload_n dX12_acrossAt_2 rfl 3 rfl ?_
  refine R_imul dX12_acrossAt_3 ?_
  refine R_iload_n dX12_acrossAt_4 rfl 1 rfl ?_
  refine R_iload dX12_acrossAt_5 4 rfl ?_
  refine R_imul dX12_acrossAt_7 ?_
  refine R_isub dX12_acrossAt_8 ?_
  refine R_bipush (v := 100) dX12_acrossAt_9 (by decide) ?_
  refine R_idiv dX12_acrossAt_11 (by decide) ?_
  refine R_iadd dX12_acrossAt_12 ?_
  exact R_iret dX12_acrossAt_13 rfl rfl hf
theorem aX12_acrossAt {h : AH} {P : Option Value → AH → Prop} {x0 : Int32} {x1 : Int32} {x2 : Int32} {x3 : Int32} {x4 : Int32}  (k : P (some (.int (x0 + (((x2 * x3) - (x1 * x4)) / 100)))) h) : Call mX12_acrossAt [.int x0, .int x1, .int x2, .int x3, .int x4] h P :=
  Call.ofR (by decide +kernel) (Nat.le_of_ble_eq_true rfl) (sX12_acrossAt_0 h x0 x1 x2 x3 x4 (k))
theorem dX12_ask_0 : decode cX12_ask 0 = .ok (.aload_n 0, 1) := by decide +kernel
theorem dX12_ask_1 : decode cX12_ask 1 = .ok (.iconst 0, 1) := by decide +kernel
theorem dX12_ask_2 : decode cX12_ask 2 = .ok (.putfield 273, 3) := by decide +kernel
theorem dX12_ask_5 : decode cX12_ask 5 = .ok (.iconst 0, 1) := by decide +kernel
theorem dX12_ask_6 : decode cX12_ask 6 = .ok (.istore_n 3, 1) := by decide +kernel
theorem dX12_ask_7 : decode cX12_ask 7 = .ok (.iload_n 3, 1) := by decide +kernel
theorem dX12_ask_8 : decode cX12_ask 8 = .ok (.aload_n 0, 1) := by decide +kernel
theorem dX12_ask_9 : decode cX12_ask 9 = .ok (.getfield 199, 3) := by decide +kernel
theorem dX12_ask_12 : decode cX12_ask 12 = .ok (.if_icmp .ge 187, 3) := by decide +kernel
theorem dX12_ask_15 : decode cX12_ask 15 = .ok (.aload_n 0, 1) := by decide +kernel
theorem dX12_ask_16 : decode cX12_ask 16 = .ok (.getfield 48, 3) := by decide +kernel
theorem dX12_ask_19 : decode cX12_ask 19 = .ok (.iload_n 3, 1) := by decide +kernel
theorem dX12_ask_20 : decode cX12_ask 20 = .ok (.iaload, 1) := by decide +kernel
theorem dX12_ask_21 : decode cX12_ask 21 = .ok (.iload_n 1, 1) := by decide +kernel
theorem dX12_ask_22 : decode cX12_ask 22 = .ok (.if_icmp .ne 171, 3) := by decide +kernel
theorem dX12_ask_25 : decode cX12_ask 25 = .ok (.aload_n 0, 1) := by decide +kernel
theorem dX12_ask_26 : decode cX12_ask 26 = .ok (.getfield 45, 3) := by decide +kernel
theorem dX12_ask_29 : decode cX12_ask 29 = .ok (.iload_n 3, 1) := by decide +kernel
theorem dX12_ask_30 : decode cX12_ask 30 = .ok (.iaload, 1) := by decide +kernel
theorem dX12_ask_31 : decode cX12_ask 31 = .ok (.iload_n 2, 1) := by decide +kernel
theorem dX12_ask_32 : decode cX12_ask 32 = .ok (.if_icmp .le 6, 3) := by decide +kernel
theorem dX12_ask_35 : decode cX12_ask 35 = .ok (.goto 158, 3) := by decide +kernel
theorem dX12_ask_38 : decode cX12_ask 38 = .ok (.aload_n 0, 1) := by decide +kernel
theorem dX12_ask_39 : decode cX12_ask 39 = .ok (.getfield 72, 3) := by decide +kernel
theorem dX12_ask_42 : decode cX12_ask 42 = .ok (.aload_n 0, 1) := by decide +kernel
theorem dX12_ask_43 : decode cX12_ask 43 = .ok (.getfield 273, 3) := by decide +kernel
theorem dX12_ask_46 : decode cX12_ask 46 = .ok (.aload_n 0, 1) := by decide +kernel
theorem dX12_ask_47 : decode cX12_ask 47 = .ok (.getfield 21, 3) := by decide +kernel
theorem dX12_ask_50 : decode cX12_ask 50 = .ok (.aload_n 0, 1) := by decide +kernel
theorem dX12_ask_51 : decode cX12_ask 51 = .ok (.getfield 51, 3) := by decide +kernel
theorem dX12_ask_54 : decode cX12_ask 54 = .ok (.iload_n 3, 1) := by decide +kernel
theorem dX12_ask_55 : decode cX12_ask 55 = .ok (.iaload, 1) := by decide +kernel
theorem dX12_ask_56 : decode cX12_ask 56 = .ok (.iaload, 1) := by decide +kernel
theorem dX12_ask_57 : decode cX12_ask 57 = .ok (.iastore, 1) := by decide +kernel
theorem dX12_ask_58 : decode cX12_ask 58 = .ok (.aload_n 0, 1) := by decide +kernel
theorem dX12_ask_59 : decode cX12_ask 59 = .ok (.getfield 75, 3) := by decide +kernel
theorem dX12_ask_62 : decode cX12_ask 62 = .ok (.aload_n 0, 1) := by decide +kernel
theorem dX12_ask_63 : decode cX12_ask 63 = .ok (.getfield 273, 3) := by decide +kernel
theorem dX12_ask_66 : decode cX12_ask 66 = .ok (.aload_n 0, 1) := by decide +kernel
theorem dX12_ask_67 : decode cX12_ask 67 = .ok (.getfield 24, 3) := by decide +kernel
theorem dX12_ask_70 : decode cX12_ask 70 = .ok (.aload_n 0, 1) := by decide +kernel
theorem dX12_ask_71 : decode cX12_ask 71 = .ok (.getfield 51, 3) := by decide +kernel
theorem dX12_ask_74 : decode cX12_ask 74 = .ok (.iload_n 3, 1) := by decide +kernel
theorem dX12_ask_75 : decode cX12_ask 75 = .ok (.iaload, 1) := by decide +kernel
theorem dX12_ask_76 : decode cX12_ask 76 = .ok (.iaload, 1) := by decide +kernel
theorem dX12_ask_77 : decode cX12_ask 77 = .ok (.iastore, 1) := by decide +kernel
theorem dX12_ask_78 : decode cX12_ask 78 = .ok (.aload_n 0, 1) := by decide +kernel
theorem dX12_ask_79 : decode cX12_ask 79 = .ok (.getfield 78, 3) := by decide +kernel
theorem dX12_ask_82 : decode cX12_ask 82 = .ok (.aload_n 0, 1) := by decide +kernel
theorem dX12_ask_83 : decode cX12_ask 83 = .ok (.getfield 273, 3) := by decide +kernel
theorem dX12_ask_86 : decode cX12_ask 86 = .ok (.aload_n 0, 1) := by decide +kernel
theorem dX12_ask_87 : decode cX12_ask 87 = .ok (.getfield 54, 3) := by decide +kernel
theorem dX12_ask_90 : decode cX12_ask 90 = .ok (.iload_n 3, 1) := by decide +kernel
theorem dX12_ask_91 : decode cX12_ask 91 = .ok (.iaload, 1) := by decide +kernel
theorem dX12_ask_92 : decode cX12_ask 92 = .ok (.iastore, 1) := by decide +kernel
theorem dX12_ask_93 : decode cX12_ask 93 = .ok (.aload_n 0, 1) := by decide +kernel
theorem dX12_ask_94 : decode cX12_ask 94 = .ok (.getfield 81, 3) := by decide +kernel
theorem dX12_ask_97 : decode cX12_ask 97 = .ok (.aload_n 0, 1) := by decide +kernel
theorem dX12_ask_98 : decode cX12_ask 98 = .ok (.getfield 273, 3) := by decide +kernel
theorem dX12_ask_101 : decode cX12_ask 101 = .ok (.aload_n 0, 1) := by decide +kernel
theorem dX12_ask_102 : decode cX12_ask 102 = .ok (.getfield 57, 3) := by decide +kernel
theorem dX12_ask_105 : decode cX12_ask 105 = .ok (.iload_n 3, 1) := by decide +kernel
theorem dX12_ask_106 : decode cX12_ask 106 = .ok (.iaload, 1) := by decide +kernel
theorem dX12_ask_107 : decode cX12_ask 107 = .ok (.iastore, 1) := by decide +kernel
theorem dX12_ask_108 : decode cX12_ask 108 = .ok (.iconst 0, 1) := by decide +kernel
theorem dX12_ask_109 : decode cX12_ask 109 = .ok (.istore 4, 2) := by decide +kernel
theorem dX12_ask_111 : decode cX12_ask 111 = .ok (.iload 4, 2) := by decide +kernel
theorem dX12_ask_113 : decode cX12_ask 113 = .ok (.aload_n 0, 1) := by decide +kernel
theorem dX12_ask_114 : decode cX12_ask 114 = .ok (.getfield 202, 3) := by decide +kernel
theorem dX12_ask_117 : decode cX12_ask 117 = .ok (.if_icmp .ge 66, 3) := by decide +kernel
theorem dX12_ask_120 : decode cX12_ask 120 = .ok (.aload_n 0, 1) := by decide +kernel
theorem dX12_ask_121 : decode cX12_ask 121 = .ok (.getfield 63, 3) := by decide +kernel
theorem dX12_ask_124 : decode cX12_ask 124 = .ok (.iload 4, 2) := by decide +kernel
theorem dX12_ask_126 : decode cX12_ask 126 = .ok (.iaload, 1) := by decide +kernel
theorem dX12_ask_127 : decode cX12_ask 127 = .ok (.iload_n 3, 1) := by decide +kernel
theorem dX12_ask_128 : decode cX12_ask 128 = .ok (.if_icmp .ne 49, 3) := by decide +kernel
theorem dX12_ask_131 : decode cX12_ask 131 = .ok (.aload_n 0, 1) := by decide +kernel
theorem dX12_ask_132 : decode cX12_ask 132 = .ok (.getfield 60, 3) := by decide +kernel
theorem dX12_ask_135 : decode cX12_ask 135 = .ok (.iload 4, 2) := by decide +kernel
theorem dX12_ask_137 : decode cX12_ask 137 = .ok (.iaload, 1) := by decide +kernel
theorem dX12_ask_138 : decode cX12_ask 138 = .ok (.iload_n 2, 1) := by decide +kernel
theorem dX12_ask_139 : decode cX12_ask 139 = .ok (.if_icmp .le 6, 3) := by decide +kernel
theorem dX12_ask_142 : decode cX12_ask 142 = .ok (.goto 35, 3) := by decide +kernel
theorem dX12_ask_145 : decode cX12_ask 145 = .ok (.aload_n 0, 1) := by decide +kernel
theorem dX12_ask_146 : decode cX12_ask 146 = .ok (.getfield 78, 3) := by decide +kernel
theorem dX12_ask_149 : decode cX12_ask 149 = .ok (.aload_n 0, 1) := by decide +kernel
theorem dX12_ask_150 : decode cX12_ask 150 = .ok (.getfield 273, 3) := by decide +kernel
theorem dX12_ask_153 : decode cX12_ask 153 = .ok (.aload_n 0, 1) := by decide +kernel
theorem dX12_ask_154 : decode cX12_ask 154 = .ok (.getfield 66, 3) := by decide +kernel
theorem dX12_ask_157 : decode cX12_ask 157 = .ok (.iload 4, 2) := by decide +kernel
theorem dX12_ask_159 : decode cX12_ask 159 = .ok (.iaload, 1) := by decide +kernel
theorem dX12_ask_160 : decode cX12_ask 160 = .ok (.iastore, 1) := by decide +kernel
theorem dX12_ask_161 : decode cX12_ask 161 = .ok (.aload_n 0, 1) := by decide +kernel
theorem dX12_ask_162 : decode cX12_ask 162 = .ok (.getfield 81, 3) := by decide +kernel
theorem dX12_ask_165 : decode cX12_ask 165 = .ok (.aload_n 0, 1) := by decide +kernel
theorem dX12_ask_166 : decode cX12_ask 166 = .ok (.getfield 273, 3) := by decide +kernel
theorem dX12_ask_169 : decode cX12_ask 169 = .ok (.aload_n 0, 1) := by decide +kernel
theorem dX12_ask_170 : decode cX12_ask 170 = .ok (.getfield 69, 3) := by decide +kernel
theorem dX12_ask_173 : decode cX12_ask 173 = .ok (.iload 4, 2) := by decide +kernel
theorem dX12_ask_175 : decode cX12_ask 175 = .ok (.iaload, 1) := by decide +kernel
theorem dX12_ask_176 : decode cX12_ask 176 = .ok (.iastore, 1) := by decide +kernel
theorem dX12_ask_177 : decode cX12_ask 177 = .ok (.iinc 4 1, 3) := by decide +kernel
theorem dX12_ask_180 : decode cX12_ask 180 = .ok (.goto (-69), 3) := by decide +kernel
theorem dX12_ask_183 : decode cX12_ask 183 = .ok (.aload_n 0, 1) := by decide +kernel
theorem dX12_ask_184 : decode cX12_ask 184 = .ok (.dup, 1) := by decide +kernel
theorem dX12_ask_185 : decode cX12_ask 185 = .ok (.getfield 273, 3) := by decide +kernel
theorem dX12_ask_188 : decode cX12_ask 188 = .ok (.iconst 1, 1) := by decide +kernel
theorem dX12_ask_189 : decode cX12_ask 189 = .ok (.iadd, 1) := by decide +kernel
theorem dX12_ask_190 : decode cX12_ask 190 = .ok (.putfield 273, 3) := by decide +kernel
theorem dX12_ask_193 : decode cX12_ask 193 = .ok (.iinc 3 1, 3) := by decide +kernel
theorem dX12_ask_196 : decode cX12_ask 196 = .ok (.goto (-189), 3) := by decide +kernel
theorem dX12_ask_199 : decode cX12_ask 199 = .ok (.return_, 1) := by decide +kernel
set_option maxRecDepth 20000 in
theorem sX12_ask_0 {P : Option Value → AH → Prop} (h : AH) (r0 : Nat) (x1 : Int32) (x2 : Int32) (hf : (isO h 12 r0) ∧ (Rr mX12_ask 0 0 7 [(0, .ref r0), (1, .int x1), (2, .int x2), (3, .int 0)] [] (sI h r0 35 0) P)) : Rr mX12_ask 0 0 0 [(0, .ref r0), (1, .int x1), (2, .int x2)] [] h P := by
  refine R_aload_n dX12_ask_0 rfl 0 rfl ?_
  refine R_iconst (v := 0) dX12_ask_1 (by decide) ?_
  obtain ⟨ob1, hf⟩ := hf
  refine S12_35 dX12_ask_2 lfX12_273 ob1 ?_
  refine R_iconst (v := 0) dX12_ask_5 (by decide) ?_
  refine R_istore_n dX12_ask_6 rfl (by decide) rfl ?_
  exact R_sub [1, 2, 3, 0] rfl hf
set_option maxRecDepth 20000 in
theorem sX12_ask_7 {P : Option Value → AH → Prop} (h : AH) (r0 : Nat) (x1 : Int32) (x2 : Int32) (x3 : Int32) (hf : (isO h 12 r0) ∧ (((gI h r0 23) ≤ x3 → P none h) ∧ (¬ (gI h r0 23) ≤ x3 → (isA h 0 (gF h r0 27)) ∧ ((vp_in x3 (ln (gF h r0 27))) ∧ ((¬ (gI h (gF h r0 27) x3.toNatClampNeg) = x1 → Rr mX12_ask 0 0 7 [(0, .ref r0), (1, .int x1), (2, .int x2), (3, .int (x3 + 1))] [] h P) ∧ ((gI h (gF h r0 27) x3.toNatClampNeg) = x1 → (isA h 0 (gF h r0 26)) ∧ ((vp_in x3 (ln (gF h r0 26))) ∧ (((gI h (gF h r0 26) x3.toNatClampNeg) ≤ x2 → (isA h 0 (gF h r0 28)) ∧ ((vp_in x3 (ln (gF h r0 28))) ∧ ((isA h 0 (gF h r0 12)) ∧ ((vp_in (gI h (gF h r0 28) x3.toNatClampNeg) (ln (gF h r0 12))) ∧ ((isA h 0 (gF h r0 36)) ∧ ((vp_in (gI h r0 35) (ln (gF h r0 36))) ∧ ((isA h 0 (gF h r0 13)) ∧ ((vp_in (gI (sI h (gF h r0 36) (gI h r0 35).toNatClampNeg (gI h (gF h r0 12) (gI h (gF h r0 28) x3.toNatClampNeg).toNatClampNeg)) (gF h r0 28) x3.toNatClampNeg) (ln (gF h r0 13))) ∧ ((isA h 0 (gF h r0 37)) ∧ ((vp_in (gI h r0 35) (ln (gF h r0 37))) ∧ ((isA h 0 (gF h r0 29)) ∧ ((vp_in x3 (ln (gF h r0 29))) ∧ ((isA h 0 (gF h r0 38)) ∧ ((vp_in (gI h r0 35) (ln (gF h r0 38))) ∧ ((isA h 0 (gF h r0 30)) ∧ ((vp_in x3 (ln (gF h r0 30))) ∧ ((isA h 0 (gF h r0 39)) ∧ ((vp_in (gI h r0 35) (ln (gF h r0 39))) ∧ (Rr mX12_ask 0 0 111 [(0, .ref r0), (1, .int x1), (2, .int x2), (3, .int x3), (4, .int 0)] [] (sI (sI (sI (sI h (gF h r0 36) (gI h r0 35).toNatClampNeg (gI h (gF h r0 12) (gI h (gF h r0 28) x3.toNatClampNeg).toNatClampNeg)) (gF h r0 37) (gI h r0 35).toNatClampNeg (gI (sI h (gF h r0 36) (gI h r0 35).toNatClampNeg (gI h (gF h r0 12) (gI h (gF h r0 28) x3.toNatClampNeg).toNatClampNeg)) (gF h r0 13) (gI (sI h (gF h r0 36) (gI h r0 35).toNatClampNeg (gI h (gF h r0 12) (gI h (gF h r0 28) x3.toNatClampNeg).toNatClampNeg)) (gF h r0 28) x3.toNatClampNeg).toNatClampNeg)) (gF h r0 38) (gI h r0 35).toNatClampNeg (gI (sI (sI h (gF h r0 36) (gI h r0 35).toNatClampNeg (gI h (gF h r0 12) (gI h (gF h r0 28) x3.toNatClampNeg).toNatClampNeg)) (gF h r0 37) (gI h r0 35).toNatClampNeg (gI (sI h (gF h r0 36) (gI h r0 35).toNatClampNeg (gI h (gF h r0 12) (gI h (gF h r0 28) x3.toNatClampNeg).toNatClampNeg)) (gF h r0 13) (gI (sI h (gF h r0 36) (gI h r0 35).toNatClampNeg (gI h (gF h r0 12) (gI h (gF h r0 28) x3.toNatClampNeg).toNatClampNeg)) (gF h r0 28) x3.toNatClampNeg).toNatClampNeg)) (gF h r0 29) x3.toNatClampNeg)) (gF h r0 39) (gI h r0 35).toNatClampNeg (gI (sI (sI (sI h (gF h r0 36) (gI h r0 35).toNatClampNeg (gI h (gF h r0 12) (gI h (gF h r0 28) x3.toNatClampNeg).toNatClampNeg)) (gF h r0 37) (gI h r0 35).toNatClampNeg (gI (sI h (gF h r0 36) (gI h r0 35).toNatClampNeg (gI h (gF h r0 12) (gI h (gF h r0 28) x3.toNatClampNeg).toNatClampNeg)) (gF h r0 13) (gI (sI h (gF h r0 36) (gI h r0 35).toNatClampNeg (gI h (gF h r0 12) (gI h (gF h r0 28) x3.toNatClampNeg).toNatClampNeg)) (gF h r0 28) x3.toNatClampNeg).toNatClampNeg)) (gF h r0 38) (gI h r0 35).toNatClampNeg (gI (sI (sI h (gF h r0 36) (gI h r0 35).toNatClampNeg (gI h (gF h r0 12) (gI h (gF h r0 28) x3.toNatClampNeg).toNatClampNeg)) (gF h r0 37) (gI h r0 35).toNatClampNeg (gI (sI h (gF h r0 36) (gI h r0 35).toNatClampNeg (gI h (gF h r0 12) (gI h (gF h r0 28) x3.toNatClampNeg).toNatClampNeg)) (gF h r0 13) (gI (sI h (gF h r0 36) (gI h r0 35).toNatClampNeg (gI h (gF h r0 12) (gI h (gF h r0 28) x3.toNatClampNeg).toNatClampNeg)) (gF h r0 28) x3.toNatClampNeg).toNatClampNeg)) (gF h r0 29) x3.toNatClampNeg)) (gF h r0 30) x3.toNatClampNeg)) P))))))))))))))))))) ∧ (¬ (gI h (gF h r0 26) x3.toNatClampNeg) ≤ x2 → Rr mX12_ask 0 0 7 [(0, .ref r0), (1, .int x1), (2, .int x2), (3, .int (x3 + 1))] [] h P))))))))) : Rr mX12_ask 0 0 7 [(0, .ref r0), (1, .int x1), (2, .int x2), (3, .int x3)] [] h P := by
  refine R_iload_n dX12_ask_7 rfl 3 rfl ?_
  refine R_aload_n dX12_ask_8 rfl 0 rfl ?_
  obtain ⟨ob1, hf⟩ := hf
  refine G12_23 dX12_ask_9 lfX12_199 ob1 ?_
  refine R_icmp_ge (tgt := 199) dX12_ask_12 (by decide) (fun b2 => ?_) (fun b2 => ?_)
  · have hf := hf.1 b2
    exact R_ret dX12_ask_199 rfl hf
  · have hf := hf.2 b2
    refine R_aload_n dX12_ask_15 rfl 0 rfl ?_
    refine G12_27 dX12_ask_16 lfX12_48 ob1 ?_
    refine R_iload_n dX12_ask_19 rfl 3 rfl ?_
    obtain ⟨ob3, hf⟩ := hf
    obtain ⟨ob4, hf⟩ := hf
    refine R_iaload dX12_ask_20 ob3 ob4 ?_
    refine R_iload_n dX12_ask_21 rfl 1 rfl ?_
    refine R_icmp_ne (tgt := 193) dX12_ask_22 (by decide) (fun b5 => ?_) (fun b5 => ?_)
    · have hf := hf.1 b5
      refine R_iinc (v := x3 + 1) dX12_ask_193 3 rfl rfl (by decide) rfl ?_
      refine R_goto (tgt := 7) dX12_ask_196 (by decide) ?_
      exact R_sub [1, 2, 3, 0] rfl hf
    · have hf := hf.2 b5
      refine R_aload_n dX12_ask_25 rfl 0 rfl ?_
      refine G12_26 dX12_ask_26 lfX12_45 ob1 ?_
      refine R_iload_n dX12_ask_29 rfl 3 rfl ?_
      obtain ⟨ob6, hf⟩ := hf
      obtain ⟨ob7, hf⟩ := hf
      refine R_iaload dX12_ask_30 ob6 ob7 ?_
      refine R_iload_n dX12_ask_31 rfl 2 rfl ?_
      refine R_icmp_le (tgt := 38) dX12_ask_32 (by decide) (fun b8 => ?_) (fun b8 => ?_)
      · have hf := hf.1 b8
        refine R_aload_n dX12_ask_38 rfl 0 rfl ?_
        refine G12_36 dX12_ask_39 lfX12_72 ob1 ?_
        refine R_aload_n dX12_ask_42 rfl 0 rfl ?_
        refine G12_35 dX12_ask_43 lfX12_273 ob1 ?_
        refine R_aload_n dX12_ask_46 rfl 0 rfl ?_
        refine G12_12 dX12_ask_47 lfX12_21 ob1 ?_
        refine R_aload_n dX12_ask_50 rfl 0 rfl ?_
        refine G12_28 dX12_ask_51 lfX12_51 ob1 ?_
        refine R_iload_n dX12_ask_54 rfl 3 rfl ?_
        obtain ⟨ob9, hf⟩ := hf
        obtain ⟨ob10, hf⟩ := hf
        refine R_iaload dX12_ask_55 ob9 ob10 ?_
        obtain ⟨ob11, hf⟩ := hf
        obtain ⟨ob12, hf⟩ := hf
        refine R_iaload dX12_ask_56 ob11 ob12 ?_
        obtain ⟨ob13, hf⟩ := hf
        obtain ⟨ob14, hf⟩ := hf
        refine R_iastore dX12_ask_57 ob13 ob14 ?_
        refine R_aload_n dX12_ask_58 rfl 0 rfl ?_
        refine G12_37 dX12_ask_59 lfX12_75 ob1 ?_
        refine R_eqF (y := gF h r0 37) rfl ?_
        refine R_aload_n dX12_ask_62 rfl 0 rfl ?_
        refine G12_35 dX12_ask_63 lfX12_273 ob1 ?_
        refine R_eqI (y := gI h r0 35) (rd_r (ne_oa ob1 ob13 (by decide))) ?_
        refine R_aload_n dX12_ask_66 rfl 0 rfl ?_
        refine G12_13 dX12_ask_67 lfX12_24 ob1 ?_
        refine R_eqF (y := gF h r0 13) rfl ?_
        refine R_aload_n dX12_ask_70 rfl 0 rfl ?_
        refine G12_28 dX12_ask_71 lfX12_51 ob1 ?_
        refine R_eqF (y := gF h r0 28) rfl ?_
        refine R_iload_n dX12_ask_74 rfl 3 rfl ?_
        refine R_iaload dX12_ask_75 ob9 ob10 ?_
        obtain ⟨ob15, hf⟩ := hf
        obtain ⟨ob16, hf⟩ := hf
        refine R_iaload dX12_ask_76 ob15 ob16 ?_
        obtain ⟨ob17, hf⟩ := hf
        obtain ⟨ob18, hf⟩ := hf
        refine R_iastore dX12_ask_77 ob17 ob18 ?_
        refine R_aload_n dX12_ask_78 rfl 0 rfl ?_
        refine G12_38 dX12_ask_79 lfX12_78 ob1 ?_
        refine R_eqF (y := gF h r0 38) rfl ?_
        refine R_aload_n dX12_ask_82 rfl 0 rfl ?_
        refine G12_35 dX12_ask_83 lfX12_273 ob1 ?_
        refine R_eqI (y := gI h r0 35) ((rd_r (ne_oa ob1 ob17 (by decide))).trans (rd_r (ne_oa ob1 ob13 (by decide)))) ?_
        refine R_aload_n dX12_ask_86 rfl 0 rfl ?_
        refine G12_29 dX12_ask_87 lfX12_54 ob1 ?_
        refine R_eqF (y := gF h r0 29) rfl ?_
        refine R_iload_n dX12_ask_90 rfl 3 rfl ?_
        obtain ⟨ob19, hf⟩ := hf
        obtain ⟨ob20, hf⟩ := hf
        refine R_iaload dX12_ask_91 ob19 ob20 ?_
        obtain ⟨ob21, hf⟩ := hf
        obtain ⟨ob22, hf⟩ := hf
        refine R_iastore dX12_ask_92 ob21 ob22 ?_
        refine R_aload_n dX12_ask_93 rfl 0 rfl ?_
        refine G12_39 dX12_ask_94 lfX12_81 ob1 ?_
        refine R_eqF (y := gF h r0 39) rfl ?_
        refine R_aload_n dX12_ask_97 rfl 0 rfl ?_
        refine G12_35 dX12_ask_98 lfX12_273 ob1 ?_
        refine R_eqI (y := gI h r0 35) ((rd_r (ne_oa ob1 ob21 (by decide))).trans ((rd_r (ne_oa ob1 ob17 (by decide))).trans (rd_r (ne_oa ob1 ob13 (by decide))))) ?_
        refine R_aload_n dX12_ask_101 rfl 0 rfl ?_
        refine G12_30 dX12_ask_102 lfX12_57 ob1 ?_
        refine R_eqF (y := gF h r0 30) rfl ?_
        refine R_iload_n dX12_ask_105 rfl 3 rfl ?_
        obtain ⟨ob23, hf⟩ := hf
        obtain ⟨ob24, hf⟩ := hf
        refine R_iaload dX12_ask_106 ob23 ob24 ?_
        obtain ⟨ob25, hf⟩ := hf
        obtain ⟨ob26, hf⟩ := hf
        refine R_iastore dX12_ask_107 ob25 ob26 ?_
        refine R_iconst (v := 0) dX12_ask_108 (by decide) ?_
        refine R_istore dX12_ask_109 (by decide) rfl ?_
        exact R_sub [1, 2, 3, 4, 0] rfl hf
      · have hf := hf.2 b8
        refine R_goto (tgt := 193) dX12_ask_35 (by decide) ?_
        refine R_iinc (v := x3 + 1) dX12_ask_193 3 rfl rfl (by decide) rfl ?_
        refine R_goto (tgt := 7) dX12_ask_196 (by decide) ?_
        exact R_sub [1, 2, 3, 0] rfl hf
set_option maxRecDepth 20000 in
theorem sX12_ask_111 {P : Option Value → AH → Prop} (h : AH) (r0 : Nat) (x1 : Int32) (x2 : Int32) (x3 : Int32) (x4 : Int32) (hf : (isO h 12 r0) ∧ (((gI h r0 24) ≤ x4 → Rr mX12_ask 0 0 7 [(0, .ref r0), (1, .int x1), (2, .int x2), (3, .int (x3 + 1))] [] (sI h r0 35 ((gI h r0 35) + 1)) P) ∧ (¬ (gI h r0 24) ≤ x4 → (isA h 0 (gF h r0 32)) ∧ ((vp_in x4 (ln (gF h r0 32))) ∧ ((¬ (gI h (gF h r0 32) x4.toNatClampNeg) = x3 → Rr mX12_ask 0 0 111 [(0, .ref r0), (1, .int x1), (2, .int x2), (3, .int x3), (4, .int (x4 + 1))] [] h P) ∧ ((gI h (gF h r0 32) x4.toNatClampNeg) = x3 → (isA h 0 (gF h r0 31)) ∧ ((vp_in x4 (ln (gF h r0 31))) ∧ (((gI h (gF h r0 31) x4.toNatClampNeg) ≤ x2 → (isA h 0 (gF h r0 33)) ∧ ((vp_in x4 (ln (gF h r0 33))) ∧ ((isA h 0 (gF h r0 38)) ∧ ((vp_in (gI h r0 35) (ln (gF h r0 38))) ∧ ((isA h 0 (gF h r0 34)) ∧ ((vp_in x4 (ln (gF h r0 34))) ∧ ((isA h 0 (gF h r0 39)) ∧ ((vp_in (gI h r0 35) (ln (gF h r0 39))) ∧ (Rr mX12_ask 0 0 111 [(0, .ref r0), (1, .int x1), (2, .int x2), (3, .int x3), (4, .int (x4 + 1))] [] (sI (sI h (gF h r0 38) (gI h r0 35).toNatClampNeg (gI h (gF h r0 33) x4.toNatClampNeg)) (gF h r0 39) (gI h r0 35).toNatClampNeg (gI (sI h (gF h r0 38) (gI h r0 35).toNatClampNeg (gI h (gF h r0 33) x4.toNatClampNeg)) (gF h r0 34) x4.toNatClampNeg)) P))))))))) ∧ (¬ (gI h (gF h r0 31) x4.toNatClampNeg) ≤ x2 → Rr mX12_ask 0 0 111 [(0, .ref r0), (1, .int x1), (2, .int x2), (3, .int x3), (4, .int (x4 + 1))] [] h P))))))))) : Rr mX12_ask 0 0 111 [(0, .ref r0), (1, .int x1), (2, .int x2), (3, .int x3), (4, .int x4)] [] h P := by
  refine R_iload dX12_ask_111 4 rfl ?_
  refine R_aload_n dX12_ask_113 rfl 0 rfl ?_
  obtain ⟨ob1, hf⟩ := hf
  refine G12_24 dX12_ask_114 lfX12_202 ob1 ?_
  refine R_icmp_ge (tgt := 183) dX12_ask_117 (by decide) (fun b2 => ?_) (fun b2 => ?_)
  · have hf := hf.1 b2
    refine R_aload_n dX12_ask_183 rfl 0 rfl ?_
    refine R_dup dX12_ask_184 rfl ?_
    refine G12_35 dX12_ask_185 lfX12_273 ob1 ?_
    refine R_iconst (v := 1) dX12_ask_188 (by decide) ?_
    refine R_iadd dX12_ask_189 ?_
    refine S12_35 dX12_ask_190 lfX12_273 ob1 ?_
    refine R_iinc (v := x3 + 1) dX12_ask_193 3 rfl rfl (by decide) rfl ?_
    refine R_goto (tgt := 7) dX12_ask_196 (by decide) ?_
    exact R_sub [1, 2, 3, 0] rfl hf
  · have hf := hf.2 b2
    refine R_aload_n dX12_ask_120 rfl 0 rfl ?_
    refine G12_32 dX12_ask_121 lfX12_63 ob1 ?_
    refine R_iload dX12_ask_124 4 rfl ?_
    obtain ⟨ob3, hf⟩ := hf
    obtain ⟨ob4, hf⟩ := hf
    refine R_iaload dX12_ask_126 ob3 ob4 ?_
    refine R_iload_n dX12_ask_127 rfl 3 rfl ?_
    refine R_icmp_ne (tgt := 177) dX12_ask_128 (by decide) (fun b5 => ?_) (fun b5 => ?_)
    · have hf := hf.1 b5
      refine R_iinc (v := x4 + 1) dX12_ask_177 4 rfl rfl (by decide) rfl ?_
      refine R_goto (tgt := 111) dX12_ask_180 (by decide) ?_
      exact R_sub [1, 2, 3, 4, 0] rfl hf
    · have hf := hf.2 b5
      refine R_aload_n dX12_ask_131 rfl 0 rfl ?_
      refine G12_31 dX12_ask_132 lfX12_60 ob1 ?_
      refine R_iload dX12_ask_135 4 rfl ?_
      obtain ⟨ob6, hf⟩ := hf
      obtain ⟨ob7, hf⟩ := hf
      refine R_iaload dX12_ask_137 ob6 ob7 ?_
      refine R_iload_n dX12_ask_138 rfl 2 rfl ?_
      refine R_icmp_le (tgt := 145) dX12_ask_139 (by decide) (fun b8 => ?_) (fun b8 => ?_)
      · have hf := hf.1 b8
        refine R_aload_n dX12_ask_145 rfl 0 rfl ?_
        refine G12_38 dX12_ask_146 lfX12_78 ob1 ?_
        refine R_aload_n dX12_ask_149 rfl 0 rfl ?_
        refine G12_35 dX12_ask_150 lfX12_273 ob1 ?_
        refine R_aload_n dX12_ask_153 rfl 0 rfl ?_
        refine G12_33 dX12_ask_154 lfX12_66 ob1 ?_
        refine R_iload dX12_ask_157 4 rfl ?_
        obtain ⟨ob9, hf⟩ := hf
        obtain ⟨ob10, hf⟩ := hf
        refine R_iaload dX12_ask_159 ob9 ob10 ?_
        obtain ⟨ob11, hf⟩ := hf
        obtain ⟨ob12, hf⟩ := hf
        refine R_iastore dX12_ask_160 ob11 ob12 ?_
        refine R_aload_n dX12_ask_161 rfl 0 rfl ?_
        refine G12_39 dX12_ask_162 lfX12_81 ob1 ?_
        refine R_eqF (y := gF h r0 39) rfl ?_
        refine R_aload_n dX12_ask_165 rfl 0 rfl ?_
        refine G12_35 dX12_ask_166 lfX12_273 ob1 ?_
        refine R_eqI (y := gI h r0 35) (rd_r (ne_oa ob1 ob11 (by decide))) ?_
        refine R_aload_n dX12_ask_169 rfl 0 rfl ?_
        refine G12_34 dX12_ask_170 lfX12_69 ob1 ?_
        refine R_eqF (y := gF h r0 34) rfl ?_
        refine R_iload dX12_ask_173 4 rfl ?_
        obtain ⟨ob13, hf⟩ := hf
        obtain ⟨ob14, hf⟩ := hf
        refine R_iaload dX12_ask_175 ob13 ob14 ?_
        obtain ⟨ob15, hf⟩ := hf
        obtain ⟨ob16, hf⟩ := hf
        refine R_iastore dX12_ask_176 ob15 ob16 ?_
        refine R_iinc (v := x4 + 1) dX12_ask_177 4 rfl rfl (by decide) rfl ?_
        refine R_goto (tgt := 111) dX12_ask_180 (by decide) ?_
        exact R_sub [1, 2, 3, 4, 0] rfl hf
      · have hf := hf.2 b8
        refine R_goto (tgt := 177) dX12_ask_142 (by decide) ?_
        refine R_iinc (v := x4 + 1) dX12_ask_177 4 rfl rfl (by decide) rfl ?_
        refine R_goto (tgt := 111) dX12_ask_180 (by decide) ?_
        exact R_sub [1, 2, 3, 4, 0] rfl hf
theorem dX12_begin_0 : decode cX12_begin 0 = .ok (.iconst 0, 1) := by decide +kernel
theorem dX12_begin_1 : decode cX12_begin 1 = .ok (.istore_n 1, 1) := by decide +kernel
theorem dX12_begin_2 : decode cX12_begin 2 = .ok (.iload_n 1, 1) := by decide +kernel
theorem dX12_begin_3 : decode cX12_begin 3 = .ok (.bipush 9, 2) := by decide +kernel
theorem dX12_begin_5 : decode cX12_begin 5 = .ok (.if_icmp .ge 19, 3) := by decide +kernel
theorem dX12_begin_8 : decode cX12_begin 8 = .ok (.aload_n 0, 1) := by decide +kernel
theorem dX12_begin_9 : decode cX12_begin 9 = .ok (.getfield 17, 3) := by decide +kernel
theorem dX12_begin_12 : decode cX12_begin 12 = .ok (.bipush 9, 2) := by decide +kernel
theorem dX12_begin_14 : decode cX12_begin 14 = .ok (.iload_n 1, 1) := by decide +kernel
theorem dX12_begin_15 : decode cX12_begin 15 = .ok (.iadd, 1) := by decide +kernel
theorem dX12_begin_16 : decode cX12_begin 16 = .ok (.iconst 0, 1) := by decide +kernel
theorem dX12_begin_17 : decode cX12_begin 17 = .ok (.iastore, 1) := by decide +kernel
theorem dX12_begin_18 : decode cX12_begin 18 = .ok (.iinc 1 1, 3) := by decide +kernel
theorem dX12_begin_21 : decode cX12_begin 21 = .ok (.goto (-19), 3) := by decide +kernel
theorem dX12_begin_24 : decode cX12_begin 24 = .ok (.aload_n 0, 1) := by decide +kernel
theorem dX12_begin_25 : decode cX12_begin 25 = .ok (.getfield 17, 3) := by decide +kernel
theorem dX12_begin_28 : decode cX12_begin 28 = .ok (.bipush 9, 2) := by decide +kernel
theorem dX12_begin_30 : decode cX12_begin 30 = .ok (.bipush 100, 2) := by decide +kernel
theorem dX12_begin_32 : decode cX12_begin 32 = .ok (.iastore, 1) := by decide +kernel
theorem dX12_begin_33 : decode cX12_begin 33 = .ok (.aload_n 0, 1) := by decide +kernel
theorem dX12_begin_34 : decode cX12_begin 34 = .ok (.getfield 17, 3) := by decide +kernel
theorem dX12_begin_37 : decode cX12_begin 37 = .ok (.bipush 10, 2) := by decide +kernel
theorem dX12_begin_39 : decode cX12_begin 39 = .ok (.bipush 100, 2) := by decide +kernel
theorem dX12_begin_41 : decode cX12_begin 41 = .ok (.iastore, 1) := by decide +kernel
theorem dX12_begin_42 : decode cX12_begin 42 = .ok (.aload_n 0, 1) := by decide +kernel
theorem dX12_begin_43 : decode cX12_begin 43 = .ok (.getfield 17, 3) := by decide +kernel
theorem dX12_begin_46 : decode cX12_begin 46 = .ok (.bipush 12, 2) := by decide +kernel
theorem dX12_begin_48 : decode cX12_begin 48 = .ok (.iconst 1, 1) := by decide +kernel
theorem dX12_begin_49 : decode cX12_begin 49 = .ok (.iastore, 1) := by decide +kernel
theorem dX12_begin_50 : decode cX12_begin 50 = .ok (.aload_n 0, 1) := by decide +kernel
theorem dX12_begin_51 : decode cX12_begin 51 = .ok (.getfield 17, 3) := by decide +kernel
theorem dX12_begin_54 : decode cX12_begin 54 = .ok (.bipush 13, 2) := by decide +kernel
theorem dX12_begin_56 : decode cX12_begin 56 = .ok (.iconst 2, 1) := by decide +kernel
theorem dX12_begin_57 : decode cX12_begin 57 = .ok (.iastore, 1) := by decide +kernel
theorem dX12_begin_58 : decode cX12_begin 58 = .ok (.aload_n 0, 1) := by decide +kernel
theorem dX12_begin_59 : decode cX12_begin 59 = .ok (.getfield 17, 3) := by decide +kernel
theorem dX12_begin_62 : decode cX12_begin 62 = .ok (.bipush 15, 2) := by decide +kernel
theorem dX12_begin_64 : decode cX12_begin 64 = .ok (.iconst 3, 1) := by decide +kernel
theorem dX12_begin_65 : decode cX12_begin 65 = .ok (.iastore, 1) := by decide +kernel
theorem dX12_begin_66 : decode cX12_begin 66 = .ok (.aload_n 0, 1) := by decide +kernel
theorem dX12_begin_67 : decode cX12_begin 67 = .ok (.getfield 17, 3) := by decide +kernel
theorem dX12_begin_70 : decode cX12_begin 70 = .ok (.bipush 16, 2) := by decide +kernel
theorem dX12_begin_72 : decode cX12_begin 72 = .ok (.iconst 1, 1) := by decide +kernel
theorem dX12_begin_73 : decode cX12_begin 73 = .ok (.iastore, 1) := by decide +kernel
theorem dX12_begin_74 : decode cX12_begin 74 = .ok (.iconst 0, 1) := by decide +kernel
theorem dX12_begin_75 : decode cX12_begin 75 = .ok (.istore_n 1, 1) := by decide +kernel
theorem dX12_begin_76 : decode cX12_begin 76 = .ok (.iload_n 1, 1) := by decide +kernel
theorem dX12_begin_77 : decode cX12_begin 77 = .ok (.iconst 4, 1) := by decide +kernel
theorem dX12_begin_78 : decode cX12_begin 78 = .ok (.if_icmp .ge 18, 3) := by decide +kernel
theorem dX12_begin_81 : decode cX12_begin 81 = .ok (.aload_n 0, 1) := by decide +kernel
theorem dX12_begin_82 : decode cX12_begin 82 = .ok (.getfield 27, 3) := by decide +kernel
theorem dX12_begin_85 : decode cX12_begin 85 = .ok (.iconst 4, 1) := by decide +kernel
theorem dX12_begin_86 : decode cX12_begin 86 = .ok (.iload_n 1, 1) := by decide +kernel
theorem dX12_begin_87 : decode cX12_begin 87 = .ok (.iadd, 1) := by decide +kernel
theorem dX12_begin_88 : decode cX12_begin 88 = .ok (.iconst 0, 1) := by decide +kernel
theorem dX12_begin_89 : decode cX12_begin 89 = .ok (.iastore, 1) := by decide +kernel
theorem dX12_begin_90 : decode cX12_begin 90 = .ok (.iinc 1 1, 3) := by decide +kernel
theorem dX12_begin_93 : decode cX12_begin 93 = .ok (.goto (-17), 3) := by decide +kernel
theorem dX12_begin_96 : decode cX12_begin 96 = .ok (.iconst 0, 1) := by decide +kernel
theorem dX12_begin_97 : decode cX12_begin 97 = .ok (.istore_n 1, 1) := by decide +kernel
theorem dX12_begin_98 : decode cX12_begin 98 = .ok (.iload_n 1, 1) := by decide +kernel
theorem dX12_begin_99 : decode cX12_begin 99 = .ok (.bipush 64, 2) := by decide +kernel
theorem dX12_begin_101 : decode cX12_begin 101 = .ok (.if_icmp .ge 19, 3) := by decide +kernel
theorem dX12_begin_104 : decode cX12_begin 104 = .ok (.aload_n 0, 1) := by decide +kernel
theorem dX12_begin_105 : decode cX12_begin 105 = .ok (.getfield 33, 3) := by decide +kernel
theorem dX12_begin_108 : decode cX12_begin 108 = .ok (.bipush 64, 2) := by decide +kernel
theorem dX12_begin_110 : decode cX12_begin 110 = .ok (.iload_n 1, 1) := by decide +kernel
theorem dX12_begin_111 : decode cX12_begin 111 = .ok (.iadd, 1) := by decide +kernel
theorem dX12_begin_112 : decode cX12_begin 112 = .ok (.iconst 0, 1) := by decide +kernel
theorem dX12_begin_113 : decode cX12_begin 113 = .ok (.iastore, 1) := by decide +kernel
theorem dX12_begin_114 : decode cX12_begin 114 = .ok (.iinc 1 1, 3) := by decide +kernel
theorem dX12_begin_117 : decode cX12_begin 117 = .ok (.goto (-19), 3) := by decide +kernel
theorem dX12_begin_120 : decode cX12_begin 120 = .ok (.iconst 0, 1) := by decide +kernel
theorem dX12_begin_121 : decode cX12_begin 121 = .ok (.istore_n 1, 1) := by decide +kernel
theorem dX12_begin_122 : decode cX12_begin 122 = .ok (.iload_n 1, 1) := by decide +kernel
theorem dX12_begin_123 : decode cX12_begin 123 = .ok (.bipush 16, 2) := by decide +kernel
theorem dX12_begin_125 : decode cX12_begin 125 = .ok (.if_icmp .ge 33, 3) := by decide +kernel
theorem dX12_begin_128 : decode cX12_begin 128 = .ok (.aload_n 0, 1) := by decide +kernel
theorem dX12_begin_129 : decode cX12_begin 129 = .ok (.getfield 42, 3) := by decide +kernel
theorem dX12_begin_132 : decode cX12_begin 132 = .ok (.bipush 16, 2) := by decide +kernel
theorem dX12_begin_134 : decode cX12_begin 134 = .ok (.iload_n 1, 1) := by decide +kernel
theorem dX12_begin_135 : decode cX12_begin 135 = .ok (.iadd, 1) := by decide +kernel
theorem dX12_begin_136 : decode cX12_begin 136 = .ok (.iload_n 1, 1) := by decide +kernel
theorem dX12_begin_137 : decode cX12_begin 137 = .ok (.iconst 4, 1) := by decide +kernel
theorem dX12_begin_138 : decode cX12_begin 138 = .ok (.idiv, 1) := by decide +kernel
theorem dX12_begin_139 : decode cX12_begin 139 = .ok (.iload_n 1, 1) := by decide +kernel
theorem dX12_begin_140 : decode cX12_begin 140 = .ok (.iconst 4, 1) := by decide +kernel
theorem dX12_begin_141 : decode cX12_begin 141 = .ok (.irem, 1) := by decide +kernel
theorem dX12_begin_142 : decode cX12_begin 142 = .ok (.if_icmp .ne 7, 3) := by decide +kernel
theorem dX12_begin_145 : decode cX12_begin 145 = .ok (.iconst (-1), 1) := by decide +kernel
theorem dX12_begin_146 : decode cX12_begin 146 = .ok (.goto 5, 3) := by decide +kernel
theorem dX12_begin_149 : decode cX12_begin 149 = .ok (.bipush 100, 2) := by decide +kernel
theorem dX12_begin_151 : decode cX12_begin 151 = .ok (.iastore, 1) := by decide +kernel
theorem dX12_begin_152 : decode cX12_begin 152 = .ok (.iinc 1 1, 3) := by decide +kernel
theorem dX12_begin_155 : decode cX12_begin 155 = .ok (.goto (-33), 3) := by decide +kernel
theorem dX12_begin_158 : decode cX12_begin 158 = .ok (.aload_n 0, 1) := by decide +kernel
theorem dX12_begin_159 : decode cX12_begin 159 = .ok (.iconst 0, 1) := by decide +kernel
theorem dX12_begin_160 : decode cX12_begin 160 = .ok (.putfield 189, 3) := by decide +kernel
theorem dX12_begin_163 : decode cX12_begin 163 = .ok (.aload_n 0, 1) := by decide +kernel
theorem dX12_begin_164 : decode cX12_begin 164 = .ok (.iconst 0, 1) := by decide +kernel
theorem dX12_begin_165 : decode cX12_begin 165 = .ok (.putfield 192, 3) := by decide +kernel
theorem dX12_begin_168 : decode cX12_begin 168 = .ok (.return_, 1) := by decide +kernel
set_option maxRecDepth 20000 in
theorem sX12_begin_0 {P : Option Value → AH → Prop} (h : AH) (r0 : Nat) (hf : Rr mX12_begin 0 0 2 [(0, .ref r0), (1, .int 0)] [] h P) : Rr mX12_begin 0 0 0 [(0, .ref r0)] [] h P := by
  refine R_iconst (v := 0) dX12_begin_0 (by decide) ?_
  refine R_istore_n dX12_begin_1 rfl (by decide) rfl ?_
  exact R_sub [1, 0] rfl hf
set_option maxRecDepth 20000 in
theorem sX12_begin_2 {P : Option Value → AH → Prop} (h : AH) (r0 : Nat) (x1 : Int32) (hf : (9 ≤ x1 → (isO h 12 r0) ∧ ((isA h 0 (gF h r0 11)) ∧ ((vp_in 9 (ln (gF h r0 11))) ∧ ((vp_in 10 (ln (gF h r0 11))) ∧ ((vp_in 12 (ln (gF h r0 11))) ∧ ((vp_in 13 (ln (gF h r0 11))) ∧ ((vp_in 15 (ln (gF h r0 11))) ∧ ((vp_in 16 (ln (gF h r0 11))) ∧ (Rr mX12_begin 0 0 76 [(0, .ref r0), (1, .int 0)] [] (sI (sI (sI (sI (sI (sI h (gF h r0 11) (Int32.toNatClampNeg 9) 100) (gF h r0 11) (Int32.toNatClampNeg 10) 100) (gF h r0 11) (Int32.toNatClampNeg 12) 1) (gF h r0 11) (Int32.toNatClampNeg 13) 2) (gF h r0 11) (Int32.toNatClampNeg 15) 3) (gF h r0 11) (Int32.toNatClampNeg 16) 1) P))))))))) ∧ (¬ 9 ≤ x1 → (isO h 12 r0) ∧ ((isA h 0 (gF h r0 11)) ∧ ((vp_in (9 + x1) (ln (gF h r0 11))) ∧ (Rr mX12_begin 0 0 2 [(0, .ref r0), (1, .int (x1 + 1))] [] (sI h (gF h r0 11) (9 + x1).toNatClampNeg 0) P))))) : Rr mX12_begin 0 0 2 [(0, .ref r0), (1, .int x1)] [] h P := by
  refine R_iload_n dX12_begin_2 rfl 1 rfl ?_
  refine R_bipush (v := 9) dX12_begin_3 (by decide) ?_
  refine R_icmp_ge (tgt := 24) dX12_begin_5 (by decide) (fun b1 => ?_) (fun b1 => ?_)
  · have hf := hf.1 b1
    refine R_aload_n dX12_begin_24 rfl 0 rfl ?_
    obtain ⟨ob2, hf⟩ := hf
    refine G12_11 dX12_begin_25 lfX12_17 ob2 ?_
    refine R_bipush (v := 9) dX12_begin_28 (by decide) ?_
    refine R_bipush (v := 100) dX12_begin_30 (by decide) ?_
    obtain ⟨ob3, hf⟩ := hf
    obtain ⟨ob4, hf⟩ := hf
    refine R_iastore dX12_begin_32 ob3 ob4 ?_
    refine R_aload_n dX12_begin_33 rfl 0 rfl ?_
    refine G12_11 dX12_begin_34 lfX12_17 ob2 ?_
    refine R_eqF (y := gF h r0 11) rfl ?_
    refine R_bipush (v := 10) dX12_begin_37 (by decide) ?_
    refine R_bipush (v := 100) dX12_begin_39 (by decide) ?_
    obtain ⟨ob5, hf⟩ := hf
    refine R_iastore dX12_begin_41 ob3 ob5 ?_
    refine R_aload_n dX12_begin_42 rfl 0 rfl ?_
    refine G12_11 dX12_begin_43 lfX12_17 ob2 ?_
    refine R_eqF (y := gF h r0 11) rfl ?_
    refine R_bipush (v := 12) dX12_begin_46 (by decide) ?_
    refine R_iconst (v := 1) dX12_begin_48 (by decide) ?_
    obtain ⟨ob6, hf⟩ := hf
    refine R_iastore dX12_begin_49 ob3 ob6 ?_
    refine R_aload_n dX12_begin_50 rfl 0 rfl ?_
    refine G12_11 dX12_begin_51 lfX12_17 ob2 ?_
    refine R_eqF (y := gF h r0 11) rfl ?_
    refine R_bipush (v := 13) dX12_begin_54 (by decide) ?_
    refine R_iconst (v := 2) dX12_begin_56 (by decide) ?_
    obtain ⟨ob7, hf⟩ := hf
    refine R_iastore dX12_begin_57 ob3 ob7 ?_
    refine R_aload_n dX12_begin_58 rfl 0 rfl ?_
    refine G12_11 dX12_begin_59 lfX12_17 ob2 ?_
    refine R_eqF (y := gF h r0 11) rfl ?_
    refine R_bipush (v := 15) dX12_begin_62 (by decide) ?_
    refine R_iconst (v := 3) dX12_begin_64 (by decide) ?_
    obtain ⟨ob8, hf⟩ := hf
    refine R_iastore dX12_begin_65 ob3 ob8 ?_
    refine R_aload_n dX12_begin_66 rfl 0 rfl ?_
    refine G12_11 dX12_begin_67 lfX12_17 ob2 ?_
    refine R_eqF (y := gF h r0 11) rfl ?_
    refine R_bipush (v := 16) dX12_begin_70 (by decide) ?_
    refine R_iconst (v := 1) dX12_begin_72 (by decide) ?_
    obtain ⟨ob9, hf⟩ := hf
    refine R_iastore dX12_begin_73 ob3 ob9 ?_
    refine R_iconst (v := 0) dX12_begin_74 (by decide) ?_
    refine R_istore_n dX12_begin_75 rfl (by decide) rfl ?_
    exact R_sub [1, 0] rfl hf
  · have hf := hf.2 b1
    refine R_aload_n dX12_begin_8 rfl 0 rfl ?_
    obtain ⟨ob10, hf⟩ := hf
    refine G12_11 dX12_begin_9 lfX12_17 ob10 ?_
    refine R_bipush (v := 9) dX12_begin_12 (by decide) ?_
    refine R_iload_n dX12_begin_14 rfl 1 rfl ?_
    refine R_iadd dX12_begin_15 ?_
    refine R_iconst (v := 0) dX12_begin_16 (by decide) ?_
    obtain ⟨ob11, hf⟩ := hf
    obtain ⟨ob12, hf⟩ := hf
    refine R_iastore dX12_begin_17 ob11 ob12 ?_
    refine R_iinc (v := x1 + 1) dX12_begin_18 1 rfl rfl (by decide) rfl ?_
    refine R_goto (tgt := 2) dX12_begin_21 (by decide) ?_
    exact R_sub [1, 0] rfl hf
set_option maxRecDepth 20000 in
theorem sX12_begin_76 {P : Option Value → AH → Prop} (h : AH) (r0 : Nat) (x1 : Int32) (hf : (4 ≤ x1 → Rr mX12_begin 0 0 98 [(0, .ref r0), (1, .int 0)] [] h P) ∧ (¬ 4 ≤ x1 → (isO h 12 r0) ∧ ((isA h 0 (gF h r0 14)) ∧ ((vp_in (4 + x1) (ln (gF h r0 14))) ∧ (Rr mX12_begin 0 0 76 [(0, .ref r0), (1, .int (x1 + 1))] [] (sI h (gF h r0 14) (4 + x1).toNatClampNeg 0) P))))) : Rr mX12_begin 0 0 76 [(0, .ref r0), (1, .int x1)] [] h P := by
  refine R_iload_n dX12_begin_76 rfl 1 rfl ?_
  refine R_iconst (v := 4) dX12_begin_77 (by decide) ?_
  refine R_icmp_ge (tgt := 96) dX12_begin_78 (by decide) (fun b1 => ?_) (fun b1 => ?_)
  · have hf := hf.1 b1
    refine R_iconst (v := 0) dX12_begin_96 (by decide) ?_
    refine R_istore_n dX12_begin_97 rfl (by decide) rfl ?_
    exact R_sub [1, 0] rfl hf
  · have hf := hf.2 b1
    refine R_aload_n dX12_begin_81 rfl 0 rfl ?_
    obtain ⟨ob2, hf⟩ := hf
    refine G12_14 dX12_begin_82 lfX12_27 ob2 ?_
    refine R_iconst (v := 4) dX12_begin_85 (by decide) ?_
    refine R_iload_n dX12_begin_86 rfl 1 rfl ?_
    refine R_iadd dX12_begin_87 ?_
    refine R_iconst (v := 0) dX12_begin_88 (by decide) ?_
    obtain ⟨ob3, hf⟩ := hf
    obtain ⟨ob4, hf⟩ := hf
    refine R_iastore dX12_begin_89 ob3 ob4 ?_
    refine R_iinc (v := x1 + 1) dX12_begin_90 1 rfl rfl (by decide) rfl ?_
    refine R_goto (tgt := 76) dX12_begin_93 (by decide) ?_
    exact R_sub [1, 0] rfl hf
set_option maxRecDepth 20000 in
theorem sX12_begin_98 {P : Option Value → AH → Prop} (h : AH) (r0 : Nat) (x1 : Int32) (hf : (64 ≤ x1 → Rr mX12_begin 0 0 122 [(0, .ref r0), (1, .int 0)] [] h P) ∧ (¬ 64 ≤ x1 → (isO h 12 r0) ∧ ((isA h 0 (gF h r0 16)) ∧ ((vp_in (64 + x1) (ln (gF h r0 16))) ∧ (Rr mX12_begin 0 0 98 [(0, .ref r0), (1, .int (x1 + 1))] [] (sI h (gF h r0 16) (64 + x1).toNatClampNeg 0) P))))) : Rr mX12_begin 0 0 98 [(0, .ref r0), (1, .int x1)] [] h P := by
  refine R_iload_n dX12_begin_98 rfl 1 rfl ?_
  refine R_bipush (v := 64) dX12_begin_99 (by decide) ?_
  refine R_icmp_ge (tgt := 120) dX12_begin_101 (by decide) (fun b1 => ?_) (fun b1 => ?_)
  · have hf := hf.1 b1
    refine R_iconst (v := 0) dX12_begin_120 (by decide) ?_
    refine R_istore_n dX12_begin_121 rfl (by decide) rfl ?_
    exact R_sub [1, 0] rfl hf
  · have hf := hf.2 b1
    refine R_aload_n dX12_begin_104 rfl 0 rfl ?_
    obtain ⟨ob2, hf⟩ := hf
    refine G12_16 dX12_begin_105 lfX12_33 ob2 ?_
    refine R_bipush (v := 64) dX12_begin_108 (by decide) ?_
    refine R_iload_n dX12_begin_110 rfl 1 rfl ?_
    refine R_iadd dX12_begin_111 ?_
    refine R_iconst (v := 0) dX12_begin_112 (by decide) ?_
    obtain ⟨ob3, hf⟩ := hf
    obtain ⟨ob4, hf⟩ := hf
    refine R_iastore dX12_begin_113 ob3 ob4 ?_
    refine R_iinc (v := x1 + 1) dX12_begin_114 1 rfl rfl (by decide) rfl ?_
    refine R_goto (tgt := 98) dX12_begin_117 (by decide) ?_
    exact R_sub [1, 0] rfl hf
set_option maxRecDepth 20000 in
theorem sX12_begin_122 {P : Option Value → AH → Prop} (h : AH) (r0 : Nat) (x1 : Int32) (hf : (16 ≤ x1 → (isO h 12 r0) ∧ (P none (sI (sI h r0 21 0) r0 22 0))) ∧ (¬ 16 ≤ x1 → (isO h 12 r0) ∧ (∀ z5 : Int32, z5 = (if (x1 / 4) = (x1 % 4) then (-1) else 100) → ((isA h 0 (gF h r0 19)) ∧ ((vp_in (16 + x1) (ln (gF h r0 19))) ∧ (Rr mX12_begin 0 0 122 [(0, .ref r0), (1, .int (x1 + 1))] [] (sI h (gF h r0 19) (16 + x1).toNatClampNeg z5) P)))))) : Rr mX12_begin 0 0 122 [(0, .ref r0), (1, .int x1)] [] h P := by
  refine R_iload_n dX12_begin_122 rfl 1 rfl ?_
  refine R_bipush (v := 16) dX12_begin_123 (by decide) ?_
  refine R_icmp_ge (tgt := 158) dX12_begin_125 (by decide) (fun b1 => ?_) (fun b1 => ?_)
  · have hf := hf.1 b1
    refine R_aload_n dX12_begin_158 rfl 0 rfl ?_
    refine R_iconst (v := 0) dX12_begin_159 (by decide) ?_
    obtain ⟨ob2, hf⟩ := hf
    refine S12_21 dX12_begin_160 lfX12_189 ob2 ?_
    refine R_aload_n dX12_begin_163 rfl 0 rfl ?_
    refine R_iconst (v := 0) dX12_begin_164 (by decide) ?_
    refine S12_22 dX12_begin_165 lfX12_192 ob2 ?_
    exact R_ret dX12_begin_168 rfl hf
  · have hf := hf.2 b1
    refine R_aload_n dX12_begin_128 rfl 0 rfl ?_
    obtain ⟨ob3, hf⟩ := hf
    refine G12_19 dX12_begin_129 lfX12_42 ob3 ?_
    refine R_bipush (v := 16) dX12_begin_132 (by decide) ?_
    refine R_iload_n dX12_begin_134 rfl 1 rfl ?_
    refine R_iadd dX12_begin_135 ?_
    refine R_iload_n dX12_begin_136 rfl 1 rfl ?_
    refine R_iconst (v := 4) dX12_begin_137 (by decide) ?_
    refine R_idiv dX12_begin_138 (by decide) ?_
    refine R_iload_n dX12_begin_139 rfl 1 rfl ?_
    refine R_iconst (v := 4) dX12_begin_140 (by decide) ?_
    refine R_irem dX12_begin_141 (by decide) ?_
    have key : ∀ z5 : Int32, z5 = (if (x1 / 4) = (x1 % 4) then (-1) else 100) → Rr mX12_begin 0 0 151 [(0, .ref r0), (1, .int x1)] [.int z5, .int (16 + x1), .ref (gF h r0 19)] h P := by
      intro z5 ez5
      have hf := hf z5 ez5
      obtain ⟨ob6, hf⟩ := hf
      obtain ⟨ob7, hf⟩ := hf
      refine R_iastore dX12_begin_151 ob6 ob7 ?_
      refine R_iinc (v := x1 + 1) dX12_begin_152 1 rfl rfl (by decide) rfl ?_
      refine R_goto (tgt := 122) dX12_begin_155 (by decide) ?_
      exact R_sub [1, 0] rfl hf
    refine R_icmp_ne (tgt := 149) dX12_begin_142 (by decide) (fun b4 => ?_) (fun b4 => ?_)
    · refine R_bipush (v := 100) dX12_begin_149 (by decide) ?_
      exact R_sub [0, 1] rfl (key _ (by rw [if_neg b4]))
    · refine R_iconst (v := (-1)) dX12_begin_145 (by decide) ?_
      refine R_goto (tgt := 151) dX12_begin_146 (by decide) ?_
      exact R_sub [0, 1] rfl (key _ (by rw [if_pos b4]))
theorem dX12_bits_0 : decode cX12_bits 0 = .ok (.iconst 0, 1) := by decide +kernel
theorem dX12_bits_1 : decode cX12_bits 1 = .ok (.istore_n 1, 1) := by decide +kernel
theorem dX12_bits_2 : decode cX12_bits 2 = .ok (.iload_n 0, 1) := by decide +kernel
theorem dX12_bits_3 : decode cX12_bits 3 = .ok (.istore_n 2, 1) := by decide +kernel
theorem dX12_bits_4 : decode cX12_bits 4 = .ok (.iload_n 2, 1) := by decide +kernel
theorem dX12_bits_5 : decode cX12_bits 5 = .ok (.ifCond .eq 15, 3) := by decide +kernel
theorem dX12_bits_8 : decode cX12_bits 8 = .ok (.iinc 1 1, 3) := by decide +kernel
theorem dX12_bits_11 : decode cX12_bits 11 = .ok (.iload_n 2, 1) := by decide +kernel
theorem dX12_bits_12 : decode cX12_bits 12 = .ok (.iload_n 2, 1) := by decide +kernel
theorem dX12_bits_13 : decode cX12_bits 13 = .ok (.iconst 1, 1) := by decide +kernel
theorem dX12_bits_14 : decode cX12_bits 14 = .ok (.isub, 1) := by decide +kernel
theorem dX12_bits_15 : decode cX12_bits 15 = .ok (.iand, 1) := by decide +kernel
theorem dX12_bits_16 : decode cX12_bits 16 = .ok (.istore_n 2, 1) := by decide +kernel
theorem dX12_bits_17 : decode cX12_bits 17 = .ok (.goto (-13), 3) := by decide +kernel
theorem dX12_bits_20 : decode cX12_bits 20 = .ok (.iload_n 1, 1) := by decide +kernel
theorem dX12_bits_21 : decode cX12_bits 21 = .ok (.ireturn, 1) := by decide +kernel
set_option maxRecDepth 20000 in
theorem sX12_bits_0 {P : Option Value → AH → Prop} (h : AH) (x0 : Int32) (hf : Rr mX12_bits 0 0 4 [(1, .int 0), (2, .int x0)] [] h P) : Rr mX12_bits 0 0 0 [(0, .int x0)] [] h P := by
  refine R_iconst (v := 0) dX12_bits_0 (by decide) ?_
  refine R_istore_n dX12_bits_1 rfl (by decide) rfl ?_
  refine R_iload_n dX12_bits_2 rfl 1 rfl ?_
  refine R_istore_n dX12_bits_3 rfl (by decide) rfl ?_
  exact R_sub [1, 0] rfl hf
set_option maxRecDepth 20000 in
theorem sX12_bits_4 {P : Option Value → AH → Prop} (h : AH) (x1 : Int32) (x2 : Int32) (hf : (x2 = 0 → P (some (.int x1)) h) ∧ (¬ x2 = 0 → Rr mX12_bits 0 0 4 [(1, .int (x1 + 1)), (2, .int (x2 &&& (x2 - 1)))] [] h P)) : Rr mX12_bits 0 0 4 [(1, .int x1), (2, .int x2)] [] h P := by
  refine R_iload_n dX12_bits_4 rfl 1 rfl ?_
  refine R_if_eq (tgt := 20) dX12_bits_5 (by decide) (fun b1 => ?_) (fun b1 => ?_)
  · have hf := hf.1 b1
    refine R_iload_n dX12_bits_20 rfl 0 rfl ?_
    exact R_iret dX12_bits_21 rfl rfl hf
  · have hf := hf.2 b1
    refine R_iinc (v := x1 + 1) dX12_bits_8 0 rfl rfl (by decide) rfl ?_
    refine R_iload_n dX12_bits_11 rfl 1 rfl ?_
    refine R_iload_n dX12_bits_12 rfl 1 rfl ?_
    refine R_iconst (v := 1) dX12_bits_13 (by decide) ?_
    refine R_isub dX12_bits_14 ?_
    refine R_iand dX12_bits_15 ?_
    refine R_istore_n dX12_bits_16 rfl (by decide) rfl ?_
    refine R_goto (tgt := 4) dX12_bits_17 (by decide) ?_
    exact R_sub [1, 0] rfl hf
theorem dX12_byteAt_0 : decode cX12_byteAt 0 = .ok (.iload_n 1, 1) := by decide +kernel
theorem dX12_byteAt_1 : decode cX12_byteAt 1 = .ok (.aload_n 0, 1) := by decide +kernel
theorem dX12_byteAt_2 : decode cX12_byteAt 2 = .ok (.getfield 124, 3) := by decide +kernel
theorem dX12_byteAt_5 : decode cX12_byteAt 5 = .ok (.if_icmp .ge 16, 3) := by decide +kernel
theorem dX12_byteAt_8 : decode cX12_byteAt 8 = .ok (.aload_n 0, 1) := by decide +kernel
theorem dX12_byteAt_9 : decode cX12_byteAt 9 = .ok (.getfield 7, 3) := by decide +kernel
theorem dX12_byteAt_12 : decode cX12_byteAt 12 = .ok (.iload_n 1, 1) := by decide +kernel
theorem dX12_byteAt_13 : decode cX12_byteAt 13 = .ok (.baload, 1) := by decide +kernel
theorem dX12_byteAt_14 : decode cX12_byteAt 14 = .ok (.sipush 255, 3) := by decide +kernel
theorem dX12_byteAt_17 : decode cX12_byteAt 17 = .ok (.iand, 1) := by decide +kernel
theorem dX12_byteAt_18 : decode cX12_byteAt 18 = .ok (.goto 4, 3) := by decide +kernel
theorem dX12_byteAt_21 : decode cX12_byteAt 21 = .ok (.iconst (-1), 1) := by decide +kernel
theorem dX12_byteAt_22 : decode cX12_byteAt 22 = .ok (.ireturn, 1) := by decide +kernel
set_option maxRecDepth 20000 in
theorem sX12_byteAt_0 {P : Option Value → AH → Prop} (h : AH) (r0 : Nat) (x1 : Int32) (hf : (isO h 12 r0) ∧ ((isA h 2 (gF h r0 0)) ∧ ((¬ (gI h r0 2) ≤ x1 → vp_in x1 (ln (gF h r0 0))) ∧ (∀ z5 : Int32, z5 = (if (gI h r0 2) ≤ x1 then (-1) else ((gI h (gF h r0 0) x1.toNatClampNeg) &&& 255)) → (P (some (.int z5)) h))))) : Rr mX12_byteAt 0 0 0 [(0, .ref r0), (1, .int x1)] [] h P := by
  refine R_iload_n dX12_byteAt_0 rfl 1 rfl ?_
  refine R_aload_n dX12_byteAt_1 rfl 0 rfl ?_
  obtain ⟨ob1, hf⟩ := hf
  refine G12_2 dX12_byteAt_2 lfX12_124 ob1 ?_
  obtain ⟨ob3, hf⟩ := hf
  obtain ⟨ob4, hf⟩ := hf
  have key : ∀ z5 : Int32, z5 = (if (gI h r0 2) ≤ x1 then (-1) else ((gI h (gF h r0 0) x1.toNatClampNeg) &&& 255)) → Rr mX12_byteAt 0 0 22 [] [.int z5] h P := by
    intro z5 ez5
    have hf := hf z5 ez5
    exact R_iret dX12_byteAt_22 rfl rfl hf
  refine R_icmp_ge (tgt := 21) dX12_byteAt_5 (by decide) (fun b2 => ?_) (fun b2 => ?_)
  · refine R_iconst (v := (-1)) dX12_byteAt_21 (by decide) ?_
    exact R_sub [] rfl (key _ (by rw [if_pos b2]))
  · refine R_aload_n dX12_byteAt_8 rfl 0 rfl ?_
    refine G12_0 dX12_byteAt_9 lfX12_7 ob1 ?_
    refine R_iload_n dX12_byteAt_12 rfl 1 rfl ?_
    refine R_baload dX12_byteAt_13 ob3 (ob4 b2) ?_
    refine R_sipush (v := 255) dX12_byteAt_14 (by decide) ?_
    refine R_iand dX12_byteAt_17 ?_
    refine R_goto (tgt := 22) dX12_byteAt_18 (by decide) ?_
    exact R_sub [] rfl (key _ (by rw [if_neg b2]))
theorem aX12_byteAt {h : AH} {P : Option Value → AH → Prop} {r0 : Nat} {x1 : Int32} (o0 : isO h 12 r0) (o1 : isA h 2 (gF h r0 0)) (o2 : ¬ (gI h r0 2) ≤ x1 → vp_in x1 (ln (gF h r0 0))) (k : P (some (.int (if (gI h r0 2) ≤ x1 then (-1) else ((gI h (gF h r0 0) x1.toNatClampNeg) &&& 255)))) h) : Call mX12_byteAt [.ref r0, .int x1] h P :=
  Call.ofR (by decide +kernel) (Nat.le_of_ble_eq_true rfl) (sX12_byteAt_0 h r0 x1 (⟨o0, ⟨o1, ⟨o2, fun z5 ez5 => by subst ez5; exact (k)⟩⟩⟩))
theorem dX12_comes_0 : decode cX12_comes 0 = .ok (.iconst 0, 1) := by decide +kernel
theorem dX12_comes_1 : decode cX12_comes 1 = .ok (.istore_n 2, 1) := by decide +kernel
theorem dX12_comes_2 : decode cX12_comes 2 = .ok (.iload_n 2, 1) := by decide +kernel
theorem dX12_comes_3 : decode cX12_comes 3 = .ok (.iload_n 1, 1) := by decide +kernel
theorem dX12_comes_4 : decode cX12_comes 4 = .ok (.if_icmp .ge 17, 3) := by decide +kernel
theorem dX12_comes_7 : decode cX12_comes 7 = .ok (.aload_n 0, 1) := by decide +kernel
theorem dX12_comes_8 : decode cX12_comes 8 = .ok (.iload_n 2, 1) := by decide +kernel
theorem dX12_comes_9 : decode cX12_comes 9 = .ok (.aload_n 0, 1) := by decide +kernel
theorem dX12_comes_10 : decode cX12_comes 10 = .ok (.iload_n 1, 1) := by decide +kernel
theorem dX12_comes_11 : decode cX12_comes 11 = .ok (.iload_n 2, 1) := by decide +kernel
theorem dX12_comes_12 : decode cX12_comes 12 = .ok (.iadd, 1) := by decide +kernel
theorem dX12_comes_13 : decode cX12_comes 13 = .ok (.iaload, 1) := by decide +kernel
theorem dX12_comes_14 : decode cX12_comes 14 = .ok (.iastore, 1) := by decide +kernel
theorem dX12_comes_15 : decode cX12_comes 15 = .ok (.iinc 2 1, 3) := by decide +kernel
theorem dX12_comes_18 : decode cX12_comes 18 = .ok (.goto (-16), 3) := by decide +kernel
theorem dX12_comes_21 : decode cX12_comes 21 = .ok (.return_, 1) := by decide +kernel
set_option maxRecDepth 20000 in
theorem sX12_comes_0 {P : Option Value → AH → Prop} (h : AH) (r0 : Nat) (x1 : Int32) (hf : Rr mX12_comes 0 0 2 [(0, .ref r0), (1, .int x1), (2, .int 0)] [] h P) : Rr mX12_comes 0 0 0 [(0, .ref r0), (1, .int x1)] [] h P := by
  refine R_iconst (v := 0) dX12_comes_0 (by decide) ?_
  refine R_istore_n dX12_comes_1 rfl (by decide) rfl ?_
  exact R_sub [1, 2, 0] rfl hf
set_option maxRecDepth 20000 in
theorem sX12_comes_2 {P : Option Value → AH → Prop} (h : AH) (r0 : Nat) (x1 : Int32) (x2 : Int32) (hf : (x1 ≤ x2 → P none h) ∧ (¬ x1 ≤ x2 → (isA h 0 r0) ∧ ((vp_in (x1 + x2) (ln r0)) ∧ ((vp_in x2 (ln r0)) ∧ (Rr mX12_comes 0 0 2 [(0, .ref r0), (1, .int x1), (2, .int (x2 + 1))] [] (sI h r0 x2.toNatClampNeg (gI h r0 (x1 + x2).toNatClampNeg)) P))))) : Rr mX12_comes 0 0 2 [(0, .ref r0), (1, .int x1), (2, .int x2)] [] h P := by
  refine R_iload_n dX12_comes_2 rfl 2 rfl ?_
  refine R_iload_n dX12_comes_3 rfl 1 rfl ?_
  refine R_icmp_ge (tgt := 21) dX12_comes_4 (by decide) (fun b1 => ?_) (fun b1 => ?_)
  · have hf := hf.1 b1
    exact R_ret dX12_comes_21 rfl hf
  · have hf := hf.2 b1
    refine R_aload_n dX12_comes_7 rfl 0 rfl ?_
    refine R_iload_n dX12_comes_8 rfl 2 rfl ?_
    refine R_aload_n dX12_comes_9 rfl 0 rfl ?_
    refine R_iload_n dX12_comes_10 rfl 1 rfl ?_
    refine R_iload_n dX12_comes_11 rfl 2 rfl ?_
    refine R_iadd dX12_comes_12 ?_
    obtain ⟨ob2, hf⟩ := hf
    obtain ⟨ob3, hf⟩ := hf
    refine R_iaload dX12_comes_13 ob2 ob3 ?_
    obtain ⟨ob4, hf⟩ := hf
    refine R_iastore dX12_comes_14 ob2 ob4 ?_
    refine R_iinc (v := x2 + 1) dX12_comes_15 2 rfl rfl (by decide) rfl ?_
    refine R_goto (tgt := 2) dX12_comes_18 (by decide) ?_
    exact R_sub [1, 2, 0] rfl hf
theorem dX12_count_0 : decode cX12_count 0 = .ok (.iload_n 1, 1) := by decide +kernel
theorem dX12_count_1 : decode cX12_count 1 = .ok (.tableswitch 68 0 4 #[35, 40, 45, 50, 63], 35) := by decide +kernel
theorem dX12_count_36 : decode cX12_count 36 = .ok (.aload_n 0, 1) := by decide +kernel
theorem dX12_count_37 : decode cX12_count 37 = .ok (.getfield 256, 3) := by decide +kernel
theorem dX12_count_40 : decode cX12_count 40 = .ok (.ireturn, 1) := by decide +kernel
theorem dX12_count_41 : decode cX12_count 41 = .ok (.aload_n 0, 1) := by decide +kernel
theorem dX12_count_42 : decode cX12_count 42 = .ok (.getfield 199, 3) := by decide +kernel
theorem dX12_count_45 : decode cX12_count 45 = .ok (.ireturn, 1) := by decide +kernel
theorem dX12_count_46 : decode cX12_count 46 = .ok (.aload_n 0, 1) := by decide +kernel
theorem dX12_count_47 : decode cX12_count 47 = .ok (.getfield 202, 3) := by decide +kernel
theorem dX12_count_50 : decode cX12_count 50 = .ok (.ireturn, 1) := by decide +kernel
theorem dX12_count_51 : decode cX12_count 51 = .ok (.aload_n 0, 1) := by decide +kernel
theorem dX12_count_52 : decode cX12_count 52 = .ok (.getfield 335, 3) := by decide +kernel
theorem dX12_count_55 : decode cX12_count 55 = .ok (.ifCond .eq 7, 3) := by decide +kernel
theorem dX12_count_58 : decode cX12_count 58 = .ok (.iconst 1, 1) := by decide +kernel
theorem dX12_count_59 : decode cX12_count 59 = .ok (.goto 4, 3) := by decide +kernel
theorem dX12_count_62 : decode cX12_count 62 = .ok (.iconst 0, 1) := by decide +kernel
theorem dX12_count_63 : decode cX12_count 63 = .ok (.ireturn, 1) := by decide +kernel
theorem dX12_count_64 : decode cX12_count 64 = .ok (.aload_n 0, 1) := by decide +kernel
theorem dX12_count_65 : decode cX12_count 65 = .ok (.getfield 121, 3) := by decide +kernel
theorem dX12_count_68 : decode cX12_count 68 = .ok (.ireturn, 1) := by decide +kernel
theorem dX12_count_69 : decode cX12_count 69 = .ok (.iconst (-1), 1) := by decide +kernel
theorem dX12_count_70 : decode cX12_count 70 = .ok (.ireturn, 1) := by decide +kernel
set_option maxRecDepth 20000 in
theorem sX12_count_0 {P : Option Value → AH → Prop} (h : AH) (r0 : Nat) (x1 : Int32) (hf : (x1 = 0 → (isO h 12 r0) ∧ (P (some (.int (gI h r0 20))) h)) ∧ (¬ x1 = 0 → (x1 = 1 → (isO h 12 r0) ∧ (P (some (.int (gI h r0 23))) h)) ∧ (¬ x1 = 1 → (x1 = 2 → (isO h 12 r0) ∧ (P (some (.int (gI h r0 24))) h)) ∧ (¬ x1 = 2 → (x1 = 3 → (isO h 12 r0) ∧ (P (some (.int (bi (¬ (gI h r0 51) = 0)))) h)) ∧ (¬ x1 = 3 → (x1 = 4 → (isO h 12 r0) ∧ (P (some (.int (gI h r0 1))) h)) ∧ (¬ x1 = 4 → P (some (.int (-1))) h)))))) : Rr mX12_count 0 0 0 [(0, .ref r0), (1, .int x1)] [] h P := by
  refine R_iload_n dX12_count_0 rfl 1 rfl ?_
  by_cases b1 : x1 = 0
  · have hf := hf.1 b1
    refine R_tableIn (off := 35) (tgt := 36) dX12_count_1 (by rw [b1]; decide) (by rw [b1]; decide) (by rw [b1]; decide) (by decide) ?_
    refine R_aload_n dX12_count_36 rfl 0 rfl ?_
    obtain ⟨ob2, hf⟩ := hf
    refine G12_20 dX12_count_37 lfX12_256 ob2 ?_
    exact R_iret dX12_count_40 rfl rfl hf
  have hf := hf.2 b1
  by_cases b3 : x1 = 1
  · have hf := hf.1 b3
    refine R_tableIn (off := 40) (tgt := 41) dX12_count_1 (by rw [b3]; decide) (by rw [b3]; decide) (by rw [b3]; decide) (by decide) ?_
    refine R_aload_n dX12_count_41 rfl 0 rfl ?_
    obtain ⟨ob4, hf⟩ := hf
    refine G12_23 dX12_count_42 lfX12_199 ob4 ?_
    exact R_iret dX12_count_45 rfl rfl hf
  have hf := hf.2 b3
  by_cases b5 : x1 = 2
  · have hf := hf.1 b5
    refine R_tableIn (off := 45) (tgt := 46) dX12_count_1 (by rw [b5]; decide) (by rw [b5]; decide) (by rw [b5]; decide) (by decide) ?_
    refine R_aload_n dX12_count_46 rfl 0 rfl ?_
    obtain ⟨ob6, hf⟩ := hf
    refine G12_24 dX12_count_47 lfX12_202 ob6 ?_
    exact R_iret dX12_count_50 rfl rfl hf
  have hf := hf.2 b5
  by_cases b7 : x1 = 3
  · have hf := hf.1 b7
    refine R_tableIn (off := 50) (tgt := 51) dX12_count_1 (by rw [b7]; decide) (by rw [b7]; decide) (by rw [b7]; decide) (by decide) ?_
    refine R_aload_n dX12_count_51 rfl 0 rfl ?_
    obtain ⟨ob8, hf⟩ := hf
    refine G12_51 dX12_count_52 lfX12_335 ob8 ?_
    have key :  Rr mX12_count 0 0 63 [] [.int (bi (¬ (gI h r0 51) = 0))] h P := by
      exact R_iret dX12_count_63 rfl rfl hf
    refine R_if_eq (tgt := 62) dX12_count_55 (by decide) (fun b9 => ?_) (fun b9 => ?_)
    · refine R_iconst (v := 0) dX12_count_62 (by decide) ?_
      have kb := key
      rw [show bi (¬ (gI h r0 51) = 0) = 0 from by simp only [bi, b9, false_and, and_false, true_and, and_true, not_true_eq_false, not_false_eq_true, if_true, if_false, true_or, or_true, false_or, or_false, reduceIte]] at kb
      exact R_sub [] rfl kb
    · refine R_iconst (v := 1) dX12_count_58 (by decide) ?_
      refine R_goto (tgt := 63) dX12_count_59 (by decide) ?_
      have kb := key
      rw [show bi (¬ (gI h r0 51) = 0) = 1 from by simp only [bi, b9, false_and, and_false, true_and, and_true, not_true_eq_false, not_false_eq_true, if_true, if_false, true_or, or_true, false_or, or_false, reduceIte]] at kb
      exact R_sub [] rfl kb
  have hf := hf.2 b7
  by_cases b10 : x1 = 4
  · have hf := hf.1 b10
    refine R_tableIn (off := 63) (tgt := 64) dX12_count_1 (by rw [b10]; decide) (by rw [b10]; decide) (by rw [b10]; decide) (by decide) ?_
    refine R_aload_n dX12_count_64 rfl 0 rfl ?_
    obtain ⟨ob11, hf⟩ := hf
    refine G12_1 dX12_count_65 lfX12_121 ob11 ?_
    exact R_iret dX12_count_68 rfl rfl hf
  have hf := hf.2 b10
  refine R_tableOut (tgt := 69) dX12_count_1 (by have q0 := lv_neT (a := 0) b1 (by decide); have q1 := lv_neT (a := 1) b3 (by decide); have q2 := lv_neT (a := 2) b5 (by decide); have q3 := lv_neT (a := 3) b7 (by decide); have q4 := lv_neT (a := 4) b10 (by decide); omega) (by decide) ?_
  refine R_iconst (v := (-1)) dX12_count_69 (by decide) ?_
  exact R_iret dX12_count_70 rfl rfl hf
theorem aX12_count {h : AH} {P : Option Value → AH → Prop} {r0 : Nat} {x1 : Int32} (o0 : isO h 12 r0) (k : P (some (.int (if x1 = 0 then (gI h r0 20) else (if x1 = 1 then (gI h r0 23) else (if x1 = 2 then (gI h r0 24) else (if x1 = 3 then (bi (¬ (gI h r0 51) = 0)) else (if x1 = 4 then (gI h r0 1) else (-1)))))))) h) : Call mX12_count [.ref r0, .int x1] h P :=
  Call.ofR (by decide +kernel) (Nat.le_of_ble_eq_true rfl) (sX12_count_0 h r0 x1 (⟨fun b0 => ⟨o0, by rw [if_pos b0] at k; exact k⟩, fun b0 => ⟨fun b1 => ⟨o0, by rw [if_neg b0, if_pos b1] at k; exact k⟩, fun b1 => ⟨fun b2 => ⟨o0, by rw [if_neg b0, if_neg b1, if_pos b2] at k; exact k⟩, fun b2 => ⟨fun b3 => ⟨o0, by rw [if_neg b0, if_neg b1, if_neg b2, if_pos b3] at k; exact k⟩, fun b3 => ⟨fun b4 => ⟨o0, by rw [if_neg b0, if_neg b1, if_neg b2, if_neg b3, if_pos b4] at k; exact k⟩, fun b4 => by rw [if_neg b0, if_neg b1, if_neg b2, if_neg b3, if_neg b4] at k; exact k⟩⟩⟩⟩⟩))
theorem dX12_end_0 : decode cX12_end 0 = .ok (.iload_n 1, 1) := by decide +kernel
theorem dX12_end_1 : decode cX12_end 1 = .ok (.ifCond .lt 11, 3) := by decide +kernel
theorem dX12_end_4 : decode cX12_end 4 = .ok (.iload_n 1, 1) := by decide +kernel
theorem dX12_end_5 : decode cX12_end 5 = .ok (.aload_n 0, 1) := by decide +kernel
theorem dX12_end_6 : decode cX12_end 6 = .ok (.getfield 121, 3) := by decide +kernel
theorem dX12_end_9 : decode cX12_end 9 = .ok (.if_icmp .le 5, 3) := by decide +kernel
theorem dX12_end_12 : decode cX12_end 12 = .ok (.iconst (-1), 1) := by decide +kernel
theorem dX12_end_13 : decode cX12_end 13 = .ok (.ireturn, 1) := by decide +kernel
theorem dX12_end_14 : decode cX12_end 14 = .ok (.aload_n 0, 1) := by decide +kernel
theorem dX12_end_15 : decode cX12_end 15 = .ok (.iload_n 1, 1) := by decide +kernel
theorem dX12_end_16 : decode cX12_end 16 = .ok (.putfield 121, 3) := by decide +kernel
theorem dX12_end_19 : decode cX12_end 19 = .ok (.iload_n 1, 1) := by decide +kernel
theorem dX12_end_20 : decode cX12_end 20 = .ok (.ireturn, 1) := by decide +kernel
set_option maxRecDepth 20000 in
theorem sX12_end_0 {P : Option Value → AH → Prop} (h : AH) (r0 : Nat) (x1 : Int32) (hf : (x1 < 0 → P (some (.int (-1))) h) ∧ (¬ x1 < 0 → (isO h 12 r0) ∧ ((x1 ≤ (gI h r0 1) → P (some (.int x1)) (sI h r0 1 x1)) ∧ (¬ x1 ≤ (gI h r0 1) → P (some (.int (-1))) h)))) : Rr mX12_end 0 0 0 [(0, .ref r0), (1, .int x1)] [] h P := by
  refine R_iload_n dX12_end_0 rfl 1 rfl ?_
  refine R_if_lt (tgt := 12) dX12_end_1 (by decide) (fun b1 => ?_) (fun b1 => ?_)
  · have hf := hf.1 b1
    refine R_iconst (v := (-1)) dX12_end_12 (by decide) ?_
    exact R_iret dX12_end_13 rfl rfl hf
  · have hf := hf.2 b1
    refine R_iload_n dX12_end_4 rfl 1 rfl ?_
    refine R_aload_n dX12_end_5 rfl 0 rfl ?_
    obtain ⟨ob2, hf⟩ := hf
    refine G12_1 dX12_end_6 lfX12_121 ob2 ?_
    refine R_icmp_le (tgt := 14) dX12_end_9 (by decide) (fun b3 => ?_) (fun b3 => ?_)
    · have hf := hf.1 b3
      refine R_aload_n dX12_end_14 rfl 0 rfl ?_
      refine R_iload_n dX12_end_15 rfl 1 rfl ?_
      refine S12_1 dX12_end_16 lfX12_121 ob2 ?_
      refine R_iload_n dX12_end_19 rfl 1 rfl ?_
      exact R_iret dX12_end_20 rfl rfl hf
    · have hf := hf.2 b3
      refine R_iconst (v := (-1)) dX12_end_12 (by decide) ?_
      exact R_iret dX12_end_13 rfl rfl hf
theorem dX12_fails_0 : decode cX12_fails 0 = .ok (.aload_n 0, 1) := by decide +kernel
theorem dX12_fails_1 : decode cX12_fails 1 = .ok (.iload_n 1, 1) := by decide +kernel
theorem dX12_fails_2 : decode cX12_fails 2 = .ok (.putfield 172, 3) := by decide +kernel
theorem dX12_fails_5 : decode cX12_fails 5 = .ok (.aload_n 0, 1) := by decide +kernel
theorem dX12_fails_6 : decode cX12_fails 6 = .ok (.aload_n 0, 1) := by decide +kernel
theorem dX12_fails_7 : decode cX12_fails 7 = .ok (.getfield 146, 3) := by decide +kernel
theorem dX12_fails_10 : decode cX12_fails 10 = .ok (.putfield 13, 3) := by decide +kernel
theorem dX12_fails_13 : decode cX12_fails 13 = .ok (.iconst 0, 1) := by decide +kernel
theorem dX12_fails_14 : decode cX12_fails 14 = .ok (.ireturn, 1) := by decide +kernel
set_option maxRecDepth 20000 in
theorem sX12_fails_0 {P : Option Value → AH → Prop} (h : AH) (r0 : Nat) (x1 : Int32) (hf : (isO h 12 r0) ∧ (P (some (.int 0)) (sI (sI h r0 8 x1) r0 9 (gI h r0 5)))) : Rr mX12_fails 0 0 0 [(0, .ref r0), (1, .int x1)] [] h P := by
  refine R_aload_n dX12_fails_0 rfl 0 rfl ?_
  refine R_iload_n dX12_fails_1 rfl 1 rfl ?_
  obtain ⟨ob1, hf⟩ := hf
  refine S12_8 dX12_fails_2 lfX12_172 ob1 ?_
  refine R_aload_n dX12_fails_5 rfl 0 rfl ?_
  refine R_aload_n dX12_fails_6 rfl 0 rfl ?_
  refine G12_5 dX12_fails_7 lfX12_146 ob1 ?_
  refine R_eqI (y := gI h r0 5) (rd_k (by decide)) ?_
  refine S12_9 dX12_fails_10 lfX12_13 ob1 ?_
  refine R_iconst (v := 0) dX12_fails_13 (by decide) ?_
  exact R_iret dX12_fails_14 rfl rfl hf
theorem dX12_fault_0 : decode cX12_fault 0 = .ok (.iload_n 1, 1) := by decide +kernel
theorem dX12_fault_1 : decode cX12_fault 1 = .ok (.ifCond .ne 10, 3) := by decide +kernel
theorem dX12_fault_4 : decode cX12_fault 4 = .ok (.aload_n 0, 1) := by decide +kernel
theorem dX12_fault_5 : decode cX12_fault 5 = .ok (.getfield 172, 3) := by decide +kernel
theorem dX12_fault_8 : decode cX12_fault 8 = .ok (.goto 16, 3) := by decide +kernel
theorem dX12_fault_11 : decode cX12_fault 11 = .ok (.iload_n 1, 1) := by decide +kernel
theorem dX12_fault_12 : decode cX12_fault 12 = .ok (.iconst 1, 1) := by decide +kernel
theorem dX12_fault_13 : decode cX12_fault 13 = .ok (.if_icmp .ne 10, 3) := by decide +kernel
theorem dX12_fault_16 : decode cX12_fault 16 = .ok (.aload_n 0, 1) := by decide +kernel
theorem dX12_fault_17 : decode cX12_fault 17 = .ok (.getfield 13, 3) := by decide +kernel
theorem dX12_fault_20 : decode cX12_fault 20 = .ok (.goto 4, 3) := by decide +kernel
theorem dX12_fault_23 : decode cX12_fault 23 = .ok (.iconst (-1), 1) := by decide +kernel
theorem dX12_fault_24 : decode cX12_fault 24 = .ok (.ireturn, 1) := by decide +kernel
set_option maxRecDepth 20000 in
theorem sX12_fault_0 {P : Option Value → AH → Prop} (h : AH) (r0 : Nat) (x1 : Int32) (hf : (isO h 12 r0) ∧ (∀ z4 : Int32, z4 = (if x1 = 0 then (gI h r0 8) else (if x1 = 1 then (gI h r0 9) else (-1))) → (P (some (.int z4)) h))) : Rr mX12_fault 0 0 0 [(0, .ref r0), (1, .int x1)] [] h P := by
  refine R_iload_n dX12_fault_0 rfl 1 rfl ?_
  obtain ⟨ob3, hf⟩ := hf
  have key : ∀ z4 : Int32, z4 = (if x1 = 0 then (gI h r0 8) else (if x1 = 1 then (gI h r0 9) else (-1))) → Rr mX12_fault 0 0 24 [] [.int z4] h P := by
    intro z4 ez4
    have hf := hf z4 ez4
    exact R_iret dX12_fault_24 rfl rfl hf
  refine R_if_ne (tgt := 11) dX12_fault_1 (by decide) (fun b1 => ?_) (fun b1 => ?_)
  · refine R_iload_n dX12_fault_11 rfl 1 rfl ?_
    refine R_iconst (v := 1) dX12_fault_12 (by decide) ?_
    refine R_icmp_ne (tgt := 23) dX12_fault_13 (by decide) (fun b2 => ?_) (fun b2 => ?_)
    · refine R_iconst (v := (-1)) dX12_fault_23 (by decide) ?_
      exact R_sub [] rfl (key _ (by rw [if_neg b1, if_neg b2]))
    · refine R_aload_n dX12_fault_16 rfl 0 rfl ?_
      refine G12_9 dX12_fault_17 lfX12_13 ob3 ?_
      refine R_goto (tgt := 24) dX12_fault_20 (by decide) ?_
      exact R_sub [] rfl (key _ (by rw [if_neg b1, if_pos b2]))
  · refine R_aload_n dX12_fault_4 rfl 0 rfl ?_
    refine G12_8 dX12_fault_5 lfX12_172 ob3 ?_
    refine R_goto (tgt := 24) dX12_fault_8 (by decide) ?_
    exact R_sub [] rfl (key _ (by rw [if_pos b1]))
theorem aX12_fault {h : AH} {P : Option Value → AH → Prop} {r0 : Nat} {x1 : Int32} (o0 : isO h 12 r0) (k : P (some (.int (if x1 = 0 then (gI h r0 8) else (if x1 = 1 then (gI h r0 9) else (-1))))) h) : Call mX12_fault [.ref r0, .int x1] h P :=
  Call.ofR (by decide +kernel) (Nat.le_of_ble_eq_true rfl) (sX12_fault_0 h r0 x1 (⟨o0, fun z4 ez4 => by subst ez4; exact (k)⟩))
