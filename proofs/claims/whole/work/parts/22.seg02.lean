theorem dX9_isDigit_0 : decode cX9_isDigit 0 = .ok (.iload_n 0, 1) := by decide +kernel
theorem dX9_isDigit_1 : decode cX9_isDigit 1 = .ok (.bipush 48, 2) := by decide +kernel
theorem dX9_isDigit_3 : decode cX9_isDigit 3 = .ok (.if_icmp .lt 13, 3) := by decide +kernel
theorem dX9_isDigit_6 : decode cX9_isDigit 6 = .ok (.iload_n 0, 1) := by decide +kernel
theorem dX9_isDigit_7 : decode cX9_isDigit 7 = .ok (.bipush 57, 2) := by decide +kernel
theorem dX9_isDigit_9 : decode cX9_isDigit 9 = .ok (.if_icmp .gt 7, 3) := by decide +kernel
theorem dX9_isDigit_12 : decode cX9_isDigit 12 = .ok (.iconst 1, 1) := by decide +kernel
theorem dX9_isDigit_13 : decode cX9_isDigit 13 = .ok (.goto 4, 3) := by decide +kernel
theorem dX9_isDigit_16 : decode cX9_isDigit 16 = .ok (.iconst 0, 1) := by decide +kernel
theorem dX9_isDigit_17 : decode cX9_isDigit 17 = .ok (.ireturn, 1) := by decide +kernel
set_option maxRecDepth 20000 in
theorem sX9_isDigit_0 {P : Option Value → AH → Prop} (h : AH) (x0 : Int32) (hf : P (some (.int (bi (¬ x0 < 48 ∧ ¬ 57 < x0)))) h) : Rr mX9_isDigit 0 0 0 [(0, .int x0)] [] h P := by
  refine R_iload_n dX9_isDigit_0 rfl 0 rfl ?_
  refine R_bipush (v := 48) dX9_isDigit_1 (by decide) ?_
  have key :  Rr mX9_isDigit 0 0 17 [] [.int (bi (¬ x0 < 48 ∧ ¬ 57 < x0))] h P := by
    exact R_iret dX9_isDigit_17 rfl (nb_n (bi_01 _)) hf
  refine R_icmp_lt (tgt := 16) dX9_isDigit_3 (by decide) (fun b1 => ?_) (fun b1 => ?_)
  · refine R_iconst (v := 0) dX9_isDigit_16 (by decide) ?_
    have kb := key
    rw [show bi (¬ x0 < 48 ∧ ¬ 57 < x0) = 0 from by simp only [bi, b1, false_and, and_false, true_and, and_true, not_true_eq_false, not_false_eq_true, if_true, if_false, true_or, or_true, false_or, or_false, reduceIte]] at kb
    exact R_sub [] rfl kb
  · refine R_iload_n dX9_isDigit_6 rfl 0 rfl ?_
    refine R_bipush (v := 57) dX9_isDigit_7 (by decide) ?_
    refine R_icmp_gt (tgt := 16) dX9_isDigit_9 (by decide) (fun b2 => ?_) (fun b2 => ?_)
    · refine R_iconst (v := 0) dX9_isDigit_16 (by decide) ?_
      have kb := key
      rw [show bi (¬ x0 < 48 ∧ ¬ 57 < x0) = 0 from by simp only [bi, b1, b2, false_and, and_false, true_and, and_true, not_true_eq_false, not_false_eq_true, if_true, if_false, true_or, or_true, false_or, or_false, reduceIte]] at kb
      exact R_sub [] rfl kb
    · refine R_iconst (v := 1) dX9_isDigit_12 (by decide) ?_
      refine R_goto (tgt := 17) dX9_isDigit_13 (by decide) ?_
      have kb := key
      rw [show bi (¬ x0 < 48 ∧ ¬ 57 < x0) = 1 from by simp only [bi, b1, b2, false_and, and_false, true_and, and_true, not_true_eq_false, not_false_eq_true, if_true, if_false, true_or, or_true, false_or, or_false, reduceIte]] at kb
      exact R_sub [] rfl kb
theorem aX9_isDigit {h : AH} {P : Option Value → AH → Prop} {x0 : Int32}  (k : P (some (.int (bi (¬ x0 < 48 ∧ ¬ 57 < x0)))) h) : Call mX9_isDigit [.int x0] h P :=
  Call.ofR (by decide +kernel) (Nat.le_of_ble_eq_true rfl) (sX9_isDigit_0 h x0 (k))
theorem dX9_isLetter_0 : decode cX9_isLetter 0 = .ok (.iload_n 0, 1) := by decide +kernel
theorem dX9_isLetter_1 : decode cX9_isLetter 1 = .ok (.bipush 97, 2) := by decide +kernel
theorem dX9_isLetter_3 : decode cX9_isLetter 3 = .ok (.if_icmp .lt 13, 3) := by decide +kernel
theorem dX9_isLetter_6 : decode cX9_isLetter 6 = .ok (.iload_n 0, 1) := by decide +kernel
theorem dX9_isLetter_7 : decode cX9_isLetter 7 = .ok (.bipush 122, 2) := by decide +kernel
theorem dX9_isLetter_9 : decode cX9_isLetter 9 = .ok (.if_icmp .gt 7, 3) := by decide +kernel
theorem dX9_isLetter_12 : decode cX9_isLetter 12 = .ok (.iconst 1, 1) := by decide +kernel
theorem dX9_isLetter_13 : decode cX9_isLetter 13 = .ok (.goto 4, 3) := by decide +kernel
theorem dX9_isLetter_16 : decode cX9_isLetter 16 = .ok (.iconst 0, 1) := by decide +kernel
theorem dX9_isLetter_17 : decode cX9_isLetter 17 = .ok (.ireturn, 1) := by decide +kernel
set_option maxRecDepth 20000 in
theorem sX9_isLetter_0 {P : Option Value → AH → Prop} (h : AH) (x0 : Int32) (hf : P (some (.int (bi (¬ x0 < 97 ∧ ¬ 122 < x0)))) h) : Rr mX9_isLetter 0 0 0 [(0, .int x0)] [] h P := by
  refine R_iload_n dX9_isLetter_0 rfl 0 rfl ?_
  refine R_bipush (v := 97) dX9_isLetter_1 (by decide) ?_
  have key :  Rr mX9_isLetter 0 0 17 [] [.int (bi (¬ x0 < 97 ∧ ¬ 122 < x0))] h P := by
    exact R_iret dX9_isLetter_17 rfl (nb_n (bi_01 _)) hf
  refine R_icmp_lt (tgt := 16) dX9_isLetter_3 (by decide) (fun b1 => ?_) (fun b1 => ?_)
  · refine R_iconst (v := 0) dX9_isLetter_16 (by decide) ?_
    have kb := key
    rw [show bi (¬ x0 < 97 ∧ ¬ 122 < x0) = 0 from by simp only [bi, b1, false_and, and_false, true_and, and_true, not_true_eq_false, not_false_eq_true, if_true, if_false, true_or, or_true, false_or, or_false, reduceIte]] at kb
    exact R_sub [] rfl kb
  · refine R_iload_n dX9_isLetter_6 rfl 0 rfl ?_
    refine R_bipush (v := 122) dX9_isLetter_7 (by decide) ?_
    refine R_icmp_gt (tgt := 16) dX9_isLetter_9 (by decide) (fun b2 => ?_) (fun b2 => ?_)
    · refine R_iconst (v := 0) dX9_isLetter_16 (by decide) ?_
      have kb := key
      rw [show bi (¬ x0 < 97 ∧ ¬ 122 < x0) = 0 from by simp only [bi, b1, b2, false_and, and_false, true_and, and_true, not_true_eq_false, not_false_eq_true, if_true, if_false, true_or, or_true, false_or, or_false, reduceIte]] at kb
      exact R_sub [] rfl kb
    · refine R_iconst (v := 1) dX9_isLetter_12 (by decide) ?_
      refine R_goto (tgt := 17) dX9_isLetter_13 (by decide) ?_
      have kb := key
      rw [show bi (¬ x0 < 97 ∧ ¬ 122 < x0) = 1 from by simp only [bi, b1, b2, false_and, and_false, true_and, and_true, not_true_eq_false, not_false_eq_true, if_true, if_false, true_or, or_true, false_or, or_false, reduceIte]] at kb
      exact R_sub [] rfl kb
theorem aX9_isLetter {h : AH} {P : Option Value → AH → Prop} {x0 : Int32}  (k : P (some (.int (bi (¬ x0 < 97 ∧ ¬ 122 < x0)))) h) : Call mX9_isLetter [.int x0] h P :=
  Call.ofR (by decide +kernel) (Nat.le_of_ble_eq_true rfl) (sX9_isLetter_0 h x0 (k))
theorem dX9_put_0 : decode cX9_put 0 = .ok (.bipush 24, 2) := by decide +kernel
theorem dX9_put_2 : decode cX9_put 2 = .ok (.istore_n 2, 1) := by decide +kernel
theorem dX9_put_3 : decode cX9_put 3 = .ok (.iload_n 2, 1) := by decide +kernel
theorem dX9_put_4 : decode cX9_put 4 = .ok (.ifCond .lt 42, 3) := by decide +kernel
theorem dX9_put_7 : decode cX9_put 7 = .ok (.aload_n 0, 1) := by decide +kernel
theorem dX9_put_8 : decode cX9_put 8 = .ok (.getfield 15, 3) := by decide +kernel
theorem dX9_put_11 : decode cX9_put 11 = .ok (.sipush 900, 3) := by decide +kernel
theorem dX9_put_14 : decode cX9_put 14 = .ok (.if_icmp .ge 32, 3) := by decide +kernel
theorem dX9_put_17 : decode cX9_put 17 = .ok (.aload_n 0, 1) := by decide +kernel
theorem dX9_put_18 : decode cX9_put 18 = .ok (.getfield 11, 3) := by decide +kernel
theorem dX9_put_21 : decode cX9_put 21 = .ok (.aload_n 0, 1) := by decide +kernel
theorem dX9_put_22 : decode cX9_put 22 = .ok (.getfield 15, 3) := by decide +kernel
theorem dX9_put_25 : decode cX9_put 25 = .ok (.iload_n 1, 1) := by decide +kernel
theorem dX9_put_26 : decode cX9_put 26 = .ok (.iload_n 2, 1) := by decide +kernel
theorem dX9_put_27 : decode cX9_put 27 = .ok (.iushr, 1) := by decide +kernel
theorem dX9_put_28 : decode cX9_put 28 = .ok (.i2b, 1) := by decide +kernel
theorem dX9_put_29 : decode cX9_put 29 = .ok (.bastore, 1) := by decide +kernel
theorem dX9_put_30 : decode cX9_put 30 = .ok (.aload_n 0, 1) := by decide +kernel
theorem dX9_put_31 : decode cX9_put 31 = .ok (.dup, 1) := by decide +kernel
theorem dX9_put_32 : decode cX9_put 32 = .ok (.getfield 15, 3) := by decide +kernel
theorem dX9_put_35 : decode cX9_put 35 = .ok (.iconst 1, 1) := by decide +kernel
theorem dX9_put_36 : decode cX9_put 36 = .ok (.iadd, 1) := by decide +kernel
theorem dX9_put_37 : decode cX9_put 37 = .ok (.putfield 15, 3) := by decide +kernel
theorem dX9_put_40 : decode cX9_put 40 = .ok (.iinc 2 (-8), 3) := by decide +kernel
theorem dX9_put_43 : decode cX9_put 43 = .ok (.goto (-40), 3) := by decide +kernel
theorem dX9_put_46 : decode cX9_put 46 = .ok (.return_, 1) := by decide +kernel
set_option maxRecDepth 20000 in
theorem sX9_put_0 {P : Option Value → AH → Prop} (h : AH) (r0 : Nat) (x1 : Int32) (hf : Rr mX9_put 0 0 3 [(0, .ref r0), (1, .int x1), (2, .int 24)] [] h P) : Rr mX9_put 0 0 0 [(0, .ref r0), (1, .int x1)] [] h P := by
  refine R_bipush (v := 24) dX9_put_0 (by decide) ?_
  refine R_istore_n dX9_put_2 rfl (by decide) rfl ?_
  exact R_sub [1, 2, 0] rfl hf
set_option maxRecDepth 20000 in
theorem sX9_put_3 {P : Option Value → AH → Prop} (h : AH) (r0 : Nat) (x1 : Int32) (x2 : Int32) (hf : (x2 < 0 → P none h) ∧ (¬ x2 < 0 → (isO h 9 r0) ∧ ((900 ≤ (gI h r0 2) → P none h) ∧ (¬ 900 ≤ (gI h r0 2) → (isA h 2 (gF h r0 0)) ∧ ((vp_in (gI h r0 2) (ln (gF h r0 0))) ∧ (Rr mX9_put 0 0 3 [(0, .ref r0), (1, .int x1), (2, .int (x2 + (-8)))] [] (sI (sI h (gF h r0 0) (gI h r0 2).toNatClampNeg (iushr x1 x2).toInt8.toInt32.toInt8.toInt32) r0 2 ((gI h r0 2) + 1)) P)))))) : Rr mX9_put 0 0 3 [(0, .ref r0), (1, .int x1), (2, .int x2)] [] h P := by
  refine R_iload_n dX9_put_3 rfl 2 rfl ?_
  refine R_if_lt (tgt := 46) dX9_put_4 (by decide) (fun b1 => ?_) (fun b1 => ?_)
  · have hf := hf.1 b1
    exact R_ret dX9_put_46 rfl hf
  · have hf := hf.2 b1
    refine R_aload_n dX9_put_7 rfl 0 rfl ?_
    obtain ⟨ob2, hf⟩ := hf
    refine G9_2 dX9_put_8 lfX9_15 ob2 ?_
    refine R_sipush (v := 900) dX9_put_11 (by decide) ?_
    refine R_icmp_ge (tgt := 46) dX9_put_14 (by decide) (fun b3 => ?_) (fun b3 => ?_)
    · have hf := hf.1 b3
      exact R_ret dX9_put_46 rfl hf
    · have hf := hf.2 b3
      refine R_aload_n dX9_put_17 rfl 0 rfl ?_
      refine G9_0 dX9_put_18 lfX9_11 ob2 ?_
      refine R_aload_n dX9_put_21 rfl 0 rfl ?_
      refine G9_2 dX9_put_22 lfX9_15 ob2 ?_
      refine R_iload_n dX9_put_25 rfl 1 rfl ?_
      refine R_iload_n dX9_put_26 rfl 2 rfl ?_
      refine R_iushr dX9_put_27 ?_
      refine R_i2b dX9_put_28 ?_
      obtain ⟨ob4, hf⟩ := hf
      obtain ⟨ob5, hf⟩ := hf
      refine R_bastore dX9_put_29 ob4 ob5 ?_
      refine R_aload_n dX9_put_30 rfl 0 rfl ?_
      refine R_dup dX9_put_31 rfl ?_
      refine G9_2 dX9_put_32 lfX9_15 ob2 ?_
      refine R_eqI (y := gI h r0 2) (rd_r (ne_oa ob2 ob4 (by decide))) ?_
      refine R_iconst (v := 1) dX9_put_35 (by decide) ?_
      refine R_iadd dX9_put_36 ?_
      refine S9_2 dX9_put_37 lfX9_15 ob2 ?_
      refine R_iinc (v := x2 + (-8)) dX9_put_40 2 rfl rfl (by decide) rfl ?_
      refine R_goto (tgt := 3) dX9_put_43 (by decide) ?_
      exact R_sub [1, 2, 0] rfl hf
theorem dX9_rewind_0 : decode cX9_rewind 0 = .ok (.aload_n 0, 1) := by decide +kernel
theorem dX9_rewind_1 : decode cX9_rewind 1 = .ok (.iconst 0, 1) := by decide +kernel
theorem dX9_rewind_2 : decode cX9_rewind 2 = .ok (.putfield 19, 3) := by decide +kernel
theorem dX9_rewind_5 : decode cX9_rewind 5 = .ok (.return_, 1) := by decide +kernel
set_option maxRecDepth 20000 in
theorem sX9_rewind_0 {P : Option Value → AH → Prop} (h : AH) (r0 : Nat) (hf : (isO h 9 r0) ∧ (P none (sI h r0 1 0))) : Rr mX9_rewind 0 0 0 [(0, .ref r0)] [] h P := by
  refine R_aload_n dX9_rewind_0 rfl 0 rfl ?_
  refine R_iconst (v := 0) dX9_rewind_1 (by decide) ?_
  obtain ⟨ob1, hf⟩ := hf
  refine S9_1 dX9_rewind_2 lfX9_19 ob1 ?_
  exact R_ret dX9_rewind_5 rfl hf
theorem aX9_rewind {h : AH} {P : Option Value → AH → Prop} {r0 : Nat} (o0 : isO h 9 r0) (k : P none (sI h r0 1 0)) : Call mX9_rewind [.ref r0] h P :=
  Call.ofR (by decide +kernel) (Nat.le_of_ble_eq_true rfl) (sX9_rewind_0 h r0 (⟨o0, k⟩))
theorem dX9_takeSign_0 : decode cX9_takeSign 0 = .ok (.aload_n 0, 1) := by decide +kernel
theorem dX9_takeSign_1 : decode cX9_takeSign 1 = .ok (.dup, 1) := by decide +kernel
theorem dX9_takeSign_2 : decode cX9_takeSign 2 = .ok (.getfield 19, 3) := by decide +kernel
theorem dX9_takeSign_5 : decode cX9_takeSign 5 = .ok (.iconst 1, 1) := by decide +kernel
theorem dX9_takeSign_6 : decode cX9_takeSign 6 = .ok (.iadd, 1) := by decide +kernel
theorem dX9_takeSign_7 : decode cX9_takeSign 7 = .ok (.putfield 19, 3) := by decide +kernel
theorem dX9_takeSign_10 : decode cX9_takeSign 10 = .ok (.iload_n 1, 1) := by decide +kernel
theorem dX9_takeSign_11 : decode cX9_takeSign 11 = .ok (.lookupswitch 41 #[(45, 33), (59, 25)], 25) := by decide +kernel
theorem dX9_takeSign_36 : decode cX9_takeSign 36 = .ok (.aload_n 0, 1) := by decide +kernel
theorem dX9_takeSign_37 : decode cX9_takeSign 37 = .ok (.iconst 3, 1) := by decide +kernel
theorem dX9_takeSign_38 : decode cX9_takeSign 38 = .ok (.putfield 32, 3) := by decide +kernel
theorem dX9_takeSign_41 : decode cX9_takeSign 41 = .ok (.goto 16, 3) := by decide +kernel
theorem dX9_takeSign_44 : decode cX9_takeSign 44 = .ok (.aload_n 0, 1) := by decide +kernel
theorem dX9_takeSign_45 : decode cX9_takeSign 45 = .ok (.iconst 4, 1) := by decide +kernel
theorem dX9_takeSign_46 : decode cX9_takeSign 46 = .ok (.putfield 32, 3) := by decide +kernel
theorem dX9_takeSign_49 : decode cX9_takeSign 49 = .ok (.goto 8, 3) := by decide +kernel
theorem dX9_takeSign_52 : decode cX9_takeSign 52 = .ok (.aload_n 0, 1) := by decide +kernel
theorem dX9_takeSign_53 : decode cX9_takeSign 53 = .ok (.iconst 5, 1) := by decide +kernel
theorem dX9_takeSign_54 : decode cX9_takeSign 54 = .ok (.putfield 32, 3) := by decide +kernel
theorem dX9_takeSign_57 : decode cX9_takeSign 57 = .ok (.return_, 1) := by decide +kernel
set_option maxRecDepth 20000 in
theorem sX9_takeSign_0 {P : Option Value → AH → Prop} (h : AH) (r0 : Nat) (x1 : Int32) (hf : (isO h 9 r0) ∧ ((x1 = 45 → P none (sI (sI h r0 1 ((gI h r0 1) + 1)) r0 3 4)) ∧ (¬ x1 = 45 → (x1 = 59 → P none (sI (sI h r0 1 ((gI h r0 1) + 1)) r0 3 3)) ∧ (¬ x1 = 59 → P none (sI (sI h r0 1 ((gI h r0 1) + 1)) r0 3 5))))) : Rr mX9_takeSign 0 0 0 [(0, .ref r0), (1, .int x1)] [] h P := by
  refine R_aload_n dX9_takeSign_0 rfl 0 rfl ?_
  refine R_dup dX9_takeSign_1 rfl ?_
  obtain ⟨ob1, hf⟩ := hf
  refine G9_1 dX9_takeSign_2 lfX9_19 ob1 ?_
  refine R_iconst (v := 1) dX9_takeSign_5 (by decide) ?_
  refine R_iadd dX9_takeSign_6 ?_
  refine S9_1 dX9_takeSign_7 lfX9_19 ob1 ?_
  refine R_iload_n dX9_takeSign_10 rfl 1 rfl ?_
  by_cases b2 : x1 = 45
  · have hf := hf.1 b2
    refine R_lookup (off := 33) (tgt := 44) dX9_takeSign_11 (by decide) (by rw [b2]; decide) (by decide) ?_
    refine R_aload_n dX9_takeSign_44 rfl 0 rfl ?_
    refine R_iconst (v := 4) dX9_takeSign_45 (by decide) ?_
    refine S9_3 dX9_takeSign_46 lfX9_32 ob1 ?_
    refine R_goto (tgt := 57) dX9_takeSign_49 (by decide) ?_
    exact R_ret dX9_takeSign_57 rfl hf
  have hf := hf.2 b2
  by_cases b3 : x1 = 59
  · have hf := hf.1 b3
    refine R_lookup (off := 25) (tgt := 36) dX9_takeSign_11 (by decide) (by rw [b3]; decide) (by decide) ?_
    refine R_aload_n dX9_takeSign_36 rfl 0 rfl ?_
    refine R_iconst (v := 3) dX9_takeSign_37 (by decide) ?_
    refine S9_3 dX9_takeSign_38 lfX9_32 ob1 ?_
    refine R_goto (tgt := 57) dX9_takeSign_41 (by decide) ?_
    exact R_ret dX9_takeSign_57 rfl hf
  have hf := hf.2 b3
  refine R_lookup (off := 41) (tgt := 52) dX9_takeSign_11 (by decide) (by rw [lv_osw b2 (by decide)]; rw [lv_osw b3 (by decide)]; rfl) (by decide) ?_
  refine R_aload_n dX9_takeSign_52 rfl 0 rfl ?_
  refine R_iconst (v := 5) dX9_takeSign_53 (by decide) ?_
  refine S9_3 dX9_takeSign_54 lfX9_32 ob1 ?_
  exact R_ret dX9_takeSign_57 rfl hf
theorem dX0_cells_0 : decode cX0_cells 0 = .ok (.iconst 0, 1) := by decide +kernel
theorem dX0_cells_1 : decode cX0_cells 1 = .ok (.istore_n 1, 1) := by decide +kernel
theorem dX0_cells_2 : decode cX0_cells 2 = .ok (.iconst 0, 1) := by decide +kernel
theorem dX0_cells_3 : decode cX0_cells 3 = .ok (.istore_n 2, 1) := by decide +kernel
theorem dX0_cells_4 : decode cX0_cells 4 = .ok (.iload_n 2, 1) := by decide +kernel
theorem dX0_cells_5 : decode cX0_cells 5 = .ok (.iconst 4, 1) := by decide +kernel
theorem dX0_cells_6 : decode cX0_cells 6 = .ok (.if_icmp .ge 21, 3) := by decide +kernel
theorem dX0_cells_9 : decode cX0_cells 9 = .ok (.iload_n 1, 1) := by decide +kernel
theorem dX0_cells_10 : decode cX0_cells 10 = .ok (.aload_n 0, 1) := by decide +kernel
theorem dX0_cells_11 : decode cX0_cells 11 = .ok (.getfield 11, 3) := by decide +kernel
theorem dX0_cells_14 : decode cX0_cells 14 = .ok (.iload_n 2, 1) := by decide +kernel
theorem dX0_cells_15 : decode cX0_cells 15 = .ok (.laload, 1) := by decide +kernel
theorem dX0_cells_16 : decode cX0_cells 16 = .ok (.invokestatic 28, 3) := by decide +kernel
theorem dX0_cells_19 : decode cX0_cells 19 = .ok (.iadd, 1) := by decide +kernel
theorem dX0_cells_20 : decode cX0_cells 20 = .ok (.istore_n 1, 1) := by decide +kernel
theorem dX0_cells_21 : decode cX0_cells 21 = .ok (.iinc 2 1, 3) := by decide +kernel
theorem dX0_cells_24 : decode cX0_cells 24 = .ok (.goto (-20), 3) := by decide +kernel
theorem dX0_cells_27 : decode cX0_cells 27 = .ok (.iload_n 1, 1) := by decide +kernel
theorem dX0_cells_28 : decode cX0_cells 28 = .ok (.ireturn, 1) := by decide +kernel
set_option maxRecDepth 20000 in
theorem sX0_cells_0 {P : Option Value → AH → Prop} (h : AH) (r0 : Nat) (hf : Rr mX0_cells 0 0 4 [(0, .ref r0), (1, .int 0), (2, .int 0)] [] h P) : Rr mX0_cells 0 0 0 [(0, .ref r0)] [] h P := by
  refine R_iconst (v := 0) dX0_cells_0 (by decide) ?_
  refine R_istore_n dX0_cells_1 rfl (by decide) rfl ?_
  refine R_iconst (v := 0) dX0_cells_2 (by decide) ?_
  refine R_istore_n dX0_cells_3 rfl (by decide) rfl ?_
  exact R_sub [2, 1, 0] rfl hf
set_option maxRecDepth 20000 in
theorem sX0_cells_4 {P : Option Value → AH → Prop} (h : AH) (r0 : Nat) (x1 : Int32) (x2 : Int32) (hf : (4 ≤ x2 → P (some (.int x1)) h) ∧ (¬ 4 ≤ x2 → (isO h 0 r0) ∧ ((isA h 1 (gF h r0 0)) ∧ ((vp_in x2 (ln (gF h r0 0))) ∧ (Call mJ13_bitCount_95d88 [.long (gL h (gF h r0 0) x2.toNatClampNeg)] h (fun v h5 => ∃ z6 : Int32, v = some (.int z6) ∧ (Rr mX0_cells 0 0 4 [(0, .ref r0), (1, .int (x1 + z6)), (2, .int (x2 + 1))] [] h5 P))))))) : Rr mX0_cells 0 0 4 [(0, .ref r0), (1, .int x1), (2, .int x2)] [] h P := by
  refine R_iload_n dX0_cells_4 rfl 2 rfl ?_
  refine R_iconst (v := 4) dX0_cells_5 (by decide) ?_
  refine R_icmp_ge (tgt := 27) dX0_cells_6 (by decide) (fun b1 => ?_) (fun b1 => ?_)
  · have hf := hf.1 b1
    refine R_iload_n dX0_cells_27 rfl 1 rfl ?_
    exact R_iret dX0_cells_28 rfl rfl hf
  · have hf := hf.2 b1
    refine R_iload_n dX0_cells_9 rfl 1 rfl ?_
    refine R_aload_n dX0_cells_10 rfl 0 rfl ?_
    obtain ⟨ob2, hf⟩ := hf
    refine G0_0 dX0_cells_11 lfX0_11 ob2 ?_
    refine R_iload_n dX0_cells_14 rfl 2 rfl ?_
    obtain ⟨ob3, hf⟩ := hf
    obtain ⟨ob4, hf⟩ := hf
    refine R_laload dX0_cells_15 ob3 ob4 ?_
    refine R_callS (N := mJ13_bitCount_95d88) (as := [.long (gL h (gF h r0 0) x2.toNatClampNeg)]) (rest := [.int x1]) (kc2 := 0) (ks2 := 0) dX0_cells_16 lmX0_28 oJ13_bitCount_95d88 (Nat.le_of_ble_eq_true rfl) rfl rfl (Nat.le_of_ble_eq_true rfl) rfl rfl (Call.mono hf ?_)
    rintro _ h5 ⟨z6, rfl, hf⟩
    refine R_iadd dX0_cells_19 ?_
    refine R_istore_n dX0_cells_20 rfl (by decide) rfl ?_
    refine R_iinc (v := x2 + 1) dX0_cells_21 2 rfl rfl (by decide) rfl ?_
    refine R_goto (tgt := 4) dX0_cells_24 (by decide) ?_
    exact R_sub [2, 1, 0] rfl hf
theorem dX0_clear_0 : decode cX0_clear 0 = .ok (.aload_n 0, 1) := by decide +kernel
theorem dX0_clear_1 : decode cX0_clear 1 = .ok (.getfield 11, 3) := by decide +kernel
theorem dX0_clear_4 : decode cX0_clear 4 = .ok (.lconst 0, 1) := by decide +kernel
theorem dX0_clear_5 : decode cX0_clear 5 = .ok (.invokestatic 16, 3) := by decide +kernel
theorem dX0_clear_8 : decode cX0_clear 8 = .ok (.return_, 1) := by decide +kernel
set_option maxRecDepth 20000 in
theorem sX0_clear_0 {P : Option Value → AH → Prop} (h : AH) (r0 : Nat) (hf : (isO h 0 r0) ∧ (Call mJ7_fill_d0a16 [.ref (gF h r0 0), .long 0] h (fun v h2 => v = none ∧ (P none h2)))) : Rr mX0_clear 0 0 0 [(0, .ref r0)] [] h P := by
  refine R_aload_n dX0_clear_0 rfl 0 rfl ?_
  obtain ⟨ob1, hf⟩ := hf
  refine G0_0 dX0_clear_1 lfX0_11 ob1 ?_
  refine R_lconst (v := 0) dX0_clear_4 (by decide) ?_
  refine R_callS (N := mJ7_fill_d0a16) (as := [.ref (gF h r0 0), .long 0]) (rest := []) (kc2 := 0) (ks2 := 0) dX0_clear_5 lmX0_16 oJ7_fill_d0a16 (Nat.le_of_ble_eq_true rfl) rfl rfl (Nat.le_of_ble_eq_true rfl) rfl rfl (Call.mono hf ?_)
  rintro _ h2 ⟨rfl, hf⟩
  exact R_ret dX0_clear_8 rfl hf
theorem dX0_copy_0 : decode cX0_copy 0 = .ok (.aload_n 1, 1) := by decide +kernel
theorem dX0_copy_1 : decode cX0_copy 1 = .ok (.getfield 11, 3) := by decide +kernel
theorem dX0_copy_4 : decode cX0_copy 4 = .ok (.iconst 0, 1) := by decide +kernel
theorem dX0_copy_5 : decode cX0_copy 5 = .ok (.aload_n 0, 1) := by decide +kernel
theorem dX0_copy_6 : decode cX0_copy 6 = .ok (.getfield 11, 3) := by decide +kernel
theorem dX0_copy_9 : decode cX0_copy 9 = .ok (.iconst 0, 1) := by decide +kernel
theorem dX0_copy_10 : decode cX0_copy 10 = .ok (.iconst 4, 1) := by decide +kernel
theorem dX0_copy_11 : decode cX0_copy 11 = .ok (.invokestatic 22, 3) := by decide +kernel
theorem dX0_copy_14 : decode cX0_copy 14 = .ok (.return_, 1) := by decide +kernel
set_option maxRecDepth 20000 in
theorem sX0_copy_0 {P : Option Value → AH → Prop} (h : AH) (r0 : Nat) (r1 : Nat) (hf : (isO h 0 r1) ∧ ((isO h 0 r0) ∧ ((isA h 1 (gF h r1 0)) ∧ ((isA h 1 (gF h r0 0)) ∧ (((Int32.toNatClampNeg 0) + (Int32.toNatClampNeg 4) ≤ ln (gF h r1 0)) ∧ (((Int32.toNatClampNeg 0) + (Int32.toNatClampNeg 4) ≤ ln (gF h r0 0)) ∧ (P none (rL h (gF h r0 0) (va_cpy (gL h (gF h r1 0)) (gL h (gF h r0 0)) (Int32.toNatClampNeg 0) (Int32.toNatClampNeg 0) (Int32.toNatClampNeg 4)))))))))) : Rr mX0_copy 0 0 0 [(0, .ref r0), (1, .ref r1)] [] h P := by
  refine R_aload_n dX0_copy_0 rfl 1 rfl ?_
  obtain ⟨ob1, hf⟩ := hf
  refine G0_0 dX0_copy_1 lfX0_11 ob1 ?_
  refine R_iconst (v := 0) dX0_copy_4 (by decide) ?_
  refine R_aload_n dX0_copy_5 rfl 0 rfl ?_
  obtain ⟨ob2, hf⟩ := hf
  refine G0_0 dX0_copy_6 lfX0_11 ob2 ?_
  refine R_iconst (v := 0) dX0_copy_9 (by decide) ?_
  refine R_iconst (v := 4) dX0_copy_10 (by decide) ?_
  obtain ⟨ob3, hf⟩ := hf
  obtain ⟨ob4, hf⟩ := hf
  obtain ⟨ob5, hf⟩ := hf
  obtain ⟨ob6, hf⟩ := hf
  refine R_copyL dX0_copy_11 lmX0_22 w_ac1 w_ac2 w_ac3 (by decide) rfl ob3 ob4 (by decide) (by decide) (by decide) ob5 ob6 ?_
  exact R_ret dX0_copy_14 rfl hf
theorem aX0_copy {h : AH} {P : Option Value → AH → Prop} {r0 : Nat} {r1 : Nat} (o0 : isO h 0 r1) (o1 : isO h 0 r0) (o2 : isA h 1 (gF h r1 0)) (o3 : isA h 1 (gF h r0 0)) (o4 : (Int32.toNatClampNeg 0) + (Int32.toNatClampNeg 4) ≤ ln (gF h r1 0)) (o5 : (Int32.toNatClampNeg 0) + (Int32.toNatClampNeg 4) ≤ ln (gF h r0 0)) (k : P none (rL h (gF h r0 0) (va_cpy (gL h (gF h r1 0)) (gL h (gF h r0 0)) (Int32.toNatClampNeg 0) (Int32.toNatClampNeg 0) (Int32.toNatClampNeg 4)))) : Call mX0_copy [.ref r0, .ref r1] h P :=
  Call.ofR (by decide +kernel) (Nat.le_of_ble_eq_true rfl) (sX0_copy_0 h r0 r1 (⟨o0, ⟨o1, ⟨o2, ⟨o3, ⟨o4, ⟨o5, k⟩⟩⟩⟩⟩⟩))
theorem dX0_grow_0 : decode cX0_grow 0 = .ok (.iload_n 1, 1) := by decide +kernel
theorem dX0_grow_1 : decode cX0_grow 1 = .ok (.ifCond .ge 7, 3) := by decide +kernel
theorem dX0_grow_4 : decode cX0_grow 4 = .ok (.aload_n 0, 1) := by decide +kernel
theorem dX0_grow_5 : decode cX0_grow 5 = .ok (.invokevirtual 35, 3) := by decide +kernel
theorem dX0_grow_8 : decode cX0_grow 8 = .ok (.iconst 0, 1) := by decide +kernel
theorem dX0_grow_9 : decode cX0_grow 9 = .ok (.istore_n 2, 1) := by decide +kernel
theorem dX0_grow_10 : decode cX0_grow 10 = .ok (.iload_n 2, 1) := by decide +kernel
theorem dX0_grow_11 : decode cX0_grow 11 = .ok (.iload_n 1, 1) := by decide +kernel
theorem dX0_grow_12 : decode cX0_grow 12 = .ok (.invokestatic 38, 3) := by decide +kernel
theorem dX0_grow_15 : decode cX0_grow 15 = .ok (.if_icmp .ge 13, 3) := by decide +kernel
theorem dX0_grow_18 : decode cX0_grow 18 = .ok (.aload_n 0, 1) := by decide +kernel
theorem dX0_grow_19 : decode cX0_grow 19 = .ok (.invokevirtual 44, 3) := by decide +kernel
theorem dX0_grow_22 : decode cX0_grow 22 = .ok (.iinc 2 1, 3) := by decide +kernel
theorem dX0_grow_25 : decode cX0_grow 25 = .ok (.goto (-15), 3) := by decide +kernel
theorem dX0_grow_28 : decode cX0_grow 28 = .ok (.iload_n 1, 1) := by decide +kernel
theorem dX0_grow_29 : decode cX0_grow 29 = .ok (.ifCond .ge 7, 3) := by decide +kernel
theorem dX0_grow_32 : decode cX0_grow 32 = .ok (.aload_n 0, 1) := by decide +kernel
theorem dX0_grow_33 : decode cX0_grow 33 = .ok (.invokevirtual 35, 3) := by decide +kernel
theorem dX0_grow_36 : decode cX0_grow 36 = .ok (.return_, 1) := by decide +kernel
set_option maxRecDepth 20000 in
theorem sX0_grow_0 {P : Option Value → AH → Prop} (h : AH) (r0 : Nat) (x1 : Int32) (hf : (0 ≤ x1 → Rr mX0_grow 0 0 10 [(0, .ref r0), (1, .int x1), (2, .int 0)] [] h P) ∧ (¬ 0 ≤ x1 → (isO h 0 r0) ∧ (Call mX0_invert [.ref r0] h (fun v h3 => v = none ∧ (Rr mX0_grow 0 0 10 [(0, .ref r0), (1, .int x1), (2, .int 0)] [] h3 P))))) : Rr mX0_grow 0 0 0 [(0, .ref r0), (1, .int x1)] [] h P := by
  refine R_iload_n dX0_grow_0 rfl 1 rfl ?_
  refine R_if_ge (tgt := 8) dX0_grow_1 (by decide) (fun b1 => ?_) (fun b1 => ?_)
  · have hf := hf.1 b1
    refine R_iconst (v := 0) dX0_grow_8 (by decide) ?_
    refine R_istore_n dX0_grow_9 rfl (by decide) rfl ?_
    exact R_sub [1, 2, 0] rfl hf
  · have hf := hf.2 b1
    refine R_aload_n dX0_grow_4 rfl 0 rfl ?_
    obtain ⟨ob2, hf⟩ := hf
    refine R_callV (ci := 0) (N := mX0_invert) (as := []) (rest := []) (kc2 := 0) (ks2 := 0) dX0_grow_5 lmX0_35 oX0_invert (Nat.le_of_ble_eq_true rfl) rfl rfl (Nat.le_of_ble_eq_true rfl) rfl rfl ob2 ok0 (Call.mono hf ?_)
    rintro _ h3 ⟨rfl, hf⟩
    refine R_iconst (v := 0) dX0_grow_8 (by decide) ?_
    refine R_istore_n dX0_grow_9 rfl (by decide) rfl ?_
    exact R_sub [1, 2, 0] rfl hf
set_option maxRecDepth 20000 in
theorem sX0_grow_10 {P : Option Value → AH → Prop} (h : AH) (r0 : Nat) (x1 : Int32) (x2 : Int32) (hf : ((iabs x1) ≤ x2 → (0 ≤ x1 → P none h) ∧ (¬ 0 ≤ x1 → (isO h 0 r0) ∧ (Call mX0_invert [.ref r0] h (fun v h4 => v = none ∧ (P none h4))))) ∧ (¬ (iabs x1) ≤ x2 → (isO h 0 r0) ∧ (Call mX0_growOnce [.ref r0] h (fun v h6 => v = none ∧ (Rr mX0_grow 0 0 10 [(0, .ref r0), (1, .int x1), (2, .int (x2 + 1))] [] h6 P))))) : Rr mX0_grow 0 0 10 [(0, .ref r0), (1, .int x1), (2, .int x2)] [] h P := by
  refine R_iload_n dX0_grow_10 rfl 2 rfl ?_
  refine R_iload_n dX0_grow_11 rfl 1 rfl ?_
  refine R_mabs dX0_grow_12 lmX0_38 (by decide) (Nat.le_of_ble_eq_true rfl) ?_
  refine R_icmp_ge (tgt := 28) dX0_grow_15 (by decide) (fun b1 => ?_) (fun b1 => ?_)
  · have hf := hf.1 b1
    refine R_iload_n dX0_grow_28 rfl 1 rfl ?_
    refine R_if_ge (tgt := 36) dX0_grow_29 (by decide) (fun b2 => ?_) (fun b2 => ?_)
    · have hf := hf.1 b2
      exact R_ret dX0_grow_36 rfl hf
    · have hf := hf.2 b2
      refine R_aload_n dX0_grow_32 rfl 0 rfl ?_
      obtain ⟨ob3, hf⟩ := hf
      refine R_callV (ci := 0) (N := mX0_invert) (as := []) (rest := []) (kc2 := 0) (ks2 := 0) dX0_grow_33 lmX0_35 oX0_invert (Nat.le_of_ble_eq_true rfl) rfl rfl (Nat.le_of_ble_eq_true rfl) rfl rfl ob3 ok0 (Call.mono hf ?_)
      rintro _ h4 ⟨rfl, hf⟩
      exact R_ret dX0_grow_36 rfl hf
  · have hf := hf.2 b1
    refine R_aload_n dX0_grow_18 rfl 0 rfl ?_
    obtain ⟨ob5, hf⟩ := hf
    refine R_callV (ci := 0) (N := mX0_growOnce) (as := []) (rest := []) (kc2 := 0) (ks2 := 0) dX0_grow_19 lmX0_44 oX0_growOnce (Nat.le_of_ble_eq_true rfl) rfl rfl (Nat.le_of_ble_eq_true rfl) rfl rfl ob5 ok0 (Call.mono hf ?_)
    rintro _ h6 ⟨rfl, hf⟩
    refine R_iinc (v := x2 + 1) dX0_grow_22 2 rfl rfl (by decide) rfl ?_
    refine R_goto (tgt := 10) dX0_grow_25 (by decide) ?_
    exact R_sub [1, 2, 0] rfl hf
theorem dX0_move_0 : decode cX0_move 0 = .ok (.aload_n 0, 1) := by decide +kernel
theorem dX0_move_1 : decode cX0_move 1 = .ok (.iload_n 1, 1) := by decide +kernel
theorem dX0_move_2 : decode cX0_move 2 = .ok (.invokevirtual 53, 3) := by decide +kernel
theorem dX0_move_5 : decode cX0_move 5 = .ok (.iconst 0, 1) := by decide +kernel
theorem dX0_move_6 : decode cX0_move 6 = .ok (.istore_n 3, 1) := by decide +kernel
theorem dX0_move_7 : decode cX0_move 7 = .ok (.iload_n 3, 1) := by decide +kernel
theorem dX0_move_8 : decode cX0_move 8 = .ok (.iload_n 2, 1) := by decide +kernel
theorem dX0_move_9 : decode cX0_move 9 = .ok (.if_icmp .ge 13, 3) := by decide +kernel
theorem dX0_move_12 : decode cX0_move 12 = .ok (.aload_n 0, 1) := by decide +kernel
theorem dX0_move_13 : decode cX0_move 13 = .ok (.invokevirtual 57, 3) := by decide +kernel
theorem dX0_move_16 : decode cX0_move 16 = .ok (.iinc 3 1, 3) := by decide +kernel
theorem dX0_move_19 : decode cX0_move 19 = .ok (.goto (-12), 3) := by decide +kernel
theorem dX0_move_22 : decode cX0_move 22 = .ok (.iconst 0, 1) := by decide +kernel
theorem dX0_move_23 : decode cX0_move 23 = .ok (.istore_n 3, 1) := by decide +kernel
theorem dX0_move_24 : decode cX0_move 24 = .ok (.iload_n 3, 1) := by decide +kernel
theorem dX0_move_25 : decode cX0_move 25 = .ok (.iload_n 2, 1) := by decide +kernel
theorem dX0_move_26 : decode cX0_move 26 = .ok (.ineg, 1) := by decide +kernel
theorem dX0_move_27 : decode cX0_move 27 = .ok (.if_icmp .ge 13, 3) := by decide +kernel
theorem dX0_move_30 : decode cX0_move 30 = .ok (.aload_n 0, 1) := by decide +kernel
theorem dX0_move_31 : decode cX0_move 31 = .ok (.invokevirtual 60, 3) := by decide +kernel
theorem dX0_move_34 : decode cX0_move 34 = .ok (.iinc 3 1, 3) := by decide +kernel
theorem dX0_move_37 : decode cX0_move 37 = .ok (.goto (-13), 3) := by decide +kernel
theorem dX0_move_40 : decode cX0_move 40 = .ok (.return_, 1) := by decide +kernel
set_option maxRecDepth 20000 in
theorem sX0_move_0 {P : Option Value → AH → Prop} (h : AH) (r0 : Nat) (x1 : Int32) (x2 : Int32) (hf : (isO h 0 r0) ∧ (Call mX0_moveAcross [.ref r0, .int x1] h (fun v h2 => v = none ∧ (Rr mX0_move 0 0 7 [(0, .ref r0), (2, .int x2), (3, .int 0)] [] h2 P)))) : Rr mX0_move 0 0 0 [(0, .ref r0), (1, .int x1), (2, .int x2)] [] h P := by
  refine R_aload_n dX0_move_0 rfl 0 rfl ?_
  refine R_iload_n dX0_move_1 rfl 1 rfl ?_
  obtain ⟨ob1, hf⟩ := hf
  refine R_callV (ci := 0) (N := mX0_moveAcross) (as := [.int x1]) (rest := []) (kc2 := 0) (ks2 := 0) dX0_move_2 lmX0_53 oX0_moveAcross (Nat.le_of_ble_eq_true rfl) rfl rfl (Nat.le_of_ble_eq_true rfl) rfl rfl ob1 ok0 (Call.mono hf ?_)
  rintro _ h2 ⟨rfl, hf⟩
  refine R_iconst (v := 0) dX0_move_5 (by decide) ?_
  refine R_istore_n dX0_move_6 rfl (by decide) rfl ?_
  exact R_sub [1, 3, 0] rfl hf
set_option maxRecDepth 20000 in
theorem sX0_move_7 {P : Option Value → AH → Prop} (h : AH) (r0 : Nat) (x2 : Int32) (x3 : Int32) (hf : (x2 ≤ x3 → Rr mX0_move 0 0 24 [(0, .ref r0), (2, .int x2), (3, .int 0)] [] h P) ∧ (¬ x2 ≤ x3 → (isO h 0 r0) ∧ (Call mX0_moveUpOnce [.ref r0] h (fun v h3 => v = none ∧ (Rr mX0_move 0 0 7 [(0, .ref r0), (2, .int x2), (3, .int (x3 + 1))] [] h3 P))))) : Rr mX0_move 0 0 7 [(0, .ref r0), (2, .int x2), (3, .int x3)] [] h P := by
  refine R_iload_n dX0_move_7 rfl 2 rfl ?_
  refine R_iload_n dX0_move_8 rfl 1 rfl ?_
  refine R_icmp_ge (tgt := 22) dX0_move_9 (by decide) (fun b1 => ?_) (fun b1 => ?_)
  · have hf := hf.1 b1
    refine R_iconst (v := 0) dX0_move_22 (by decide) ?_
    refine R_istore_n dX0_move_23 rfl (by decide) rfl ?_
    exact R_sub [1, 2, 0] rfl hf
  · have hf := hf.2 b1
    refine R_aload_n dX0_move_12 rfl 0 rfl ?_
    obtain ⟨ob2, hf⟩ := hf
    refine R_callV (ci := 0) (N := mX0_moveUpOnce) (as := []) (rest := []) (kc2 := 0) (ks2 := 0) dX0_move_13 lmX0_57 oX0_moveUpOnce (Nat.le_of_ble_eq_true rfl) rfl rfl (Nat.le_of_ble_eq_true rfl) rfl rfl ob2 ok0 (Call.mono hf ?_)
    rintro _ h3 ⟨rfl, hf⟩
    refine R_iinc (v := x3 + 1) dX0_move_16 2 rfl rfl (by decide) rfl ?_
    refine R_goto (tgt := 7) dX0_move_19 (by decide) ?_
    exact R_sub [1, 2, 0] rfl hf
set_option maxRecDepth 20000 in
theorem sX0_move_24 {P : Option Value → AH → Prop} (h : AH) (r0 : Nat) (x2 : Int32) (x3 : Int32) (hf : ((-x2) ≤ x3 → P none h) ∧ (¬ (-x2) ≤ x3 → (isO h 0 r0) ∧ (Call mX0_moveDownOnce [.ref r0] h (fun v h3 => v = none ∧ (Rr mX0_move 0 0 24 [(0, .ref r0), (2, .int x2), (3, .int (x3 + 1))] [] h3 P))))) : Rr mX0_move 0 0 24 [(0, .ref r0), (2, .int x2), (3, .int x3)] [] h P := by
  refine R_iload_n dX0_move_24 rfl 2 rfl ?_
  refine R_iload_n dX0_move_25 rfl 1 rfl ?_
  refine R_ineg dX0_move_26 ?_
  refine R_icmp_ge (tgt := 40) dX0_move_27 (by decide) (fun b1 => ?_) (fun b1 => ?_)
  · have hf := hf.1 b1
    exact R_ret dX0_move_40 rfl hf
  · have hf := hf.2 b1
    refine R_aload_n dX0_move_30 rfl 0 rfl ?_
    obtain ⟨ob2, hf⟩ := hf
    refine R_callV (ci := 0) (N := mX0_moveDownOnce) (as := []) (rest := []) (kc2 := 0) (ks2 := 0) dX0_move_31 lmX0_60 oX0_moveDownOnce (Nat.le_of_ble_eq_true rfl) rfl rfl (Nat.le_of_ble_eq_true rfl) rfl rfl ob2 ok0 (Call.mono hf ?_)
    rintro _ h3 ⟨rfl, hf⟩
    refine R_iinc (v := x3 + 1) dX0_move_34 2 rfl rfl (by decide) rfl ?_
    refine R_goto (tgt := 24) dX0_move_37 (by decide) ?_
    exact R_sub [1, 2, 0] rfl hf
theorem dX10_bound_0 : decode cX10_bound 0 = .ok (.iconst 1, 1) := by decide +kernel
theorem dX10_bound_1 : decode cX10_bound 1 = .ok (.istore 5, 2) := by decide +kernel
theorem dX10_bound_3 : decode cX10_bound 3 = .ok (.iconst 0, 1) := by decide +kernel
theorem dX10_bound_4 : decode cX10_bound 4 = .ok (.istore 6, 2) := by decide +kernel
theorem dX10_bound_6 : decode cX10_bound 6 = .ok (.iload 6, 2) := by decide +kernel
theorem dX10_bound_8 : decode cX10_bound 8 = .ok (.iload_n 1, 1) := by decide +kernel
theorem dX10_bound_9 : decode cX10_bound 9 = .ok (.if_icmp .ge 127, 3) := by decide +kernel
theorem dX10_bound_12 : decode cX10_bound 12 = .ok (.iload 6, 2) := by decide +kernel
theorem dX10_bound_14 : decode cX10_bound 14 = .ok (.bipush 20, 2) := by decide +kernel
theorem dX10_bound_16 : decode cX10_bound 16 = .ok (.if_icmp .ge 120, 3) := by decide +kernel
theorem dX10_bound_19 : decode cX10_bound 19 = .ok (.aload_n 0, 1) := by decide +kernel
theorem dX10_bound_20 : decode cX10_bound 20 = .ok (.getfield 15, 3) := by decide +kernel
theorem dX10_bound_23 : decode cX10_bound 23 = .ok (.iload 6, 2) := by decide +kernel
theorem dX10_bound_25 : decode cX10_bound 25 = .ok (.bipush 10, 2) := by decide +kernel
theorem dX10_bound_27 : decode cX10_bound 27 = .ok (.iastore, 1) := by decide +kernel
theorem dX10_bound_28 : decode cX10_bound 28 = .ok (.aload_n 0, 1) := by decide +kernel
theorem dX10_bound_29 : decode cX10_bound 29 = .ok (.getfield 18, 3) := by decide +kernel
theorem dX10_bound_32 : decode cX10_bound 32 = .ok (.iload 6, 2) := by decide +kernel
theorem dX10_bound_34 : decode cX10_bound 34 = .ok (.iconst (-1), 1) := by decide +kernel
theorem dX10_bound_35 : decode cX10_bound 35 = .ok (.iastore, 1) := by decide +kernel
theorem dX10_bound_36 : decode cX10_bound 36 = .ok (.iconst 0, 1) := by decide +kernel
theorem dX10_bound_37 : decode cX10_bound 37 = .ok (.istore 7, 2) := by decide +kernel
theorem dX10_bound_39 : decode cX10_bound 39 = .ok (.iload 7, 2) := by decide +kernel
theorem dX10_bound_41 : decode cX10_bound 41 = .ok (.bipush 10, 2) := by decide +kernel
theorem dX10_bound_43 : decode cX10_bound 43 = .ok (.if_icmp .ge 64, 3) := by decide +kernel
theorem dX10_bound_46 : decode cX10_bound 46 = .ok (.aload_n 0, 1) := by decide +kernel
theorem dX10_bound_47 : decode cX10_bound 47 = .ok (.getfield 11, 3) := by decide +kernel
theorem dX10_bound_50 : decode cX10_bound 50 = .ok (.iload 6, 2) := by decide +kernel
theorem dX10_bound_52 : decode cX10_bound 52 = .ok (.iaload, 1) := by decide +kernel
theorem dX10_bound_53 : decode cX10_bound 53 = .ok (.iload 7, 2) := by decide +kernel
theorem dX10_bound_55 : decode cX10_bound 55 = .ok (.iload_n 2, 1) := by decide +kernel
theorem dX10_bound_56 : decode cX10_bound 56 = .ok (.imul, 1) := by decide +kernel
theorem dX10_bound_57 : decode cX10_bound 57 = .ok (.iadd, 1) := by decide +kernel
theorem dX10_bound_58 : decode cX10_bound 58 = .ok (.istore 8, 2) := by decide +kernel
theorem dX10_bound_60 : decode cX10_bound 60 = .ok (.iload 8, 2) := by decide +kernel
theorem dX10_bound_62 : decode cX10_bound 62 = .ok (.iload_n 3, 1) := by decide +kernel
theorem dX10_bound_63 : decode cX10_bound 63 = .ok (.if_icmp .lt 38, 3) := by decide +kernel
theorem dX10_bound_66 : decode cX10_bound 66 = .ok (.iload 8, 2) := by decide +kernel
theorem dX10_bound_68 : decode cX10_bound 68 = .ok (.iload 4, 2) := by decide +kernel
theorem dX10_bound_70 : decode cX10_bound 70 = .ok (.if_icmp .gt 31, 3) := by decide +kernel
theorem dX10_bound_73 : decode cX10_bound 73 = .ok (.aload_n 0, 1) := by decide +kernel
theorem dX10_bound_74 : decode cX10_bound 74 = .ok (.getfield 15, 3) := by decide +kernel
theorem dX10_bound_77 : decode cX10_bound 77 = .ok (.iload 6, 2) := by decide +kernel
theorem dX10_bound_79 : decode cX10_bound 79 = .ok (.aload_n 0, 1) := by decide +kernel
theorem dX10_bound_80 : decode cX10_bound 80 = .ok (.getfield 15, 3) := by decide +kernel
theorem dX10_bound_83 : decode cX10_bound 83 = .ok (.iload 6, 2) := by decide +kernel
theorem dX10_bound_85 : decode cX10_bound 85 = .ok (.iaload, 1) := by decide +kernel
theorem dX10_bound_86 : decode cX10_bound 86 = .ok (.iload 7, 2) := by decide +kernel
theorem dX10_bound_88 : decode cX10_bound 88 = .ok (.invokestatic 33, 3) := by decide +kernel
theorem dX10_bound_91 : decode cX10_bound 91 = .ok (.iastore, 1) := by decide +kernel
theorem dX10_bound_92 : decode cX10_bound 92 = .ok (.aload_n 0, 1) := by decide +kernel
theorem dX10_bound_93 : decode cX10_bound 93 = .ok (.getfield 18, 3) := by decide +kernel
theorem dX10_bound_96 : decode cX10_bound 96 = .ok (.iload 6, 2) := by decide +kernel
theorem dX10_bound_98 : decode cX10_bound 98 = .ok (.iload 7, 2) := by decide +kernel
theorem dX10_bound_100 : decode cX10_bound 100 = .ok (.iastore, 1) := by decide +kernel
theorem dX10_bound_101 : decode cX10_bound 101 = .ok (.iinc 7 1, 3) := by decide +kernel
theorem dX10_bound_104 : decode cX10_bound 104 = .ok (.goto (-65), 3) := by decide +kernel
theorem dX10_bound_107 : decode cX10_bound 107 = .ok (.iload 5, 2) := by decide +kernel
theorem dX10_bound_109 : decode cX10_bound 109 = .ok (.ifCond .eq 18, 3) := by decide +kernel
theorem dX10_bound_112 : decode cX10_bound 112 = .ok (.aload_n 0, 1) := by decide +kernel
theorem dX10_bound_113 : decode cX10_bound 113 = .ok (.getfield 18, 3) := by decide +kernel
theorem dX10_bound_116 : decode cX10_bound 116 = .ok (.iload 6, 2) := by decide +kernel
theorem dX10_bound_118 : decode cX10_bound 118 = .ok (.iaload, 1) := by decide +kernel
theorem dX10_bound_119 : decode cX10_bound 119 = .ok (.iconst (-1), 1) := by decide +kernel
theorem dX10_bound_120 : decode cX10_bound 120 = .ok (.if_icmp .eq 7, 3) := by decide +kernel
theorem dX10_bound_123 : decode cX10_bound 123 = .ok (.iconst 1, 1) := by decide +kernel
theorem dX10_bound_124 : decode cX10_bound 124 = .ok (.goto 4, 3) := by decide +kernel
theorem dX10_bound_127 : decode cX10_bound 127 = .ok (.iconst 0, 1) := by decide +kernel
theorem dX10_bound_128 : decode cX10_bound 128 = .ok (.istore 5, 2) := by decide +kernel
theorem dX10_bound_130 : decode cX10_bound 130 = .ok (.iinc 6 1, 3) := by decide +kernel
theorem dX10_bound_133 : decode cX10_bound 133 = .ok (.goto (-127), 3) := by decide +kernel
theorem dX10_bound_136 : decode cX10_bound 136 = .ok (.iload 5, 2) := by decide +kernel
theorem dX10_bound_138 : decode cX10_bound 138 = .ok (.ireturn, 1) := by decide +kernel
set_option maxRecDepth 20000 in
theorem sX10_bound_0 {P : Option Value → AH → Prop} (h : AH) (r0 : Nat) (x1 : Int32) (x2 : Int32) (x3 : Int32) (x4 : Int32) (hf : Rr mX10_bound 0 0 6 [(0, .ref r0), (1, .int x1), (2, .int x2), (3, .int x3), (4, .int x4), (5, .int 1), (6, .int 0)] [] h P) : Rr mX10_bound 0 0 0 [(0, .ref r0), (1, .int x1), (2, .int x2), (3, .int x3), (4, .int x4)] [] h P := by
  refine R_iconst (v := 1) dX10_bound_0 (by decide) ?_
  refine R_istore dX10_bound_1 (by decide) rfl ?_
  refine R_iconst (v := 0) dX10_bound_3 (by decide) ?_
  refine R_istore dX10_bound_4 (by decide) rfl ?_
  exact R_sub [2, 3, 4, 5, 6, 1, 0] rfl hf
set_option maxRecDepth 20000 in
theorem sX10_bound_6 {P : Option Value → AH → Prop} (h : AH) (r0 : Nat) (x1 : Int32) (x2 : Int32) (x3 : Int32) (x4 : Int32) (x5 : Int32) (x6 : Int32) (hf : (x1 ≤ x6 → (x5 = 0 ∨ x5 = 1) ∧ (P (some (.int x5)) h)) ∧ (¬ x1 ≤ x6 → (20 ≤ x6 → (x5 = 0 ∨ x5 = 1) ∧ (P (some (.int x5)) h)) ∧ (¬ 20 ≤ x6 → (isO h 10 r0) ∧ ((isA h 0 (gF h r0 1)) ∧ ((vp_in x6 (ln (gF h r0 1))) ∧ ((isA h 0 (gF h r0 2)) ∧ ((vp_in x6 (ln (gF h r0 2))) ∧ (Rr mX10_bound 0 0 39 [(0, .ref r0), (1, .int x1), (2, .int x2), (3, .int x3), (4, .int x4), (5, .int x5), (6, .int x6), (7, .int 0)] [] (sI (sI h (gF h r0 1) x6.toNatClampNeg 10) (gF h r0 2) x6.toNatClampNeg (-1)) P)))))))) : Rr mX10_bound 0 0 6 [(0, .ref r0), (1, .int x1), (2, .int x2), (3, .int x3), (4, .int x4), (5, .int x5), (6, .int x6)] [] h P := by
  refine R_iload dX10_bound_6 6 rfl ?_
  refine R_iload_n dX10_bound_8 rfl 1 rfl ?_
  refine R_icmp_ge (tgt := 136) dX10_bound_9 (by decide) (fun b1 => ?_) (fun b1 => ?_)
  · have hf := hf.1 b1
    refine R_iload dX10_bound_136 5 rfl ?_
    obtain ⟨ob2, hf⟩ := hf
    exact R_iret dX10_bound_138 rfl (nb_n ob2) hf
  · have hf := hf.2 b1
    refine R_iload dX10_bound_12 6 rfl ?_
    refine R_bipush (v := 20) dX10_bound_14 (by decide) ?_
    refine R_icmp_ge (tgt := 136) dX10_bound_16 (by decide) (fun b3 => ?_) (fun b3 => ?_)
    · have hf := hf.1 b3
      refine R_iload dX10_bound_136 5 rfl ?_
      obtain ⟨ob4, hf⟩ := hf
      exact R_iret dX10_bound_138 rfl (nb_n ob4) hf
    · have hf := hf.2 b3
      refine R_aload_n dX10_bound_19 rfl 0 rfl ?_
      obtain ⟨ob5, hf⟩ := hf
      refine G10_1 dX10_bound_20 lfX10_15 ob5 ?_
      refine R_iload dX10_bound_23 6 rfl ?_
      refine R_bipush (v := 10) dX10_bound_25 (by decide) ?_
      obtain ⟨ob6, hf⟩ := hf
      obtain ⟨ob7, hf⟩ := hf
      refine R_iastore dX10_bound_27 ob6 ob7 ?_
      refine R_aload_n dX10_bound_28 rfl 0 rfl ?_
      refine G10_2 dX10_bound_29 lfX10_18 ob5 ?_
      refine R_eqF (y := gF h r0 2) rfl ?_
      refine R_iload dX10_bound_32 6 rfl ?_
      refine R_iconst (v := (-1)) dX10_bound_34 (by decide) ?_
      obtain ⟨ob8, hf⟩ := hf
      obtain ⟨ob9, hf⟩ := hf
      refine R_iastore dX10_bound_35 ob8 ob9 ?_
      refine R_iconst (v := 0) dX10_bound_36 (by decide) ?_
      refine R_istore dX10_bound_37 (by decide) rfl ?_
      exact R_sub [1, 2, 3, 4, 5, 6, 7, 0] rfl hf
set_option maxRecDepth 20000 in
theorem sX10_bound_39 {P : Option Value → AH → Prop} (h : AH) (r0 : Nat) (x1 : Int32) (x2 : Int32) (x3 : Int32) (x4 : Int32) (x5 : Int32) (x6 : Int32) (x7 : Int32) (hf : (10 ≤ x7 → (isO h 10 r0) ∧ ((isA h 0 (gF h r0 2)) ∧ ((¬ x5 = 0 → vp_in x6 (ln (gF h r0 2))) ∧ (Rr mX10_bound 0 0 6 [(0, .ref r0), (1, .int x1), (2, .int x2), (3, .int x3), (4, .int x4), (5, .int (bi (¬ x5 = 0 ∧ ¬ (gI h (gF h r0 2) x6.toNatClampNeg) = (-1)))), (6, .int (x6 + 1))] [] h P)))) ∧ (¬ 10 ≤ x7 → (isO h 10 r0) ∧ ((isA h 0 (gF h r0 0)) ∧ ((vp_in x6 (ln (gF h r0 0))) ∧ ((((gI h (gF h r0 0) x6.toNatClampNeg) + (x7 * x2)) < x3 → Rr mX10_bound 0 0 39 [(0, .ref r0), (1, .int x1), (2, .int x2), (3, .int x3), (4, .int x4), (5, .int x5), (6, .int x6), (7, .int (x7 + 1))] [] h P) ∧ (¬ ((gI h (gF h r0 0) x6.toNatClampNeg) + (x7 * x2)) < x3 → (x4 < ((gI h (gF h r0 0) x6.toNatClampNeg) + (x7 * x2)) → Rr mX10_bound 0 0 39 [(0, .ref r0), (1, .int x1), (2, .int x2), (3, .int x3), (4, .int x4), (5, .int x5), (6, .int x6), (7, .int (x7 + 1))] [] h P) ∧ (¬ x4 < ((gI h (gF h r0 0) x6.toNatClampNeg) + (x7 * x2)) → (isA h 0 (gF h r0 1)) ∧ ((vp_in x6 (ln (gF h r0 1))) ∧ ((isA h 0 (gF h r0 2)) ∧ ((vp_in x6 (ln (gF h r0 2))) ∧ (Rr mX10_bound 0 0 39 [(0, .ref r0), (1, .int x1), (2, .int x2), (3, .int x3), (4, .int x4), (5, .int x5), (6, .int x6), (7, .int (x7 + 1))] [] (sI (sI h (gF h r0 1) x6.toNatClampNeg (imin (gI h (gF h r0 1) x6.toNatClampNeg) x7)) (gF h r0 2) x6.toNatClampNeg x7) P))))))))))) : Rr mX10_bound 0 0 39 [(0, .ref r0), (1, .int x1), (2, .int x2), (3, .int x3), (4, .int x4), (5, .int x5), (6, .int x6), (7, .int x7)] [] h P := by
  refine R_iload dX10_bound_39 7 rfl ?_
  refine R_bipush (v := 10) dX10_bound_41 (by decide) ?_
  refine R_icmp_ge (tgt := 107) dX10_bound_43 (by decide) (fun b1 => ?_) (fun b1 => ?_)
  · have hf := hf.1 b1
    refine R_iload dX10_bound_107 5 rfl ?_
    obtain ⟨ob3, hf⟩ := hf
    obtain ⟨ob4, hf⟩ := hf
    obtain ⟨ob5, hf⟩ := hf
    have key :  Rr mX10_bound 0 0 128 [(0, .ref r0), (1, .int x1), (2, .int x2), (3, .int x3), (4, .int x4), (6, .int x6)] [.int (bi (¬ x5 = 0 ∧ ¬ (gI h (gF h r0 2) x6.toNatClampNeg) = (-1)))] h P := by
      refine R_istore dX10_bound_128 (by decide) rfl ?_
      refine R_iinc (v := x6 + 1) dX10_bound_130 6 rfl rfl (by decide) rfl ?_
      refine R_goto (tgt := 6) dX10_bound_133 (by decide) ?_
      exact R_sub [2, 3, 4, 5, 6, 1, 0] rfl hf
    refine R_if_eq (tgt := 127) dX10_bound_109 (by decide) (fun b2 => ?_) (fun b2 => ?_)
    · refine R_iconst (v := 0) dX10_bound_127 (by decide) ?_
      have kb := key
      rw [show bi (¬ x5 = 0 ∧ ¬ (gI h (gF h r0 2) x6.toNatClampNeg) = (-1)) = 0 from by simp only [bi, b2, false_and, and_false, true_and, and_true, not_true_eq_false, not_false_eq_true, if_true, if_false, true_or, or_true, false_or, or_false, reduceIte]] at kb
      exact R_sub [0, 1, 2, 3, 4, 6] rfl kb
    · refine R_aload_n dX10_bound_112 rfl 0 rfl ?_
      refine G10_2 dX10_bound_113 lfX10_18 ob3 ?_
      refine R_iload dX10_bound_116 6 rfl ?_
      refine R_iaload dX10_bound_118 ob4 (ob5 b2) ?_
      refine R_iconst (v := (-1)) dX10_bound_119 (by decide) ?_
      refine R_icmp_eq (tgt := 127) dX10_bound_120 (by decide) (fun b6 => ?_) (fun b6 => ?_)
      · refine R_iconst (v := 0) dX10_bound_127 (by decide) ?_
        have kb := key
        rw [show bi (¬ x5 = 0 ∧ ¬ (gI h (gF h r0 2) x6.toNatClampNeg) = (-1)) = 0 from by simp only [bi, b2, b6, false_and, and_false, true_and, and_true, not_true_eq_false, not_false_eq_true, if_true, if_false, true_or, or_true, false_or, or_false, reduceIte]] at kb
        exact R_sub [0, 1, 2, 3, 4, 6] rfl kb
      · refine R_iconst (v := 1) dX10_bound_123 (by decide) ?_
        refine R_goto (tgt := 128) dX10_bound_124 (by decide) ?_
        have kb := key
        rw [show bi (¬ x5 = 0 ∧ ¬ (gI h (gF h r0 2) x6.toNatClampNeg) = (-1)) = 1 from by simp only [bi, b2, b6, false_and, and_false, true_and, and_true, not_true_eq_false, not_false_eq_true, if_true, if_false, true_or, or_true, false_or, or_false, reduceIte]] at kb
        exact R_sub [0, 1, 2, 3, 4, 6] rfl kb
  · have hf := hf.2 b1
    refine R_aload_n dX10_bound_46 rfl 0 rfl ?_
    obtain ⟨ob7, hf⟩ := hf
    refine G10_0 dX10_bound_47 lfX10_11 ob7 ?_
    refine R_iload dX10_bound_50 6 rfl ?_
    obtain ⟨ob8, hf⟩ := hf
    obtain ⟨ob9, hf⟩ := hf
    refine R_iaload dX10_bound_52 ob8 ob9 ?_
    refine R_iload dX10_bound_53 7 rfl ?_
    refine R_iload_n dX10_bound_55 rfl 2 rfl ?_
    refine R_imul dX10_bound_56 ?_
    refine R_iadd dX10_bound_57 ?_
    refine R_istore dX10_bound_58 (by decide) rfl ?_
    refine R_iload dX10_bound_60 0 rfl ?_
    refine R_iload_n dX10_bound_62 rfl 4 rfl ?_
    refine R_icmp_lt (tgt := 101) dX10_bound_63 (by decide) (fun b10 => ?_) (fun b10 => ?_)
    · have hf := hf.1 b10
      refine R_iinc (v := x7 + 1) dX10_bound_101 8 rfl rfl (by decide) rfl ?_
      refine R_goto (tgt := 39) dX10_bound_104 (by decide) ?_
      exact R_sub [2, 3, 4, 5, 6, 7, 8, 0] rfl hf
    · have hf := hf.2 b10
      refine R_iload dX10_bound_66 0 rfl ?_
      refine R_iload dX10_bound_68 5 rfl ?_
      refine R_icmp_gt (tgt := 101) dX10_bound_70 (by decide) (fun b11 => ?_) (fun b11 => ?_)
      · have hf := hf.1 b11
        refine R_iinc (v := x7 + 1) dX10_bound_101 8 rfl rfl (by decide) rfl ?_
        refine R_goto (tgt := 39) dX10_bound_104 (by decide) ?_
        exact R_sub [2, 3, 4, 5, 6, 7, 8, 0] rfl hf
      · have hf := hf.2 b11
        refine R_aload_n dX10_bound_73 rfl 1 rfl ?_
        refine G10_1 dX10_bound_74 lfX10_15 ob7 ?_
        refine R_iload dX10_bound_77 7 rfl ?_
        refine R_aload_n dX10_bound_79 rfl 1 rfl ?_
        refine G10_1 dX10_bound_80 lfX10_15 ob7 ?_
        refine R_iload dX10_bound_83 7 rfl ?_
        obtain ⟨ob12, hf⟩ := hf
        obtain ⟨ob13, hf⟩ := hf
        refine R_iaload dX10_bound_85 ob12 ob13 ?_
        refine R_iload dX10_bound_86 8 rfl ?_
        refine R_mmin dX10_bound_88 lmX10_33 (by decide) (Nat.le_of_ble_eq_true rfl) ?_
        refine R_iastore dX10_bound_91 ob12 ob13 ?_
        refine R_aload_n dX10_bound_92 rfl 1 rfl ?_
        refine G10_2 dX10_bound_93 lfX10_18 ob7 ?_
        refine R_eqF (y := gF h r0 2) rfl ?_
        refine R_iload dX10_bound_96 7 rfl ?_
        refine R_iload dX10_bound_98 8 rfl ?_
        obtain ⟨ob14, hf⟩ := hf
        obtain ⟨ob15, hf⟩ := hf
        refine R_iastore dX10_bound_100 ob14 ob15 ?_
        refine R_iinc (v := x7 + 1) dX10_bound_101 8 rfl rfl (by decide) rfl ?_
        refine R_goto (tgt := 39) dX10_bound_104 (by decide) ?_
        exact R_sub [2, 3, 4, 5, 6, 7, 8, 0] rfl hf
theorem dX10_weight_0 : decode cX10_weight 0 = .ok (.sipush 1000, 3) := by decide +kernel
theorem dX10_weight_3 : decode cX10_weight 3 = .ok (.iload_n 3, 1) := by decide +kernel
theorem dX10_weight_4 : decode cX10_weight 4 = .ok (.iload_n 2, 1) := by decide +kernel
theorem dX10_weight_5 : decode cX10_weight 5 = .ok (.isub, 1) := by decide +kernel
theorem dX10_weight_6 : decode cX10_weight 6 = .ok (.iconst 0, 1) := by decide +kernel
theorem dX10_weight_7 : decode cX10_weight 7 = .ok (.invokestatic 55, 3) := by decide +kernel
theorem dX10_weight_10 : decode cX10_weight 10 = .ok (.imul, 1) := by decide +kernel
theorem dX10_weight_11 : decode cX10_weight 11 = .ok (.iload_n 3, 1) := by decide +kernel
theorem dX10_weight_12 : decode cX10_weight 12 = .ok (.iadd, 1) := by decide +kernel
theorem dX10_weight_13 : decode cX10_weight 13 = .ok (.aload_n 0, 1) := by decide +kernel
theorem dX10_weight_14 : decode cX10_weight 14 = .ok (.getfield 23, 3) := by decide +kernel
theorem dX10_weight_17 : decode cX10_weight 17 = .ok (.iload_n 1, 1) := by decide +kernel
theorem dX10_weight_18 : decode cX10_weight 18 = .ok (.iconst 1, 1) := by decide +kernel
theorem dX10_weight_19 : decode cX10_weight 19 = .ok (.iadd, 1) := by decide +kernel
theorem dX10_weight_20 : decode cX10_weight 20 = .ok (.aaload, 1) := by decide +kernel
theorem dX10_weight_21 : decode cX10_weight 21 = .ok (.iload_n 3, 1) := by decide +kernel
theorem dX10_weight_22 : decode cX10_weight 22 = .ok (.iaload, 1) := by decide +kernel
theorem dX10_weight_23 : decode cX10_weight 23 = .ok (.iadd, 1) := by decide +kernel
theorem dX10_weight_24 : decode cX10_weight 24 = .ok (.ireturn, 1) := by decide +kernel
set_option maxRecDepth 20000 in
theorem sX10_weight_0 {P : Option Value → AH → Prop} (h : AH) (r0 : Nat) (x1 : Int32) (x2 : Int32) (x3 : Int32) (hf : (isO h 10 r0) ∧ ((isA h 4 (gF h r0 3)) ∧ ((vp_in (x1 + 1) (ln (gF h r0 3))) ∧ ((isA h 0 (gF h (gF h r0 3) (x1 + 1).toNatClampNeg)) ∧ ((vp_in x3 (ln (gF h (gF h r0 3) (x1 + 1).toNatClampNeg))) ∧ (P (some (.int (((1000 * (imax (x3 - x2) 0)) + x3) + (gI h (gF h (gF h r0 3) (x1 + 1).toNatClampNeg) x3.toNatClampNeg)))) h)))))) : Rr mX10_weight 0 0 0 [(0, .ref r0), (1, .int x1), (2, .int x2), (3, .int x3)] [] h P := by
  refine R_sipush (v := 1000) dX10_weight_0 (by decide) ?_
  refine R_iload_n dX10_weight_3 rfl 3 rfl ?_
  refine R_iload_n dX10_weight_4 rfl 2 rfl ?_
  refine R_isub dX10_weight_5 ?_
  refine R_iconst (v := 0) dX10_weight_6 (by decide) ?_
  refine R_mmax dX10_weight_7 lmX10_55 (by decide) (Nat.le_of_ble_eq_true rfl) ?_
  refine R_imul dX10_weight_10 ?_
  refine R_iload_n dX10_weight_11 rfl 3 rfl ?_
  refine R_iadd dX10_weight_12 ?_
  refine R_aload_n dX10_weight_13 rfl 0 rfl ?_
  obtain ⟨ob1, hf⟩ := hf
  refine G10_3 dX10_weight_14 lfX10_23 ob1 ?_
  refine R_iload_n dX10_weight_17 rfl 1 rfl ?_
  refine R_iconst (v := 1) dX10_weight_18 (by decide) ?_
  refine R_iadd dX10_weight_19 ?_
  obtain ⟨ob2, hf⟩ := hf
  obtain ⟨ob3, hf⟩ := hf
  refine R_aaload (t := 4) (by decide) dX10_weight_20 ob2 ob3 ?_
  refine R_iload_n dX10_weight_21 rfl 3 rfl ?_
  obtain ⟨ob4, hf⟩ := hf
  obtain ⟨ob5, hf⟩ := hf
  refine R_iaload dX10_weight_22 ob4 ob5 ?_
  refine R_iadd dX10_weight_23 ?_
  exact R_iret dX10_weight_24 rfl rfl hf
theorem aX10_weight {h : AH} {P : Option Value → AH → Prop} {r0 : Nat} {x1 : Int32} {x2 : Int32} {x3 : Int32} (o0 : isO h 10 r0) (o1 : isA h 4 (gF h r0 3)) (o2 : vp_in (x1 + 1) (ln (gF h r0 3))) (o3 : isA h 0 (gF h (gF h r0 3) (x1 + 1).toNatClampNeg)) (o4 : vp_in x3 (ln (gF h (gF h r0 3) (x1 + 1).toNatClampNeg))) (k : P (some (.int (((1000 * (imax (x3 - x2) 0)) + x3) + (gI h (gF h (gF h r0 3) (x1 + 1).toNatClampNeg) x3.toNatClampNeg)))) h) : Call mX10_weight [.ref r0, .int x1, .int x2, .int x3] h P :=
  Call.ofR (by decide +kernel) (Nat.le_of_ble_eq_true rfl) (sX10_weight_0 h r0 x1 x2 x3 (⟨o0, ⟨o1, ⟨o2, ⟨o3, ⟨o4, k⟩⟩⟩⟩⟩))
theorem dX11_areUnlikeInks_0 : decode cX11_areUnlikeInks 0 = .ok (.iload_n 0, 1) := by decide +kernel
theorem dX11_areUnlikeInks_1 : decode cX11_areUnlikeInks 1 = .ok (.invokestatic 150, 3) := by decide +kernel
theorem dX11_areUnlikeInks_4 : decode cX11_areUnlikeInks 4 = .ok (.ifCond .eq 19, 3) := by decide +kernel
theorem dX11_areUnlikeInks_7 : decode cX11_areUnlikeInks 7 = .ok (.iload_n 1, 1) := by decide +kernel
theorem dX11_areUnlikeInks_8 : decode cX11_areUnlikeInks 8 = .ok (.invokestatic 150, 3) := by decide +kernel
theorem dX11_areUnlikeInks_11 : decode cX11_areUnlikeInks 11 = .ok (.ifCond .eq 12, 3) := by decide +kernel
theorem dX11_areUnlikeInks_14 : decode cX11_areUnlikeInks 14 = .ok (.iload_n 0, 1) := by decide +kernel
theorem dX11_areUnlikeInks_15 : decode cX11_areUnlikeInks 15 = .ok (.iload_n 1, 1) := by decide +kernel
theorem dX11_areUnlikeInks_16 : decode cX11_areUnlikeInks 16 = .ok (.if_icmp .eq 7, 3) := by decide +kernel
theorem dX11_areUnlikeInks_19 : decode cX11_areUnlikeInks 19 = .ok (.iconst 1, 1) := by decide +kernel
theorem dX11_areUnlikeInks_20 : decode cX11_areUnlikeInks 20 = .ok (.goto 4, 3) := by decide +kernel
theorem dX11_areUnlikeInks_23 : decode cX11_areUnlikeInks 23 = .ok (.iconst 0, 1) := by decide +kernel
theorem dX11_areUnlikeInks_24 : decode cX11_areUnlikeInks 24 = .ok (.ireturn, 1) := by decide +kernel
set_option maxRecDepth 20000 in
theorem sX11_areUnlikeInks_0 {P : Option Value → AH → Prop} (h : AH) (x0 : Int32) (x1 : Int32) (hf : P (some (.int (bi ((¬ x0 < 0 ∧ ¬ 4 ≤ x0) ∧ (¬ x1 < 0 ∧ ¬ 4 ≤ x1) ∧ ¬ x0 = x1)))) h) : Rr mX11_areUnlikeInks 0 0 0 [(0, .int x0), (1, .int x1)] [] h P := by
  refine R_iload_n dX11_areUnlikeInks_0 rfl 0 rfl ?_
  refine R_callS (N := mX11_isInk) (as := [.int x0]) (rest := []) (kc2 := 0) (ks2 := 0) dX11_areUnlikeInks_1 lmX11_150 oX11_isInk (Nat.le_of_ble_eq_true rfl) rfl rfl (Nat.le_of_ble_eq_true rfl) rfl rfl (aX11_isInk  ?_)
  have key :  Rr mX11_areUnlikeInks 0 0 24 [] [.int (bi ((¬ x0 < 0 ∧ ¬ 4 ≤ x0) ∧ (¬ x1 < 0 ∧ ¬ 4 ≤ x1) ∧ ¬ x0 = x1))] h P := by
    exact R_iret dX11_areUnlikeInks_24 rfl (nb_n (bi_01 _)) hf
  refine R_if_eq_b (tgt := 23) dX11_areUnlikeInks_4 (by decide) (fun b1 => ?_) (fun b1 => ?_)
  · refine R_iconst (v := 0) dX11_areUnlikeInks_23 (by decide) ?_
    have kb := key
    rw [show bi ((¬ x0 < 0 ∧ ¬ 4 ≤ x0) ∧ (¬ x1 < 0 ∧ ¬ 4 ≤ x1) ∧ ¬ x0 = x1) = 0 from by simp only [bi, b1, false_and, and_false, true_and, and_true, not_true_eq_false, not_false_eq_true, if_true, if_false, true_or, or_true, false_or, or_false, reduceIte]] at kb
    exact R_sub [] rfl kb
  · refine R_iload_n dX11_areUnlikeInks_7 rfl 1 rfl ?_
    refine R_callS (N := mX11_isInk) (as := [.int x1]) (rest := []) (kc2 := 0) (ks2 := 0) dX11_areUnlikeInks_8 lmX11_150 oX11_isInk (Nat.le_of_ble_eq_true rfl) rfl rfl (Nat.le_of_ble_eq_true rfl) rfl rfl (aX11_isInk  ?_)
    refine R_if_eq_b (tgt := 23) dX11_areUnlikeInks_11 (by decide) (fun b2 => ?_) (fun b2 => ?_)
    · refine R_iconst (v := 0) dX11_areUnlikeInks_23 (by decide) ?_
      have kb := key
      rw [show bi ((¬ x0 < 0 ∧ ¬ 4 ≤ x0) ∧ (¬ x1 < 0 ∧ ¬ 4 ≤ x1) ∧ ¬ x0 = x1) = 0 from by simp only [bi, b1, b2, false_and, and_false, true_and, and_true, not_true_eq_false, not_false_eq_true, if_true, if_false, true_or, or_true, false_or, or_false, reduceIte]] at kb
      exact R_sub [] rfl kb
    · refine R_iload_n dX11_areUnlikeInks_14 rfl 0 rfl ?_
      refine R_iload_n dX11_areUnlikeInks_15 rfl 1 rfl ?_
      refine R_icmp_eq (tgt := 23) dX11_areUnlikeInks_16 (by decide) (fun b3 => ?_) (fun b3 => ?_)
      · refine R_iconst (v := 0) dX11_areUnlikeInks_23 (by decide) ?_
        have kb := key
        rw [show bi ((¬ x0 < 0 ∧ ¬ 4 ≤ x0) ∧ (¬ x1 < 0 ∧ ¬ 4 ≤ x1) ∧ ¬ x0 = x1) = 0 from by simp only [bi, b1, b2, b3, false_and, and_false, true_and, and_true, not_true_eq_false, not_false_eq_true, if_true, if_false, true_or, or_true, false_or, or_false, reduceIte]] at kb
        exact R_sub [] rfl kb
      · refine R_iconst (v := 1) dX11_areUnlikeInks_19 (by decide) ?_
        refine R_goto (tgt := 24) dX11_areUnlikeInks_20 (by decide) ?_
        have kb := key
        rw [show bi ((¬ x0 < 0 ∧ ¬ 4 ≤ x0) ∧ (¬ x1 < 0 ∧ ¬ 4 ≤ x1) ∧ ¬ x0 = x1) = 1 from by simp only [bi, b1, b2, b3, false_and, and_false, true_and, and_true, not_true_eq_false, not_false_eq_true, if_true, if_false, true_or, or_true, false_or, or_false, reduceIte]] at kb
        exact R_sub [] rfl kb
theorem aX11_areUnlikeInks {h : AH} {P : Option Value → AH → Prop} {x0 : Int32} {x1 : Int32}  (k : P (some (.int (bi ((¬ x0 < 0 ∧ ¬ 4 ≤ x0) ∧ (¬ x1 < 0 ∧ ¬ 4 ≤ x1) ∧ ¬ x0 = x1)))) h) : Call mX11_areUnlikeInks [.int x0, .int x1] h P :=
  Call.ofR (by decide +kernel) (Nat.le_of_ble_eq_true rfl) (sX11_areUnlikeInks_0 h x0 x1 (k))
theorem dX11_breadthOf_0 : decode cX11_breadthOf 0 = .ok (.iload_n 1, 1) := by decide +kernel
theorem dX11_breadthOf_1 : decode cX11_breadthOf 1 = .ok (.ifCond .lt 17, 3) := by decide +kernel
theorem dX11_breadthOf_4 : decode cX11_breadthOf 4 = .ok (.iload_n 1, 1) := by decide +kernel
theorem dX11_breadthOf_5 : decode cX11_breadthOf 5 = .ok (.iload_n 2, 1) := by decide +kernel
theorem dX11_breadthOf_6 : decode cX11_breadthOf 6 = .ok (.if_icmp .ge 12, 3) := by decide +kernel
theorem dX11_breadthOf_9 : decode cX11_breadthOf 9 = .ok (.iload_n 2, 1) := by decide +kernel
theorem dX11_breadthOf_10 : decode cX11_breadthOf 10 = .ok (.aload_n 0, 1) := by decide +kernel
theorem dX11_breadthOf_11 : decode cX11_breadthOf 11 = .ok (.getfield 74, 3) := by decide +kernel
theorem dX11_breadthOf_14 : decode cX11_breadthOf 14 = .ok (.arraylength, 1) := by decide +kernel
theorem dX11_breadthOf_15 : decode cX11_breadthOf 15 = .ok (.if_icmp .le 5, 3) := by decide +kernel
theorem dX11_breadthOf_18 : decode cX11_breadthOf 18 = .ok (.iconst 0, 1) := by decide +kernel
theorem dX11_breadthOf_19 : decode cX11_breadthOf 19 = .ok (.ireturn, 1) := by decide +kernel
theorem dX11_breadthOf_20 : decode cX11_breadthOf 20 = .ok (.aload_n 0, 1) := by decide +kernel
theorem dX11_breadthOf_21 : decode cX11_breadthOf 21 = .ok (.getfield 74, 3) := by decide +kernel
theorem dX11_breadthOf_24 : decode cX11_breadthOf 24 = .ok (.iload_n 1, 1) := by decide +kernel
theorem dX11_breadthOf_25 : decode cX11_breadthOf 25 = .ok (.iaload, 1) := by decide +kernel
theorem dX11_breadthOf_26 : decode cX11_breadthOf 26 = .ok (.iload_n 1, 1) := by decide +kernel
theorem dX11_breadthOf_27 : decode cX11_breadthOf 27 = .ok (.iload_n 3, 1) := by decide +kernel
theorem dX11_breadthOf_28 : decode cX11_breadthOf 28 = .ok (.imul, 1) := by decide +kernel
theorem dX11_breadthOf_29 : decode cX11_breadthOf 29 = .ok (.isub, 1) := by decide +kernel
theorem dX11_breadthOf_30 : decode cX11_breadthOf 30 = .ok (.istore 4, 2) := by decide +kernel
theorem dX11_breadthOf_32 : decode cX11_breadthOf 32 = .ok (.iload 4, 2) := by decide +kernel
theorem dX11_breadthOf_34 : decode cX11_breadthOf 34 = .ok (.istore 5, 2) := by decide +kernel
theorem dX11_breadthOf_36 : decode cX11_breadthOf 36 = .ok (.iload_n 1, 1) := by decide +kernel
theorem dX11_breadthOf_37 : decode cX11_breadthOf 37 = .ok (.iconst 1, 1) := by decide +kernel
theorem dX11_breadthOf_38 : decode cX11_breadthOf 38 = .ok (.iadd, 1) := by decide +kernel
theorem dX11_breadthOf_39 : decode cX11_breadthOf 39 = .ok (.istore 6, 2) := by decide +kernel
theorem dX11_breadthOf_41 : decode cX11_breadthOf 41 = .ok (.iload 6, 2) := by decide +kernel
theorem dX11_breadthOf_43 : decode cX11_breadthOf 43 = .ok (.iload_n 2, 1) := by decide +kernel
theorem dX11_breadthOf_44 : decode cX11_breadthOf 44 = .ok (.if_icmp .ge 41, 3) := by decide +kernel
theorem dX11_breadthOf_47 : decode cX11_breadthOf 47 = .ok (.aload_n 0, 1) := by decide +kernel
theorem dX11_breadthOf_48 : decode cX11_breadthOf 48 = .ok (.getfield 74, 3) := by decide +kernel
theorem dX11_breadthOf_51 : decode cX11_breadthOf 51 = .ok (.iload 6, 2) := by decide +kernel
theorem dX11_breadthOf_53 : decode cX11_breadthOf 53 = .ok (.iaload, 1) := by decide +kernel
theorem dX11_breadthOf_54 : decode cX11_breadthOf 54 = .ok (.iload 6, 2) := by decide +kernel
theorem dX11_breadthOf_56 : decode cX11_breadthOf 56 = .ok (.iload_n 3, 1) := by decide +kernel
theorem dX11_breadthOf_57 : decode cX11_breadthOf 57 = .ok (.imul, 1) := by decide +kernel
theorem dX11_breadthOf_58 : decode cX11_breadthOf 58 = .ok (.isub, 1) := by decide +kernel
theorem dX11_breadthOf_59 : decode cX11_breadthOf 59 = .ok (.istore 7, 2) := by decide +kernel
theorem dX11_breadthOf_61 : decode cX11_breadthOf 61 = .ok (.iload 4, 2) := by decide +kernel
theorem dX11_breadthOf_63 : decode cX11_breadthOf 63 = .ok (.iload 7, 2) := by decide +kernel
theorem dX11_breadthOf_65 : decode cX11_breadthOf 65 = .ok (.invokestatic 319, 3) := by decide +kernel
theorem dX11_breadthOf_68 : decode cX11_breadthOf 68 = .ok (.istore 4, 2) := by decide +kernel
theorem dX11_breadthOf_70 : decode cX11_breadthOf 70 = .ok (.iload 5, 2) := by decide +kernel
theorem dX11_breadthOf_72 : decode cX11_breadthOf 72 = .ok (.iload 7, 2) := by decide +kernel
theorem dX11_breadthOf_74 : decode cX11_breadthOf 74 = .ok (.invokestatic 324, 3) := by decide +kernel
theorem dX11_breadthOf_77 : decode cX11_breadthOf 77 = .ok (.istore 5, 2) := by decide +kernel
theorem dX11_breadthOf_79 : decode cX11_breadthOf 79 = .ok (.iinc 6 1, 3) := by decide +kernel
theorem dX11_breadthOf_82 : decode cX11_breadthOf 82 = .ok (.goto (-41), 3) := by decide +kernel
theorem dX11_breadthOf_85 : decode cX11_breadthOf 85 = .ok (.iload 5, 2) := by decide +kernel
theorem dX11_breadthOf_87 : decode cX11_breadthOf 87 = .ok (.iload 4, 2) := by decide +kernel
theorem dX11_breadthOf_89 : decode cX11_breadthOf 89 = .ok (.isub, 1) := by decide +kernel
theorem dX11_breadthOf_90 : decode cX11_breadthOf 90 = .ok (.ireturn, 1) := by decide +kernel
set_option maxRecDepth 20000 in
theorem sX11_breadthOf_0 {P : Option Value → AH → Prop} (h : AH) (r0 : Nat) (x1 : Int32) (x2 : Int32) (x3 : Int32) (hf : (x1 < 0 → P (some (.int 0)) h) ∧ (¬ x1 < 0 → (x2 ≤ x1 → P (some (.int 0)) h) ∧ (¬ x2 ≤ x1 → (isO h 11 r0) ∧ ((isA h 0 (gF h r0 11)) ∧ ((x2 ≤ (Int32.ofNat (ln (gF h r0 11))) → (vp_in x1 (ln (gF h r0 11))) ∧ (Rr mX11_breadthOf 0 0 41 [(0, .ref r0), (2, .int x2), (3, .int x3), (4, .int ((gI h (gF h r0 11) x1.toNatClampNeg) - (x1 * x3))), (5, .int ((gI h (gF h r0 11) x1.toNatClampNeg) - (x1 * x3))), (6, .int (x1 + 1))] [] h P)) ∧ (¬ x2 ≤ (Int32.ofNat (ln (gF h r0 11))) → P (some (.int 0)) h)))))) : Rr mX11_breadthOf 0 0 0 [(0, .ref r0), (1, .int x1), (2, .int x2), (3, .int x3)] [] h P := by
  refine R_iload_n dX11_breadthOf_0 rfl 1 rfl ?_
  refine R_if_lt (tgt := 18) dX11_breadthOf_1 (by decide) (fun b1 => ?_) (fun b1 => ?_)
  · have hf := hf.1 b1
    refine R_iconst (v := 0) dX11_breadthOf_18 (by decide) ?_
    exact R_iret dX11_breadthOf_19 rfl rfl hf
  · have hf := hf.2 b1
    refine R_iload_n dX11_breadthOf_4 rfl 1 rfl ?_
    refine R_iload_n dX11_breadthOf_5 rfl 2 rfl ?_
    refine R_icmp_ge (tgt := 18) dX11_breadthOf_6 (by decide) (fun b2 => ?_) (fun b2 => ?_)
    · have hf := hf.1 b2
      refine R_iconst (v := 0) dX11_breadthOf_18 (by decide) ?_
      exact R_iret dX11_breadthOf_19 rfl rfl hf
    · have hf := hf.2 b2
      refine R_iload_n dX11_breadthOf_9 rfl 2 rfl ?_
      refine R_aload_n dX11_breadthOf_10 rfl 0 rfl ?_
      obtain ⟨ob3, hf⟩ := hf
      refine G11_11 dX11_breadthOf_11 lfX11_74 ob3 ?_
      obtain ⟨ob4, hf⟩ := hf
      refine R_alen (v := Int32.ofNat (ln (gF h r0 11))) (by decide) dX11_breadthOf_14 ob4 rfl ?_
      refine R_icmp_le (tgt := 20) dX11_breadthOf_15 (by decide) (fun b5 => ?_) (fun b5 => ?_)
      · have hf := hf.1 b5
        refine R_aload_n dX11_breadthOf_20 rfl 0 rfl ?_
        refine G11_11 dX11_breadthOf_21 lfX11_74 ob3 ?_
        refine R_iload_n dX11_breadthOf_24 rfl 1 rfl ?_
        obtain ⟨ob6, hf⟩ := hf
        refine R_iaload dX11_breadthOf_25 ob4 ob6 ?_
        refine R_iload_n dX11_breadthOf_26 rfl 1 rfl ?_
        refine R_iload_n dX11_breadthOf_27 rfl 3 rfl ?_
        refine R_imul dX11_breadthOf_28 ?_
        refine R_isub dX11_breadthOf_29 ?_
        refine R_istore dX11_breadthOf_30 (by decide) rfl ?_
        refine R_iload dX11_breadthOf_32 0 rfl ?_
        refine R_istore dX11_breadthOf_34 (by decide) rfl ?_
        refine R_iload_n dX11_breadthOf_36 rfl 3 rfl ?_
        refine R_iconst (v := 1) dX11_breadthOf_37 (by decide) ?_
        refine R_iadd dX11_breadthOf_38 ?_
        refine R_istore dX11_breadthOf_39 (by decide) rfl ?_
        exact R_sub [3, 5, 6, 2, 1, 0] rfl hf
      · have hf := hf.2 b5
        refine R_iconst (v := 0) dX11_breadthOf_18 (by decide) ?_
        exact R_iret dX11_breadthOf_19 rfl rfl hf
set_option maxRecDepth 20000 in
theorem sX11_breadthOf_41 {P : Option Value → AH → Prop} (h : AH) (r0 : Nat) (x2 : Int32) (x3 : Int32) (x4 : Int32) (x5 : Int32) (x6 : Int32) (hf : (x2 ≤ x6 → P (some (.int (x5 - x4))) h) ∧ (¬ x2 ≤ x6 → (isO h 11 r0) ∧ ((isA h 0 (gF h r0 11)) ∧ ((vp_in x6 (ln (gF h r0 11))) ∧ (Rr mX11_breadthOf 0 0 41 [(0, .ref r0), (2, .int x2), (3, .int x3), (4, .int (imin x4 ((gI h (gF h r0 11) x6.toNatClampNeg) - (x6 * x3)))), (5, .int (imax x5 ((gI h (gF h r0 11) x6.toNatClampNeg) - (x6 * x3)))), (6, .int (x6 + 1))] [] h P))))) : Rr mX11_breadthOf 0 0 41 [(0, .ref r0), (2, .int x2), (3, .int x3), (4, .int x4), (5, .int x5), (6, .int x6)] [] h P := by
  refine R_iload dX11_breadthOf_41 5 rfl ?_
  refine R_iload_n dX11_breadthOf_43 rfl 1 rfl ?_
  refine R_icmp_ge (tgt := 85) dX11_breadthOf_44 (by decide) (fun b1 => ?_) (fun b1 => ?_)
  · have hf := hf.1 b1
    refine R_iload dX11_breadthOf_85 4 rfl ?_
    refine R_iload dX11_breadthOf_87 3 rfl ?_
    refine R_isub dX11_breadthOf_89 ?_
    exact R_iret dX11_breadthOf_90 rfl rfl hf
  · have hf := hf.2 b1
    refine R_aload_n dX11_breadthOf_47 rfl 0 rfl ?_
    obtain ⟨ob2, hf⟩ := hf
    refine G11_11 dX11_breadthOf_48 lfX11_74 ob2 ?_
    refine R_iload dX11_breadthOf_51 5 rfl ?_
    obtain ⟨ob3, hf⟩ := hf
    obtain ⟨ob4, hf⟩ := hf
    refine R_iaload dX11_breadthOf_53 ob3 ob4 ?_
    refine R_iload dX11_breadthOf_54 5 rfl ?_
    refine R_iload_n dX11_breadthOf_56 rfl 2 rfl ?_
    refine R_imul dX11_breadthOf_57 ?_
    refine R_isub dX11_breadthOf_58 ?_
    refine R_istore dX11_breadthOf_59 (by decide) rfl ?_
    refine R_iload dX11_breadthOf_61 4 rfl ?_
    refine R_iload dX11_breadthOf_63 0 rfl ?_
    refine R_mmin dX11_breadthOf_65 lmX11_319 (by decide) (Nat.le_of_ble_eq_true rfl) ?_
    refine R_istore dX11_breadthOf_68 (by decide) rfl ?_
    refine R_iload dX11_breadthOf_70 5 rfl ?_
    refine R_iload dX11_breadthOf_72 1 rfl ?_
    refine R_mmax dX11_breadthOf_74 lmX11_324 (by decide) (Nat.le_of_ble_eq_true rfl) ?_
    refine R_istore dX11_breadthOf_77 (by decide) rfl ?_
    refine R_iinc (v := x6 + 1) dX11_breadthOf_79 6 rfl rfl (by decide) rfl ?_
    refine R_goto (tgt := 41) dX11_breadthOf_82 (by decide) ?_
    exact R_sub [4, 5, 6, 2, 1, 0] rfl hf
theorem dX11_feed_0 : decode cX11_feed 0 = .ok (.aload_n 0, 1) := by decide +kernel
theorem dX11_feed_1 : decode cX11_feed 1 = .ok (.getfield 20, 3) := by decide +kernel
theorem dX11_feed_4 : decode cX11_feed 4 = .ok (.getfield 95, 3) := by decide +kernel
theorem dX11_feed_7 : decode cX11_feed 7 = .ok (.bipush 20, 2) := by decide +kernel
theorem dX11_feed_9 : decode cX11_feed 9 = .ok (.iadd, 1) := by decide +kernel
theorem dX11_feed_10 : decode cX11_feed 10 = .ok (.sipush 900, 3) := by decide +kernel
theorem dX11_feed_13 : decode cX11_feed 13 = .ok (.if_icmp .le 6, 3) := by decide +kernel
theorem dX11_feed_16 : decode cX11_feed 16 = .ok (.bipush (-3), 2) := by decide +kernel
theorem dX11_feed_18 : decode cX11_feed 18 = .ok (.ireturn, 1) := by decide +kernel
theorem dX11_feed_19 : decode cX11_feed 19 = .ok (.aload_n 0, 1) := by decide +kernel
theorem dX11_feed_20 : decode cX11_feed 20 = .ok (.getfield 20, 3) := by decide +kernel
theorem dX11_feed_23 : decode cX11_feed 23 = .ok (.iload_n 1, 1) := by decide +kernel
theorem dX11_feed_24 : decode cX11_feed 24 = .ok (.invokevirtual 101, 3) := by decide +kernel
theorem dX11_feed_27 : decode cX11_feed 27 = .ok (.aload_n 0, 1) := by decide +kernel
theorem dX11_feed_28 : decode cX11_feed 28 = .ok (.getfield 20, 3) := by decide +kernel
theorem dX11_feed_31 : decode cX11_feed 31 = .ok (.iload_n 2, 1) := by decide +kernel
theorem dX11_feed_32 : decode cX11_feed 32 = .ok (.invokevirtual 101, 3) := by decide +kernel
theorem dX11_feed_35 : decode cX11_feed 35 = .ok (.aload_n 0, 1) := by decide +kernel
theorem dX11_feed_36 : decode cX11_feed 36 = .ok (.getfield 20, 3) := by decide +kernel
theorem dX11_feed_39 : decode cX11_feed 39 = .ok (.iload_n 3, 1) := by decide +kernel
theorem dX11_feed_40 : decode cX11_feed 40 = .ok (.invokevirtual 101, 3) := by decide +kernel
theorem dX11_feed_43 : decode cX11_feed 43 = .ok (.aload_n 0, 1) := by decide +kernel
theorem dX11_feed_44 : decode cX11_feed 44 = .ok (.getfield 20, 3) := by decide +kernel
theorem dX11_feed_47 : decode cX11_feed 47 = .ok (.iload 4, 2) := by decide +kernel
theorem dX11_feed_49 : decode cX11_feed 49 = .ok (.invokevirtual 101, 3) := by decide +kernel
theorem dX11_feed_52 : decode cX11_feed 52 = .ok (.aload_n 0, 1) := by decide +kernel
theorem dX11_feed_53 : decode cX11_feed 53 = .ok (.getfield 20, 3) := by decide +kernel
theorem dX11_feed_56 : decode cX11_feed 56 = .ok (.iload 5, 2) := by decide +kernel
theorem dX11_feed_58 : decode cX11_feed 58 = .ok (.invokevirtual 101, 3) := by decide +kernel
theorem dX11_feed_61 : decode cX11_feed 61 = .ok (.aload_n 0, 1) := by decide +kernel
theorem dX11_feed_62 : decode cX11_feed 62 = .ok (.getfield 20, 3) := by decide +kernel
theorem dX11_feed_65 : decode cX11_feed 65 = .ok (.getfield 95, 3) := by decide +kernel
theorem dX11_feed_68 : decode cX11_feed 68 = .ok (.ireturn, 1) := by decide +kernel
set_option maxRecDepth 20000 in
theorem sX11_feed_0 {P : Option Value → AH → Prop} (h : AH) (r0 : Nat) (x1 : Int32) (x2 : Int32) (x3 : Int32) (x4 : Int32) (x5 : Int32) (hf : (isO h 11 r0) ∧ ((isO h 9 (gF h r0 1)) ∧ ((((gI h (gF h r0 1) 2) + 20) ≤ 900 → Call mX9_put [.ref (gF h r0 1), .int x1] h (fun v h4 => v = none ∧ ((isO h4 11 r0) ∧ ((isO h4 9 (gF h4 r0 1)) ∧ (Call mX9_put [.ref (gF h4 r0 1), .int x2] h4 (fun v h7 => v = none ∧ ((isO h7 11 r0) ∧ ((isO h7 9 (gF h7 r0 1)) ∧ (Call mX9_put [.ref (gF h7 r0 1), .int x3] h7 (fun v h10 => v = none ∧ ((isO h10 11 r0) ∧ ((isO h10 9 (gF h10 r0 1)) ∧ (Call mX9_put [.ref (gF h10 r0 1), .int x4] h10 (fun v h13 => v = none ∧ ((isO h13 11 r0) ∧ ((isO h13 9 (gF h13 r0 1)) ∧ (Call mX9_put [.ref (gF h13 r0 1), .int x5] h13 (fun v h16 => v = none ∧ ((isO h16 11 r0) ∧ ((isO h16 9 (gF h16 r0 1)) ∧ (P (some (.int (gI h16 (gF h16 r0 1) 2))) h16))))))))))))))))))))) ∧ (¬ ((gI h (gF h r0 1) 2) + 20) ≤ 900 → P (some (.int (-3))) h)))) : Rr mX11_feed 0 0 0 [(0, .ref r0), (1, .int x1), (2, .int x2), (3, .int x3), (4, .int x4), (5, .int x5)] [] h P := by
  refine R_aload_n dX11_feed_0 rfl 0 rfl ?_
  obtain ⟨ob1, hf⟩ := hf
  refine G11_1 dX11_feed_1 lfX11_20 ob1 ?_
  obtain ⟨ob2, hf⟩ := hf
  refine G9_2 dX11_feed_4 lfX11_95 ob2 ?_
  refine R_bipush (v := 20) dX11_feed_7 (by decide) ?_
  refine R_iadd dX11_feed_9 ?_
  refine R_sipush (v := 900) dX11_feed_10 (by decide) ?_
  refine R_icmp_le (tgt := 19) dX11_feed_13 (by decide) (fun b3 => ?_) (fun b3 => ?_)
  · have hf := hf.1 b3
    refine R_aload_n dX11_feed_19 rfl 0 rfl ?_
    refine G11_1 dX11_feed_20 lfX11_20 ob1 ?_
    refine R_iload_n dX11_feed_23 rfl 1 rfl ?_
    refine R_callV (ci := 9) (N := mX9_put) (as := [.int x1]) (rest := []) (kc2 := 0) (ks2 := 0) dX11_feed_24 lmX11_101 oX9_put (Nat.le_of_ble_eq_true rfl) rfl rfl (Nat.le_of_ble_eq_true rfl) rfl rfl ob2 ok9 (Call.mono hf ?_)
    rintro _ h4 ⟨rfl, hf⟩
    refine R_aload_n dX11_feed_27 rfl 0 rfl ?_
    obtain ⟨ob5, hf⟩ := hf
    refine G11_1 dX11_feed_28 lfX11_20 ob5 ?_
    refine R_iload_n dX11_feed_31 rfl 2 rfl ?_
    obtain ⟨ob6, hf⟩ := hf
    refine R_callV (ci := 9) (N := mX9_put) (as := [.int x2]) (rest := []) (kc2 := 0) (ks2 := 0) dX11_feed_32 lmX11_101 oX9_put (Nat.le_of_ble_eq_true rfl) rfl rfl (Nat.le_of_ble_eq_true rfl) rfl rfl ob6 ok9 (Call.mono hf ?_)
    rintro _ h7 ⟨rfl, hf⟩
    refine R_aload_n dX11_feed_35 rfl 0 rfl ?_
    obtain ⟨ob8, hf⟩ := hf
    refine G11_1 dX11_feed_36 lfX11_20 ob8 ?_
    refine R_iload_n dX11_feed_39 rfl 3 rfl ?_
    obtain ⟨ob9, hf⟩ := hf
    refine R_callV (ci := 9) (N := mX9_put) (as := [.int x3]) (rest := []) (kc2 := 0) (ks2 := 0) dX11_feed_40 lmX11_101 oX9_put (Nat.le_of_ble_eq_true rfl) rfl rfl (Nat.le_of_ble_eq_true rfl) rfl rfl ob9 ok9 (Call.mono hf ?_)
    rintro _ h10 ⟨rfl, hf⟩
    refine R_aload_n dX11_feed_43 rfl 0 rfl ?_
    obtain ⟨ob11, hf⟩ := hf
    refine G11_1 dX11_feed_44 lfX11_20 ob11 ?_
    refine R_iload dX11_feed_47 4 rfl ?_
    obtain ⟨ob12, hf⟩ := hf
    refine R_callV (ci := 9) (N := mX9_put) (as := [.int x4]) (rest := []) (kc2 := 0) (ks2 := 0) dX11_feed_49 lmX11_101 oX9_put (Nat.le_of_ble_eq_true rfl) rfl rfl (Nat.le_of_ble_eq_true rfl) rfl rfl ob12 ok9 (Call.mono hf ?_)
    rintro _ h13 ⟨rfl, hf⟩
    refine R_aload_n dX11_feed_52 rfl 0 rfl ?_
    obtain ⟨ob14, hf⟩ := hf
    refine G11_1 dX11_feed_53 lfX11_20 ob14 ?_
    refine R_iload dX11_feed_56 5 rfl ?_
    obtain ⟨ob15, hf⟩ := hf
    refine R_callV (ci := 9) (N := mX9_put) (as := [.int x5]) (rest := []) (kc2 := 0) (ks2 := 0) dX11_feed_58 lmX11_101 oX9_put (Nat.le_of_ble_eq_true rfl) rfl rfl (Nat.le_of_ble_eq_true rfl) rfl rfl ob15 ok9 (Call.mono hf ?_)
    rintro _ h16 ⟨rfl, hf⟩
    refine R_aload_n dX11_feed_61 rfl 0 rfl ?_
    obtain ⟨ob17, hf⟩ := hf
    refine G11_1 dX11_feed_62 lfX11_20 ob17 ?_
    obtain ⟨ob18, hf⟩ := hf
    refine G9_2 dX11_feed_65 lfX11_95 ob18 ?_
    exact R_iret dX11_feed_68 rfl rfl hf
  · have hf := hf.2 b3
    refine R_bipush (v := (-3)) dX11_feed_16 (by decide) ?_
    exact R_iret dX11_feed_18 rfl rfl hf
theorem dX11_isSlip_0 : decode cX11_isSlip 0 = .ok (.iload_n 0, 1) := by decide +kernel
theorem dX11_isSlip_1 : decode cX11_isSlip 1 = .ok (.invokestatic 391, 3) := by decide +kernel
theorem dX11_isSlip_4 : decode cX11_isSlip 4 = .ok (.ifCond .eq 31, 3) := by decide +kernel
theorem dX11_isSlip_7 : decode cX11_isSlip 7 = .ok (.iload_n 1, 1) := by decide +kernel
theorem dX11_isSlip_8 : decode cX11_isSlip 8 = .ok (.invokestatic 391, 3) := by decide +kernel
theorem dX11_isSlip_11 : decode cX11_isSlip 11 = .ok (.ifCond .eq 24, 3) := by decide +kernel
theorem dX11_isSlip_14 : decode cX11_isSlip 14 = .ok (.iload_n 2, 1) := by decide +kernel
theorem dX11_isSlip_15 : decode cX11_isSlip 15 = .ok (.invokestatic 391, 3) := by decide +kernel
theorem dX11_isSlip_18 : decode cX11_isSlip 18 = .ok (.ifCond .eq 17, 3) := by decide +kernel
theorem dX11_isSlip_21 : decode cX11_isSlip 21 = .ok (.iload_n 3, 1) := by decide +kernel
theorem dX11_isSlip_22 : decode cX11_isSlip 22 = .ok (.ifCond .lt 13, 3) := by decide +kernel
theorem dX11_isSlip_25 : decode cX11_isSlip 25 = .ok (.iload_n 3, 1) := by decide +kernel
theorem dX11_isSlip_26 : decode cX11_isSlip 26 = .ok (.bipush 9, 2) := by decide +kernel
theorem dX11_isSlip_28 : decode cX11_isSlip 28 = .ok (.if_icmp .gt 7, 3) := by decide +kernel
theorem dX11_isSlip_31 : decode cX11_isSlip 31 = .ok (.iconst 1, 1) := by decide +kernel
theorem dX11_isSlip_32 : decode cX11_isSlip 32 = .ok (.goto 4, 3) := by decide +kernel
theorem dX11_isSlip_35 : decode cX11_isSlip 35 = .ok (.iconst 0, 1) := by decide +kernel
theorem dX11_isSlip_36 : decode cX11_isSlip 36 = .ok (.ireturn, 1) := by decide +kernel
set_option maxRecDepth 20000 in
theorem sX11_isSlip_0 {P : Option Value → AH → Prop} (h : AH) (x0 : Int32) (x1 : Int32) (x2 : Int32) (x3 : Int32) (hf : P (some (.int (bi ((¬ x0 < (-9) ∧ ¬ 9 < x0) ∧ (¬ x1 < (-9) ∧ ¬ 9 < x1) ∧ (¬ x2 < (-9) ∧ ¬ 9 < x2) ∧ ¬ x3 < 0 ∧ ¬ 9 < x3)))) h) : Rr mX11_isSlip 0 0 0 [(0, .int x0), (1, .int x1), (2, .int x2), (3, .int x3)] [] h P := by
  refine R_iload_n dX11_isSlip_0 rfl 0 rfl ?_
  refine R_callS (N := mX11_isWithinNine) (as := [.int x0]) (rest := []) (kc2 := 0) (ks2 := 0) dX11_isSlip_1 lmX11_391 oX11_isWithinNine (Nat.le_of_ble_eq_true rfl) rfl rfl (Nat.le_of_ble_eq_true rfl) rfl rfl (aX11_isWithinNine  ?_)
  have key :  Rr mX11_isSlip 0 0 36 [] [.int (bi ((¬ x0 < (-9) ∧ ¬ 9 < x0) ∧ (¬ x1 < (-9) ∧ ¬ 9 < x1) ∧ (¬ x2 < (-9) ∧ ¬ 9 < x2) ∧ ¬ x3 < 0 ∧ ¬ 9 < x3))] h P := by
    exact R_iret dX11_isSlip_36 rfl (nb_n (bi_01 _)) hf
  refine R_if_eq_b (tgt := 35) dX11_isSlip_4 (by decide) (fun b1 => ?_) (fun b1 => ?_)
  · refine R_iconst (v := 0) dX11_isSlip_35 (by decide) ?_
    have kb := key
    rw [show bi ((¬ x0 < (-9) ∧ ¬ 9 < x0) ∧ (¬ x1 < (-9) ∧ ¬ 9 < x1) ∧ (¬ x2 < (-9) ∧ ¬ 9 < x2) ∧ ¬ x3 < 0 ∧ ¬ 9 < x3) = 0 from by simp only [bi, b1, false_and, and_false, true_and, and_true, not_true_eq_false, not_false_eq_true, if_true, if_false, true_or, or_true, false_or, or_false, reduceIte]] at kb
    exact R_sub [] rfl kb
  · refine R_iload_n dX11_isSlip_7 rfl 1 rfl ?_
    refine R_callS (N := mX11_isWithinNine) (as := [.int x1]) (rest := []) (kc2 := 0) (ks2 := 0) dX11_isSlip_8 lmX11_391 oX11_isWithinNine (Nat.le_of_ble_eq_true rfl) rfl rfl (Nat.le_of_ble_eq_true rfl) rfl rfl (aX11_isWithinNine  ?_)
    refine R_if_eq_b (tgt := 35) dX11_isSlip_11 (by decide) (fun b2 => ?_) (fun b2 => ?_)
    · refine R_iconst (v := 0) dX11_isSlip_35 (by decide) ?_
      have kb := key
      rw [show bi ((¬ x0 < (-9) ∧ ¬ 9 < x0) ∧ (¬ x1 < (-9) ∧ ¬ 9 < x1) ∧ (¬ x2 < (-9) ∧ ¬ 9 < x2) ∧ ¬ x3 < 0 ∧ ¬ 9 < x3) = 0 from by simp only [bi, b1, b2, false_and, and_false, true_and, and_true, not_true_eq_false, not_false_eq_true, if_true, if_false, true_or, or_true, false_or, or_false, reduceIte]] at kb
      exact R_sub [] rfl kb
    · refine R_iload_n dX11_isSlip_14 rfl 2 rfl ?_
      refine R_callS (N := mX11_isWithinNine) (as := [.int x2]) (rest := []) (kc2 := 0) (ks2 := 0) dX11_isSlip_15 lmX11_391 oX11_isWithinNine (Nat.le_of_ble_eq_true rfl) rfl rfl (Nat.le_of_ble_eq_true rfl) rfl rfl (aX11_isWithinNine  ?_)
      refine R_if_eq_b (tgt := 35) dX11_isSlip_18 (by decide) (fun b3 => ?_) (fun b3 => ?_)
      · refine R_iconst (v := 0) dX11_isSlip_35 (by decide) ?_
        have kb := key
        rw [show bi ((¬ x0 < (-9) ∧ ¬ 9 < x0) ∧ (¬ x1 < (-9) ∧ ¬ 9 < x1) ∧ (¬ x2 < (-9) ∧ ¬ 9 < x2) ∧ ¬ x3 < 0 ∧ ¬ 9 < x3) = 0 from by simp only [bi, b1, b2, b3, false_and, and_false, true_and, and_true, not_true_eq_false, not_false_eq_true, if_true, if_false, true_or, or_true, false_or, or_false, reduceIte]] at kb
        exact R_sub [] rfl kb
      · refine R_iload_n dX11_isSlip_21 rfl 3 rfl ?_
        refine R_if_lt (tgt := 35) dX11_isSlip_22 (by decide) (fun b4 => ?_) (fun b4 => ?_)
        · refine R_iconst (v := 0) dX11_isSlip_35 (by decide) ?_
          have kb := key
          rw [show bi ((¬ x0 < (-9) ∧ ¬ 9 < x0) ∧ (¬ x1 < (-9) ∧ ¬ 9 < x1) ∧ (¬ x2 < (-9) ∧ ¬ 9 < x2) ∧ ¬ x3 < 0 ∧ ¬ 9 < x3) = 0 from by simp only [bi, b1, b2, b3, b4, false_and, and_false, true_and, and_true, not_true_eq_false, not_false_eq_true, if_true, if_false, true_or, or_true, false_or, or_false, reduceIte]] at kb
          exact R_sub [] rfl kb
        · refine R_iload_n dX11_isSlip_25 rfl 3 rfl ?_
          refine R_bipush (v := 9) dX11_isSlip_26 (by decide) ?_
          refine R_icmp_gt (tgt := 35) dX11_isSlip_28 (by decide) (fun b5 => ?_) (fun b5 => ?_)
          · refine R_iconst (v := 0) dX11_isSlip_35 (by decide) ?_
            have kb := key
            rw [show bi ((¬ x0 < (-9) ∧ ¬ 9 < x0) ∧ (¬ x1 < (-9) ∧ ¬ 9 < x1) ∧ (¬ x2 < (-9) ∧ ¬ 9 < x2) ∧ ¬ x3 < 0 ∧ ¬ 9 < x3) = 0 from by simp only [bi, b1, b2, b3, b4, b5, false_and, and_false, true_and, and_true, not_true_eq_false, not_false_eq_true, if_true, if_false, true_or, or_true, false_or, or_false, reduceIte]] at kb
            exact R_sub [] rfl kb
          · refine R_iconst (v := 1) dX11_isSlip_31 (by decide) ?_
            refine R_goto (tgt := 36) dX11_isSlip_32 (by decide) ?_
            have kb := key
            rw [show bi ((¬ x0 < (-9) ∧ ¬ 9 < x0) ∧ (¬ x1 < (-9) ∧ ¬ 9 < x1) ∧ (¬ x2 < (-9) ∧ ¬ 9 < x2) ∧ ¬ x3 < 0 ∧ ¬ 9 < x3) = 1 from by simp only [bi, b1, b2, b3, b4, b5, false_and, and_false, true_and, and_true, not_true_eq_false, not_false_eq_true, if_true, if_false, true_or, or_true, false_or, or_false, reduceIte]] at kb
            exact R_sub [] rfl kb
theorem aX11_isSlip {h : AH} {P : Option Value → AH → Prop} {x0 : Int32} {x1 : Int32} {x2 : Int32} {x3 : Int32}  (k : P (some (.int (bi ((¬ x0 < (-9) ∧ ¬ 9 < x0) ∧ (¬ x1 < (-9) ∧ ¬ 9 < x1) ∧ (¬ x2 < (-9) ∧ ¬ 9 < x2) ∧ ¬ x3 < 0 ∧ ¬ 9 < x3)))) h) : Call mX11_isSlip [.int x0, .int x1, .int x2, .int x3] h P :=
  Call.ofR (by decide +kernel) (Nat.le_of_ble_eq_true rfl) (sX11_isSlip_0 h x0 x1 x2 x3 (k))
theorem dX11_pulled_0 : decode cX11_pulled 0 = .ok (.iload_n 1, 1) := by decide +kernel
theorem dX11_pulled_1 : decode cX11_pulled 1 = .ok (.iconst 1, 1) := by decide +kernel
theorem dX11_pulled_2 : decode cX11_pulled 2 = .ok (.if_icmp .lt 15, 3) := by decide +kernel
theorem dX11_pulled_5 : decode cX11_pulled 5 = .ok (.iload_n 1, 1) := by decide +kernel
theorem dX11_pulled_6 : decode cX11_pulled 6 = .ok (.iconst 4, 1) := by decide +kernel
theorem dX11_pulled_7 : decode cX11_pulled 7 = .ok (.if_icmp .ge 10, 3) := by decide +kernel
theorem dX11_pulled_10 : decode cX11_pulled 10 = .ok (.iload_n 2, 1) := by decide +kernel
theorem dX11_pulled_11 : decode cX11_pulled 11 = .ok (.invokestatic 162, 3) := by decide +kernel
theorem dX11_pulled_14 : decode cX11_pulled 14 = .ok (.ifCond .ne 8, 3) := by decide +kernel
theorem dX11_pulled_17 : decode cX11_pulled 17 = .ok (.bipush (-2), 2) := by decide +kernel
theorem dX11_pulled_19 : decode cX11_pulled 19 = .ok (.goto 9, 3) := by decide +kernel
theorem dX11_pulled_22 : decode cX11_pulled 22 = .ok (.iload_n 1, 1) := by decide +kernel
theorem dX11_pulled_23 : decode cX11_pulled 23 = .ok (.iload_n 2, 1) := by decide +kernel
theorem dX11_pulled_24 : decode cX11_pulled 24 = .ok (.imul, 1) := by decide +kernel
theorem dX11_pulled_25 : decode cX11_pulled 25 = .ok (.bipush 100, 2) := by decide +kernel
theorem dX11_pulled_27 : decode cX11_pulled 27 = .ok (.idiv, 1) := by decide +kernel
theorem dX11_pulled_28 : decode cX11_pulled 28 = .ok (.ireturn, 1) := by decide +kernel
set_option maxRecDepth 20000 in
theorem sX11_pulled_0 {P : Option Value → AH → Prop} (h : AH) (r0 : Nat) (x1 : Int32) (x2 : Int32) (hf : ∀ z4 : Int32, z4 = (if x1 < 1 then (-2) else (if 4 ≤ x1 then (-2) else (if (¬ x2 < 0 ∧ ¬ 200 < x2) then ((x1 * x2) / 100) else (-2)))) → (P (some (.int z4)) h)) : Rr mX11_pulled 0 0 0 [(0, .ref r0), (1, .int x1), (2, .int x2)] [] h P := by
  refine R_iload_n dX11_pulled_0 rfl 1 rfl ?_
  refine R_iconst (v := 1) dX11_pulled_1 (by decide) ?_
  have key : ∀ z4 : Int32, z4 = (if x1 < 1 then (-2) else (if 4 ≤ x1 then (-2) else (if (¬ x2 < 0 ∧ ¬ 200 < x2) then ((x1 * x2) / 100) else (-2)))) → Rr mX11_pulled 0 0 28 [] [.int z4] h P := by
    intro z4 ez4
    have hf := hf z4 ez4
    exact R_iret dX11_pulled_28 rfl rfl hf
  refine R_icmp_lt (tgt := 17) dX11_pulled_2 (by decide) (fun b1 => ?_) (fun b1 => ?_)
  · refine R_bipush (v := (-2)) dX11_pulled_17 (by decide) ?_
    refine R_goto (tgt := 28) dX11_pulled_19 (by decide) ?_
    exact R_sub [] rfl (key _ (by rw [if_pos b1]))
  · refine R_iload_n dX11_pulled_5 rfl 1 rfl ?_
    refine R_iconst (v := 4) dX11_pulled_6 (by decide) ?_
    refine R_icmp_ge (tgt := 17) dX11_pulled_7 (by decide) (fun b2 => ?_) (fun b2 => ?_)
    · refine R_bipush (v := (-2)) dX11_pulled_17 (by decide) ?_
      refine R_goto (tgt := 28) dX11_pulled_19 (by decide) ?_
      exact R_sub [] rfl (key _ (by rw [if_neg b1, if_pos b2]))
    · refine R_iload_n dX11_pulled_10 rfl 2 rfl ?_
      refine R_callS (N := mX11_isPlace) (as := [.int x2]) (rest := []) (kc2 := 0) (ks2 := 0) dX11_pulled_11 lmX11_162 oX11_isPlace (Nat.le_of_ble_eq_true rfl) rfl rfl (Nat.le_of_ble_eq_true rfl) rfl rfl (aX11_isPlace  ?_)
      refine R_if_ne_b (tgt := 22) dX11_pulled_14 (by decide) (fun b3 => ?_) (fun b3 => ?_)
      · refine R_iload_n dX11_pulled_22 rfl 1 rfl ?_
        refine R_iload_n dX11_pulled_23 rfl 2 rfl ?_
        refine R_imul dX11_pulled_24 ?_
        refine R_bipush (v := 100) dX11_pulled_25 (by decide) ?_
        refine R_idiv dX11_pulled_27 (by decide) ?_
        exact R_sub [] rfl (key _ (by rw [if_neg b1, if_neg b2, if_pos b3]))
      · refine R_bipush (v := (-2)) dX11_pulled_17 (by decide) ?_
        refine R_goto (tgt := 28) dX11_pulled_19 (by decide) ?_
        exact R_sub [] rfl (key _ (by rw [if_neg b1, if_neg b2, if_neg b3]))
theorem aX11_pulled {h : AH} {P : Option Value → AH → Prop} {r0 : Nat} {x1 : Int32} {x2 : Int32}  (k : P (some (.int (if x1 < 1 then (-2) else (if 4 ≤ x1 then (-2) else (if (¬ x2 < 0 ∧ ¬ 200 < x2) then ((x1 * x2) / 100) else (-2)))))) h) : Call mX11_pulled [.ref r0, .int x1, .int x2] h P :=
  Call.ofR (by decide +kernel) (Nat.le_of_ble_eq_true rfl) (sX11_pulled_0 h r0 x1 x2 (fun z4 ez4 => by subst ez4; exact (k)))
theorem dX11_screw_0 : decode cX11_screw 0 = .ok (.iload_n 1, 1) := by decide +kernel
theorem dX11_screw_1 : decode cX11_screw 1 = .ok (.invokestatic 150, 3) := by decide +kernel
theorem dX11_screw_4 : decode cX11_screw 4 = .ok (.ifCond .eq 29, 3) := by decide +kernel
theorem dX11_screw_7 : decode cX11_screw 7 = .ok (.iload_n 2, 1) := by decide +kernel
theorem dX11_screw_8 : decode cX11_screw 8 = .ok (.ifCond .lt 25, 3) := by decide +kernel
theorem dX11_screw_11 : decode cX11_screw 11 = .ok (.iload_n 2, 1) := by decide +kernel
theorem dX11_screw_12 : decode cX11_screw 12 = .ok (.aload_n 0, 1) := by decide +kernel
theorem dX11_screw_13 : decode cX11_screw 13 = .ok (.getfield 24, 3) := by decide +kernel
theorem dX11_screw_16 : decode cX11_screw 16 = .ok (.getfield 131, 3) := by decide +kernel
theorem dX11_screw_19 : decode cX11_screw 19 = .ok (.iload_n 1, 1) := by decide +kernel
theorem dX11_screw_20 : decode cX11_screw 20 = .ok (.iaload, 1) := by decide +kernel
theorem dX11_screw_21 : decode cX11_screw 21 = .ok (.if_icmp .ge 12, 3) := by decide +kernel
theorem dX11_screw_24 : decode cX11_screw 24 = .ok (.iload_n 3, 1) := by decide +kernel
theorem dX11_screw_25 : decode cX11_screw 25 = .ok (.ifCond .lt 8, 3) := by decide +kernel
theorem dX11_screw_28 : decode cX11_screw 28 = .ok (.iload_n 3, 1) := by decide +kernel
theorem dX11_screw_29 : decode cX11_screw 29 = .ok (.iconst 3, 1) := by decide +kernel
theorem dX11_screw_30 : decode cX11_screw 30 = .ok (.if_icmp .lt 6, 3) := by decide +kernel
theorem dX11_screw_33 : decode cX11_screw 33 = .ok (.bipush (-99), 2) := by decide +kernel
theorem dX11_screw_35 : decode cX11_screw 35 = .ok (.ireturn, 1) := by decide +kernel
theorem dX11_screw_36 : decode cX11_screw 36 = .ok (.aload_n 0, 1) := by decide +kernel
theorem dX11_screw_37 : decode cX11_screw 37 = .ok (.getfield 24, 3) := by decide +kernel
theorem dX11_screw_40 : decode cX11_screw 40 = .ok (.iload_n 1, 1) := by decide +kernel
theorem dX11_screw_41 : decode cX11_screw 41 = .ok (.iload_n 2, 1) := by decide +kernel
theorem dX11_screw_42 : decode cX11_screw 42 = .ok (.iload_n 3, 1) := by decide +kernel
theorem dX11_screw_43 : decode cX11_screw 43 = .ok (.invokevirtual 154, 3) := by decide +kernel
theorem dX11_screw_46 : decode cX11_screw 46 = .ok (.ireturn, 1) := by decide +kernel
set_option maxRecDepth 20000 in
theorem sX11_screw_0 {P : Option Value → AH → Prop} (h : AH) (r0 : Nat) (x1 : Int32) (x2 : Int32) (x3 : Int32) (hf : (¬ (¬ x1 < 0 ∧ ¬ 4 ≤ x1) → P (some (.int (-99))) h) ∧ ((¬ x1 < 0 ∧ ¬ 4 ≤ x1) → (x2 < 0 → P (some (.int (-99))) h) ∧ (¬ x2 < 0 → (isO h 11 r0) ∧ ((isO h 3 (gF h r0 2)) ∧ ((isA h 0 (gF h (gF h r0 2) 7)) ∧ ((vp_in x1 (ln (gF h (gF h r0 2) 7))) ∧ (((gI h (gF h (gF h r0 2) 7) x1.toNatClampNeg) ≤ x2 → P (some (.int (-99))) h) ∧ (¬ (gI h (gF h (gF h r0 2) 7) x1.toNatClampNeg) ≤ x2 → (x3 < 0 → P (some (.int (-99))) h) ∧ (¬ x3 < 0 → (x3 < 3 → Call mX3_screwNumber [.ref (gF h r0 2), .int x1, .int x2, .int x3] h (fun v h10 => ∃ z11 : Int32, v = some (.int z11) ∧ (P (some (.int z11)) h10))) ∧ (¬ x3 < 3 → P (some (.int (-99))) h)))))))))) : Rr mX11_screw 0 0 0 [(0, .ref r0), (1, .int x1), (2, .int x2), (3, .int x3)] [] h P := by
  refine R_iload_n dX11_screw_0 rfl 1 rfl ?_
  refine R_callS (N := mX11_isInk) (as := [.int x1]) (rest := []) (kc2 := 0) (ks2 := 0) dX11_screw_1 lmX11_150 oX11_isInk (Nat.le_of_ble_eq_true rfl) rfl rfl (Nat.le_of_ble_eq_true rfl) rfl rfl (aX11_isInk  ?_)
  refine R_if_eq_b (tgt := 33) dX11_screw_4 (by decide) (fun b1 => ?_) (fun b1 => ?_)
  · have hf := hf.1 b1
    refine R_bipush (v := (-99)) dX11_screw_33 (by decide) ?_
    exact R_iret dX11_screw_35 rfl rfl hf
  · have hf := hf.2 b1
    refine R_iload_n dX11_screw_7 rfl 2 rfl ?_
    refine R_if_lt (tgt := 33) dX11_screw_8 (by decide) (fun b2 => ?_) (fun b2 => ?_)
    · have hf := hf.1 b2
      refine R_bipush (v := (-99)) dX11_screw_33 (by decide) ?_
      exact R_iret dX11_screw_35 rfl rfl hf
    · have hf := hf.2 b2
      refine R_iload_n dX11_screw_11 rfl 2 rfl ?_
      refine R_aload_n dX11_screw_12 rfl 0 rfl ?_
      obtain ⟨ob3, hf⟩ := hf
      refine G11_2 dX11_screw_13 lfX11_24 ob3 ?_
      obtain ⟨ob4, hf⟩ := hf
      refine G3_7 dX11_screw_16 lfX11_131 ob4 ?_
      refine R_iload_n dX11_screw_19 rfl 1 rfl ?_
      obtain ⟨ob5, hf⟩ := hf
      obtain ⟨ob6, hf⟩ := hf
      refine R_iaload dX11_screw_20 ob5 ob6 ?_
      refine R_icmp_ge (tgt := 33) dX11_screw_21 (by decide) (fun b7 => ?_) (fun b7 => ?_)
      · have hf := hf.1 b7
        refine R_bipush (v := (-99)) dX11_screw_33 (by decide) ?_
        exact R_iret dX11_screw_35 rfl rfl hf
      · have hf := hf.2 b7
        refine R_iload_n dX11_screw_24 rfl 3 rfl ?_
        refine R_if_lt (tgt := 33) dX11_screw_25 (by decide) (fun b8 => ?_) (fun b8 => ?_)
        · have hf := hf.1 b8
          refine R_bipush (v := (-99)) dX11_screw_33 (by decide) ?_
          exact R_iret dX11_screw_35 rfl rfl hf
        · have hf := hf.2 b8
          refine R_iload_n dX11_screw_28 rfl 3 rfl ?_
          refine R_iconst (v := 3) dX11_screw_29 (by decide) ?_
          refine R_icmp_lt (tgt := 36) dX11_screw_30 (by decide) (fun b9 => ?_) (fun b9 => ?_)
          · have hf := hf.1 b9
            refine R_aload_n dX11_screw_36 rfl 0 rfl ?_
            refine G11_2 dX11_screw_37 lfX11_24 ob3 ?_
            refine R_iload_n dX11_screw_40 rfl 1 rfl ?_
            refine R_iload_n dX11_screw_41 rfl 2 rfl ?_
            refine R_iload_n dX11_screw_42 rfl 3 rfl ?_
            refine R_callV (ci := 3) (N := mX3_screwNumber) (as := [.int x1, .int x2, .int x3]) (rest := []) (kc2 := 0) (ks2 := 0) dX11_screw_43 lmX11_154 oX3_screwNumber (Nat.le_of_ble_eq_true rfl) rfl rfl (Nat.le_of_ble_eq_true rfl) rfl rfl ob4 ok3 (Call.mono hf ?_)
            rintro _ h10 ⟨z11, rfl, hf⟩
            exact R_iret dX11_screw_46 rfl rfl hf
          · have hf := hf.2 b9
            refine R_bipush (v := (-99)) dX11_screw_33 (by decide) ?_
            exact R_iret dX11_screw_35 rfl rfl hf
theorem dX12_badOf_0 : decode cX12_badOf 0 = .ok (.iconst 0, 1) := by decide +kernel
theorem dX12_badOf_1 : decode cX12_badOf 1 = .ok (.istore 5, 2) := by decide +kernel
theorem dX12_badOf_3 : decode cX12_badOf 3 = .ok (.iconst 0, 1) := by decide +kernel
theorem dX12_badOf_4 : decode cX12_badOf 4 = .ok (.istore 6, 2) := by decide +kernel
theorem dX12_badOf_6 : decode cX12_badOf 6 = .ok (.iload 6, 2) := by decide +kernel
theorem dX12_badOf_8 : decode cX12_badOf 8 = .ok (.aload_n 0, 1) := by decide +kernel
theorem dX12_badOf_9 : decode cX12_badOf 9 = .ok (.getfield 17, 3) := by decide +kernel
theorem dX12_badOf_12 : decode cX12_badOf 12 = .ok (.iconst 2, 1) := by decide +kernel
theorem dX12_badOf_13 : decode cX12_badOf 13 = .ok (.iaload, 1) := by decide +kernel
theorem dX12_badOf_14 : decode cX12_badOf 14 = .ok (.if_icmp .ge 93, 3) := by decide +kernel
theorem dX12_badOf_17 : decode cX12_badOf 17 = .ok (.iload_n 1, 1) := by decide +kernel
theorem dX12_badOf_18 : decode cX12_badOf 18 = .ok (.iload_n 3, 1) := by decide +kernel
theorem dX12_badOf_19 : decode cX12_badOf 19 = .ok (.iload 4, 2) := by decide +kernel
theorem dX12_badOf_21 : decode cX12_badOf 21 = .ok (.aload_n 0, 1) := by decide +kernel
theorem dX12_badOf_22 : decode cX12_badOf 22 = .ok (.getfield 21, 3) := by decide +kernel
theorem dX12_badOf_25 : decode cX12_badOf 25 = .ok (.iload 6, 2) := by decide +kernel
theorem dX12_badOf_27 : decode cX12_badOf 27 = .ok (.iaload, 1) := by decide +kernel
theorem dX12_badOf_28 : decode cX12_badOf 28 = .ok (.aload_n 0, 1) := by decide +kernel
theorem dX12_badOf_29 : decode cX12_badOf 29 = .ok (.getfield 24, 3) := by decide +kernel
theorem dX12_badOf_32 : decode cX12_badOf 32 = .ok (.iload 6, 2) := by decide +kernel
theorem dX12_badOf_34 : decode cX12_badOf 34 = .ok (.iaload, 1) := by decide +kernel
theorem dX12_badOf_35 : decode cX12_badOf 35 = .ok (.invokestatic 266, 3) := by decide +kernel
theorem dX12_badOf_38 : decode cX12_badOf 38 = .ok (.invokestatic 276, 3) := by decide +kernel
theorem dX12_badOf_41 : decode cX12_badOf 41 = .ok (.istore 7, 2) := by decide +kernel
theorem dX12_badOf_43 : decode cX12_badOf 43 = .ok (.iload_n 2, 1) := by decide +kernel
theorem dX12_badOf_44 : decode cX12_badOf 44 = .ok (.iload_n 3, 1) := by decide +kernel
theorem dX12_badOf_45 : decode cX12_badOf 45 = .ok (.iload 4, 2) := by decide +kernel
theorem dX12_badOf_47 : decode cX12_badOf 47 = .ok (.aload_n 0, 1) := by decide +kernel
theorem dX12_badOf_48 : decode cX12_badOf 48 = .ok (.getfield 21, 3) := by decide +kernel
theorem dX12_badOf_51 : decode cX12_badOf 51 = .ok (.iload 6, 2) := by decide +kernel
theorem dX12_badOf_53 : decode cX12_badOf 53 = .ok (.iaload, 1) := by decide +kernel
theorem dX12_badOf_54 : decode cX12_badOf 54 = .ok (.aload_n 0, 1) := by decide +kernel
theorem dX12_badOf_55 : decode cX12_badOf 55 = .ok (.getfield 24, 3) := by decide +kernel
theorem dX12_badOf_58 : decode cX12_badOf 58 = .ok (.iload 6, 2) := by decide +kernel
theorem dX12_badOf_60 : decode cX12_badOf 60 = .ok (.iaload, 1) := by decide +kernel
theorem dX12_badOf_61 : decode cX12_badOf 61 = .ok (.invokestatic 270, 3) := by decide +kernel
theorem dX12_badOf_64 : decode cX12_badOf 64 = .ok (.invokestatic 276, 3) := by decide +kernel
theorem dX12_badOf_67 : decode cX12_badOf 67 = .ok (.istore 8, 2) := by decide +kernel
theorem dX12_badOf_69 : decode cX12_badOf 69 = .ok (.iload 7, 2) := by decide +kernel
theorem dX12_badOf_71 : decode cX12_badOf 71 = .ok (.iload 5, 2) := by decide +kernel
theorem dX12_badOf_73 : decode cX12_badOf 73 = .ok (.if_icmp .le 8, 3) := by decide +kernel
theorem dX12_badOf_76 : decode cX12_badOf 76 = .ok (.iload 7, 2) := by decide +kernel
theorem dX12_badOf_78 : decode cX12_badOf 78 = .ok (.goto 5, 3) := by decide +kernel
theorem dX12_badOf_81 : decode cX12_badOf 81 = .ok (.iload 5, 2) := by decide +kernel
theorem dX12_badOf_83 : decode cX12_badOf 83 = .ok (.istore 5, 2) := by decide +kernel
theorem dX12_badOf_85 : decode cX12_badOf 85 = .ok (.iload 8, 2) := by decide +kernel
theorem dX12_badOf_87 : decode cX12_badOf 87 = .ok (.iload 5, 2) := by decide +kernel
theorem dX12_badOf_89 : decode cX12_badOf 89 = .ok (.if_icmp .le 8, 3) := by decide +kernel
theorem dX12_badOf_92 : decode cX12_badOf 92 = .ok (.iload 8, 2) := by decide +kernel
theorem dX12_badOf_94 : decode cX12_badOf 94 = .ok (.goto 5, 3) := by decide +kernel
theorem dX12_badOf_97 : decode cX12_badOf 97 = .ok (.iload 5, 2) := by decide +kernel
theorem dX12_badOf_99 : decode cX12_badOf 99 = .ok (.istore 5, 2) := by decide +kernel
theorem dX12_badOf_101 : decode cX12_badOf 101 = .ok (.iinc 6 1, 3) := by decide +kernel
theorem dX12_badOf_104 : decode cX12_badOf 104 = .ok (.goto (-98), 3) := by decide +kernel
theorem dX12_badOf_107 : decode cX12_badOf 107 = .ok (.iload 5, 2) := by decide +kernel
theorem dX12_badOf_109 : decode cX12_badOf 109 = .ok (.ireturn, 1) := by decide +kernel
set_option maxRecDepth 20000 in
theorem sX12_badOf_0 {P : Option Value → AH → Prop} (h : AH) (r0 : Nat) (x1 : Int32) (x2 : Int32) (x3 : Int32) (x4 : Int32) (hf : Rr mX12_badOf 0 0 6 [(0, .ref r0), (1, .int x1), (2, .int x2), (3, .int x3), (4, .int x4), (5, .int 0), (6, .int 0)] [] h P) : Rr mX12_badOf 0 0 0 [(0, .ref r0), (1, .int x1), (2, .int x2), (3, .int x3), (4, .int x4)] [] h P := by
  refine R_iconst (v := 0) dX12_badOf_0 (by decide) ?_
  refine R_istore dX12_badOf_1 (by decide) rfl ?_
  refine R_iconst (v := 0) dX12_badOf_3 (by decide) ?_
  refine R_istore dX12_badOf_4 (by decide) rfl ?_
  exact R_sub [2, 3, 4, 5, 6, 1, 0] rfl hf
set_option maxRecDepth 20000 in
theorem sX12_badOf_6 {P : Option Value → AH → Prop} (h : AH) (r0 : Nat) (x1 : Int32) (x2 : Int32) (x3 : Int32) (x4 : Int32) (x5 : Int32) (x6 : Int32) (hf : (isO h 12 r0) ∧ ((isA h 0 (gF h r0 11)) ∧ ((vp_in 2 (ln (gF h r0 11))) ∧ (((gI h (gF h r0 11) (Int32.toNatClampNeg 2)) ≤ x6 → P (some (.int x5)) h) ∧ (¬ (gI h (gF h r0 11) (Int32.toNatClampNeg 2)) ≤ x6 → (isA h 0 (gF h r0 12)) ∧ ((vp_in x6 (ln (gF h r0 12))) ∧ ((isA h 0 (gF h r0 13)) ∧ ((vp_in x6 (ln (gF h r0 13))) ∧ (∀ z10 : Int32, z10 = (if (if 0 ≤ (x1 + (((x4 * (gI h (gF h r0 12) x6.toNatClampNeg)) - (x3 * (gI h (gF h r0 13) x6.toNatClampNeg))) / 100)) then (x1 + (((x4 * (gI h (gF h r0 12) x6.toNatClampNeg)) - (x3 * (gI h (gF h r0 13) x6.toNatClampNeg))) / 100)) else (-(x1 + (((x4 * (gI h (gF h r0 12) x6.toNatClampNeg)) - (x3 * (gI h (gF h r0 13) x6.toNatClampNeg))) / 100)))) ≤ x5 then x5 else (if 0 ≤ (x1 + (((x4 * (gI h (gF h r0 12) x6.toNatClampNeg)) - (x3 * (gI h (gF h r0 13) x6.toNatClampNeg))) / 100)) then (x1 + (((x4 * (gI h (gF h r0 12) x6.toNatClampNeg)) - (x3 * (gI h (gF h r0 13) x6.toNatClampNeg))) / 100)) else (-(x1 + (((x4 * (gI h (gF h r0 12) x6.toNatClampNeg)) - (x3 * (gI h (gF h r0 13) x6.toNatClampNeg))) / 100))))) → (∀ z12 : Int32, z12 = (if (if 0 ≤ (x2 + (((x3 * (gI h (gF h r0 12) x6.toNatClampNeg)) + (x4 * (gI h (gF h r0 13) x6.toNatClampNeg))) / 100)) then (x2 + (((x3 * (gI h (gF h r0 12) x6.toNatClampNeg)) + (x4 * (gI h (gF h r0 13) x6.toNatClampNeg))) / 100)) else (-(x2 + (((x3 * (gI h (gF h r0 12) x6.toNatClampNeg)) + (x4 * (gI h (gF h r0 13) x6.toNatClampNeg))) / 100)))) ≤ z10 then z10 else (if 0 ≤ (x2 + (((x3 * (gI h (gF h r0 12) x6.toNatClampNeg)) + (x4 * (gI h (gF h r0 13) x6.toNatClampNeg))) / 100)) then (x2 + (((x3 * (gI h (gF h r0 12) x6.toNatClampNeg)) + (x4 * (gI h (gF h r0 13) x6.toNatClampNeg))) / 100)) else (-(x2 + (((x3 * (gI h (gF h r0 12) x6.toNatClampNeg)) + (x4 * (gI h (gF h r0 13) x6.toNatClampNeg))) / 100))))) → (Rr mX12_badOf 0 0 6 [(0, .ref r0), (1, .int x1), (2, .int x2), (3, .int x3), (4, .int x4), (5, .int z12), (6, .int (x6 + 1))] [] h P))))))))))) : Rr mX12_badOf 0 0 6 [(0, .ref r0), (1, .int x1), (2, .int x2), (3, .int x3), (4, .int x4), (5, .int x5), (6, .int x6)] [] h P := by
  refine R_iload dX12_badOf_6 6 rfl ?_
  refine R_aload_n dX12_badOf_8 rfl 0 rfl ?_
  obtain ⟨ob1, hf⟩ := hf
  refine G12_11 dX12_badOf_9 lfX12_17 ob1 ?_
  refine R_iconst (v := 2) dX12_badOf_12 (by decide) ?_
  obtain ⟨ob2, hf⟩ := hf
  obtain ⟨ob3, hf⟩ := hf
  refine R_iaload dX12_badOf_13 ob2 ob3 ?_
  refine R_icmp_ge (tgt := 107) dX12_badOf_14 (by decide) (fun b4 => ?_) (fun b4 => ?_)
  · have hf := hf.1 b4
    refine R_iload dX12_badOf_107 5 rfl ?_
    exact R_iret dX12_badOf_109 rfl rfl hf
  · have hf := hf.2 b4
    refine R_iload_n dX12_badOf_17 rfl 1 rfl ?_
    refine R_iload_n dX12_badOf_18 rfl 3 rfl ?_
    refine R_iload dX12_badOf_19 4 rfl ?_
    refine R_aload_n dX12_badOf_21 rfl 0 rfl ?_
    refine G12_12 dX12_badOf_22 lfX12_21 ob1 ?_
    refine R_iload dX12_badOf_25 6 rfl ?_
    obtain ⟨ob5, hf⟩ := hf
    obtain ⟨ob6, hf⟩ := hf
    refine R_iaload dX12_badOf_27 ob5 ob6 ?_
    refine R_aload_n dX12_badOf_28 rfl 0 rfl ?_
    refine G12_13 dX12_badOf_29 lfX12_24 ob1 ?_
    refine R_iload dX12_badOf_32 6 rfl ?_
    obtain ⟨ob7, hf⟩ := hf
    obtain ⟨ob8, hf⟩ := hf
    refine R_iaload dX12_badOf_34 ob7 ob8 ?_
    refine R_callS (N := mX12_acrossAt) (as := [.int x1, .int x3, .int x4, .int (gI h (gF h r0 12) x6.toNatClampNeg), .int (gI h (gF h r0 13) x6.toNatClampNeg)]) (rest := []) (kc2 := 0) (ks2 := 0) dX12_badOf_35 lmX12_266 oX12_acrossAt (Nat.le_of_ble_eq_true rfl) rfl rfl (Nat.le_of_ble_eq_true rfl) rfl rfl (aX12_acrossAt  ?_)
    refine R_callS (N := mX12_plain) (as := [.int (x1 + (((x4 * (gI h (gF h r0 12) x6.toNatClampNeg)) - (x3 * (gI h (gF h r0 13) x6.toNatClampNeg))) / 100))]) (rest := []) (kc2 := 0) (ks2 := 0) dX12_badOf_38 lmX12_276 oX12_plain (Nat.le_of_ble_eq_true rfl) rfl rfl (Nat.le_of_ble_eq_true rfl) rfl rfl (aX12_plain  ?_)
    refine R_istore dX12_badOf_41 (by decide) rfl ?_
    refine R_iload_n dX12_badOf_43 rfl 3 rfl ?_
    refine R_iload_n dX12_badOf_44 rfl 4 rfl ?_
    refine R_iload dX12_badOf_45 5 rfl ?_
    refine R_aload_n dX12_badOf_47 rfl 1 rfl ?_
    refine G12_12 dX12_badOf_48 lfX12_21 ob1 ?_
    refine R_iload dX12_badOf_51 7 rfl ?_
    refine R_iaload dX12_badOf_53 ob5 ob6 ?_
    refine R_aload_n dX12_badOf_54 rfl 1 rfl ?_
    refine G12_13 dX12_badOf_55 lfX12_24 ob1 ?_
    refine R_iload dX12_badOf_58 7 rfl ?_
    refine R_iaload dX12_badOf_60 ob7 ob8 ?_
    refine R_callS (N := mX12_upAt) (as := [.int x2, .int x3, .int x4, .int (gI h (gF h r0 12) x6.toNatClampNeg), .int (gI h (gF h r0 13) x6.toNatClampNeg)]) (rest := []) (kc2 := 0) (ks2 := 0) dX12_badOf_61 lmX12_270 oX12_upAt (Nat.le_of_ble_eq_true rfl) rfl rfl (Nat.le_of_ble_eq_true rfl) rfl rfl (aX12_upAt  ?_)
    refine R_callS (N := mX12_plain) (as := [.int (x2 + (((x3 * (gI h (gF h r0 12) x6.toNatClampNeg)) + (x4 * (gI h (gF h r0 13) x6.toNatClampNeg))) / 100))]) (rest := []) (kc2 := 0) (ks2 := 0) dX12_badOf_64 lmX12_276 oX12_plain (Nat.le_of_ble_eq_true rfl) rfl rfl (Nat.le_of_ble_eq_true rfl) rfl rfl (aX12_plain  ?_)
    refine R_istore dX12_badOf_67 (by decide) rfl ?_
    refine R_iload dX12_badOf_69 1 rfl ?_
    refine R_iload dX12_badOf_71 7 rfl ?_
    have key : ∀ z10 : Int32, z10 = (if (if 0 ≤ (x1 + (((x4 * (gI h (gF h r0 12) x6.toNatClampNeg)) - (x3 * (gI h (gF h r0 13) x6.toNatClampNeg))) / 100)) then (x1 + (((x4 * (gI h (gF h r0 12) x6.toNatClampNeg)) - (x3 * (gI h (gF h r0 13) x6.toNatClampNeg))) / 100)) else (-(x1 + (((x4 * (gI h (gF h r0 12) x6.toNatClampNeg)) - (x3 * (gI h (gF h r0 13) x6.toNatClampNeg))) / 100)))) ≤ x5 then x5 else (if 0 ≤ (x1 + (((x4 * (gI h (gF h r0 12) x6.toNatClampNeg)) - (x3 * (gI h (gF h r0 13) x6.toNatClampNeg))) / 100)) then (x1 + (((x4 * (gI h (gF h r0 12) x6.toNatClampNeg)) - (x3 * (gI h (gF h r0 13) x6.toNatClampNeg))) / 100)) else (-(x1 + (((x4 * (gI h (gF h r0 12) x6.toNatClampNeg)) - (x3 * (gI h (gF h r0 13) x6.toNatClampNeg))) / 100))))) → Rr mX12_badOf 0 0 83 [(0, .ref r0), (1, .int x1), (2, .int x2), (3, .int x3), (4, .int x4), (6, .int x6), (8, .int (if 0 ≤ (x2 + (((x3 * (gI h (gF h r0 12) x6.toNatClampNeg)) + (x4 * (gI h (gF h r0 13) x6.toNatClampNeg))) / 100)) then (x2 + (((x3 * (gI h (gF h r0 12) x6.toNatClampNeg)) + (x4 * (gI h (gF h r0 13) x6.toNatClampNeg))) / 100)) else (-(x2 + (((x3 * (gI h (gF h r0 12) x6.toNatClampNeg)) + (x4 * (gI h (gF h r0 13) x6.toNatClampNeg))) / 100)))))] [.int z10] h P := by
      intro z10 ez10
      have hf := hf z10 ez10
      refine R_istore dX12_badOf_83 (by decide) rfl ?_
      refine R_iload dX12_badOf_85 7 rfl ?_
      refine R_iload dX12_badOf_87 0 rfl ?_
      have key : ∀ z12 : Int32, z12 = (if (if 0 ≤ (x2 + (((x3 * (gI h (gF h r0 12) x6.toNatClampNeg)) + (x4 * (gI h (gF h r0 13) x6.toNatClampNeg))) / 100)) then (x2 + (((x3 * (gI h (gF h r0 12) x6.toNatClampNeg)) + (x4 * (gI h (gF h r0 13) x6.toNatClampNeg))) / 100)) else (-(x2 + (((x3 * (gI h (gF h r0 12) x6.toNatClampNeg)) + (x4 * (gI h (gF h r0 13) x6.toNatClampNeg))) / 100)))) ≤ z10 then z10 else (if 0 ≤ (x2 + (((x3 * (gI h (gF h r0 12) x6.toNatClampNeg)) + (x4 * (gI h (gF h r0 13) x6.toNatClampNeg))) / 100)) then (x2 + (((x3 * (gI h (gF h r0 12) x6.toNatClampNeg)) + (x4 * (gI h (gF h r0 13) x6.toNatClampNeg))) / 100)) else (-(x2 + (((x3 * (gI h (gF h r0 12) x6.toNatClampNeg)) + (x4 * (gI h (gF h r0 13) x6.toNatClampNeg))) / 100))))) → Rr mX12_badOf 0 0 99 [(0, .ref r0), (1, .int x1), (2, .int x2), (3, .int x3), (4, .int x4), (6, .int x6)] [.int z12] h P := by
        intro z12 ez12
        have hf := hf z12 ez12
        refine R_istore dX12_badOf_99 (by decide) rfl ?_
        refine R_iinc (v := x6 + 1) dX12_badOf_101 6 rfl rfl (by decide) rfl ?_
        refine R_goto (tgt := 6) dX12_badOf_104 (by decide) ?_
        exact R_sub [2, 3, 4, 5, 6, 1, 0] rfl hf
      refine R_icmp_le (tgt := 97) dX12_badOf_89 (by decide) (fun b11 => ?_) (fun b11 => ?_)
      · refine R_iload dX12_badOf_97 0 rfl ?_
        exact R_sub [1, 2, 3, 4, 5, 6] rfl (key _ (by rw [if_pos b11]))
      · refine R_iload dX12_badOf_92 7 rfl ?_
        refine R_goto (tgt := 99) dX12_badOf_94 (by decide) ?_
        exact R_sub [1, 2, 3, 4, 5, 6] rfl (key _ (by rw [if_neg b11]))
    refine R_icmp_le (tgt := 81) dX12_badOf_73 (by decide) (fun b9 => ?_) (fun b9 => ?_)
    · refine R_iload dX12_badOf_81 7 rfl ?_
      exact R_sub [2, 3, 4, 5, 6, 8, 0] rfl (key _ (by rw [if_pos b9]))
    · refine R_iload dX12_badOf_76 1 rfl ?_
      refine R_goto (tgt := 83) dX12_badOf_78 (by decide) ?_
      exact R_sub [2, 3, 4, 5, 6, 8, 0] rfl (key _ (by rw [if_neg b9]))
theorem dX12_beatOf_0 : decode cX12_beatOf 0 = .ok (.aload_n 0, 1) := by decide +kernel
theorem dX12_beatOf_1 : decode cX12_beatOf 1 = .ok (.getfield 36, 3) := by decide +kernel
theorem dX12_beatOf_4 : decode cX12_beatOf 4 = .ok (.iload_n 1, 1) := by decide +kernel
theorem dX12_beatOf_5 : decode cX12_beatOf 5 = .ok (.iaload, 1) := by decide +kernel
theorem dX12_beatOf_6 : decode cX12_beatOf 6 = .ok (.aload_n 0, 1) := by decide +kernel
theorem dX12_beatOf_7 : decode cX12_beatOf 7 = .ok (.getfield 36, 3) := by decide +kernel
theorem dX12_beatOf_10 : decode cX12_beatOf 10 = .ok (.iload_n 2, 1) := by decide +kernel
theorem dX12_beatOf_11 : decode cX12_beatOf 11 = .ok (.iaload, 1) := by decide +kernel
theorem dX12_beatOf_12 : decode cX12_beatOf 12 = .ok (.isub, 1) := by decide +kernel
theorem dX12_beatOf_13 : decode cX12_beatOf 13 = .ok (.aload_n 0, 1) := by decide +kernel
theorem dX12_beatOf_14 : decode cX12_beatOf 14 = .ok (.getfield 39, 3) := by decide +kernel
theorem dX12_beatOf_17 : decode cX12_beatOf 17 = .ok (.iload_n 1, 1) := by decide +kernel
theorem dX12_beatOf_18 : decode cX12_beatOf 18 = .ok (.iaload, 1) := by decide +kernel
theorem dX12_beatOf_19 : decode cX12_beatOf 19 = .ok (.aload_n 0, 1) := by decide +kernel
theorem dX12_beatOf_20 : decode cX12_beatOf 20 = .ok (.getfield 39, 3) := by decide +kernel
theorem dX12_beatOf_23 : decode cX12_beatOf 23 = .ok (.iload_n 2, 1) := by decide +kernel
theorem dX12_beatOf_24 : decode cX12_beatOf 24 = .ok (.iaload, 1) := by decide +kernel
theorem dX12_beatOf_25 : decode cX12_beatOf 25 = .ok (.isub, 1) := by decide +kernel
theorem dX12_beatOf_26 : decode cX12_beatOf 26 = .ok (.invokestatic 362, 3) := by decide +kernel
theorem dX12_beatOf_29 : decode cX12_beatOf 29 = .ok (.istore_n 3, 1) := by decide +kernel
theorem dX12_beatOf_30 : decode cX12_beatOf 30 = .ok (.aload_n 0, 1) := by decide +kernel
theorem dX12_beatOf_31 : decode cX12_beatOf 31 = .ok (.getfield 36, 3) := by decide +kernel
theorem dX12_beatOf_34 : decode cX12_beatOf 34 = .ok (.iload_n 2, 1) := by decide +kernel
theorem dX12_beatOf_35 : decode cX12_beatOf 35 = .ok (.iaload, 1) := by decide +kernel
theorem dX12_beatOf_36 : decode cX12_beatOf 36 = .ok (.istore 4, 2) := by decide +kernel
theorem dX12_beatOf_38 : decode cX12_beatOf 38 = .ok (.aload_n 0, 1) := by decide +kernel
theorem dX12_beatOf_39 : decode cX12_beatOf 39 = .ok (.getfield 39, 3) := by decide +kernel
theorem dX12_beatOf_42 : decode cX12_beatOf 42 = .ok (.iload_n 2, 1) := by decide +kernel
theorem dX12_beatOf_43 : decode cX12_beatOf 43 = .ok (.iaload, 1) := by decide +kernel
theorem dX12_beatOf_44 : decode cX12_beatOf 44 = .ok (.istore 5, 2) := by decide +kernel
theorem dX12_beatOf_46 : decode cX12_beatOf 46 = .ok (.iconst 0, 1) := by decide +kernel
theorem dX12_beatOf_47 : decode cX12_beatOf 47 = .ok (.istore 6, 2) := by decide +kernel
theorem dX12_beatOf_49 : decode cX12_beatOf 49 = .ok (.iload 6, 2) := by decide +kernel
theorem dX12_beatOf_51 : decode cX12_beatOf 51 = .ok (.iconst 3, 1) := by decide +kernel
theorem dX12_beatOf_52 : decode cX12_beatOf 52 = .ok (.if_icmp .ge 58, 3) := by decide +kernel
theorem dX12_beatOf_55 : decode cX12_beatOf 55 = .ok (.iload 4, 2) := by decide +kernel
theorem dX12_beatOf_57 : decode cX12_beatOf 57 = .ok (.istore 7, 2) := by decide +kernel
theorem dX12_beatOf_59 : decode cX12_beatOf 59 = .ok (.iload 5, 2) := by decide +kernel
theorem dX12_beatOf_61 : decode cX12_beatOf 61 = .ok (.ineg, 1) := by decide +kernel
theorem dX12_beatOf_62 : decode cX12_beatOf 62 = .ok (.istore 4, 2) := by decide +kernel
theorem dX12_beatOf_64 : decode cX12_beatOf 64 = .ok (.iload 7, 2) := by decide +kernel
theorem dX12_beatOf_66 : decode cX12_beatOf 66 = .ok (.istore 5, 2) := by decide +kernel
theorem dX12_beatOf_68 : decode cX12_beatOf 68 = .ok (.aload_n 0, 1) := by decide +kernel
theorem dX12_beatOf_69 : decode cX12_beatOf 69 = .ok (.getfield 36, 3) := by decide +kernel
theorem dX12_beatOf_72 : decode cX12_beatOf 72 = .ok (.iload_n 1, 1) := by decide +kernel
theorem dX12_beatOf_73 : decode cX12_beatOf 73 = .ok (.iaload, 1) := by decide +kernel
theorem dX12_beatOf_74 : decode cX12_beatOf 74 = .ok (.iload 4, 2) := by decide +kernel
theorem dX12_beatOf_76 : decode cX12_beatOf 76 = .ok (.isub, 1) := by decide +kernel
theorem dX12_beatOf_77 : decode cX12_beatOf 77 = .ok (.aload_n 0, 1) := by decide +kernel
theorem dX12_beatOf_78 : decode cX12_beatOf 78 = .ok (.getfield 39, 3) := by decide +kernel
theorem dX12_beatOf_81 : decode cX12_beatOf 81 = .ok (.iload_n 1, 1) := by decide +kernel
theorem dX12_beatOf_82 : decode cX12_beatOf 82 = .ok (.iaload, 1) := by decide +kernel
theorem dX12_beatOf_83 : decode cX12_beatOf 83 = .ok (.iload 5, 2) := by decide +kernel
theorem dX12_beatOf_85 : decode cX12_beatOf 85 = .ok (.isub, 1) := by decide +kernel
theorem dX12_beatOf_86 : decode cX12_beatOf 86 = .ok (.invokestatic 362, 3) := by decide +kernel
theorem dX12_beatOf_89 : decode cX12_beatOf 89 = .ok (.istore 8, 2) := by decide +kernel
theorem dX12_beatOf_91 : decode cX12_beatOf 91 = .ok (.iload 8, 2) := by decide +kernel
theorem dX12_beatOf_93 : decode cX12_beatOf 93 = .ok (.iload_n 3, 1) := by decide +kernel
theorem dX12_beatOf_94 : decode cX12_beatOf 94 = .ok (.if_icmp .ge 8, 3) := by decide +kernel
theorem dX12_beatOf_97 : decode cX12_beatOf 97 = .ok (.iload 8, 2) := by decide +kernel
theorem dX12_beatOf_99 : decode cX12_beatOf 99 = .ok (.goto 4, 3) := by decide +kernel
theorem dX12_beatOf_102 : decode cX12_beatOf 102 = .ok (.iload_n 3, 1) := by decide +kernel
theorem dX12_beatOf_103 : decode cX12_beatOf 103 = .ok (.istore_n 3, 1) := by decide +kernel
theorem dX12_beatOf_104 : decode cX12_beatOf 104 = .ok (.iinc 6 1, 3) := by decide +kernel
theorem dX12_beatOf_107 : decode cX12_beatOf 107 = .ok (.goto (-58), 3) := by decide +kernel
theorem dX12_beatOf_110 : decode cX12_beatOf 110 = .ok (.iload_n 3, 1) := by decide +kernel
theorem dX12_beatOf_111 : decode cX12_beatOf 111 = .ok (.ireturn, 1) := by decide +kernel
set_option maxRecDepth 20000 in
theorem sX12_beatOf_0 {P : Option Value → AH → Prop} (h : AH) (r0 : Nat) (x1 : Int32) (x2 : Int32) (hf : (isO h 12 r0) ∧ ((isA h 0 (gF h r0 17)) ∧ ((vp_in x1 (ln (gF h r0 17))) ∧ ((vp_in x2 (ln (gF h r0 17))) ∧ ((isA h 0 (gF h r0 18)) ∧ ((vp_in x1 (ln (gF h r0 18))) ∧ ((vp_in x2 (ln (gF h r0 18))) ∧ (Rr mX12_beatOf 0 0 49 [(0, .ref r0), (1, .int x1), (3, .int ((((gI h (gF h r0 17) x1.toNatClampNeg) - (gI h (gF h r0 17) x2.toNatClampNeg)) * ((gI h (gF h r0 17) x1.toNatClampNeg) - (gI h (gF h r0 17) x2.toNatClampNeg))) + (((gI h (gF h r0 18) x1.toNatClampNeg) - (gI h (gF h r0 18) x2.toNatClampNeg)) * ((gI h (gF h r0 18) x1.toNatClampNeg) - (gI h (gF h r0 18) x2.toNatClampNeg))))), (4, .int (gI h (gF h r0 17) x2.toNatClampNeg)), (5, .int (gI h (gF h r0 18) x2.toNatClampNeg)), (6, .int 0)] [] h P)))))))) : Rr mX12_beatOf 0 0 0 [(0, .ref r0), (1, .int x1), (2, .int x2)] [] h P := by
  refine R_aload_n dX12_beatOf_0 rfl 0 rfl ?_
  obtain ⟨ob1, hf⟩ := hf
  refine G12_17 dX12_beatOf_1 lfX12_36 ob1 ?_
  refine R_iload_n dX12_beatOf_4 rfl 1 rfl ?_
  obtain ⟨ob2, hf⟩ := hf
  obtain ⟨ob3, hf⟩ := hf
  refine R_iaload dX12_beatOf_5 ob2 ob3 ?_
  refine R_aload_n dX12_beatOf_6 rfl 0 rfl ?_
  refine G12_17 dX12_beatOf_7 lfX12_36 ob1 ?_
  refine R_iload_n dX12_beatOf_10 rfl 2 rfl ?_
  obtain ⟨ob4, hf⟩ := hf
  refine R_iaload dX12_beatOf_11 ob2 ob4 ?_
  refine R_isub dX12_beatOf_12 ?_
  refine R_aload_n dX12_beatOf_13 rfl 0 rfl ?_
  refine G12_18 dX12_beatOf_14 lfX12_39 ob1 ?_
  refine R_iload_n dX12_beatOf_17 rfl 1 rfl ?_
  obtain ⟨ob5, hf⟩ := hf
  obtain ⟨ob6, hf⟩ := hf
  refine R_iaload dX12_beatOf_18 ob5 ob6 ?_
  refine R_aload_n dX12_beatOf_19 rfl 0 rfl ?_
  refine G12_18 dX12_beatOf_20 lfX12_39 ob1 ?_
  refine R_iload_n dX12_beatOf_23 rfl 2 rfl ?_
  obtain ⟨ob7, hf⟩ := hf
  refine R_iaload dX12_beatOf_24 ob5 ob7 ?_
  refine R_isub dX12_beatOf_25 ?_
  refine R_callS (N := mX12_square) (as := [.int ((gI h (gF h r0 17) x1.toNatClampNeg) - (gI h (gF h r0 17) x2.toNatClampNeg)), .int ((gI h (gF h r0 18) x1.toNatClampNeg) - (gI h (gF h r0 18) x2.toNatClampNeg))]) (rest := []) (kc2 := 0) (ks2 := 0) dX12_beatOf_26 lmX12_362 oX12_square (Nat.le_of_ble_eq_true rfl) rfl rfl (Nat.le_of_ble_eq_true rfl) rfl rfl (aX12_square  ?_)
  refine R_istore_n dX12_beatOf_29 rfl (by decide) rfl ?_
  refine R_aload_n dX12_beatOf_30 rfl 1 rfl ?_
  refine G12_17 dX12_beatOf_31 lfX12_36 ob1 ?_
  refine R_iload_n dX12_beatOf_34 rfl 3 rfl ?_
  refine R_iaload dX12_beatOf_35 ob2 ob4 ?_
  refine R_istore dX12_beatOf_36 (by decide) rfl ?_
  refine R_aload_n dX12_beatOf_38 rfl 2 rfl ?_
  refine G12_18 dX12_beatOf_39 lfX12_39 ob1 ?_
  refine R_iload_n dX12_beatOf_42 rfl 4 rfl ?_
  refine R_iaload dX12_beatOf_43 ob5 ob7 ?_
  refine R_istore dX12_beatOf_44 (by decide) rfl ?_
  refine R_iconst (v := 0) dX12_beatOf_46 (by decide) ?_
  refine R_istore dX12_beatOf_47 (by decide) rfl ?_
  exact R_sub [4, 5, 3, 2, 1, 0] rfl hf
set_option maxRecDepth 20000 in
theorem sX12_beatOf_49 {P : Option Value → AH → Prop} (h : AH) (r0 : Nat) (x1 : Int32) (x3 : Int32) (x4 : Int32) (x5 : Int32) (x6 : Int32) (hf : (3 ≤ x6 → P (some (.int x3)) h) ∧ (¬ 3 ≤ x6 → (isO h 12 r0) ∧ ((isA h 0 (gF h r0 17)) ∧ ((vp_in x1 (ln (gF h r0 17))) ∧ ((isA h 0 (gF h r0 18)) ∧ ((vp_in x1 (ln (gF h r0 18))) ∧ (∀ z8 : Int32, z8 = (if x3 ≤ ((((gI h (gF h r0 17) x1.toNatClampNeg) - (-x5)) * ((gI h (gF h r0 17) x1.toNatClampNeg) - (-x5))) + (((gI h (gF h r0 18) x1.toNatClampNeg) - x4) * ((gI h (gF h r0 18) x1.toNatClampNeg) - x4))) then x3 else ((((gI h (gF h r0 17) x1.toNatClampNeg) - (-x5)) * ((gI h (gF h r0 17) x1.toNatClampNeg) - (-x5))) + (((gI h (gF h r0 18) x1.toNatClampNeg) - x4) * ((gI h (gF h r0 18) x1.toNatClampNeg) - x4)))) → (Rr mX12_beatOf 0 0 49 [(0, .ref r0), (1, .int x1), (3, .int z8), (4, .int (-x5)), (5, .int x4), (6, .int (x6 + 1))] [] h P)))))))) : Rr mX12_beatOf 0 0 49 [(0, .ref r0), (1, .int x1), (3, .int x3), (4, .int x4), (5, .int x5), (6, .int x6)] [] h P := by
  refine R_iload dX12_beatOf_49 5 rfl ?_
  refine R_iconst (v := 3) dX12_beatOf_51 (by decide) ?_
  refine R_icmp_ge (tgt := 110) dX12_beatOf_52 (by decide) (fun b1 => ?_) (fun b1 => ?_)
  · have hf := hf.1 b1
    refine R_iload_n dX12_beatOf_110 rfl 2 rfl ?_
    exact R_iret dX12_beatOf_111 rfl rfl hf
  · have hf := hf.2 b1
    refine R_iload dX12_beatOf_55 3 rfl ?_
    refine R_istore dX12_beatOf_57 (by decide) rfl ?_
    refine R_iload dX12_beatOf_59 5 rfl ?_
    refine R_ineg dX12_beatOf_61 ?_
    refine R_istore dX12_beatOf_62 (by decide) rfl ?_
    refine R_iload dX12_beatOf_64 1 rfl ?_
    refine R_istore dX12_beatOf_66 (by decide) rfl ?_
    refine R_aload_n dX12_beatOf_68 rfl 3 rfl ?_
    obtain ⟨ob2, hf⟩ := hf
    refine G12_17 dX12_beatOf_69 lfX12_36 ob2 ?_
    refine R_iload_n dX12_beatOf_72 rfl 4 rfl ?_
    obtain ⟨ob3, hf⟩ := hf
    obtain ⟨ob4, hf⟩ := hf
    refine R_iaload dX12_beatOf_73 ob3 ob4 ?_
    refine R_iload dX12_beatOf_74 1 rfl ?_
    refine R_isub dX12_beatOf_76 ?_
    refine R_aload_n dX12_beatOf_77 rfl 3 rfl ?_
    refine G12_18 dX12_beatOf_78 lfX12_39 ob2 ?_
    refine R_iload_n dX12_beatOf_81 rfl 4 rfl ?_
    obtain ⟨ob5, hf⟩ := hf
    obtain ⟨ob6, hf⟩ := hf
    refine R_iaload dX12_beatOf_82 ob5 ob6 ?_
    refine R_iload dX12_beatOf_83 0 rfl ?_
    refine R_isub dX12_beatOf_85 ?_
    refine R_callS (N := mX12_square) (as := [.int ((gI h (gF h r0 17) x1.toNatClampNeg) - (-x5)), .int ((gI h (gF h r0 18) x1.toNatClampNeg) - x4)]) (rest := []) (kc2 := 0) (ks2 := 0) dX12_beatOf_86 lmX12_362 oX12_square (Nat.le_of_ble_eq_true rfl) rfl rfl (Nat.le_of_ble_eq_true rfl) rfl rfl (aX12_square  ?_)
    refine R_istore dX12_beatOf_89 (by decide) rfl ?_
    refine R_iload dX12_beatOf_91 0 rfl ?_
    refine R_iload_n dX12_beatOf_93 rfl 6 rfl ?_
    have key : ∀ z8 : Int32, z8 = (if x3 ≤ ((((gI h (gF h r0 17) x1.toNatClampNeg) - (-x5)) * ((gI h (gF h r0 17) x1.toNatClampNeg) - (-x5))) + (((gI h (gF h r0 18) x1.toNatClampNeg) - x4) * ((gI h (gF h r0 18) x1.toNatClampNeg) - x4))) then x3 else ((((gI h (gF h r0 17) x1.toNatClampNeg) - (-x5)) * ((gI h (gF h r0 17) x1.toNatClampNeg) - (-x5))) + (((gI h (gF h r0 18) x1.toNatClampNeg) - x4) * ((gI h (gF h r0 18) x1.toNatClampNeg) - x4)))) → Rr mX12_beatOf 0 0 103 [(0, .ref r0), (1, .int x1), (4, .int (-x5)), (5, .int x4), (6, .int x6)] [.int z8] h P := by
      intro z8 ez8
      have hf := hf z8 ez8
      refine R_istore_n dX12_beatOf_103 rfl (by decide) rfl ?_
      refine R_iinc (v := x6 + 1) dX12_beatOf_104 5 rfl rfl (by decide) rfl ?_
      refine R_goto (tgt := 49) dX12_beatOf_107 (by decide) ?_
      exact R_sub [2, 3, 1, 4, 5, 0] rfl hf
    refine R_icmp_ge (tgt := 102) dX12_beatOf_94 (by decide) (fun b7 => ?_) (fun b7 => ?_)
    · refine R_iload_n dX12_beatOf_102 rfl 6 rfl ?_
      exact R_sub [4, 5, 2, 1, 7] rfl (key _ (by rw [if_pos b7]))
    · refine R_iload dX12_beatOf_97 0 rfl ?_
      refine R_goto (tgt := 103) dX12_beatOf_99 (by decide) ?_
      exact R_sub [4, 5, 2, 1, 7] rfl (key _ (by rw [if_neg b7]))
theorem dX12_carry_0 : decode cX12_carry 0 = .ok (.iconst 0, 1) := by decide +kernel
theorem dX12_carry_1 : decode cX12_carry 1 = .ok (.istore 4, 2) := by decide +kernel
theorem dX12_carry_3 : decode cX12_carry 3 = .ok (.iload 4, 2) := by decide +kernel
theorem dX12_carry_5 : decode cX12_carry 5 = .ok (.bipush 16, 2) := by decide +kernel
theorem dX12_carry_7 : decode cX12_carry 7 = .ok (.if_icmp .ge 51, 3) := by decide +kernel
theorem dX12_carry_10 : decode cX12_carry 10 = .ok (.aload_n 0, 1) := by decide +kernel
theorem dX12_carry_11 : decode cX12_carry 11 = .ok (.getfield 93, 3) := by decide +kernel
theorem dX12_carry_14 : decode cX12_carry 14 = .ok (.bipush 32, 2) := by decide +kernel
theorem dX12_carry_16 : decode cX12_carry 16 = .ok (.iload 4, 2) := by decide +kernel
theorem dX12_carry_18 : decode cX12_carry 18 = .ok (.iadd, 1) := by decide +kernel
theorem dX12_carry_19 : decode cX12_carry 19 = .ok (.iload 4, 2) := by decide +kernel
theorem dX12_carry_21 : decode cX12_carry 21 = .ok (.iload_n 3, 1) := by decide +kernel
theorem dX12_carry_22 : decode cX12_carry 22 = .ok (.isub, 1) := by decide +kernel
theorem dX12_carry_23 : decode cX12_carry 23 = .ok (.iconst 0, 1) := by decide +kernel
theorem dX12_carry_24 : decode cX12_carry 24 = .ok (.bipush 15, 2) := by decide +kernel
theorem dX12_carry_26 : decode cX12_carry 26 = .ok (.invokestatic 178, 3) := by decide +kernel
theorem dX12_carry_29 : decode cX12_carry 29 = .ok (.ifCond .eq 21, 3) := by decide +kernel
theorem dX12_carry_32 : decode cX12_carry 32 = .ok (.aload_n 0, 1) := by decide +kernel
theorem dX12_carry_33 : decode cX12_carry 33 = .ok (.getfield 93, 3) := by decide +kernel
theorem dX12_carry_36 : decode cX12_carry 36 = .ok (.iload_n 1, 1) := by decide +kernel
theorem dX12_carry_37 : decode cX12_carry 37 = .ok (.iload 4, 2) := by decide +kernel
theorem dX12_carry_39 : decode cX12_carry 39 = .ok (.iadd, 1) := by decide +kernel
theorem dX12_carry_40 : decode cX12_carry 40 = .ok (.iload_n 3, 1) := by decide +kernel
theorem dX12_carry_41 : decode cX12_carry 41 = .ok (.isub, 1) := by decide +kernel
theorem dX12_carry_42 : decode cX12_carry 42 = .ok (.iaload, 1) := by decide +kernel
theorem dX12_carry_43 : decode cX12_carry 43 = .ok (.iload_n 2, 1) := by decide +kernel
theorem dX12_carry_44 : decode cX12_carry 44 = .ok (.invokestatic 300, 3) := by decide +kernel
theorem dX12_carry_47 : decode cX12_carry 47 = .ok (.goto 4, 3) := by decide +kernel
theorem dX12_carry_50 : decode cX12_carry 50 = .ok (.iconst 0, 1) := by decide +kernel
theorem dX12_carry_51 : decode cX12_carry 51 = .ok (.iastore, 1) := by decide +kernel
theorem dX12_carry_52 : decode cX12_carry 52 = .ok (.iinc 4 1, 3) := by decide +kernel
theorem dX12_carry_55 : decode cX12_carry 55 = .ok (.goto (-52), 3) := by decide +kernel
theorem dX12_carry_58 : decode cX12_carry 58 = .ok (.iconst 0, 1) := by decide +kernel
theorem dX12_carry_59 : decode cX12_carry 59 = .ok (.istore 4, 2) := by decide +kernel
theorem dX12_carry_61 : decode cX12_carry 61 = .ok (.iload 4, 2) := by decide +kernel
theorem dX12_carry_63 : decode cX12_carry 63 = .ok (.bipush 16, 2) := by decide +kernel
theorem dX12_carry_65 : decode cX12_carry 65 = .ok (.if_icmp .ge 28, 3) := by decide +kernel
theorem dX12_carry_68 : decode cX12_carry 68 = .ok (.aload_n 0, 1) := by decide +kernel
theorem dX12_carry_69 : decode cX12_carry 69 = .ok (.getfield 93, 3) := by decide +kernel
theorem dX12_carry_72 : decode cX12_carry 72 = .ok (.iload_n 1, 1) := by decide +kernel
theorem dX12_carry_73 : decode cX12_carry 73 = .ok (.iload 4, 2) := by decide +kernel
theorem dX12_carry_75 : decode cX12_carry 75 = .ok (.iadd, 1) := by decide +kernel
theorem dX12_carry_76 : decode cX12_carry 76 = .ok (.aload_n 0, 1) := by decide +kernel
theorem dX12_carry_77 : decode cX12_carry 77 = .ok (.getfield 93, 3) := by decide +kernel
theorem dX12_carry_80 : decode cX12_carry 80 = .ok (.bipush 32, 2) := by decide +kernel
theorem dX12_carry_82 : decode cX12_carry 82 = .ok (.iload 4, 2) := by decide +kernel
theorem dX12_carry_84 : decode cX12_carry 84 = .ok (.iadd, 1) := by decide +kernel
theorem dX12_carry_85 : decode cX12_carry 85 = .ok (.iaload, 1) := by decide +kernel
theorem dX12_carry_86 : decode cX12_carry 86 = .ok (.iastore, 1) := by decide +kernel
theorem dX12_carry_87 : decode cX12_carry 87 = .ok (.iinc 4 1, 3) := by decide +kernel
theorem dX12_carry_90 : decode cX12_carry 90 = .ok (.goto (-29), 3) := by decide +kernel
theorem dX12_carry_93 : decode cX12_carry 93 = .ok (.return_, 1) := by decide +kernel
set_option maxRecDepth 20000 in
theorem sX12_carry_0 {P : Option Value → AH → Prop} (h : AH) (r0 : Nat) (x1 : Int32) (x2 : Int32) (x3 : Int32) (hf : Rr mX12_carry 0 0 3 [(0, .ref r0), (1, .int x1), (2, .int x2), (3, .int x3), (4, .int 0)] [] h P) : Rr mX12_carry 0 0 0 [(0, .ref r0), (1, .int x1), (2, .int x2), (3, .int x3)] [] h P := by
  refine R_iconst (v := 0) dX12_carry_0 (by decide) ?_
  refine R_istore dX12_carry_1 (by decide) rfl ?_
  exact R_sub [1, 2, 3, 4, 0] rfl hf
set_option maxRecDepth 20000 in
theorem sX12_carry_3 {P : Option Value → AH → Prop} (h : AH) (r0 : Nat) (x1 : Int32) (x2 : Int32) (x3 : Int32) (x4 : Int32) (hf : (16 ≤ x4 → Rr mX12_carry 0 0 61 [(0, .ref r0), (1, .int x1), (4, .int 0)] [] h P) ∧ (¬ 16 ≤ x4 → (isO h 12 r0) ∧ ((isA h 0 (gF h r0 45)) ∧ (((¬ (x4 - x3) < 0 ∧ ¬ 15 < (x4 - x3)) → vp_in ((x1 + x4) - x3) (ln (gF h r0 45))) ∧ (∀ z6 : Int32, z6 = (if (¬ (x4 - x3) < 0 ∧ ¬ 15 < (x4 - x3)) then (if 0 ≤ x2 then (((gI h (gF h r0 45) ((x1 + x4) - x3).toNatClampNeg) <<< (x2 &&& 31)) &&& 65535) else ((gI h (gF h r0 45) ((x1 + x4) - x3).toNatClampNeg) >>> ((-x2) &&& 31))) else 0) → ((vp_in (32 + x4) (ln (gF h r0 45))) ∧ (Rr mX12_carry 0 0 3 [(0, .ref r0), (1, .int x1), (2, .int x2), (3, .int x3), (4, .int (x4 + 1))] [] (sI h (gF h r0 45) (32 + x4).toNatClampNeg z6) P))))))) : Rr mX12_carry 0 0 3 [(0, .ref r0), (1, .int x1), (2, .int x2), (3, .int x3), (4, .int x4)] [] h P := by
  refine R_iload dX12_carry_3 4 rfl ?_
  refine R_bipush (v := 16) dX12_carry_5 (by decide) ?_
  refine R_icmp_ge (tgt := 58) dX12_carry_7 (by decide) (fun b1 => ?_) (fun b1 => ?_)
  · have hf := hf.1 b1
    refine R_iconst (v := 0) dX12_carry_58 (by decide) ?_
    refine R_istore dX12_carry_59 (by decide) rfl ?_
    exact R_sub [1, 2, 0] rfl hf
  · have hf := hf.2 b1
    refine R_aload_n dX12_carry_10 rfl 0 rfl ?_
    obtain ⟨ob2, hf⟩ := hf
    refine G12_45 dX12_carry_11 lfX12_93 ob2 ?_
    refine R_bipush (v := 32) dX12_carry_14 (by decide) ?_
    refine R_iload dX12_carry_16 4 rfl ?_
    refine R_iadd dX12_carry_18 ?_
    refine R_iload dX12_carry_19 4 rfl ?_
    refine R_iload_n dX12_carry_21 rfl 3 rfl ?_
    refine R_isub dX12_carry_22 ?_
    refine R_iconst (v := 0) dX12_carry_23 (by decide) ?_
    refine R_bipush (v := 15) dX12_carry_24 (by decide) ?_
    refine R_callS (N := mX12_in) (as := [.int (x4 - x3), .int 0, .int 15]) (rest := [.int (32 + x4), .ref (gF h r0 45)]) (kc2 := 0) (ks2 := 0) dX12_carry_26 lmX12_178 oX12_in (Nat.le_of_ble_eq_true rfl) rfl rfl (Nat.le_of_ble_eq_true rfl) rfl rfl (aX12_in  ?_)
    obtain ⟨ob4, hf⟩ := hf
    obtain ⟨ob5, hf⟩ := hf
    have key : ∀ z6 : Int32, z6 = (if (¬ (x4 - x3) < 0 ∧ ¬ 15 < (x4 - x3)) then (if 0 ≤ x2 then (((gI h (gF h r0 45) ((x1 + x4) - x3).toNatClampNeg) <<< (x2 &&& 31)) &&& 65535) else ((gI h (gF h r0 45) ((x1 + x4) - x3).toNatClampNeg) >>> ((-x2) &&& 31))) else 0) → Rr mX12_carry 0 0 51 [(0, .ref r0), (1, .int x1), (2, .int x2), (3, .int x3), (4, .int x4)] [.int z6, .int (32 + x4), .ref (gF h r0 45)] h P := by
      intro z6 ez6
      have hf := hf z6 ez6
      obtain ⟨ob7, hf⟩ := hf
      refine R_iastore dX12_carry_51 ob4 ob7 ?_
      refine R_iinc (v := x4 + 1) dX12_carry_52 4 rfl rfl (by decide) rfl ?_
      refine R_goto (tgt := 3) dX12_carry_55 (by decide) ?_
      exact R_sub [1, 2, 3, 4, 0] rfl hf
    refine R_if_eq_b (tgt := 50) dX12_carry_29 (by decide) (fun b3 => ?_) (fun b3 => ?_)
    · refine R_iconst (v := 0) dX12_carry_50 (by decide) ?_
      exact R_sub [0, 1, 2, 3, 4] rfl (key _ (by rw [if_neg b3]))
    · refine R_aload_n dX12_carry_32 rfl 0 rfl ?_
      refine G12_45 dX12_carry_33 lfX12_93 ob2 ?_
      refine R_iload_n dX12_carry_36 rfl 1 rfl ?_
      refine R_iload dX12_carry_37 4 rfl ?_
      refine R_iadd dX12_carry_39 ?_
      refine R_iload_n dX12_carry_40 rfl 3 rfl ?_
      refine R_isub dX12_carry_41 ?_
      refine R_iaload dX12_carry_42 ob4 (ob5 b3) ?_
      refine R_iload_n dX12_carry_43 rfl 2 rfl ?_
      refine R_callS (N := mX12_shiftedRow) (as := [.int (gI h (gF h r0 45) ((x1 + x4) - x3).toNatClampNeg), .int x2]) (rest := [.int (32 + x4), .ref (gF h r0 45)]) (kc2 := 0) (ks2 := 0) dX12_carry_44 lmX12_300 oX12_shiftedRow (Nat.le_of_ble_eq_true rfl) rfl rfl (Nat.le_of_ble_eq_true rfl) rfl rfl (aX12_shiftedRow  ?_)
      refine R_goto (tgt := 51) dX12_carry_47 (by decide) ?_
      exact R_sub [0, 1, 2, 3, 4] rfl (key _ (by rw [if_pos b3]))
set_option maxRecDepth 20000 in
theorem sX12_carry_61 {P : Option Value → AH → Prop} (h : AH) (r0 : Nat) (x1 : Int32) (x4 : Int32) (hf : (16 ≤ x4 → P none h) ∧ (¬ 16 ≤ x4 → (isO h 12 r0) ∧ ((isA h 0 (gF h r0 45)) ∧ ((vp_in (32 + x4) (ln (gF h r0 45))) ∧ ((vp_in (x1 + x4) (ln (gF h r0 45))) ∧ (Rr mX12_carry 0 0 61 [(0, .ref r0), (1, .int x1), (4, .int (x4 + 1))] [] (sI h (gF h r0 45) (x1 + x4).toNatClampNeg (gI h (gF h r0 45) (32 + x4).toNatClampNeg)) P)))))) : Rr mX12_carry 0 0 61 [(0, .ref r0), (1, .int x1), (4, .int x4)] [] h P := by
  refine R_iload dX12_carry_61 2 rfl ?_
  refine R_bipush (v := 16) dX12_carry_63 (by decide) ?_
  refine R_icmp_ge (tgt := 93) dX12_carry_65 (by decide) (fun b1 => ?_) (fun b1 => ?_)
  · have hf := hf.1 b1
    exact R_ret dX12_carry_93 rfl hf
  · have hf := hf.2 b1
    refine R_aload_n dX12_carry_68 rfl 0 rfl ?_
    obtain ⟨ob2, hf⟩ := hf
    refine G12_45 dX12_carry_69 lfX12_93 ob2 ?_
    refine R_iload_n dX12_carry_72 rfl 1 rfl ?_
    refine R_iload dX12_carry_73 2 rfl ?_
    refine R_iadd dX12_carry_75 ?_
    refine R_aload_n dX12_carry_76 rfl 0 rfl ?_
    refine G12_45 dX12_carry_77 lfX12_93 ob2 ?_
    refine R_bipush (v := 32) dX12_carry_80 (by decide) ?_
    refine R_iload dX12_carry_82 2 rfl ?_
    refine R_iadd dX12_carry_84 ?_
    obtain ⟨ob3, hf⟩ := hf
    obtain ⟨ob4, hf⟩ := hf
    refine R_iaload dX12_carry_85 ob3 ob4 ?_
    obtain ⟨ob5, hf⟩ := hf
    refine R_iastore dX12_carry_86 ob3 ob5 ?_
    refine R_iinc (v := x4 + 1) dX12_carry_87 2 rfl rfl (by decide) rfl ?_
    refine R_goto (tgt := 61) dX12_carry_90 (by decide) ?_
    exact R_sub [1, 2, 0] rfl hf
theorem dX12_heldRow_0 : decode cX12_heldRow 0 = .ok (.iload_n 3, 1) := by decide +kernel
theorem dX12_heldRow_1 : decode cX12_heldRow 1 = .ok (.iload_n 2, 1) := by decide +kernel
theorem dX12_heldRow_2 : decode cX12_heldRow 2 = .ok (.iconst 5, 1) := by decide +kernel
theorem dX12_heldRow_3 : decode cX12_heldRow 3 = .ok (.idiv, 1) := by decide +kernel
theorem dX12_heldRow_4 : decode cX12_heldRow 4 = .ok (.iconst 2, 1) := by decide +kernel
theorem dX12_heldRow_5 : decode cX12_heldRow 5 = .ok (.isub, 1) := by decide +kernel
theorem dX12_heldRow_6 : decode cX12_heldRow 6 = .ok (.isub, 1) := by decide +kernel
theorem dX12_heldRow_7 : decode cX12_heldRow 7 = .ok (.istore 4, 2) := by decide +kernel
theorem dX12_heldRow_9 : decode cX12_heldRow 9 = .ok (.iload 4, 2) := by decide +kernel
theorem dX12_heldRow_11 : decode cX12_heldRow 11 = .ok (.iconst 0, 1) := by decide +kernel
theorem dX12_heldRow_12 : decode cX12_heldRow 12 = .ok (.bipush 15, 2) := by decide +kernel
theorem dX12_heldRow_14 : decode cX12_heldRow 14 = .ok (.invokestatic 178, 3) := by decide +kernel
theorem dX12_heldRow_17 : decode cX12_heldRow 17 = .ok (.ifCond .eq 26, 3) := by decide +kernel
theorem dX12_heldRow_20 : decode cX12_heldRow 20 = .ok (.aload_n 0, 1) := by decide +kernel
theorem dX12_heldRow_21 : decode cX12_heldRow 21 = .ok (.getfield 33, 3) := by decide +kernel
theorem dX12_heldRow_24 : decode cX12_heldRow 24 = .ok (.bipush 16, 2) := by decide +kernel
theorem dX12_heldRow_26 : decode cX12_heldRow 26 = .ok (.iload_n 1, 1) := by decide +kernel
theorem dX12_heldRow_27 : decode cX12_heldRow 27 = .ok (.imul, 1) := by decide +kernel
theorem dX12_heldRow_28 : decode cX12_heldRow 28 = .ok (.iload 4, 2) := by decide +kernel
theorem dX12_heldRow_30 : decode cX12_heldRow 30 = .ok (.iadd, 1) := by decide +kernel
theorem dX12_heldRow_31 : decode cX12_heldRow 31 = .ok (.iaload, 1) := by decide +kernel
theorem dX12_heldRow_32 : decode cX12_heldRow 32 = .ok (.iload_n 2, 1) := by decide +kernel
theorem dX12_heldRow_33 : decode cX12_heldRow 33 = .ok (.iconst 5, 1) := by decide +kernel
theorem dX12_heldRow_34 : decode cX12_heldRow 34 = .ok (.irem, 1) := by decide +kernel
theorem dX12_heldRow_35 : decode cX12_heldRow 35 = .ok (.iconst 2, 1) := by decide +kernel
theorem dX12_heldRow_36 : decode cX12_heldRow 36 = .ok (.isub, 1) := by decide +kernel
theorem dX12_heldRow_37 : decode cX12_heldRow 37 = .ok (.invokestatic 300, 3) := by decide +kernel
theorem dX12_heldRow_40 : decode cX12_heldRow 40 = .ok (.goto 4, 3) := by decide +kernel
theorem dX12_heldRow_43 : decode cX12_heldRow 43 = .ok (.iconst 0, 1) := by decide +kernel
theorem dX12_heldRow_44 : decode cX12_heldRow 44 = .ok (.ireturn, 1) := by decide +kernel
set_option maxRecDepth 20000 in
theorem sX12_heldRow_0 {P : Option Value → AH → Prop} (h : AH) (r0 : Nat) (x1 : Int32) (x2 : Int32) (x3 : Int32) (hf : (isO h 12 r0) ∧ ((isA h 0 (gF h r0 16)) ∧ (((¬ (x3 - ((x2 / 5) - 2)) < 0 ∧ ¬ 15 < (x3 - ((x2 / 5) - 2))) → vp_in ((16 * x1) + (x3 - ((x2 / 5) - 2))) (ln (gF h r0 16))) ∧ (∀ z5 : Int32, z5 = (if (¬ (x3 - ((x2 / 5) - 2)) < 0 ∧ ¬ 15 < (x3 - ((x2 / 5) - 2))) then (if 0 ≤ ((x2 % 5) - 2) then (((gI h (gF h r0 16) ((16 * x1) + (x3 - ((x2 / 5) - 2))).toNatClampNeg) <<< (((x2 % 5) - 2) &&& 31)) &&& 65535) else ((gI h (gF h r0 16) ((16 * x1) + (x3 - ((x2 / 5) - 2))).toNatClampNeg) >>> ((-((x2 % 5) - 2)) &&& 31))) else 0) → (P (some (.int z5)) h))))) : Rr mX12_heldRow 0 0 0 [(0, .ref r0), (1, .int x1), (2, .int x2), (3, .int x3)] [] h P := by
  refine R_iload_n dX12_heldRow_0 rfl 3 rfl ?_
  refine R_iload_n dX12_heldRow_1 rfl 2 rfl ?_
  refine R_iconst (v := 5) dX12_heldRow_2 (by decide) ?_
  refine R_idiv dX12_heldRow_3 (by decide) ?_
  refine R_iconst (v := 2) dX12_heldRow_4 (by decide) ?_
  refine R_isub dX12_heldRow_5 ?_
  refine R_isub dX12_heldRow_6 ?_
  refine R_istore dX12_heldRow_7 (by decide) rfl ?_
  refine R_iload dX12_heldRow_9 0 rfl ?_
  refine R_iconst (v := 0) dX12_heldRow_11 (by decide) ?_
  refine R_bipush (v := 15) dX12_heldRow_12 (by decide) ?_
  refine R_callS (N := mX12_in) (as := [.int (x3 - ((x2 / 5) - 2)), .int 0, .int 15]) (rest := []) (kc2 := 0) (ks2 := 0) dX12_heldRow_14 lmX12_178 oX12_in (Nat.le_of_ble_eq_true rfl) rfl rfl (Nat.le_of_ble_eq_true rfl) rfl rfl (aX12_in  ?_)
  obtain ⟨ob2, hf⟩ := hf
  obtain ⟨ob3, hf⟩ := hf
  obtain ⟨ob4, hf⟩ := hf
  have key : ∀ z5 : Int32, z5 = (if (¬ (x3 - ((x2 / 5) - 2)) < 0 ∧ ¬ 15 < (x3 - ((x2 / 5) - 2))) then (if 0 ≤ ((x2 % 5) - 2) then (((gI h (gF h r0 16) ((16 * x1) + (x3 - ((x2 / 5) - 2))).toNatClampNeg) <<< (((x2 % 5) - 2) &&& 31)) &&& 65535) else ((gI h (gF h r0 16) ((16 * x1) + (x3 - ((x2 / 5) - 2))).toNatClampNeg) >>> ((-((x2 % 5) - 2)) &&& 31))) else 0) → Rr mX12_heldRow 0 0 44 [] [.int z5] h P := by
    intro z5 ez5
    have hf := hf z5 ez5
    exact R_iret dX12_heldRow_44 rfl rfl hf
  refine R_if_eq_b (tgt := 43) dX12_heldRow_17 (by decide) (fun b1 => ?_) (fun b1 => ?_)
  · refine R_iconst (v := 0) dX12_heldRow_43 (by decide) ?_
    exact R_sub [] rfl (key _ (by rw [if_neg b1]))
  · refine R_aload_n dX12_heldRow_20 rfl 1 rfl ?_
    refine G12_16 dX12_heldRow_21 lfX12_33 ob2 ?_
    refine R_bipush (v := 16) dX12_heldRow_24 (by decide) ?_
    refine R_iload_n dX12_heldRow_26 rfl 2 rfl ?_
    refine R_imul dX12_heldRow_27 ?_
    refine R_iload dX12_heldRow_28 0 rfl ?_
    refine R_iadd dX12_heldRow_30 ?_
    refine R_iaload dX12_heldRow_31 ob3 (ob4 b1) ?_
    refine R_iload_n dX12_heldRow_32 rfl 3 rfl ?_
    refine R_iconst (v := 5) dX12_heldRow_33 (by decide) ?_
    refine R_irem dX12_heldRow_34 (by decide) ?_
    refine R_iconst (v := 2) dX12_heldRow_35 (by decide) ?_
    refine R_isub dX12_heldRow_36 ?_
    refine R_callS (N := mX12_shiftedRow) (as := [.int (gI h (gF h r0 16) ((16 * x1) + (x3 - ((x2 / 5) - 2))).toNatClampNeg), .int ((x2 % 5) - 2)]) (rest := []) (kc2 := 0) (ks2 := 0) dX12_heldRow_37 lmX12_300 oX12_shiftedRow (Nat.le_of_ble_eq_true rfl) rfl rfl (Nat.le_of_ble_eq_true rfl) rfl rfl (aX12_shiftedRow  ?_)
    refine R_goto (tgt := 44) dX12_heldRow_40 (by decide) ?_
    exact R_sub [] rfl (key _ (by rw [if_pos b1]))
theorem aX12_heldRow {h : AH} {P : Option Value → AH → Prop} {r0 : Nat} {x1 : Int32} {x2 : Int32} {x3 : Int32} (o0 : isO h 12 r0) (o1 : isA h 0 (gF h r0 16)) (o2 : (¬ (x3 - ((x2 / 5) - 2)) < 0 ∧ ¬ 15 < (x3 - ((x2 / 5) - 2))) → vp_in ((16 * x1) + (x3 - ((x2 / 5) - 2))) (ln (gF h r0 16))) (k : P (some (.int (if (¬ (x3 - ((x2 / 5) - 2)) < 0 ∧ ¬ 15 < (x3 - ((x2 / 5) - 2))) then (if 0 ≤ ((x2 % 5) - 2) then (((gI h (gF h r0 16) ((16 * x1) + (x3 - ((x2 / 5) - 2))).toNatClampNeg) <<< (((x2 % 5) - 2) &&& 31)) &&& 65535) else ((gI h (gF h r0 16) ((16 * x1) + (x3 - ((x2 / 5) - 2))).toNatClampNeg) >>> ((-((x2 % 5) - 2)) &&& 31))) else 0))) h) : Call mX12_heldRow [.ref r0, .int x1, .int x2, .int x3] h P :=
  Call.ofR (by decide +kernel) (Nat.le_of_ble_eq_true rfl) (sX12_heldRow_0 h r0 x1 x2 x3 (⟨o0, ⟨o1, ⟨o2, fun z5 ez5 => by subst ez5; exact (k)⟩⟩⟩))
theorem dX12_isFit_0 : decode cX12_isFit 0 = .ok (.iconst 0, 1) := by decide +kernel
theorem dX12_isFit_1 : decode cX12_isFit 1 = .ok (.istore 5, 2) := by decide +kernel
theorem dX12_isFit_3 : decode cX12_isFit 3 = .ok (.iload 5, 2) := by decide +kernel
theorem dX12_isFit_5 : decode cX12_isFit 5 = .ok (.aload_n 0, 1) := by decide +kernel
theorem dX12_isFit_6 : decode cX12_isFit 6 = .ok (.getfield 273, 3) := by decide +kernel
theorem dX12_isFit_9 : decode cX12_isFit 9 = .ok (.if_icmp .ge 95, 3) := by decide +kernel
theorem dX12_isFit_12 : decode cX12_isFit 12 = .ok (.iload_n 1, 1) := by decide +kernel
theorem dX12_isFit_13 : decode cX12_isFit 13 = .ok (.iload_n 3, 1) := by decide +kernel
theorem dX12_isFit_14 : decode cX12_isFit 14 = .ok (.iload 4, 2) := by decide +kernel
theorem dX12_isFit_16 : decode cX12_isFit 16 = .ok (.aload_n 0, 1) := by decide +kernel
theorem dX12_isFit_17 : decode cX12_isFit 17 = .ok (.getfield 72, 3) := by decide +kernel
theorem dX12_isFit_20 : decode cX12_isFit 20 = .ok (.iload 5, 2) := by decide +kernel
theorem dX12_isFit_22 : decode cX12_isFit 22 = .ok (.iaload, 1) := by decide +kernel
theorem dX12_isFit_23 : decode cX12_isFit 23 = .ok (.aload_n 0, 1) := by decide +kernel
theorem dX12_isFit_24 : decode cX12_isFit 24 = .ok (.getfield 75, 3) := by decide +kernel
theorem dX12_isFit_27 : decode cX12_isFit 27 = .ok (.iload 5, 2) := by decide +kernel
theorem dX12_isFit_29 : decode cX12_isFit 29 = .ok (.iaload, 1) := by decide +kernel
theorem dX12_isFit_30 : decode cX12_isFit 30 = .ok (.invokestatic 266, 3) := by decide +kernel
theorem dX12_isFit_33 : decode cX12_isFit 33 = .ok (.aload_n 0, 1) := by decide +kernel
theorem dX12_isFit_34 : decode cX12_isFit 34 = .ok (.getfield 78, 3) := by decide +kernel
theorem dX12_isFit_37 : decode cX12_isFit 37 = .ok (.iload 5, 2) := by decide +kernel
theorem dX12_isFit_39 : decode cX12_isFit 39 = .ok (.iaload, 1) := by decide +kernel
theorem dX12_isFit_40 : decode cX12_isFit 40 = .ok (.isub, 1) := by decide +kernel
theorem dX12_isFit_41 : decode cX12_isFit 41 = .ok (.invokestatic 276, 3) := by decide +kernel
theorem dX12_isFit_44 : decode cX12_isFit 44 = .ok (.aload_n 0, 1) := by decide +kernel
theorem dX12_isFit_45 : decode cX12_isFit 45 = .ok (.getfield 17, 3) := by decide +kernel
theorem dX12_isFit_48 : decode cX12_isFit 48 = .ok (.iconst 3, 1) := by decide +kernel
theorem dX12_isFit_49 : decode cX12_isFit 49 = .ok (.iaload, 1) := by decide +kernel
theorem dX12_isFit_50 : decode cX12_isFit 50 = .ok (.if_icmp .le 5, 3) := by decide +kernel
theorem dX12_isFit_53 : decode cX12_isFit 53 = .ok (.iconst 0, 1) := by decide +kernel
theorem dX12_isFit_54 : decode cX12_isFit 54 = .ok (.ireturn, 1) := by decide +kernel
theorem dX12_isFit_55 : decode cX12_isFit 55 = .ok (.iload_n 2, 1) := by decide +kernel
theorem dX12_isFit_56 : decode cX12_isFit 56 = .ok (.iload_n 3, 1) := by decide +kernel
theorem dX12_isFit_57 : decode cX12_isFit 57 = .ok (.iload 4, 2) := by decide +kernel
theorem dX12_isFit_59 : decode cX12_isFit 59 = .ok (.aload_n 0, 1) := by decide +kernel
theorem dX12_isFit_60 : decode cX12_isFit 60 = .ok (.getfield 72, 3) := by decide +kernel
theorem dX12_isFit_63 : decode cX12_isFit 63 = .ok (.iload 5, 2) := by decide +kernel
theorem dX12_isFit_65 : decode cX12_isFit 65 = .ok (.iaload, 1) := by decide +kernel
theorem dX12_isFit_66 : decode cX12_isFit 66 = .ok (.aload_n 0, 1) := by decide +kernel
theorem dX12_isFit_67 : decode cX12_isFit 67 = .ok (.getfield 75, 3) := by decide +kernel
theorem dX12_isFit_70 : decode cX12_isFit 70 = .ok (.iload 5, 2) := by decide +kernel
theorem dX12_isFit_72 : decode cX12_isFit 72 = .ok (.iaload, 1) := by decide +kernel
theorem dX12_isFit_73 : decode cX12_isFit 73 = .ok (.invokestatic 270, 3) := by decide +kernel
theorem dX12_isFit_76 : decode cX12_isFit 76 = .ok (.aload_n 0, 1) := by decide +kernel
theorem dX12_isFit_77 : decode cX12_isFit 77 = .ok (.getfield 81, 3) := by decide +kernel
theorem dX12_isFit_80 : decode cX12_isFit 80 = .ok (.iload 5, 2) := by decide +kernel
theorem dX12_isFit_82 : decode cX12_isFit 82 = .ok (.iaload, 1) := by decide +kernel
theorem dX12_isFit_83 : decode cX12_isFit 83 = .ok (.isub, 1) := by decide +kernel
theorem dX12_isFit_84 : decode cX12_isFit 84 = .ok (.invokestatic 276, 3) := by decide +kernel
theorem dX12_isFit_87 : decode cX12_isFit 87 = .ok (.aload_n 0, 1) := by decide +kernel
theorem dX12_isFit_88 : decode cX12_isFit 88 = .ok (.getfield 17, 3) := by decide +kernel
theorem dX12_isFit_91 : decode cX12_isFit 91 = .ok (.iconst 3, 1) := by decide +kernel
theorem dX12_isFit_92 : decode cX12_isFit 92 = .ok (.iaload, 1) := by decide +kernel
theorem dX12_isFit_93 : decode cX12_isFit 93 = .ok (.if_icmp .le 5, 3) := by decide +kernel
theorem dX12_isFit_96 : decode cX12_isFit 96 = .ok (.iconst 0, 1) := by decide +kernel
theorem dX12_isFit_97 : decode cX12_isFit 97 = .ok (.ireturn, 1) := by decide +kernel
theorem dX12_isFit_98 : decode cX12_isFit 98 = .ok (.iinc 5 1, 3) := by decide +kernel
theorem dX12_isFit_101 : decode cX12_isFit 101 = .ok (.goto (-98), 3) := by decide +kernel
theorem dX12_isFit_104 : decode cX12_isFit 104 = .ok (.iconst 1, 1) := by decide +kernel
theorem dX12_isFit_105 : decode cX12_isFit 105 = .ok (.ireturn, 1) := by decide +kernel
set_option maxRecDepth 20000 in
theorem sX12_isFit_0 {P : Option Value → AH → Prop} (h : AH) (r0 : Nat) (x1 : Int32) (x2 : Int32) (x3 : Int32) (x4 : Int32) (hf : Rr mX12_isFit 0 0 3 [(0, .ref r0), (1, .int x1), (2, .int x2), (3, .int x3), (4, .int x4), (5, .int 0)] [] h P) : Rr mX12_isFit 0 0 0 [(0, .ref r0), (1, .int x1), (2, .int x2), (3, .int x3), (4, .int x4)] [] h P := by
  refine R_iconst (v := 0) dX12_isFit_0 (by decide) ?_
  refine R_istore dX12_isFit_1 (by decide) rfl ?_
  exact R_sub [1, 2, 3, 4, 5, 0] rfl hf
set_option maxRecDepth 20000 in
theorem sX12_isFit_3 {P : Option Value → AH → Prop} (h : AH) (r0 : Nat) (x1 : Int32) (x2 : Int32) (x3 : Int32) (x4 : Int32) (x5 : Int32) (hf : (isO h 12 r0) ∧ (((gI h r0 35) ≤ x5 → P (some (.int 1)) h) ∧ (¬ (gI h r0 35) ≤ x5 → (isA h 0 (gF h r0 36)) ∧ ((vp_in x5 (ln (gF h r0 36))) ∧ ((isA h 0 (gF h r0 37)) ∧ ((vp_in x5 (ln (gF h r0 37))) ∧ ((isA h 0 (gF h r0 38)) ∧ ((vp_in x5 (ln (gF h r0 38))) ∧ ((isA h 0 (gF h r0 11)) ∧ ((vp_in 3 (ln (gF h r0 11))) ∧ (((if 0 ≤ ((x1 + (((x4 * (gI h (gF h r0 36) x5.toNatClampNeg)) - (x3 * (gI h (gF h r0 37) x5.toNatClampNeg))) / 100)) - (gI h (gF h r0 38) x5.toNatClampNeg)) then ((x1 + (((x4 * (gI h (gF h r0 36) x5.toNatClampNeg)) - (x3 * (gI h (gF h r0 37) x5.toNatClampNeg))) / 100)) - (gI h (gF h r0 38) x5.toNatClampNeg)) else (-((x1 + (((x4 * (gI h (gF h r0 36) x5.toNatClampNeg)) - (x3 * (gI h (gF h r0 37) x5.toNatClampNeg))) / 100)) - (gI h (gF h r0 38) x5.toNatClampNeg)))) ≤ (gI h (gF h r0 11) (Int32.toNatClampNeg 3)) → (isA h 0 (gF h r0 39)) ∧ ((vp_in x5 (ln (gF h r0 39))) ∧ (((if 0 ≤ ((x2 + (((x3 * (gI h (gF h r0 36) x5.toNatClampNeg)) + (x4 * (gI h (gF h r0 37) x5.toNatClampNeg))) / 100)) - (gI h (gF h r0 39) x5.toNatClampNeg)) then ((x2 + (((x3 * (gI h (gF h r0 36) x5.toNatClampNeg)) + (x4 * (gI h (gF h r0 37) x5.toNatClampNeg))) / 100)) - (gI h (gF h r0 39) x5.toNatClampNeg)) else (-((x2 + (((x3 * (gI h (gF h r0 36) x5.toNatClampNeg)) + (x4 * (gI h (gF h r0 37) x5.toNatClampNeg))) / 100)) - (gI h (gF h r0 39) x5.toNatClampNeg)))) ≤ (gI h (gF h r0 11) (Int32.toNatClampNeg 3)) → Rr mX12_isFit 0 0 3 [(0, .ref r0), (1, .int x1), (2, .int x2), (3, .int x3), (4, .int x4), (5, .int (x5 + 1))] [] h P) ∧ (¬ (if 0 ≤ ((x2 + (((x3 * (gI h (gF h r0 36) x5.toNatClampNeg)) + (x4 * (gI h (gF h r0 37) x5.toNatClampNeg))) / 100)) - (gI h (gF h r0 39) x5.toNatClampNeg)) then ((x2 + (((x3 * (gI h (gF h r0 36) x5.toNatClampNeg)) + (x4 * (gI h (gF h r0 37) x5.toNatClampNeg))) / 100)) - (gI h (gF h r0 39) x5.toNatClampNeg)) else (-((x2 + (((x3 * (gI h (gF h r0 36) x5.toNatClampNeg)) + (x4 * (gI h (gF h r0 37) x5.toNatClampNeg))) / 100)) - (gI h (gF h r0 39) x5.toNatClampNeg)))) ≤ (gI h (gF h r0 11) (Int32.toNatClampNeg 3)) → P (some (.int 0)) h)))) ∧ (¬ (if 0 ≤ ((x1 + (((x4 * (gI h (gF h r0 36) x5.toNatClampNeg)) - (x3 * (gI h (gF h r0 37) x5.toNatClampNeg))) / 100)) - (gI h (gF h r0 38) x5.toNatClampNeg)) then ((x1 + (((x4 * (gI h (gF h r0 36) x5.toNatClampNeg)) - (x3 * (gI h (gF h r0 37) x5.toNatClampNeg))) / 100)) - (gI h (gF h r0 38) x5.toNatClampNeg)) else (-((x1 + (((x4 * (gI h (gF h r0 36) x5.toNatClampNeg)) - (x3 * (gI h (gF h r0 37) x5.toNatClampNeg))) / 100)) - (gI h (gF h r0 38) x5.toNatClampNeg)))) ≤ (gI h (gF h r0 11) (Int32.toNatClampNeg 3)) → P (some (.int 0)) h)))))))))))) : Rr mX12_isFit 0 0 3 [(0, .ref r0), (1, .int x1), (2, .int x2), (3, .int x3), (4, .int x4), (5, .int x5)] [] h P := by
  refine R_iload dX12_isFit_3 5 rfl ?_
  refine R_aload_n dX12_isFit_5 rfl 0 rfl ?_
  obtain ⟨ob1, hf⟩ := hf
  refine G12_35 dX12_isFit_6 lfX12_273 ob1 ?_
  refine R_icmp_ge (tgt := 104) dX12_isFit_9 (by decide) (fun b2 => ?_) (fun b2 => ?_)
  · have hf := hf.1 b2
    refine R_iconst (v := 1) dX12_isFit_104 (by decide) ?_
    exact R_iret dX12_isFit_105 rfl rfl hf
  · have hf := hf.2 b2
    refine R_iload_n dX12_isFit_12 rfl 1 rfl ?_
    refine R_iload_n dX12_isFit_13 rfl 3 rfl ?_
    refine R_iload dX12_isFit_14 4 rfl ?_
    refine R_aload_n dX12_isFit_16 rfl 0 rfl ?_
    refine G12_36 dX12_isFit_17 lfX12_72 ob1 ?_
    refine R_iload dX12_isFit_20 5 rfl ?_
    obtain ⟨ob3, hf⟩ := hf
    obtain ⟨ob4, hf⟩ := hf
    refine R_iaload dX12_isFit_22 ob3 ob4 ?_
    refine R_aload_n dX12_isFit_23 rfl 0 rfl ?_
    refine G12_37 dX12_isFit_24 lfX12_75 ob1 ?_
    refine R_iload dX12_isFit_27 5 rfl ?_
    obtain ⟨ob5, hf⟩ := hf
    obtain ⟨ob6, hf⟩ := hf
    refine R_iaload dX12_isFit_29 ob5 ob6 ?_
    refine R_callS (N := mX12_acrossAt) (as := [.int x1, .int x3, .int x4, .int (gI h (gF h r0 36) x5.toNatClampNeg), .int (gI h (gF h r0 37) x5.toNatClampNeg)]) (rest := []) (kc2 := 0) (ks2 := 0) dX12_isFit_30 lmX12_266 oX12_acrossAt (Nat.le_of_ble_eq_true rfl) rfl rfl (Nat.le_of_ble_eq_true rfl) rfl rfl (aX12_acrossAt  ?_)
    refine R_aload_n dX12_isFit_33 rfl 0 rfl ?_
    refine G12_38 dX12_isFit_34 lfX12_78 ob1 ?_
    refine R_iload dX12_isFit_37 5 rfl ?_
    obtain ⟨ob7, hf⟩ := hf
    obtain ⟨ob8, hf⟩ := hf
    refine R_iaload dX12_isFit_39 ob7 ob8 ?_
    refine R_isub dX12_isFit_40 ?_
    refine R_callS (N := mX12_plain) (as := [.int ((x1 + (((x4 * (gI h (gF h r0 36) x5.toNatClampNeg)) - (x3 * (gI h (gF h r0 37) x5.toNatClampNeg))) / 100)) - (gI h (gF h r0 38) x5.toNatClampNeg))]) (rest := []) (kc2 := 0) (ks2 := 0) dX12_isFit_41 lmX12_276 oX12_plain (Nat.le_of_ble_eq_true rfl) rfl rfl (Nat.le_of_ble_eq_true rfl) rfl rfl (aX12_plain  ?_)
    refine R_aload_n dX12_isFit_44 rfl 0 rfl ?_
    refine G12_11 dX12_isFit_45 lfX12_17 ob1 ?_
    refine R_iconst (v := 3) dX12_isFit_48 (by decide) ?_
    obtain ⟨ob9, hf⟩ := hf
    obtain ⟨ob10, hf⟩ := hf
    refine R_iaload dX12_isFit_49 ob9 ob10 ?_
    refine R_icmp_le (tgt := 55) dX12_isFit_50 (by decide) (fun b11 => ?_) (fun b11 => ?_)
    · have hf := hf.1 b11
      refine R_iload_n dX12_isFit_55 rfl 2 rfl ?_
      refine R_iload_n dX12_isFit_56 rfl 3 rfl ?_
      refine R_iload dX12_isFit_57 4 rfl ?_
      refine R_aload_n dX12_isFit_59 rfl 0 rfl ?_
      refine G12_36 dX12_isFit_60 lfX12_72 ob1 ?_
      refine R_iload dX12_isFit_63 5 rfl ?_
      refine R_iaload dX12_isFit_65 ob3 ob4 ?_
      refine R_aload_n dX12_isFit_66 rfl 0 rfl ?_
      refine G12_37 dX12_isFit_67 lfX12_75 ob1 ?_
      refine R_iload dX12_isFit_70 5 rfl ?_
      refine R_iaload dX12_isFit_72 ob5 ob6 ?_
      refine R_callS (N := mX12_upAt) (as := [.int x2, .int x3, .int x4, .int (gI h (gF h r0 36) x5.toNatClampNeg), .int (gI h (gF h r0 37) x5.toNatClampNeg)]) (rest := []) (kc2 := 0) (ks2 := 0) dX12_isFit_73 lmX12_270 oX12_upAt (Nat.le_of_ble_eq_true rfl) rfl rfl (Nat.le_of_ble_eq_true rfl) rfl rfl (aX12_upAt  ?_)
      refine R_aload_n dX12_isFit_76 rfl 0 rfl ?_
      refine G12_39 dX12_isFit_77 lfX12_81 ob1 ?_
      refine R_iload dX12_isFit_80 5 rfl ?_
      obtain ⟨ob12, hf⟩ := hf
      obtain ⟨ob13, hf⟩ := hf
      refine R_iaload dX12_isFit_82 ob12 ob13 ?_
      refine R_isub dX12_isFit_83 ?_
      refine R_callS (N := mX12_plain) (as := [.int ((x2 + (((x3 * (gI h (gF h r0 36) x5.toNatClampNeg)) + (x4 * (gI h (gF h r0 37) x5.toNatClampNeg))) / 100)) - (gI h (gF h r0 39) x5.toNatClampNeg))]) (rest := []) (kc2 := 0) (ks2 := 0) dX12_isFit_84 lmX12_276 oX12_plain (Nat.le_of_ble_eq_true rfl) rfl rfl (Nat.le_of_ble_eq_true rfl) rfl rfl (aX12_plain  ?_)
      refine R_aload_n dX12_isFit_87 rfl 0 rfl ?_
      refine G12_11 dX12_isFit_88 lfX12_17 ob1 ?_
      refine R_iconst (v := 3) dX12_isFit_91 (by decide) ?_
      refine R_iaload dX12_isFit_92 ob9 ob10 ?_
      refine R_icmp_le (tgt := 98) dX12_isFit_93 (by decide) (fun b14 => ?_) (fun b14 => ?_)
      · have hf := hf.1 b14
        refine R_iinc (v := x5 + 1) dX12_isFit_98 5 rfl rfl (by decide) rfl ?_
        refine R_goto (tgt := 3) dX12_isFit_101 (by decide) ?_
        exact R_sub [1, 2, 3, 4, 5, 0] rfl hf
      · have hf := hf.2 b14
        refine R_iconst (v := 0) dX12_isFit_96 (by decide) ?_
        exact R_iret dX12_isFit_97 rfl rfl hf
    · have hf := hf.2 b11
      refine R_iconst (v := 0) dX12_isFit_53 (by decide) ?_
      exact R_iret dX12_isFit_54 rfl rfl hf
theorem dX12_isHalting_0 : decode cX12_isHalting 0 = .ok (.iload_n 0, 1) := by decide +kernel
theorem dX12_isHalting_1 : decode cX12_isHalting 1 = .ok (.iconst 1, 1) := by decide +kernel
theorem dX12_isHalting_2 : decode cX12_isHalting 2 = .ok (.bipush 8, 2) := by decide +kernel
theorem dX12_isHalting_4 : decode cX12_isHalting 4 = .ok (.invokestatic 178, 3) := by decide +kernel
theorem dX12_isHalting_7 : decode cX12_isHalting 7 = .ok (.ifCond .eq 71, 3) := by decide +kernel
theorem dX12_isHalting_10 : decode cX12_isHalting 10 = .ok (.iload_n 1, 1) := by decide +kernel
theorem dX12_isHalting_11 : decode cX12_isHalting 11 = .ok (.iconst 0, 1) := by decide +kernel
theorem dX12_isHalting_12 : decode cX12_isHalting 12 = .ok (.bipush 6, 2) := by decide +kernel
theorem dX12_isHalting_14 : decode cX12_isHalting 14 = .ok (.invokestatic 178, 3) := by decide +kernel
theorem dX12_isHalting_17 : decode cX12_isHalting 17 = .ok (.ifCond .eq 61, 3) := by decide +kernel
theorem dX12_isHalting_20 : decode cX12_isHalting 20 = .ok (.iload_n 2, 1) := by decide +kernel
theorem dX12_isHalting_21 : decode cX12_isHalting 21 = .ok (.iconst 0, 1) := by decide +kernel
theorem dX12_isHalting_22 : decode cX12_isHalting 22 = .ok (.sipush 999, 3) := by decide +kernel
theorem dX12_isHalting_25 : decode cX12_isHalting 25 = .ok (.invokestatic 178, 3) := by decide +kernel
theorem dX12_isHalting_28 : decode cX12_isHalting 28 = .ok (.ifCond .eq 50, 3) := by decide +kernel
theorem dX12_isHalting_31 : decode cX12_isHalting 31 = .ok (.iload_n 3, 1) := by decide +kernel
theorem dX12_isHalting_32 : decode cX12_isHalting 32 = .ok (.iconst 0, 1) := by decide +kernel
theorem dX12_isHalting_33 : decode cX12_isHalting 33 = .ok (.sipush 999, 3) := by decide +kernel
theorem dX12_isHalting_36 : decode cX12_isHalting 36 = .ok (.invokestatic 178, 3) := by decide +kernel
theorem dX12_isHalting_39 : decode cX12_isHalting 39 = .ok (.ifCond .eq 39, 3) := by decide +kernel
theorem dX12_isHalting_42 : decode cX12_isHalting 42 = .ok (.iload 4, 2) := by decide +kernel
theorem dX12_isHalting_44 : decode cX12_isHalting 44 = .ok (.iconst 0, 1) := by decide +kernel
theorem dX12_isHalting_45 : decode cX12_isHalting 45 = .ok (.bipush 10, 2) := by decide +kernel
theorem dX12_isHalting_47 : decode cX12_isHalting 47 = .ok (.invokestatic 178, 3) := by decide +kernel
theorem dX12_isHalting_50 : decode cX12_isHalting 50 = .ok (.ifCond .eq 28, 3) := by decide +kernel
theorem dX12_isHalting_53 : decode cX12_isHalting 53 = .ok (.iload 5, 2) := by decide +kernel
theorem dX12_isHalting_55 : decode cX12_isHalting 55 = .ok (.iconst 0, 1) := by decide +kernel
theorem dX12_isHalting_56 : decode cX12_isHalting 56 = .ok (.bipush 10, 2) := by decide +kernel
theorem dX12_isHalting_58 : decode cX12_isHalting 58 = .ok (.invokestatic 178, 3) := by decide +kernel
theorem dX12_isHalting_61 : decode cX12_isHalting 61 = .ok (.ifCond .eq 17, 3) := by decide +kernel
theorem dX12_isHalting_64 : decode cX12_isHalting 64 = .ok (.iload 4, 2) := by decide +kernel
theorem dX12_isHalting_66 : decode cX12_isHalting 66 = .ok (.iload 5, 2) := by decide +kernel
theorem dX12_isHalting_68 : decode cX12_isHalting 68 = .ok (.iadd, 1) := by decide +kernel
theorem dX12_isHalting_69 : decode cX12_isHalting 69 = .ok (.bipush 10, 2) := by decide +kernel
theorem dX12_isHalting_71 : decode cX12_isHalting 71 = .ok (.if_icmp .gt 7, 3) := by decide +kernel
theorem dX12_isHalting_74 : decode cX12_isHalting 74 = .ok (.iconst 1, 1) := by decide +kernel
theorem dX12_isHalting_75 : decode cX12_isHalting 75 = .ok (.goto 4, 3) := by decide +kernel
theorem dX12_isHalting_78 : decode cX12_isHalting 78 = .ok (.iconst 0, 1) := by decide +kernel
theorem dX12_isHalting_79 : decode cX12_isHalting 79 = .ok (.ireturn, 1) := by decide +kernel
set_option maxRecDepth 20000 in
theorem sX12_isHalting_0 {P : Option Value → AH → Prop} (h : AH) (x0 : Int32) (x1 : Int32) (x2 : Int32) (x3 : Int32) (x4 : Int32) (x5 : Int32) (hf : P (some (.int (bi ((¬ x0 < 1 ∧ ¬ 8 < x0) ∧ (¬ x1 < 0 ∧ ¬ 6 < x1) ∧ (¬ x2 < 0 ∧ ¬ 999 < x2) ∧ (¬ x3 < 0 ∧ ¬ 999 < x3) ∧ (¬ x4 < 0 ∧ ¬ 10 < x4) ∧ (¬ x5 < 0 ∧ ¬ 10 < x5) ∧ ¬ 10 < (x4 + x5))))) h) : Rr mX12_isHalting 0 0 0 [(0, .int x0), (1, .int x1), (2, .int x2), (3, .int x3), (4, .int x4), (5, .int x5)] [] h P := by
  refine R_iload_n dX12_isHalting_0 rfl 0 rfl ?_
  refine R_iconst (v := 1) dX12_isHalting_1 (by decide) ?_
  refine R_bipush (v := 8) dX12_isHalting_2 (by decide) ?_
  refine R_callS (N := mX12_in) (as := [.int x0, .int 1, .int 8]) (rest := []) (kc2 := 0) (ks2 := 0) dX12_isHalting_4 lmX12_178 oX12_in (Nat.le_of_ble_eq_true rfl) rfl rfl (Nat.le_of_ble_eq_true rfl) rfl rfl (aX12_in  ?_)
  have key :  Rr mX12_isHalting 0 0 79 [] [.int (bi ((¬ x0 < 1 ∧ ¬ 8 < x0) ∧ (¬ x1 < 0 ∧ ¬ 6 < x1) ∧ (¬ x2 < 0 ∧ ¬ 999 < x2) ∧ (¬ x3 < 0 ∧ ¬ 999 < x3) ∧ (¬ x4 < 0 ∧ ¬ 10 < x4) ∧ (¬ x5 < 0 ∧ ¬ 10 < x5) ∧ ¬ 10 < (x4 + x5)))] h P := by
    exact R_iret dX12_isHalting_79 rfl (nb_n (bi_01 _)) hf
  refine R_if_eq_b (tgt := 78) dX12_isHalting_7 (by decide) (fun b1 => ?_) (fun b1 => ?_)
  · refine R_iconst (v := 0) dX12_isHalting_78 (by decide) ?_
    have kb := key
    rw [show bi ((¬ x0 < 1 ∧ ¬ 8 < x0) ∧ (¬ x1 < 0 ∧ ¬ 6 < x1) ∧ (¬ x2 < 0 ∧ ¬ 999 < x2) ∧ (¬ x3 < 0 ∧ ¬ 999 < x3) ∧ (¬ x4 < 0 ∧ ¬ 10 < x4) ∧ (¬ x5 < 0 ∧ ¬ 10 < x5) ∧ ¬ 10 < (x4 + x5)) = 0 from by simp only [bi, b1, false_and, and_false, true_and, and_true, not_true_eq_false, not_false_eq_true, if_true, if_false, true_or, or_true, false_or, or_false, reduceIte]] at kb
    exact R_sub [] rfl kb
  · refine R_iload_n dX12_isHalting_10 rfl 1 rfl ?_
    refine R_iconst (v := 0) dX12_isHalting_11 (by decide) ?_
    refine R_bipush (v := 6) dX12_isHalting_12 (by decide) ?_
    refine R_callS (N := mX12_in) (as := [.int x1, .int 0, .int 6]) (rest := []) (kc2 := 0) (ks2 := 0) dX12_isHalting_14 lmX12_178 oX12_in (Nat.le_of_ble_eq_true rfl) rfl rfl (Nat.le_of_ble_eq_true rfl) rfl rfl (aX12_in  ?_)
    refine R_if_eq_b (tgt := 78) dX12_isHalting_17 (by decide) (fun b2 => ?_) (fun b2 => ?_)
    · refine R_iconst (v := 0) dX12_isHalting_78 (by decide) ?_
      have kb := key
      rw [show bi ((¬ x0 < 1 ∧ ¬ 8 < x0) ∧ (¬ x1 < 0 ∧ ¬ 6 < x1) ∧ (¬ x2 < 0 ∧ ¬ 999 < x2) ∧ (¬ x3 < 0 ∧ ¬ 999 < x3) ∧ (¬ x4 < 0 ∧ ¬ 10 < x4) ∧ (¬ x5 < 0 ∧ ¬ 10 < x5) ∧ ¬ 10 < (x4 + x5)) = 0 from by simp only [bi, b1, b2, false_and, and_false, true_and, and_true, not_true_eq_false, not_false_eq_true, if_true, if_false, true_or, or_true, false_or, or_false, reduceIte]] at kb
      exact R_sub [] rfl kb
    · refine R_iload_n dX12_isHalting_20 rfl 2 rfl ?_
      refine R_iconst (v := 0) dX12_isHalting_21 (by decide) ?_
      refine R_sipush (v := 999) dX12_isHalting_22 (by decide) ?_
      refine R_callS (N := mX12_in) (as := [.int x2, .int 0, .int 999]) (rest := []) (kc2 := 0) (ks2 := 0) dX12_isHalting_25 lmX12_178 oX12_in (Nat.le_of_ble_eq_true rfl) rfl rfl (Nat.le_of_ble_eq_true rfl) rfl rfl (aX12_in  ?_)
      refine R_if_eq_b (tgt := 78) dX12_isHalting_28 (by decide) (fun b3 => ?_) (fun b3 => ?_)
      · refine R_iconst (v := 0) dX12_isHalting_78 (by decide) ?_
        have kb := key
        rw [show bi ((¬ x0 < 1 ∧ ¬ 8 < x0) ∧ (¬ x1 < 0 ∧ ¬ 6 < x1) ∧ (¬ x2 < 0 ∧ ¬ 999 < x2) ∧ (¬ x3 < 0 ∧ ¬ 999 < x3) ∧ (¬ x4 < 0 ∧ ¬ 10 < x4) ∧ (¬ x5 < 0 ∧ ¬ 10 < x5) ∧ ¬ 10 < (x4 + x5)) = 0 from by simp only [bi, b1, b2, b3, false_and, and_false, true_and, and_true, not_true_eq_false, not_false_eq_true, if_true, if_false, true_or, or_true, false_or, or_false, reduceIte]] at kb
        exact R_sub [] rfl kb
      · refine R_iload_n dX12_isHalting_31 rfl 3 rfl ?_
        refine R_iconst (v := 0) dX12_isHalting_32 (by decide) ?_
        refine R_sipush (v := 999) dX12_isHalting_33 (by decide) ?_
        refine R_callS (N := mX12_in) (as := [.int x3, .int 0, .int 999]) (rest := []) (kc2 := 0) (ks2 := 0) dX12_isHalting_36 lmX12_178 oX12_in (Nat.le_of_ble_eq_true rfl) rfl rfl (Nat.le_of_ble_eq_true rfl) rfl rfl (aX12_in  ?_)
        refine R_if_eq_b (tgt := 78) dX12_isHalting_39 (by decide) (fun b4 => ?_) (fun b4 => ?_)
        · refine R_iconst (v := 0) dX12_isHalting_78 (by decide) ?_
          have kb := key
          rw [show bi ((¬ x0 < 1 ∧ ¬ 8 < x0) ∧ (¬ x1 < 0 ∧ ¬ 6 < x1) ∧ (¬ x2 < 0 ∧ ¬ 999 < x2) ∧ (¬ x3 < 0 ∧ ¬ 999 < x3) ∧ (¬ x4 < 0 ∧ ¬ 10 < x4) ∧ (¬ x5 < 0 ∧ ¬ 10 < x5) ∧ ¬ 10 < (x4 + x5)) = 0 from by simp only [bi, b1, b2, b3, b4, false_and, and_false, true_and, and_true, not_true_eq_false, not_false_eq_true, if_true, if_false, true_or, or_true, false_or, or_false, reduceIte]] at kb
          exact R_sub [] rfl kb
        · refine R_iload dX12_isHalting_42 4 rfl ?_
          refine R_iconst (v := 0) dX12_isHalting_44 (by decide) ?_
          refine R_bipush (v := 10) dX12_isHalting_45 (by decide) ?_
          refine R_callS (N := mX12_in) (as := [.int x4, .int 0, .int 10]) (rest := []) (kc2 := 0) (ks2 := 0) dX12_isHalting_47 lmX12_178 oX12_in (Nat.le_of_ble_eq_true rfl) rfl rfl (Nat.le_of_ble_eq_true rfl) rfl rfl (aX12_in  ?_)
          refine R_if_eq_b (tgt := 78) dX12_isHalting_50 (by decide) (fun b5 => ?_) (fun b5 => ?_)
          · refine R_iconst (v := 0) dX12_isHalting_78 (by decide) ?_
            have kb := key
            rw [show bi ((¬ x0 < 1 ∧ ¬ 8 < x0) ∧ (¬ x1 < 0 ∧ ¬ 6 < x1) ∧ (¬ x2 < 0 ∧ ¬ 999 < x2) ∧ (¬ x3 < 0 ∧ ¬ 999 < x3) ∧ (¬ x4 < 0 ∧ ¬ 10 < x4) ∧ (¬ x5 < 0 ∧ ¬ 10 < x5) ∧ ¬ 10 < (x4 + x5)) = 0 from by simp only [bi, b1, b2, b3, b4, b5, false_and, and_false, true_and, and_true, not_true_eq_false, not_false_eq_true, if_true, if_false, true_or, or_true, false_or, or_false, reduceIte]] at kb
            exact R_sub [] rfl kb
          · refine R_iload dX12_isHalting_53 5 rfl ?_
            refine R_iconst (v := 0) dX12_isHalting_55 (by decide) ?_
            refine R_bipush (v := 10) dX12_isHalting_56 (by decide) ?_
            refine R_callS (N := mX12_in) (as := [.int x5, .int 0, .int 10]) (rest := []) (kc2 := 0) (ks2 := 0) dX12_isHalting_58 lmX12_178 oX12_in (Nat.le_of_ble_eq_true rfl) rfl rfl (Nat.le_of_ble_eq_true rfl) rfl rfl (aX12_in  ?_)
            refine R_if_eq_b (tgt := 78) dX12_isHalting_61 (by decide) (fun b6 => ?_) (fun b6 => ?_)
            · refine R_iconst (v := 0) dX12_isHalting_78 (by decide) ?_
              have kb := key
              rw [show bi ((¬ x0 < 1 ∧ ¬ 8 < x0) ∧ (¬ x1 < 0 ∧ ¬ 6 < x1) ∧ (¬ x2 < 0 ∧ ¬ 999 < x2) ∧ (¬ x3 < 0 ∧ ¬ 999 < x3) ∧ (¬ x4 < 0 ∧ ¬ 10 < x4) ∧ (¬ x5 < 0 ∧ ¬ 10 < x5) ∧ ¬ 10 < (x4 + x5)) = 0 from by simp only [bi, b1, b2, b3, b4, b5, b6, false_and, and_false, true_and, and_true, not_true_eq_false, not_false_eq_true, if_true, if_false, true_or, or_true, false_or, or_false, reduceIte]] at kb
              exact R_sub [] rfl kb
            · refine R_iload dX12_isHalting_64 4 rfl ?_
              refine R_iload dX12_isHalting_66 5 rfl ?_
              refine R_iadd dX12_isHalting_68 ?_
              refine R_bipush (v := 10) dX12_isHalting_69 (by decide) ?_
              refine R_icmp_gt (tgt := 78) dX12_isHalting_71 (by decide) (fun b7 => ?_) (fun b7 => ?_)
              · refine R_iconst (v := 0) dX12_isHalting_78 (by decide) ?_
                have kb := key
                rw [show bi ((¬ x0 < 1 ∧ ¬ 8 < x0) ∧ (¬ x1 < 0 ∧ ¬ 6 < x1) ∧ (¬ x2 < 0 ∧ ¬ 999 < x2) ∧ (¬ x3 < 0 ∧ ¬ 999 < x3) ∧ (¬ x4 < 0 ∧ ¬ 10 < x4) ∧ (¬ x5 < 0 ∧ ¬ 10 < x5) ∧ ¬ 10 < (x4 + x5)) = 0 from by simp only [bi, b1, b2, b3, b4, b5, b6, b7, false_and, and_false, true_and, and_true, not_true_eq_false, not_false_eq_true, if_true, if_false, true_or, or_true, false_or, or_false, reduceIte]] at kb
                exact R_sub [] rfl kb
              · refine R_iconst (v := 1) dX12_isHalting_74 (by decide) ?_
                refine R_goto (tgt := 79) dX12_isHalting_75 (by decide) ?_
                have kb := key
                rw [show bi ((¬ x0 < 1 ∧ ¬ 8 < x0) ∧ (¬ x1 < 0 ∧ ¬ 6 < x1) ∧ (¬ x2 < 0 ∧ ¬ 999 < x2) ∧ (¬ x3 < 0 ∧ ¬ 999 < x3) ∧ (¬ x4 < 0 ∧ ¬ 10 < x4) ∧ (¬ x5 < 0 ∧ ¬ 10 < x5) ∧ ¬ 10 < (x4 + x5)) = 1 from by simp only [bi, b1, b2, b3, b4, b5, b6, b7, false_and, and_false, true_and, and_true, not_true_eq_false, not_false_eq_true, if_true, if_false, true_or, or_true, false_or, or_false, reduceIte]] at kb
                exact R_sub [] rfl kb
theorem aX12_isHalting {h : AH} {P : Option Value → AH → Prop} {x0 : Int32} {x1 : Int32} {x2 : Int32} {x3 : Int32} {x4 : Int32} {x5 : Int32}  (k : P (some (.int (bi ((¬ x0 < 1 ∧ ¬ 8 < x0) ∧ (¬ x1 < 0 ∧ ¬ 6 < x1) ∧ (¬ x2 < 0 ∧ ¬ 999 < x2) ∧ (¬ x3 < 0 ∧ ¬ 999 < x3) ∧ (¬ x4 < 0 ∧ ¬ 10 < x4) ∧ (¬ x5 < 0 ∧ ¬ 10 < x5) ∧ ¬ 10 < (x4 + x5))))) h) : Call mX12_isHalting [.int x0, .int x1, .int x2, .int x3, .int x4, .int x5] h P :=
  Call.ofR (by decide +kernel) (Nat.le_of_ble_eq_true rfl) (sX12_isHalting_0 h x0 x1 x2 x3 x4 x5 (k))
theorem dX12_isInk_0 : decode cX12_isInk 0 = .ok (.aload_n 0, 1) := by decide +kernel
theorem dX12_isInk_1 : decode cX12_isInk 1 = .ok (.getfield 152, 3) := by decide +kernel
theorem dX12_isInk_4 : decode cX12_isInk 4 = .ok (.iconst 1, 1) := by decide +kernel
theorem dX12_isInk_5 : decode cX12_isInk 5 = .ok (.if_icmp .ne 19, 3) := by decide +kernel
theorem dX12_isInk_8 : decode cX12_isInk 8 = .ok (.aload_n 0, 1) := by decide +kernel
theorem dX12_isInk_9 : decode cX12_isInk 9 = .ok (.getfield 149, 3) := by decide +kernel
theorem dX12_isInk_12 : decode cX12_isInk 12 = .ok (.iconst 0, 1) := by decide +kernel
theorem dX12_isInk_13 : decode cX12_isInk 13 = .ok (.iconst 3, 1) := by decide +kernel
theorem dX12_isInk_14 : decode cX12_isInk 14 = .ok (.invokestatic 178, 3) := by decide +kernel
theorem dX12_isInk_17 : decode cX12_isInk 17 = .ok (.ifCond .eq 7, 3) := by decide +kernel
theorem dX12_isInk_20 : decode cX12_isInk 20 = .ok (.iconst 1, 1) := by decide +kernel
theorem dX12_isInk_21 : decode cX12_isInk 21 = .ok (.goto 4, 3) := by decide +kernel
theorem dX12_isInk_24 : decode cX12_isInk 24 = .ok (.iconst 0, 1) := by decide +kernel
theorem dX12_isInk_25 : decode cX12_isInk 25 = .ok (.ireturn, 1) := by decide +kernel
set_option maxRecDepth 20000 in
theorem sX12_isInk_0 {P : Option Value → AH → Prop} (h : AH) (r0 : Nat) (hf : (isO h 12 r0) ∧ (P (some (.int (bi ((gI h r0 3) = 1 ∧ (¬ (gI h r0 4) < 0 ∧ ¬ 3 < (gI h r0 4)))))) h)) : Rr mX12_isInk 0 0 0 [(0, .ref r0)] [] h P := by
  refine R_aload_n dX12_isInk_0 rfl 0 rfl ?_
  obtain ⟨ob1, hf⟩ := hf
  refine G12_3 dX12_isInk_1 lfX12_152 ob1 ?_
  refine R_iconst (v := 1) dX12_isInk_4 (by decide) ?_
  have key :  Rr mX12_isInk 0 0 25 [] [.int (bi ((gI h r0 3) = 1 ∧ (¬ (gI h r0 4) < 0 ∧ ¬ 3 < (gI h r0 4))))] h P := by
    exact R_iret dX12_isInk_25 rfl (nb_n (bi_01 _)) hf
  refine R_icmp_ne (tgt := 24) dX12_isInk_5 (by decide) (fun b2 => ?_) (fun b2 => ?_)
  · refine R_iconst (v := 0) dX12_isInk_24 (by decide) ?_
    have kb := key
    rw [show bi ((gI h r0 3) = 1 ∧ (¬ (gI h r0 4) < 0 ∧ ¬ 3 < (gI h r0 4))) = 0 from by simp only [bi, b2, false_and, and_false, true_and, and_true, not_true_eq_false, not_false_eq_true, if_true, if_false, true_or, or_true, false_or, or_false, reduceIte]] at kb
    exact R_sub [] rfl kb
  · refine R_aload_n dX12_isInk_8 rfl 0 rfl ?_
    refine G12_4 dX12_isInk_9 lfX12_149 ob1 ?_
    refine R_iconst (v := 0) dX12_isInk_12 (by decide) ?_
    refine R_iconst (v := 3) dX12_isInk_13 (by decide) ?_
    refine R_callS (N := mX12_in) (as := [.int (gI h r0 4), .int 0, .int 3]) (rest := []) (kc2 := 0) (ks2 := 0) dX12_isInk_14 lmX12_178 oX12_in (Nat.le_of_ble_eq_true rfl) rfl rfl (Nat.le_of_ble_eq_true rfl) rfl rfl (aX12_in  ?_)
    refine R_if_eq_b (tgt := 24) dX12_isInk_17 (by decide) (fun b3 => ?_) (fun b3 => ?_)
    · refine R_iconst (v := 0) dX12_isInk_24 (by decide) ?_
      have kb := key
      rw [show bi ((gI h r0 3) = 1 ∧ (¬ (gI h r0 4) < 0 ∧ ¬ 3 < (gI h r0 4))) = 0 from by simp only [bi, b2, b3, false_and, and_false, true_and, and_true, not_true_eq_false, not_false_eq_true, if_true, if_false, true_or, or_true, false_or, or_false, reduceIte]] at kb
      exact R_sub [] rfl kb
    · refine R_iconst (v := 1) dX12_isInk_20 (by decide) ?_
      refine R_goto (tgt := 25) dX12_isInk_21 (by decide) ?_
      have kb := key
      rw [show bi ((gI h r0 3) = 1 ∧ (¬ (gI h r0 4) < 0 ∧ ¬ 3 < (gI h r0 4))) = 1 from by simp only [bi, b2, b3, false_and, and_false, true_and, and_true, not_true_eq_false, not_false_eq_true, if_true, if_false, true_or, or_true, false_or, or_false, reduceIte]] at kb
      exact R_sub [] rfl kb
theorem aX12_isInk {h : AH} {P : Option Value → AH → Prop} {r0 : Nat} (o0 : isO h 12 r0) (k : P (some (.int (bi ((gI h r0 3) = 1 ∧ (¬ (gI h r0 4) < 0 ∧ ¬ 3 < (gI h r0 4)))))) h) : Call mX12_isInk [.ref r0] h P :=
  Call.ofR (by decide +kernel) (Nat.le_of_ble_eq_true rfl) (sX12_isInk_0 h r0 (⟨o0, k⟩))
theorem dX12_isInkNumber_0 : decode cX12_isInkNumber 0 = .ok (.iload_n 0, 1) := by decide +kernel
theorem dX12_isInkNumber_1 : decode cX12_isInkNumber 1 = .ok (.iconst 0, 1) := by decide +kernel
theorem dX12_isInkNumber_2 : decode cX12_isInkNumber 2 = .ok (.iconst 3, 1) := by decide +kernel
theorem dX12_isInkNumber_3 : decode cX12_isInkNumber 3 = .ok (.invokestatic 178, 3) := by decide +kernel
theorem dX12_isInkNumber_6 : decode cX12_isInkNumber 6 = .ok (.ireturn, 1) := by decide +kernel
set_option maxRecDepth 20000 in
theorem sX12_isInkNumber_0 {P : Option Value → AH → Prop} (h : AH) (x0 : Int32) (hf : P (some (.int (bi (¬ x0 < 0 ∧ ¬ 3 < x0)))) h) : Rr mX12_isInkNumber 0 0 0 [(0, .int x0)] [] h P := by
  refine R_iload_n dX12_isInkNumber_0 rfl 0 rfl ?_
  refine R_iconst (v := 0) dX12_isInkNumber_1 (by decide) ?_
  refine R_iconst (v := 3) dX12_isInkNumber_2 (by decide) ?_
  refine R_callS (N := mX12_in) (as := [.int x0, .int 0, .int 3]) (rest := []) (kc2 := 0) (ks2 := 0) dX12_isInkNumber_3 lmX12_178 oX12_in (Nat.le_of_ble_eq_true rfl) rfl rfl (Nat.le_of_ble_eq_true rfl) rfl rfl (aX12_in  ?_)
  exact R_iret dX12_isInkNumber_6 rfl (nb_n (bi_01 _)) hf
theorem aX12_isInkNumber {h : AH} {P : Option Value → AH → Prop} {x0 : Int32}  (k : P (some (.int (bi (¬ x0 < 0 ∧ ¬ 3 < x0)))) h) : Call mX12_isInkNumber [.int x0] h P :=
  Call.ofR (by decide +kernel) (Nat.le_of_ble_eq_true rfl) (sX12_isInkNumber_0 h x0 (k))
theorem dX12_isSlip_0 : decode cX12_isSlip 0 = .ok (.iload_n 0, 1) := by decide +kernel
theorem dX12_isSlip_1 : decode cX12_isSlip 1 = .ok (.bipush (-9), 2) := by decide +kernel
theorem dX12_isSlip_3 : decode cX12_isSlip 3 = .ok (.bipush 9, 2) := by decide +kernel
theorem dX12_isSlip_5 : decode cX12_isSlip 5 = .ok (.invokestatic 178, 3) := by decide +kernel
theorem dX12_isSlip_8 : decode cX12_isSlip 8 = .ok (.ifCond .eq 39, 3) := by decide +kernel
theorem dX12_isSlip_11 : decode cX12_isSlip 11 = .ok (.iload_n 1, 1) := by decide +kernel
theorem dX12_isSlip_12 : decode cX12_isSlip 12 = .ok (.bipush (-9), 2) := by decide +kernel
theorem dX12_isSlip_14 : decode cX12_isSlip 14 = .ok (.bipush 9, 2) := by decide +kernel
theorem dX12_isSlip_16 : decode cX12_isSlip 16 = .ok (.invokestatic 178, 3) := by decide +kernel
theorem dX12_isSlip_19 : decode cX12_isSlip 19 = .ok (.ifCond .eq 28, 3) := by decide +kernel
theorem dX12_isSlip_22 : decode cX12_isSlip 22 = .ok (.iload_n 2, 1) := by decide +kernel
theorem dX12_isSlip_23 : decode cX12_isSlip 23 = .ok (.bipush (-9), 2) := by decide +kernel
theorem dX12_isSlip_25 : decode cX12_isSlip 25 = .ok (.bipush 9, 2) := by decide +kernel
theorem dX12_isSlip_27 : decode cX12_isSlip 27 = .ok (.invokestatic 178, 3) := by decide +kernel
theorem dX12_isSlip_30 : decode cX12_isSlip 30 = .ok (.ifCond .eq 17, 3) := by decide +kernel
theorem dX12_isSlip_33 : decode cX12_isSlip 33 = .ok (.iload_n 3, 1) := by decide +kernel
theorem dX12_isSlip_34 : decode cX12_isSlip 34 = .ok (.iconst 0, 1) := by decide +kernel
theorem dX12_isSlip_35 : decode cX12_isSlip 35 = .ok (.bipush 9, 2) := by decide +kernel
theorem dX12_isSlip_37 : decode cX12_isSlip 37 = .ok (.invokestatic 178, 3) := by decide +kernel
theorem dX12_isSlip_40 : decode cX12_isSlip 40 = .ok (.ifCond .eq 7, 3) := by decide +kernel
theorem dX12_isSlip_43 : decode cX12_isSlip 43 = .ok (.iconst 1, 1) := by decide +kernel
theorem dX12_isSlip_44 : decode cX12_isSlip 44 = .ok (.goto 4, 3) := by decide +kernel
theorem dX12_isSlip_47 : decode cX12_isSlip 47 = .ok (.iconst 0, 1) := by decide +kernel
theorem dX12_isSlip_48 : decode cX12_isSlip 48 = .ok (.ireturn, 1) := by decide +kernel
set_option maxRecDepth 20000 in
theorem sX12_isSlip_0 {P : Option Value → AH → Prop} (h : AH) (x0 : Int32) (x1 : Int32) (x2 : Int32) (x3 : Int32) (hf : P (some (.int (bi ((¬ x0 < (-9) ∧ ¬ 9 < x0) ∧ (¬ x1 < (-9) ∧ ¬ 9 < x1) ∧ (¬ x2 < (-9) ∧ ¬ 9 < x2) ∧ (¬ x3 < 0 ∧ ¬ 9 < x3))))) h) : Rr mX12_isSlip 0 0 0 [(0, .int x0), (1, .int x1), (2, .int x2), (3, .int x3)] [] h P := by
  refine R_iload_n dX12_isSlip_0 rfl 0 rfl ?_
  refine R_bipush (v := (-9)) dX12_isSlip_1 (by decide) ?_
  refine R_bipush (v := 9) dX12_isSlip_3 (by decide) ?_
  refine R_callS (N := mX12_in) (as := [.int x0, .int (-9), .int 9]) (rest := []) (kc2 := 0) (ks2 := 0) dX12_isSlip_5 lmX12_178 oX12_in (Nat.le_of_ble_eq_true rfl) rfl rfl (Nat.le_of_ble_eq_true rfl) rfl rfl (aX12_in  ?_)
  have key :  Rr mX12_isSlip 0 0 48 [] [.int (bi ((¬ x0 < (-9) ∧ ¬ 9 < x0) ∧ (¬ x1 < (-9) ∧ ¬ 9 < x1) ∧ (¬ x2 < (-9) ∧ ¬ 9 < x2) ∧ (¬ x3 < 0 ∧ ¬ 9 < x3)))] h P := by
    exact R_iret dX12_isSlip_48 rfl (nb_n (bi_01 _)) hf
  refine R_if_eq_b (tgt := 47) dX12_isSlip_8 (by decide) (fun b1 => ?_) (fun b1 => ?_)
  · refine R_iconst (v := 0) dX12_isSlip_47 (by decide) ?_
    have kb := key
    rw [show bi ((¬ x0 < (-9) ∧ ¬ 9 < x0) ∧ (¬ x1 < (-9) ∧ ¬ 9 < x1) ∧ (¬ x2 < (-9) ∧ ¬ 9 < x2) ∧ (¬ x3 < 0 ∧ ¬ 9 < x3)) = 0 from by simp only [bi, b1, false_and, and_false, true_and, and_true, not_true_eq_false, not_false_eq_true, if_true, if_false, true_or, or_true, false_or, or_false, reduceIte]] at kb
    exact R_sub [] rfl kb
  · refine R_iload_n dX12_isSlip_11 rfl 1 rfl ?_
    refine R_bipush (v := (-9)) dX12_isSlip_12 (by decide) ?_
    refine R_bipush (v := 9) dX12_isSlip_14 (by decide) ?_
    refine R_callS (N := mX12_in) (as := [.int x1, .int (-9), .int 9]) (rest := []) (kc2 := 0) (ks2 := 0) dX12_isSlip_16 lmX12_178 oX12_in (Nat.le_of_ble_eq_true rfl) rfl rfl (Nat.le_of_ble_eq_true rfl) rfl rfl (aX12_in  ?_)
    refine R_if_eq_b (tgt := 47) dX12_isSlip_19 (by decide) (fun b2 => ?_) (fun b2 => ?_)
    · refine R_iconst (v := 0) dX12_isSlip_47 (by decide) ?_
      have kb := key
      rw [show bi ((¬ x0 < (-9) ∧ ¬ 9 < x0) ∧ (¬ x1 < (-9) ∧ ¬ 9 < x1) ∧ (¬ x2 < (-9) ∧ ¬ 9 < x2) ∧ (¬ x3 < 0 ∧ ¬ 9 < x3)) = 0 from by simp only [bi, b1, b2, false_and, and_false, true_and, and_true, not_true_eq_false, not_false_eq_true, if_true, if_false, true_or, or_true, false_or, or_false, reduceIte]] at kb
      exact R_sub [] rfl kb
    · refine R_iload_n dX12_isSlip_22 rfl 2 rfl ?_
      refine R_bipush (v := (-9)) dX12_isSlip_23 (by decide) ?_
      refine R_bipush (v := 9) dX12_isSlip_25 (by decide) ?_
      refine R_callS (N := mX12_in) (as := [.int x2, .int (-9), .int 9]) (rest := []) (kc2 := 0) (ks2 := 0) dX12_isSlip_27 lmX12_178 oX12_in (Nat.le_of_ble_eq_true rfl) rfl rfl (Nat.le_of_ble_eq_true rfl) rfl rfl (aX12_in  ?_)
      refine R_if_eq_b (tgt := 47) dX12_isSlip_30 (by decide) (fun b3 => ?_) (fun b3 => ?_)
      · refine R_iconst (v := 0) dX12_isSlip_47 (by decide) ?_
        have kb := key
        rw [show bi ((¬ x0 < (-9) ∧ ¬ 9 < x0) ∧ (¬ x1 < (-9) ∧ ¬ 9 < x1) ∧ (¬ x2 < (-9) ∧ ¬ 9 < x2) ∧ (¬ x3 < 0 ∧ ¬ 9 < x3)) = 0 from by simp only [bi, b1, b2, b3, false_and, and_false, true_and, and_true, not_true_eq_false, not_false_eq_true, if_true, if_false, true_or, or_true, false_or, or_false, reduceIte]] at kb
        exact R_sub [] rfl kb
      · refine R_iload_n dX12_isSlip_33 rfl 3 rfl ?_
        refine R_iconst (v := 0) dX12_isSlip_34 (by decide) ?_
        refine R_bipush (v := 9) dX12_isSlip_35 (by decide) ?_
        refine R_callS (N := mX12_in) (as := [.int x3, .int 0, .int 9]) (rest := []) (kc2 := 0) (ks2 := 0) dX12_isSlip_37 lmX12_178 oX12_in (Nat.le_of_ble_eq_true rfl) rfl rfl (Nat.le_of_ble_eq_true rfl) rfl rfl (aX12_in  ?_)
        refine R_if_eq_b (tgt := 47) dX12_isSlip_40 (by decide) (fun b4 => ?_) (fun b4 => ?_)
        · refine R_iconst (v := 0) dX12_isSlip_47 (by decide) ?_
          have kb := key
          rw [show bi ((¬ x0 < (-9) ∧ ¬ 9 < x0) ∧ (¬ x1 < (-9) ∧ ¬ 9 < x1) ∧ (¬ x2 < (-9) ∧ ¬ 9 < x2) ∧ (¬ x3 < 0 ∧ ¬ 9 < x3)) = 0 from by simp only [bi, b1, b2, b3, b4, false_and, and_false, true_and, and_true, not_true_eq_false, not_false_eq_true, if_true, if_false, true_or, or_true, false_or, or_false, reduceIte]] at kb
          exact R_sub [] rfl kb
        · refine R_iconst (v := 1) dX12_isSlip_43 (by decide) ?_
          refine R_goto (tgt := 48) dX12_isSlip_44 (by decide) ?_
          have kb := key
          rw [show bi ((¬ x0 < (-9) ∧ ¬ 9 < x0) ∧ (¬ x1 < (-9) ∧ ¬ 9 < x1) ∧ (¬ x2 < (-9) ∧ ¬ 9 < x2) ∧ (¬ x3 < 0 ∧ ¬ 9 < x3)) = 1 from by simp only [bi, b1, b2, b3, b4, false_and, and_false, true_and, and_true, not_true_eq_false, not_false_eq_true, if_true, if_false, true_or, or_true, false_or, or_false, reduceIte]] at kb
          exact R_sub [] rfl kb
theorem aX12_isSlip {h : AH} {P : Option Value → AH → Prop} {x0 : Int32} {x1 : Int32} {x2 : Int32} {x3 : Int32}  (k : P (some (.int (bi ((¬ x0 < (-9) ∧ ¬ 9 < x0) ∧ (¬ x1 < (-9) ∧ ¬ 9 < x1) ∧ (¬ x2 < (-9) ∧ ¬ 9 < x2) ∧ (¬ x3 < 0 ∧ ¬ 9 < x3))))) h) : Call mX12_isSlip [.int x0, .int x1, .int x2, .int x3] h P :=
  Call.ofR (by decide +kernel) (Nat.le_of_ble_eq_true rfl) (sX12_isSlip_0 h x0 x1 x2 x3 (k))
