theorem dX4_isJob_0 : decode cX4_isJob 0 = .ok (.aload_n 0, 1) := by decide +kernel
theorem dX4_isJob_1 : decode cX4_isJob 1 = .ok (.getfield 21, 3) := by decide +kernel
theorem dX4_isJob_4 : decode cX4_isJob 4 = .ok (.invokevirtual 29, 3) := by decide +kernel
theorem dX4_isJob_7 : decode cX4_isJob 7 = .ok (.aload_n 0, 1) := by decide +kernel
theorem dX4_isJob_8 : decode cX4_isJob 8 = .ok (.iconst 0, 1) := by decide +kernel
theorem dX4_isJob_9 : decode cX4_isJob 9 = .ok (.putfield 32, 3) := by decide +kernel
theorem dX4_isJob_12 : decode cX4_isJob 12 = .ok (.aload_n 0, 1) := by decide +kernel
theorem dX4_isJob_13 : decode cX4_isJob 13 = .ok (.iconst 0, 1) := by decide +kernel
theorem dX4_isJob_14 : decode cX4_isJob 14 = .ok (.putfield 35, 3) := by decide +kernel
theorem dX4_isJob_17 : decode cX4_isJob 17 = .ok (.aload_n 0, 1) := by decide +kernel
theorem dX4_isJob_18 : decode cX4_isJob 18 = .ok (.iconst 0, 1) := by decide +kernel
theorem dX4_isJob_19 : decode cX4_isJob 19 = .ok (.putfield 38, 3) := by decide +kernel
theorem dX4_isJob_22 : decode cX4_isJob 22 = .ok (.aload_n 0, 1) := by decide +kernel
theorem dX4_isJob_23 : decode cX4_isJob 23 = .ok (.iconst (-1), 1) := by decide +kernel
theorem dX4_isJob_24 : decode cX4_isJob 24 = .ok (.putfield 25, 3) := by decide +kernel
theorem dX4_isJob_27 : decode cX4_isJob 27 = .ok (.aload_n 0, 1) := by decide +kernel
theorem dX4_isJob_28 : decode cX4_isJob 28 = .ok (.getfield 12, 3) := by decide +kernel
theorem dX4_isJob_31 : decode cX4_isJob 31 = .ok (.invokevirtual 41, 3) := by decide +kernel
theorem dX4_isJob_34 : decode cX4_isJob 34 = .ok (.aload_n 0, 1) := by decide +kernel
theorem dX4_isJob_35 : decode cX4_isJob 35 = .ok (.getfield 12, 3) := by decide +kernel
theorem dX4_isJob_38 : decode cX4_isJob 38 = .ok (.invokevirtual 44, 3) := by decide +kernel
theorem dX4_isJob_41 : decode cX4_isJob 41 = .ok (.iconst 0, 1) := by decide +kernel
theorem dX4_isJob_42 : decode cX4_isJob 42 = .ok (.istore_n 1, 1) := by decide +kernel
theorem dX4_isJob_43 : decode cX4_isJob 43 = .ok (.iload_n 1, 1) := by decide +kernel
theorem dX4_isJob_44 : decode cX4_isJob 44 = .ok (.sipush 900, 3) := by decide +kernel
theorem dX4_isJob_47 : decode cX4_isJob 47 = .ok (.if_icmp .ge 41, 3) := by decide +kernel
theorem dX4_isJob_50 : decode cX4_isJob 50 = .ok (.aload_n 0, 1) := by decide +kernel
theorem dX4_isJob_51 : decode cX4_isJob 51 = .ok (.getfield 38, 3) := by decide +kernel
theorem dX4_isJob_54 : decode cX4_isJob 54 = .ok (.ifCond .ne 34, 3) := by decide +kernel
theorem dX4_isJob_57 : decode cX4_isJob 57 = .ok (.aload_n 0, 1) := by decide +kernel
theorem dX4_isJob_58 : decode cX4_isJob 58 = .ok (.getfield 12, 3) := by decide +kernel
theorem dX4_isJob_61 : decode cX4_isJob 61 = .ok (.getfield 47, 3) := by decide +kernel
theorem dX4_isJob_64 : decode cX4_isJob 64 = .ok (.ifCond .eq 24, 3) := by decide +kernel
theorem dX4_isJob_67 : decode cX4_isJob 67 = .ok (.aload_n 0, 1) := by decide +kernel
theorem dX4_isJob_68 : decode cX4_isJob 68 = .ok (.invokevirtual 50, 3) := by decide +kernel
theorem dX4_isJob_71 : decode cX4_isJob 71 = .ok (.aload_n 0, 1) := by decide +kernel
theorem dX4_isJob_72 : decode cX4_isJob 72 = .ok (.invokevirtual 53, 3) := by decide +kernel
theorem dX4_isJob_75 : decode cX4_isJob 75 = .ok (.aload_n 0, 1) := by decide +kernel
theorem dX4_isJob_76 : decode cX4_isJob 76 = .ok (.getfield 12, 3) := by decide +kernel
theorem dX4_isJob_79 : decode cX4_isJob 79 = .ok (.invokevirtual 44, 3) := by decide +kernel
theorem dX4_isJob_82 : decode cX4_isJob 82 = .ok (.iinc 1 1, 3) := by decide +kernel
theorem dX4_isJob_85 : decode cX4_isJob 85 = .ok (.goto (-42), 3) := by decide +kernel
theorem dX4_isJob_88 : decode cX4_isJob 88 = .ok (.aload_n 0, 1) := by decide +kernel
theorem dX4_isJob_89 : decode cX4_isJob 89 = .ok (.getfield 38, 3) := by decide +kernel
theorem dX4_isJob_92 : decode cX4_isJob 92 = .ok (.ifCond .ne 7, 3) := by decide +kernel
theorem dX4_isJob_95 : decode cX4_isJob 95 = .ok (.iconst 1, 1) := by decide +kernel
theorem dX4_isJob_96 : decode cX4_isJob 96 = .ok (.goto 4, 3) := by decide +kernel
theorem dX4_isJob_99 : decode cX4_isJob 99 = .ok (.iconst 0, 1) := by decide +kernel
theorem dX4_isJob_100 : decode cX4_isJob 100 = .ok (.ireturn, 1) := by decide +kernel
set_option maxRecDepth 20000 in
theorem sX4_isJob_0 {P : Option Value → AH → Prop} (h : AH) (r0 : Nat) (hf : (isO h 4 r0) ∧ ((isO h 3 (gF h r0 3)) ∧ (Call mX3_forget [.ref (gF h r0 3)] h (fun v h3 => v = none ∧ ((isO h3 4 r0) ∧ ((isO h3 9 (gF h3 r0 0)) ∧ ((isO h3 9 (gF (sI (sI (sI (sI (sI h3 r0 1 0) r0 2 0) r0 4 0) r0 5 (-1)) (gF h3 r0 0) 1 0) r0 0)) ∧ (Call mX9_next [.ref (gF (sI (sI (sI (sI (sI h3 r0 1 0) r0 2 0) r0 4 0) r0 5 (-1)) (gF h3 r0 0) 1 0) r0 0)] (sI (sI (sI (sI (sI h3 r0 1 0) r0 2 0) r0 4 0) r0 5 (-1)) (gF h3 r0 0) 1 0) (fun v h7 => v = none ∧ (Rr mX4_isJob 0 0 43 [(0, .ref r0), (1, .int 0)] [] h7 P)))))))))) : Rr mX4_isJob 0 0 0 [(0, .ref r0)] [] h P := by
  refine R_aload_n dX4_isJob_0 rfl 0 rfl ?_
  obtain ⟨ob1, hf⟩ := hf
  refine G4_3 dX4_isJob_1 lfX4_21 ob1 ?_
  obtain ⟨ob2, hf⟩ := hf
  refine R_callV (ci := 3) (N := mX3_forget) (as := []) (rest := []) (kc2 := 0) (ks2 := 0) dX4_isJob_4 lmX4_29 oX3_forget (Nat.le_of_ble_eq_true rfl) rfl rfl (Nat.le_of_ble_eq_true rfl) rfl rfl ob2 ok3 (Call.mono hf ?_)
  rintro _ h3 ⟨rfl, hf⟩
  refine R_aload_n dX4_isJob_7 rfl 0 rfl ?_
  refine R_iconst (v := 0) dX4_isJob_8 (by decide) ?_
  obtain ⟨ob4, hf⟩ := hf
  refine S4_1 dX4_isJob_9 lfX4_32 ob4 ?_
  refine R_aload_n dX4_isJob_12 rfl 0 rfl ?_
  refine R_iconst (v := 0) dX4_isJob_13 (by decide) ?_
  refine S4_2 dX4_isJob_14 lfX4_35 ob4 ?_
  refine R_aload_n dX4_isJob_17 rfl 0 rfl ?_
  refine R_iconst (v := 0) dX4_isJob_18 (by decide) ?_
  refine S4_4 dX4_isJob_19 lfX4_38 ob4 ?_
  refine R_aload_n dX4_isJob_22 rfl 0 rfl ?_
  refine R_iconst (v := (-1)) dX4_isJob_23 (by decide) ?_
  refine S4_5 dX4_isJob_24 lfX4_25 ob4 ?_
  refine R_aload_n dX4_isJob_27 rfl 0 rfl ?_
  refine G4_0 dX4_isJob_28 lfX4_12 ob4 ?_
  refine R_eqF (y := gF h3 r0 0) rfl ?_
  obtain ⟨ob5, hf⟩ := hf
  refine R_callV (ci := 9) (N := mX9_rewind) (as := []) (rest := []) (kc2 := 0) (ks2 := 0) dX4_isJob_31 lmX4_41 oX9_rewind (Nat.le_of_ble_eq_true rfl) rfl rfl (Nat.le_of_ble_eq_true rfl) rfl rfl ob5 ok9 (aX9_rewind ob5 ?_)
  refine R_aload_n dX4_isJob_34 rfl 0 rfl ?_
  refine G4_0 dX4_isJob_35 lfX4_12 ob4 ?_
  obtain ⟨ob6, hf⟩ := hf
  refine R_callV (ci := 9) (N := mX9_next) (as := []) (rest := []) (kc2 := 0) (ks2 := 0) dX4_isJob_38 lmX4_44 oX9_next (Nat.le_of_ble_eq_true rfl) rfl rfl (Nat.le_of_ble_eq_true rfl) rfl rfl ob6 ok9 (Call.mono hf ?_)
  rintro _ h7 ⟨rfl, hf⟩
  refine R_iconst (v := 0) dX4_isJob_41 (by decide) ?_
  refine R_istore_n dX4_isJob_42 rfl (by decide) rfl ?_
  exact R_sub [1, 0] rfl hf
set_option maxRecDepth 20000 in
theorem sX4_isJob_43 {P : Option Value → AH → Prop} (h : AH) (r0 : Nat) (x1 : Int32) (hf : (900 ≤ x1 → (isO h 4 r0) ∧ (P (some (.int (bi ((gI h r0 4) = 0)))) h)) ∧ (¬ 900 ≤ x1 → (isO h 4 r0) ∧ ((¬ (gI h r0 4) = 0 → P (some (.int (bi ((gI h r0 4) = 0)))) h) ∧ ((gI h r0 4) = 0 → (isO h 9 (gF h r0 0)) ∧ (((gI h (gF h r0 0) 3) = 0 → P (some (.int (bi ((gI h r0 4) = 0)))) h) ∧ (¬ (gI h (gF h r0 0) 3) = 0 → Call mX4_takeClause [.ref r0] h (fun v h10 => v = none ∧ ((isO h10 4 r0) ∧ (Call mX4_takeSemicolon [.ref r0] h10 (fun v h12 => v = none ∧ ((isO h12 4 r0) ∧ ((isO h12 9 (gF h12 r0 0)) ∧ (Call mX9_next [.ref (gF h12 r0 0)] h12 (fun v h15 => v = none ∧ (Rr mX4_isJob 0 0 43 [(0, .ref r0), (1, .int (x1 + 1))] [] h15 P))))))))))))))) : Rr mX4_isJob 0 0 43 [(0, .ref r0), (1, .int x1)] [] h P := by
  refine R_iload_n dX4_isJob_43 rfl 1 rfl ?_
  refine R_sipush (v := 900) dX4_isJob_44 (by decide) ?_
  refine R_icmp_ge (tgt := 88) dX4_isJob_47 (by decide) (fun b1 => ?_) (fun b1 => ?_)
  · have hf := hf.1 b1
    refine R_aload_n dX4_isJob_88 rfl 0 rfl ?_
    obtain ⟨ob2, hf⟩ := hf
    refine G4_4 dX4_isJob_89 lfX4_38 ob2 ?_
    have key :  Rr mX4_isJob 0 0 100 [] [.int (bi ((gI h r0 4) = 0))] h P := by
      exact R_iret dX4_isJob_100 rfl (nb_n (bi_01 _)) hf
    refine R_if_ne (tgt := 99) dX4_isJob_92 (by decide) (fun b3 => ?_) (fun b3 => ?_)
    · refine R_iconst (v := 0) dX4_isJob_99 (by decide) ?_
      have kb := key
      rw [show bi ((gI h r0 4) = 0) = 0 from by simp only [bi, b3, false_and, and_false, true_and, and_true, not_true_eq_false, not_false_eq_true, if_true, if_false, true_or, or_true, false_or, or_false, reduceIte]] at kb
      exact R_sub [] rfl kb
    · refine R_iconst (v := 1) dX4_isJob_95 (by decide) ?_
      refine R_goto (tgt := 100) dX4_isJob_96 (by decide) ?_
      have kb := key
      rw [show bi ((gI h r0 4) = 0) = 1 from by simp only [bi, b3, false_and, and_false, true_and, and_true, not_true_eq_false, not_false_eq_true, if_true, if_false, true_or, or_true, false_or, or_false, reduceIte]] at kb
      exact R_sub [] rfl kb
  · have hf := hf.2 b1
    refine R_aload_n dX4_isJob_50 rfl 0 rfl ?_
    obtain ⟨ob4, hf⟩ := hf
    refine G4_4 dX4_isJob_51 lfX4_38 ob4 ?_
    refine R_if_ne (tgt := 88) dX4_isJob_54 (by decide) (fun b5 => ?_) (fun b5 => ?_)
    · have hf := hf.1 b5
      refine R_aload_n dX4_isJob_88 rfl 0 rfl ?_
      refine G4_4 dX4_isJob_89 lfX4_38 ob4 ?_
      have key :  Rr mX4_isJob 0 0 100 [] [.int (bi ((gI h r0 4) = 0))] h P := by
        exact R_iret dX4_isJob_100 rfl (nb_n (bi_01 _)) hf
      refine R_if_ne (tgt := 99) dX4_isJob_92 (by decide) (fun b6 => ?_) (fun b6 => ?_)
      · refine R_iconst (v := 0) dX4_isJob_99 (by decide) ?_
        have kb := key
        rw [show bi ((gI h r0 4) = 0) = 0 from by simp only [bi, b6, false_and, and_false, true_and, and_true, not_true_eq_false, not_false_eq_true, if_true, if_false, true_or, or_true, false_or, or_false, reduceIte]] at kb
        exact R_sub [] rfl kb
      · refine R_iconst (v := 1) dX4_isJob_95 (by decide) ?_
        refine R_goto (tgt := 100) dX4_isJob_96 (by decide) ?_
        have kb := key
        rw [show bi ((gI h r0 4) = 0) = 1 from by simp only [bi, b6, false_and, and_false, true_and, and_true, not_true_eq_false, not_false_eq_true, if_true, if_false, true_or, or_true, false_or, or_false, reduceIte]] at kb
        exact R_sub [] rfl kb
    · have hf := hf.2 b5
      refine R_aload_n dX4_isJob_57 rfl 0 rfl ?_
      refine G4_0 dX4_isJob_58 lfX4_12 ob4 ?_
      obtain ⟨ob7, hf⟩ := hf
      refine G9_3 dX4_isJob_61 lfX4_47 ob7 ?_
      refine R_if_eq (tgt := 88) dX4_isJob_64 (by decide) (fun b8 => ?_) (fun b8 => ?_)
      · have hf := hf.1 b8
        refine R_aload_n dX4_isJob_88 rfl 0 rfl ?_
        refine G4_4 dX4_isJob_89 lfX4_38 ob4 ?_
        have key :  Rr mX4_isJob 0 0 100 [] [.int (bi ((gI h r0 4) = 0))] h P := by
          exact R_iret dX4_isJob_100 rfl (nb_n (bi_01 _)) hf
        refine R_if_ne (tgt := 99) dX4_isJob_92 (by decide) (fun b9 => ?_) (fun b9 => ?_)
        · refine R_iconst (v := 0) dX4_isJob_99 (by decide) ?_
          have kb := key
          rw [show bi ((gI h r0 4) = 0) = 0 from by simp only [bi, b9, false_and, and_false, true_and, and_true, not_true_eq_false, not_false_eq_true, if_true, if_false, true_or, or_true, false_or, or_false, reduceIte]] at kb
          exact R_sub [] rfl kb
        · refine R_iconst (v := 1) dX4_isJob_95 (by decide) ?_
          refine R_goto (tgt := 100) dX4_isJob_96 (by decide) ?_
          have kb := key
          rw [show bi ((gI h r0 4) = 0) = 1 from by simp only [bi, b9, false_and, and_false, true_and, and_true, not_true_eq_false, not_false_eq_true, if_true, if_false, true_or, or_true, false_or, or_false, reduceIte]] at kb
          exact R_sub [] rfl kb
      · have hf := hf.2 b8
        refine R_aload_n dX4_isJob_67 rfl 0 rfl ?_
        refine R_callV (ci := 4) (N := mX4_takeClause) (as := []) (rest := []) (kc2 := 0) (ks2 := 0) dX4_isJob_68 lmX4_50 oX4_takeClause (Nat.le_of_ble_eq_true rfl) rfl rfl (Nat.le_of_ble_eq_true rfl) rfl rfl ob4 ok4 (Call.mono hf ?_)
        rintro _ h10 ⟨rfl, hf⟩
        refine R_aload_n dX4_isJob_71 rfl 0 rfl ?_
        obtain ⟨ob11, hf⟩ := hf
        refine R_callV (ci := 4) (N := mX4_takeSemicolon) (as := []) (rest := []) (kc2 := 0) (ks2 := 0) dX4_isJob_72 lmX4_53 oX4_takeSemicolon (Nat.le_of_ble_eq_true rfl) rfl rfl (Nat.le_of_ble_eq_true rfl) rfl rfl ob11 ok4 (Call.mono hf ?_)
        rintro _ h12 ⟨rfl, hf⟩
        refine R_aload_n dX4_isJob_75 rfl 0 rfl ?_
        obtain ⟨ob13, hf⟩ := hf
        refine G4_0 dX4_isJob_76 lfX4_12 ob13 ?_
        obtain ⟨ob14, hf⟩ := hf
        refine R_callV (ci := 9) (N := mX9_next) (as := []) (rest := []) (kc2 := 0) (ks2 := 0) dX4_isJob_79 lmX4_44 oX9_next (Nat.le_of_ble_eq_true rfl) rfl rfl (Nat.le_of_ble_eq_true rfl) rfl rfl ob14 ok9 (Call.mono hf ?_)
        rintro _ h15 ⟨rfl, hf⟩
        refine R_iinc (v := x1 + 1) dX4_isJob_82 1 rfl rfl (by decide) rfl ?_
        refine R_goto (tgt := 43) dX4_isJob_85 (by decide) ?_
        exact R_sub [1, 0] rfl hf
theorem dX11_job_0 : decode cX11_job 0 = .ok (.aload_n 0, 1) := by decide +kernel
theorem dX11_job_1 : decode cX11_job 1 = .ok (.getfield 10, 3) := by decide +kernel
theorem dX11_job_4 : decode cX11_job 4 = .ok (.invokevirtual 105, 3) := by decide +kernel
theorem dX11_job_7 : decode cX11_job 7 = .ok (.istore_n 1, 1) := by decide +kernel
theorem dX11_job_8 : decode cX11_job 8 = .ok (.aload_n 0, 1) := by decide +kernel
theorem dX11_job_9 : decode cX11_job 9 = .ok (.getfield 20, 3) := by decide +kernel
theorem dX11_job_12 : decode cX11_job 12 = .ok (.iconst 0, 1) := by decide +kernel
theorem dX11_job_13 : decode cX11_job 13 = .ok (.putfield 95, 3) := by decide +kernel
theorem dX11_job_16 : decode cX11_job 16 = .ok (.iload_n 1, 1) := by decide +kernel
theorem dX11_job_17 : decode cX11_job 17 = .ok (.ifCond .ne 5, 3) := by decide +kernel
theorem dX11_job_20 : decode cX11_job 20 = .ok (.iconst (-1), 1) := by decide +kernel
theorem dX11_job_21 : decode cX11_job 21 = .ok (.ireturn, 1) := by decide +kernel
theorem dX11_job_22 : decode cX11_job 22 = .ok (.aload_n 0, 1) := by decide +kernel
theorem dX11_job_23 : decode cX11_job 23 = .ok (.getfield 24, 3) := by decide +kernel
theorem dX11_job_26 : decode cX11_job 26 = .ok (.astore_n 2, 1) := by decide +kernel
theorem dX11_job_27 : decode cX11_job 27 = .ok (.aload_n 0, 1) := by decide +kernel
theorem dX11_job_28 : decode cX11_job 28 = .ok (.aload_n 0, 1) := by decide +kernel
theorem dX11_job_29 : decode cX11_job 29 = .ok (.getfield 10, 3) := by decide +kernel
theorem dX11_job_32 : decode cX11_job 32 = .ok (.getfield 109, 3) := by decide +kernel
theorem dX11_job_35 : decode cX11_job 35 = .ok (.putfield 24, 3) := by decide +kernel
theorem dX11_job_38 : decode cX11_job 38 = .ok (.aload_n 0, 1) := by decide +kernel
theorem dX11_job_39 : decode cX11_job 39 = .ok (.getfield 10, 3) := by decide +kernel
theorem dX11_job_42 : decode cX11_job 42 = .ok (.aload_n 2, 1) := by decide +kernel
theorem dX11_job_43 : decode cX11_job 43 = .ok (.putfield 109, 3) := by decide +kernel
theorem dX11_job_46 : decode cX11_job 46 = .ok (.aload_n 0, 1) := by decide +kernel
theorem dX11_job_47 : decode cX11_job 47 = .ok (.getfield 31, 3) := by decide +kernel
theorem dX11_job_50 : decode cX11_job 50 = .ok (.invokevirtual 112, 3) := by decide +kernel
theorem dX11_job_53 : decode cX11_job 53 = .ok (.aload_n 0, 1) := by decide +kernel
theorem dX11_job_54 : decode cX11_job 54 = .ok (.getfield 45, 3) := by decide +kernel
theorem dX11_job_57 : decode cX11_job 57 = .ok (.invokevirtual 115, 3) := by decide +kernel
theorem dX11_job_60 : decode cX11_job 60 = .ok (.aload_n 0, 1) := by decide +kernel
theorem dX11_job_61 : decode cX11_job 61 = .ok (.getfield 52, 3) := by decide +kernel
theorem dX11_job_64 : decode cX11_job 64 = .ok (.invokevirtual 116, 3) := by decide +kernel
theorem dX11_job_67 : decode cX11_job 67 = .ok (.aload_n 0, 1) := by decide +kernel
theorem dX11_job_68 : decode cX11_job 68 = .ok (.getfield 88, 3) := by decide +kernel
theorem dX11_job_71 : decode cX11_job 71 = .ok (.invokevirtual 117, 3) := by decide +kernel
theorem dX11_job_74 : decode cX11_job 74 = .ok (.aload_n 0, 1) := by decide +kernel
theorem dX11_job_75 : decode cX11_job 75 = .ok (.getfield 24, 3) := by decide +kernel
theorem dX11_job_78 : decode cX11_job 78 = .ok (.getfield 118, 3) := by decide +kernel
theorem dX11_job_81 : decode cX11_job 81 = .ok (.ireturn, 1) := by decide +kernel
set_option maxRecDepth 20000 in
theorem sX11_job_0 {P : Option Value → AH → Prop} (h : AH) (r0 : Nat) (hf : (isO h 11 r0) ∧ ((isO h 4 (gF h r0 0)) ∧ (Call mX4_isJob [.ref (gF h r0 0)] h (fun v h3 => ∃ z4 : Int32, v = some (.int z4) ∧ ((isO h3 11 r0) ∧ ((isO h3 9 (gF h3 r0 1)) ∧ ((¬ z4 = 0 → (isO h3 4 (gF h3 r0 0)) ∧ ((isO h3 4 (gF (sF (sI h3 (gF h3 r0 1) 2 0) r0 2 (gF h3 (gF h3 r0 0) 3)) r0 0)) ∧ ((isO h3 7 (gF (sF (sF (sI h3 (gF h3 r0 1) 2 0) r0 2 (gF h3 (gF h3 r0 0) 3)) (gF (sF (sI h3 (gF h3 r0 1) 2 0) r0 2 (gF h3 (gF h3 r0 0) 3)) r0 0) 3 (gF h3 r0 2)) r0 3)) ∧ ((isO h3 6 (gF (sI (sI (sI (sF (sF (sI h3 (gF h3 r0 1) 2 0) r0 2 (gF h3 (gF h3 r0 0) 3)) (gF (sF (sI h3 (gF h3 r0 1) 2 0) r0 2 (gF h3 (gF h3 r0 0) 3)) r0 0) 3 (gF h3 r0 2)) (gF (sF (sF (sI h3 (gF h3 r0 1) 2 0) r0 2 (gF h3 (gF h3 r0 0) 3)) (gF (sF (sI h3 (gF h3 r0 1) 2 0) r0 2 (gF h3 (gF h3 r0 0) 3)) r0 0) 3 (gF h3 r0 2)) r0 3) 0 0) (gF (sF (sF (sI h3 (gF h3 r0 1) 2 0) r0 2 (gF h3 (gF h3 r0 0) 3)) (gF (sF (sI h3 (gF h3 r0 1) 2 0) r0 2 (gF h3 (gF h3 r0 0) 3)) r0 0) 3 (gF h3 r0 2)) r0 3) 1 0) (gF (sF (sF (sI h3 (gF h3 r0 1) 2 0) r0 2 (gF h3 (gF h3 r0 0) 3)) (gF (sF (sI h3 (gF h3 r0 1) 2 0) r0 2 (gF h3 (gF h3 r0 0) 3)) r0 0) 3 (gF h3 r0 2)) r0 3) 2 0) r0 5)) ∧ ((isO h3 5 (gF (sI (sI (sI (sI (sF (sF (sI h3 (gF h3 r0 1) 2 0) r0 2 (gF h3 (gF h3 r0 0) 3)) (gF (sF (sI h3 (gF h3 r0 1) 2 0) r0 2 (gF h3 (gF h3 r0 0) 3)) r0 0) 3 (gF h3 r0 2)) (gF (sF (sF (sI h3 (gF h3 r0 1) 2 0) r0 2 (gF h3 (gF h3 r0 0) 3)) (gF (sF (sI h3 (gF h3 r0 1) 2 0) r0 2 (gF h3 (gF h3 r0 0) 3)) r0 0) 3 (gF h3 r0 2)) r0 3) 0 0) (gF (sF (sF (sI h3 (gF h3 r0 1) 2 0) r0 2 (gF h3 (gF h3 r0 0) 3)) (gF (sF (sI h3 (gF h3 r0 1) 2 0) r0 2 (gF h3 (gF h3 r0 0) 3)) r0 0) 3 (gF h3 r0 2)) r0 3) 1 0) (gF (sF (sF (sI h3 (gF h3 r0 1) 2 0) r0 2 (gF h3 (gF h3 r0 0) 3)) (gF (sF (sI h3 (gF h3 r0 1) 2 0) r0 2 (gF h3 (gF h3 r0 0) 3)) r0 0) 3 (gF h3 r0 2)) r0 3) 2 0) (gF (sI (sI (sI (sF (sF (sI h3 (gF h3 r0 1) 2 0) r0 2 (gF h3 (gF h3 r0 0) 3)) (gF (sF (sI h3 (gF h3 r0 1) 2 0) r0 2 (gF h3 (gF h3 r0 0) 3)) r0 0) 3 (gF h3 r0 2)) (gF (sF (sF (sI h3 (gF h3 r0 1) 2 0) r0 2 (gF h3 (gF h3 r0 0) 3)) (gF (sF (sI h3 (gF h3 r0 1) 2 0) r0 2 (gF h3 (gF h3 r0 0) 3)) r0 0) 3 (gF h3 r0 2)) r0 3) 0 0) (gF (sF (sF (sI h3 (gF h3 r0 1) 2 0) r0 2 (gF h3 (gF h3 r0 0) 3)) (gF (sF (sI h3 (gF h3 r0 1) 2 0) r0 2 (gF h3 (gF h3 r0 0) 3)) r0 0) 3 (gF h3 r0 2)) r0 3) 1 0) (gF (sF (sF (sI h3 (gF h3 r0 1) 2 0) r0 2 (gF h3 (gF h3 r0 0) 3)) (gF (sF (sI h3 (gF h3 r0 1) 2 0) r0 2 (gF h3 (gF h3 r0 0) 3)) r0 0) 3 (gF h3 r0 2)) r0 3) 2 0) r0 5) 5 0) r0 6)) ∧ ((isO h3 10 (gF (sI (sI (sI (sI (sI (sF (sF (sI h3 (gF h3 r0 1) 2 0) r0 2 (gF h3 (gF h3 r0 0) 3)) (gF (sF (sI h3 (gF h3 r0 1) 2 0) r0 2 (gF h3 (gF h3 r0 0) 3)) r0 0) 3 (gF h3 r0 2)) (gF (sF (sF (sI h3 (gF h3 r0 1) 2 0) r0 2 (gF h3 (gF h3 r0 0) 3)) (gF (sF (sI h3 (gF h3 r0 1) 2 0) r0 2 (gF h3 (gF h3 r0 0) 3)) r0 0) 3 (gF h3 r0 2)) r0 3) 0 0) (gF (sF (sF (sI h3 (gF h3 r0 1) 2 0) r0 2 (gF h3 (gF h3 r0 0) 3)) (gF (sF (sI h3 (gF h3 r0 1) 2 0) r0 2 (gF h3 (gF h3 r0 0) 3)) r0 0) 3 (gF h3 r0 2)) r0 3) 1 0) (gF (sF (sF (sI h3 (gF h3 r0 1) 2 0) r0 2 (gF h3 (gF h3 r0 0) 3)) (gF (sF (sI h3 (gF h3 r0 1) 2 0) r0 2 (gF h3 (gF h3 r0 0) 3)) r0 0) 3 (gF h3 r0 2)) r0 3) 2 0) (gF (sI (sI (sI (sF (sF (sI h3 (gF h3 r0 1) 2 0) r0 2 (gF h3 (gF h3 r0 0) 3)) (gF (sF (sI h3 (gF h3 r0 1) 2 0) r0 2 (gF h3 (gF h3 r0 0) 3)) r0 0) 3 (gF h3 r0 2)) (gF (sF (sF (sI h3 (gF h3 r0 1) 2 0) r0 2 (gF h3 (gF h3 r0 0) 3)) (gF (sF (sI h3 (gF h3 r0 1) 2 0) r0 2 (gF h3 (gF h3 r0 0) 3)) r0 0) 3 (gF h3 r0 2)) r0 3) 0 0) (gF (sF (sF (sI h3 (gF h3 r0 1) 2 0) r0 2 (gF h3 (gF h3 r0 0) 3)) (gF (sF (sI h3 (gF h3 r0 1) 2 0) r0 2 (gF h3 (gF h3 r0 0) 3)) r0 0) 3 (gF h3 r0 2)) r0 3) 1 0) (gF (sF (sF (sI h3 (gF h3 r0 1) 2 0) r0 2 (gF h3 (gF h3 r0 0) 3)) (gF (sF (sI h3 (gF h3 r0 1) 2 0) r0 2 (gF h3 (gF h3 r0 0) 3)) r0 0) 3 (gF h3 r0 2)) r0 3) 2 0) r0 5) 5 0) (gF (sI (sI (sI (sI (sF (sF (sI h3 (gF h3 r0 1) 2 0) r0 2 (gF h3 (gF h3 r0 0) 3)) (gF (sF (sI h3 (gF h3 r0 1) 2 0) r0 2 (gF h3 (gF h3 r0 0) 3)) r0 0) 3 (gF h3 r0 2)) (gF (sF (sF (sI h3 (gF h3 r0 1) 2 0) r0 2 (gF h3 (gF h3 r0 0) 3)) (gF (sF (sI h3 (gF h3 r0 1) 2 0) r0 2 (gF h3 (gF h3 r0 0) 3)) r0 0) 3 (gF h3 r0 2)) r0 3) 0 0) (gF (sF (sF (sI h3 (gF h3 r0 1) 2 0) r0 2 (gF h3 (gF h3 r0 0) 3)) (gF (sF (sI h3 (gF h3 r0 1) 2 0) r0 2 (gF h3 (gF h3 r0 0) 3)) r0 0) 3 (gF h3 r0 2)) r0 3) 1 0) (gF (sF (sF (sI h3 (gF h3 r0 1) 2 0) r0 2 (gF h3 (gF h3 r0 0) 3)) (gF (sF (sI h3 (gF h3 r0 1) 2 0) r0 2 (gF h3 (gF h3 r0 0) 3)) r0 0) 3 (gF h3 r0 2)) r0 3) 2 0) (gF (sI (sI (sI (sF (sF (sI h3 (gF h3 r0 1) 2 0) r0 2 (gF h3 (gF h3 r0 0) 3)) (gF (sF (sI h3 (gF h3 r0 1) 2 0) r0 2 (gF h3 (gF h3 r0 0) 3)) r0 0) 3 (gF h3 r0 2)) (gF (sF (sF (sI h3 (gF h3 r0 1) 2 0) r0 2 (gF h3 (gF h3 r0 0) 3)) (gF (sF (sI h3 (gF h3 r0 1) 2 0) r0 2 (gF h3 (gF h3 r0 0) 3)) r0 0) 3 (gF h3 r0 2)) r0 3) 0 0) (gF (sF (sF (sI h3 (gF h3 r0 1) 2 0) r0 2 (gF h3 (gF h3 r0 0) 3)) (gF (sF (sI h3 (gF h3 r0 1) 2 0) r0 2 (gF h3 (gF h3 r0 0) 3)) r0 0) 3 (gF h3 r0 2)) r0 3) 1 0) (gF (sF (sF (sI h3 (gF h3 r0 1) 2 0) r0 2 (gF h3 (gF h3 r0 0) 3)) (gF (sF (sI h3 (gF h3 r0 1) 2 0) r0 2 (gF h3 (gF h3 r0 0) 3)) r0 0) 3 (gF h3 r0 2)) r0 3) 2 0) r0 5) 5 0) r0 6) 9 0) r0 13)) ∧ ((isO h3 3 (gF (sI (sI (sI (sI (sI (sI (sF (sF (sI h3 (gF h3 r0 1) 2 0) r0 2 (gF h3 (gF h3 r0 0) 3)) (gF (sF (sI h3 (gF h3 r0 1) 2 0) r0 2 (gF h3 (gF h3 r0 0) 3)) r0 0) 3 (gF h3 r0 2)) (gF (sF (sF (sI h3 (gF h3 r0 1) 2 0) r0 2 (gF h3 (gF h3 r0 0) 3)) (gF (sF (sI h3 (gF h3 r0 1) 2 0) r0 2 (gF h3 (gF h3 r0 0) 3)) r0 0) 3 (gF h3 r0 2)) r0 3) 0 0) (gF (sF (sF (sI h3 (gF h3 r0 1) 2 0) r0 2 (gF h3 (gF h3 r0 0) 3)) (gF (sF (sI h3 (gF h3 r0 1) 2 0) r0 2 (gF h3 (gF h3 r0 0) 3)) r0 0) 3 (gF h3 r0 2)) r0 3) 1 0) (gF (sF (sF (sI h3 (gF h3 r0 1) 2 0) r0 2 (gF h3 (gF h3 r0 0) 3)) (gF (sF (sI h3 (gF h3 r0 1) 2 0) r0 2 (gF h3 (gF h3 r0 0) 3)) r0 0) 3 (gF h3 r0 2)) r0 3) 2 0) (gF (sI (sI (sI (sF (sF (sI h3 (gF h3 r0 1) 2 0) r0 2 (gF h3 (gF h3 r0 0) 3)) (gF (sF (sI h3 (gF h3 r0 1) 2 0) r0 2 (gF h3 (gF h3 r0 0) 3)) r0 0) 3 (gF h3 r0 2)) (gF (sF (sF (sI h3 (gF h3 r0 1) 2 0) r0 2 (gF h3 (gF h3 r0 0) 3)) (gF (sF (sI h3 (gF h3 r0 1) 2 0) r0 2 (gF h3 (gF h3 r0 0) 3)) r0 0) 3 (gF h3 r0 2)) r0 3) 0 0) (gF (sF (sF (sI h3 (gF h3 r0 1) 2 0) r0 2 (gF h3 (gF h3 r0 0) 3)) (gF (sF (sI h3 (gF h3 r0 1) 2 0) r0 2 (gF h3 (gF h3 r0 0) 3)) r0 0) 3 (gF h3 r0 2)) r0 3) 1 0) (gF (sF (sF (sI h3 (gF h3 r0 1) 2 0) r0 2 (gF h3 (gF h3 r0 0) 3)) (gF (sF (sI h3 (gF h3 r0 1) 2 0) r0 2 (gF h3 (gF h3 r0 0) 3)) r0 0) 3 (gF h3 r0 2)) r0 3) 2 0) r0 5) 5 0) (gF (sI (sI (sI (sI (sF (sF (sI h3 (gF h3 r0 1) 2 0) r0 2 (gF h3 (gF h3 r0 0) 3)) (gF (sF (sI h3 (gF h3 r0 1) 2 0) r0 2 (gF h3 (gF h3 r0 0) 3)) r0 0) 3 (gF h3 r0 2)) (gF (sF (sF (sI h3 (gF h3 r0 1) 2 0) r0 2 (gF h3 (gF h3 r0 0) 3)) (gF (sF (sI h3 (gF h3 r0 1) 2 0) r0 2 (gF h3 (gF h3 r0 0) 3)) r0 0) 3 (gF h3 r0 2)) r0 3) 0 0) (gF (sF (sF (sI h3 (gF h3 r0 1) 2 0) r0 2 (gF h3 (gF h3 r0 0) 3)) (gF (sF (sI h3 (gF h3 r0 1) 2 0) r0 2 (gF h3 (gF h3 r0 0) 3)) r0 0) 3 (gF h3 r0 2)) r0 3) 1 0) (gF (sF (sF (sI h3 (gF h3 r0 1) 2 0) r0 2 (gF h3 (gF h3 r0 0) 3)) (gF (sF (sI h3 (gF h3 r0 1) 2 0) r0 2 (gF h3 (gF h3 r0 0) 3)) r0 0) 3 (gF h3 r0 2)) r0 3) 2 0) (gF (sI (sI (sI (sF (sF (sI h3 (gF h3 r0 1) 2 0) r0 2 (gF h3 (gF h3 r0 0) 3)) (gF (sF (sI h3 (gF h3 r0 1) 2 0) r0 2 (gF h3 (gF h3 r0 0) 3)) r0 0) 3 (gF h3 r0 2)) (gF (sF (sF (sI h3 (gF h3 r0 1) 2 0) r0 2 (gF h3 (gF h3 r0 0) 3)) (gF (sF (sI h3 (gF h3 r0 1) 2 0) r0 2 (gF h3 (gF h3 r0 0) 3)) r0 0) 3 (gF h3 r0 2)) r0 3) 0 0) (gF (sF (sF (sI h3 (gF h3 r0 1) 2 0) r0 2 (gF h3 (gF h3 r0 0) 3)) (gF (sF (sI h3 (gF h3 r0 1) 2 0) r0 2 (gF h3 (gF h3 r0 0) 3)) r0 0) 3 (gF h3 r0 2)) r0 3) 1 0) (gF (sF (sF (sI h3 (gF h3 r0 1) 2 0) r0 2 (gF h3 (gF h3 r0 0) 3)) (gF (sF (sI h3 (gF h3 r0 1) 2 0) r0 2 (gF h3 (gF h3 r0 0) 3)) r0 0) 3 (gF h3 r0 2)) r0 3) 2 0) r0 5) 5 0) r0 6) 9 0) (gF (sI (sI (sI (sI (sI (sF (sF (sI h3 (gF h3 r0 1) 2 0) r0 2 (gF h3 (gF h3 r0 0) 3)) (gF (sF (sI h3 (gF h3 r0 1) 2 0) r0 2 (gF h3 (gF h3 r0 0) 3)) r0 0) 3 (gF h3 r0 2)) (gF (sF (sF (sI h3 (gF h3 r0 1) 2 0) r0 2 (gF h3 (gF h3 r0 0) 3)) (gF (sF (sI h3 (gF h3 r0 1) 2 0) r0 2 (gF h3 (gF h3 r0 0) 3)) r0 0) 3 (gF h3 r0 2)) r0 3) 0 0) (gF (sF (sF (sI h3 (gF h3 r0 1) 2 0) r0 2 (gF h3 (gF h3 r0 0) 3)) (gF (sF (sI h3 (gF h3 r0 1) 2 0) r0 2 (gF h3 (gF h3 r0 0) 3)) r0 0) 3 (gF h3 r0 2)) r0 3) 1 0) (gF (sF (sF (sI h3 (gF h3 r0 1) 2 0) r0 2 (gF h3 (gF h3 r0 0) 3)) (gF (sF (sI h3 (gF h3 r0 1) 2 0) r0 2 (gF h3 (gF h3 r0 0) 3)) r0 0) 3 (gF h3 r0 2)) r0 3) 2 0) (gF (sI (sI (sI (sF (sF (sI h3 (gF h3 r0 1) 2 0) r0 2 (gF h3 (gF h3 r0 0) 3)) (gF (sF (sI h3 (gF h3 r0 1) 2 0) r0 2 (gF h3 (gF h3 r0 0) 3)) r0 0) 3 (gF h3 r0 2)) (gF (sF (sF (sI h3 (gF h3 r0 1) 2 0) r0 2 (gF h3 (gF h3 r0 0) 3)) (gF (sF (sI h3 (gF h3 r0 1) 2 0) r0 2 (gF h3 (gF h3 r0 0) 3)) r0 0) 3 (gF h3 r0 2)) r0 3) 0 0) (gF (sF (sF (sI h3 (gF h3 r0 1) 2 0) r0 2 (gF h3 (gF h3 r0 0) 3)) (gF (sF (sI h3 (gF h3 r0 1) 2 0) r0 2 (gF h3 (gF h3 r0 0) 3)) r0 0) 3 (gF h3 r0 2)) r0 3) 1 0) (gF (sF (sF (sI h3 (gF h3 r0 1) 2 0) r0 2 (gF h3 (gF h3 r0 0) 3)) (gF (sF (sI h3 (gF h3 r0 1) 2 0) r0 2 (gF h3 (gF h3 r0 0) 3)) r0 0) 3 (gF h3 r0 2)) r0 3) 2 0) r0 5) 5 0) (gF (sI (sI (sI (sI (sF (sF (sI h3 (gF h3 r0 1) 2 0) r0 2 (gF h3 (gF h3 r0 0) 3)) (gF (sF (sI h3 (gF h3 r0 1) 2 0) r0 2 (gF h3 (gF h3 r0 0) 3)) r0 0) 3 (gF h3 r0 2)) (gF (sF (sF (sI h3 (gF h3 r0 1) 2 0) r0 2 (gF h3 (gF h3 r0 0) 3)) (gF (sF (sI h3 (gF h3 r0 1) 2 0) r0 2 (gF h3 (gF h3 r0 0) 3)) r0 0) 3 (gF h3 r0 2)) r0 3) 0 0) (gF (sF (sF (sI h3 (gF h3 r0 1) 2 0) r0 2 (gF h3 (gF h3 r0 0) 3)) (gF (sF (sI h3 (gF h3 r0 1) 2 0) r0 2 (gF h3 (gF h3 r0 0) 3)) r0 0) 3 (gF h3 r0 2)) r0 3) 1 0) (gF (sF (sF (sI h3 (gF h3 r0 1) 2 0) r0 2 (gF h3 (gF h3 r0 0) 3)) (gF (sF (sI h3 (gF h3 r0 1) 2 0) r0 2 (gF h3 (gF h3 r0 0) 3)) r0 0) 3 (gF h3 r0 2)) r0 3) 2 0) (gF (sI (sI (sI (sF (sF (sI h3 (gF h3 r0 1) 2 0) r0 2 (gF h3 (gF h3 r0 0) 3)) (gF (sF (sI h3 (gF h3 r0 1) 2 0) r0 2 (gF h3 (gF h3 r0 0) 3)) r0 0) 3 (gF h3 r0 2)) (gF (sF (sF (sI h3 (gF h3 r0 1) 2 0) r0 2 (gF h3 (gF h3 r0 0) 3)) (gF (sF (sI h3 (gF h3 r0 1) 2 0) r0 2 (gF h3 (gF h3 r0 0) 3)) r0 0) 3 (gF h3 r0 2)) r0 3) 0 0) (gF (sF (sF (sI h3 (gF h3 r0 1) 2 0) r0 2 (gF h3 (gF h3 r0 0) 3)) (gF (sF (sI h3 (gF h3 r0 1) 2 0) r0 2 (gF h3 (gF h3 r0 0) 3)) r0 0) 3 (gF h3 r0 2)) r0 3) 1 0) (gF (sF (sF (sI h3 (gF h3 r0 1) 2 0) r0 2 (gF h3 (gF h3 r0 0) 3)) (gF (sF (sI h3 (gF h3 r0 1) 2 0) r0 2 (gF h3 (gF h3 r0 0) 3)) r0 0) 3 (gF h3 r0 2)) r0 3) 2 0) r0 5) 5 0) r0 6) 9 0) r0 13) 4 0) r0 2)) ∧ (P (some (.int (gI (sI (sI (sI (sI (sI (sI (sF (sF (sI h3 (gF h3 r0 1) 2 0) r0 2 (gF h3 (gF h3 r0 0) 3)) (gF (sF (sI h3 (gF h3 r0 1) 2 0) r0 2 (gF h3 (gF h3 r0 0) 3)) r0 0) 3 (gF h3 r0 2)) (gF (sF (sF (sI h3 (gF h3 r0 1) 2 0) r0 2 (gF h3 (gF h3 r0 0) 3)) (gF (sF (sI h3 (gF h3 r0 1) 2 0) r0 2 (gF h3 (gF h3 r0 0) 3)) r0 0) 3 (gF h3 r0 2)) r0 3) 0 0) (gF (sF (sF (sI h3 (gF h3 r0 1) 2 0) r0 2 (gF h3 (gF h3 r0 0) 3)) (gF (sF (sI h3 (gF h3 r0 1) 2 0) r0 2 (gF h3 (gF h3 r0 0) 3)) r0 0) 3 (gF h3 r0 2)) r0 3) 1 0) (gF (sF (sF (sI h3 (gF h3 r0 1) 2 0) r0 2 (gF h3 (gF h3 r0 0) 3)) (gF (sF (sI h3 (gF h3 r0 1) 2 0) r0 2 (gF h3 (gF h3 r0 0) 3)) r0 0) 3 (gF h3 r0 2)) r0 3) 2 0) (gF (sI (sI (sI (sF (sF (sI h3 (gF h3 r0 1) 2 0) r0 2 (gF h3 (gF h3 r0 0) 3)) (gF (sF (sI h3 (gF h3 r0 1) 2 0) r0 2 (gF h3 (gF h3 r0 0) 3)) r0 0) 3 (gF h3 r0 2)) (gF (sF (sF (sI h3 (gF h3 r0 1) 2 0) r0 2 (gF h3 (gF h3 r0 0) 3)) (gF (sF (sI h3 (gF h3 r0 1) 2 0) r0 2 (gF h3 (gF h3 r0 0) 3)) r0 0) 3 (gF h3 r0 2)) r0 3) 0 0) (gF (sF (sF (sI h3 (gF h3 r0 1) 2 0) r0 2 (gF h3 (gF h3 r0 0) 3)) (gF (sF (sI h3 (gF h3 r0 1) 2 0) r0 2 (gF h3 (gF h3 r0 0) 3)) r0 0) 3 (gF h3 r0 2)) r0 3) 1 0) (gF (sF (sF (sI h3 (gF h3 r0 1) 2 0) r0 2 (gF h3 (gF h3 r0 0) 3)) (gF (sF (sI h3 (gF h3 r0 1) 2 0) r0 2 (gF h3 (gF h3 r0 0) 3)) r0 0) 3 (gF h3 r0 2)) r0 3) 2 0) r0 5) 5 0) (gF (sI (sI (sI (sI (sF (sF (sI h3 (gF h3 r0 1) 2 0) r0 2 (gF h3 (gF h3 r0 0) 3)) (gF (sF (sI h3 (gF h3 r0 1) 2 0) r0 2 (gF h3 (gF h3 r0 0) 3)) r0 0) 3 (gF h3 r0 2)) (gF (sF (sF (sI h3 (gF h3 r0 1) 2 0) r0 2 (gF h3 (gF h3 r0 0) 3)) (gF (sF (sI h3 (gF h3 r0 1) 2 0) r0 2 (gF h3 (gF h3 r0 0) 3)) r0 0) 3 (gF h3 r0 2)) r0 3) 0 0) (gF (sF (sF (sI h3 (gF h3 r0 1) 2 0) r0 2 (gF h3 (gF h3 r0 0) 3)) (gF (sF (sI h3 (gF h3 r0 1) 2 0) r0 2 (gF h3 (gF h3 r0 0) 3)) r0 0) 3 (gF h3 r0 2)) r0 3) 1 0) (gF (sF (sF (sI h3 (gF h3 r0 1) 2 0) r0 2 (gF h3 (gF h3 r0 0) 3)) (gF (sF (sI h3 (gF h3 r0 1) 2 0) r0 2 (gF h3 (gF h3 r0 0) 3)) r0 0) 3 (gF h3 r0 2)) r0 3) 2 0) (gF (sI (sI (sI (sF (sF (sI h3 (gF h3 r0 1) 2 0) r0 2 (gF h3 (gF h3 r0 0) 3)) (gF (sF (sI h3 (gF h3 r0 1) 2 0) r0 2 (gF h3 (gF h3 r0 0) 3)) r0 0) 3 (gF h3 r0 2)) (gF (sF (sF (sI h3 (gF h3 r0 1) 2 0) r0 2 (gF h3 (gF h3 r0 0) 3)) (gF (sF (sI h3 (gF h3 r0 1) 2 0) r0 2 (gF h3 (gF h3 r0 0) 3)) r0 0) 3 (gF h3 r0 2)) r0 3) 0 0) (gF (sF (sF (sI h3 (gF h3 r0 1) 2 0) r0 2 (gF h3 (gF h3 r0 0) 3)) (gF (sF (sI h3 (gF h3 r0 1) 2 0) r0 2 (gF h3 (gF h3 r0 0) 3)) r0 0) 3 (gF h3 r0 2)) r0 3) 1 0) (gF (sF (sF (sI h3 (gF h3 r0 1) 2 0) r0 2 (gF h3 (gF h3 r0 0) 3)) (gF (sF (sI h3 (gF h3 r0 1) 2 0) r0 2 (gF h3 (gF h3 r0 0) 3)) r0 0) 3 (gF h3 r0 2)) r0 3) 2 0) r0 5) 5 0) r0 6) 9 0) (gF (sI (sI (sI (sI (sI (sF (sF (sI h3 (gF h3 r0 1) 2 0) r0 2 (gF h3 (gF h3 r0 0) 3)) (gF (sF (sI h3 (gF h3 r0 1) 2 0) r0 2 (gF h3 (gF h3 r0 0) 3)) r0 0) 3 (gF h3 r0 2)) (gF (sF (sF (sI h3 (gF h3 r0 1) 2 0) r0 2 (gF h3 (gF h3 r0 0) 3)) (gF (sF (sI h3 (gF h3 r0 1) 2 0) r0 2 (gF h3 (gF h3 r0 0) 3)) r0 0) 3 (gF h3 r0 2)) r0 3) 0 0) (gF (sF (sF (sI h3 (gF h3 r0 1) 2 0) r0 2 (gF h3 (gF h3 r0 0) 3)) (gF (sF (sI h3 (gF h3 r0 1) 2 0) r0 2 (gF h3 (gF h3 r0 0) 3)) r0 0) 3 (gF h3 r0 2)) r0 3) 1 0) (gF (sF (sF (sI h3 (gF h3 r0 1) 2 0) r0 2 (gF h3 (gF h3 r0 0) 3)) (gF (sF (sI h3 (gF h3 r0 1) 2 0) r0 2 (gF h3 (gF h3 r0 0) 3)) r0 0) 3 (gF h3 r0 2)) r0 3) 2 0) (gF (sI (sI (sI (sF (sF (sI h3 (gF h3 r0 1) 2 0) r0 2 (gF h3 (gF h3 r0 0) 3)) (gF (sF (sI h3 (gF h3 r0 1) 2 0) r0 2 (gF h3 (gF h3 r0 0) 3)) r0 0) 3 (gF h3 r0 2)) (gF (sF (sF (sI h3 (gF h3 r0 1) 2 0) r0 2 (gF h3 (gF h3 r0 0) 3)) (gF (sF (sI h3 (gF h3 r0 1) 2 0) r0 2 (gF h3 (gF h3 r0 0) 3)) r0 0) 3 (gF h3 r0 2)) r0 3) 0 0) (gF (sF (sF (sI h3 (gF h3 r0 1) 2 0) r0 2 (gF h3 (gF h3 r0 0) 3)) (gF (sF (sI h3 (gF h3 r0 1) 2 0) r0 2 (gF h3 (gF h3 r0 0) 3)) r0 0) 3 (gF h3 r0 2)) r0 3) 1 0) (gF (sF (sF (sI h3 (gF h3 r0 1) 2 0) r0 2 (gF h3 (gF h3 r0 0) 3)) (gF (sF (sI h3 (gF h3 r0 1) 2 0) r0 2 (gF h3 (gF h3 r0 0) 3)) r0 0) 3 (gF h3 r0 2)) r0 3) 2 0) r0 5) 5 0) (gF (sI (sI (sI (sI (sF (sF (sI h3 (gF h3 r0 1) 2 0) r0 2 (gF h3 (gF h3 r0 0) 3)) (gF (sF (sI h3 (gF h3 r0 1) 2 0) r0 2 (gF h3 (gF h3 r0 0) 3)) r0 0) 3 (gF h3 r0 2)) (gF (sF (sF (sI h3 (gF h3 r0 1) 2 0) r0 2 (gF h3 (gF h3 r0 0) 3)) (gF (sF (sI h3 (gF h3 r0 1) 2 0) r0 2 (gF h3 (gF h3 r0 0) 3)) r0 0) 3 (gF h3 r0 2)) r0 3) 0 0) (gF (sF (sF (sI h3 (gF h3 r0 1) 2 0) r0 2 (gF h3 (gF h3 r0 0) 3)) (gF (sF (sI h3 (gF h3 r0 1) 2 0) r0 2 (gF h3 (gF h3 r0 0) 3)) r0 0) 3 (gF h3 r0 2)) r0 3) 1 0) (gF (sF (sF (sI h3 (gF h3 r0 1) 2 0) r0 2 (gF h3 (gF h3 r0 0) 3)) (gF (sF (sI h3 (gF h3 r0 1) 2 0) r0 2 (gF h3 (gF h3 r0 0) 3)) r0 0) 3 (gF h3 r0 2)) r0 3) 2 0) (gF (sI (sI (sI (sF (sF (sI h3 (gF h3 r0 1) 2 0) r0 2 (gF h3 (gF h3 r0 0) 3)) (gF (sF (sI h3 (gF h3 r0 1) 2 0) r0 2 (gF h3 (gF h3 r0 0) 3)) r0 0) 3 (gF h3 r0 2)) (gF (sF (sF (sI h3 (gF h3 r0 1) 2 0) r0 2 (gF h3 (gF h3 r0 0) 3)) (gF (sF (sI h3 (gF h3 r0 1) 2 0) r0 2 (gF h3 (gF h3 r0 0) 3)) r0 0) 3 (gF h3 r0 2)) r0 3) 0 0) (gF (sF (sF (sI h3 (gF h3 r0 1) 2 0) r0 2 (gF h3 (gF h3 r0 0) 3)) (gF (sF (sI h3 (gF h3 r0 1) 2 0) r0 2 (gF h3 (gF h3 r0 0) 3)) r0 0) 3 (gF h3 r0 2)) r0 3) 1 0) (gF (sF (sF (sI h3 (gF h3 r0 1) 2 0) r0 2 (gF h3 (gF h3 r0 0) 3)) (gF (sF (sI h3 (gF h3 r0 1) 2 0) r0 2 (gF h3 (gF h3 r0 0) 3)) r0 0) 3 (gF h3 r0 2)) r0 3) 2 0) r0 5) 5 0) r0 6) 9 0) r0 13) 4 0) (gF (sI (sI (sI (sI (sI (sI (sF (sF (sI h3 (gF h3 r0 1) 2 0) r0 2 (gF h3 (gF h3 r0 0) 3)) (gF (sF (sI h3 (gF h3 r0 1) 2 0) r0 2 (gF h3 (gF h3 r0 0) 3)) r0 0) 3 (gF h3 r0 2)) (gF (sF (sF (sI h3 (gF h3 r0 1) 2 0) r0 2 (gF h3 (gF h3 r0 0) 3)) (gF (sF (sI h3 (gF h3 r0 1) 2 0) r0 2 (gF h3 (gF h3 r0 0) 3)) r0 0) 3 (gF h3 r0 2)) r0 3) 0 0) (gF (sF (sF (sI h3 (gF h3 r0 1) 2 0) r0 2 (gF h3 (gF h3 r0 0) 3)) (gF (sF (sI h3 (gF h3 r0 1) 2 0) r0 2 (gF h3 (gF h3 r0 0) 3)) r0 0) 3 (gF h3 r0 2)) r0 3) 1 0) (gF (sF (sF (sI h3 (gF h3 r0 1) 2 0) r0 2 (gF h3 (gF h3 r0 0) 3)) (gF (sF (sI h3 (gF h3 r0 1) 2 0) r0 2 (gF h3 (gF h3 r0 0) 3)) r0 0) 3 (gF h3 r0 2)) r0 3) 2 0) (gF (sI (sI (sI (sF (sF (sI h3 (gF h3 r0 1) 2 0) r0 2 (gF h3 (gF h3 r0 0) 3)) (gF (sF (sI h3 (gF h3 r0 1) 2 0) r0 2 (gF h3 (gF h3 r0 0) 3)) r0 0) 3 (gF h3 r0 2)) (gF (sF (sF (sI h3 (gF h3 r0 1) 2 0) r0 2 (gF h3 (gF h3 r0 0) 3)) (gF (sF (sI h3 (gF h3 r0 1) 2 0) r0 2 (gF h3 (gF h3 r0 0) 3)) r0 0) 3 (gF h3 r0 2)) r0 3) 0 0) (gF (sF (sF (sI h3 (gF h3 r0 1) 2 0) r0 2 (gF h3 (gF h3 r0 0) 3)) (gF (sF (sI h3 (gF h3 r0 1) 2 0) r0 2 (gF h3 (gF h3 r0 0) 3)) r0 0) 3 (gF h3 r0 2)) r0 3) 1 0) (gF (sF (sF (sI h3 (gF h3 r0 1) 2 0) r0 2 (gF h3 (gF h3 r0 0) 3)) (gF (sF (sI h3 (gF h3 r0 1) 2 0) r0 2 (gF h3 (gF h3 r0 0) 3)) r0 0) 3 (gF h3 r0 2)) r0 3) 2 0) r0 5) 5 0) (gF (sI (sI (sI (sI (sF (sF (sI h3 (gF h3 r0 1) 2 0) r0 2 (gF h3 (gF h3 r0 0) 3)) (gF (sF (sI h3 (gF h3 r0 1) 2 0) r0 2 (gF h3 (gF h3 r0 0) 3)) r0 0) 3 (gF h3 r0 2)) (gF (sF (sF (sI h3 (gF h3 r0 1) 2 0) r0 2 (gF h3 (gF h3 r0 0) 3)) (gF (sF (sI h3 (gF h3 r0 1) 2 0) r0 2 (gF h3 (gF h3 r0 0) 3)) r0 0) 3 (gF h3 r0 2)) r0 3) 0 0) (gF (sF (sF (sI h3 (gF h3 r0 1) 2 0) r0 2 (gF h3 (gF h3 r0 0) 3)) (gF (sF (sI h3 (gF h3 r0 1) 2 0) r0 2 (gF h3 (gF h3 r0 0) 3)) r0 0) 3 (gF h3 r0 2)) r0 3) 1 0) (gF (sF (sF (sI h3 (gF h3 r0 1) 2 0) r0 2 (gF h3 (gF h3 r0 0) 3)) (gF (sF (sI h3 (gF h3 r0 1) 2 0) r0 2 (gF h3 (gF h3 r0 0) 3)) r0 0) 3 (gF h3 r0 2)) r0 3) 2 0) (gF (sI (sI (sI (sF (sF (sI h3 (gF h3 r0 1) 2 0) r0 2 (gF h3 (gF h3 r0 0) 3)) (gF (sF (sI h3 (gF h3 r0 1) 2 0) r0 2 (gF h3 (gF h3 r0 0) 3)) r0 0) 3 (gF h3 r0 2)) (gF (sF (sF (sI h3 (gF h3 r0 1) 2 0) r0 2 (gF h3 (gF h3 r0 0) 3)) (gF (sF (sI h3 (gF h3 r0 1) 2 0) r0 2 (gF h3 (gF h3 r0 0) 3)) r0 0) 3 (gF h3 r0 2)) r0 3) 0 0) (gF (sF (sF (sI h3 (gF h3 r0 1) 2 0) r0 2 (gF h3 (gF h3 r0 0) 3)) (gF (sF (sI h3 (gF h3 r0 1) 2 0) r0 2 (gF h3 (gF h3 r0 0) 3)) r0 0) 3 (gF h3 r0 2)) r0 3) 1 0) (gF (sF (sF (sI h3 (gF h3 r0 1) 2 0) r0 2 (gF h3 (gF h3 r0 0) 3)) (gF (sF (sI h3 (gF h3 r0 1) 2 0) r0 2 (gF h3 (gF h3 r0 0) 3)) r0 0) 3 (gF h3 r0 2)) r0 3) 2 0) r0 5) 5 0) r0 6) 9 0) (gF (sI (sI (sI (sI (sI (sF (sF (sI h3 (gF h3 r0 1) 2 0) r0 2 (gF h3 (gF h3 r0 0) 3)) (gF (sF (sI h3 (gF h3 r0 1) 2 0) r0 2 (gF h3 (gF h3 r0 0) 3)) r0 0) 3 (gF h3 r0 2)) (gF (sF (sF (sI h3 (gF h3 r0 1) 2 0) r0 2 (gF h3 (gF h3 r0 0) 3)) (gF (sF (sI h3 (gF h3 r0 1) 2 0) r0 2 (gF h3 (gF h3 r0 0) 3)) r0 0) 3 (gF h3 r0 2)) r0 3) 0 0) (gF (sF (sF (sI h3 (gF h3 r0 1) 2 0) r0 2 (gF h3 (gF h3 r0 0) 3)) (gF (sF (sI h3 (gF h3 r0 1) 2 0) r0 2 (gF h3 (gF h3 r0 0) 3)) r0 0) 3 (gF h3 r0 2)) r0 3) 1 0) (gF (sF (sF (sI h3 (gF h3 r0 1) 2 0) r0 2 (gF h3 (gF h3 r0 0) 3)) (gF (sF (sI h3 (gF h3 r0 1) 2 0) r0 2 (gF h3 (gF h3 r0 0) 3)) r0 0) 3 (gF h3 r0 2)) r0 3) 2 0) (gF (sI (sI (sI (sF (sF (sI h3 (gF h3 r0 1) 2 0) r0 2 (gF h3 (gF h3 r0 0) 3)) (gF (sF (sI h3 (gF h3 r0 1) 2 0) r0 2 (gF h3 (gF h3 r0 0) 3)) r0 0) 3 (gF h3 r0 2)) (gF (sF (sF (sI h3 (gF h3 r0 1) 2 0) r0 2 (gF h3 (gF h3 r0 0) 3)) (gF (sF (sI h3 (gF h3 r0 1) 2 0) r0 2 (gF h3 (gF h3 r0 0) 3)) r0 0) 3 (gF h3 r0 2)) r0 3) 0 0) (gF (sF (sF (sI h3 (gF h3 r0 1) 2 0) r0 2 (gF h3 (gF h3 r0 0) 3)) (gF (sF (sI h3 (gF h3 r0 1) 2 0) r0 2 (gF h3 (gF h3 r0 0) 3)) r0 0) 3 (gF h3 r0 2)) r0 3) 1 0) (gF (sF (sF (sI h3 (gF h3 r0 1) 2 0) r0 2 (gF h3 (gF h3 r0 0) 3)) (gF (sF (sI h3 (gF h3 r0 1) 2 0) r0 2 (gF h3 (gF h3 r0 0) 3)) r0 0) 3 (gF h3 r0 2)) r0 3) 2 0) r0 5) 5 0) (gF (sI (sI (sI (sI (sF (sF (sI h3 (gF h3 r0 1) 2 0) r0 2 (gF h3 (gF h3 r0 0) 3)) (gF (sF (sI h3 (gF h3 r0 1) 2 0) r0 2 (gF h3 (gF h3 r0 0) 3)) r0 0) 3 (gF h3 r0 2)) (gF (sF (sF (sI h3 (gF h3 r0 1) 2 0) r0 2 (gF h3 (gF h3 r0 0) 3)) (gF (sF (sI h3 (gF h3 r0 1) 2 0) r0 2 (gF h3 (gF h3 r0 0) 3)) r0 0) 3 (gF h3 r0 2)) r0 3) 0 0) (gF (sF (sF (sI h3 (gF h3 r0 1) 2 0) r0 2 (gF h3 (gF h3 r0 0) 3)) (gF (sF (sI h3 (gF h3 r0 1) 2 0) r0 2 (gF h3 (gF h3 r0 0) 3)) r0 0) 3 (gF h3 r0 2)) r0 3) 1 0) (gF (sF (sF (sI h3 (gF h3 r0 1) 2 0) r0 2 (gF h3 (gF h3 r0 0) 3)) (gF (sF (sI h3 (gF h3 r0 1) 2 0) r0 2 (gF h3 (gF h3 r0 0) 3)) r0 0) 3 (gF h3 r0 2)) r0 3) 2 0) (gF (sI (sI (sI (sF (sF (sI h3 (gF h3 r0 1) 2 0) r0 2 (gF h3 (gF h3 r0 0) 3)) (gF (sF (sI h3 (gF h3 r0 1) 2 0) r0 2 (gF h3 (gF h3 r0 0) 3)) r0 0) 3 (gF h3 r0 2)) (gF (sF (sF (sI h3 (gF h3 r0 1) 2 0) r0 2 (gF h3 (gF h3 r0 0) 3)) (gF (sF (sI h3 (gF h3 r0 1) 2 0) r0 2 (gF h3 (gF h3 r0 0) 3)) r0 0) 3 (gF h3 r0 2)) r0 3) 0 0) (gF (sF (sF (sI h3 (gF h3 r0 1) 2 0) r0 2 (gF h3 (gF h3 r0 0) 3)) (gF (sF (sI h3 (gF h3 r0 1) 2 0) r0 2 (gF h3 (gF h3 r0 0) 3)) r0 0) 3 (gF h3 r0 2)) r0 3) 1 0) (gF (sF (sF (sI h3 (gF h3 r0 1) 2 0) r0 2 (gF h3 (gF h3 r0 0) 3)) (gF (sF (sI h3 (gF h3 r0 1) 2 0) r0 2 (gF h3 (gF h3 r0 0) 3)) r0 0) 3 (gF h3 r0 2)) r0 3) 2 0) r0 5) 5 0) r0 6) 9 0) r0 13) 4 0) r0 2) 0))) (sI (sI (sI (sI (sI (sI (sF (sF (sI h3 (gF h3 r0 1) 2 0) r0 2 (gF h3 (gF h3 r0 0) 3)) (gF (sF (sI h3 (gF h3 r0 1) 2 0) r0 2 (gF h3 (gF h3 r0 0) 3)) r0 0) 3 (gF h3 r0 2)) (gF (sF (sF (sI h3 (gF h3 r0 1) 2 0) r0 2 (gF h3 (gF h3 r0 0) 3)) (gF (sF (sI h3 (gF h3 r0 1) 2 0) r0 2 (gF h3 (gF h3 r0 0) 3)) r0 0) 3 (gF h3 r0 2)) r0 3) 0 0) (gF (sF (sF (sI h3 (gF h3 r0 1) 2 0) r0 2 (gF h3 (gF h3 r0 0) 3)) (gF (sF (sI h3 (gF h3 r0 1) 2 0) r0 2 (gF h3 (gF h3 r0 0) 3)) r0 0) 3 (gF h3 r0 2)) r0 3) 1 0) (gF (sF (sF (sI h3 (gF h3 r0 1) 2 0) r0 2 (gF h3 (gF h3 r0 0) 3)) (gF (sF (sI h3 (gF h3 r0 1) 2 0) r0 2 (gF h3 (gF h3 r0 0) 3)) r0 0) 3 (gF h3 r0 2)) r0 3) 2 0) (gF (sI (sI (sI (sF (sF (sI h3 (gF h3 r0 1) 2 0) r0 2 (gF h3 (gF h3 r0 0) 3)) (gF (sF (sI h3 (gF h3 r0 1) 2 0) r0 2 (gF h3 (gF h3 r0 0) 3)) r0 0) 3 (gF h3 r0 2)) (gF (sF (sF (sI h3 (gF h3 r0 1) 2 0) r0 2 (gF h3 (gF h3 r0 0) 3)) (gF (sF (sI h3 (gF h3 r0 1) 2 0) r0 2 (gF h3 (gF h3 r0 0) 3)) r0 0) 3 (gF h3 r0 2)) r0 3) 0 0) (gF (sF (sF (sI h3 (gF h3 r0 1) 2 0) r0 2 (gF h3 (gF h3 r0 0) 3)) (gF (sF (sI h3 (gF h3 r0 1) 2 0) r0 2 (gF h3 (gF h3 r0 0) 3)) r0 0) 3 (gF h3 r0 2)) r0 3) 1 0) (gF (sF (sF (sI h3 (gF h3 r0 1) 2 0) r0 2 (gF h3 (gF h3 r0 0) 3)) (gF (sF (sI h3 (gF h3 r0 1) 2 0) r0 2 (gF h3 (gF h3 r0 0) 3)) r0 0) 3 (gF h3 r0 2)) r0 3) 2 0) r0 5) 5 0) (gF (sI (sI (sI (sI (sF (sF (sI h3 (gF h3 r0 1) 2 0) r0 2 (gF h3 (gF h3 r0 0) 3)) (gF (sF (sI h3 (gF h3 r0 1) 2 0) r0 2 (gF h3 (gF h3 r0 0) 3)) r0 0) 3 (gF h3 r0 2)) (gF (sF (sF (sI h3 (gF h3 r0 1) 2 0) r0 2 (gF h3 (gF h3 r0 0) 3)) (gF (sF (sI h3 (gF h3 r0 1) 2 0) r0 2 (gF h3 (gF h3 r0 0) 3)) r0 0) 3 (gF h3 r0 2)) r0 3) 0 0) (gF (sF (sF (sI h3 (gF h3 r0 1) 2 0) r0 2 (gF h3 (gF h3 r0 0) 3)) (gF (sF (sI h3 (gF h3 r0 1) 2 0) r0 2 (gF h3 (gF h3 r0 0) 3)) r0 0) 3 (gF h3 r0 2)) r0 3) 1 0) (gF (sF (sF (sI h3 (gF h3 r0 1) 2 0) r0 2 (gF h3 (gF h3 r0 0) 3)) (gF (sF (sI h3 (gF h3 r0 1) 2 0) r0 2 (gF h3 (gF h3 r0 0) 3)) r0 0) 3 (gF h3 r0 2)) r0 3) 2 0) (gF (sI (sI (sI (sF (sF (sI h3 (gF h3 r0 1) 2 0) r0 2 (gF h3 (gF h3 r0 0) 3)) (gF (sF (sI h3 (gF h3 r0 1) 2 0) r0 2 (gF h3 (gF h3 r0 0) 3)) r0 0) 3 (gF h3 r0 2)) (gF (sF (sF (sI h3 (gF h3 r0 1) 2 0) r0 2 (gF h3 (gF h3 r0 0) 3)) (gF (sF (sI h3 (gF h3 r0 1) 2 0) r0 2 (gF h3 (gF h3 r0 0) 3)) r0 0) 3 (gF h3 r0 2)) r0 3) 0 0) (gF (sF (sF (sI h3 (gF h3 r0 1) 2 0) r0 2 (gF h3 (gF h3 r0 0) 3)) (gF (sF (sI h3 (gF h3 r0 1) 2 0) r0 2 (gF h3 (gF h3 r0 0) 3)) r0 0) 3 (gF h3 r0 2)) r0 3) 1 0) (gF (sF (sF (sI h3 (gF h3 r0 1) 2 0) r0 2 (gF h3 (gF h3 r0 0) 3)) (gF (sF (sI h3 (gF h3 r0 1) 2 0) r0 2 (gF h3 (gF h3 r0 0) 3)) r0 0) 3 (gF h3 r0 2)) r0 3) 2 0) r0 5) 5 0) r0 6) 9 0) (gF (sI (sI (sI (sI (sI (sF (sF (sI h3 (gF h3 r0 1) 2 0) r0 2 (gF h3 (gF h3 r0 0) 3)) (gF (sF (sI h3 (gF h3 r0 1) 2 0) r0 2 (gF h3 (gF h3 r0 0) 3)) r0 0) 3 (gF h3 r0 2)) (gF (sF (sF (sI h3 (gF h3 r0 1) 2 0) r0 2 (gF h3 (gF h3 r0 0) 3)) (gF (sF (sI h3 (gF h3 r0 1) 2 0) r0 2 (gF h3 (gF h3 r0 0) 3)) r0 0) 3 (gF h3 r0 2)) r0 3) 0 0) (gF (sF (sF (sI h3 (gF h3 r0 1) 2 0) r0 2 (gF h3 (gF h3 r0 0) 3)) (gF (sF (sI h3 (gF h3 r0 1) 2 0) r0 2 (gF h3 (gF h3 r0 0) 3)) r0 0) 3 (gF h3 r0 2)) r0 3) 1 0) (gF (sF (sF (sI h3 (gF h3 r0 1) 2 0) r0 2 (gF h3 (gF h3 r0 0) 3)) (gF (sF (sI h3 (gF h3 r0 1) 2 0) r0 2 (gF h3 (gF h3 r0 0) 3)) r0 0) 3 (gF h3 r0 2)) r0 3) 2 0) (gF (sI (sI (sI (sF (sF (sI h3 (gF h3 r0 1) 2 0) r0 2 (gF h3 (gF h3 r0 0) 3)) (gF (sF (sI h3 (gF h3 r0 1) 2 0) r0 2 (gF h3 (gF h3 r0 0) 3)) r0 0) 3 (gF h3 r0 2)) (gF (sF (sF (sI h3 (gF h3 r0 1) 2 0) r0 2 (gF h3 (gF h3 r0 0) 3)) (gF (sF (sI h3 (gF h3 r0 1) 2 0) r0 2 (gF h3 (gF h3 r0 0) 3)) r0 0) 3 (gF h3 r0 2)) r0 3) 0 0) (gF (sF (sF (sI h3 (gF h3 r0 1) 2 0) r0 2 (gF h3 (gF h3 r0 0) 3)) (gF (sF (sI h3 (gF h3 r0 1) 2 0) r0 2 (gF h3 (gF h3 r0 0) 3)) r0 0) 3 (gF h3 r0 2)) r0 3) 1 0) (gF (sF (sF (sI h3 (gF h3 r0 1) 2 0) r0 2 (gF h3 (gF h3 r0 0) 3)) (gF (sF (sI h3 (gF h3 r0 1) 2 0) r0 2 (gF h3 (gF h3 r0 0) 3)) r0 0) 3 (gF h3 r0 2)) r0 3) 2 0) r0 5) 5 0) (gF (sI (sI (sI (sI (sF (sF (sI h3 (gF h3 r0 1) 2 0) r0 2 (gF h3 (gF h3 r0 0) 3)) (gF (sF (sI h3 (gF h3 r0 1) 2 0) r0 2 (gF h3 (gF h3 r0 0) 3)) r0 0) 3 (gF h3 r0 2)) (gF (sF (sF (sI h3 (gF h3 r0 1) 2 0) r0 2 (gF h3 (gF h3 r0 0) 3)) (gF (sF (sI h3 (gF h3 r0 1) 2 0) r0 2 (gF h3 (gF h3 r0 0) 3)) r0 0) 3 (gF h3 r0 2)) r0 3) 0 0) (gF (sF (sF (sI h3 (gF h3 r0 1) 2 0) r0 2 (gF h3 (gF h3 r0 0) 3)) (gF (sF (sI h3 (gF h3 r0 1) 2 0) r0 2 (gF h3 (gF h3 r0 0) 3)) r0 0) 3 (gF h3 r0 2)) r0 3) 1 0) (gF (sF (sF (sI h3 (gF h3 r0 1) 2 0) r0 2 (gF h3 (gF h3 r0 0) 3)) (gF (sF (sI h3 (gF h3 r0 1) 2 0) r0 2 (gF h3 (gF h3 r0 0) 3)) r0 0) 3 (gF h3 r0 2)) r0 3) 2 0) (gF (sI (sI (sI (sF (sF (sI h3 (gF h3 r0 1) 2 0) r0 2 (gF h3 (gF h3 r0 0) 3)) (gF (sF (sI h3 (gF h3 r0 1) 2 0) r0 2 (gF h3 (gF h3 r0 0) 3)) r0 0) 3 (gF h3 r0 2)) (gF (sF (sF (sI h3 (gF h3 r0 1) 2 0) r0 2 (gF h3 (gF h3 r0 0) 3)) (gF (sF (sI h3 (gF h3 r0 1) 2 0) r0 2 (gF h3 (gF h3 r0 0) 3)) r0 0) 3 (gF h3 r0 2)) r0 3) 0 0) (gF (sF (sF (sI h3 (gF h3 r0 1) 2 0) r0 2 (gF h3 (gF h3 r0 0) 3)) (gF (sF (sI h3 (gF h3 r0 1) 2 0) r0 2 (gF h3 (gF h3 r0 0) 3)) r0 0) 3 (gF h3 r0 2)) r0 3) 1 0) (gF (sF (sF (sI h3 (gF h3 r0 1) 2 0) r0 2 (gF h3 (gF h3 r0 0) 3)) (gF (sF (sI h3 (gF h3 r0 1) 2 0) r0 2 (gF h3 (gF h3 r0 0) 3)) r0 0) 3 (gF h3 r0 2)) r0 3) 2 0) r0 5) 5 0) r0 6) 9 0) r0 13) 4 0))))))))) ∧ (z4 = 0 → P (some (.int (-1))) (sI h3 (gF h3 r0 1) 2 0))))))))) : Rr mX11_job 0 0 0 [(0, .ref r0)] [] h P := by
  refine R_aload_n dX11_job_0 rfl 0 rfl ?_
  obtain ⟨ob1, hf⟩ := hf
  refine G11_0 dX11_job_1 lfX11_10 ob1 ?_
  obtain ⟨ob2, hf⟩ := hf
  refine R_callV (ci := 4) (N := mX4_isJob) (as := []) (rest := []) (kc2 := 0) (ks2 := 0) dX11_job_4 lmX11_105 oX4_isJob (Nat.le_of_ble_eq_true rfl) rfl rfl (Nat.le_of_ble_eq_true rfl) rfl rfl ob2 ok4 (Call.mono hf ?_)
  rintro _ h3 ⟨z4, rfl, hf⟩
  refine R_istore_n dX11_job_7 rfl (by decide) rfl ?_
  refine R_aload_n dX11_job_8 rfl 1 rfl ?_
  obtain ⟨ob5, hf⟩ := hf
  refine G11_1 dX11_job_9 lfX11_20 ob5 ?_
  refine R_iconst (v := 0) dX11_job_12 (by decide) ?_
  obtain ⟨ob6, hf⟩ := hf
  refine S9_2 dX11_job_13 lfX11_95 ob6 ?_
  refine R_iload_n dX11_job_16 rfl 0 rfl ?_
  refine R_if_ne (tgt := 22) dX11_job_17 (by decide) (fun b7 => ?_) (fun b7 => ?_)
  · have hf := hf.1 b7
    refine R_aload_n dX11_job_22 rfl 1 rfl ?_
    refine G11_2 dX11_job_23 lfX11_24 ob5 ?_
    refine R_eqF (y := gF h3 r0 2) rfl ?_
    refine R_astore_n dX11_job_26 rfl (by decide) rfl ?_
    refine R_aload_n dX11_job_27 rfl 2 rfl ?_
    refine R_aload_n dX11_job_28 rfl 2 rfl ?_
    refine G11_0 dX11_job_29 lfX11_10 ob5 ?_
    refine R_eqF (y := gF h3 r0 0) rfl ?_
    obtain ⟨ob8, hf⟩ := hf
    refine G4_3 dX11_job_32 lfX11_109 ob8 ?_
    refine R_eqF (y := gF h3 (gF h3 r0 0) 3) rfl ?_
    refine S11_2 dX11_job_35 lfX11_24 ob5 ?_
    refine R_aload_n dX11_job_38 rfl 2 rfl ?_
    refine G11_0 dX11_job_39 lfX11_10 ob5 ?_
    refine R_aload_n dX11_job_42 rfl 0 rfl ?_
    obtain ⟨ob9, hf⟩ := hf
    refine S4_3 dX11_job_43 lfX11_109 ob9 ?_
    refine R_aload_n dX11_job_46 rfl 2 rfl ?_
    refine G11_3 dX11_job_47 lfX11_31 ob5 ?_
    obtain ⟨ob10, hf⟩ := hf
    refine R_callV (ci := 7) (N := mX7_forget) (as := []) (rest := []) (kc2 := 0) (ks2 := 0) dX11_job_50 lmX11_112 oX7_forget (Nat.le_of_ble_eq_true rfl) rfl rfl (Nat.le_of_ble_eq_true rfl) rfl rfl ob10 ok7 (aX7_forget ob10 ?_)
    refine R_aload_n dX11_job_53 rfl 2 rfl ?_
    refine G11_5 dX11_job_54 lfX11_45 ob5 ?_
    obtain ⟨ob11, hf⟩ := hf
    refine R_callV (ci := 6) (N := mX6_forget) (as := []) (rest := []) (kc2 := 0) (ks2 := 0) dX11_job_57 lmX11_115 oX6_forget (Nat.le_of_ble_eq_true rfl) rfl rfl (Nat.le_of_ble_eq_true rfl) rfl rfl ob11 ok6 (aX6_forget ob11 ?_)
    refine R_aload_n dX11_job_60 rfl 2 rfl ?_
    refine G11_6 dX11_job_61 lfX11_52 ob5 ?_
    obtain ⟨ob12, hf⟩ := hf
    refine R_callV (ci := 5) (N := mX5_forget) (as := []) (rest := []) (kc2 := 0) (ks2 := 0) dX11_job_64 lmX11_116 oX5_forget (Nat.le_of_ble_eq_true rfl) rfl rfl (Nat.le_of_ble_eq_true rfl) rfl rfl ob12 ok5 (aX5_forget ob12 ?_)
    refine R_aload_n dX11_job_67 rfl 2 rfl ?_
    refine G11_13 dX11_job_68 lfX11_88 ob5 ?_
    obtain ⟨ob13, hf⟩ := hf
    refine R_callV (ci := 10) (N := mX10_forget) (as := []) (rest := []) (kc2 := 0) (ks2 := 0) dX11_job_71 lmX11_117 oX10_forget (Nat.le_of_ble_eq_true rfl) rfl rfl (Nat.le_of_ble_eq_true rfl) rfl rfl ob13 ok10 (aX10_forget ob13 ?_)
    refine R_aload_n dX11_job_74 rfl 2 rfl ?_
    refine G11_2 dX11_job_75 lfX11_24 ob5 ?_
    obtain ⟨ob14, hf⟩ := hf
    refine G3_0 dX11_job_78 lfX11_118 ob14 ?_
    exact R_iret dX11_job_81 rfl rfl hf
  · have hf := hf.2 b7
    refine R_iconst (v := (-1)) dX11_job_20 (by decide) ?_
    exact R_iret dX11_job_21 rfl rfl hf
theorem dX12_job_0 : decode cX12_job 0 = .ok (.aload_n 0, 1) := by decide +kernel
theorem dX12_job_1 : decode cX12_job 1 = .ok (.invokevirtual 250, 3) := by decide +kernel
theorem dX12_job_4 : decode cX12_job 4 = .ok (.aload_n 0, 1) := by decide +kernel
theorem dX12_job_5 : decode cX12_job 5 = .ok (.iconst 0, 1) := by decide +kernel
theorem dX12_job_6 : decode cX12_job 6 = .ok (.putfield 172, 3) := by decide +kernel
theorem dX12_job_9 : decode cX12_job 9 = .ok (.aload_n 0, 1) := by decide +kernel
theorem dX12_job_10 : decode cX12_job 10 = .ok (.iconst (-1), 1) := by decide +kernel
theorem dX12_job_11 : decode cX12_job 11 = .ok (.putfield 13, 3) := by decide +kernel
theorem dX12_job_14 : decode cX12_job 14 = .ok (.aload_n 0, 1) := by decide +kernel
theorem dX12_job_15 : decode cX12_job 15 = .ok (.invokevirtual 115, 3) := by decide +kernel
theorem dX12_job_18 : decode cX12_job 18 = .ok (.iconst 0, 1) := by decide +kernel
theorem dX12_job_19 : decode cX12_job 19 = .ok (.istore_n 1, 1) := by decide +kernel
theorem dX12_job_20 : decode cX12_job 20 = .ok (.aload_n 0, 1) := by decide +kernel
theorem dX12_job_21 : decode cX12_job 21 = .ok (.getfield 152, 3) := by decide +kernel
theorem dX12_job_24 : decode cX12_job 24 = .ok (.iconst 5, 1) := by decide +kernel
theorem dX12_job_25 : decode cX12_job 25 = .ok (.if_icmp .eq 38, 3) := by decide +kernel
theorem dX12_job_28 : decode cX12_job 28 = .ok (.aload_n 0, 1) := by decide +kernel
theorem dX12_job_29 : decode cX12_job 29 = .ok (.invokevirtual 253, 3) := by decide +kernel
theorem dX12_job_32 : decode cX12_job 32 = .ok (.ifCond .ne 5, 3) := by decide +kernel
theorem dX12_job_35 : decode cX12_job 35 = .ok (.iconst (-1), 1) := by decide +kernel
theorem dX12_job_36 : decode cX12_job 36 = .ok (.ireturn, 1) := by decide +kernel
theorem dX12_job_37 : decode cX12_job 37 = .ok (.aload_n 0, 1) := by decide +kernel
theorem dX12_job_38 : decode cX12_job 38 = .ok (.getfield 152, 3) := by decide +kernel
theorem dX12_job_41 : decode cX12_job 41 = .ok (.iconst 3, 1) := by decide +kernel
theorem dX12_job_42 : decode cX12_job 42 = .ok (.if_icmp .eq 11, 3) := by decide +kernel
theorem dX12_job_45 : decode cX12_job 45 = .ok (.aload_n 0, 1) := by decide +kernel
theorem dX12_job_46 : decode cX12_job 46 = .ok (.iconst 1, 1) := by decide +kernel
theorem dX12_job_47 : decode cX12_job 47 = .ok (.invokevirtual 175, 3) := by decide +kernel
theorem dX12_job_50 : decode cX12_job 50 = .ok (.pop, 1) := by decide +kernel
theorem dX12_job_51 : decode cX12_job 51 = .ok (.iconst (-1), 1) := by decide +kernel
theorem dX12_job_52 : decode cX12_job 52 = .ok (.ireturn, 1) := by decide +kernel
theorem dX12_job_53 : decode cX12_job 53 = .ok (.aload_n 0, 1) := by decide +kernel
theorem dX12_job_54 : decode cX12_job 54 = .ok (.invokevirtual 169, 3) := by decide +kernel
theorem dX12_job_57 : decode cX12_job 57 = .ok (.iinc 1 1, 3) := by decide +kernel
theorem dX12_job_60 : decode cX12_job 60 = .ok (.goto (-40), 3) := by decide +kernel
theorem dX12_job_63 : decode cX12_job 63 = .ok (.aload_n 0, 1) := by decide +kernel
theorem dX12_job_64 : decode cX12_job 64 = .ok (.invokevirtual 118, 3) := by decide +kernel
theorem dX12_job_67 : decode cX12_job 67 = .ok (.aload_n 0, 1) := by decide +kernel
theorem dX12_job_68 : decode cX12_job 68 = .ok (.iload_n 1, 1) := by decide +kernel
theorem dX12_job_69 : decode cX12_job 69 = .ok (.putfield 256, 3) := by decide +kernel
theorem dX12_job_72 : decode cX12_job 72 = .ok (.iload_n 1, 1) := by decide +kernel
theorem dX12_job_73 : decode cX12_job 73 = .ok (.ireturn, 1) := by decide +kernel
set_option maxRecDepth 20000 in
theorem sX12_job_0 {P : Option Value → AH → Prop} (h : AH) (r0 : Nat) (hf : (isO h 12 r0) ∧ (Call mX12_start [.ref r0] h (fun v h2 => v = none ∧ ((isO h2 12 r0) ∧ (Call mX12_begin [.ref r0] (sI (sI h2 r0 8 0) r0 9 (-1)) (fun v h4 => v = none ∧ (Rr mX12_job 0 0 20 [(0, .ref r0), (1, .int 0)] [] h4 P))))))) : Rr mX12_job 0 0 0 [(0, .ref r0)] [] h P := by
  refine R_aload_n dX12_job_0 rfl 0 rfl ?_
  obtain ⟨ob1, hf⟩ := hf
  refine R_callV (ci := 12) (N := mX12_start) (as := []) (rest := []) (kc2 := 0) (ks2 := 0) dX12_job_1 lmX12_250 oX12_start (Nat.le_of_ble_eq_true rfl) rfl rfl (Nat.le_of_ble_eq_true rfl) rfl rfl ob1 ok12 (Call.mono hf ?_)
  rintro _ h2 ⟨rfl, hf⟩
  refine R_aload_n dX12_job_4 rfl 0 rfl ?_
  refine R_iconst (v := 0) dX12_job_5 (by decide) ?_
  obtain ⟨ob3, hf⟩ := hf
  refine S12_8 dX12_job_6 lfX12_172 ob3 ?_
  refine R_aload_n dX12_job_9 rfl 0 rfl ?_
  refine R_iconst (v := (-1)) dX12_job_10 (by decide) ?_
  refine S12_9 dX12_job_11 lfX12_13 ob3 ?_
  refine R_aload_n dX12_job_14 rfl 0 rfl ?_
  refine R_callV (ci := 12) (N := mX12_begin) (as := []) (rest := []) (kc2 := 0) (ks2 := 0) dX12_job_15 lmX12_115 oX12_begin (Nat.le_of_ble_eq_true rfl) rfl rfl (Nat.le_of_ble_eq_true rfl) rfl rfl ob3 ok12 (Call.mono hf ?_)
  rintro _ h4 ⟨rfl, hf⟩
  refine R_iconst (v := 0) dX12_job_18 (by decide) ?_
  refine R_istore_n dX12_job_19 rfl (by decide) rfl ?_
  exact R_sub [1, 0] rfl hf
set_option maxRecDepth 20000 in
theorem sX12_job_20 {P : Option Value → AH → Prop} (h : AH) (r0 : Nat) (x1 : Int32) (hf : (isO h 12 r0) ∧ (((gI h r0 3) = 5 → Call mX12_settle [.ref r0] h (fun v h3 => v = none ∧ ((isO h3 12 r0) ∧ (P (some (.int x1)) (sI h3 r0 20 x1))))) ∧ (¬ (gI h r0 3) = 5 → Call mX12_readClause [.ref r0] h (fun v h5 => ∃ z6 : Int32, v = some (.int z6) ∧ ((¬ z6 = 0 → (isO h5 12 r0) ∧ (((gI h5 r0 3) = 3 → Call mX12_scan [.ref r0] h5 (fun v h10 => v = none ∧ (Rr mX12_job 0 0 20 [(0, .ref r0), (1, .int (x1 + 1))] [] h10 P))) ∧ (¬ (gI h5 r0 3) = 3 → Call mX12_fails [.ref r0, .int 1] h5 (fun v h11 => ∃ z12 : Int32, v = some (.int z12) ∧ (P (some (.int (-1))) h11))))) ∧ (z6 = 0 → P (some (.int (-1))) h5)))))) : Rr mX12_job 0 0 20 [(0, .ref r0), (1, .int x1)] [] h P := by
  refine R_aload_n dX12_job_20 rfl 0 rfl ?_
  obtain ⟨ob1, hf⟩ := hf
  refine G12_3 dX12_job_21 lfX12_152 ob1 ?_
  refine R_iconst (v := 5) dX12_job_24 (by decide) ?_
  refine R_icmp_eq (tgt := 63) dX12_job_25 (by decide) (fun b2 => ?_) (fun b2 => ?_)
  · have hf := hf.1 b2
    refine R_aload_n dX12_job_63 rfl 0 rfl ?_
    refine R_callV (ci := 12) (N := mX12_settle) (as := []) (rest := []) (kc2 := 0) (ks2 := 0) dX12_job_64 lmX12_118 oX12_settle (Nat.le_of_ble_eq_true rfl) rfl rfl (Nat.le_of_ble_eq_true rfl) rfl rfl ob1 ok12 (Call.mono hf ?_)
    rintro _ h3 ⟨rfl, hf⟩
    refine R_aload_n dX12_job_67 rfl 0 rfl ?_
    refine R_iload_n dX12_job_68 rfl 1 rfl ?_
    obtain ⟨ob4, hf⟩ := hf
    refine S12_20 dX12_job_69 lfX12_256 ob4 ?_
    refine R_iload_n dX12_job_72 rfl 1 rfl ?_
    exact R_iret dX12_job_73 rfl rfl hf
  · have hf := hf.2 b2
    refine R_aload_n dX12_job_28 rfl 0 rfl ?_
    refine R_callV (ci := 12) (N := mX12_readClause) (as := []) (rest := []) (kc2 := 0) (ks2 := 0) dX12_job_29 lmX12_253 oX12_readClause (Nat.le_of_ble_eq_true rfl) rfl rfl (Nat.le_of_ble_eq_true rfl) rfl rfl ob1 ok12 (Call.mono hf ?_)
    rintro _ h5 ⟨z6, rfl, hf⟩
    refine R_if_ne (tgt := 37) dX12_job_32 (by decide) (fun b7 => ?_) (fun b7 => ?_)
    · have hf := hf.1 b7
      refine R_aload_n dX12_job_37 rfl 0 rfl ?_
      obtain ⟨ob8, hf⟩ := hf
      refine G12_3 dX12_job_38 lfX12_152 ob8 ?_
      refine R_iconst (v := 3) dX12_job_41 (by decide) ?_
      refine R_icmp_eq (tgt := 53) dX12_job_42 (by decide) (fun b9 => ?_) (fun b9 => ?_)
      · have hf := hf.1 b9
        refine R_aload_n dX12_job_53 rfl 0 rfl ?_
        refine R_callV (ci := 12) (N := mX12_scan) (as := []) (rest := []) (kc2 := 0) (ks2 := 0) dX12_job_54 lmX12_169 oX12_scan (Nat.le_of_ble_eq_true rfl) rfl rfl (Nat.le_of_ble_eq_true rfl) rfl rfl ob8 ok12 (Call.mono hf ?_)
        rintro _ h10 ⟨rfl, hf⟩
        refine R_iinc (v := x1 + 1) dX12_job_57 1 rfl rfl (by decide) rfl ?_
        refine R_goto (tgt := 20) dX12_job_60 (by decide) ?_
        exact R_sub [1, 0] rfl hf
      · have hf := hf.2 b9
        refine R_aload_n dX12_job_45 rfl 0 rfl ?_
        refine R_iconst (v := 1) dX12_job_46 (by decide) ?_
        refine R_callV (ci := 12) (N := mX12_fails) (as := [.int 1]) (rest := []) (kc2 := 0) (ks2 := 0) dX12_job_47 lmX12_175 oX12_fails (Nat.le_of_ble_eq_true rfl) rfl rfl (Nat.le_of_ble_eq_true rfl) rfl rfl ob8 ok12 (Call.mono hf ?_)
        rintro _ h11 ⟨z12, rfl, hf⟩
        refine R_pop dX12_job_50 rfl ?_
        refine R_iconst (v := (-1)) dX12_job_51 (by decide) ?_
        exact R_iret dX12_job_52 rfl rfl hf
    · have hf := hf.2 b7
      refine R_iconst (v := (-1)) dX12_job_35 (by decide) ?_
      exact R_iret dX12_job_36 rfl rfl hf
