theorem dX9_takeRow_0 : decode cX9_takeRow 0 = .ok (.iconst 0, 1) := by decide +kernel
theorem dX9_takeRow_1 : decode cX9_takeRow 1 = .ok (.istore 4, 2) := by decide +kernel
theorem dX9_takeRow_3 : decode cX9_takeRow 3 = .ok (.iconst 1, 1) := by decide +kernel
theorem dX9_takeRow_4 : decode cX9_takeRow 4 = .ok (.istore 5, 2) := by decide +kernel
theorem dX9_takeRow_6 : decode cX9_takeRow 6 = .ok (.aload_n 0, 1) := by decide +kernel
theorem dX9_takeRow_7 : decode cX9_takeRow 7 = .ok (.invokevirtual 64, 3) := by decide +kernel
theorem dX9_takeRow_10 : decode cX9_takeRow 10 = .ok (.aload_n 0, 1) := by decide +kernel
theorem dX9_takeRow_11 : decode cX9_takeRow 11 = .ok (.invokevirtual 67, 3) := by decide +kernel
theorem dX9_takeRow_14 : decode cX9_takeRow 14 = .ok (.iload 5, 2) := by decide +kernel
theorem dX9_takeRow_16 : decode cX9_takeRow 16 = .ok (.ifCond .eq 99, 3) := by decide +kernel
theorem dX9_takeRow_19 : decode cX9_takeRow 19 = .ok (.iload 4, 2) := by decide +kernel
theorem dX9_takeRow_21 : decode cX9_takeRow 21 = .ok (.aload_n 1, 1) := by decide +kernel
theorem dX9_takeRow_22 : decode cX9_takeRow 22 = .ok (.arraylength, 1) := by decide +kernel
theorem dX9_takeRow_23 : decode cX9_takeRow 23 = .ok (.if_icmp .ge 92, 3) := by decide +kernel
theorem dX9_takeRow_26 : decode cX9_takeRow 26 = .ok (.aload_n 0, 1) := by decide +kernel
theorem dX9_takeRow_27 : decode cX9_takeRow 27 = .ok (.getfield 32, 3) := by decide +kernel
theorem dX9_takeRow_30 : decode cX9_takeRow 30 = .ok (.ifCond .eq 85, 3) := by decide +kernel
theorem dX9_takeRow_33 : decode cX9_takeRow 33 = .ok (.iload_n 3, 1) := by decide +kernel
theorem dX9_takeRow_34 : decode cX9_takeRow 34 = .ok (.ifCond .eq 15, 3) := by decide +kernel
theorem dX9_takeRow_37 : decode cX9_takeRow 37 = .ok (.aload_n 0, 1) := by decide +kernel
theorem dX9_takeRow_38 : decode cX9_takeRow 38 = .ok (.getfield 32, 3) := by decide +kernel
theorem dX9_takeRow_41 : decode cX9_takeRow 41 = .ok (.iconst 4, 1) := by decide +kernel
theorem dX9_takeRow_42 : decode cX9_takeRow 42 = .ok (.if_icmp .ne 7, 3) := by decide +kernel
theorem dX9_takeRow_45 : decode cX9_takeRow 45 = .ok (.iconst 1, 1) := by decide +kernel
theorem dX9_takeRow_46 : decode cX9_takeRow 46 = .ok (.goto 4, 3) := by decide +kernel
theorem dX9_takeRow_49 : decode cX9_takeRow 49 = .ok (.iconst 0, 1) := by decide +kernel
theorem dX9_takeRow_50 : decode cX9_takeRow 50 = .ok (.istore 6, 2) := by decide +kernel
theorem dX9_takeRow_52 : decode cX9_takeRow 52 = .ok (.iload 6, 2) := by decide +kernel
theorem dX9_takeRow_54 : decode cX9_takeRow 54 = .ok (.ifCond .eq 7, 3) := by decide +kernel
theorem dX9_takeRow_57 : decode cX9_takeRow 57 = .ok (.aload_n 0, 1) := by decide +kernel
theorem dX9_takeRow_58 : decode cX9_takeRow 58 = .ok (.invokevirtual 67, 3) := by decide +kernel
theorem dX9_takeRow_61 : decode cX9_takeRow 61 = .ok (.aload_n 0, 1) := by decide +kernel
theorem dX9_takeRow_62 : decode cX9_takeRow 62 = .ok (.getfield 32, 3) := by decide +kernel
theorem dX9_takeRow_65 : decode cX9_takeRow 65 = .ok (.iconst 2, 1) := by decide +kernel
theorem dX9_takeRow_66 : decode cX9_takeRow 66 = .ok (.if_icmp .ne 15, 3) := by decide +kernel
theorem dX9_takeRow_69 : decode cX9_takeRow 69 = .ok (.aload_n 0, 1) := by decide +kernel
theorem dX9_takeRow_70 : decode cX9_takeRow 70 = .ok (.getfield 29, 3) := by decide +kernel
theorem dX9_takeRow_73 : decode cX9_takeRow 73 = .ok (.iload_n 2, 1) := by decide +kernel
theorem dX9_takeRow_74 : decode cX9_takeRow 74 = .ok (.if_icmp .gt 7, 3) := by decide +kernel
theorem dX9_takeRow_77 : decode cX9_takeRow 77 = .ok (.iconst 1, 1) := by decide +kernel
theorem dX9_takeRow_78 : decode cX9_takeRow 78 = .ok (.goto 4, 3) := by decide +kernel
theorem dX9_takeRow_81 : decode cX9_takeRow 81 = .ok (.iconst 0, 1) := by decide +kernel
theorem dX9_takeRow_82 : decode cX9_takeRow 82 = .ok (.istore 5, 2) := by decide +kernel
theorem dX9_takeRow_84 : decode cX9_takeRow 84 = .ok (.aload_n 1, 1) := by decide +kernel
theorem dX9_takeRow_85 : decode cX9_takeRow 85 = .ok (.iload 4, 2) := by decide +kernel
theorem dX9_takeRow_87 : decode cX9_takeRow 87 = .ok (.iload 6, 2) := by decide +kernel
theorem dX9_takeRow_89 : decode cX9_takeRow 89 = .ok (.ifCond .eq 11, 3) := by decide +kernel
theorem dX9_takeRow_92 : decode cX9_takeRow 92 = .ok (.aload_n 0, 1) := by decide +kernel
theorem dX9_takeRow_93 : decode cX9_takeRow 93 = .ok (.getfield 29, 3) := by decide +kernel
theorem dX9_takeRow_96 : decode cX9_takeRow 96 = .ok (.ineg, 1) := by decide +kernel
theorem dX9_takeRow_97 : decode cX9_takeRow 97 = .ok (.goto 7, 3) := by decide +kernel
theorem dX9_takeRow_100 : decode cX9_takeRow 100 = .ok (.aload_n 0, 1) := by decide +kernel
theorem dX9_takeRow_101 : decode cX9_takeRow 101 = .ok (.getfield 29, 3) := by decide +kernel
theorem dX9_takeRow_104 : decode cX9_takeRow 104 = .ok (.iastore, 1) := by decide +kernel
theorem dX9_takeRow_105 : decode cX9_takeRow 105 = .ok (.iinc 4 1, 3) := by decide +kernel
theorem dX9_takeRow_108 : decode cX9_takeRow 108 = .ok (.aload_n 0, 1) := by decide +kernel
theorem dX9_takeRow_109 : decode cX9_takeRow 109 = .ok (.invokevirtual 67, 3) := by decide +kernel
theorem dX9_takeRow_112 : decode cX9_takeRow 112 = .ok (.goto (-98), 3) := by decide +kernel
theorem dX9_takeRow_115 : decode cX9_takeRow 115 = .ok (.iload 5, 2) := by decide +kernel
theorem dX9_takeRow_117 : decode cX9_takeRow 117 = .ok (.ifCond .eq 14, 3) := by decide +kernel
theorem dX9_takeRow_120 : decode cX9_takeRow 120 = .ok (.aload_n 0, 1) := by decide +kernel
theorem dX9_takeRow_121 : decode cX9_takeRow 121 = .ok (.getfield 32, 3) := by decide +kernel
theorem dX9_takeRow_124 : decode cX9_takeRow 124 = .ok (.ifCond .ne 7, 3) := by decide +kernel
theorem dX9_takeRow_127 : decode cX9_takeRow 127 = .ok (.iconst 1, 1) := by decide +kernel
theorem dX9_takeRow_128 : decode cX9_takeRow 128 = .ok (.goto 4, 3) := by decide +kernel
theorem dX9_takeRow_131 : decode cX9_takeRow 131 = .ok (.iconst 0, 1) := by decide +kernel
theorem dX9_takeRow_132 : decode cX9_takeRow 132 = .ok (.istore 5, 2) := by decide +kernel
theorem dX9_takeRow_134 : decode cX9_takeRow 134 = .ok (.aload_n 0, 1) := by decide +kernel
theorem dX9_takeRow_135 : decode cX9_takeRow 135 = .ok (.iconst 0, 1) := by decide +kernel
theorem dX9_takeRow_136 : decode cX9_takeRow 136 = .ok (.putfield 15, 3) := by decide +kernel
theorem dX9_takeRow_139 : decode cX9_takeRow 139 = .ok (.iload 5, 2) := by decide +kernel
theorem dX9_takeRow_141 : decode cX9_takeRow 141 = .ok (.ifCond .eq 8, 3) := by decide +kernel
theorem dX9_takeRow_144 : decode cX9_takeRow 144 = .ok (.iload 4, 2) := by decide +kernel
theorem dX9_takeRow_146 : decode cX9_takeRow 146 = .ok (.goto 4, 3) := by decide +kernel
theorem dX9_takeRow_149 : decode cX9_takeRow 149 = .ok (.iconst (-1), 1) := by decide +kernel
theorem dX9_takeRow_150 : decode cX9_takeRow 150 = .ok (.ireturn, 1) := by decide +kernel
set_option maxRecDepth 20000 in
theorem sX9_takeRow_0 {P : Option Value → AH → Prop} (h : AH) (r0 : Nat) (r1 : Nat) (x2 : Int32) (x3 : Int32) (hf : (isO h 9 r0) ∧ (Call mX9_next [.ref r0] (sI h r0 1 0) (fun v h2 => v = none ∧ (Rr mX9_takeRow 0 0 14 [(0, .ref r0), (1, .ref r1), (2, .int x2), (3, .int x3), (4, .int 0), (5, .int 1)] [] h2 P)))) : Rr mX9_takeRow 0 0 0 [(0, .ref r0), (1, .ref r1), (2, .int x2), (3, .int x3)] [] h P := by
  refine R_iconst (v := 0) dX9_takeRow_0 (by decide) ?_
  refine R_istore dX9_takeRow_1 (by decide) rfl ?_
  refine R_iconst (v := 1) dX9_takeRow_3 (by decide) ?_
  refine R_istore dX9_takeRow_4 (by decide) rfl ?_
  refine R_aload_n dX9_takeRow_6 rfl 2 rfl ?_
  obtain ⟨ob1, hf⟩ := hf
  refine R_callV (ci := 9) (N := mX9_rewind) (as := []) (rest := []) (kc2 := 0) (ks2 := 0) dX9_takeRow_7 lmX9_64 oX9_rewind (Nat.le_of_ble_eq_true rfl) rfl rfl (Nat.le_of_ble_eq_true rfl) rfl rfl ob1 ok9 (aX9_rewind ob1 ?_)
  refine R_aload_n dX9_takeRow_10 rfl 2 rfl ?_
  refine R_callV (ci := 9) (N := mX9_next) (as := []) (rest := []) (kc2 := 0) (ks2 := 0) dX9_takeRow_11 lmX9_67 oX9_next (Nat.le_of_ble_eq_true rfl) rfl rfl (Nat.le_of_ble_eq_true rfl) rfl rfl ob1 ok9 (Call.mono hf ?_)
  rintro _ h2 ⟨rfl, hf⟩
  exact R_sub [2, 3, 4, 5, 1, 0] rfl hf
set_option maxRecDepth 20000 in
theorem sX9_takeRow_14 {P : Option Value → AH → Prop} (h : AH) (r0 : Nat) (r1 : Nat) (x2 : Int32) (x3 : Int32) (x4 : Int32) (x5 : Int32) (hf : (x5 = 0 → (isO h 9 r0) ∧ (∀ z6 : Int32, z6 = (if (¬ x5 = 0 ∧ (gI h r0 3) = 0) then x4 else (-1)) → (P (some (.int z6)) (sI h r0 2 0)))) ∧ (¬ x5 = 0 → (isA h 0 r1) ∧ (((Int32.ofNat (ln r1)) ≤ x4 → (isO h 9 r0) ∧ (∀ z13 : Int32, z13 = (if (¬ x5 = 0 ∧ (gI h r0 3) = 0) then x4 else (-1)) → (P (some (.int z13)) (sI h r0 2 0)))) ∧ (¬ (Int32.ofNat (ln r1)) ≤ x4 → (isO h 9 r0) ∧ (((gI h r0 3) = 0 → ∀ z19 : Int32, z19 = (if (¬ x5 = 0 ∧ (gI h r0 3) = 0) then x4 else (-1)) → (P (some (.int z19)) (sI h r0 2 0))) ∧ (¬ (gI h r0 3) = 0 → (¬ (¬ x3 = 0 ∧ (gI h r0 3) = 4) → ∀ z26 : Int32, z26 = (if (¬ x3 = 0 ∧ (gI h r0 3) = 4) then (-(gI h r0 5)) else (gI h r0 5)) → ((vp_in x4 (ln r1)) ∧ (Call mX9_next [.ref r0] (sI h r1 x4.toNatClampNeg z26) (fun v h28 => v = none ∧ (Rr mX9_takeRow 0 0 14 [(0, .ref r0), (1, .ref r1), (2, .int x2), (3, .int x3), (4, .int (x4 + 1)), (5, .int (bi ((gI h r0 3) = 2 ∧ ¬ x2 < (gI h r0 5))))] [] h28 P))))) ∧ ((¬ x3 = 0 ∧ (gI h r0 3) = 4) → Call mX9_next [.ref r0] h (fun v h29 => v = none ∧ ((isO h29 9 r0) ∧ (∀ z34 : Int32, z34 = (if (¬ x3 = 0 ∧ (gI h r0 3) = 4) then (-(gI h29 r0 5)) else (gI h29 r0 5)) → ((isA h29 0 r1) ∧ ((vp_in x4 (ln r1)) ∧ (Call mX9_next [.ref r0] (sI h29 r1 x4.toNatClampNeg z34) (fun v h37 => v = none ∧ (Rr mX9_takeRow 0 0 14 [(0, .ref r0), (1, .ref r1), (2, .int x2), (3, .int x3), (4, .int (x4 + 1)), (5, .int (bi ((gI h29 r0 3) = 2 ∧ ¬ x2 < (gI h29 r0 5))))] [] h37 P))))))))))))))) : Rr mX9_takeRow 0 0 14 [(0, .ref r0), (1, .ref r1), (2, .int x2), (3, .int x3), (4, .int x4), (5, .int x5)] [] h P := by
  refine R_iload dX9_takeRow_14 5 rfl ?_
  refine R_if_eq (tgt := 115) dX9_takeRow_16 (by decide) (fun b1 => ?_) (fun b1 => ?_)
  · have hf := hf.1 b1
    refine R_iload dX9_takeRow_115 5 rfl ?_
    obtain ⟨ob3, hf⟩ := hf
    have key :  Rr mX9_takeRow 0 0 132 [(0, .ref r0), (4, .int x4)] [.int (bi (¬ x5 = 0 ∧ (gI h r0 3) = 0))] h P := by
      refine R_istore dX9_takeRow_132 (by decide) rfl ?_
      refine R_aload_n dX9_takeRow_134 rfl 1 rfl ?_
      refine R_iconst (v := 0) dX9_takeRow_135 (by decide) ?_
      refine S9_2 dX9_takeRow_136 lfX9_15 ob3 ?_
      refine R_iload dX9_takeRow_139 0 rfl ?_
      have key : ∀ z6 : Int32, z6 = (if (¬ x5 = 0 ∧ (gI h r0 3) = 0) then x4 else (-1)) → Rr mX9_takeRow 0 0 150 [] [.int z6] (sI h r0 2 0) P := by
        intro z6 ez6
        have hf := hf z6 ez6
        exact R_iret dX9_takeRow_150 rfl rfl hf
      refine R_if_eq_b (tgt := 149) dX9_takeRow_141 (by decide) (fun b5 => ?_) (fun b5 => ?_)
      · refine R_iconst (v := (-1)) dX9_takeRow_149 (by decide) ?_
        exact R_sub [] rfl (key _ (by rw [if_neg b5]))
      · refine R_iload dX9_takeRow_144 2 rfl ?_
        refine R_goto (tgt := 150) dX9_takeRow_146 (by decide) ?_
        exact R_sub [] rfl (key _ (by rw [if_pos b5]))
    refine R_if_eq (tgt := 131) dX9_takeRow_117 (by decide) (fun b2 => ?_) (fun b2 => ?_)
    · refine R_iconst (v := 0) dX9_takeRow_131 (by decide) ?_
      have kb := key
      rw [show bi (¬ x5 = 0 ∧ (gI h r0 3) = 0) = 0 from by simp only [bi, b2, false_and, and_false, true_and, and_true, not_true_eq_false, not_false_eq_true, if_true, if_false, true_or, or_true, false_or, or_false, reduceIte]] at kb
      exact R_sub [0, 4] rfl kb
    · refine R_aload_n dX9_takeRow_120 rfl 0 rfl ?_
      refine G9_3 dX9_takeRow_121 lfX9_32 ob3 ?_
      refine R_if_ne (tgt := 131) dX9_takeRow_124 (by decide) (fun b4 => ?_) (fun b4 => ?_)
      · refine R_iconst (v := 0) dX9_takeRow_131 (by decide) ?_
        have kb := key
        rw [show bi (¬ x5 = 0 ∧ (gI h r0 3) = 0) = 0 from by simp only [bi, b2, b4, false_and, and_false, true_and, and_true, not_true_eq_false, not_false_eq_true, if_true, if_false, true_or, or_true, false_or, or_false, reduceIte]] at kb
        exact R_sub [0, 4] rfl kb
      · refine R_iconst (v := 1) dX9_takeRow_127 (by decide) ?_
        refine R_goto (tgt := 132) dX9_takeRow_128 (by decide) ?_
        have kb := key
        rw [show bi (¬ x5 = 0 ∧ (gI h r0 3) = 0) = 1 from by simp only [bi, b2, b4, false_and, and_false, true_and, and_true, not_true_eq_false, not_false_eq_true, if_true, if_false, true_or, or_true, false_or, or_false, reduceIte]] at kb
        exact R_sub [0, 4] rfl kb
  · have hf := hf.2 b1
    refine R_iload dX9_takeRow_19 4 rfl ?_
    refine R_aload_n dX9_takeRow_21 rfl 1 rfl ?_
    obtain ⟨ob7, hf⟩ := hf
    refine R_alen (v := Int32.ofNat (ln r1)) (by decide) dX9_takeRow_22 ob7 rfl ?_
    refine R_icmp_ge (tgt := 115) dX9_takeRow_23 (by decide) (fun b8 => ?_) (fun b8 => ?_)
    · have hf := hf.1 b8
      refine R_iload dX9_takeRow_115 5 rfl ?_
      obtain ⟨ob10, hf⟩ := hf
      have key :  Rr mX9_takeRow 0 0 132 [(0, .ref r0), (4, .int x4)] [.int (bi (¬ x5 = 0 ∧ (gI h r0 3) = 0))] h P := by
        refine R_istore dX9_takeRow_132 (by decide) rfl ?_
        refine R_aload_n dX9_takeRow_134 rfl 1 rfl ?_
        refine R_iconst (v := 0) dX9_takeRow_135 (by decide) ?_
        refine S9_2 dX9_takeRow_136 lfX9_15 ob10 ?_
        refine R_iload dX9_takeRow_139 0 rfl ?_
        have key : ∀ z13 : Int32, z13 = (if (¬ x5 = 0 ∧ (gI h r0 3) = 0) then x4 else (-1)) → Rr mX9_takeRow 0 0 150 [] [.int z13] (sI h r0 2 0) P := by
          intro z13 ez13
          have hf := hf z13 ez13
          exact R_iret dX9_takeRow_150 rfl rfl hf
        refine R_if_eq_b (tgt := 149) dX9_takeRow_141 (by decide) (fun b12 => ?_) (fun b12 => ?_)
        · refine R_iconst (v := (-1)) dX9_takeRow_149 (by decide) ?_
          exact R_sub [] rfl (key _ (by rw [if_neg b12]))
        · refine R_iload dX9_takeRow_144 2 rfl ?_
          refine R_goto (tgt := 150) dX9_takeRow_146 (by decide) ?_
          exact R_sub [] rfl (key _ (by rw [if_pos b12]))
      refine R_if_eq (tgt := 131) dX9_takeRow_117 (by decide) (fun b9 => ?_) (fun b9 => ?_)
      · refine R_iconst (v := 0) dX9_takeRow_131 (by decide) ?_
        have kb := key
        rw [show bi (¬ x5 = 0 ∧ (gI h r0 3) = 0) = 0 from by simp only [bi, b9, false_and, and_false, true_and, and_true, not_true_eq_false, not_false_eq_true, if_true, if_false, true_or, or_true, false_or, or_false, reduceIte]] at kb
        exact R_sub [0, 4] rfl kb
      · refine R_aload_n dX9_takeRow_120 rfl 0 rfl ?_
        refine G9_3 dX9_takeRow_121 lfX9_32 ob10 ?_
        refine R_if_ne (tgt := 131) dX9_takeRow_124 (by decide) (fun b11 => ?_) (fun b11 => ?_)
        · refine R_iconst (v := 0) dX9_takeRow_131 (by decide) ?_
          have kb := key
          rw [show bi (¬ x5 = 0 ∧ (gI h r0 3) = 0) = 0 from by simp only [bi, b9, b11, false_and, and_false, true_and, and_true, not_true_eq_false, not_false_eq_true, if_true, if_false, true_or, or_true, false_or, or_false, reduceIte]] at kb
          exact R_sub [0, 4] rfl kb
        · refine R_iconst (v := 1) dX9_takeRow_127 (by decide) ?_
          refine R_goto (tgt := 132) dX9_takeRow_128 (by decide) ?_
          have kb := key
          rw [show bi (¬ x5 = 0 ∧ (gI h r0 3) = 0) = 1 from by simp only [bi, b9, b11, false_and, and_false, true_and, and_true, not_true_eq_false, not_false_eq_true, if_true, if_false, true_or, or_true, false_or, or_false, reduceIte]] at kb
          exact R_sub [0, 4] rfl kb
    · have hf := hf.2 b8
      refine R_aload_n dX9_takeRow_26 rfl 0 rfl ?_
      obtain ⟨ob14, hf⟩ := hf
      refine G9_3 dX9_takeRow_27 lfX9_32 ob14 ?_
      refine R_if_eq (tgt := 115) dX9_takeRow_30 (by decide) (fun b15 => ?_) (fun b15 => ?_)
      · have hf := hf.1 b15
        refine R_iload dX9_takeRow_115 5 rfl ?_
        have key :  Rr mX9_takeRow 0 0 132 [(0, .ref r0), (4, .int x4)] [.int (bi (¬ x5 = 0 ∧ (gI h r0 3) = 0))] h P := by
          refine R_istore dX9_takeRow_132 (by decide) rfl ?_
          refine R_aload_n dX9_takeRow_134 rfl 1 rfl ?_
          refine R_iconst (v := 0) dX9_takeRow_135 (by decide) ?_
          refine S9_2 dX9_takeRow_136 lfX9_15 ob14 ?_
          refine R_iload dX9_takeRow_139 0 rfl ?_
          have key : ∀ z19 : Int32, z19 = (if (¬ x5 = 0 ∧ (gI h r0 3) = 0) then x4 else (-1)) → Rr mX9_takeRow 0 0 150 [] [.int z19] (sI h r0 2 0) P := by
            intro z19 ez19
            have hf := hf z19 ez19
            exact R_iret dX9_takeRow_150 rfl rfl hf
          refine R_if_eq_b (tgt := 149) dX9_takeRow_141 (by decide) (fun b18 => ?_) (fun b18 => ?_)
          · refine R_iconst (v := (-1)) dX9_takeRow_149 (by decide) ?_
            exact R_sub [] rfl (key _ (by rw [if_neg b18]))
          · refine R_iload dX9_takeRow_144 2 rfl ?_
            refine R_goto (tgt := 150) dX9_takeRow_146 (by decide) ?_
            exact R_sub [] rfl (key _ (by rw [if_pos b18]))
        refine R_if_eq (tgt := 131) dX9_takeRow_117 (by decide) (fun b16 => ?_) (fun b16 => ?_)
        · refine R_iconst (v := 0) dX9_takeRow_131 (by decide) ?_
          have kb := key
          rw [show bi (¬ x5 = 0 ∧ (gI h r0 3) = 0) = 0 from by simp only [bi, b16, false_and, and_false, true_and, and_true, not_true_eq_false, not_false_eq_true, if_true, if_false, true_or, or_true, false_or, or_false, reduceIte]] at kb
          exact R_sub [0, 4] rfl kb
        · refine R_aload_n dX9_takeRow_120 rfl 0 rfl ?_
          refine G9_3 dX9_takeRow_121 lfX9_32 ob14 ?_
          refine R_if_ne (tgt := 131) dX9_takeRow_124 (by decide) (fun b17 => ?_) (fun b17 => ?_)
          · refine R_iconst (v := 0) dX9_takeRow_131 (by decide) ?_
            have kb := key
            rw [show bi (¬ x5 = 0 ∧ (gI h r0 3) = 0) = 0 from by simp only [bi, b16, b17, false_and, and_false, true_and, and_true, not_true_eq_false, not_false_eq_true, if_true, if_false, true_or, or_true, false_or, or_false, reduceIte]] at kb
            exact R_sub [0, 4] rfl kb
          · refine R_iconst (v := 1) dX9_takeRow_127 (by decide) ?_
            refine R_goto (tgt := 132) dX9_takeRow_128 (by decide) ?_
            have kb := key
            rw [show bi (¬ x5 = 0 ∧ (gI h r0 3) = 0) = 1 from by simp only [bi, b16, b17, false_and, and_false, true_and, and_true, not_true_eq_false, not_false_eq_true, if_true, if_false, true_or, or_true, false_or, or_false, reduceIte]] at kb
            exact R_sub [0, 4] rfl kb
      · have hf := hf.2 b15
        refine R_iload_n dX9_takeRow_33 rfl 3 rfl ?_
        have key :  Rr mX9_takeRow 0 0 50 [(0, .ref r0), (1, .ref r1), (2, .int x2), (3, .int x3), (4, .int x4)] [.int (bi (¬ x3 = 0 ∧ (gI h r0 3) = 4))] h P := by
          refine R_istore dX9_takeRow_50 (by decide) rfl ?_
          refine R_iload dX9_takeRow_52 0 rfl ?_
          refine R_if_eq_b (tgt := 61) dX9_takeRow_54 (by decide) (fun b22 => ?_) (fun b22 => ?_)
          · have hf := hf.1 b22
            refine R_aload_n dX9_takeRow_61 rfl 1 rfl ?_
            refine G9_3 dX9_takeRow_62 lfX9_32 ob14 ?_
            refine R_iconst (v := 2) dX9_takeRow_65 (by decide) ?_
            have key :  Rr mX9_takeRow 0 0 82 [(0, .ref r0), (1, .ref r1), (2, .int x2), (3, .int x3), (4, .int x4), (6, .int (bi (¬ x3 = 0 ∧ (gI h r0 3) = 4)))] [.int (bi ((gI h r0 3) = 2 ∧ ¬ x2 < (gI h r0 5)))] h P := by
              refine R_istore dX9_takeRow_82 (by decide) rfl ?_
              refine R_aload_n dX9_takeRow_84 rfl 2 rfl ?_
              refine R_iload dX9_takeRow_85 5 rfl ?_
              refine R_iload dX9_takeRow_87 6 rfl ?_
              have key : ∀ z26 : Int32, z26 = (if (¬ x3 = 0 ∧ (gI h r0 3) = 4) then (-(gI h r0 5)) else (gI h r0 5)) → Rr mX9_takeRow 0 0 104 [(0, .ref r0), (1, .ref r1), (2, .int x2), (3, .int x3), (4, .int x4), (5, .int (bi ((gI h r0 3) = 2 ∧ ¬ x2 < (gI h r0 5))))] [.int z26, .int x4, .ref r1] h P := by
                intro z26 ez26
                have hf := hf z26 ez26
                obtain ⟨ob27, hf⟩ := hf
                refine R_iastore dX9_takeRow_104 ob7 ob27 ?_
                refine R_iinc (v := x4 + 1) dX9_takeRow_105 4 rfl rfl (by decide) rfl ?_
                refine R_aload_n dX9_takeRow_108 rfl 1 rfl ?_
                refine R_callV (ci := 9) (N := mX9_next) (as := []) (rest := []) (kc2 := 0) (ks2 := 0) dX9_takeRow_109 lmX9_67 oX9_next (Nat.le_of_ble_eq_true rfl) rfl rfl (Nat.le_of_ble_eq_true rfl) rfl rfl ob14 ok9 (Call.mono hf ?_)
                rintro _ h28 ⟨rfl, hf⟩
                refine R_goto (tgt := 14) dX9_takeRow_112 (by decide) ?_
                exact R_sub [1, 2, 3, 4, 0, 5] rfl hf
              refine R_if_eq_b (tgt := 100) dX9_takeRow_89 (by decide) (fun b25 => ?_) (fun b25 => ?_)
              · refine R_aload_n dX9_takeRow_100 rfl 1 rfl ?_
                refine G9_5 dX9_takeRow_101 lfX9_29 ob14 ?_
                exact R_sub [1, 2, 3, 4, 5, 0] rfl (key _ (by rw [if_neg b25]))
              · refine R_aload_n dX9_takeRow_92 rfl 1 rfl ?_
                refine G9_5 dX9_takeRow_93 lfX9_29 ob14 ?_
                refine R_ineg dX9_takeRow_96 ?_
                refine R_goto (tgt := 104) dX9_takeRow_97 (by decide) ?_
                exact R_sub [1, 2, 3, 4, 5, 0] rfl (key _ (by rw [if_pos b25]))
            refine R_icmp_ne (tgt := 81) dX9_takeRow_66 (by decide) (fun b23 => ?_) (fun b23 => ?_)
            · refine R_iconst (v := 0) dX9_takeRow_81 (by decide) ?_
              have kb := key
              rw [show bi ((gI h r0 3) = 2 ∧ ¬ x2 < (gI h r0 5)) = 0 from by simp only [bi, b23, false_and, and_false, true_and, and_true, not_true_eq_false, not_false_eq_true, if_true, if_false, true_or, or_true, false_or, or_false, reduceIte]] at kb
              exact R_sub [1, 2, 3, 4, 5, 0] rfl kb
            · refine R_aload_n dX9_takeRow_69 rfl 1 rfl ?_
              refine G9_5 dX9_takeRow_70 lfX9_29 ob14 ?_
              refine R_iload_n dX9_takeRow_73 rfl 3 rfl ?_
              refine R_icmp_gt (tgt := 81) dX9_takeRow_74 (by decide) (fun b24 => ?_) (fun b24 => ?_)
              · refine R_iconst (v := 0) dX9_takeRow_81 (by decide) ?_
                have kb := key
                rw [show bi ((gI h r0 3) = 2 ∧ ¬ x2 < (gI h r0 5)) = 0 from by simp only [bi, b23, b24, false_and, and_false, true_and, and_true, not_true_eq_false, not_false_eq_true, if_true, if_false, true_or, or_true, false_or, or_false, reduceIte]] at kb
                exact R_sub [1, 2, 3, 4, 5, 0] rfl kb
              · refine R_iconst (v := 1) dX9_takeRow_77 (by decide) ?_
                refine R_goto (tgt := 82) dX9_takeRow_78 (by decide) ?_
                have kb := key
                rw [show bi ((gI h r0 3) = 2 ∧ ¬ x2 < (gI h r0 5)) = 1 from by simp only [bi, b23, b24, false_and, and_false, true_and, and_true, not_true_eq_false, not_false_eq_true, if_true, if_false, true_or, or_true, false_or, or_false, reduceIte]] at kb
                exact R_sub [1, 2, 3, 4, 5, 0] rfl kb
          · have hf := hf.2 b22
            refine R_aload_n dX9_takeRow_57 rfl 1 rfl ?_
            refine R_callV (ci := 9) (N := mX9_next) (as := []) (rest := []) (kc2 := 0) (ks2 := 0) dX9_takeRow_58 lmX9_67 oX9_next (Nat.le_of_ble_eq_true rfl) rfl rfl (Nat.le_of_ble_eq_true rfl) rfl rfl ob14 ok9 (Call.mono hf ?_)
            rintro _ h29 ⟨rfl, hf⟩
            refine R_aload_n dX9_takeRow_61 rfl 1 rfl ?_
            obtain ⟨ob30, hf⟩ := hf
            refine G9_3 dX9_takeRow_62 lfX9_32 ob30 ?_
            refine R_iconst (v := 2) dX9_takeRow_65 (by decide) ?_
            have key :  Rr mX9_takeRow 0 0 82 [(0, .ref r0), (1, .ref r1), (2, .int x2), (3, .int x3), (4, .int x4), (6, .int (bi (¬ x3 = 0 ∧ (gI h r0 3) = 4)))] [.int (bi ((gI h29 r0 3) = 2 ∧ ¬ x2 < (gI h29 r0 5)))] h29 P := by
              refine R_istore dX9_takeRow_82 (by decide) rfl ?_
              refine R_aload_n dX9_takeRow_84 rfl 2 rfl ?_
              refine R_iload dX9_takeRow_85 5 rfl ?_
              refine R_iload dX9_takeRow_87 6 rfl ?_
              have key : ∀ z34 : Int32, z34 = (if (¬ x3 = 0 ∧ (gI h r0 3) = 4) then (-(gI h29 r0 5)) else (gI h29 r0 5)) → Rr mX9_takeRow 0 0 104 [(0, .ref r0), (1, .ref r1), (2, .int x2), (3, .int x3), (4, .int x4), (5, .int (bi ((gI h29 r0 3) = 2 ∧ ¬ x2 < (gI h29 r0 5))))] [.int z34, .int x4, .ref r1] h29 P := by
                intro z34 ez34
                have hf := hf z34 ez34
                obtain ⟨ob35, hf⟩ := hf
                obtain ⟨ob36, hf⟩ := hf
                refine R_iastore dX9_takeRow_104 ob35 ob36 ?_
                refine R_iinc (v := x4 + 1) dX9_takeRow_105 4 rfl rfl (by decide) rfl ?_
                refine R_aload_n dX9_takeRow_108 rfl 1 rfl ?_
                refine R_callV (ci := 9) (N := mX9_next) (as := []) (rest := []) (kc2 := 0) (ks2 := 0) dX9_takeRow_109 lmX9_67 oX9_next (Nat.le_of_ble_eq_true rfl) rfl rfl (Nat.le_of_ble_eq_true rfl) rfl rfl ob30 ok9 (Call.mono hf ?_)
                rintro _ h37 ⟨rfl, hf⟩
                refine R_goto (tgt := 14) dX9_takeRow_112 (by decide) ?_
                exact R_sub [1, 2, 3, 4, 0, 5] rfl hf
              refine R_if_eq_b (tgt := 100) dX9_takeRow_89 (by decide) (fun b33 => ?_) (fun b33 => ?_)
              · refine R_aload_n dX9_takeRow_100 rfl 1 rfl ?_
                refine G9_5 dX9_takeRow_101 lfX9_29 ob30 ?_
                exact R_sub [1, 2, 3, 4, 5, 0] rfl (key _ (by rw [if_neg b33]))
              · refine R_aload_n dX9_takeRow_92 rfl 1 rfl ?_
                refine G9_5 dX9_takeRow_93 lfX9_29 ob30 ?_
                refine R_ineg dX9_takeRow_96 ?_
                refine R_goto (tgt := 104) dX9_takeRow_97 (by decide) ?_
                exact R_sub [1, 2, 3, 4, 5, 0] rfl (key _ (by rw [if_pos b33]))
            refine R_icmp_ne (tgt := 81) dX9_takeRow_66 (by decide) (fun b31 => ?_) (fun b31 => ?_)
            · refine R_iconst (v := 0) dX9_takeRow_81 (by decide) ?_
              have kb := key
              rw [show bi ((gI h29 r0 3) = 2 ∧ ¬ x2 < (gI h29 r0 5)) = 0 from by simp only [bi, b31, false_and, and_false, true_and, and_true, not_true_eq_false, not_false_eq_true, if_true, if_false, true_or, or_true, false_or, or_false, reduceIte]] at kb
              exact R_sub [1, 2, 3, 4, 5, 0] rfl kb
            · refine R_aload_n dX9_takeRow_69 rfl 1 rfl ?_
              refine G9_5 dX9_takeRow_70 lfX9_29 ob30 ?_
              refine R_iload_n dX9_takeRow_73 rfl 3 rfl ?_
              refine R_icmp_gt (tgt := 81) dX9_takeRow_74 (by decide) (fun b32 => ?_) (fun b32 => ?_)
              · refine R_iconst (v := 0) dX9_takeRow_81 (by decide) ?_
                have kb := key
                rw [show bi ((gI h29 r0 3) = 2 ∧ ¬ x2 < (gI h29 r0 5)) = 0 from by simp only [bi, b31, b32, false_and, and_false, true_and, and_true, not_true_eq_false, not_false_eq_true, if_true, if_false, true_or, or_true, false_or, or_false, reduceIte]] at kb
                exact R_sub [1, 2, 3, 4, 5, 0] rfl kb
              · refine R_iconst (v := 1) dX9_takeRow_77 (by decide) ?_
                refine R_goto (tgt := 82) dX9_takeRow_78 (by decide) ?_
                have kb := key
                rw [show bi ((gI h29 r0 3) = 2 ∧ ¬ x2 < (gI h29 r0 5)) = 1 from by simp only [bi, b31, b32, false_and, and_false, true_and, and_true, not_true_eq_false, not_false_eq_true, if_true, if_false, true_or, or_true, false_or, or_false, reduceIte]] at kb
                exact R_sub [1, 2, 3, 4, 5, 0] rfl kb
        refine R_if_eq (tgt := 49) dX9_takeRow_34 (by decide) (fun b20 => ?_) (fun b20 => ?_)
        · refine R_iconst (v := 0) dX9_takeRow_49 (by decide) ?_
          have kb := key
          rw [show bi (¬ x3 = 0 ∧ (gI h r0 3) = 4) = 0 from by simp only [bi, b20, false_and, and_false, true_and, and_true, not_true_eq_false, not_false_eq_true, if_true, if_false, true_or, or_true, false_or, or_false, reduceIte]] at kb
          exact R_sub [0, 1, 2, 3, 4] rfl kb
        · refine R_aload_n dX9_takeRow_37 rfl 0 rfl ?_
          refine G9_3 dX9_takeRow_38 lfX9_32 ob14 ?_
          refine R_iconst (v := 4) dX9_takeRow_41 (by decide) ?_
          refine R_icmp_ne (tgt := 49) dX9_takeRow_42 (by decide) (fun b21 => ?_) (fun b21 => ?_)
          · refine R_iconst (v := 0) dX9_takeRow_49 (by decide) ?_
            have kb := key
            rw [show bi (¬ x3 = 0 ∧ (gI h r0 3) = 4) = 0 from by simp only [bi, b20, b21, false_and, and_false, true_and, and_true, not_true_eq_false, not_false_eq_true, if_true, if_false, true_or, or_true, false_or, or_false, reduceIte]] at kb
            exact R_sub [0, 1, 2, 3, 4] rfl kb
          · refine R_iconst (v := 1) dX9_takeRow_45 (by decide) ?_
            refine R_goto (tgt := 50) dX9_takeRow_46 (by decide) ?_
            have kb := key
            rw [show bi (¬ x3 = 0 ∧ (gI h r0 3) = 4) = 1 from by simp only [bi, b20, b21, false_and, and_false, true_and, and_true, not_true_eq_false, not_false_eq_true, if_true, if_false, true_or, or_true, false_or, or_false, reduceIte]] at kb
            exact R_sub [0, 1, 2, 3, 4] rfl kb
theorem dX10_find_0 : decode cX10_find 0 = .ok (.aload_n 0, 1) := by decide +kernel
theorem dX10_find_1 : decode cX10_find 1 = .ok (.iload_n 1, 1) := by decide +kernel
theorem dX10_find_2 : decode cX10_find 2 = .ok (.bipush 20, 2) := by decide +kernel
theorem dX10_find_4 : decode cX10_find 4 = .ok (.invokestatic 33, 3) := by decide +kernel
theorem dX10_find_7 : decode cX10_find 7 = .ok (.putfield 29, 3) := by decide +kernel
theorem dX10_find_10 : decode cX10_find 10 = .ok (.aload_n 0, 1) := by decide +kernel
theorem dX10_find_11 : decode cX10_find 11 = .ok (.getfield 23, 3) := by decide +kernel
theorem dX10_find_14 : decode cX10_find 14 = .ok (.aload_n 0, 1) := by decide +kernel
theorem dX10_find_15 : decode cX10_find 15 = .ok (.getfield 29, 3) := by decide +kernel
theorem dX10_find_18 : decode cX10_find 18 = .ok (.aaload, 1) := by decide +kernel
theorem dX10_find_19 : decode cX10_find 19 = .ok (.iconst 0, 1) := by decide +kernel
theorem dX10_find_20 : decode cX10_find 20 = .ok (.invokestatic 39, 3) := by decide +kernel
theorem dX10_find_23 : decode cX10_find 23 = .ok (.aload_n 0, 1) := by decide +kernel
theorem dX10_find_24 : decode cX10_find 24 = .ok (.getfield 29, 3) := by decide +kernel
theorem dX10_find_27 : decode cX10_find 27 = .ok (.iconst 1, 1) := by decide +kernel
theorem dX10_find_28 : decode cX10_find 28 = .ok (.isub, 1) := by decide +kernel
theorem dX10_find_29 : decode cX10_find 29 = .ok (.istore_n 2, 1) := by decide +kernel
theorem dX10_find_30 : decode cX10_find 30 = .ok (.iload_n 2, 1) := by decide +kernel
theorem dX10_find_31 : decode cX10_find 31 = .ok (.ifCond .lt 47, 3) := by decide +kernel
theorem dX10_find_34 : decode cX10_find 34 = .ok (.iconst 0, 1) := by decide +kernel
theorem dX10_find_35 : decode cX10_find 35 = .ok (.istore_n 3, 1) := by decide +kernel
theorem dX10_find_36 : decode cX10_find 36 = .ok (.iload_n 3, 1) := by decide +kernel
theorem dX10_find_37 : decode cX10_find 37 = .ok (.bipush 10, 2) := by decide +kernel
theorem dX10_find_39 : decode cX10_find 39 = .ok (.if_icmp .ge 33, 3) := by decide +kernel
theorem dX10_find_42 : decode cX10_find 42 = .ok (.aload_n 0, 1) := by decide +kernel
theorem dX10_find_43 : decode cX10_find 43 = .ok (.iload_n 2, 1) := by decide +kernel
theorem dX10_find_44 : decode cX10_find 44 = .ok (.iload_n 3, 1) := by decide +kernel
theorem dX10_find_45 : decode cX10_find 45 = .ok (.invokevirtual 45, 3) := by decide +kernel
theorem dX10_find_48 : decode cX10_find 48 = .ok (.istore 4, 2) := by decide +kernel
theorem dX10_find_50 : decode cX10_find 50 = .ok (.aload_n 0, 1) := by decide +kernel
theorem dX10_find_51 : decode cX10_find 51 = .ok (.getfield 23, 3) := by decide +kernel
theorem dX10_find_54 : decode cX10_find 54 = .ok (.iload_n 2, 1) := by decide +kernel
theorem dX10_find_55 : decode cX10_find 55 = .ok (.aaload, 1) := by decide +kernel
theorem dX10_find_56 : decode cX10_find 56 = .ok (.iload_n 3, 1) := by decide +kernel
theorem dX10_find_57 : decode cX10_find 57 = .ok (.aload_n 0, 1) := by decide +kernel
theorem dX10_find_58 : decode cX10_find 58 = .ok (.iload_n 2, 1) := by decide +kernel
theorem dX10_find_59 : decode cX10_find 59 = .ok (.iload_n 3, 1) := by decide +kernel
theorem dX10_find_60 : decode cX10_find 60 = .ok (.iload 4, 2) := by decide +kernel
theorem dX10_find_62 : decode cX10_find 62 = .ok (.invokevirtual 48, 3) := by decide +kernel
theorem dX10_find_65 : decode cX10_find 65 = .ok (.iastore, 1) := by decide +kernel
theorem dX10_find_66 : decode cX10_find 66 = .ok (.iinc 3 1, 3) := by decide +kernel
theorem dX10_find_69 : decode cX10_find 69 = .ok (.goto (-33), 3) := by decide +kernel
theorem dX10_find_72 : decode cX10_find 72 = .ok (.iinc 2 (-1), 3) := by decide +kernel
theorem dX10_find_75 : decode cX10_find 75 = .ok (.goto (-45), 3) := by decide +kernel
theorem dX10_find_78 : decode cX10_find 78 = .ok (.aload_n 0, 1) := by decide +kernel
theorem dX10_find_79 : decode cX10_find 79 = .ok (.invokevirtual 52, 3) := by decide +kernel
theorem dX10_find_82 : decode cX10_find 82 = .ok (.aload_n 0, 1) := by decide +kernel
theorem dX10_find_83 : decode cX10_find 83 = .ok (.getfield 23, 3) := by decide +kernel
theorem dX10_find_86 : decode cX10_find 86 = .ok (.iconst 0, 1) := by decide +kernel
theorem dX10_find_87 : decode cX10_find 87 = .ok (.aaload, 1) := by decide +kernel
theorem dX10_find_88 : decode cX10_find 88 = .ok (.iconst 0, 1) := by decide +kernel
theorem dX10_find_89 : decode cX10_find 89 = .ok (.iaload, 1) := by decide +kernel
theorem dX10_find_90 : decode cX10_find 90 = .ok (.sipush 1000, 3) := by decide +kernel
theorem dX10_find_93 : decode cX10_find 93 = .ok (.idiv, 1) := by decide +kernel
theorem dX10_find_94 : decode cX10_find 94 = .ok (.ireturn, 1) := by decide +kernel
set_option maxRecDepth 20000 in
theorem sX10_find_0 {P : Option Value → AH → Prop} (h : AH) (r0 : Nat) (x1 : Int32) (hf : (isO h 10 r0) ∧ ((isA h 4 (gF h r0 3)) ∧ ((vp_in ((imin x1 20)) (ln (gF h r0 3))) ∧ (Call mJ7_fill_53178 [.ref (gF h (gF h r0 3) ((imin x1 20)).toNatClampNeg), .int 0] (sI h r0 4 (imin x1 20)) (fun v h4 => v = none ∧ ((isO h4 10 r0) ∧ (Rr mX10_find 0 0 30 [(0, .ref r0), (2, .int ((gI h4 r0 4) - 1))] [] h4 P))))))) : Rr mX10_find 0 0 0 [(0, .ref r0), (1, .int x1)] [] h P := by
  refine R_aload_n dX10_find_0 rfl 0 rfl ?_
  refine R_iload_n dX10_find_1 rfl 1 rfl ?_
  refine R_bipush (v := 20) dX10_find_2 (by decide) ?_
  refine R_mmin dX10_find_4 lmX10_33 (by decide) (Nat.le_of_ble_eq_true rfl) ?_
  obtain ⟨ob1, hf⟩ := hf
  refine S10_4 dX10_find_7 lfX10_29 ob1 ?_
  refine R_aload_n dX10_find_10 rfl 0 rfl ?_
  refine G10_3 dX10_find_11 lfX10_23 ob1 ?_
  refine R_eqF (y := gF h r0 3) rfl ?_
  refine R_aload_n dX10_find_14 rfl 0 rfl ?_
  refine G10_4 dX10_find_15 lfX10_29 ob1 ?_
  refine R_eqI (y := (imin x1 20)) rd_h ?_
  obtain ⟨ob2, hf⟩ := hf
  obtain ⟨ob3, hf⟩ := hf
  refine R_aaload (t := 4) (by decide) dX10_find_18 ob2 ob3 ?_
  refine R_eqF (y := gF h (gF h r0 3) ((imin x1 20)).toNatClampNeg) rfl ?_
  refine R_iconst (v := 0) dX10_find_19 (by decide) ?_
  refine R_callS (N := mJ7_fill_53178) (as := [.ref (gF h (gF h r0 3) ((imin x1 20)).toNatClampNeg), .int 0]) (rest := []) (kc2 := 0) (ks2 := 0) dX10_find_20 lmX10_39 oJ7_fill_53178 (Nat.le_of_ble_eq_true rfl) rfl rfl (Nat.le_of_ble_eq_true rfl) rfl rfl (Call.mono hf ?_)
  rintro _ h4 ⟨rfl, hf⟩
  refine R_aload_n dX10_find_23 rfl 0 rfl ?_
  obtain ⟨ob5, hf⟩ := hf
  refine G10_4 dX10_find_24 lfX10_29 ob5 ?_
  refine R_iconst (v := 1) dX10_find_27 (by decide) ?_
  refine R_isub dX10_find_28 ?_
  refine R_istore_n dX10_find_29 rfl (by decide) rfl ?_
  exact R_sub [1, 0] rfl hf
set_option maxRecDepth 20000 in
theorem sX10_find_30 {P : Option Value → AH → Prop} (h : AH) (r0 : Nat) (x2 : Int32) (hf : (x2 < 0 → (isO h 10 r0) ∧ (Call mX10_takeLayers [.ref r0] h (fun v h3 => v = none ∧ ((isO h3 10 r0) ∧ ((isA h3 4 (gF h3 r0 3)) ∧ ((vp_in 0 (ln (gF h3 r0 3))) ∧ ((isA h3 0 (gF h3 (gF h3 r0 3) (Int32.toNatClampNeg 0))) ∧ ((vp_in 0 (ln (gF h3 (gF h3 r0 3) (Int32.toNatClampNeg 0)))) ∧ (P (some (.int ((gI h3 (gF h3 (gF h3 r0 3) (Int32.toNatClampNeg 0)) (Int32.toNatClampNeg 0)) / 1000))) h3))))))))) ∧ (¬ x2 < 0 → Rr mX10_find 0 0 36 [(0, .ref r0), (2, .int x2), (3, .int 0)] [] h P)) : Rr mX10_find 0 0 30 [(0, .ref r0), (2, .int x2)] [] h P := by
  refine R_iload_n dX10_find_30 rfl 1 rfl ?_
  refine R_if_lt (tgt := 78) dX10_find_31 (by decide) (fun b1 => ?_) (fun b1 => ?_)
  · have hf := hf.1 b1
    refine R_aload_n dX10_find_78 rfl 0 rfl ?_
    obtain ⟨ob2, hf⟩ := hf
    refine R_callV (ci := 10) (N := mX10_takeLayers) (as := []) (rest := []) (kc2 := 0) (ks2 := 0) dX10_find_79 lmX10_52 oX10_takeLayers (Nat.le_of_ble_eq_true rfl) rfl rfl (Nat.le_of_ble_eq_true rfl) rfl rfl ob2 ok10 (Call.mono hf ?_)
    rintro _ h3 ⟨rfl, hf⟩
    refine R_aload_n dX10_find_82 rfl 0 rfl ?_
    obtain ⟨ob4, hf⟩ := hf
    refine G10_3 dX10_find_83 lfX10_23 ob4 ?_
    refine R_iconst (v := 0) dX10_find_86 (by decide) ?_
    obtain ⟨ob5, hf⟩ := hf
    obtain ⟨ob6, hf⟩ := hf
    refine R_aaload (t := 4) (by decide) dX10_find_87 ob5 ob6 ?_
    refine R_iconst (v := 0) dX10_find_88 (by decide) ?_
    obtain ⟨ob7, hf⟩ := hf
    obtain ⟨ob8, hf⟩ := hf
    refine R_iaload dX10_find_89 ob7 ob8 ?_
    refine R_sipush (v := 1000) dX10_find_90 (by decide) ?_
    refine R_idiv dX10_find_93 (by decide) ?_
    exact R_iret dX10_find_94 rfl rfl hf
  · have hf := hf.2 b1
    refine R_iconst (v := 0) dX10_find_34 (by decide) ?_
    refine R_istore_n dX10_find_35 rfl (by decide) rfl ?_
    exact R_sub [1, 2, 0] rfl hf
set_option maxRecDepth 20000 in
theorem sX10_find_36 {P : Option Value → AH → Prop} (h : AH) (r0 : Nat) (x2 : Int32) (x3 : Int32) (hf : (10 ≤ x3 → Rr mX10_find 0 0 30 [(0, .ref r0), (2, .int (x2 + (-1)))] [] h P) ∧ (¬ 10 ≤ x3 → (isO h 10 r0) ∧ (Call mX10_lightest [.ref r0, .int x2, .int x3] h (fun v h3 => ∃ z4 : Int32, v = some (.int z4) ∧ ((isO h3 10 r0) ∧ ((isA h3 4 (gF h3 r0 3)) ∧ ((vp_in x2 (ln (gF h3 r0 3))) ∧ ((vp_in (x2 + 1) (ln (gF h3 r0 3))) ∧ ((isA h3 0 (gF h3 (gF h3 r0 3) (x2 + 1).toNatClampNeg)) ∧ ((vp_in z4 (ln (gF h3 (gF h3 r0 3) (x2 + 1).toNatClampNeg))) ∧ ((isA h3 0 (gF h3 (gF h3 r0 3) x2.toNatClampNeg)) ∧ ((vp_in x3 (ln (gF h3 (gF h3 r0 3) x2.toNatClampNeg))) ∧ (Rr mX10_find 0 0 36 [(0, .ref r0), (2, .int x2), (3, .int (x3 + 1))] [] (sI h3 (gF h3 (gF h3 r0 3) x2.toNatClampNeg) x3.toNatClampNeg (((1000 * (imax (z4 - x3) 0)) + z4) + (gI h3 (gF h3 (gF h3 r0 3) (x2 + 1).toNatClampNeg) z4.toNatClampNeg))) P))))))))))))) : Rr mX10_find 0 0 36 [(0, .ref r0), (2, .int x2), (3, .int x3)] [] h P := by
  refine R_iload_n dX10_find_36 rfl 2 rfl ?_
  refine R_bipush (v := 10) dX10_find_37 (by decide) ?_
  refine R_icmp_ge (tgt := 72) dX10_find_39 (by decide) (fun b1 => ?_) (fun b1 => ?_)
  · have hf := hf.1 b1
    refine R_iinc (v := x2 + (-1)) dX10_find_72 1 rfl rfl (by decide) rfl ?_
    refine R_goto (tgt := 30) dX10_find_75 (by decide) ?_
    exact R_sub [1, 0] rfl hf
  · have hf := hf.2 b1
    refine R_aload_n dX10_find_42 rfl 0 rfl ?_
    refine R_iload_n dX10_find_43 rfl 1 rfl ?_
    refine R_iload_n dX10_find_44 rfl 2 rfl ?_
    obtain ⟨ob2, hf⟩ := hf
    refine R_callV (ci := 10) (N := mX10_lightest) (as := [.int x2, .int x3]) (rest := []) (kc2 := 0) (ks2 := 0) dX10_find_45 lmX10_45 oX10_lightest (Nat.le_of_ble_eq_true rfl) rfl rfl (Nat.le_of_ble_eq_true rfl) rfl rfl ob2 ok10 (Call.mono hf ?_)
    rintro _ h3 ⟨z4, rfl, hf⟩
    refine R_istore dX10_find_48 (by decide) rfl ?_
    refine R_aload_n dX10_find_50 rfl 1 rfl ?_
    obtain ⟨ob5, hf⟩ := hf
    refine G10_3 dX10_find_51 lfX10_23 ob5 ?_
    refine R_iload_n dX10_find_54 rfl 2 rfl ?_
    obtain ⟨ob6, hf⟩ := hf
    obtain ⟨ob7, hf⟩ := hf
    refine R_aaload (t := 4) (by decide) dX10_find_55 ob6 ob7 ?_
    refine R_iload_n dX10_find_56 rfl 3 rfl ?_
    refine R_aload_n dX10_find_57 rfl 1 rfl ?_
    refine R_iload_n dX10_find_58 rfl 2 rfl ?_
    refine R_iload_n dX10_find_59 rfl 3 rfl ?_
    refine R_iload dX10_find_60 0 rfl ?_
    obtain ⟨ob8, hf⟩ := hf
    obtain ⟨ob9, hf⟩ := hf
    obtain ⟨ob10, hf⟩ := hf
    refine R_callV (ci := 10) (N := mX10_weight) (as := [.int x2, .int x3, .int z4]) (rest := [.int x3, .ref (gF h3 (gF h3 r0 3) x2.toNatClampNeg)]) (kc2 := 0) (ks2 := 0) dX10_find_62 lmX10_48 oX10_weight (Nat.le_of_ble_eq_true rfl) rfl rfl (Nat.le_of_ble_eq_true rfl) rfl rfl ob5 ok10 (aX10_weight ob5 ob6 ob8 ob9 ob10 ?_)
    obtain ⟨ob11, hf⟩ := hf
    obtain ⟨ob12, hf⟩ := hf
    refine R_iastore dX10_find_65 ob11 ob12 ?_
    refine R_iinc (v := x3 + 1) dX10_find_66 3 rfl rfl (by decide) rfl ?_
    refine R_goto (tgt := 36) dX10_find_69 (by decide) ?_
    exact R_sub [2, 3, 0] rfl hf
theorem dX11_causes_0 : decode cX11_causes 0 = .ok (.aload_n 0, 1) := by decide +kernel
theorem dX11_causes_1 : decode cX11_causes 1 = .ok (.getfield 20, 3) := by decide +kernel
theorem dX11_causes_4 : decode cX11_causes 4 = .ok (.aload_n 0, 1) := by decide +kernel
theorem dX11_causes_5 : decode cX11_causes 5 = .ok (.getfield 74, 3) := by decide +kernel
theorem dX11_causes_8 : decode cX11_causes 8 = .ok (.sipush 999, 3) := by decide +kernel
theorem dX11_causes_11 : decode cX11_causes 11 = .ok (.iconst 1, 1) := by decide +kernel
theorem dX11_causes_12 : decode cX11_causes 12 = .ok (.invokevirtual 303, 3) := by decide +kernel
theorem dX11_causes_15 : decode cX11_causes 15 = .ok (.istore_n 2, 1) := by decide +kernel
theorem dX11_causes_16 : decode cX11_causes 16 = .ok (.iload_n 1, 1) := by decide +kernel
theorem dX11_causes_17 : decode cX11_causes 17 = .ok (.ifCond .lt 9, 3) := by decide +kernel
theorem dX11_causes_20 : decode cX11_causes 20 = .ok (.iload_n 1, 1) := by decide +kernel
theorem dX11_causes_21 : decode cX11_causes 21 = .ok (.bipush 99, 2) := by decide +kernel
theorem dX11_causes_23 : decode cX11_causes 23 = .ok (.if_icmp .le 6, 3) := by decide +kernel
theorem dX11_causes_26 : decode cX11_causes 26 = .ok (.bipush (-2), 2) := by decide +kernel
theorem dX11_causes_28 : decode cX11_causes 28 = .ok (.ireturn, 1) := by decide +kernel
theorem dX11_causes_29 : decode cX11_causes 29 = .ok (.iload_n 2, 1) := by decide +kernel
theorem dX11_causes_30 : decode cX11_causes 30 = .ok (.iconst 1, 1) := by decide +kernel
theorem dX11_causes_31 : decode cX11_causes 31 = .ok (.if_icmp .ge 7, 3) := by decide +kernel
theorem dX11_causes_34 : decode cX11_causes 34 = .ok (.iconst (-1), 1) := by decide +kernel
theorem dX11_causes_35 : decode cX11_causes 35 = .ok (.goto 11, 3) := by decide +kernel
theorem dX11_causes_38 : decode cX11_causes 38 = .ok (.aload_n 0, 1) := by decide +kernel
theorem dX11_causes_39 : decode cX11_causes 39 = .ok (.iload_n 2, 1) := by decide +kernel
theorem dX11_causes_40 : decode cX11_causes 40 = .ok (.iconst 2, 1) := by decide +kernel
theorem dX11_causes_41 : decode cX11_causes 41 = .ok (.iload_n 1, 1) := by decide +kernel
theorem dX11_causes_42 : decode cX11_causes 42 = .ok (.imul, 1) := by decide +kernel
theorem dX11_causes_43 : decode cX11_causes 43 = .ok (.invokevirtual 307, 3) := by decide +kernel
theorem dX11_causes_46 : decode cX11_causes 46 = .ok (.ireturn, 1) := by decide +kernel
set_option maxRecDepth 20000 in
theorem sX11_causes_0 {P : Option Value → AH → Prop} (h : AH) (r0 : Nat) (x1 : Int32) (hf : (isO h 11 r0) ∧ ((isO h 9 (gF h r0 1)) ∧ (Call mX9_takeRow [.ref (gF h r0 1), .ref (gF h r0 11), .int 999, .int 1] h (fun v h3 => ∃ z4 : Int32, v = some (.int z4) ∧ ((x1 < 0 → P (some (.int (-2))) h3) ∧ (¬ x1 < 0 → (x1 ≤ 99 → (1 ≤ z4 → (isO h3 11 r0) ∧ (Call mX11_causesOf [.ref r0, .int z4, .int (2 * x1)] h3 (fun v h9 => ∃ z10 : Int32, v = some (.int z10) ∧ (P (some (.int z10)) h9)))) ∧ (¬ 1 ≤ z4 → P (some (.int (-1))) h3)) ∧ (¬ x1 ≤ 99 → P (some (.int (-2))) h3))))))) : Rr mX11_causes 0 0 0 [(0, .ref r0), (1, .int x1)] [] h P := by
  refine R_aload_n dX11_causes_0 rfl 0 rfl ?_
  obtain ⟨ob1, hf⟩ := hf
  refine G11_1 dX11_causes_1 lfX11_20 ob1 ?_
  refine R_aload_n dX11_causes_4 rfl 0 rfl ?_
  refine G11_11 dX11_causes_5 lfX11_74 ob1 ?_
  refine R_sipush (v := 999) dX11_causes_8 (by decide) ?_
  refine R_iconst (v := 1) dX11_causes_11 (by decide) ?_
  obtain ⟨ob2, hf⟩ := hf
  refine R_callV (ci := 9) (N := mX9_takeRow) (as := [.ref (gF h r0 11), .int 999, .int 1]) (rest := []) (kc2 := 0) (ks2 := 0) dX11_causes_12 lmX11_303 oX9_takeRow (Nat.le_of_ble_eq_true rfl) rfl rfl (Nat.le_of_ble_eq_true rfl) rfl rfl ob2 ok9 (Call.mono hf ?_)
  rintro _ h3 ⟨z4, rfl, hf⟩
  refine R_istore_n dX11_causes_15 rfl (by decide) rfl ?_
  refine R_iload_n dX11_causes_16 rfl 2 rfl ?_
  refine R_if_lt (tgt := 26) dX11_causes_17 (by decide) (fun b5 => ?_) (fun b5 => ?_)
  · have hf := hf.1 b5
    refine R_bipush (v := (-2)) dX11_causes_26 (by decide) ?_
    exact R_iret dX11_causes_28 rfl rfl hf
  · have hf := hf.2 b5
    refine R_iload_n dX11_causes_20 rfl 2 rfl ?_
    refine R_bipush (v := 99) dX11_causes_21 (by decide) ?_
    refine R_icmp_le (tgt := 29) dX11_causes_23 (by decide) (fun b6 => ?_) (fun b6 => ?_)
    · have hf := hf.1 b6
      refine R_iload_n dX11_causes_29 rfl 0 rfl ?_
      refine R_iconst (v := 1) dX11_causes_30 (by decide) ?_
      refine R_icmp_ge (tgt := 38) dX11_causes_31 (by decide) (fun b7 => ?_) (fun b7 => ?_)
      · have hf := hf.1 b7
        refine R_aload_n dX11_causes_38 rfl 1 rfl ?_
        refine R_iload_n dX11_causes_39 rfl 0 rfl ?_
        refine R_iconst (v := 2) dX11_causes_40 (by decide) ?_
        refine R_iload_n dX11_causes_41 rfl 2 rfl ?_
        refine R_imul dX11_causes_42 ?_
        obtain ⟨ob8, hf⟩ := hf
        refine R_callV (ci := 11) (N := mX11_causesOf) (as := [.int z4, .int (2 * x1)]) (rest := []) (kc2 := 0) (ks2 := 0) dX11_causes_43 lmX11_307 oX11_causesOf (Nat.le_of_ble_eq_true rfl) rfl rfl (Nat.le_of_ble_eq_true rfl) rfl rfl ob8 ok11 (Call.mono hf ?_)
        rintro _ h9 ⟨z10, rfl, hf⟩
        exact R_iret dX11_causes_46 rfl rfl hf
      · have hf := hf.2 b7
        refine R_iconst (v := (-1)) dX11_causes_34 (by decide) ?_
        refine R_goto (tgt := 46) dX11_causes_35 (by decide) ?_
        exact R_iret dX11_causes_46 rfl rfl hf
    · have hf := hf.2 b6
      refine R_bipush (v := (-2)) dX11_causes_26 (by decide) ?_
      exact R_iret dX11_causes_28 rfl rfl hf
theorem dX11_fit_0 : decode cX11_fit 0 = .ok (.iload_n 1, 1) := by decide +kernel
theorem dX11_fit_1 : decode cX11_fit 1 = .ok (.invokestatic 150, 3) := by decide +kernel
theorem dX11_fit_4 : decode cX11_fit 4 = .ok (.ifCond .eq 10, 3) := by decide +kernel
theorem dX11_fit_7 : decode cX11_fit 7 = .ok (.iload_n 2, 1) := by decide +kernel
theorem dX11_fit_8 : decode cX11_fit 8 = .ok (.invokestatic 188, 3) := by decide +kernel
theorem dX11_fit_11 : decode cX11_fit 11 = .ok (.ifCond .ne 6, 3) := by decide +kernel
theorem dX11_fit_14 : decode cX11_fit 14 = .ok (.bipush (-99), 2) := by decide +kernel
theorem dX11_fit_16 : decode cX11_fit 16 = .ok (.ireturn, 1) := by decide +kernel
theorem dX11_fit_17 : decode cX11_fit 17 = .ok (.iload_n 3, 1) := by decide +kernel
theorem dX11_fit_18 : decode cX11_fit 18 = .ok (.bipush 10, 2) := by decide +kernel
theorem dX11_fit_20 : decode cX11_fit 20 = .ok (.irem, 1) := by decide +kernel
theorem dX11_fit_21 : decode cX11_fit 21 = .ok (.istore 4, 2) := by decide +kernel
theorem dX11_fit_23 : decode cX11_fit 23 = .ok (.iload_n 3, 1) := by decide +kernel
theorem dX11_fit_24 : decode cX11_fit 24 = .ok (.bipush 10, 2) := by decide +kernel
theorem dX11_fit_26 : decode cX11_fit 26 = .ok (.if_icmp .lt 19, 3) := by decide +kernel
theorem dX11_fit_29 : decode cX11_fit 29 = .ok (.iload_n 3, 1) := by decide +kernel
theorem dX11_fit_30 : decode cX11_fit 30 = .ok (.bipush 30, 2) := by decide +kernel
theorem dX11_fit_32 : decode cX11_fit 32 = .ok (.if_icmp .ge 13, 3) := by decide +kernel
theorem dX11_fit_35 : decode cX11_fit 35 = .ok (.iload 4, 2) := by decide +kernel
theorem dX11_fit_37 : decode cX11_fit 37 = .ok (.iconst 4, 1) := by decide +kernel
theorem dX11_fit_38 : decode cX11_fit 38 = .ok (.if_icmp .ge 7, 3) := by decide +kernel
theorem dX11_fit_41 : decode cX11_fit 41 = .ok (.iconst 1, 1) := by decide +kernel
theorem dX11_fit_42 : decode cX11_fit 42 = .ok (.goto 4, 3) := by decide +kernel
theorem dX11_fit_45 : decode cX11_fit 45 = .ok (.iconst 0, 1) := by decide +kernel
theorem dX11_fit_46 : decode cX11_fit 46 = .ok (.istore 5, 2) := by decide +kernel
theorem dX11_fit_48 : decode cX11_fit 48 = .ok (.iload_n 3, 1) := by decide +kernel
theorem dX11_fit_49 : decode cX11_fit 49 = .ok (.ifCond .eq 11, 3) := by decide +kernel
theorem dX11_fit_52 : decode cX11_fit 52 = .ok (.iload 5, 2) := by decide +kernel
theorem dX11_fit_54 : decode cX11_fit 54 = .ok (.ifCond .ne 6, 3) := by decide +kernel
theorem dX11_fit_57 : decode cX11_fit 57 = .ok (.bipush (-99), 2) := by decide +kernel
theorem dX11_fit_59 : decode cX11_fit 59 = .ok (.ireturn, 1) := by decide +kernel
theorem dX11_fit_60 : decode cX11_fit 60 = .ok (.aload_n 0, 1) := by decide +kernel
theorem dX11_fit_61 : decode cX11_fit 61 = .ok (.getfield 38, 3) := by decide +kernel
theorem dX11_fit_64 : decode cX11_fit 64 = .ok (.aload_n 0, 1) := by decide +kernel
theorem dX11_fit_65 : decode cX11_fit 65 = .ok (.getfield 24, 3) := by decide +kernel
theorem dX11_fit_68 : decode cX11_fit 68 = .ok (.aload_n 0, 1) := by decide +kernel
theorem dX11_fit_69 : decode cX11_fit 69 = .ok (.getfield 31, 3) := by decide +kernel
theorem dX11_fit_72 : decode cX11_fit 72 = .ok (.iload_n 1, 1) := by decide +kernel
theorem dX11_fit_73 : decode cX11_fit 73 = .ok (.iload_n 2, 1) := by decide +kernel
theorem dX11_fit_74 : decode cX11_fit 74 = .ok (.invokevirtual 191, 3) := by decide +kernel
theorem dX11_fit_77 : decode cX11_fit 77 = .ok (.iload_n 3, 1) := by decide +kernel
theorem dX11_fit_78 : decode cX11_fit 78 = .ok (.ifCond .ne 11, 3) := by decide +kernel
theorem dX11_fit_81 : decode cX11_fit 81 = .ok (.aload_n 0, 1) := by decide +kernel
theorem dX11_fit_82 : decode cX11_fit 82 = .ok (.getfield 38, 3) := by decide +kernel
theorem dX11_fit_85 : decode cX11_fit 85 = .ok (.getfield 195, 3) := by decide +kernel
theorem dX11_fit_88 : decode cX11_fit 88 = .ok (.ireturn, 1) := by decide +kernel
theorem dX11_fit_89 : decode cX11_fit 89 = .ok (.aload_n 0, 1) := by decide +kernel
theorem dX11_fit_90 : decode cX11_fit 90 = .ok (.getfield 38, 3) := by decide +kernel
theorem dX11_fit_93 : decode cX11_fit 93 = .ok (.getfield 195, 3) := by decide +kernel
theorem dX11_fit_96 : decode cX11_fit 96 = .ok (.ifCond .ne 6, 3) := by decide +kernel
theorem dX11_fit_99 : decode cX11_fit 99 = .ok (.bipush (-99), 2) := by decide +kernel
theorem dX11_fit_101 : decode cX11_fit 101 = .ok (.ireturn, 1) := by decide +kernel
theorem dX11_fit_102 : decode cX11_fit 102 = .ok (.iload_n 3, 1) := by decide +kernel
theorem dX11_fit_103 : decode cX11_fit 103 = .ok (.bipush 20, 2) := by decide +kernel
theorem dX11_fit_105 : decode cX11_fit 105 = .ok (.if_icmp .ge 16, 3) := by decide +kernel
theorem dX11_fit_108 : decode cX11_fit 108 = .ok (.aload_n 0, 1) := by decide +kernel
theorem dX11_fit_109 : decode cX11_fit 109 = .ok (.getfield 38, 3) := by decide +kernel
theorem dX11_fit_112 : decode cX11_fit 112 = .ok (.getfield 198, 3) := by decide +kernel
theorem dX11_fit_115 : decode cX11_fit 115 = .ok (.iload 4, 2) := by decide +kernel
theorem dX11_fit_117 : decode cX11_fit 117 = .ok (.iaload, 1) := by decide +kernel
theorem dX11_fit_118 : decode cX11_fit 118 = .ok (.goto 13, 3) := by decide +kernel
theorem dX11_fit_121 : decode cX11_fit 121 = .ok (.aload_n 0, 1) := by decide +kernel
theorem dX11_fit_122 : decode cX11_fit 122 = .ok (.getfield 38, 3) := by decide +kernel
theorem dX11_fit_125 : decode cX11_fit 125 = .ok (.getfield 201, 3) := by decide +kernel
theorem dX11_fit_128 : decode cX11_fit 128 = .ok (.iload 4, 2) := by decide +kernel
theorem dX11_fit_130 : decode cX11_fit 130 = .ok (.iaload, 1) := by decide +kernel
theorem dX11_fit_131 : decode cX11_fit 131 = .ok (.ireturn, 1) := by decide +kernel
set_option maxRecDepth 20000 in
theorem sX11_fit_0 {P : Option Value → AH → Prop} (h : AH) (r0 : Nat) (x1 : Int32) (x2 : Int32) (x3 : Int32) (hf : (¬ (¬ x1 < 0 ∧ ¬ 4 ≤ x1) → P (some (.int (-99))) h) ∧ ((¬ x1 < 0 ∧ ¬ 4 ≤ x1) → ((¬ x2 < 0 ∧ ¬ 999 < x2) → (x3 = 0 → (isO h 11 r0) ∧ ((isO h 1 (gF h r0 4)) ∧ (Call mX1_find [.ref (gF h r0 4), .ref (gF h r0 2), .ref (gF h r0 3), .int x1, .int x2] h (fun v h9 => v = none ∧ ((¬ x3 = 0 → (isO h9 11 r0) ∧ ((isO h9 1 (gF h9 r0 4)) ∧ ((¬ (gI h9 (gF h9 r0 4) 9) = 0 → (isA h9 0 (gF h9 (gF h9 r0 4) 11)) ∧ ((20 ≤ x3 → vp_in (x3 % 10) (ln (gF h9 (gF h9 r0 4) 11))) ∧ ((isA h9 0 (gF h9 (gF h9 r0 4) 10)) ∧ ((¬ 20 ≤ x3 → vp_in (x3 % 10) (ln (gF h9 (gF h9 r0 4) 10))) ∧ (∀ z19 : Int32, z19 = (if 20 ≤ x3 then (gI h9 (gF h9 (gF h9 r0 4) 11) (x3 % 10).toNatClampNeg) else (gI h9 (gF h9 (gF h9 r0 4) 10) (x3 % 10).toNatClampNeg)) → (P (some (.int z19)) h9)))))) ∧ ((gI h9 (gF h9 r0 4) 9) = 0 → P (some (.int (-99))) h9)))) ∧ (x3 = 0 → (isO h9 11 r0) ∧ ((isO h9 1 (gF h9 r0 4)) ∧ (P (some (.int (gI h9 (gF h9 r0 4) 9))) h9)))))))) ∧ (¬ x3 = 0 → ((¬ x3 < 10 ∧ ¬ 30 ≤ x3 ∧ ¬ 4 ≤ (x3 % 10)) → (isO h 11 r0) ∧ ((isO h 1 (gF h r0 4)) ∧ (Call mX1_find [.ref (gF h r0 4), .ref (gF h r0 2), .ref (gF h r0 3), .int x1, .int x2] h (fun v h25 => v = none ∧ ((¬ x3 = 0 → (isO h25 11 r0) ∧ ((isO h25 1 (gF h25 r0 4)) ∧ ((¬ (gI h25 (gF h25 r0 4) 9) = 0 → (isA h25 0 (gF h25 (gF h25 r0 4) 11)) ∧ ((20 ≤ x3 → vp_in (x3 % 10) (ln (gF h25 (gF h25 r0 4) 11))) ∧ ((isA h25 0 (gF h25 (gF h25 r0 4) 10)) ∧ ((¬ 20 ≤ x3 → vp_in (x3 % 10) (ln (gF h25 (gF h25 r0 4) 10))) ∧ (∀ z35 : Int32, z35 = (if 20 ≤ x3 then (gI h25 (gF h25 (gF h25 r0 4) 11) (x3 % 10).toNatClampNeg) else (gI h25 (gF h25 (gF h25 r0 4) 10) (x3 % 10).toNatClampNeg)) → (P (some (.int z35)) h25)))))) ∧ ((gI h25 (gF h25 r0 4) 9) = 0 → P (some (.int (-99))) h25)))) ∧ (x3 = 0 → (isO h25 11 r0) ∧ ((isO h25 1 (gF h25 r0 4)) ∧ (P (some (.int (gI h25 (gF h25 r0 4) 9))) h25)))))))) ∧ (¬ (¬ x3 < 10 ∧ ¬ 30 ≤ x3 ∧ ¬ 4 ≤ (x3 % 10)) → P (some (.int (-99))) h))) ∧ (¬ (¬ x2 < 0 ∧ ¬ 999 < x2) → P (some (.int (-99))) h))) : Rr mX11_fit 0 0 0 [(0, .ref r0), (1, .int x1), (2, .int x2), (3, .int x3)] [] h P := by
  refine R_iload_n dX11_fit_0 rfl 1 rfl ?_
  refine R_callS (N := mX11_isInk) (as := [.int x1]) (rest := []) (kc2 := 0) (ks2 := 0) dX11_fit_1 lmX11_150 oX11_isInk (Nat.le_of_ble_eq_true rfl) rfl rfl (Nat.le_of_ble_eq_true rfl) rfl rfl (aX11_isInk  ?_)
  refine R_if_eq_b (tgt := 14) dX11_fit_4 (by decide) (fun b1 => ?_) (fun b1 => ?_)
  · have hf := hf.1 b1
    refine R_bipush (v := (-99)) dX11_fit_14 (by decide) ?_
    exact R_iret dX11_fit_16 rfl rfl hf
  · have hf := hf.2 b1
    refine R_iload_n dX11_fit_7 rfl 2 rfl ?_
    refine R_callS (N := mX7_isStep) (as := [.int x2]) (rest := []) (kc2 := 0) (ks2 := 0) dX11_fit_8 lmX11_188 oX7_isStep (Nat.le_of_ble_eq_true rfl) rfl rfl (Nat.le_of_ble_eq_true rfl) rfl rfl (aX7_isStep  ?_)
    refine R_if_ne_b (tgt := 17) dX11_fit_11 (by decide) (fun b2 => ?_) (fun b2 => ?_)
    · have hf := hf.1 b2
      refine R_iload_n dX11_fit_17 rfl 3 rfl ?_
      refine R_bipush (v := 10) dX11_fit_18 (by decide) ?_
      refine R_irem dX11_fit_20 (by decide) ?_
      refine R_istore dX11_fit_21 (by decide) rfl ?_
      refine R_iload_n dX11_fit_23 rfl 4 rfl ?_
      refine R_bipush (v := 10) dX11_fit_24 (by decide) ?_
      have key :  Rr mX11_fit 0 0 46 [(0, .ref r0), (1, .int x1), (2, .int x2), (3, .int x3), (4, .int (x3 % 10))] [.int (bi (¬ x3 < 10 ∧ ¬ 30 ≤ x3 ∧ ¬ 4 ≤ (x3 % 10)))] h P := by
        refine R_istore dX11_fit_46 (by decide) rfl ?_
        refine R_iload_n dX11_fit_48 rfl 4 rfl ?_
        refine R_if_eq (tgt := 60) dX11_fit_49 (by decide) (fun b6 => ?_) (fun b6 => ?_)
        · have hf := hf.1 b6
          refine R_aload_n dX11_fit_60 rfl 1 rfl ?_
          obtain ⟨ob7, hf⟩ := hf
          refine G11_4 dX11_fit_61 lfX11_38 ob7 ?_
          refine R_aload_n dX11_fit_64 rfl 1 rfl ?_
          refine G11_2 dX11_fit_65 lfX11_24 ob7 ?_
          refine R_aload_n dX11_fit_68 rfl 1 rfl ?_
          refine G11_3 dX11_fit_69 lfX11_31 ob7 ?_
          refine R_iload_n dX11_fit_72 rfl 2 rfl ?_
          refine R_iload_n dX11_fit_73 rfl 3 rfl ?_
          obtain ⟨ob8, hf⟩ := hf
          refine R_callV (ci := 1) (N := mX1_find) (as := [.ref (gF h r0 2), .ref (gF h r0 3), .int x1, .int x2]) (rest := []) (kc2 := 0) (ks2 := 0) dX11_fit_74 lmX11_191 oX1_find (Nat.le_of_ble_eq_true rfl) rfl rfl (Nat.le_of_ble_eq_true rfl) rfl rfl ob8 ok1 (Call.mono hf ?_)
          rintro _ h9 ⟨rfl, hf⟩
          refine R_iload_n dX11_fit_77 rfl 4 rfl ?_
          refine R_if_ne (tgt := 89) dX11_fit_78 (by decide) (fun b10 => ?_) (fun b10 => ?_)
          · have hf := hf.1 b10
            refine R_aload_n dX11_fit_89 rfl 1 rfl ?_
            obtain ⟨ob11, hf⟩ := hf
            refine G11_4 dX11_fit_90 lfX11_38 ob11 ?_
            obtain ⟨ob12, hf⟩ := hf
            refine G1_9 dX11_fit_93 lfX11_195 ob12 ?_
            refine R_if_ne (tgt := 102) dX11_fit_96 (by decide) (fun b13 => ?_) (fun b13 => ?_)
            · have hf := hf.1 b13
              refine R_iload_n dX11_fit_102 rfl 4 rfl ?_
              refine R_bipush (v := 20) dX11_fit_103 (by decide) ?_
              obtain ⟨ob15, hf⟩ := hf
              obtain ⟨ob16, hf⟩ := hf
              obtain ⟨ob17, hf⟩ := hf
              obtain ⟨ob18, hf⟩ := hf
              have key : ∀ z19 : Int32, z19 = (if 20 ≤ x3 then (gI h9 (gF h9 (gF h9 r0 4) 11) (x3 % 10).toNatClampNeg) else (gI h9 (gF h9 (gF h9 r0 4) 10) (x3 % 10).toNatClampNeg)) → Rr mX11_fit 0 0 131 [] [.int z19] h9 P := by
                intro z19 ez19
                have hf := hf z19 ez19
                exact R_iret dX11_fit_131 rfl rfl hf
              refine R_icmp_ge (tgt := 121) dX11_fit_105 (by decide) (fun b14 => ?_) (fun b14 => ?_)
              · refine R_aload_n dX11_fit_121 rfl 1 rfl ?_
                refine G11_4 dX11_fit_122 lfX11_38 ob11 ?_
                refine G1_11 dX11_fit_125 lfX11_201 ob12 ?_
                refine R_iload dX11_fit_128 5 rfl ?_
                refine R_iaload dX11_fit_130 ob15 (ob16 b14) ?_
                exact R_sub [] rfl (key _ (by rw [if_pos b14]))
              · refine R_aload_n dX11_fit_108 rfl 1 rfl ?_
                refine G11_4 dX11_fit_109 lfX11_38 ob11 ?_
                refine G1_10 dX11_fit_112 lfX11_198 ob12 ?_
                refine R_iload dX11_fit_115 5 rfl ?_
                refine R_iaload dX11_fit_117 ob17 (ob18 b14) ?_
                refine R_goto (tgt := 131) dX11_fit_118 (by decide) ?_
                exact R_sub [] rfl (key _ (by rw [if_neg b14]))
            · have hf := hf.2 b13
              refine R_bipush (v := (-99)) dX11_fit_99 (by decide) ?_
              exact R_iret dX11_fit_101 rfl rfl hf
          · have hf := hf.2 b10
            refine R_aload_n dX11_fit_81 rfl 1 rfl ?_
            obtain ⟨ob20, hf⟩ := hf
            refine G11_4 dX11_fit_82 lfX11_38 ob20 ?_
            obtain ⟨ob21, hf⟩ := hf
            refine G1_9 dX11_fit_85 lfX11_195 ob21 ?_
            exact R_iret dX11_fit_88 rfl rfl hf
        · have hf := hf.2 b6
          refine R_iload dX11_fit_52 0 rfl ?_
          refine R_if_ne_b (tgt := 60) dX11_fit_54 (by decide) (fun b22 => ?_) (fun b22 => ?_)
          · have hf := hf.1 b22
            refine R_aload_n dX11_fit_60 rfl 1 rfl ?_
            obtain ⟨ob23, hf⟩ := hf
            refine G11_4 dX11_fit_61 lfX11_38 ob23 ?_
            refine R_aload_n dX11_fit_64 rfl 1 rfl ?_
            refine G11_2 dX11_fit_65 lfX11_24 ob23 ?_
            refine R_aload_n dX11_fit_68 rfl 1 rfl ?_
            refine G11_3 dX11_fit_69 lfX11_31 ob23 ?_
            refine R_iload_n dX11_fit_72 rfl 2 rfl ?_
            refine R_iload_n dX11_fit_73 rfl 3 rfl ?_
            obtain ⟨ob24, hf⟩ := hf
            refine R_callV (ci := 1) (N := mX1_find) (as := [.ref (gF h r0 2), .ref (gF h r0 3), .int x1, .int x2]) (rest := []) (kc2 := 0) (ks2 := 0) dX11_fit_74 lmX11_191 oX1_find (Nat.le_of_ble_eq_true rfl) rfl rfl (Nat.le_of_ble_eq_true rfl) rfl rfl ob24 ok1 (Call.mono hf ?_)
            rintro _ h25 ⟨rfl, hf⟩
            refine R_iload_n dX11_fit_77 rfl 4 rfl ?_
            refine R_if_ne (tgt := 89) dX11_fit_78 (by decide) (fun b26 => ?_) (fun b26 => ?_)
            · have hf := hf.1 b26
              refine R_aload_n dX11_fit_89 rfl 1 rfl ?_
              obtain ⟨ob27, hf⟩ := hf
              refine G11_4 dX11_fit_90 lfX11_38 ob27 ?_
              obtain ⟨ob28, hf⟩ := hf
              refine G1_9 dX11_fit_93 lfX11_195 ob28 ?_
              refine R_if_ne (tgt := 102) dX11_fit_96 (by decide) (fun b29 => ?_) (fun b29 => ?_)
              · have hf := hf.1 b29
                refine R_iload_n dX11_fit_102 rfl 4 rfl ?_
                refine R_bipush (v := 20) dX11_fit_103 (by decide) ?_
                obtain ⟨ob31, hf⟩ := hf
                obtain ⟨ob32, hf⟩ := hf
                obtain ⟨ob33, hf⟩ := hf
                obtain ⟨ob34, hf⟩ := hf
                have key : ∀ z35 : Int32, z35 = (if 20 ≤ x3 then (gI h25 (gF h25 (gF h25 r0 4) 11) (x3 % 10).toNatClampNeg) else (gI h25 (gF h25 (gF h25 r0 4) 10) (x3 % 10).toNatClampNeg)) → Rr mX11_fit 0 0 131 [] [.int z35] h25 P := by
                  intro z35 ez35
                  have hf := hf z35 ez35
                  exact R_iret dX11_fit_131 rfl rfl hf
                refine R_icmp_ge (tgt := 121) dX11_fit_105 (by decide) (fun b30 => ?_) (fun b30 => ?_)
                · refine R_aload_n dX11_fit_121 rfl 1 rfl ?_
                  refine G11_4 dX11_fit_122 lfX11_38 ob27 ?_
                  refine G1_11 dX11_fit_125 lfX11_201 ob28 ?_
                  refine R_iload dX11_fit_128 5 rfl ?_
                  refine R_iaload dX11_fit_130 ob31 (ob32 b30) ?_
                  exact R_sub [] rfl (key _ (by rw [if_pos b30]))
                · refine R_aload_n dX11_fit_108 rfl 1 rfl ?_
                  refine G11_4 dX11_fit_109 lfX11_38 ob27 ?_
                  refine G1_10 dX11_fit_112 lfX11_198 ob28 ?_
                  refine R_iload dX11_fit_115 5 rfl ?_
                  refine R_iaload dX11_fit_117 ob33 (ob34 b30) ?_
                  refine R_goto (tgt := 131) dX11_fit_118 (by decide) ?_
                  exact R_sub [] rfl (key _ (by rw [if_neg b30]))
              · have hf := hf.2 b29
                refine R_bipush (v := (-99)) dX11_fit_99 (by decide) ?_
                exact R_iret dX11_fit_101 rfl rfl hf
            · have hf := hf.2 b26
              refine R_aload_n dX11_fit_81 rfl 1 rfl ?_
              obtain ⟨ob36, hf⟩ := hf
              refine G11_4 dX11_fit_82 lfX11_38 ob36 ?_
              obtain ⟨ob37, hf⟩ := hf
              refine G1_9 dX11_fit_85 lfX11_195 ob37 ?_
              exact R_iret dX11_fit_88 rfl rfl hf
          · have hf := hf.2 b22
            refine R_bipush (v := (-99)) dX11_fit_57 (by decide) ?_
            exact R_iret dX11_fit_59 rfl rfl hf
      refine R_icmp_lt (tgt := 45) dX11_fit_26 (by decide) (fun b3 => ?_) (fun b3 => ?_)
      · refine R_iconst (v := 0) dX11_fit_45 (by decide) ?_
        have kb := key
        rw [show bi (¬ x3 < 10 ∧ ¬ 30 ≤ x3 ∧ ¬ 4 ≤ (x3 % 10)) = 0 from by simp only [bi, b3, false_and, and_false, true_and, and_true, not_true_eq_false, not_false_eq_true, if_true, if_false, true_or, or_true, false_or, or_false, reduceIte]] at kb
        exact R_sub [1, 2, 3, 4, 0] rfl kb
      · refine R_iload_n dX11_fit_29 rfl 4 rfl ?_
        refine R_bipush (v := 30) dX11_fit_30 (by decide) ?_
        refine R_icmp_ge (tgt := 45) dX11_fit_32 (by decide) (fun b4 => ?_) (fun b4 => ?_)
        · refine R_iconst (v := 0) dX11_fit_45 (by decide) ?_
          have kb := key
          rw [show bi (¬ x3 < 10 ∧ ¬ 30 ≤ x3 ∧ ¬ 4 ≤ (x3 % 10)) = 0 from by simp only [bi, b3, b4, false_and, and_false, true_and, and_true, not_true_eq_false, not_false_eq_true, if_true, if_false, true_or, or_true, false_or, or_false, reduceIte]] at kb
          exact R_sub [1, 2, 3, 4, 0] rfl kb
        · refine R_iload dX11_fit_35 0 rfl ?_
          refine R_iconst (v := 4) dX11_fit_37 (by decide) ?_
          refine R_icmp_ge (tgt := 45) dX11_fit_38 (by decide) (fun b5 => ?_) (fun b5 => ?_)
          · refine R_iconst (v := 0) dX11_fit_45 (by decide) ?_
            have kb := key
            rw [show bi (¬ x3 < 10 ∧ ¬ 30 ≤ x3 ∧ ¬ 4 ≤ (x3 % 10)) = 0 from by simp only [bi, b3, b4, b5, false_and, and_false, true_and, and_true, not_true_eq_false, not_false_eq_true, if_true, if_false, true_or, or_true, false_or, or_false, reduceIte]] at kb
            exact R_sub [1, 2, 3, 4, 0] rfl kb
          · refine R_iconst (v := 1) dX11_fit_41 (by decide) ?_
            refine R_goto (tgt := 46) dX11_fit_42 (by decide) ?_
            have kb := key
            rw [show bi (¬ x3 < 10 ∧ ¬ 30 ≤ x3 ∧ ¬ 4 ≤ (x3 % 10)) = 1 from by simp only [bi, b3, b4, b5, false_and, and_false, true_and, and_true, not_true_eq_false, not_false_eq_true, if_true, if_false, true_or, or_true, false_or, or_false, reduceIte]] at kb
            exact R_sub [1, 2, 3, 4, 0] rfl kb
    · have hf := hf.2 b2
      refine R_bipush (v := (-99)) dX11_fit_14 (by decide) ?_
      exact R_iret dX11_fit_16 rfl rfl hf
theorem dX11_mend_0 : decode cX11_mend 0 = .ok (.iload_n 1, 1) := by decide +kernel
theorem dX11_mend_1 : decode cX11_mend 1 = .ok (.invokestatic 150, 3) := by decide +kernel
theorem dX11_mend_4 : decode cX11_mend 4 = .ok (.ifCond .eq 15, 3) := by decide +kernel
theorem dX11_mend_7 : decode cX11_mend 7 = .ok (.iload_n 2, 1) := by decide +kernel
theorem dX11_mend_8 : decode cX11_mend 8 = .ok (.iload_n 3, 1) := by decide +kernel
theorem dX11_mend_9 : decode cX11_mend 9 = .ok (.iload 4, 2) := by decide +kernel
theorem dX11_mend_11 : decode cX11_mend 11 = .ok (.iload 5, 2) := by decide +kernel
theorem dX11_mend_13 : decode cX11_mend 13 = .ok (.invokestatic 158, 3) := by decide +kernel
theorem dX11_mend_16 : decode cX11_mend 16 = .ok (.ifCond .ne 6, 3) := by decide +kernel
theorem dX11_mend_19 : decode cX11_mend 19 = .ok (.bipush (-2), 2) := by decide +kernel
theorem dX11_mend_21 : decode cX11_mend 21 = .ok (.ireturn, 1) := by decide +kernel
theorem dX11_mend_22 : decode cX11_mend 22 = .ok (.aload_n 0, 1) := by decide +kernel
theorem dX11_mend_23 : decode cX11_mend 23 = .ok (.getfield 45, 3) := by decide +kernel
theorem dX11_mend_26 : decode cX11_mend 26 = .ok (.iload_n 2, 1) := by decide +kernel
theorem dX11_mend_27 : decode cX11_mend 27 = .ok (.iload_n 3, 1) := by decide +kernel
theorem dX11_mend_28 : decode cX11_mend 28 = .ok (.iload 4, 2) := by decide +kernel
theorem dX11_mend_30 : decode cX11_mend 30 = .ok (.iload 5, 2) := by decide +kernel
theorem dX11_mend_32 : decode cX11_mend 32 = .ok (.invokevirtual 208, 3) := by decide +kernel
theorem dX11_mend_35 : decode cX11_mend 35 = .ok (.aload_n 0, 1) := by decide +kernel
theorem dX11_mend_36 : decode cX11_mend 36 = .ok (.getfield 45, 3) := by decide +kernel
theorem dX11_mend_39 : decode cX11_mend 39 = .ok (.aload_n 0, 1) := by decide +kernel
theorem dX11_mend_40 : decode cX11_mend 40 = .ok (.getfield 24, 3) := by decide +kernel
theorem dX11_mend_43 : decode cX11_mend 43 = .ok (.iload_n 1, 1) := by decide +kernel
theorem dX11_mend_44 : decode cX11_mend 44 = .ok (.invokevirtual 212, 3) := by decide +kernel
theorem dX11_mend_47 : decode cX11_mend 47 = .ok (.ireturn, 1) := by decide +kernel
set_option maxRecDepth 20000 in
theorem sX11_mend_0 {P : Option Value → AH → Prop} (h : AH) (r0 : Nat) (x1 : Int32) (x2 : Int32) (x3 : Int32) (x4 : Int32) (x5 : Int32) (hf : (¬ (¬ x1 < 0 ∧ ¬ 4 ≤ x1) → P (some (.int (-2))) h) ∧ ((¬ x1 < 0 ∧ ¬ 4 ≤ x1) → (((¬ x2 < (-9) ∧ ¬ 9 < x2) ∧ (¬ x3 < (-9) ∧ ¬ 9 < x3) ∧ (¬ x4 < (-9) ∧ ¬ 9 < x4) ∧ ¬ x5 < 0 ∧ ¬ 9 < x5) → (isO h 11 r0) ∧ ((isO h 6 (gF h r0 5)) ∧ ((isO h 6 (gF (sI (sI (sI (sI h (gF h r0 5) 0 x2) (gF h r0 5) 1 x3) (gF h r0 5) 2 x4) (gF h r0 5) 3 x5) r0 5)) ∧ (Call mX6_find [.ref (gF (sI (sI (sI (sI h (gF h r0 5) 0 x2) (gF h r0 5) 1 x3) (gF h r0 5) 2 x4) (gF h r0 5) 3 x5) r0 5), .ref (gF (sI (sI (sI (sI h (gF h r0 5) 0 x2) (gF h r0 5) 1 x3) (gF h r0 5) 2 x4) (gF h r0 5) 3 x5) r0 2), .int x1] (sI (sI (sI (sI h (gF h r0 5) 0 x2) (gF h r0 5) 1 x3) (gF h r0 5) 2 x4) (gF h r0 5) 3 x5) (fun v h6 => ∃ z7 : Int32, v = some (.int z7) ∧ (P (some (.int z7)) h6)))))) ∧ (¬ ((¬ x2 < (-9) ∧ ¬ 9 < x2) ∧ (¬ x3 < (-9) ∧ ¬ 9 < x3) ∧ (¬ x4 < (-9) ∧ ¬ 9 < x4) ∧ ¬ x5 < 0 ∧ ¬ 9 < x5) → P (some (.int (-2))) h))) : Rr mX11_mend 0 0 0 [(0, .ref r0), (1, .int x1), (2, .int x2), (3, .int x3), (4, .int x4), (5, .int x5)] [] h P := by
  refine R_iload_n dX11_mend_0 rfl 1 rfl ?_
  refine R_callS (N := mX11_isInk) (as := [.int x1]) (rest := []) (kc2 := 0) (ks2 := 0) dX11_mend_1 lmX11_150 oX11_isInk (Nat.le_of_ble_eq_true rfl) rfl rfl (Nat.le_of_ble_eq_true rfl) rfl rfl (aX11_isInk  ?_)
  refine R_if_eq_b (tgt := 19) dX11_mend_4 (by decide) (fun b1 => ?_) (fun b1 => ?_)
  · have hf := hf.1 b1
    refine R_bipush (v := (-2)) dX11_mend_19 (by decide) ?_
    exact R_iret dX11_mend_21 rfl rfl hf
  · have hf := hf.2 b1
    refine R_iload_n dX11_mend_7 rfl 2 rfl ?_
    refine R_iload_n dX11_mend_8 rfl 3 rfl ?_
    refine R_iload dX11_mend_9 4 rfl ?_
    refine R_iload dX11_mend_11 5 rfl ?_
    refine R_callS (N := mX11_isSlip) (as := [.int x2, .int x3, .int x4, .int x5]) (rest := []) (kc2 := 0) (ks2 := 0) dX11_mend_13 lmX11_158 oX11_isSlip (Nat.le_of_ble_eq_true rfl) rfl rfl (Nat.le_of_ble_eq_true rfl) rfl rfl (aX11_isSlip  ?_)
    refine R_if_ne_b (tgt := 22) dX11_mend_16 (by decide) (fun b2 => ?_) (fun b2 => ?_)
    · have hf := hf.1 b2
      refine R_aload_n dX11_mend_22 rfl 0 rfl ?_
      obtain ⟨ob3, hf⟩ := hf
      refine G11_5 dX11_mend_23 lfX11_45 ob3 ?_
      refine R_iload_n dX11_mend_26 rfl 2 rfl ?_
      refine R_iload_n dX11_mend_27 rfl 3 rfl ?_
      refine R_iload dX11_mend_28 4 rfl ?_
      refine R_iload dX11_mend_30 5 rfl ?_
      obtain ⟨ob4, hf⟩ := hf
      refine R_callV (ci := 6) (N := mX6_begin) (as := [.int x2, .int x3, .int x4, .int x5]) (rest := []) (kc2 := 0) (ks2 := 0) dX11_mend_32 lmX11_208 oX6_begin (Nat.le_of_ble_eq_true rfl) rfl rfl (Nat.le_of_ble_eq_true rfl) rfl rfl ob4 ok6 (aX6_begin ob4 ?_)
      refine R_aload_n dX11_mend_35 rfl 0 rfl ?_
      refine G11_5 dX11_mend_36 lfX11_45 ob3 ?_
      refine R_aload_n dX11_mend_39 rfl 0 rfl ?_
      refine G11_2 dX11_mend_40 lfX11_24 ob3 ?_
      refine R_iload_n dX11_mend_43 rfl 1 rfl ?_
      obtain ⟨ob5, hf⟩ := hf
      refine R_callV (ci := 6) (N := mX6_find) (as := [.ref (gF (sI (sI (sI (sI h (gF h r0 5) 0 x2) (gF h r0 5) 1 x3) (gF h r0 5) 2 x4) (gF h r0 5) 3 x5) r0 2), .int x1]) (rest := []) (kc2 := 0) (ks2 := 0) dX11_mend_44 lmX11_212 oX6_find (Nat.le_of_ble_eq_true rfl) rfl rfl (Nat.le_of_ble_eq_true rfl) rfl rfl ob5 ok6 (Call.mono hf ?_)
      rintro _ h6 ⟨z7, rfl, hf⟩
      exact R_iret dX11_mend_47 rfl rfl hf
    · have hf := hf.2 b2
      refine R_bipush (v := (-2)) dX11_mend_19 (by decide) ?_
      exact R_iret dX11_mend_21 rfl rfl hf
theorem dX11_order_0 : decode cX11_order 0 = .ok (.iload_n 1, 1) := by decide +kernel
theorem dX11_order_1 : decode cX11_order 1 = .ok (.ifCond .lt 8, 3) := by decide +kernel
theorem dX11_order_4 : decode cX11_order 4 = .ok (.iload_n 1, 1) := by decide +kernel
theorem dX11_order_5 : decode cX11_order 5 = .ok (.iconst 4, 1) := by decide +kernel
theorem dX11_order_6 : decode cX11_order 6 = .ok (.if_icmp .le 6, 3) := by decide +kernel
theorem dX11_order_9 : decode cX11_order 9 = .ok (.bipush (-2), 2) := by decide +kernel
theorem dX11_order_11 : decode cX11_order 11 = .ok (.ireturn, 1) := by decide +kernel
theorem dX11_order_12 : decode cX11_order 12 = .ok (.aload_n 0, 1) := by decide +kernel
theorem dX11_order_13 : decode cX11_order 13 = .ok (.invokevirtual 379, 3) := by decide +kernel
theorem dX11_order_16 : decode cX11_order 16 = .ok (.istore_n 2, 1) := by decide +kernel
theorem dX11_order_17 : decode cX11_order 17 = .ok (.iload_n 1, 1) := by decide +kernel
theorem dX11_order_18 : decode cX11_order 18 = .ok (.ifCond .ne 7, 3) := by decide +kernel
theorem dX11_order_21 : decode cX11_order 21 = .ok (.iload_n 2, 1) := by decide +kernel
theorem dX11_order_22 : decode cX11_order 22 = .ok (.goto 11, 3) := by decide +kernel
theorem dX11_order_25 : decode cX11_order 25 = .ok (.aload_n 0, 1) := by decide +kernel
theorem dX11_order_26 : decode cX11_order 26 = .ok (.getfield 92, 3) := by decide +kernel
theorem dX11_order_29 : decode cX11_order 29 = .ok (.iload_n 1, 1) := by decide +kernel
theorem dX11_order_30 : decode cX11_order 30 = .ok (.iconst 1, 1) := by decide +kernel
theorem dX11_order_31 : decode cX11_order 31 = .ok (.isub, 1) := by decide +kernel
theorem dX11_order_32 : decode cX11_order 32 = .ok (.iaload, 1) := by decide +kernel
theorem dX11_order_33 : decode cX11_order 33 = .ok (.ireturn, 1) := by decide +kernel
set_option maxRecDepth 20000 in
theorem sX11_order_0 {P : Option Value → AH → Prop} (h : AH) (r0 : Nat) (x1 : Int32) (hf : (x1 < 0 → P (some (.int (-2))) h) ∧ (¬ x1 < 0 → (x1 ≤ 4 → (isO h 11 r0) ∧ (Call mX11_findOrder [.ref r0] h (fun v h4 => ∃ z5 : Int32, v = some (.int z5) ∧ ((isO h4 11 r0) ∧ ((isA h4 0 (gF h4 r0 14)) ∧ ((¬ x1 = 0 → vp_in (x1 - 1) (ln (gF h4 r0 14))) ∧ (∀ z10 : Int32, z10 = (if x1 = 0 then z5 else (gI h4 (gF h4 r0 14) (x1 - 1).toNatClampNeg)) → (P (some (.int z10)) h4)))))))) ∧ (¬ x1 ≤ 4 → P (some (.int (-2))) h))) : Rr mX11_order 0 0 0 [(0, .ref r0), (1, .int x1)] [] h P := by
  refine R_iload_n dX11_order_0 rfl 1 rfl ?_
  refine R_if_lt (tgt := 9) dX11_order_1 (by decide) (fun b1 => ?_) (fun b1 => ?_)
  · have hf := hf.1 b1
    refine R_bipush (v := (-2)) dX11_order_9 (by decide) ?_
    exact R_iret dX11_order_11 rfl rfl hf
  · have hf := hf.2 b1
    refine R_iload_n dX11_order_4 rfl 1 rfl ?_
    refine R_iconst (v := 4) dX11_order_5 (by decide) ?_
    refine R_icmp_le (tgt := 12) dX11_order_6 (by decide) (fun b2 => ?_) (fun b2 => ?_)
    · have hf := hf.1 b2
      refine R_aload_n dX11_order_12 rfl 0 rfl ?_
      obtain ⟨ob3, hf⟩ := hf
      refine R_callV (ci := 11) (N := mX11_findOrder) (as := []) (rest := []) (kc2 := 0) (ks2 := 0) dX11_order_13 lmX11_379 oX11_findOrder (Nat.le_of_ble_eq_true rfl) rfl rfl (Nat.le_of_ble_eq_true rfl) rfl rfl ob3 ok11 (Call.mono hf ?_)
      rintro _ h4 ⟨z5, rfl, hf⟩
      refine R_istore_n dX11_order_16 rfl (by decide) rfl ?_
      refine R_iload_n dX11_order_17 rfl 2 rfl ?_
      obtain ⟨ob7, hf⟩ := hf
      obtain ⟨ob8, hf⟩ := hf
      obtain ⟨ob9, hf⟩ := hf
      have key : ∀ z10 : Int32, z10 = (if x1 = 0 then z5 else (gI h4 (gF h4 r0 14) (x1 - 1).toNatClampNeg)) → Rr mX11_order 0 0 33 [] [.int z10] h4 P := by
        intro z10 ez10
        have hf := hf z10 ez10
        exact R_iret dX11_order_33 rfl rfl hf
      refine R_if_ne (tgt := 25) dX11_order_18 (by decide) (fun b6 => ?_) (fun b6 => ?_)
      · refine R_aload_n dX11_order_25 rfl 1 rfl ?_
        refine G11_14 dX11_order_26 lfX11_92 ob7 ?_
        refine R_iload_n dX11_order_29 rfl 2 rfl ?_
        refine R_iconst (v := 1) dX11_order_30 (by decide) ?_
        refine R_isub dX11_order_31 ?_
        refine R_iaload dX11_order_32 ob8 (ob9 b6) ?_
        exact R_sub [] rfl (key _ (by rw [if_neg b6]))
      · refine R_iload_n dX11_order_21 rfl 0 rfl ?_
        refine R_goto (tgt := 33) dX11_order_22 (by decide) ?_
        exact R_sub [] rfl (key _ (by rw [if_pos b6]))
    · have hf := hf.2 b2
      refine R_bipush (v := (-2)) dX11_order_9 (by decide) ?_
      exact R_iret dX11_order_11 rfl rfl hf
theorem dX11_setting_0 : decode cX11_setting 0 = .ok (.iload_n 1, 1) := by decide +kernel
theorem dX11_setting_1 : decode cX11_setting 1 = .ok (.ifCond .lt 8, 3) := by decide +kernel
theorem dX11_setting_4 : decode cX11_setting 4 = .ok (.iload_n 1, 1) := by decide +kernel
theorem dX11_setting_5 : decode cX11_setting 5 = .ok (.iconst 4, 1) := by decide +kernel
theorem dX11_setting_6 : decode cX11_setting 6 = .ok (.if_icmp .le 6, 3) := by decide +kernel
theorem dX11_setting_9 : decode cX11_setting 9 = .ok (.bipush (-2), 2) := by decide +kernel
theorem dX11_setting_11 : decode cX11_setting 11 = .ok (.ireturn, 1) := by decide +kernel
theorem dX11_setting_12 : decode cX11_setting 12 = .ok (.aload_n 0, 1) := by decide +kernel
theorem dX11_setting_13 : decode cX11_setting 13 = .ok (.getfield 24, 3) := by decide +kernel
theorem dX11_setting_16 : decode cX11_setting 16 = .ok (.getfield 141, 3) := by decide +kernel
theorem dX11_setting_19 : decode cX11_setting 19 = .ok (.getfield 372, 3) := by decide +kernel
theorem dX11_setting_22 : decode cX11_setting 22 = .ok (.iconst 4, 1) := by decide +kernel
theorem dX11_setting_23 : decode cX11_setting 23 = .ok (.if_icmp .ge 5, 3) := by decide +kernel
theorem dX11_setting_26 : decode cX11_setting 26 = .ok (.iconst (-1), 1) := by decide +kernel
theorem dX11_setting_27 : decode cX11_setting 27 = .ok (.ireturn, 1) := by decide +kernel
theorem dX11_setting_28 : decode cX11_setting 28 = .ok (.aload_n 0, 1) := by decide +kernel
theorem dX11_setting_29 : decode cX11_setting 29 = .ok (.getfield 24, 3) := by decide +kernel
theorem dX11_setting_32 : decode cX11_setting 32 = .ok (.getfield 141, 3) := by decide +kernel
theorem dX11_setting_35 : decode cX11_setting 35 = .ok (.invokevirtual 373, 3) := by decide +kernel
theorem dX11_setting_38 : decode cX11_setting 38 = .ok (.istore_n 2, 1) := by decide +kernel
theorem dX11_setting_39 : decode cX11_setting 39 = .ok (.iload_n 1, 1) := by decide +kernel
theorem dX11_setting_40 : decode cX11_setting 40 = .ok (.ifCond .ne 7, 3) := by decide +kernel
theorem dX11_setting_43 : decode cX11_setting 43 = .ok (.iload_n 2, 1) := by decide +kernel
theorem dX11_setting_44 : decode cX11_setting 44 = .ok (.goto 17, 3) := by decide +kernel
theorem dX11_setting_47 : decode cX11_setting 47 = .ok (.aload_n 0, 1) := by decide +kernel
theorem dX11_setting_48 : decode cX11_setting 48 = .ok (.getfield 24, 3) := by decide +kernel
theorem dX11_setting_51 : decode cX11_setting 51 = .ok (.getfield 141, 3) := by decide +kernel
theorem dX11_setting_54 : decode cX11_setting 54 = .ok (.getfield 376, 3) := by decide +kernel
theorem dX11_setting_57 : decode cX11_setting 57 = .ok (.iload_n 1, 1) := by decide +kernel
theorem dX11_setting_58 : decode cX11_setting 58 = .ok (.iconst 1, 1) := by decide +kernel
theorem dX11_setting_59 : decode cX11_setting 59 = .ok (.isub, 1) := by decide +kernel
theorem dX11_setting_60 : decode cX11_setting 60 = .ok (.iaload, 1) := by decide +kernel
theorem dX11_setting_61 : decode cX11_setting 61 = .ok (.ireturn, 1) := by decide +kernel
set_option maxRecDepth 20000 in
theorem sX11_setting_0 {P : Option Value → AH → Prop} (h : AH) (r0 : Nat) (x1 : Int32) (hf : (x1 < 0 → P (some (.int (-2))) h) ∧ (¬ x1 < 0 → (x1 ≤ 4 → (isO h 11 r0) ∧ ((isO h 3 (gF h r0 2)) ∧ ((isO h 8 (gF h (gF h r0 2) 14)) ∧ ((4 ≤ (gI h (gF h (gF h r0 2) 14) 0) → Call mX8_findSetting [.ref (gF h (gF h r0 2) 14)] h (fun v h7 => ∃ z8 : Int32, v = some (.int z8) ∧ ((isO h7 11 r0) ∧ ((isO h7 3 (gF h7 r0 2)) ∧ ((isO h7 8 (gF h7 (gF h7 r0 2) 14)) ∧ ((isA h7 0 (gF h7 (gF h7 (gF h7 r0 2) 14) 3)) ∧ ((¬ x1 = 0 → vp_in (x1 - 1) (ln (gF h7 (gF h7 (gF h7 r0 2) 14) 3))) ∧ (∀ z15 : Int32, z15 = (if x1 = 0 then z8 else (gI h7 (gF h7 (gF h7 (gF h7 r0 2) 14) 3) (x1 - 1).toNatClampNeg)) → (P (some (.int z15)) h7))))))))) ∧ (¬ 4 ≤ (gI h (gF h (gF h r0 2) 14) 0) → P (some (.int (-1))) h))))) ∧ (¬ x1 ≤ 4 → P (some (.int (-2))) h))) : Rr mX11_setting 0 0 0 [(0, .ref r0), (1, .int x1)] [] h P := by
  refine R_iload_n dX11_setting_0 rfl 1 rfl ?_
  refine R_if_lt (tgt := 9) dX11_setting_1 (by decide) (fun b1 => ?_) (fun b1 => ?_)
  · have hf := hf.1 b1
    refine R_bipush (v := (-2)) dX11_setting_9 (by decide) ?_
    exact R_iret dX11_setting_11 rfl rfl hf
  · have hf := hf.2 b1
    refine R_iload_n dX11_setting_4 rfl 1 rfl ?_
    refine R_iconst (v := 4) dX11_setting_5 (by decide) ?_
    refine R_icmp_le (tgt := 12) dX11_setting_6 (by decide) (fun b2 => ?_) (fun b2 => ?_)
    · have hf := hf.1 b2
      refine R_aload_n dX11_setting_12 rfl 0 rfl ?_
      obtain ⟨ob3, hf⟩ := hf
      refine G11_2 dX11_setting_13 lfX11_24 ob3 ?_
      obtain ⟨ob4, hf⟩ := hf
      refine G3_14 dX11_setting_16 lfX11_141 ob4 ?_
      obtain ⟨ob5, hf⟩ := hf
      refine G8_0 dX11_setting_19 lfX11_372 ob5 ?_
      refine R_iconst (v := 4) dX11_setting_22 (by decide) ?_
      refine R_icmp_ge (tgt := 28) dX11_setting_23 (by decide) (fun b6 => ?_) (fun b6 => ?_)
      · have hf := hf.1 b6
        refine R_aload_n dX11_setting_28 rfl 0 rfl ?_
        refine G11_2 dX11_setting_29 lfX11_24 ob3 ?_
        refine G3_14 dX11_setting_32 lfX11_141 ob4 ?_
        refine R_callV (ci := 8) (N := mX8_findSetting) (as := []) (rest := []) (kc2 := 0) (ks2 := 0) dX11_setting_35 lmX11_373 oX8_findSetting (Nat.le_of_ble_eq_true rfl) rfl rfl (Nat.le_of_ble_eq_true rfl) rfl rfl ob5 ok8 (Call.mono hf ?_)
        rintro _ h7 ⟨z8, rfl, hf⟩
        refine R_istore_n dX11_setting_38 rfl (by decide) rfl ?_
        refine R_iload_n dX11_setting_39 rfl 2 rfl ?_
        obtain ⟨ob10, hf⟩ := hf
        obtain ⟨ob11, hf⟩ := hf
        obtain ⟨ob12, hf⟩ := hf
        obtain ⟨ob13, hf⟩ := hf
        obtain ⟨ob14, hf⟩ := hf
        have key : ∀ z15 : Int32, z15 = (if x1 = 0 then z8 else (gI h7 (gF h7 (gF h7 (gF h7 r0 2) 14) 3) (x1 - 1).toNatClampNeg)) → Rr mX11_setting 0 0 61 [] [.int z15] h7 P := by
          intro z15 ez15
          have hf := hf z15 ez15
          exact R_iret dX11_setting_61 rfl rfl hf
        refine R_if_ne (tgt := 47) dX11_setting_40 (by decide) (fun b9 => ?_) (fun b9 => ?_)
        · refine R_aload_n dX11_setting_47 rfl 1 rfl ?_
          refine G11_2 dX11_setting_48 lfX11_24 ob10 ?_
          refine G3_14 dX11_setting_51 lfX11_141 ob11 ?_
          refine G8_3 dX11_setting_54 lfX11_376 ob12 ?_
          refine R_iload_n dX11_setting_57 rfl 2 rfl ?_
          refine R_iconst (v := 1) dX11_setting_58 (by decide) ?_
          refine R_isub dX11_setting_59 ?_
          refine R_iaload dX11_setting_60 ob13 (ob14 b9) ?_
          exact R_sub [] rfl (key _ (by rw [if_neg b9]))
        · refine R_iload_n dX11_setting_43 rfl 0 rfl ?_
          refine R_goto (tgt := 61) dX11_setting_44 (by decide) ?_
          exact R_sub [] rfl (key _ (by rw [if_pos b9]))
      · have hf := hf.2 b6
        refine R_iconst (v := (-1)) dX11_setting_26 (by decide) ?_
        exact R_iret dX11_setting_27 rfl rfl hf
    · have hf := hf.2 b2
      refine R_bipush (v := (-2)) dX11_setting_9 (by decide) ?_
      exact R_iret dX11_setting_11 rfl rfl hf
theorem dX11_sure_0 : decode cX11_sure 0 = .ok (.iload_n 1, 1) := by decide +kernel
theorem dX11_sure_1 : decode cX11_sure 1 = .ok (.invokestatic 150, 3) := by decide +kernel
theorem dX11_sure_4 : decode cX11_sure 4 = .ok (.ifCond .eq 10, 3) := by decide +kernel
theorem dX11_sure_7 : decode cX11_sure 7 = .ok (.iload_n 2, 1) := by decide +kernel
theorem dX11_sure_8 : decode cX11_sure 8 = .ok (.invokestatic 188, 3) := by decide +kernel
theorem dX11_sure_11 : decode cX11_sure 11 = .ok (.ifCond .ne 6, 3) := by decide +kernel
theorem dX11_sure_14 : decode cX11_sure 14 = .ok (.bipush (-2), 2) := by decide +kernel
theorem dX11_sure_16 : decode cX11_sure 16 = .ok (.ireturn, 1) := by decide +kernel
theorem dX11_sure_17 : decode cX11_sure 17 = .ok (.aload_n 0, 1) := by decide +kernel
theorem dX11_sure_18 : decode cX11_sure 18 = .ok (.getfield 38, 3) := by decide +kernel
theorem dX11_sure_21 : decode cX11_sure 21 = .ok (.aload_n 0, 1) := by decide +kernel
theorem dX11_sure_22 : decode cX11_sure 22 = .ok (.getfield 24, 3) := by decide +kernel
theorem dX11_sure_25 : decode cX11_sure 25 = .ok (.aload_n 0, 1) := by decide +kernel
theorem dX11_sure_26 : decode cX11_sure 26 = .ok (.getfield 31, 3) := by decide +kernel
theorem dX11_sure_29 : decode cX11_sure 29 = .ok (.iload_n 1, 1) := by decide +kernel
theorem dX11_sure_30 : decode cX11_sure 30 = .ok (.iload_n 2, 1) := by decide +kernel
theorem dX11_sure_31 : decode cX11_sure 31 = .ok (.invokevirtual 191, 3) := by decide +kernel
theorem dX11_sure_34 : decode cX11_sure 34 = .ok (.aload_n 0, 1) := by decide +kernel
theorem dX11_sure_35 : decode cX11_sure 35 = .ok (.getfield 38, 3) := by decide +kernel
theorem dX11_sure_38 : decode cX11_sure 38 = .ok (.getfield 195, 3) := by decide +kernel
theorem dX11_sure_41 : decode cX11_sure 41 = .ok (.ifCond .ne 7, 3) := by decide +kernel
theorem dX11_sure_44 : decode cX11_sure 44 = .ok (.iconst (-1), 1) := by decide +kernel
theorem dX11_sure_45 : decode cX11_sure 45 = .ok (.goto 10, 3) := by decide +kernel
theorem dX11_sure_48 : decode cX11_sure 48 = .ok (.aload_n 0, 1) := by decide +kernel
theorem dX11_sure_49 : decode cX11_sure 49 = .ok (.getfield 38, 3) := by decide +kernel
theorem dX11_sure_52 : decode cX11_sure 52 = .ok (.invokevirtual 204, 3) := by decide +kernel
theorem dX11_sure_55 : decode cX11_sure 55 = .ok (.ireturn, 1) := by decide +kernel
set_option maxRecDepth 20000 in
theorem sX11_sure_0 {P : Option Value → AH → Prop} (h : AH) (r0 : Nat) (x1 : Int32) (x2 : Int32) (hf : (¬ (¬ x1 < 0 ∧ ¬ 4 ≤ x1) → P (some (.int (-2))) h) ∧ ((¬ x1 < 0 ∧ ¬ 4 ≤ x1) → ((¬ x2 < 0 ∧ ¬ 999 < x2) → (isO h 11 r0) ∧ ((isO h 1 (gF h r0 4)) ∧ (Call mX1_find [.ref (gF h r0 4), .ref (gF h r0 2), .ref (gF h r0 3), .int x1, .int x2] h (fun v h5 => v = none ∧ ((isO h5 11 r0) ∧ ((isO h5 1 (gF h5 r0 4)) ∧ ((¬ (gI h5 (gF h5 r0 4) 9) = 0 → Call mX1_sureBits [.ref (gF h5 r0 4)] h5 (fun v h9 => ∃ z10 : Int32, v = some (.int z10) ∧ (P (some (.int z10)) h9))) ∧ ((gI h5 (gF h5 r0 4) 9) = 0 → P (some (.int (-1))) h5)))))))) ∧ (¬ (¬ x2 < 0 ∧ ¬ 999 < x2) → P (some (.int (-2))) h))) : Rr mX11_sure 0 0 0 [(0, .ref r0), (1, .int x1), (2, .int x2)] [] h P := by
  refine R_iload_n dX11_sure_0 rfl 1 rfl ?_
  refine R_callS (N := mX11_isInk) (as := [.int x1]) (rest := []) (kc2 := 0) (ks2 := 0) dX11_sure_1 lmX11_150 oX11_isInk (Nat.le_of_ble_eq_true rfl) rfl rfl (Nat.le_of_ble_eq_true rfl) rfl rfl (aX11_isInk  ?_)
  refine R_if_eq_b (tgt := 14) dX11_sure_4 (by decide) (fun b1 => ?_) (fun b1 => ?_)
  · have hf := hf.1 b1
    refine R_bipush (v := (-2)) dX11_sure_14 (by decide) ?_
    exact R_iret dX11_sure_16 rfl rfl hf
  · have hf := hf.2 b1
    refine R_iload_n dX11_sure_7 rfl 2 rfl ?_
    refine R_callS (N := mX7_isStep) (as := [.int x2]) (rest := []) (kc2 := 0) (ks2 := 0) dX11_sure_8 lmX11_188 oX7_isStep (Nat.le_of_ble_eq_true rfl) rfl rfl (Nat.le_of_ble_eq_true rfl) rfl rfl (aX7_isStep  ?_)
    refine R_if_ne_b (tgt := 17) dX11_sure_11 (by decide) (fun b2 => ?_) (fun b2 => ?_)
    · have hf := hf.1 b2
      refine R_aload_n dX11_sure_17 rfl 0 rfl ?_
      obtain ⟨ob3, hf⟩ := hf
      refine G11_4 dX11_sure_18 lfX11_38 ob3 ?_
      refine R_aload_n dX11_sure_21 rfl 0 rfl ?_
      refine G11_2 dX11_sure_22 lfX11_24 ob3 ?_
      refine R_aload_n dX11_sure_25 rfl 0 rfl ?_
      refine G11_3 dX11_sure_26 lfX11_31 ob3 ?_
      refine R_iload_n dX11_sure_29 rfl 1 rfl ?_
      refine R_iload_n dX11_sure_30 rfl 2 rfl ?_
      obtain ⟨ob4, hf⟩ := hf
      refine R_callV (ci := 1) (N := mX1_find) (as := [.ref (gF h r0 2), .ref (gF h r0 3), .int x1, .int x2]) (rest := []) (kc2 := 0) (ks2 := 0) dX11_sure_31 lmX11_191 oX1_find (Nat.le_of_ble_eq_true rfl) rfl rfl (Nat.le_of_ble_eq_true rfl) rfl rfl ob4 ok1 (Call.mono hf ?_)
      rintro _ h5 ⟨rfl, hf⟩
      refine R_aload_n dX11_sure_34 rfl 0 rfl ?_
      obtain ⟨ob6, hf⟩ := hf
      refine G11_4 dX11_sure_35 lfX11_38 ob6 ?_
      obtain ⟨ob7, hf⟩ := hf
      refine G1_9 dX11_sure_38 lfX11_195 ob7 ?_
      refine R_if_ne (tgt := 48) dX11_sure_41 (by decide) (fun b8 => ?_) (fun b8 => ?_)
      · have hf := hf.1 b8
        refine R_aload_n dX11_sure_48 rfl 0 rfl ?_
        refine G11_4 dX11_sure_49 lfX11_38 ob6 ?_
        refine R_callV (ci := 1) (N := mX1_sureBits) (as := []) (rest := []) (kc2 := 0) (ks2 := 0) dX11_sure_52 lmX11_204 oX1_sureBits (Nat.le_of_ble_eq_true rfl) rfl rfl (Nat.le_of_ble_eq_true rfl) rfl rfl ob7 ok1 (Call.mono hf ?_)
        rintro _ h9 ⟨z10, rfl, hf⟩
        exact R_iret dX11_sure_55 rfl rfl hf
      · have hf := hf.2 b8
        refine R_iconst (v := (-1)) dX11_sure_44 (by decide) ?_
        refine R_goto (tgt := 55) dX11_sure_45 (by decide) ?_
        exact R_iret dX11_sure_55 rfl rfl hf
    · have hf := hf.2 b2
      refine R_bipush (v := (-2)) dX11_sure_14 (by decide) ?_
      exact R_iret dX11_sure_16 rfl rfl hf
theorem dX11_worst_0 : decode cX11_worst 0 = .ok (.iload_n 1, 1) := by decide +kernel
theorem dX11_worst_1 : decode cX11_worst 1 = .ok (.iload_n 2, 1) := by decide +kernel
theorem dX11_worst_2 : decode cX11_worst 2 = .ok (.invokestatic 236, 3) := by decide +kernel
theorem dX11_worst_5 : decode cX11_worst 5 = .ok (.ifCond .eq 26, 3) := by decide +kernel
theorem dX11_worst_8 : decode cX11_worst 8 = .ok (.iload_n 3, 1) := by decide +kernel
theorem dX11_worst_9 : decode cX11_worst 9 = .ok (.invokestatic 220, 3) := by decide +kernel
theorem dX11_worst_12 : decode cX11_worst 12 = .ok (.ifCond .eq 19, 3) := by decide +kernel
theorem dX11_worst_15 : decode cX11_worst 15 = .ok (.iload 4, 2) := by decide +kernel
theorem dX11_worst_17 : decode cX11_worst 17 = .ok (.invokestatic 220, 3) := by decide +kernel
theorem dX11_worst_20 : decode cX11_worst 20 = .ok (.ifCond .eq 11, 3) := by decide +kernel
theorem dX11_worst_23 : decode cX11_worst 23 = .ok (.iload 5, 2) := by decide +kernel
theorem dX11_worst_25 : decode cX11_worst 25 = .ok (.invokestatic 257, 3) := by decide +kernel
theorem dX11_worst_28 : decode cX11_worst 28 = .ok (.ifCond .ne 6, 3) := by decide +kernel
theorem dX11_worst_31 : decode cX11_worst 31 = .ok (.bipush (-2), 2) := by decide +kernel
theorem dX11_worst_33 : decode cX11_worst 33 = .ok (.ireturn, 1) := by decide +kernel
theorem dX11_worst_34 : decode cX11_worst 34 = .ok (.aload_n 0, 1) := by decide +kernel
theorem dX11_worst_35 : decode cX11_worst 35 = .ok (.getfield 52, 3) := by decide +kernel
theorem dX11_worst_38 : decode cX11_worst 38 = .ok (.aload_n 0, 1) := by decide +kernel
theorem dX11_worst_39 : decode cX11_worst 39 = .ok (.getfield 24, 3) := by decide +kernel
theorem dX11_worst_42 : decode cX11_worst 42 = .ok (.iload_n 1, 1) := by decide +kernel
theorem dX11_worst_43 : decode cX11_worst 43 = .ok (.iload_n 2, 1) := by decide +kernel
theorem dX11_worst_44 : decode cX11_worst 44 = .ok (.iload_n 3, 1) := by decide +kernel
theorem dX11_worst_45 : decode cX11_worst 45 = .ok (.iload 4, 2) := by decide +kernel
theorem dX11_worst_47 : decode cX11_worst 47 = .ok (.invokevirtual 243, 3) := by decide +kernel
theorem dX11_worst_50 : decode cX11_worst 50 = .ok (.aload_n 0, 1) := by decide +kernel
theorem dX11_worst_51 : decode cX11_worst 51 = .ok (.getfield 52, 3) := by decide +kernel
theorem dX11_worst_54 : decode cX11_worst 54 = .ok (.iload 5, 2) := by decide +kernel
theorem dX11_worst_56 : decode cX11_worst 56 = .ok (.invokevirtual 260, 3) := by decide +kernel
theorem dX11_worst_59 : decode cX11_worst 59 = .ok (.ireturn, 1) := by decide +kernel
set_option maxRecDepth 20000 in
theorem sX11_worst_0 {P : Option Value → AH → Prop} (h : AH) (r0 : Nat) (x1 : Int32) (x2 : Int32) (x3 : Int32) (x4 : Int32) (x5 : Int32) (hf : (¬ ((¬ x1 < 0 ∧ ¬ 4 ≤ x1) ∧ (¬ x2 < 0 ∧ ¬ 4 ≤ x2) ∧ ¬ x1 = x2) → P (some (.int (-2))) h) ∧ (((¬ x1 < 0 ∧ ¬ 4 ≤ x1) ∧ (¬ x2 < 0 ∧ ¬ 4 ≤ x2) ∧ ¬ x1 = x2) → (¬ (¬ x3 < (-2) ∧ ¬ 2 < x3) → P (some (.int (-2))) h) ∧ ((¬ x3 < (-2) ∧ ¬ 2 < x3) → (¬ (¬ x4 < (-2) ∧ ¬ 2 < x4) → P (some (.int (-2))) h) ∧ ((¬ x4 < (-2) ∧ ¬ 2 < x4) → ((¬ x5 < 0 ∧ ¬ 2 < x5) → (isO h 11 r0) ∧ ((isO h 5 (gF h r0 6)) ∧ (Call mX5_lay [.ref (gF h r0 6), .ref (gF h r0 2), .int x1, .int x2, .int x3, .int x4] h (fun v h7 => v = none ∧ ((isO h7 11 r0) ∧ ((isO h7 5 (gF h7 r0 6)) ∧ (Call mX5_worstWithin [.ref (gF h7 r0 6), .int x5] h7 (fun v h10 => ∃ z11 : Int32, v = some (.int z11) ∧ (P (some (.int z11)) h10))))))))) ∧ (¬ (¬ x5 < 0 ∧ ¬ 2 < x5) → P (some (.int (-2))) h))))) : Rr mX11_worst 0 0 0 [(0, .ref r0), (1, .int x1), (2, .int x2), (3, .int x3), (4, .int x4), (5, .int x5)] [] h P := by
  refine R_iload_n dX11_worst_0 rfl 1 rfl ?_
  refine R_iload_n dX11_worst_1 rfl 2 rfl ?_
  refine R_callS (N := mX11_areUnlikeInks) (as := [.int x1, .int x2]) (rest := []) (kc2 := 0) (ks2 := 0) dX11_worst_2 lmX11_236 oX11_areUnlikeInks (Nat.le_of_ble_eq_true rfl) rfl rfl (Nat.le_of_ble_eq_true rfl) rfl rfl (aX11_areUnlikeInks  ?_)
  refine R_if_eq_b (tgt := 31) dX11_worst_5 (by decide) (fun b1 => ?_) (fun b1 => ?_)
  · have hf := hf.1 b1
    refine R_bipush (v := (-2)) dX11_worst_31 (by decide) ?_
    exact R_iret dX11_worst_33 rfl rfl hf
  · have hf := hf.2 b1
    refine R_iload_n dX11_worst_8 rfl 3 rfl ?_
    refine R_callS (N := mX11_isSpread) (as := [.int x3]) (rest := []) (kc2 := 0) (ks2 := 0) dX11_worst_9 lmX11_220 oX11_isSpread (Nat.le_of_ble_eq_true rfl) rfl rfl (Nat.le_of_ble_eq_true rfl) rfl rfl (aX11_isSpread  ?_)
    refine R_if_eq_b (tgt := 31) dX11_worst_12 (by decide) (fun b2 => ?_) (fun b2 => ?_)
    · have hf := hf.1 b2
      refine R_bipush (v := (-2)) dX11_worst_31 (by decide) ?_
      exact R_iret dX11_worst_33 rfl rfl hf
    · have hf := hf.2 b2
      refine R_iload dX11_worst_15 4 rfl ?_
      refine R_callS (N := mX11_isSpread) (as := [.int x4]) (rest := []) (kc2 := 0) (ks2 := 0) dX11_worst_17 lmX11_220 oX11_isSpread (Nat.le_of_ble_eq_true rfl) rfl rfl (Nat.le_of_ble_eq_true rfl) rfl rfl (aX11_isSpread  ?_)
      refine R_if_eq_b (tgt := 31) dX11_worst_20 (by decide) (fun b3 => ?_) (fun b3 => ?_)
      · have hf := hf.1 b3
        refine R_bipush (v := (-2)) dX11_worst_31 (by decide) ?_
        exact R_iret dX11_worst_33 rfl rfl hf
      · have hf := hf.2 b3
        refine R_iload dX11_worst_23 5 rfl ?_
        refine R_callS (N := mX11_isReach) (as := [.int x5]) (rest := []) (kc2 := 0) (ks2 := 0) dX11_worst_25 lmX11_257 oX11_isReach (Nat.le_of_ble_eq_true rfl) rfl rfl (Nat.le_of_ble_eq_true rfl) rfl rfl (aX11_isReach  ?_)
        refine R_if_ne_b (tgt := 34) dX11_worst_28 (by decide) (fun b4 => ?_) (fun b4 => ?_)
        · have hf := hf.1 b4
          refine R_aload_n dX11_worst_34 rfl 0 rfl ?_
          obtain ⟨ob5, hf⟩ := hf
          refine G11_6 dX11_worst_35 lfX11_52 ob5 ?_
          refine R_aload_n dX11_worst_38 rfl 0 rfl ?_
          refine G11_2 dX11_worst_39 lfX11_24 ob5 ?_
          refine R_iload_n dX11_worst_42 rfl 1 rfl ?_
          refine R_iload_n dX11_worst_43 rfl 2 rfl ?_
          refine R_iload_n dX11_worst_44 rfl 3 rfl ?_
          refine R_iload dX11_worst_45 4 rfl ?_
          obtain ⟨ob6, hf⟩ := hf
          refine R_callV (ci := 5) (N := mX5_lay) (as := [.ref (gF h r0 2), .int x1, .int x2, .int x3, .int x4]) (rest := []) (kc2 := 0) (ks2 := 0) dX11_worst_47 lmX11_243 oX5_lay (Nat.le_of_ble_eq_true rfl) rfl rfl (Nat.le_of_ble_eq_true rfl) rfl rfl ob6 ok5 (Call.mono hf ?_)
          rintro _ h7 ⟨rfl, hf⟩
          refine R_aload_n dX11_worst_50 rfl 0 rfl ?_
          obtain ⟨ob8, hf⟩ := hf
          refine G11_6 dX11_worst_51 lfX11_52 ob8 ?_
          refine R_iload dX11_worst_54 5 rfl ?_
          obtain ⟨ob9, hf⟩ := hf
          refine R_callV (ci := 5) (N := mX5_worstWithin) (as := [.int x5]) (rest := []) (kc2 := 0) (ks2 := 0) dX11_worst_56 lmX11_260 oX5_worstWithin (Nat.le_of_ble_eq_true rfl) rfl rfl (Nat.le_of_ble_eq_true rfl) rfl rfl ob9 ok5 (Call.mono hf ?_)
          rintro _ h10 ⟨z11, rfl, hf⟩
          exact R_iret dX11_worst_59 rfl rfl hf
        · have hf := hf.2 b4
          refine R_bipush (v := (-2)) dX11_worst_31 (by decide) ?_
          exact R_iret dX11_worst_33 rfl rfl hf
theorem dX12_best_0 : decode cX12_best 0 = .ok (.iload_n 1, 1) := by decide +kernel
theorem dX12_best_1 : decode cX12_best 1 = .ok (.iload_n 2, 1) := by decide +kernel
theorem dX12_best_2 : decode cX12_best 2 = .ok (.invokestatic 319, 3) := by decide +kernel
theorem dX12_best_5 : decode cX12_best 5 = .ok (.ifCond .eq 12, 3) := by decide +kernel
theorem dX12_best_8 : decode cX12_best 8 = .ok (.iload_n 3, 1) := by decide +kernel
theorem dX12_best_9 : decode cX12_best 9 = .ok (.iconst 0, 1) := by decide +kernel
theorem dX12_best_10 : decode cX12_best 10 = .ok (.iconst 2, 1) := by decide +kernel
theorem dX12_best_11 : decode cX12_best 11 = .ok (.invokestatic 178, 3) := by decide +kernel
theorem dX12_best_14 : decode cX12_best 14 = .ok (.ifCond .ne 6, 3) := by decide +kernel
theorem dX12_best_17 : decode cX12_best 17 = .ok (.bipush (-2), 2) := by decide +kernel
theorem dX12_best_19 : decode cX12_best 19 = .ok (.ireturn, 1) := by decide +kernel
theorem dX12_best_20 : decode cX12_best 20 = .ok (.iconst 0, 1) := by decide +kernel
theorem dX12_best_21 : decode cX12_best 21 = .ok (.istore 4, 2) := by decide +kernel
theorem dX12_best_23 : decode cX12_best 23 = .ok (.iconst 0, 1) := by decide +kernel
theorem dX12_best_24 : decode cX12_best 24 = .ok (.istore 5, 2) := by decide +kernel
theorem dX12_best_26 : decode cX12_best 26 = .ok (.bipush (-2), 2) := by decide +kernel
theorem dX12_best_28 : decode cX12_best 28 = .ok (.istore 6, 2) := by decide +kernel
theorem dX12_best_30 : decode cX12_best 30 = .ok (.iload 6, 2) := by decide +kernel
theorem dX12_best_32 : decode cX12_best 32 = .ok (.iconst 3, 1) := by decide +kernel
theorem dX12_best_33 : decode cX12_best 33 = .ok (.if_icmp .ge 108, 3) := by decide +kernel
theorem dX12_best_36 : decode cX12_best 36 = .ok (.bipush (-2), 2) := by decide +kernel
theorem dX12_best_38 : decode cX12_best 38 = .ok (.istore 7, 2) := by decide +kernel
theorem dX12_best_40 : decode cX12_best 40 = .ok (.iload 7, 2) := by decide +kernel
theorem dX12_best_42 : decode cX12_best 42 = .ok (.iconst 3, 1) := by decide +kernel
theorem dX12_best_43 : decode cX12_best 43 = .ok (.if_icmp .ge 92, 3) := by decide +kernel
theorem dX12_best_46 : decode cX12_best 46 = .ok (.aload_n 0, 1) := by decide +kernel
theorem dX12_best_47 : decode cX12_best 47 = .ok (.iload_n 1, 1) := by decide +kernel
theorem dX12_best_48 : decode cX12_best 48 = .ok (.iload_n 2, 1) := by decide +kernel
theorem dX12_best_49 : decode cX12_best 49 = .ok (.iload 6, 2) := by decide +kernel
theorem dX12_best_51 : decode cX12_best 51 = .ok (.iload 7, 2) := by decide +kernel
theorem dX12_best_53 : decode cX12_best 53 = .ok (.iload_n 3, 1) := by decide +kernel
theorem dX12_best_54 : decode cX12_best 54 = .ok (.invokevirtual 326, 3) := by decide +kernel
theorem dX12_best_57 : decode cX12_best 57 = .ok (.istore 8, 2) := by decide +kernel
theorem dX12_best_59 : decode cX12_best 59 = .ok (.iload 4, 2) := by decide +kernel
theorem dX12_best_61 : decode cX12_best 61 = .ok (.ifCond .eq 49, 3) := by decide +kernel
theorem dX12_best_64 : decode cX12_best 64 = .ok (.iload 8, 2) := by decide +kernel
theorem dX12_best_66 : decode cX12_best 66 = .ok (.iload 5, 2) := by decide +kernel
theorem dX12_best_68 : decode cX12_best 68 = .ok (.if_icmp .gt 61, 3) := by decide +kernel
theorem dX12_best_71 : decode cX12_best 71 = .ok (.iload 8, 2) := by decide +kernel
theorem dX12_best_73 : decode cX12_best 73 = .ok (.iload 5, 2) := by decide +kernel
theorem dX12_best_75 : decode cX12_best 75 = .ok (.if_icmp .ne 35, 3) := by decide +kernel
theorem dX12_best_78 : decode cX12_best 78 = .ok (.iload 6, 2) := by decide +kernel
theorem dX12_best_80 : decode cX12_best 80 = .ok (.invokestatic 276, 3) := by decide +kernel
theorem dX12_best_83 : decode cX12_best 83 = .ok (.iload 7, 2) := by decide +kernel
theorem dX12_best_85 : decode cX12_best 85 = .ok (.invokestatic 276, 3) := by decide +kernel
theorem dX12_best_88 : decode cX12_best 88 = .ok (.iadd, 1) := by decide +kernel
theorem dX12_best_89 : decode cX12_best 89 = .ok (.aload_n 0, 1) := by decide +kernel
theorem dX12_best_90 : decode cX12_best 90 = .ok (.getfield 329, 3) := by decide +kernel
theorem dX12_best_93 : decode cX12_best 93 = .ok (.invokestatic 276, 3) := by decide +kernel
theorem dX12_best_96 : decode cX12_best 96 = .ok (.aload_n 0, 1) := by decide +kernel
theorem dX12_best_97 : decode cX12_best 97 = .ok (.getfield 332, 3) := by decide +kernel
theorem dX12_best_100 : decode cX12_best 100 = .ok (.invokestatic 276, 3) := by decide +kernel
theorem dX12_best_103 : decode cX12_best 103 = .ok (.iadd, 1) := by decide +kernel
theorem dX12_best_104 : decode cX12_best 104 = .ok (.if_icmp .lt 6, 3) := by decide +kernel
theorem dX12_best_107 : decode cX12_best 107 = .ok (.goto 22, 3) := by decide +kernel
theorem dX12_best_110 : decode cX12_best 110 = .ok (.iconst 1, 1) := by decide +kernel
theorem dX12_best_111 : decode cX12_best 111 = .ok (.istore 4, 2) := by decide +kernel
theorem dX12_best_113 : decode cX12_best 113 = .ok (.iload 8, 2) := by decide +kernel
theorem dX12_best_115 : decode cX12_best 115 = .ok (.istore 5, 2) := by decide +kernel
theorem dX12_best_117 : decode cX12_best 117 = .ok (.aload_n 0, 1) := by decide +kernel
theorem dX12_best_118 : decode cX12_best 118 = .ok (.iload 6, 2) := by decide +kernel
theorem dX12_best_120 : decode cX12_best 120 = .ok (.putfield 329, 3) := by decide +kernel
theorem dX12_best_123 : decode cX12_best 123 = .ok (.aload_n 0, 1) := by decide +kernel
theorem dX12_best_124 : decode cX12_best 124 = .ok (.iload 7, 2) := by decide +kernel
theorem dX12_best_126 : decode cX12_best 126 = .ok (.putfield 332, 3) := by decide +kernel
theorem dX12_best_129 : decode cX12_best 129 = .ok (.iinc 7 1, 3) := by decide +kernel
theorem dX12_best_132 : decode cX12_best 132 = .ok (.goto (-92), 3) := by decide +kernel
theorem dX12_best_135 : decode cX12_best 135 = .ok (.iinc 6 1, 3) := by decide +kernel
theorem dX12_best_138 : decode cX12_best 138 = .ok (.goto (-108), 3) := by decide +kernel
theorem dX12_best_141 : decode cX12_best 141 = .ok (.aload_n 0, 1) := by decide +kernel
theorem dX12_best_142 : decode cX12_best 142 = .ok (.iconst 1, 1) := by decide +kernel
theorem dX12_best_143 : decode cX12_best 143 = .ok (.putfield 211, 3) := by decide +kernel
theorem dX12_best_146 : decode cX12_best 146 = .ok (.iload 5, 2) := by decide +kernel
theorem dX12_best_148 : decode cX12_best 148 = .ok (.ireturn, 1) := by decide +kernel
set_option maxRecDepth 20000 in
theorem sX12_best_0 {P : Option Value → AH → Prop} (h : AH) (r0 : Nat) (x1 : Int32) (x2 : Int32) (x3 : Int32) (hf : (¬ ((¬ x1 < 0 ∧ ¬ 3 < x1) ∧ (¬ x2 < 0 ∧ ¬ 3 < x2) ∧ ¬ x1 = x2) → P (some (.int (-2))) h) ∧ (((¬ x1 < 0 ∧ ¬ 3 < x1) ∧ (¬ x2 < 0 ∧ ¬ 3 < x2) ∧ ¬ x1 = x2) → ((¬ x3 < 0 ∧ ¬ 2 < x3) → Rr mX12_best 0 0 30 [(0, .ref r0), (1, .int x1), (2, .int x2), (3, .int x3), (4, .int 0), (5, .int 0), (6, .int (-2))] [] h P) ∧ (¬ (¬ x3 < 0 ∧ ¬ 2 < x3) → P (some (.int (-2))) h))) : Rr mX12_best 0 0 0 [(0, .ref r0), (1, .int x1), (2, .int x2), (3, .int x3)] [] h P := by
  refine R_iload_n dX12_best_0 rfl 1 rfl ?_
  refine R_iload_n dX12_best_1 rfl 2 rfl ?_
  refine R_callS (N := mX12_isPair) (as := [.int x1, .int x2]) (rest := []) (kc2 := 0) (ks2 := 0) dX12_best_2 lmX12_319 oX12_isPair (Nat.le_of_ble_eq_true rfl) rfl rfl (Nat.le_of_ble_eq_true rfl) rfl rfl (aX12_isPair  ?_)
  refine R_if_eq_b (tgt := 17) dX12_best_5 (by decide) (fun b1 => ?_) (fun b1 => ?_)
  · have hf := hf.1 b1
    refine R_bipush (v := (-2)) dX12_best_17 (by decide) ?_
    exact R_iret dX12_best_19 rfl rfl hf
  · have hf := hf.2 b1
    refine R_iload_n dX12_best_8 rfl 3 rfl ?_
    refine R_iconst (v := 0) dX12_best_9 (by decide) ?_
    refine R_iconst (v := 2) dX12_best_10 (by decide) ?_
    refine R_callS (N := mX12_in) (as := [.int x3, .int 0, .int 2]) (rest := []) (kc2 := 0) (ks2 := 0) dX12_best_11 lmX12_178 oX12_in (Nat.le_of_ble_eq_true rfl) rfl rfl (Nat.le_of_ble_eq_true rfl) rfl rfl (aX12_in  ?_)
    refine R_if_ne_b (tgt := 20) dX12_best_14 (by decide) (fun b2 => ?_) (fun b2 => ?_)
    · have hf := hf.1 b2
      refine R_iconst (v := 0) dX12_best_20 (by decide) ?_
      refine R_istore dX12_best_21 (by decide) rfl ?_
      refine R_iconst (v := 0) dX12_best_23 (by decide) ?_
      refine R_istore dX12_best_24 (by decide) rfl ?_
      refine R_bipush (v := (-2)) dX12_best_26 (by decide) ?_
      refine R_istore dX12_best_28 (by decide) rfl ?_
      exact R_sub [3, 4, 5, 6, 2, 1, 0] rfl hf
    · have hf := hf.2 b2
      refine R_bipush (v := (-2)) dX12_best_17 (by decide) ?_
      exact R_iret dX12_best_19 rfl rfl hf
set_option maxRecDepth 20000 in
theorem sX12_best_30 {P : Option Value → AH → Prop} (h : AH) (r0 : Nat) (x1 : Int32) (x2 : Int32) (x3 : Int32) (x4 : Int32) (x5 : Int32) (x6 : Int32) (hf : (3 ≤ x6 → (isO h 12 r0) ∧ (P (some (.int x5)) (sI h r0 48 1))) ∧ (¬ 3 ≤ x6 → Rr mX12_best 0 0 40 [(0, .ref r0), (1, .int x1), (2, .int x2), (3, .int x3), (4, .int x4), (5, .int x5), (6, .int x6), (7, .int (-2))] [] h P)) : Rr mX12_best 0 0 30 [(0, .ref r0), (1, .int x1), (2, .int x2), (3, .int x3), (4, .int x4), (5, .int x5), (6, .int x6)] [] h P := by
  refine R_iload dX12_best_30 6 rfl ?_
  refine R_iconst (v := 3) dX12_best_32 (by decide) ?_
  refine R_icmp_ge (tgt := 141) dX12_best_33 (by decide) (fun b1 => ?_) (fun b1 => ?_)
  · have hf := hf.1 b1
    refine R_aload_n dX12_best_141 rfl 0 rfl ?_
    refine R_iconst (v := 1) dX12_best_142 (by decide) ?_
    obtain ⟨ob2, hf⟩ := hf
    refine S12_48 dX12_best_143 lfX12_211 ob2 rfl rfl ?_
    refine R_iload dX12_best_146 5 rfl ?_
    exact R_iret dX12_best_148 rfl rfl hf
  · have hf := hf.2 b1
    refine R_bipush (v := (-2)) dX12_best_36 (by decide) ?_
    refine R_istore dX12_best_38 (by decide) rfl ?_
    exact R_sub [1, 2, 3, 4, 5, 6, 7, 0] rfl hf
set_option maxRecDepth 20000 in
theorem sX12_best_40 {P : Option Value → AH → Prop} (h : AH) (r0 : Nat) (x1 : Int32) (x2 : Int32) (x3 : Int32) (x4 : Int32) (x5 : Int32) (x6 : Int32) (x7 : Int32) (hf : (3 ≤ x7 → Rr mX12_best 0 0 30 [(0, .ref r0), (1, .int x1), (2, .int x2), (3, .int x3), (4, .int x4), (5, .int x5), (6, .int (x6 + 1))] [] h P) ∧ (¬ 3 ≤ x7 → (isO h 12 r0) ∧ (Call mX12_worstOf [.ref r0, .int x1, .int x2, .int x6, .int x7, .int x3] h (fun v h3 => ∃ z4 : Int32, v = some (.int z4) ∧ ((x4 = 0 → (isO h3 12 r0) ∧ (Rr mX12_best 0 0 40 [(0, .ref r0), (1, .int x1), (2, .int x2), (3, .int x3), (4, .int 1), (5, .int z4), (6, .int x6), (7, .int (x7 + 1))] [] (sI (sI h3 r0 49 x6) r0 50 x7) P)) ∧ (¬ x4 = 0 → (x5 < z4 → Rr mX12_best 0 0 40 [(0, .ref r0), (1, .int x1), (2, .int x2), (3, .int x3), (4, .int x4), (5, .int x5), (6, .int x6), (7, .int (x7 + 1))] [] h3 P) ∧ (¬ x5 < z4 → (¬ z4 = x5 → (isO h3 12 r0) ∧ (Rr mX12_best 0 0 40 [(0, .ref r0), (1, .int x1), (2, .int x2), (3, .int x3), (4, .int 1), (5, .int z4), (6, .int x6), (7, .int (x7 + 1))] [] (sI (sI h3 r0 49 x6) r0 50 x7) P)) ∧ (z4 = x5 → (isO h3 12 r0) ∧ ((((if 0 ≤ x6 then x6 else (-x6)) + (if 0 ≤ x7 then x7 else (-x7))) < ((if 0 ≤ (gI h3 r0 49) then (gI h3 r0 49) else (-(gI h3 r0 49))) + (if 0 ≤ (gI h3 r0 50) then (gI h3 r0 50) else (-(gI h3 r0 50)))) → Rr mX12_best 0 0 40 [(0, .ref r0), (1, .int x1), (2, .int x2), (3, .int x3), (4, .int 1), (5, .int z4), (6, .int x6), (7, .int (x7 + 1))] [] (sI (sI h3 r0 49 x6) r0 50 x7) P) ∧ (¬ ((if 0 ≤ x6 then x6 else (-x6)) + (if 0 ≤ x7 then x7 else (-x7))) < ((if 0 ≤ (gI h3 r0 49) then (gI h3 r0 49) else (-(gI h3 r0 49))) + (if 0 ≤ (gI h3 r0 50) then (gI h3 r0 50) else (-(gI h3 r0 50)))) → Rr mX12_best 0 0 40 [(0, .ref r0), (1, .int x1), (2, .int x2), (3, .int x3), (4, .int x4), (5, .int x5), (6, .int x6), (7, .int (x7 + 1))] [] h3 P)))))))))) : Rr mX12_best 0 0 40 [(0, .ref r0), (1, .int x1), (2, .int x2), (3, .int x3), (4, .int x4), (5, .int x5), (6, .int x6), (7, .int x7)] [] h P := by
  refine R_iload dX12_best_40 7 rfl ?_
  refine R_iconst (v := 3) dX12_best_42 (by decide) ?_
  refine R_icmp_ge (tgt := 135) dX12_best_43 (by decide) (fun b1 => ?_) (fun b1 => ?_)
  · have hf := hf.1 b1
    refine R_iinc (v := x6 + 1) dX12_best_135 6 rfl rfl (by decide) rfl ?_
    refine R_goto (tgt := 30) dX12_best_138 (by decide) ?_
    exact R_sub [1, 2, 3, 4, 5, 6, 0] rfl hf
  · have hf := hf.2 b1
    refine R_aload_n dX12_best_46 rfl 0 rfl ?_
    refine R_iload_n dX12_best_47 rfl 1 rfl ?_
    refine R_iload_n dX12_best_48 rfl 2 rfl ?_
    refine R_iload dX12_best_49 6 rfl ?_
    refine R_iload dX12_best_51 7 rfl ?_
    refine R_iload_n dX12_best_53 rfl 3 rfl ?_
    obtain ⟨ob2, hf⟩ := hf
    refine R_callV (ci := 12) (N := mX12_worstOf) (as := [.int x1, .int x2, .int x6, .int x7, .int x3]) (rest := []) (kc2 := 0) (ks2 := 0) dX12_best_54 lmX12_326 oX12_worstOf (Nat.le_of_ble_eq_true rfl) rfl rfl (Nat.le_of_ble_eq_true rfl) rfl rfl ob2 ok12 (Call.mono hf ?_)
    rintro _ h3 ⟨z4, rfl, hf⟩
    refine R_istore dX12_best_57 (by decide) rfl ?_
    refine R_iload dX12_best_59 5 rfl ?_
    refine R_if_eq (tgt := 110) dX12_best_61 (by decide) (fun b5 => ?_) (fun b5 => ?_)
    · have hf := hf.1 b5
      refine R_iconst (v := 1) dX12_best_110 (by decide) ?_
      refine R_istore dX12_best_111 (by decide) rfl ?_
      refine R_iload dX12_best_113 1 rfl ?_
      refine R_istore dX12_best_115 (by decide) rfl ?_
      refine R_aload_n dX12_best_117 rfl 3 rfl ?_
      refine R_iload dX12_best_118 7 rfl ?_
      obtain ⟨ob6, hf⟩ := hf
      refine S12_49 dX12_best_120 lfX12_329 ob6 ?_
      refine R_aload_n dX12_best_123 rfl 3 rfl ?_
      refine R_iload dX12_best_124 8 rfl ?_
      refine S12_50 dX12_best_126 lfX12_332 ob6 ?_
      refine R_iinc (v := x7 + 1) dX12_best_129 8 rfl rfl (by decide) rfl ?_
      refine R_goto (tgt := 40) dX12_best_132 (by decide) ?_
      exact R_sub [4, 5, 6, 7, 2, 1, 8, 0] rfl hf
    · have hf := hf.2 b5
      refine R_iload dX12_best_64 0 rfl ?_
      refine R_iload dX12_best_66 6 rfl ?_
      refine R_icmp_gt (tgt := 129) dX12_best_68 (by decide) (fun b7 => ?_) (fun b7 => ?_)
      · have hf := hf.1 b7
        refine R_iinc (v := x7 + 1) dX12_best_129 8 rfl rfl (by decide) rfl ?_
        refine R_goto (tgt := 40) dX12_best_132 (by decide) ?_
        exact R_sub [2, 3, 4, 5, 6, 7, 8, 0] rfl hf
      · have hf := hf.2 b7
        refine R_iload dX12_best_71 0 rfl ?_
        refine R_iload dX12_best_73 6 rfl ?_
        refine R_icmp_ne (tgt := 110) dX12_best_75 (by decide) (fun b8 => ?_) (fun b8 => ?_)
        · have hf := hf.1 b8
          refine R_iconst (v := 1) dX12_best_110 (by decide) ?_
          refine R_istore dX12_best_111 (by decide) rfl ?_
          refine R_iload dX12_best_113 1 rfl ?_
          refine R_istore dX12_best_115 (by decide) rfl ?_
          refine R_aload_n dX12_best_117 rfl 3 rfl ?_
          refine R_iload dX12_best_118 7 rfl ?_
          obtain ⟨ob9, hf⟩ := hf
          refine S12_49 dX12_best_120 lfX12_329 ob9 ?_
          refine R_aload_n dX12_best_123 rfl 3 rfl ?_
          refine R_iload dX12_best_124 8 rfl ?_
          refine S12_50 dX12_best_126 lfX12_332 ob9 ?_
          refine R_iinc (v := x7 + 1) dX12_best_129 8 rfl rfl (by decide) rfl ?_
          refine R_goto (tgt := 40) dX12_best_132 (by decide) ?_
          exact R_sub [4, 5, 6, 7, 2, 1, 8, 0] rfl hf
        · have hf := hf.2 b8
          refine R_iload dX12_best_78 7 rfl ?_
          refine R_callS (N := mX12_plain) (as := [.int x6]) (rest := []) (kc2 := 0) (ks2 := 0) dX12_best_80 lmX12_276 oX12_plain (Nat.le_of_ble_eq_true rfl) rfl rfl (Nat.le_of_ble_eq_true rfl) rfl rfl (aX12_plain  ?_)
          refine R_iload dX12_best_83 8 rfl ?_
          refine R_callS (N := mX12_plain) (as := [.int x7]) (rest := [.int (if 0 ≤ x6 then x6 else (-x6))]) (kc2 := 0) (ks2 := 0) dX12_best_85 lmX12_276 oX12_plain (Nat.le_of_ble_eq_true rfl) rfl rfl (Nat.le_of_ble_eq_true rfl) rfl rfl (aX12_plain  ?_)
          refine R_iadd dX12_best_88 ?_
          refine R_aload_n dX12_best_89 rfl 1 rfl ?_
          obtain ⟨ob10, hf⟩ := hf
          refine G12_49 dX12_best_90 lfX12_329 ob10 ?_
          refine R_callS (N := mX12_plain) (as := [.int (gI h3 r0 49)]) (rest := [.int ((if 0 ≤ x6 then x6 else (-x6)) + (if 0 ≤ x7 then x7 else (-x7)))]) (kc2 := 0) (ks2 := 0) dX12_best_93 lmX12_276 oX12_plain (Nat.le_of_ble_eq_true rfl) rfl rfl (Nat.le_of_ble_eq_true rfl) rfl rfl (aX12_plain  ?_)
          refine R_aload_n dX12_best_96 rfl 1 rfl ?_
          refine G12_50 dX12_best_97 lfX12_332 ob10 ?_
          refine R_callS (N := mX12_plain) (as := [.int (gI h3 r0 50)]) (rest := [.int (if 0 ≤ (gI h3 r0 49) then (gI h3 r0 49) else (-(gI h3 r0 49))), .int ((if 0 ≤ x6 then x6 else (-x6)) + (if 0 ≤ x7 then x7 else (-x7)))]) (kc2 := 0) (ks2 := 0) dX12_best_100 lmX12_276 oX12_plain (Nat.le_of_ble_eq_true rfl) rfl rfl (Nat.le_of_ble_eq_true rfl) rfl rfl (aX12_plain  ?_)
          refine R_iadd dX12_best_103 ?_
          refine R_icmp_lt (tgt := 110) dX12_best_104 (by decide) (fun b11 => ?_) (fun b11 => ?_)
          · have hf := hf.1 b11
            refine R_iconst (v := 1) dX12_best_110 (by decide) ?_
            refine R_istore dX12_best_111 (by decide) rfl ?_
            refine R_iload dX12_best_113 1 rfl ?_
            refine R_istore dX12_best_115 (by decide) rfl ?_
            refine R_aload_n dX12_best_117 rfl 3 rfl ?_
            refine R_iload dX12_best_118 7 rfl ?_
            refine S12_49 dX12_best_120 lfX12_329 ob10 ?_
            refine R_aload_n dX12_best_123 rfl 3 rfl ?_
            refine R_iload dX12_best_124 8 rfl ?_
            refine S12_50 dX12_best_126 lfX12_332 ob10 ?_
            refine R_iinc (v := x7 + 1) dX12_best_129 8 rfl rfl (by decide) rfl ?_
            refine R_goto (tgt := 40) dX12_best_132 (by decide) ?_
            exact R_sub [4, 5, 6, 7, 2, 1, 8, 0] rfl hf
          · have hf := hf.2 b11
            refine R_goto (tgt := 129) dX12_best_107 (by decide) ?_
            refine R_iinc (v := x7 + 1) dX12_best_129 8 rfl rfl (by decide) rfl ?_
            refine R_goto (tgt := 40) dX12_best_132 (by decide) ?_
            exact R_sub [2, 3, 4, 5, 6, 7, 8, 0] rfl hf
theorem dX12_worst_0 : decode cX12_worst 0 = .ok (.iload_n 1, 1) := by decide +kernel
theorem dX12_worst_1 : decode cX12_worst 1 = .ok (.iload_n 2, 1) := by decide +kernel
theorem dX12_worst_2 : decode cX12_worst 2 = .ok (.invokestatic 319, 3) := by decide +kernel
theorem dX12_worst_5 : decode cX12_worst 5 = .ok (.ifCond .eq 48, 3) := by decide +kernel
theorem dX12_worst_8 : decode cX12_worst 8 = .ok (.iload_n 3, 1) := by decide +kernel
theorem dX12_worst_9 : decode cX12_worst 9 = .ok (.bipush (-2), 2) := by decide +kernel
theorem dX12_worst_11 : decode cX12_worst 11 = .ok (.iconst 2, 1) := by decide +kernel
theorem dX12_worst_12 : decode cX12_worst 12 = .ok (.invokestatic 178, 3) := by decide +kernel
theorem dX12_worst_15 : decode cX12_worst 15 = .ok (.ifCond .eq 38, 3) := by decide +kernel
theorem dX12_worst_18 : decode cX12_worst 18 = .ok (.iload 4, 2) := by decide +kernel
theorem dX12_worst_20 : decode cX12_worst 20 = .ok (.bipush (-2), 2) := by decide +kernel
theorem dX12_worst_22 : decode cX12_worst 22 = .ok (.iconst 2, 1) := by decide +kernel
theorem dX12_worst_23 : decode cX12_worst 23 = .ok (.invokestatic 178, 3) := by decide +kernel
theorem dX12_worst_26 : decode cX12_worst 26 = .ok (.ifCond .eq 27, 3) := by decide +kernel
theorem dX12_worst_29 : decode cX12_worst 29 = .ok (.iload 5, 2) := by decide +kernel
theorem dX12_worst_31 : decode cX12_worst 31 = .ok (.iconst 0, 1) := by decide +kernel
theorem dX12_worst_32 : decode cX12_worst 32 = .ok (.iconst 2, 1) := by decide +kernel
theorem dX12_worst_33 : decode cX12_worst 33 = .ok (.invokestatic 178, 3) := by decide +kernel
theorem dX12_worst_36 : decode cX12_worst 36 = .ok (.ifCond .eq 17, 3) := by decide +kernel
theorem dX12_worst_39 : decode cX12_worst 39 = .ok (.aload_n 0, 1) := by decide +kernel
theorem dX12_worst_40 : decode cX12_worst 40 = .ok (.iload_n 1, 1) := by decide +kernel
theorem dX12_worst_41 : decode cX12_worst 41 = .ok (.iload_n 2, 1) := by decide +kernel
theorem dX12_worst_42 : decode cX12_worst 42 = .ok (.iload_n 3, 1) := by decide +kernel
theorem dX12_worst_43 : decode cX12_worst 43 = .ok (.iload 4, 2) := by decide +kernel
theorem dX12_worst_45 : decode cX12_worst 45 = .ok (.iload 5, 2) := by decide +kernel
theorem dX12_worst_47 : decode cX12_worst 47 = .ok (.invokevirtual 326, 3) := by decide +kernel
theorem dX12_worst_50 : decode cX12_worst 50 = .ok (.goto 5, 3) := by decide +kernel
theorem dX12_worst_53 : decode cX12_worst 53 = .ok (.bipush (-2), 2) := by decide +kernel
theorem dX12_worst_55 : decode cX12_worst 55 = .ok (.ireturn, 1) := by decide +kernel
set_option maxRecDepth 20000 in
theorem sX12_worst_0 {P : Option Value → AH → Prop} (h : AH) (r0 : Nat) (x1 : Int32) (x2 : Int32) (x3 : Int32) (x4 : Int32) (x5 : Int32) (hf : (¬ ((¬ x1 < 0 ∧ ¬ 3 < x1) ∧ (¬ x2 < 0 ∧ ¬ 3 < x2) ∧ ¬ x1 = x2) → P (some (.int (-2))) h) ∧ (((¬ x1 < 0 ∧ ¬ 3 < x1) ∧ (¬ x2 < 0 ∧ ¬ 3 < x2) ∧ ¬ x1 = x2) → (¬ (¬ x3 < (-2) ∧ ¬ 2 < x3) → P (some (.int (-2))) h) ∧ ((¬ x3 < (-2) ∧ ¬ 2 < x3) → (¬ (¬ x4 < (-2) ∧ ¬ 2 < x4) → P (some (.int (-2))) h) ∧ ((¬ x4 < (-2) ∧ ¬ 2 < x4) → (¬ (¬ x5 < 0 ∧ ¬ 2 < x5) → P (some (.int (-2))) h) ∧ ((¬ x5 < 0 ∧ ¬ 2 < x5) → (isO h 12 r0) ∧ (Call mX12_worstOf [.ref r0, .int x1, .int x2, .int x3, .int x4, .int x5] h (fun v h6 => ∃ z7 : Int32, v = some (.int z7) ∧ (P (some (.int z7)) h6)))))))) : Rr mX12_worst 0 0 0 [(0, .ref r0), (1, .int x1), (2, .int x2), (3, .int x3), (4, .int x4), (5, .int x5)] [] h P := by
  refine R_iload_n dX12_worst_0 rfl 1 rfl ?_
  refine R_iload_n dX12_worst_1 rfl 2 rfl ?_
  refine R_callS (N := mX12_isPair) (as := [.int x1, .int x2]) (rest := []) (kc2 := 0) (ks2 := 0) dX12_worst_2 lmX12_319 oX12_isPair (Nat.le_of_ble_eq_true rfl) rfl rfl (Nat.le_of_ble_eq_true rfl) rfl rfl (aX12_isPair  ?_)
  refine R_if_eq_b (tgt := 53) dX12_worst_5 (by decide) (fun b1 => ?_) (fun b1 => ?_)
  · have hf := hf.1 b1
    refine R_bipush (v := (-2)) dX12_worst_53 (by decide) ?_
    exact R_iret dX12_worst_55 rfl rfl hf
  · have hf := hf.2 b1
    refine R_iload_n dX12_worst_8 rfl 3 rfl ?_
    refine R_bipush (v := (-2)) dX12_worst_9 (by decide) ?_
    refine R_iconst (v := 2) dX12_worst_11 (by decide) ?_
    refine R_callS (N := mX12_in) (as := [.int x3, .int (-2), .int 2]) (rest := []) (kc2 := 0) (ks2 := 0) dX12_worst_12 lmX12_178 oX12_in (Nat.le_of_ble_eq_true rfl) rfl rfl (Nat.le_of_ble_eq_true rfl) rfl rfl (aX12_in  ?_)
    refine R_if_eq_b (tgt := 53) dX12_worst_15 (by decide) (fun b2 => ?_) (fun b2 => ?_)
    · have hf := hf.1 b2
      refine R_bipush (v := (-2)) dX12_worst_53 (by decide) ?_
      exact R_iret dX12_worst_55 rfl rfl hf
    · have hf := hf.2 b2
      refine R_iload dX12_worst_18 4 rfl ?_
      refine R_bipush (v := (-2)) dX12_worst_20 (by decide) ?_
      refine R_iconst (v := 2) dX12_worst_22 (by decide) ?_
      refine R_callS (N := mX12_in) (as := [.int x4, .int (-2), .int 2]) (rest := []) (kc2 := 0) (ks2 := 0) dX12_worst_23 lmX12_178 oX12_in (Nat.le_of_ble_eq_true rfl) rfl rfl (Nat.le_of_ble_eq_true rfl) rfl rfl (aX12_in  ?_)
      refine R_if_eq_b (tgt := 53) dX12_worst_26 (by decide) (fun b3 => ?_) (fun b3 => ?_)
      · have hf := hf.1 b3
        refine R_bipush (v := (-2)) dX12_worst_53 (by decide) ?_
        exact R_iret dX12_worst_55 rfl rfl hf
      · have hf := hf.2 b3
        refine R_iload dX12_worst_29 5 rfl ?_
        refine R_iconst (v := 0) dX12_worst_31 (by decide) ?_
        refine R_iconst (v := 2) dX12_worst_32 (by decide) ?_
        refine R_callS (N := mX12_in) (as := [.int x5, .int 0, .int 2]) (rest := []) (kc2 := 0) (ks2 := 0) dX12_worst_33 lmX12_178 oX12_in (Nat.le_of_ble_eq_true rfl) rfl rfl (Nat.le_of_ble_eq_true rfl) rfl rfl (aX12_in  ?_)
        refine R_if_eq_b (tgt := 53) dX12_worst_36 (by decide) (fun b4 => ?_) (fun b4 => ?_)
        · have hf := hf.1 b4
          refine R_bipush (v := (-2)) dX12_worst_53 (by decide) ?_
          exact R_iret dX12_worst_55 rfl rfl hf
        · have hf := hf.2 b4
          refine R_aload_n dX12_worst_39 rfl 0 rfl ?_
          refine R_iload_n dX12_worst_40 rfl 1 rfl ?_
          refine R_iload_n dX12_worst_41 rfl 2 rfl ?_
          refine R_iload_n dX12_worst_42 rfl 3 rfl ?_
          refine R_iload dX12_worst_43 4 rfl ?_
          refine R_iload dX12_worst_45 5 rfl ?_
          obtain ⟨ob5, hf⟩ := hf
          refine R_callV (ci := 12) (N := mX12_worstOf) (as := [.int x1, .int x2, .int x3, .int x4, .int x5]) (rest := []) (kc2 := 0) (ks2 := 0) dX12_worst_47 lmX12_326 oX12_worstOf (Nat.le_of_ble_eq_true rfl) rfl rfl (Nat.le_of_ble_eq_true rfl) rfl rfl ob5 ok12 (Call.mono hf ?_)
          rintro _ h6 ⟨z7, rfl, hf⟩
          refine R_goto (tgt := 55) dX12_worst_50 (by decide) ?_
          exact R_iret dX12_worst_55 rfl rfl hf
theorem dX4_onlyNumber_0 : decode cX4_onlyNumber 0 = .ok (.aload_n 0, 1) := by decide +kernel
theorem dX4_onlyNumber_1 : decode cX4_onlyNumber 1 = .ok (.iload_n 1, 1) := by decide +kernel
theorem dX4_onlyNumber_2 : decode cX4_onlyNumber 2 = .ok (.invokevirtual 106, 3) := by decide +kernel
theorem dX4_onlyNumber_5 : decode cX4_onlyNumber 5 = .ok (.aload_n 0, 1) := by decide +kernel
theorem dX4_onlyNumber_6 : decode cX4_onlyNumber 6 = .ok (.iconst 0, 1) := by decide +kernel
theorem dX4_onlyNumber_7 : decode cX4_onlyNumber 7 = .ok (.iload_n 2, 1) := by decide +kernel
theorem dX4_onlyNumber_8 : decode cX4_onlyNumber 8 = .ok (.invokevirtual 109, 3) := by decide +kernel
theorem dX4_onlyNumber_11 : decode cX4_onlyNumber 11 = .ok (.ireturn, 1) := by decide +kernel
set_option maxRecDepth 20000 in
theorem sX4_onlyNumber_0 {P : Option Value → AH → Prop} (h : AH) (r0 : Nat) (x1 : Int32) (x2 : Int32) (hf : (isO h 4 r0) ∧ (Call mX4_refuseTwice [.ref r0, .int x1] h (fun v h2 => v = none ∧ ((isO h2 4 r0) ∧ (Call mX4_number [.ref r0, .int 0, .int x2] h2 (fun v h4 => ∃ z5 : Int32, v = some (.int z5) ∧ (P (some (.int z5)) h4))))))) : Rr mX4_onlyNumber 0 0 0 [(0, .ref r0), (1, .int x1), (2, .int x2)] [] h P := by
  refine R_aload_n dX4_onlyNumber_0 rfl 0 rfl ?_
  refine R_iload_n dX4_onlyNumber_1 rfl 1 rfl ?_
  obtain ⟨ob1, hf⟩ := hf
  refine R_callV (ci := 4) (N := mX4_refuseTwice) (as := [.int x1]) (rest := []) (kc2 := 0) (ks2 := 0) dX4_onlyNumber_2 lmX4_106 oX4_refuseTwice (Nat.le_of_ble_eq_true rfl) rfl rfl (Nat.le_of_ble_eq_true rfl) rfl rfl ob1 ok4 (Call.mono hf ?_)
  rintro _ h2 ⟨rfl, hf⟩
  refine R_aload_n dX4_onlyNumber_5 rfl 0 rfl ?_
  refine R_iconst (v := 0) dX4_onlyNumber_6 (by decide) ?_
  refine R_iload_n dX4_onlyNumber_7 rfl 2 rfl ?_
  obtain ⟨ob3, hf⟩ := hf
  refine R_callV (ci := 4) (N := mX4_number) (as := [.int 0, .int x2]) (rest := []) (kc2 := 0) (ks2 := 0) dX4_onlyNumber_8 lmX4_109 oX4_number (Nat.le_of_ble_eq_true rfl) rfl rfl (Nat.le_of_ble_eq_true rfl) rfl rfl ob3 ok4 (Call.mono hf ?_)
  rintro _ h4 ⟨z5, rfl, hf⟩
  exact R_iret dX4_onlyNumber_11 rfl rfl hf
theorem dX4_takeMark_0 : decode cX4_takeMark 0 = .ok (.aload_n 0, 1) := by decide +kernel
theorem dX4_takeMark_1 : decode cX4_takeMark 1 = .ok (.getfield 21, 3) := by decide +kernel
theorem dX4_takeMark_4 : decode cX4_takeMark 4 = .ok (.getfield 112, 3) := by decide +kernel
theorem dX4_takeMark_7 : decode cX4_takeMark 7 = .ok (.bipush 8, 2) := by decide +kernel
theorem dX4_takeMark_9 : decode cX4_takeMark 9 = .ok (.if_icmp .lt 9, 3) := by decide +kernel
theorem dX4_takeMark_12 : decode cX4_takeMark 12 = .ok (.aload_n 0, 1) := by decide +kernel
theorem dX4_takeMark_13 : decode cX4_takeMark 13 = .ok (.iconst 4, 1) := by decide +kernel
theorem dX4_takeMark_14 : decode cX4_takeMark 14 = .ok (.invokevirtual 99, 3) := by decide +kernel
theorem dX4_takeMark_17 : decode cX4_takeMark 17 = .ok (.return_, 1) := by decide +kernel
theorem dX4_takeMark_18 : decode cX4_takeMark 18 = .ok (.aload_n 0, 1) := by decide +kernel
theorem dX4_takeMark_19 : decode cX4_takeMark 19 = .ok (.getfield 21, 3) := by decide +kernel
theorem dX4_takeMark_22 : decode cX4_takeMark 22 = .ok (.getfield 121, 3) := by decide +kernel
theorem dX4_takeMark_25 : decode cX4_takeMark 25 = .ok (.aload_n 0, 1) := by decide +kernel
theorem dX4_takeMark_26 : decode cX4_takeMark 26 = .ok (.getfield 21, 3) := by decide +kernel
theorem dX4_takeMark_29 : decode cX4_takeMark 29 = .ok (.getfield 112, 3) := by decide +kernel
theorem dX4_takeMark_32 : decode cX4_takeMark 32 = .ok (.aload_n 0, 1) := by decide +kernel
theorem dX4_takeMark_33 : decode cX4_takeMark 33 = .ok (.iconst 0, 1) := by decide +kernel
theorem dX4_takeMark_34 : decode cX4_takeMark 34 = .ok (.aload_n 0, 1) := by decide +kernel
theorem dX4_takeMark_35 : decode cX4_takeMark 35 = .ok (.getfield 21, 3) := by decide +kernel
theorem dX4_takeMark_38 : decode cX4_takeMark 38 = .ok (.getfield 115, 3) := by decide +kernel
theorem dX4_takeMark_41 : decode cX4_takeMark 41 = .ok (.invokevirtual 109, 3) := by decide +kernel
theorem dX4_takeMark_44 : decode cX4_takeMark 44 = .ok (.iastore, 1) := by decide +kernel
theorem dX4_takeMark_45 : decode cX4_takeMark 45 = .ok (.aload_n 0, 1) := by decide +kernel
theorem dX4_takeMark_46 : decode cX4_takeMark 46 = .ok (.getfield 21, 3) := by decide +kernel
theorem dX4_takeMark_49 : decode cX4_takeMark 49 = .ok (.getfield 125, 3) := by decide +kernel
theorem dX4_takeMark_52 : decode cX4_takeMark 52 = .ok (.aload_n 0, 1) := by decide +kernel
theorem dX4_takeMark_53 : decode cX4_takeMark 53 = .ok (.getfield 21, 3) := by decide +kernel
theorem dX4_takeMark_56 : decode cX4_takeMark 56 = .ok (.getfield 112, 3) := by decide +kernel
theorem dX4_takeMark_59 : decode cX4_takeMark 59 = .ok (.aload_n 0, 1) := by decide +kernel
theorem dX4_takeMark_60 : decode cX4_takeMark 60 = .ok (.iconst 0, 1) := by decide +kernel
theorem dX4_takeMark_61 : decode cX4_takeMark 61 = .ok (.aload_n 0, 1) := by decide +kernel
theorem dX4_takeMark_62 : decode cX4_takeMark 62 = .ok (.getfield 21, 3) := by decide +kernel
theorem dX4_takeMark_65 : decode cX4_takeMark 65 = .ok (.getfield 118, 3) := by decide +kernel
theorem dX4_takeMark_68 : decode cX4_takeMark 68 = .ok (.invokevirtual 109, 3) := by decide +kernel
theorem dX4_takeMark_71 : decode cX4_takeMark 71 = .ok (.iastore, 1) := by decide +kernel
theorem dX4_takeMark_72 : decode cX4_takeMark 72 = .ok (.aload_n 0, 1) := by decide +kernel
theorem dX4_takeMark_73 : decode cX4_takeMark 73 = .ok (.getfield 21, 3) := by decide +kernel
theorem dX4_takeMark_76 : decode cX4_takeMark 76 = .ok (.dup, 1) := by decide +kernel
theorem dX4_takeMark_77 : decode cX4_takeMark 77 = .ok (.getfield 112, 3) := by decide +kernel
theorem dX4_takeMark_80 : decode cX4_takeMark 80 = .ok (.iconst 1, 1) := by decide +kernel
theorem dX4_takeMark_81 : decode cX4_takeMark 81 = .ok (.iadd, 1) := by decide +kernel
theorem dX4_takeMark_82 : decode cX4_takeMark 82 = .ok (.putfield 112, 3) := by decide +kernel
theorem dX4_takeMark_85 : decode cX4_takeMark 85 = .ok (.return_, 1) := by decide +kernel
set_option maxRecDepth 20000 in
theorem sX4_takeMark_0 {P : Option Value → AH → Prop} (h : AH) (r0 : Nat) (hf : (isO h 4 r0) ∧ ((isO h 3 (gF h r0 3)) ∧ (((gI h (gF h r0 3) 3) < 8 → Call mX4_number [.ref r0, .int 0, .int (gI h (gF h r0 3) 1)] h (fun v h4 => ∃ z5 : Int32, v = some (.int z5) ∧ ((isA h4 0 (gF h (gF h r0 3) 4)) ∧ ((vp_in (gI h (gF h r0 3) 3) (ln (gF h (gF h r0 3) 4))) ∧ ((isO h4 4 r0) ∧ ((isO h4 3 (gF h4 r0 3)) ∧ (Call mX4_number [.ref r0, .int 0, .int (gI h4 (gF h4 r0 3) 2)] (sI h4 (gF h (gF h r0 3) 4) (gI h (gF h r0 3) 3).toNatClampNeg z5) (fun v h10 => ∃ z11 : Int32, v = some (.int z11) ∧ ((isA h10 0 (gF h4 (gF h4 r0 3) 5)) ∧ ((vp_in (gI h4 (gF h4 r0 3) 3) (ln (gF h4 (gF h4 r0 3) 5))) ∧ ((isO h10 4 r0) ∧ ((isO h10 3 (gF h10 r0 3)) ∧ (P none (sI (sI h10 (gF h4 (gF h4 r0 3) 5) (gI h4 (gF h4 r0 3) 3).toNatClampNeg z11) (gF h10 r0 3) 3 ((gI h10 (gF h10 r0 3) 3) + 1))))))))))))))) ∧ (¬ (gI h (gF h r0 3) 3) < 8 → Call mX4_refuse [.ref r0, .int 4] h (fun v h16 => v = none ∧ (P none h16)))))) : Rr mX4_takeMark 0 0 0 [(0, .ref r0)] [] h P := by
  refine R_aload_n dX4_takeMark_0 rfl 0 rfl ?_
  obtain ⟨ob1, hf⟩ := hf
  refine G4_3 dX4_takeMark_1 lfX4_21 ob1 ?_
  obtain ⟨ob2, hf⟩ := hf
  refine G3_3 dX4_takeMark_4 lfX4_112 ob2 ?_
  refine R_bipush (v := 8) dX4_takeMark_7 (by decide) ?_
  refine R_icmp_lt (tgt := 18) dX4_takeMark_9 (by decide) (fun b3 => ?_) (fun b3 => ?_)
  · have hf := hf.1 b3
    refine R_aload_n dX4_takeMark_18 rfl 0 rfl ?_
    refine G4_3 dX4_takeMark_19 lfX4_21 ob1 ?_
    refine G3_4 dX4_takeMark_22 lfX4_121 ob2 ?_
    refine R_aload_n dX4_takeMark_25 rfl 0 rfl ?_
    refine G4_3 dX4_takeMark_26 lfX4_21 ob1 ?_
    refine G3_3 dX4_takeMark_29 lfX4_112 ob2 ?_
    refine R_aload_n dX4_takeMark_32 rfl 0 rfl ?_
    refine R_iconst (v := 0) dX4_takeMark_33 (by decide) ?_
    refine R_aload_n dX4_takeMark_34 rfl 0 rfl ?_
    refine G4_3 dX4_takeMark_35 lfX4_21 ob1 ?_
    refine G3_1 dX4_takeMark_38 lfX4_115 ob2 ?_
    refine R_callV (ci := 4) (N := mX4_number) (as := [.int 0, .int (gI h (gF h r0 3) 1)]) (rest := [.int (gI h (gF h r0 3) 3), .ref (gF h (gF h r0 3) 4)]) (kc2 := 0) (ks2 := 0) dX4_takeMark_41 lmX4_109 oX4_number (Nat.le_of_ble_eq_true rfl) rfl rfl (Nat.le_of_ble_eq_true rfl) rfl rfl ob1 ok4 (Call.mono hf ?_)
    rintro _ h4 ⟨z5, rfl, hf⟩
    obtain ⟨ob6, hf⟩ := hf
    obtain ⟨ob7, hf⟩ := hf
    refine R_iastore dX4_takeMark_44 ob6 ob7 ?_
    refine R_aload_n dX4_takeMark_45 rfl 0 rfl ?_
    obtain ⟨ob8, hf⟩ := hf
    refine G4_3 dX4_takeMark_46 lfX4_21 ob8 ?_
    refine R_eqF (y := gF h4 r0 3) rfl ?_
    obtain ⟨ob9, hf⟩ := hf
    refine G3_5 dX4_takeMark_49 lfX4_125 ob9 ?_
    refine R_eqF (y := gF h4 (gF h4 r0 3) 5) rfl ?_
    refine R_aload_n dX4_takeMark_52 rfl 0 rfl ?_
    refine G4_3 dX4_takeMark_53 lfX4_21 ob8 ?_
    refine R_eqF (y := gF h4 r0 3) rfl ?_
    refine G3_3 dX4_takeMark_56 lfX4_112 ob9 ?_
    refine R_eqI (y := gI h4 (gF h4 r0 3) 3) (rd_r (ne_oa ob9 ob6 (by decide))) ?_
    refine R_aload_n dX4_takeMark_59 rfl 0 rfl ?_
    refine R_iconst (v := 0) dX4_takeMark_60 (by decide) ?_
    refine R_aload_n dX4_takeMark_61 rfl 0 rfl ?_
    refine G4_3 dX4_takeMark_62 lfX4_21 ob8 ?_
    refine R_eqF (y := gF h4 r0 3) rfl ?_
    refine G3_2 dX4_takeMark_65 lfX4_118 ob9 ?_
    refine R_eqI (y := gI h4 (gF h4 r0 3) 2) (rd_r (ne_oa ob9 ob6 (by decide))) ?_
    refine R_callV (ci := 4) (N := mX4_number) (as := [.int 0, .int (gI h4 (gF h4 r0 3) 2)]) (rest := [.int (gI h4 (gF h4 r0 3) 3), .ref (gF h4 (gF h4 r0 3) 5)]) (kc2 := 0) (ks2 := 0) dX4_takeMark_68 lmX4_109 oX4_number (Nat.le_of_ble_eq_true rfl) rfl rfl (Nat.le_of_ble_eq_true rfl) rfl rfl ob8 ok4 (Call.mono hf ?_)
    rintro _ h10 ⟨z11, rfl, hf⟩
    obtain ⟨ob12, hf⟩ := hf
    obtain ⟨ob13, hf⟩ := hf
    refine R_iastore dX4_takeMark_71 ob12 ob13 ?_
    refine R_aload_n dX4_takeMark_72 rfl 0 rfl ?_
    obtain ⟨ob14, hf⟩ := hf
    refine G4_3 dX4_takeMark_73 lfX4_21 ob14 ?_
    refine R_eqF (y := gF h10 r0 3) rfl ?_
    refine R_dup dX4_takeMark_76 rfl ?_
    obtain ⟨ob15, hf⟩ := hf
    refine G3_3 dX4_takeMark_77 lfX4_112 ob15 ?_
    refine R_eqI (y := gI h10 (gF h10 r0 3) 3) (rd_r (ne_oa ob15 ob12 (by decide))) ?_
    refine R_iconst (v := 1) dX4_takeMark_80 (by decide) ?_
    refine R_iadd dX4_takeMark_81 ?_
    refine S3_3 dX4_takeMark_82 lfX4_112 ob15 ?_
    exact R_ret dX4_takeMark_85 rfl hf
  · have hf := hf.2 b3
    refine R_aload_n dX4_takeMark_12 rfl 0 rfl ?_
    refine R_iconst (v := 4) dX4_takeMark_13 (by decide) ?_
    refine R_callV (ci := 4) (N := mX4_refuse) (as := [.int 4]) (rest := []) (kc2 := 0) (ks2 := 0) dX4_takeMark_14 lmX4_99 oX4_refuse (Nat.le_of_ble_eq_true rfl) rfl rfl (Nat.le_of_ble_eq_true rfl) rfl rfl ob1 ok4 (Call.mono hf ?_)
    rintro _ h16 ⟨rfl, hf⟩
    exact R_ret dX4_takeMark_17 rfl hf
theorem dX4_takeScreen_0 : decode cX4_takeScreen 0 = .ok (.aload_n 0, 1) := by decide +kernel
theorem dX4_takeScreen_1 : decode cX4_takeScreen 1 = .ok (.getfield 21, 3) := by decide +kernel
theorem dX4_takeScreen_4 : decode cX4_takeScreen 4 = .ok (.getfield 155, 3) := by decide +kernel
theorem dX4_takeScreen_7 : decode cX4_takeScreen 7 = .ok (.getfield 159, 3) := by decide +kernel
theorem dX4_takeScreen_10 : decode cX4_takeScreen 10 = .ok (.bipush 8, 2) := by decide +kernel
theorem dX4_takeScreen_12 : decode cX4_takeScreen 12 = .ok (.if_icmp .lt 9, 3) := by decide +kernel
theorem dX4_takeScreen_15 : decode cX4_takeScreen 15 = .ok (.aload_n 0, 1) := by decide +kernel
theorem dX4_takeScreen_16 : decode cX4_takeScreen 16 = .ok (.iconst 4, 1) := by decide +kernel
theorem dX4_takeScreen_17 : decode cX4_takeScreen 17 = .ok (.invokevirtual 99, 3) := by decide +kernel
theorem dX4_takeScreen_20 : decode cX4_takeScreen 20 = .ok (.return_, 1) := by decide +kernel
theorem dX4_takeScreen_21 : decode cX4_takeScreen 21 = .ok (.aload_n 0, 1) := by decide +kernel
theorem dX4_takeScreen_22 : decode cX4_takeScreen 22 = .ok (.iconst 1, 1) := by decide +kernel
theorem dX4_takeScreen_23 : decode cX4_takeScreen 23 = .ok (.bipush 30, 2) := by decide +kernel
theorem dX4_takeScreen_25 : decode cX4_takeScreen 25 = .ok (.invokevirtual 109, 3) := by decide +kernel
theorem dX4_takeScreen_28 : decode cX4_takeScreen 28 = .ok (.istore_n 1, 1) := by decide +kernel
theorem dX4_takeScreen_29 : decode cX4_takeScreen 29 = .ok (.aload_n 0, 1) := by decide +kernel
theorem dX4_takeScreen_30 : decode cX4_takeScreen 30 = .ok (.iconst 1, 1) := by decide +kernel
theorem dX4_takeScreen_31 : decode cX4_takeScreen 31 = .ok (.bipush 30, 2) := by decide +kernel
theorem dX4_takeScreen_33 : decode cX4_takeScreen 33 = .ok (.invokevirtual 109, 3) := by decide +kernel
theorem dX4_takeScreen_36 : decode cX4_takeScreen 36 = .ok (.istore_n 2, 1) := by decide +kernel
theorem dX4_takeScreen_37 : decode cX4_takeScreen 37 = .ok (.aload_n 0, 1) := by decide +kernel
theorem dX4_takeScreen_38 : decode cX4_takeScreen 38 = .ok (.getfield 21, 3) := by decide +kernel
theorem dX4_takeScreen_41 : decode cX4_takeScreen 41 = .ok (.getfield 155, 3) := by decide +kernel
theorem dX4_takeScreen_44 : decode cX4_takeScreen 44 = .ok (.iload_n 1, 1) := by decide +kernel
theorem dX4_takeScreen_45 : decode cX4_takeScreen 45 = .ok (.iload_n 2, 1) := by decide +kernel
theorem dX4_takeScreen_46 : decode cX4_takeScreen 46 = .ok (.invokevirtual 164, 3) := by decide +kernel
theorem dX4_takeScreen_49 : decode cX4_takeScreen 49 = .ok (.return_, 1) := by decide +kernel
set_option maxRecDepth 20000 in
theorem sX4_takeScreen_0 {P : Option Value → AH → Prop} (h : AH) (r0 : Nat) (hf : (isO h 4 r0) ∧ ((isO h 3 (gF h r0 3)) ∧ ((isO h 8 (gF h (gF h r0 3) 14)) ∧ (((gI h (gF h (gF h r0 3) 14) 0) < 8 → Call mX4_number [.ref r0, .int 1, .int 30] h (fun v h5 => ∃ z6 : Int32, v = some (.int z6) ∧ ((isO h5 4 r0) ∧ (Call mX4_number [.ref r0, .int 1, .int 30] h5 (fun v h8 => ∃ z9 : Int32, v = some (.int z9) ∧ ((isO h8 4 r0) ∧ ((isO h8 3 (gF h8 r0 3)) ∧ ((isO h8 8 (gF h8 (gF h8 r0 3) 14)) ∧ (Call mX8_put [.ref (gF h8 (gF h8 r0 3) 14), .int z6, .int z9] h8 (fun v h13 => v = none ∧ (P none h13))))))))))) ∧ (¬ (gI h (gF h (gF h r0 3) 14) 0) < 8 → Call mX4_refuse [.ref r0, .int 4] h (fun v h14 => v = none ∧ (P none h14))))))) : Rr mX4_takeScreen 0 0 0 [(0, .ref r0)] [] h P := by
  refine R_aload_n dX4_takeScreen_0 rfl 0 rfl ?_
  obtain ⟨ob1, hf⟩ := hf
  refine G4_3 dX4_takeScreen_1 lfX4_21 ob1 ?_
  obtain ⟨ob2, hf⟩ := hf
  refine G3_14 dX4_takeScreen_4 lfX4_155 ob2 ?_
  obtain ⟨ob3, hf⟩ := hf
  refine G8_0 dX4_takeScreen_7 lfX4_159 ob3 ?_
  refine R_bipush (v := 8) dX4_takeScreen_10 (by decide) ?_
  refine R_icmp_lt (tgt := 21) dX4_takeScreen_12 (by decide) (fun b4 => ?_) (fun b4 => ?_)
  · have hf := hf.1 b4
    refine R_aload_n dX4_takeScreen_21 rfl 0 rfl ?_
    refine R_iconst (v := 1) dX4_takeScreen_22 (by decide) ?_
    refine R_bipush (v := 30) dX4_takeScreen_23 (by decide) ?_
    refine R_callV (ci := 4) (N := mX4_number) (as := [.int 1, .int 30]) (rest := []) (kc2 := 0) (ks2 := 0) dX4_takeScreen_25 lmX4_109 oX4_number (Nat.le_of_ble_eq_true rfl) rfl rfl (Nat.le_of_ble_eq_true rfl) rfl rfl ob1 ok4 (Call.mono hf ?_)
    rintro _ h5 ⟨z6, rfl, hf⟩
    refine R_istore_n dX4_takeScreen_28 rfl (by decide) rfl ?_
    refine R_aload_n dX4_takeScreen_29 rfl 1 rfl ?_
    refine R_iconst (v := 1) dX4_takeScreen_30 (by decide) ?_
    refine R_bipush (v := 30) dX4_takeScreen_31 (by decide) ?_
    obtain ⟨ob7, hf⟩ := hf
    refine R_callV (ci := 4) (N := mX4_number) (as := [.int 1, .int 30]) (rest := []) (kc2 := 0) (ks2 := 0) dX4_takeScreen_33 lmX4_109 oX4_number (Nat.le_of_ble_eq_true rfl) rfl rfl (Nat.le_of_ble_eq_true rfl) rfl rfl ob7 ok4 (Call.mono hf ?_)
    rintro _ h8 ⟨z9, rfl, hf⟩
    refine R_istore_n dX4_takeScreen_36 rfl (by decide) rfl ?_
    refine R_aload_n dX4_takeScreen_37 rfl 2 rfl ?_
    obtain ⟨ob10, hf⟩ := hf
    refine G4_3 dX4_takeScreen_38 lfX4_21 ob10 ?_
    obtain ⟨ob11, hf⟩ := hf
    refine G3_14 dX4_takeScreen_41 lfX4_155 ob11 ?_
    refine R_iload_n dX4_takeScreen_44 rfl 1 rfl ?_
    refine R_iload_n dX4_takeScreen_45 rfl 0 rfl ?_
    obtain ⟨ob12, hf⟩ := hf
    refine R_callV (ci := 8) (N := mX8_put) (as := [.int z6, .int z9]) (rest := []) (kc2 := 0) (ks2 := 0) dX4_takeScreen_46 lmX4_164 oX8_put (Nat.le_of_ble_eq_true rfl) rfl rfl (Nat.le_of_ble_eq_true rfl) rfl rfl ob12 ok8 (Call.mono hf ?_)
    rintro _ h13 ⟨rfl, hf⟩
    exact R_ret dX4_takeScreen_49 rfl hf
  · have hf := hf.2 b4
    refine R_aload_n dX4_takeScreen_15 rfl 0 rfl ?_
    refine R_iconst (v := 4) dX4_takeScreen_16 (by decide) ?_
    refine R_callV (ci := 4) (N := mX4_refuse) (as := [.int 4]) (rest := []) (kc2 := 0) (ks2 := 0) dX4_takeScreen_17 lmX4_99 oX4_refuse (Nat.le_of_ble_eq_true rfl) rfl rfl (Nat.le_of_ble_eq_true rfl) rfl rfl ob1 ok4 (Call.mono hf ?_)
    rintro _ h14 ⟨rfl, hf⟩
    exact R_ret dX4_takeScreen_20 rfl hf
theorem dX4_takeSheet_0 : decode cX4_takeSheet 0 = .ok (.aload_n 0, 1) := by decide +kernel
theorem dX4_takeSheet_1 : decode cX4_takeSheet 1 = .ok (.iconst 0, 1) := by decide +kernel
theorem dX4_takeSheet_2 : decode cX4_takeSheet 2 = .ok (.invokevirtual 106, 3) := by decide +kernel
theorem dX4_takeSheet_5 : decode cX4_takeSheet 5 = .ok (.aload_n 0, 1) := by decide +kernel
theorem dX4_takeSheet_6 : decode cX4_takeSheet 6 = .ok (.getfield 21, 3) := by decide +kernel
theorem dX4_takeSheet_9 : decode cX4_takeSheet 9 = .ok (.getfield 112, 3) := by decide +kernel
theorem dX4_takeSheet_12 : decode cX4_takeSheet 12 = .ok (.ifCond .le 8, 3) := by decide +kernel
theorem dX4_takeSheet_15 : decode cX4_takeSheet 15 = .ok (.aload_n 0, 1) := by decide +kernel
theorem dX4_takeSheet_16 : decode cX4_takeSheet 16 = .ok (.iconst 5, 1) := by decide +kernel
theorem dX4_takeSheet_17 : decode cX4_takeSheet 17 = .ok (.invokevirtual 99, 3) := by decide +kernel
theorem dX4_takeSheet_20 : decode cX4_takeSheet 20 = .ok (.aload_n 0, 1) := by decide +kernel
theorem dX4_takeSheet_21 : decode cX4_takeSheet 21 = .ok (.getfield 21, 3) := by decide +kernel
theorem dX4_takeSheet_24 : decode cX4_takeSheet 24 = .ok (.aload_n 0, 1) := by decide +kernel
theorem dX4_takeSheet_25 : decode cX4_takeSheet 25 = .ok (.bipush 10, 2) := by decide +kernel
theorem dX4_takeSheet_27 : decode cX4_takeSheet 27 = .ok (.sipush 200, 3) := by decide +kernel
theorem dX4_takeSheet_30 : decode cX4_takeSheet 30 = .ok (.invokevirtual 109, 3) := by decide +kernel
theorem dX4_takeSheet_33 : decode cX4_takeSheet 33 = .ok (.putfield 115, 3) := by decide +kernel
theorem dX4_takeSheet_36 : decode cX4_takeSheet 36 = .ok (.aload_n 0, 1) := by decide +kernel
theorem dX4_takeSheet_37 : decode cX4_takeSheet 37 = .ok (.getfield 21, 3) := by decide +kernel
theorem dX4_takeSheet_40 : decode cX4_takeSheet 40 = .ok (.aload_n 0, 1) := by decide +kernel
theorem dX4_takeSheet_41 : decode cX4_takeSheet 41 = .ok (.bipush 10, 2) := by decide +kernel
theorem dX4_takeSheet_43 : decode cX4_takeSheet 43 = .ok (.sipush 200, 3) := by decide +kernel
theorem dX4_takeSheet_46 : decode cX4_takeSheet 46 = .ok (.invokevirtual 109, 3) := by decide +kernel
theorem dX4_takeSheet_49 : decode cX4_takeSheet 49 = .ok (.putfield 118, 3) := by decide +kernel
theorem dX4_takeSheet_52 : decode cX4_takeSheet 52 = .ok (.return_, 1) := by decide +kernel
set_option maxRecDepth 20000 in
theorem sX4_takeSheet_0 {P : Option Value → AH → Prop} (h : AH) (r0 : Nat) (hf : (isO h 4 r0) ∧ (Call mX4_refuseTwice [.ref r0, .int 0] h (fun v h2 => v = none ∧ ((isO h2 4 r0) ∧ ((isO h2 3 (gF h2 r0 3)) ∧ (((gI h2 (gF h2 r0 3) 3) ≤ 0 → Call mX4_number [.ref r0, .int 10, .int 200] h2 (fun v h6 => ∃ z7 : Int32, v = some (.int z7) ∧ ((isO h6 3 (gF h2 r0 3)) ∧ ((isO h6 4 r0) ∧ (Call mX4_number [.ref r0, .int 10, .int 200] (sI h6 (gF h2 r0 3) 1 z7) (fun v h10 => ∃ z11 : Int32, v = some (.int z11) ∧ ((isO h10 3 (gF h6 r0 3)) ∧ (P none (sI h10 (gF h6 r0 3) 2 z11))))))))) ∧ (¬ (gI h2 (gF h2 r0 3) 3) ≤ 0 → Call mX4_refuse [.ref r0, .int 5] h2 (fun v h13 => v = none ∧ ((isO h13 4 r0) ∧ (Call mX4_number [.ref r0, .int 10, .int 200] h13 (fun v h15 => ∃ z16 : Int32, v = some (.int z16) ∧ ((isO h15 3 (gF h13 r0 3)) ∧ ((isO h15 4 r0) ∧ (Call mX4_number [.ref r0, .int 10, .int 200] (sI h15 (gF h13 r0 3) 1 z16) (fun v h19 => ∃ z20 : Int32, v = some (.int z20) ∧ ((isO h19 3 (gF h15 r0 3)) ∧ (P none (sI h19 (gF h15 r0 3) 2 z20)))))))))))))))))) : Rr mX4_takeSheet 0 0 0 [(0, .ref r0)] [] h P := by
  refine R_aload_n dX4_takeSheet_0 rfl 0 rfl ?_
  refine R_iconst (v := 0) dX4_takeSheet_1 (by decide) ?_
  obtain ⟨ob1, hf⟩ := hf
  refine R_callV (ci := 4) (N := mX4_refuseTwice) (as := [.int 0]) (rest := []) (kc2 := 0) (ks2 := 0) dX4_takeSheet_2 lmX4_106 oX4_refuseTwice (Nat.le_of_ble_eq_true rfl) rfl rfl (Nat.le_of_ble_eq_true rfl) rfl rfl ob1 ok4 (Call.mono hf ?_)
  rintro _ h2 ⟨rfl, hf⟩
  refine R_aload_n dX4_takeSheet_5 rfl 0 rfl ?_
  obtain ⟨ob3, hf⟩ := hf
  refine G4_3 dX4_takeSheet_6 lfX4_21 ob3 ?_
  obtain ⟨ob4, hf⟩ := hf
  refine G3_3 dX4_takeSheet_9 lfX4_112 ob4 ?_
  refine R_if_le (tgt := 20) dX4_takeSheet_12 (by decide) (fun b5 => ?_) (fun b5 => ?_)
  · have hf := hf.1 b5
    refine R_aload_n dX4_takeSheet_20 rfl 0 rfl ?_
    refine G4_3 dX4_takeSheet_21 lfX4_21 ob3 ?_
    refine R_aload_n dX4_takeSheet_24 rfl 0 rfl ?_
    refine R_bipush (v := 10) dX4_takeSheet_25 (by decide) ?_
    refine R_sipush (v := 200) dX4_takeSheet_27 (by decide) ?_
    refine R_callV (ci := 4) (N := mX4_number) (as := [.int 10, .int 200]) (rest := [.ref (gF h2 r0 3)]) (kc2 := 0) (ks2 := 0) dX4_takeSheet_30 lmX4_109 oX4_number (Nat.le_of_ble_eq_true rfl) rfl rfl (Nat.le_of_ble_eq_true rfl) rfl rfl ob3 ok4 (Call.mono hf ?_)
    rintro _ h6 ⟨z7, rfl, hf⟩
    obtain ⟨ob8, hf⟩ := hf
    refine S3_1 dX4_takeSheet_33 lfX4_115 ob8 ?_
    refine R_aload_n dX4_takeSheet_36 rfl 0 rfl ?_
    obtain ⟨ob9, hf⟩ := hf
    refine G4_3 dX4_takeSheet_37 lfX4_21 ob9 ?_
    refine R_eqF (y := gF h6 r0 3) rfl ?_
    refine R_aload_n dX4_takeSheet_40 rfl 0 rfl ?_
    refine R_bipush (v := 10) dX4_takeSheet_41 (by decide) ?_
    refine R_sipush (v := 200) dX4_takeSheet_43 (by decide) ?_
    refine R_callV (ci := 4) (N := mX4_number) (as := [.int 10, .int 200]) (rest := [.ref (gF h6 r0 3)]) (kc2 := 0) (ks2 := 0) dX4_takeSheet_46 lmX4_109 oX4_number (Nat.le_of_ble_eq_true rfl) rfl rfl (Nat.le_of_ble_eq_true rfl) rfl rfl ob9 ok4 (Call.mono hf ?_)
    rintro _ h10 ⟨z11, rfl, hf⟩
    obtain ⟨ob12, hf⟩ := hf
    refine S3_2 dX4_takeSheet_49 lfX4_118 ob12 ?_
    exact R_ret dX4_takeSheet_52 rfl hf
  · have hf := hf.2 b5
    refine R_aload_n dX4_takeSheet_15 rfl 0 rfl ?_
    refine R_iconst (v := 5) dX4_takeSheet_16 (by decide) ?_
    refine R_callV (ci := 4) (N := mX4_refuse) (as := [.int 5]) (rest := []) (kc2 := 0) (ks2 := 0) dX4_takeSheet_17 lmX4_99 oX4_refuse (Nat.le_of_ble_eq_true rfl) rfl rfl (Nat.le_of_ble_eq_true rfl) rfl rfl ob3 ok4 (Call.mono hf ?_)
    rintro _ h13 ⟨rfl, hf⟩
    refine R_aload_n dX4_takeSheet_20 rfl 0 rfl ?_
    obtain ⟨ob14, hf⟩ := hf
    refine G4_3 dX4_takeSheet_21 lfX4_21 ob14 ?_
    refine R_aload_n dX4_takeSheet_24 rfl 0 rfl ?_
    refine R_bipush (v := 10) dX4_takeSheet_25 (by decide) ?_
    refine R_sipush (v := 200) dX4_takeSheet_27 (by decide) ?_
    refine R_callV (ci := 4) (N := mX4_number) (as := [.int 10, .int 200]) (rest := [.ref (gF h13 r0 3)]) (kc2 := 0) (ks2 := 0) dX4_takeSheet_30 lmX4_109 oX4_number (Nat.le_of_ble_eq_true rfl) rfl rfl (Nat.le_of_ble_eq_true rfl) rfl rfl ob14 ok4 (Call.mono hf ?_)
    rintro _ h15 ⟨z16, rfl, hf⟩
    obtain ⟨ob17, hf⟩ := hf
    refine S3_1 dX4_takeSheet_33 lfX4_115 ob17 ?_
    refine R_aload_n dX4_takeSheet_36 rfl 0 rfl ?_
    obtain ⟨ob18, hf⟩ := hf
    refine G4_3 dX4_takeSheet_37 lfX4_21 ob18 ?_
    refine R_eqF (y := gF h15 r0 3) rfl ?_
    refine R_aload_n dX4_takeSheet_40 rfl 0 rfl ?_
    refine R_bipush (v := 10) dX4_takeSheet_41 (by decide) ?_
    refine R_sipush (v := 200) dX4_takeSheet_43 (by decide) ?_
    refine R_callV (ci := 4) (N := mX4_number) (as := [.int 10, .int 200]) (rest := [.ref (gF h15 r0 3)]) (kc2 := 0) (ks2 := 0) dX4_takeSheet_46 lmX4_109 oX4_number (Nat.le_of_ble_eq_true rfl) rfl rfl (Nat.le_of_ble_eq_true rfl) rfl rfl ob18 ok4 (Call.mono hf ?_)
    rintro _ h19 ⟨z20, rfl, hf⟩
    obtain ⟨ob21, hf⟩ := hf
    refine S3_2 dX4_takeSheet_49 lfX4_118 ob21 ?_
    exact R_ret dX4_takeSheet_52 rfl hf
theorem dX5_findBest_0 : decode cX5_findBest 0 = .ok (.ldc 92, 2) := by decide +kernel
theorem dX5_findBest_2 : decode cX5_findBest 2 = .ok (.istore 5, 2) := by decide +kernel
theorem dX5_findBest_4 : decode cX5_findBest 4 = .ok (.ldc 92, 2) := by decide +kernel
theorem dX5_findBest_6 : decode cX5_findBest 6 = .ok (.istore 6, 2) := by decide +kernel
theorem dX5_findBest_8 : decode cX5_findBest 8 = .ok (.bipush (-2), 2) := by decide +kernel
theorem dX5_findBest_10 : decode cX5_findBest 10 = .ok (.istore 7, 2) := by decide +kernel
theorem dX5_findBest_12 : decode cX5_findBest 12 = .ok (.iload 7, 2) := by decide +kernel
theorem dX5_findBest_14 : decode cX5_findBest 14 = .ok (.iconst 2, 1) := by decide +kernel
theorem dX5_findBest_15 : decode cX5_findBest 15 = .ok (.if_icmp .gt 98, 3) := by decide +kernel
theorem dX5_findBest_18 : decode cX5_findBest 18 = .ok (.bipush (-2), 2) := by decide +kernel
theorem dX5_findBest_20 : decode cX5_findBest 20 = .ok (.istore 8, 2) := by decide +kernel
theorem dX5_findBest_22 : decode cX5_findBest 22 = .ok (.iload 8, 2) := by decide +kernel
theorem dX5_findBest_24 : decode cX5_findBest 24 = .ok (.iconst 2, 1) := by decide +kernel
theorem dX5_findBest_25 : decode cX5_findBest 25 = .ok (.if_icmp .gt 82, 3) := by decide +kernel
theorem dX5_findBest_28 : decode cX5_findBest 28 = .ok (.aload_n 0, 1) := by decide +kernel
theorem dX5_findBest_29 : decode cX5_findBest 29 = .ok (.aload_n 1, 1) := by decide +kernel
theorem dX5_findBest_30 : decode cX5_findBest 30 = .ok (.iload_n 2, 1) := by decide +kernel
theorem dX5_findBest_31 : decode cX5_findBest 31 = .ok (.iload_n 3, 1) := by decide +kernel
theorem dX5_findBest_32 : decode cX5_findBest 32 = .ok (.iload 7, 2) := by decide +kernel
theorem dX5_findBest_34 : decode cX5_findBest 34 = .ok (.iload 8, 2) := by decide +kernel
theorem dX5_findBest_36 : decode cX5_findBest 36 = .ok (.invokevirtual 93, 3) := by decide +kernel
theorem dX5_findBest_39 : decode cX5_findBest 39 = .ok (.aload_n 0, 1) := by decide +kernel
theorem dX5_findBest_40 : decode cX5_findBest 40 = .ok (.iload 4, 2) := by decide +kernel
theorem dX5_findBest_42 : decode cX5_findBest 42 = .ok (.invokevirtual 97, 3) := by decide +kernel
theorem dX5_findBest_45 : decode cX5_findBest 45 = .ok (.istore 9, 2) := by decide +kernel
theorem dX5_findBest_47 : decode cX5_findBest 47 = .ok (.iload 7, 2) := by decide +kernel
theorem dX5_findBest_49 : decode cX5_findBest 49 = .ok (.invokestatic 101, 3) := by decide +kernel
theorem dX5_findBest_52 : decode cX5_findBest 52 = .ok (.iload 8, 2) := by decide +kernel
theorem dX5_findBest_54 : decode cX5_findBest 54 = .ok (.invokestatic 101, 3) := by decide +kernel
theorem dX5_findBest_57 : decode cX5_findBest 57 = .ok (.iadd, 1) := by decide +kernel
theorem dX5_findBest_58 : decode cX5_findBest 58 = .ok (.istore 10, 2) := by decide +kernel
theorem dX5_findBest_60 : decode cX5_findBest 60 = .ok (.iload 9, 2) := by decide +kernel
theorem dX5_findBest_62 : decode cX5_findBest 62 = .ok (.iload 5, 2) := by decide +kernel
theorem dX5_findBest_64 : decode cX5_findBest 64 = .ok (.if_icmp .lt 17, 3) := by decide +kernel
theorem dX5_findBest_67 : decode cX5_findBest 67 = .ok (.iload 9, 2) := by decide +kernel
theorem dX5_findBest_69 : decode cX5_findBest 69 = .ok (.iload 5, 2) := by decide +kernel
theorem dX5_findBest_71 : decode cX5_findBest 71 = .ok (.if_icmp .ne 30, 3) := by decide +kernel
theorem dX5_findBest_74 : decode cX5_findBest 74 = .ok (.iload 10, 2) := by decide +kernel
theorem dX5_findBest_76 : decode cX5_findBest 76 = .ok (.iload 6, 2) := by decide +kernel
theorem dX5_findBest_78 : decode cX5_findBest 78 = .ok (.if_icmp .ge 23, 3) := by decide +kernel
theorem dX5_findBest_81 : decode cX5_findBest 81 = .ok (.iload 9, 2) := by decide +kernel
theorem dX5_findBest_83 : decode cX5_findBest 83 = .ok (.istore 5, 2) := by decide +kernel
theorem dX5_findBest_85 : decode cX5_findBest 85 = .ok (.iload 10, 2) := by decide +kernel
theorem dX5_findBest_87 : decode cX5_findBest 87 = .ok (.istore 6, 2) := by decide +kernel
theorem dX5_findBest_89 : decode cX5_findBest 89 = .ok (.aload_n 0, 1) := by decide +kernel
theorem dX5_findBest_90 : decode cX5_findBest 90 = .ok (.iload 7, 2) := by decide +kernel
theorem dX5_findBest_92 : decode cX5_findBest 92 = .ok (.putfield 104, 3) := by decide +kernel
theorem dX5_findBest_95 : decode cX5_findBest 95 = .ok (.aload_n 0, 1) := by decide +kernel
theorem dX5_findBest_96 : decode cX5_findBest 96 = .ok (.iload 8, 2) := by decide +kernel
theorem dX5_findBest_98 : decode cX5_findBest 98 = .ok (.putfield 107, 3) := by decide +kernel
theorem dX5_findBest_101 : decode cX5_findBest 101 = .ok (.iinc 8 1, 3) := by decide +kernel
theorem dX5_findBest_104 : decode cX5_findBest 104 = .ok (.goto (-82), 3) := by decide +kernel
theorem dX5_findBest_107 : decode cX5_findBest 107 = .ok (.iinc 7 1, 3) := by decide +kernel
theorem dX5_findBest_110 : decode cX5_findBest 110 = .ok (.goto (-98), 3) := by decide +kernel
theorem dX5_findBest_113 : decode cX5_findBest 113 = .ok (.aload_n 0, 1) := by decide +kernel
theorem dX5_findBest_114 : decode cX5_findBest 114 = .ok (.iconst 1, 1) := by decide +kernel
theorem dX5_findBest_115 : decode cX5_findBest 115 = .ok (.putfield 31, 3) := by decide +kernel
theorem dX5_findBest_118 : decode cX5_findBest 118 = .ok (.iload 5, 2) := by decide +kernel
theorem dX5_findBest_120 : decode cX5_findBest 120 = .ok (.ireturn, 1) := by decide +kernel
set_option maxRecDepth 20000 in
theorem sX5_findBest_0 {P : Option Value → AH → Prop} (h : AH) (r0 : Nat) (r1 : Nat) (x2 : Int32) (x3 : Int32) (x4 : Int32) (hf : Rr mX5_findBest 0 0 12 [(0, .ref r0), (1, .ref r1), (2, .int x2), (3, .int x3), (4, .int x4), (5, .int 1000000000), (6, .int 1000000000), (7, .int (-2))] [] h P) : Rr mX5_findBest 0 0 0 [(0, .ref r0), (1, .ref r1), (2, .int x2), (3, .int x3), (4, .int x4)] [] h P := by
  refine R_ldc (v := 1000000000) dX5_findBest_0 lcX5_92 ?_
  refine R_istore dX5_findBest_2 (by decide) rfl ?_
  refine R_ldc (v := 1000000000) dX5_findBest_4 lcX5_92 ?_
  refine R_istore dX5_findBest_6 (by decide) rfl ?_
  refine R_bipush (v := (-2)) dX5_findBest_8 (by decide) ?_
  refine R_istore dX5_findBest_10 (by decide) rfl ?_
  exact R_sub [3, 4, 5, 6, 7, 2, 1, 0] rfl hf
set_option maxRecDepth 20000 in
theorem sX5_findBest_12 {P : Option Value → AH → Prop} (h : AH) (r0 : Nat) (r1 : Nat) (x2 : Int32) (x3 : Int32) (x4 : Int32) (x5 : Int32) (x6 : Int32) (x7 : Int32) (hf : (2 < x7 → (isO h 5 r0) ∧ (P (some (.int x5)) (sI h r0 9 1))) ∧ (¬ 2 < x7 → Rr mX5_findBest 0 0 22 [(0, .ref r0), (1, .ref r1), (2, .int x2), (3, .int x3), (4, .int x4), (5, .int x5), (6, .int x6), (7, .int x7), (8, .int (-2))] [] h P)) : Rr mX5_findBest 0 0 12 [(0, .ref r0), (1, .ref r1), (2, .int x2), (3, .int x3), (4, .int x4), (5, .int x5), (6, .int x6), (7, .int x7)] [] h P := by
  refine R_iload dX5_findBest_12 7 rfl ?_
  refine R_iconst (v := 2) dX5_findBest_14 (by decide) ?_
  refine R_icmp_gt (tgt := 113) dX5_findBest_15 (by decide) (fun b1 => ?_) (fun b1 => ?_)
  · have hf := hf.1 b1
    refine R_aload_n dX5_findBest_113 rfl 0 rfl ?_
    refine R_iconst (v := 1) dX5_findBest_114 (by decide) ?_
    obtain ⟨ob2, hf⟩ := hf
    refine S5_9 dX5_findBest_115 lfX5_31 ob2 rfl rfl ?_
    refine R_iload dX5_findBest_118 5 rfl ?_
    exact R_iret dX5_findBest_120 rfl rfl hf
  · have hf := hf.2 b1
    refine R_bipush (v := (-2)) dX5_findBest_18 (by decide) ?_
    refine R_istore dX5_findBest_20 (by decide) rfl ?_
    exact R_sub [1, 2, 3, 4, 5, 6, 7, 8, 0] rfl hf
set_option maxRecDepth 20000 in
theorem sX5_findBest_22 {P : Option Value → AH → Prop} (h : AH) (r0 : Nat) (r1 : Nat) (x2 : Int32) (x3 : Int32) (x4 : Int32) (x5 : Int32) (x6 : Int32) (x7 : Int32) (x8 : Int32) (hf : (2 < x8 → Rr mX5_findBest 0 0 12 [(0, .ref r0), (1, .ref r1), (2, .int x2), (3, .int x3), (4, .int x4), (5, .int x5), (6, .int x6), (7, .int (x7 + 1))] [] h P) ∧ (¬ 2 < x8 → (isO h 5 r0) ∧ (Call mX5_lay [.ref r0, .ref r1, .int x2, .int x3, .int x7, .int x8] h (fun v h3 => v = none ∧ ((isO h3 5 r0) ∧ (Call mX5_worstWithin [.ref r0, .int x4] h3 (fun v h5 => ∃ z6 : Int32, v = some (.int z6) ∧ ((z6 < x5 → (isO h5 5 r0) ∧ (Rr mX5_findBest 0 0 22 [(0, .ref r0), (1, .ref r1), (2, .int x2), (3, .int x3), (4, .int x4), (5, .int z6), (6, .int ((iabs x7) + (iabs x8))), (7, .int x7), (8, .int (x8 + 1))] [] (sI (sI h5 r0 10 x7) r0 11 x8) P)) ∧ (¬ z6 < x5 → (¬ z6 = x5 → Rr mX5_findBest 0 0 22 [(0, .ref r0), (1, .ref r1), (2, .int x2), (3, .int x3), (4, .int x4), (5, .int x5), (6, .int x6), (7, .int x7), (8, .int (x8 + 1))] [] h5 P) ∧ (z6 = x5 → (x6 ≤ ((iabs x7) + (iabs x8)) → Rr mX5_findBest 0 0 22 [(0, .ref r0), (1, .ref r1), (2, .int x2), (3, .int x3), (4, .int x4), (5, .int x5), (6, .int x6), (7, .int x7), (8, .int (x8 + 1))] [] h5 P) ∧ (¬ x6 ≤ ((iabs x7) + (iabs x8)) → (isO h5 5 r0) ∧ (Rr mX5_findBest 0 0 22 [(0, .ref r0), (1, .ref r1), (2, .int x2), (3, .int x3), (4, .int x4), (5, .int z6), (6, .int ((iabs x7) + (iabs x8))), (7, .int x7), (8, .int (x8 + 1))] [] (sI (sI h5 r0 10 x7) r0 11 x8) P)))))))))))) : Rr mX5_findBest 0 0 22 [(0, .ref r0), (1, .ref r1), (2, .int x2), (3, .int x3), (4, .int x4), (5, .int x5), (6, .int x6), (7, .int x7), (8, .int x8)] [] h P := by
  refine R_iload dX5_findBest_22 8 rfl ?_
  refine R_iconst (v := 2) dX5_findBest_24 (by decide) ?_
  refine R_icmp_gt (tgt := 107) dX5_findBest_25 (by decide) (fun b1 => ?_) (fun b1 => ?_)
  · have hf := hf.1 b1
    refine R_iinc (v := x7 + 1) dX5_findBest_107 7 rfl rfl (by decide) rfl ?_
    refine R_goto (tgt := 12) dX5_findBest_110 (by decide) ?_
    exact R_sub [1, 2, 3, 4, 5, 6, 7, 0] rfl hf
  · have hf := hf.2 b1
    refine R_aload_n dX5_findBest_28 rfl 0 rfl ?_
    refine R_aload_n dX5_findBest_29 rfl 1 rfl ?_
    refine R_iload_n dX5_findBest_30 rfl 2 rfl ?_
    refine R_iload_n dX5_findBest_31 rfl 3 rfl ?_
    refine R_iload dX5_findBest_32 7 rfl ?_
    refine R_iload dX5_findBest_34 8 rfl ?_
    obtain ⟨ob2, hf⟩ := hf
    refine R_callV (ci := 5) (N := mX5_lay) (as := [.ref r1, .int x2, .int x3, .int x7, .int x8]) (rest := []) (kc2 := 0) (ks2 := 0) dX5_findBest_36 lmX5_93 oX5_lay (Nat.le_of_ble_eq_true rfl) rfl rfl (Nat.le_of_ble_eq_true rfl) rfl rfl ob2 ok5 (Call.mono hf ?_)
    rintro _ h3 ⟨rfl, hf⟩
    refine R_aload_n dX5_findBest_39 rfl 0 rfl ?_
    refine R_iload dX5_findBest_40 4 rfl ?_
    obtain ⟨ob4, hf⟩ := hf
    refine R_callV (ci := 5) (N := mX5_worstWithin) (as := [.int x4]) (rest := []) (kc2 := 0) (ks2 := 0) dX5_findBest_42 lmX5_97 oX5_worstWithin (Nat.le_of_ble_eq_true rfl) rfl rfl (Nat.le_of_ble_eq_true rfl) rfl rfl ob4 ok5 (Call.mono hf ?_)
    rintro _ h5 ⟨z6, rfl, hf⟩
    refine R_istore dX5_findBest_45 (by decide) rfl ?_
    refine R_iload dX5_findBest_47 8 rfl ?_
    refine R_mabs dX5_findBest_49 lmX5_101 (by decide) (Nat.le_of_ble_eq_true rfl) ?_
    refine R_iload dX5_findBest_52 9 rfl ?_
    refine R_mabs dX5_findBest_54 lmX5_101 (by decide) (Nat.le_of_ble_eq_true rfl) ?_
    refine R_iadd dX5_findBest_57 ?_
    refine R_istore dX5_findBest_58 (by decide) rfl ?_
    refine R_iload dX5_findBest_60 1 rfl ?_
    refine R_iload dX5_findBest_62 7 rfl ?_
    refine R_icmp_lt (tgt := 81) dX5_findBest_64 (by decide) (fun b7 => ?_) (fun b7 => ?_)
    · have hf := hf.1 b7
      refine R_iload dX5_findBest_81 1 rfl ?_
      refine R_istore dX5_findBest_83 (by decide) rfl ?_
      refine R_iload dX5_findBest_85 1 rfl ?_
      refine R_istore dX5_findBest_87 (by decide) rfl ?_
      refine R_aload_n dX5_findBest_89 rfl 4 rfl ?_
      refine R_iload dX5_findBest_90 9 rfl ?_
      obtain ⟨ob8, hf⟩ := hf
      refine S5_10 dX5_findBest_92 lfX5_104 ob8 ?_
      refine R_aload_n dX5_findBest_95 rfl 4 rfl ?_
      refine R_iload dX5_findBest_96 10 rfl ?_
      refine S5_11 dX5_findBest_98 lfX5_107 ob8 ?_
      refine R_iinc (v := x8 + 1) dX5_findBest_101 10 rfl rfl (by decide) rfl ?_
      refine R_goto (tgt := 22) dX5_findBest_104 (by decide) ?_
      exact R_sub [5, 6, 7, 8, 9, 2, 1, 10, 0] rfl hf
    · have hf := hf.2 b7
      refine R_iload dX5_findBest_67 1 rfl ?_
      refine R_iload dX5_findBest_69 7 rfl ?_
      refine R_icmp_ne (tgt := 101) dX5_findBest_71 (by decide) (fun b9 => ?_) (fun b9 => ?_)
      · have hf := hf.1 b9
        refine R_iinc (v := x8 + 1) dX5_findBest_101 10 rfl rfl (by decide) rfl ?_
        refine R_goto (tgt := 22) dX5_findBest_104 (by decide) ?_
        exact R_sub [3, 4, 5, 6, 7, 8, 9, 10, 0] rfl hf
      · have hf := hf.2 b9
        refine R_iload dX5_findBest_74 0 rfl ?_
        refine R_iload dX5_findBest_76 8 rfl ?_
        refine R_icmp_ge (tgt := 101) dX5_findBest_78 (by decide) (fun b10 => ?_) (fun b10 => ?_)
        · have hf := hf.1 b10
          refine R_iinc (v := x8 + 1) dX5_findBest_101 10 rfl rfl (by decide) rfl ?_
          refine R_goto (tgt := 22) dX5_findBest_104 (by decide) ?_
          exact R_sub [3, 4, 5, 6, 7, 8, 9, 10, 0] rfl hf
        · have hf := hf.2 b10
          refine R_iload dX5_findBest_81 1 rfl ?_
          refine R_istore dX5_findBest_83 (by decide) rfl ?_
          refine R_iload dX5_findBest_85 1 rfl ?_
          refine R_istore dX5_findBest_87 (by decide) rfl ?_
          refine R_aload_n dX5_findBest_89 rfl 4 rfl ?_
          refine R_iload dX5_findBest_90 9 rfl ?_
          obtain ⟨ob11, hf⟩ := hf
          refine S5_10 dX5_findBest_92 lfX5_104 ob11 ?_
          refine R_aload_n dX5_findBest_95 rfl 4 rfl ?_
          refine R_iload dX5_findBest_96 10 rfl ?_
          refine S5_11 dX5_findBest_98 lfX5_107 ob11 ?_
          refine R_iinc (v := x8 + 1) dX5_findBest_101 10 rfl rfl (by decide) rfl ?_
          refine R_goto (tgt := 22) dX5_findBest_104 (by decide) ?_
          exact R_sub [5, 6, 7, 8, 9, 2, 1, 10, 0] rfl hf
theorem dX11_best_0 : decode cX11_best 0 = .ok (.iload_n 1, 1) := by decide +kernel
theorem dX11_best_1 : decode cX11_best 1 = .ok (.iload_n 2, 1) := by decide +kernel
theorem dX11_best_2 : decode cX11_best 2 = .ok (.invokestatic 236, 3) := by decide +kernel
theorem dX11_best_5 : decode cX11_best 5 = .ok (.ifCond .eq 10, 3) := by decide +kernel
theorem dX11_best_8 : decode cX11_best 8 = .ok (.iload_n 3, 1) := by decide +kernel
theorem dX11_best_9 : decode cX11_best 9 = .ok (.invokestatic 257, 3) := by decide +kernel
theorem dX11_best_12 : decode cX11_best 12 = .ok (.ifCond .ne 6, 3) := by decide +kernel
theorem dX11_best_15 : decode cX11_best 15 = .ok (.bipush (-2), 2) := by decide +kernel
theorem dX11_best_17 : decode cX11_best 17 = .ok (.ireturn, 1) := by decide +kernel
theorem dX11_best_18 : decode cX11_best 18 = .ok (.aload_n 0, 1) := by decide +kernel
theorem dX11_best_19 : decode cX11_best 19 = .ok (.getfield 52, 3) := by decide +kernel
theorem dX11_best_22 : decode cX11_best 22 = .ok (.aload_n 0, 1) := by decide +kernel
theorem dX11_best_23 : decode cX11_best 23 = .ok (.getfield 24, 3) := by decide +kernel
theorem dX11_best_26 : decode cX11_best 26 = .ok (.iload_n 1, 1) := by decide +kernel
theorem dX11_best_27 : decode cX11_best 27 = .ok (.iload_n 2, 1) := by decide +kernel
theorem dX11_best_28 : decode cX11_best 28 = .ok (.iload_n 3, 1) := by decide +kernel
theorem dX11_best_29 : decode cX11_best 29 = .ok (.invokevirtual 263, 3) := by decide +kernel
theorem dX11_best_32 : decode cX11_best 32 = .ok (.ireturn, 1) := by decide +kernel
set_option maxRecDepth 20000 in
theorem sX11_best_0 {P : Option Value → AH → Prop} (h : AH) (r0 : Nat) (x1 : Int32) (x2 : Int32) (x3 : Int32) (hf : (¬ ((¬ x1 < 0 ∧ ¬ 4 ≤ x1) ∧ (¬ x2 < 0 ∧ ¬ 4 ≤ x2) ∧ ¬ x1 = x2) → P (some (.int (-2))) h) ∧ (((¬ x1 < 0 ∧ ¬ 4 ≤ x1) ∧ (¬ x2 < 0 ∧ ¬ 4 ≤ x2) ∧ ¬ x1 = x2) → ((¬ x3 < 0 ∧ ¬ 2 < x3) → (isO h 11 r0) ∧ ((isO h 5 (gF h r0 6)) ∧ (Call mX5_findBest [.ref (gF h r0 6), .ref (gF h r0 2), .int x1, .int x2, .int x3] h (fun v h5 => ∃ z6 : Int32, v = some (.int z6) ∧ (P (some (.int z6)) h5))))) ∧ (¬ (¬ x3 < 0 ∧ ¬ 2 < x3) → P (some (.int (-2))) h))) : Rr mX11_best 0 0 0 [(0, .ref r0), (1, .int x1), (2, .int x2), (3, .int x3)] [] h P := by
  refine R_iload_n dX11_best_0 rfl 1 rfl ?_
  refine R_iload_n dX11_best_1 rfl 2 rfl ?_
  refine R_callS (N := mX11_areUnlikeInks) (as := [.int x1, .int x2]) (rest := []) (kc2 := 0) (ks2 := 0) dX11_best_2 lmX11_236 oX11_areUnlikeInks (Nat.le_of_ble_eq_true rfl) rfl rfl (Nat.le_of_ble_eq_true rfl) rfl rfl (aX11_areUnlikeInks  ?_)
  refine R_if_eq_b (tgt := 15) dX11_best_5 (by decide) (fun b1 => ?_) (fun b1 => ?_)
  · have hf := hf.1 b1
    refine R_bipush (v := (-2)) dX11_best_15 (by decide) ?_
    exact R_iret dX11_best_17 rfl rfl hf
  · have hf := hf.2 b1
    refine R_iload_n dX11_best_8 rfl 3 rfl ?_
    refine R_callS (N := mX11_isReach) (as := [.int x3]) (rest := []) (kc2 := 0) (ks2 := 0) dX11_best_9 lmX11_257 oX11_isReach (Nat.le_of_ble_eq_true rfl) rfl rfl (Nat.le_of_ble_eq_true rfl) rfl rfl (aX11_isReach  ?_)
    refine R_if_ne_b (tgt := 18) dX11_best_12 (by decide) (fun b2 => ?_) (fun b2 => ?_)
    · have hf := hf.1 b2
      refine R_aload_n dX11_best_18 rfl 0 rfl ?_
      obtain ⟨ob3, hf⟩ := hf
      refine G11_6 dX11_best_19 lfX11_52 ob3 ?_
      refine R_aload_n dX11_best_22 rfl 0 rfl ?_
      refine G11_2 dX11_best_23 lfX11_24 ob3 ?_
      refine R_iload_n dX11_best_26 rfl 1 rfl ?_
      refine R_iload_n dX11_best_27 rfl 2 rfl ?_
      refine R_iload_n dX11_best_28 rfl 3 rfl ?_
      obtain ⟨ob4, hf⟩ := hf
      refine R_callV (ci := 5) (N := mX5_findBest) (as := [.ref (gF h r0 2), .int x1, .int x2, .int x3]) (rest := []) (kc2 := 0) (ks2 := 0) dX11_best_29 lmX11_263 oX5_findBest (Nat.le_of_ble_eq_true rfl) rfl rfl (Nat.le_of_ble_eq_true rfl) rfl rfl ob4 ok5 (Call.mono hf ?_)
      rintro _ h5 ⟨z6, rfl, hf⟩
      exact R_iret dX11_best_32 rfl rfl hf
    · have hf := hf.2 b2
      refine R_bipush (v := (-2)) dX11_best_15 (by decide) ?_
      exact R_iret dX11_best_17 rfl rfl hf
theorem dX11_tissue_0 : decode cX11_tissue 0 = .ok (.aload_n 0, 1) := by decide +kernel
theorem dX11_tissue_1 : decode cX11_tissue 1 = .ok (.getfield 20, 3) := by decide +kernel
theorem dX11_tissue_4 : decode cX11_tissue 4 = .ok (.aload_n 0, 1) := by decide +kernel
theorem dX11_tissue_5 : decode cX11_tissue 5 = .ok (.getfield 88, 3) := by decide +kernel
theorem dX11_tissue_8 : decode cX11_tissue 8 = .ok (.getfield 349, 3) := by decide +kernel
theorem dX11_tissue_11 : decode cX11_tissue 11 = .ok (.bipush 99, 2) := by decide +kernel
theorem dX11_tissue_13 : decode cX11_tissue 13 = .ok (.iconst 0, 1) := by decide +kernel
theorem dX11_tissue_14 : decode cX11_tissue 14 = .ok (.invokevirtual 303, 3) := by decide +kernel
theorem dX11_tissue_17 : decode cX11_tissue 17 = .ok (.istore 4, 2) := by decide +kernel
theorem dX11_tissue_19 : decode cX11_tissue 19 = .ok (.iload_n 1, 1) := by decide +kernel
theorem dX11_tissue_20 : decode cX11_tissue 20 = .ok (.iconst 1, 1) := by decide +kernel
theorem dX11_tissue_21 : decode cX11_tissue 21 = .ok (.if_icmp .lt 29, 3) := by decide +kernel
theorem dX11_tissue_24 : decode cX11_tissue 24 = .ok (.iload_n 1, 1) := by decide +kernel
theorem dX11_tissue_25 : decode cX11_tissue 25 = .ok (.bipush 20, 2) := by decide +kernel
theorem dX11_tissue_27 : decode cX11_tissue 27 = .ok (.if_icmp .gt 23, 3) := by decide +kernel
theorem dX11_tissue_30 : decode cX11_tissue 30 = .ok (.iload_n 2, 1) := by decide +kernel
theorem dX11_tissue_31 : decode cX11_tissue 31 = .ok (.ifCond .lt 19, 3) := by decide +kernel
theorem dX11_tissue_34 : decode cX11_tissue 34 = .ok (.iload_n 2, 1) := by decide +kernel
theorem dX11_tissue_35 : decode cX11_tissue 35 = .ok (.bipush 120, 2) := by decide +kernel
theorem dX11_tissue_37 : decode cX11_tissue 37 = .ok (.if_icmp .gt 13, 3) := by decide +kernel
theorem dX11_tissue_40 : decode cX11_tissue 40 = .ok (.iload_n 3, 1) := by decide +kernel
theorem dX11_tissue_41 : decode cX11_tissue 41 = .ok (.ifCond .lt 9, 3) := by decide +kernel
theorem dX11_tissue_44 : decode cX11_tissue 44 = .ok (.iload_n 3, 1) := by decide +kernel
theorem dX11_tissue_45 : decode cX11_tissue 45 = .ok (.bipush 20, 2) := by decide +kernel
theorem dX11_tissue_47 : decode cX11_tissue 47 = .ok (.if_icmp .le 6, 3) := by decide +kernel
theorem dX11_tissue_50 : decode cX11_tissue 50 = .ok (.bipush (-2), 2) := by decide +kernel
theorem dX11_tissue_52 : decode cX11_tissue 52 = .ok (.ireturn, 1) := by decide +kernel
theorem dX11_tissue_53 : decode cX11_tissue 53 = .ok (.iload 4, 2) := by decide +kernel
theorem dX11_tissue_55 : decode cX11_tissue 55 = .ok (.iconst 1, 1) := by decide +kernel
theorem dX11_tissue_56 : decode cX11_tissue 56 = .ok (.if_icmp .lt 22, 3) := by decide +kernel
theorem dX11_tissue_59 : decode cX11_tissue 59 = .ok (.aload_n 0, 1) := by decide +kernel
theorem dX11_tissue_60 : decode cX11_tissue 60 = .ok (.getfield 88, 3) := by decide +kernel
theorem dX11_tissue_63 : decode cX11_tissue 63 = .ok (.iload 4, 2) := by decide +kernel
theorem dX11_tissue_65 : decode cX11_tissue 65 = .ok (.iload_n 1, 1) := by decide +kernel
theorem dX11_tissue_66 : decode cX11_tissue 66 = .ok (.iload_n 2, 1) := by decide +kernel
theorem dX11_tissue_67 : decode cX11_tissue 67 = .ok (.iload_n 3, 1) := by decide +kernel
theorem dX11_tissue_68 : decode cX11_tissue 68 = .ok (.isub, 1) := by decide +kernel
theorem dX11_tissue_69 : decode cX11_tissue 69 = .ok (.iload_n 2, 1) := by decide +kernel
theorem dX11_tissue_70 : decode cX11_tissue 70 = .ok (.iload_n 3, 1) := by decide +kernel
theorem dX11_tissue_71 : decode cX11_tissue 71 = .ok (.iadd, 1) := by decide +kernel
theorem dX11_tissue_72 : decode cX11_tissue 72 = .ok (.invokevirtual 352, 3) := by decide +kernel
theorem dX11_tissue_75 : decode cX11_tissue 75 = .ok (.ifCond .ne 5, 3) := by decide +kernel
theorem dX11_tissue_78 : decode cX11_tissue 78 = .ok (.iconst (-1), 1) := by decide +kernel
theorem dX11_tissue_79 : decode cX11_tissue 79 = .ok (.ireturn, 1) := by decide +kernel
theorem dX11_tissue_80 : decode cX11_tissue 80 = .ok (.aload_n 0, 1) := by decide +kernel
theorem dX11_tissue_81 : decode cX11_tissue 81 = .ok (.getfield 88, 3) := by decide +kernel
theorem dX11_tissue_84 : decode cX11_tissue 84 = .ok (.iload 4, 2) := by decide +kernel
theorem dX11_tissue_86 : decode cX11_tissue 86 = .ok (.invokevirtual 355, 3) := by decide +kernel
theorem dX11_tissue_89 : decode cX11_tissue 89 = .ok (.ireturn, 1) := by decide +kernel
set_option maxRecDepth 20000 in
theorem sX11_tissue_0 {P : Option Value → AH → Prop} (h : AH) (r0 : Nat) (x1 : Int32) (x2 : Int32) (x3 : Int32) (hf : (isO h 11 r0) ∧ ((isO h 10 (gF h r0 13)) ∧ ((isO h 9 (gF h r0 1)) ∧ (Call mX9_takeRow [.ref (gF h r0 1), .ref (gF h (gF h r0 13) 0), .int 99, .int 0] h (fun v h4 => ∃ z5 : Int32, v = some (.int z5) ∧ ((x1 < 1 → P (some (.int (-2))) h4) ∧ (¬ x1 < 1 → (20 < x1 → P (some (.int (-2))) h4) ∧ (¬ 20 < x1 → (x2 < 0 → P (some (.int (-2))) h4) ∧ (¬ x2 < 0 → (120 < x2 → P (some (.int (-2))) h4) ∧ (¬ 120 < x2 → (x3 < 0 → P (some (.int (-2))) h4) ∧ (¬ x3 < 0 → (x3 ≤ 20 → (z5 < 1 → P (some (.int (-1))) h4) ∧ (¬ z5 < 1 → (isO h4 11 r0) ∧ ((isO h4 10 (gF h4 r0 13)) ∧ (Call mX10_bound [.ref (gF h4 r0 13), .int z5, .int x1, .int (x2 - x3), .int (x2 + x3)] h4 (fun v h15 => ∃ z16 : Int32, v = some (.int z16) ∧ ((¬ z16 = 0 → (isO h15 11 r0) ∧ ((isO h15 10 (gF h15 r0 13)) ∧ (Call mX10_find [.ref (gF h15 r0 13), .int z5] h15 (fun v h20 => ∃ z21 : Int32, v = some (.int z21) ∧ (P (some (.int z21)) h20))))) ∧ (z16 = 0 → P (some (.int (-1))) h15))))))) ∧ (¬ x3 ≤ 20 → P (some (.int (-2))) h4)))))))))))) : Rr mX11_tissue 0 0 0 [(0, .ref r0), (1, .int x1), (2, .int x2), (3, .int x3)] [] h P := by
  refine R_aload_n dX11_tissue_0 rfl 0 rfl ?_
  obtain ⟨ob1, hf⟩ := hf
  refine G11_1 dX11_tissue_1 lfX11_20 ob1 ?_
  refine R_aload_n dX11_tissue_4 rfl 0 rfl ?_
  refine G11_13 dX11_tissue_5 lfX11_88 ob1 ?_
  obtain ⟨ob2, hf⟩ := hf
  refine G10_0 dX11_tissue_8 lfX11_349 ob2 ?_
  refine R_bipush (v := 99) dX11_tissue_11 (by decide) ?_
  refine R_iconst (v := 0) dX11_tissue_13 (by decide) ?_
  obtain ⟨ob3, hf⟩ := hf
  refine R_callV (ci := 9) (N := mX9_takeRow) (as := [.ref (gF h (gF h r0 13) 0), .int 99, .int 0]) (rest := []) (kc2 := 0) (ks2 := 0) dX11_tissue_14 lmX11_303 oX9_takeRow (Nat.le_of_ble_eq_true rfl) rfl rfl (Nat.le_of_ble_eq_true rfl) rfl rfl ob3 ok9 (Call.mono hf ?_)
  rintro _ h4 ⟨z5, rfl, hf⟩
  refine R_istore dX11_tissue_17 (by decide) rfl ?_
  refine R_iload_n dX11_tissue_19 rfl 2 rfl ?_
  refine R_iconst (v := 1) dX11_tissue_20 (by decide) ?_
  refine R_icmp_lt (tgt := 50) dX11_tissue_21 (by decide) (fun b6 => ?_) (fun b6 => ?_)
  · have hf := hf.1 b6
    refine R_bipush (v := (-2)) dX11_tissue_50 (by decide) ?_
    exact R_iret dX11_tissue_52 rfl rfl hf
  · have hf := hf.2 b6
    refine R_iload_n dX11_tissue_24 rfl 2 rfl ?_
    refine R_bipush (v := 20) dX11_tissue_25 (by decide) ?_
    refine R_icmp_gt (tgt := 50) dX11_tissue_27 (by decide) (fun b7 => ?_) (fun b7 => ?_)
    · have hf := hf.1 b7
      refine R_bipush (v := (-2)) dX11_tissue_50 (by decide) ?_
      exact R_iret dX11_tissue_52 rfl rfl hf
    · have hf := hf.2 b7
      refine R_iload_n dX11_tissue_30 rfl 3 rfl ?_
      refine R_if_lt (tgt := 50) dX11_tissue_31 (by decide) (fun b8 => ?_) (fun b8 => ?_)
      · have hf := hf.1 b8
        refine R_bipush (v := (-2)) dX11_tissue_50 (by decide) ?_
        exact R_iret dX11_tissue_52 rfl rfl hf
      · have hf := hf.2 b8
        refine R_iload_n dX11_tissue_34 rfl 3 rfl ?_
        refine R_bipush (v := 120) dX11_tissue_35 (by decide) ?_
        refine R_icmp_gt (tgt := 50) dX11_tissue_37 (by decide) (fun b9 => ?_) (fun b9 => ?_)
        · have hf := hf.1 b9
          refine R_bipush (v := (-2)) dX11_tissue_50 (by decide) ?_
          exact R_iret dX11_tissue_52 rfl rfl hf
        · have hf := hf.2 b9
          refine R_iload_n dX11_tissue_40 rfl 4 rfl ?_
          refine R_if_lt (tgt := 50) dX11_tissue_41 (by decide) (fun b10 => ?_) (fun b10 => ?_)
          · have hf := hf.1 b10
            refine R_bipush (v := (-2)) dX11_tissue_50 (by decide) ?_
            exact R_iret dX11_tissue_52 rfl rfl hf
          · have hf := hf.2 b10
            refine R_iload_n dX11_tissue_44 rfl 4 rfl ?_
            refine R_bipush (v := 20) dX11_tissue_45 (by decide) ?_
            refine R_icmp_le (tgt := 53) dX11_tissue_47 (by decide) (fun b11 => ?_) (fun b11 => ?_)
            · have hf := hf.1 b11
              refine R_iload dX11_tissue_53 0 rfl ?_
              refine R_iconst (v := 1) dX11_tissue_55 (by decide) ?_
              refine R_icmp_lt (tgt := 78) dX11_tissue_56 (by decide) (fun b12 => ?_) (fun b12 => ?_)
              · have hf := hf.1 b12
                refine R_iconst (v := (-1)) dX11_tissue_78 (by decide) ?_
                exact R_iret dX11_tissue_79 rfl rfl hf
              · have hf := hf.2 b12
                refine R_aload_n dX11_tissue_59 rfl 1 rfl ?_
                obtain ⟨ob13, hf⟩ := hf
                refine G11_13 dX11_tissue_60 lfX11_88 ob13 ?_
                refine R_iload dX11_tissue_63 0 rfl ?_
                refine R_iload_n dX11_tissue_65 rfl 2 rfl ?_
                refine R_iload_n dX11_tissue_66 rfl 3 rfl ?_
                refine R_iload_n dX11_tissue_67 rfl 4 rfl ?_
                refine R_isub dX11_tissue_68 ?_
                refine R_iload_n dX11_tissue_69 rfl 3 rfl ?_
                refine R_iload_n dX11_tissue_70 rfl 4 rfl ?_
                refine R_iadd dX11_tissue_71 ?_
                obtain ⟨ob14, hf⟩ := hf
                refine R_callV (ci := 10) (N := mX10_bound) (as := [.int z5, .int x1, .int (x2 - x3), .int (x2 + x3)]) (rest := []) (kc2 := 0) (ks2 := 0) dX11_tissue_72 lmX11_352 oX10_bound (Nat.le_of_ble_eq_true rfl) rfl rfl (Nat.le_of_ble_eq_true rfl) rfl rfl ob14 ok10 (Call.mono hf ?_)
                rintro _ h15 ⟨z16, rfl, hf⟩
                refine R_if_ne (tgt := 80) dX11_tissue_75 (by decide) (fun b17 => ?_) (fun b17 => ?_)
                · have hf := hf.1 b17
                  refine R_aload_n dX11_tissue_80 rfl 1 rfl ?_
                  obtain ⟨ob18, hf⟩ := hf
                  refine G11_13 dX11_tissue_81 lfX11_88 ob18 ?_
                  refine R_iload dX11_tissue_84 0 rfl ?_
                  obtain ⟨ob19, hf⟩ := hf
                  refine R_callV (ci := 10) (N := mX10_find) (as := [.int z5]) (rest := []) (kc2 := 0) (ks2 := 0) dX11_tissue_86 lmX11_355 oX10_find (Nat.le_of_ble_eq_true rfl) rfl rfl (Nat.le_of_ble_eq_true rfl) rfl rfl ob19 ok10 (Call.mono hf ?_)
                  rintro _ h20 ⟨z21, rfl, hf⟩
                  exact R_iret dX11_tissue_89 rfl rfl hf
                · have hf := hf.2 b17
                  refine R_iconst (v := (-1)) dX11_tissue_78 (by decide) ?_
                  exact R_iret dX11_tissue_79 rfl rfl hf
            · have hf := hf.2 b11
              refine R_bipush (v := (-2)) dX11_tissue_50 (by decide) ?_
              exact R_iret dX11_tissue_52 rfl rfl hf
