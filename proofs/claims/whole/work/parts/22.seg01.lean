theorem dX12_ask_0 : decode cX12_ask 0 = .ok (.aload_n 0, 1) := by decide +kernel
theorem dX12_ask_1 : decode cX12_ask 1 = .ok (.iconst 0, 1) := by decide +kernel
theorem dX12_ask_2 : decode cX12_ask 2 = .ok (.putfield 273, 3) := by decide +kernel
theorem dX12_ask_5 : decode cX12_ask 5 = .ok (.iconst 0, 1) := by decide +kernel
theorem dX12_ask_6 : decode cX12_ask 6 = .ok (.istore_n 3, 1) := by decide +kernel
theorem dX12_ask_7 : decode cX12_ask 7 = .ok (.iload_n 3, 1) := by decide +kernel
theorem dX12_ask_8 : decode cX12_ask 8 = .ok (.aload_n 0, 1) := by decide +kernel
theorem dX12_ask_9 : decode cX12_ask 9 = .ok (.getfield 199, 3) := by decide +kernel
theorem dX12_ask_12 : decode cX12_ask 12 = .ok (.if_icmp .ge 187, 3) := by decide +kernel
theorem dX12_ask_15 : decode cX12_ask 15 = .ok (.aload_n 0, 1) := by decide +kernel
theorem dX12_ask_16 : decode cX12_ask 16 = .ok (.getfield 48, 3) := by decide +kernel
theorem dX12_ask_19 : decode cX12_ask 19 = .ok (.iload_n 3, 1) := by decide +kernel
theorem dX12_ask_20 : decode cX12_ask 20 = .ok (.iaload, 1) := by decide +kernel
theorem dX12_ask_21 : decode cX12_ask 21 = .ok (.iload_n 1, 1) := by decide +kernel
theorem dX12_ask_22 : decode cX12_ask 22 = .ok (.if_icmp .ne 171, 3) := by decide +kernel
theorem dX12_ask_25 : decode cX12_ask 25 = .ok (.aload_n 0, 1) := by decide +kernel
theorem dX12_ask_26 : decode cX12_ask 26 = .ok (.getfield 45, 3) := by decide +kernel
theorem dX12_ask_29 : decode cX12_ask 29 = .ok (.iload_n 3, 1) := by decide +kernel
theorem dX12_ask_30 : decode cX12_ask 30 = .ok (.iaload, 1) := by decide +kernel
theorem dX12_ask_31 : decode cX12_ask 31 = .ok (.iload_n 2, 1) := by decide +kernel
theorem dX12_ask_32 : decode cX12_ask 32 = .ok (.if_icmp .le 6, 3) := by decide +kernel
theorem dX12_ask_35 : decode cX12_ask 35 = .ok (.goto 158, 3) := by decide +kernel
theorem dX12_ask_38 : decode cX12_ask 38 = .ok (.aload_n 0, 1) := by decide +kernel
theorem dX12_ask_39 : decode cX12_ask 39 = .ok (.getfield 72, 3) := by decide +kernel
theorem dX12_ask_42 : decode cX12_ask 42 = .ok (.aload_n 0, 1) := by decide +kernel
theorem dX12_ask_43 : decode cX12_ask 43 = .ok (.getfield 273, 3) := by decide +kernel
theorem dX12_ask_46 : decode cX12_ask 46 = .ok (.aload_n 0, 1) := by decide +kernel
theorem dX12_ask_47 : decode cX12_ask 47 = .ok (.getfield 21, 3) := by decide +kernel
theorem dX12_ask_50 : decode cX12_ask 50 = .ok (.aload_n 0, 1) := by decide +kernel
theorem dX12_ask_51 : decode cX12_ask 51 = .ok (.getfield 51, 3) := by decide +kernel
theorem dX12_ask_54 : decode cX12_ask 54 = .ok (.iload_n 3, 1) := by decide +kernel
theorem dX12_ask_55 : decode cX12_ask 55 = .ok (.iaload, 1) := by decide +kernel
theorem dX12_ask_56 : decode cX12_ask 56 = .ok (.iaload, 1) := by decide +kernel
theorem dX12_ask_57 : decode cX12_ask 57 = .ok (.iastore, 1) := by decide +kernel
theorem dX12_ask_58 : decode cX12_ask 58 = .ok (.aload_n 0, 1) := by decide +kernel
theorem dX12_ask_59 : decode cX12_ask 59 = .ok (.getfield 75, 3) := by decide +kernel
theorem dX12_ask_62 : decode cX12_ask 62 = .ok (.aload_n 0, 1) := by decide +kernel
theorem dX12_ask_63 : decode cX12_ask 63 = .ok (.getfield 273, 3) := by decide +kernel
theorem dX12_ask_66 : decode cX12_ask 66 = .ok (.aload_n 0, 1) := by decide +kernel
theorem dX12_ask_67 : decode cX12_ask 67 = .ok (.getfield 24, 3) := by decide +kernel
theorem dX12_ask_70 : decode cX12_ask 70 = .ok (.aload_n 0, 1) := by decide +kernel
theorem dX12_ask_71 : decode cX12_ask 71 = .ok (.getfield 51, 3) := by decide +kernel
theorem dX12_ask_74 : decode cX12_ask 74 = .ok (.iload_n 3, 1) := by decide +kernel
theorem dX12_ask_75 : decode cX12_ask 75 = .ok (.iaload, 1) := by decide +kernel
theorem dX12_ask_76 : decode cX12_ask 76 = .ok (.iaload, 1) := by decide +kernel
theorem dX12_ask_77 : decode cX12_ask 77 = .ok (.iastore, 1) := by decide +kernel
theorem dX12_ask_78 : decode cX12_ask 78 = .ok (.aload_n 0, 1) := by decide +kernel
theorem dX12_ask_79 : decode cX12_ask 79 = .ok (.getfield 78, 3) := by decide +kernel
theorem dX12_ask_82 : decode cX12_ask 82 = .ok (.aload_n 0, 1) := by decide +kernel
theorem dX12_ask_83 : decode cX12_ask 83 = .ok (.getfield 273, 3) := by decide +kernel
theorem dX12_ask_86 : decode cX12_ask 86 = .ok (.aload_n 0, 1) := by decide +kernel
theorem dX12_ask_87 : decode cX12_ask 87 = .ok (.getfield 54, 3) := by decide +kernel
theorem dX12_ask_90 : decode cX12_ask 90 = .ok (.iload_n 3, 1) := by decide +kernel
theorem dX12_ask_91 : decode cX12_ask 91 = .ok (.iaload, 1) := by decide +kernel
theorem dX12_ask_92 : decode cX12_ask 92 = .ok (.iastore, 1) := by decide +kernel
theorem dX12_ask_93 : decode cX12_ask 93 = .ok (.aload_n 0, 1) := by decide +kernel
theorem dX12_ask_94 : decode cX12_ask 94 = .ok (.getfield 81, 3) := by decide +kernel
theorem dX12_ask_97 : decode cX12_ask 97 = .ok (.aload_n 0, 1) := by decide +kernel
theorem dX12_ask_98 : decode cX12_ask 98 = .ok (.getfield 273, 3) := by decide +kernel
theorem dX12_ask_101 : decode cX12_ask 101 = .ok (.aload_n 0, 1) := by decide +kernel
theorem dX12_ask_102 : decode cX12_ask 102 = .ok (.getfield 57, 3) := by decide +kernel
theorem dX12_ask_105 : decode cX12_ask 105 = .ok (.iload_n 3, 1) := by decide +kernel
theorem dX12_ask_106 : decode cX12_ask 106 = .ok (.iaload, 1) := by decide +kernel
theorem dX12_ask_107 : decode cX12_ask 107 = .ok (.iastore, 1) := by decide +kernel
theorem dX12_ask_108 : decode cX12_ask 108 = .ok (.iconst 0, 1) := by decide +kernel
theorem dX12_ask_109 : decode cX12_ask 109 = .ok (.istore 4, 2) := by decide +kernel
theorem dX12_ask_111 : decode cX12_ask 111 = .ok (.iload 4, 2) := by decide +kernel
theorem dX12_ask_113 : decode cX12_ask 113 = .ok (.aload_n 0, 1) := by decide +kernel
theorem dX12_ask_114 : decode cX12_ask 114 = .ok (.getfield 202, 3) := by decide +kernel
theorem dX12_ask_117 : decode cX12_ask 117 = .ok (.if_icmp .ge 66, 3) := by decide +kernel
theorem dX12_ask_120 : decode cX12_ask 120 = .ok (.aload_n 0, 1) := by decide +kernel
theorem dX12_ask_121 : decode cX12_ask 121 = .ok (.getfield 63, 3) := by decide +kernel
theorem dX12_ask_124 : decode cX12_ask 124 = .ok (.iload 4, 2) := by decide +kernel
theorem dX12_ask_126 : decode cX12_ask 126 = .ok (.iaload, 1) := by decide +kernel
theorem dX12_ask_127 : decode cX12_ask 127 = .ok (.iload_n 3, 1) := by decide +kernel
theorem dX12_ask_128 : decode cX12_ask 128 = .ok (.if_icmp .ne 49, 3) := by decide +kernel
theorem dX12_ask_131 : decode cX12_ask 131 = .ok (.aload_n 0, 1) := by decide +kernel
theorem dX12_ask_132 : decode cX12_ask 132 = .ok (.getfield 60, 3) := by decide +kernel
theorem dX12_ask_135 : decode cX12_ask 135 = .ok (.iload 4, 2) := by decide +kernel
theorem dX12_ask_137 : decode cX12_ask 137 = .ok (.iaload, 1) := by decide +kernel
theorem dX12_ask_138 : decode cX12_ask 138 = .ok (.iload_n 2, 1) := by decide +kernel
theorem dX12_ask_139 : decode cX12_ask 139 = .ok (.if_icmp .le 6, 3) := by decide +kernel
theorem dX12_ask_142 : decode cX12_ask 142 = .ok (.goto 35, 3) := by decide +kernel
theorem dX12_ask_145 : decode cX12_ask 145 = .ok (.aload_n 0, 1) := by decide +kernel
theorem dX12_ask_146 : decode cX12_ask 146 = .ok (.getfield 78, 3) := by decide +kernel
theorem dX12_ask_149 : decode cX12_ask 149 = .ok (.aload_n 0, 1) := by decide +kernel
theorem dX12_ask_150 : decode cX12_ask 150 = .ok (.getfield 273, 3) := by decide +kernel
theorem dX12_ask_153 : decode cX12_ask 153 = .ok (.aload_n 0, 1) := by decide +kernel
theorem dX12_ask_154 : decode cX12_ask 154 = .ok (.getfield 66, 3) := by decide +kernel
theorem dX12_ask_157 : decode cX12_ask 157 = .ok (.iload 4, 2) := by decide +kernel
theorem dX12_ask_159 : decode cX12_ask 159 = .ok (.iaload, 1) := by decide +kernel
theorem dX12_ask_160 : decode cX12_ask 160 = .ok (.iastore, 1) := by decide +kernel
theorem dX12_ask_161 : decode cX12_ask 161 = .ok (.aload_n 0, 1) := by decide +kernel
theorem dX12_ask_162 : decode cX12_ask 162 = .ok (.getfield 81, 3) := by decide +kernel
theorem dX12_ask_165 : decode cX12_ask 165 = .ok (.aload_n 0, 1) := by decide +kernel
theorem dX12_ask_166 : decode cX12_ask 166 = .ok (.getfield 273, 3) := by decide +kernel
theorem dX12_ask_169 : decode cX12_ask 169 = .ok (.aload_n 0, 1) := by decide +kernel
theorem dX12_ask_170 : decode cX12_ask 170 = .ok (.getfield 69, 3) := by decide +kernel
theorem dX12_ask_173 : decode cX12_ask 173 = .ok (.iload 4, 2) := by decide +kernel
theorem dX12_ask_175 : decode cX12_ask 175 = .ok (.iaload, 1) := by decide +kernel
theorem dX12_ask_176 : decode cX12_ask 176 = .ok (.iastore, 1) := by decide +kernel
theorem dX12_ask_177 : decode cX12_ask 177 = .ok (.iinc 4 1, 3) := by decide +kernel
theorem dX12_ask_180 : decode cX12_ask 180 = .ok (.goto (-69), 3) := by decide +kernel
theorem dX12_ask_183 : decode cX12_ask 183 = .ok (.aload_n 0, 1) := by decide +kernel
theorem dX12_ask_184 : decode cX12_ask 184 = .ok (.dup, 1) := by decide +kernel
theorem dX12_ask_185 : decode cX12_ask 185 = .ok (.getfield 273, 3) := by decide +kernel
theorem dX12_ask_188 : decode cX12_ask 188 = .ok (.iconst 1, 1) := by decide +kernel
theorem dX12_ask_189 : decode cX12_ask 189 = .ok (.iadd, 1) := by decide +kernel
theorem dX12_ask_190 : decode cX12_ask 190 = .ok (.putfield 273, 3) := by decide +kernel
theorem dX12_ask_193 : decode cX12_ask 193 = .ok (.iinc 3 1, 3) := by decide +kernel
theorem dX12_ask_196 : decode cX12_ask 196 = .ok (.goto (-189), 3) := by decide +kernel
theorem dX12_ask_199 : decode cX12_ask 199 = .ok (.return_, 1) := by decide +kernel
set_option maxRecDepth 20000 in
theorem sX12_ask_0 {P : Option Value → AH → Prop} (h : AH) (r0 : Nat) (x1 : Int32) (x2 : Int32) (hf : (isO h 12 r0) ∧ (Rr mX12_ask 0 0 7 [(0, .ref r0), (1, .int x1), (2, .int x2), (3, .int 0)] [] (sI h r0 35 0) P)) : Rr mX12_ask 0 0 0 [(0, .ref r0), (1, .int x1), (2, .int x2)] [] h P := by
  refine R_aload_n dX12_ask_0 rfl 0 rfl ?_
  refine R_iconst (v := 0) dX12_ask_1 (by decide) ?_
  obtain ⟨ob1, hf⟩ := hf
  refine S12_35 dX12_ask_2 lfX12_273 ob1 ?_
  refine R_iconst (v := 0) dX12_ask_5 (by decide) ?_
  refine R_istore_n dX12_ask_6 rfl (by decide) rfl ?_
  exact R_sub [1, 2, 3, 0] rfl hf
set_option maxRecDepth 20000 in
theorem sX12_ask_7 {P : Option Value → AH → Prop} (h : AH) (r0 : Nat) (x1 : Int32) (x2 : Int32) (x3 : Int32) (hf : (isO h 12 r0) ∧ (((gI h r0 23) ≤ x3 → P none h) ∧ (¬ (gI h r0 23) ≤ x3 → (isA h 0 (gF h r0 27)) ∧ ((vp_in x3 (ln (gF h r0 27))) ∧ ((¬ (gI h (gF h r0 27) x3.toNatClampNeg) = x1 → Rr mX12_ask 0 0 7 [(0, .ref r0), (1, .int x1), (2, .int x2), (3, .int (x3 + 1))] [] h P) ∧ ((gI h (gF h r0 27) x3.toNatClampNeg) = x1 → (isA h 0 (gF h r0 26)) ∧ ((vp_in x3 (ln (gF h r0 26))) ∧ (((gI h (gF h r0 26) x3.toNatClampNeg) ≤ x2 → (isA h 0 (gF h r0 28)) ∧ ((vp_in x3 (ln (gF h r0 28))) ∧ ((isA h 0 (gF h r0 12)) ∧ ((vp_in (gI h (gF h r0 28) x3.toNatClampNeg) (ln (gF h r0 12))) ∧ ((isA h 0 (gF h r0 36)) ∧ ((vp_in (gI h r0 35) (ln (gF h r0 36))) ∧ ((isA h 0 (gF (sI h (gF h r0 36) (gI h r0 35).toNatClampNeg (gI h (gF h r0 12) (gI h (gF h r0 28) x3.toNatClampNeg).toNatClampNeg)) r0 28)) ∧ ((vp_in x3 (ln (gF (sI h (gF h r0 36) (gI h r0 35).toNatClampNeg (gI h (gF h r0 12) (gI h (gF h r0 28) x3.toNatClampNeg).toNatClampNeg)) r0 28))) ∧ ((isA h 0 (gF (sI h (gF h r0 36) (gI h r0 35).toNatClampNeg (gI h (gF h r0 12) (gI h (gF h r0 28) x3.toNatClampNeg).toNatClampNeg)) r0 13)) ∧ ((vp_in (gI (sI h (gF h r0 36) (gI h r0 35).toNatClampNeg (gI h (gF h r0 12) (gI h (gF h r0 28) x3.toNatClampNeg).toNatClampNeg)) (gF (sI h (gF h r0 36) (gI h r0 35).toNatClampNeg (gI h (gF h r0 12) (gI h (gF h r0 28) x3.toNatClampNeg).toNatClampNeg)) r0 28) x3.toNatClampNeg) (ln (gF (sI h (gF h r0 36) (gI h r0 35).toNatClampNeg (gI h (gF h r0 12) (gI h (gF h r0 28) x3.toNatClampNeg).toNatClampNeg)) r0 13))) ∧ ((isA h 0 (gF (sI h (gF h r0 36) (gI h r0 35).toNatClampNeg (gI h (gF h r0 12) (gI h (gF h r0 28) x3.toNatClampNeg).toNatClampNeg)) r0 37)) ∧ ((vp_in (gI (sI h (gF h r0 36) (gI h r0 35).toNatClampNeg (gI h (gF h r0 12) (gI h (gF h r0 28) x3.toNatClampNeg).toNatClampNeg)) r0 35) (ln (gF (sI h (gF h r0 36) (gI h r0 35).toNatClampNeg (gI h (gF h r0 12) (gI h (gF h r0 28) x3.toNatClampNeg).toNatClampNeg)) r0 37))) ∧ ((isA h 0 (gF (sI (sI h (gF h r0 36) (gI h r0 35).toNatClampNeg (gI h (gF h r0 12) (gI h (gF h r0 28) x3.toNatClampNeg).toNatClampNeg)) (gF (sI h (gF h r0 36) (gI h r0 35).toNatClampNeg (gI h (gF h r0 12) (gI h (gF h r0 28) x3.toNatClampNeg).toNatClampNeg)) r0 37) (gI (sI h (gF h r0 36) (gI h r0 35).toNatClampNeg (gI h (gF h r0 12) (gI h (gF h r0 28) x3.toNatClampNeg).toNatClampNeg)) r0 35).toNatClampNeg (gI (sI h (gF h r0 36) (gI h r0 35).toNatClampNeg (gI h (gF h r0 12) (gI h (gF h r0 28) x3.toNatClampNeg).toNatClampNeg)) (gF (sI h (gF h r0 36) (gI h r0 35).toNatClampNeg (gI h (gF h r0 12) (gI h (gF h r0 28) x3.toNatClampNeg).toNatClampNeg)) r0 13) (gI (sI h (gF h r0 36) (gI h r0 35).toNatClampNeg (gI h (gF h r0 12) (gI h (gF h r0 28) x3.toNatClampNeg).toNatClampNeg)) (gF (sI h (gF h r0 36) (gI h r0 35).toNatClampNeg (gI h (gF h r0 12) (gI h (gF h r0 28) x3.toNatClampNeg).toNatClampNeg)) r0 28) x3.toNatClampNeg).toNatClampNeg)) r0 29)) ∧ ((vp_in x3 (ln (gF (sI (sI h (gF h r0 36) (gI h r0 35).toNatClampNeg (gI h (gF h r0 12) (gI h (gF h r0 28) x3.toNatClampNeg).toNatClampNeg)) (gF (sI h (gF h r0 36) (gI h r0 35).toNatClampNeg (gI h (gF h r0 12) (gI h (gF h r0 28) x3.toNatClampNeg).toNatClampNeg)) r0 37) (gI (sI h (gF h r0 36) (gI h r0 35).toNatClampNeg (gI h (gF h r0 12) (gI h (gF h r0 28) x3.toNatClampNeg).toNatClampNeg)) r0 35).toNatClampNeg (gI (sI h (gF h r0 36) (gI h r0 35).toNatClampNeg (gI h (gF h r0 12) (gI h (gF h r0 28) x3.toNatClampNeg).toNatClampNeg)) (gF (sI h (gF h r0 36) (gI h r0 35).toNatClampNeg (gI h (gF h r0 12) (gI h (gF h r0 28) x3.toNatClampNeg).toNatClampNeg)) r0 13) (gI (sI h (gF h r0 36) (gI h r0 35).toNatClampNeg (gI h (gF h r0 12) (gI h (gF h r0 28) x3.toNatClampNeg).toNatClampNeg)) (gF (sI h (gF h r0 36) (gI h r0 35).toNatClampNeg (gI h (gF h r0 12) (gI h (gF h r0 28) x3.toNatClampNeg).toNatClampNeg)) r0 28) x3.toNatClampNeg).toNatClampNeg)) r0 29))) ∧ ((isA h 0 (gF (sI (sI h (gF h r0 36) (gI h r0 35).toNatClampNeg (gI h (gF h r0 12) (gI h (gF h r0 28) x3.toNatClampNeg).toNatClampNeg)) (gF (sI h (gF h r0 36) (gI h r0 35).toNatClampNeg (gI h (gF h r0 12) (gI h (gF h r0 28) x3.toNatClampNeg).toNatClampNeg)) r0 37) (gI (sI h (gF h r0 36) (gI h r0 35).toNatClampNeg (gI h (gF h r0 12) (gI h (gF h r0 28) x3.toNatClampNeg).toNatClampNeg)) r0 35).toNatClampNeg (gI (sI h (gF h r0 36) (gI h r0 35).toNatClampNeg (gI h (gF h r0 12) (gI h (gF h r0 28) x3.toNatClampNeg).toNatClampNeg)) (gF (sI h (gF h r0 36) (gI h r0 35).toNatClampNeg (gI h (gF h r0 12) (gI h (gF h r0 28) x3.toNatClampNeg).toNatClampNeg)) r0 13) (gI (sI h (gF h r0 36) (gI h r0 35).toNatClampNeg (gI h (gF h r0 12) (gI h (gF h r0 28) x3.toNatClampNeg).toNatClampNeg)) (gF (sI h (gF h r0 36) (gI h r0 35).toNatClampNeg (gI h (gF h r0 12) (gI h (gF h r0 28) x3.toNatClampNeg).toNatClampNeg)) r0 28) x3.toNatClampNeg).toNatClampNeg)) r0 38)) ∧ ((vp_in (gI (sI (sI h (gF h r0 36) (gI h r0 35).toNatClampNeg (gI h (gF h r0 12) (gI h (gF h r0 28) x3.toNatClampNeg).toNatClampNeg)) (gF (sI h (gF h r0 36) (gI h r0 35).toNatClampNeg (gI h (gF h r0 12) (gI h (gF h r0 28) x3.toNatClampNeg).toNatClampNeg)) r0 37) (gI (sI h (gF h r0 36) (gI h r0 35).toNatClampNeg (gI h (gF h r0 12) (gI h (gF h r0 28) x3.toNatClampNeg).toNatClampNeg)) r0 35).toNatClampNeg (gI (sI h (gF h r0 36) (gI h r0 35).toNatClampNeg (gI h (gF h r0 12) (gI h (gF h r0 28) x3.toNatClampNeg).toNatClampNeg)) (gF (sI h (gF h r0 36) (gI h r0 35).toNatClampNeg (gI h (gF h r0 12) (gI h (gF h r0 28) x3.toNatClampNeg).toNatClampNeg)) r0 13) (gI (sI h (gF h r0 36) (gI h r0 35).toNatClampNeg (gI h (gF h r0 12) (gI h (gF h r0 28) x3.toNatClampNeg).toNatClampNeg)) (gF (sI h (gF h r0 36) (gI h r0 35).toNatClampNeg (gI h (gF h r0 12) (gI h (gF h r0 28) x3.toNatClampNeg).toNatClampNeg)) r0 28) x3.toNatClampNeg).toNatClampNeg)) r0 35) (ln (gF (sI (sI h (gF h r0 36) (gI h r0 35).toNatClampNeg (gI h (gF h r0 12) (gI h (gF h r0 28) x3.toNatClampNeg).toNatClampNeg)) (gF (sI h (gF h r0 36) (gI h r0 35).toNatClampNeg (gI h (gF h r0 12) (gI h (gF h r0 28) x3.toNatClampNeg).toNatClampNeg)) r0 37) (gI (sI h (gF h r0 36) (gI h r0 35).toNatClampNeg (gI h (gF h r0 12) (gI h (gF h r0 28) x3.toNatClampNeg).toNatClampNeg)) r0 35).toNatClampNeg (gI (sI h (gF h r0 36) (gI h r0 35).toNatClampNeg (gI h (gF h r0 12) (gI h (gF h r0 28) x3.toNatClampNeg).toNatClampNeg)) (gF (sI h (gF h r0 36) (gI h r0 35).toNatClampNeg (gI h (gF h r0 12) (gI h (gF h r0 28) x3.toNatClampNeg).toNatClampNeg)) r0 13) (gI (sI h (gF h r0 36) (gI h r0 35).toNatClampNeg (gI h (gF h r0 12) (gI h (gF h r0 28) x3.toNatClampNeg).toNatClampNeg)) (gF (sI h (gF h r0 36) (gI h r0 35).toNatClampNeg (gI h (gF h r0 12) (gI h (gF h r0 28) x3.toNatClampNeg).toNatClampNeg)) r0 28) x3.toNatClampNeg).toNatClampNeg)) r0 38))) ∧ ((isA h 0 (gF (sI (sI (sI h (gF h r0 36) (gI h r0 35).toNatClampNeg (gI h (gF h r0 12) (gI h (gF h r0 28) x3.toNatClampNeg).toNatClampNeg)) (gF (sI h (gF h r0 36) (gI h r0 35).toNatClampNeg (gI h (gF h r0 12) (gI h (gF h r0 28) x3.toNatClampNeg).toNatClampNeg)) r0 37) (gI (sI h (gF h r0 36) (gI h r0 35).toNatClampNeg (gI h (gF h r0 12) (gI h (gF h r0 28) x3.toNatClampNeg).toNatClampNeg)) r0 35).toNatClampNeg (gI (sI h (gF h r0 36) (gI h r0 35).toNatClampNeg (gI h (gF h r0 12) (gI h (gF h r0 28) x3.toNatClampNeg).toNatClampNeg)) (gF (sI h (gF h r0 36) (gI h r0 35).toNatClampNeg (gI h (gF h r0 12) (gI h (gF h r0 28) x3.toNatClampNeg).toNatClampNeg)) r0 13) (gI (sI h (gF h r0 36) (gI h r0 35).toNatClampNeg (gI h (gF h r0 12) (gI h (gF h r0 28) x3.toNatClampNeg).toNatClampNeg)) (gF (sI h (gF h r0 36) (gI h r0 35).toNatClampNeg (gI h (gF h r0 12) (gI h (gF h r0 28) x3.toNatClampNeg).toNatClampNeg)) r0 28) x3.toNatClampNeg).toNatClampNeg)) (gF (sI (sI h (gF h r0 36) (gI h r0 35).toNatClampNeg (gI h (gF h r0 12) (gI h (gF h r0 28) x3.toNatClampNeg).toNatClampNeg)) (gF (sI h (gF h r0 36) (gI h r0 35).toNatClampNeg (gI h (gF h r0 12) (gI h (gF h r0 28) x3.toNatClampNeg).toNatClampNeg)) r0 37) (gI (sI h (gF h r0 36) (gI h r0 35).toNatClampNeg (gI h (gF h r0 12) (gI h (gF h r0 28) x3.toNatClampNeg).toNatClampNeg)) r0 35).toNatClampNeg (gI (sI h (gF h r0 36) (gI h r0 35).toNatClampNeg (gI h (gF h r0 12) (gI h (gF h r0 28) x3.toNatClampNeg).toNatClampNeg)) (gF (sI h (gF h r0 36) (gI h r0 35).toNatClampNeg (gI h (gF h r0 12) (gI h (gF h r0 28) x3.toNatClampNeg).toNatClampNeg)) r0 13) (gI (sI h (gF h r0 36) (gI h r0 35).toNatClampNeg (gI h (gF h r0 12) (gI h (gF h r0 28) x3.toNatClampNeg).toNatClampNeg)) (gF (sI h (gF h r0 36) (gI h r0 35).toNatClampNeg (gI h (gF h r0 12) (gI h (gF h r0 28) x3.toNatClampNeg).toNatClampNeg)) r0 28) x3.toNatClampNeg).toNatClampNeg)) r0 38) (gI (sI (sI h (gF h r0 36) (gI h r0 35).toNatClampNeg (gI h (gF h r0 12) (gI h (gF h r0 28) x3.toNatClampNeg).toNatClampNeg)) (gF (sI h (gF h r0 36) (gI h r0 35).toNatClampNeg (gI h (gF h r0 12) (gI h (gF h r0 28) x3.toNatClampNeg).toNatClampNeg)) r0 37) (gI (sI h (gF h r0 36) (gI h r0 35).toNatClampNeg (gI h (gF h r0 12) (gI h (gF h r0 28) x3.toNatClampNeg).toNatClampNeg)) r0 35).toNatClampNeg (gI (sI h (gF h r0 36) (gI h r0 35).toNatClampNeg (gI h (gF h r0 12) (gI h (gF h r0 28) x3.toNatClampNeg).toNatClampNeg)) (gF (sI h (gF h r0 36) (gI h r0 35).toNatClampNeg (gI h (gF h r0 12) (gI h (gF h r0 28) x3.toNatClampNeg).toNatClampNeg)) r0 13) (gI (sI h (gF h r0 36) (gI h r0 35).toNatClampNeg (gI h (gF h r0 12) (gI h (gF h r0 28) x3.toNatClampNeg).toNatClampNeg)) (gF (sI h (gF h r0 36) (gI h r0 35).toNatClampNeg (gI h (gF h r0 12) (gI h (gF h r0 28) x3.toNatClampNeg).toNatClampNeg)) r0 28) x3.toNatClampNeg).toNatClampNeg)) r0 35).toNatClampNeg (gI (sI (sI h (gF h r0 36) (gI h r0 35).toNatClampNeg (gI h (gF h r0 12) (gI h (gF h r0 28) x3.toNatClampNeg).toNatClampNeg)) (gF (sI h (gF h r0 36) (gI h r0 35).toNatClampNeg (gI h (gF h r0 12) (gI h (gF h r0 28) x3.toNatClampNeg).toNatClampNeg)) r0 37) (gI (sI h (gF h r0 36) (gI h r0 35).toNatClampNeg (gI h (gF h r0 12) (gI h (gF h r0 28) x3.toNatClampNeg).toNatClampNeg)) r0 35).toNatClampNeg (gI (sI h (gF h r0 36) (gI h r0 35).toNatClampNeg (gI h (gF h r0 12) (gI h (gF h r0 28) x3.toNatClampNeg).toNatClampNeg)) (gF (sI h (gF h r0 36) (gI h r0 35).toNatClampNeg (gI h (gF h r0 12) (gI h (gF h r0 28) x3.toNatClampNeg).toNatClampNeg)) r0 13) (gI (sI h (gF h r0 36) (gI h r0 35).toNatClampNeg (gI h (gF h r0 12) (gI h (gF h r0 28) x3.toNatClampNeg).toNatClampNeg)) (gF (sI h (gF h r0 36) (gI h r0 35).toNatClampNeg (gI h (gF h r0 12) (gI h (gF h r0 28) x3.toNatClampNeg).toNatClampNeg)) r0 28) x3.toNatClampNeg).toNatClampNeg)) (gF (sI (sI h (gF h r0 36) (gI h r0 35).toNatClampNeg (gI h (gF h r0 12) (gI h (gF h r0 28) x3.toNatClampNeg).toNatClampNeg)) (gF (sI h (gF h r0 36) (gI h r0 35).toNatClampNeg (gI h (gF h r0 12) (gI h (gF h r0 28) x3.toNatClampNeg).toNatClampNeg)) r0 37) (gI (sI h (gF h r0 36) (gI h r0 35).toNatClampNeg (gI h (gF h r0 12) (gI h (gF h r0 28) x3.toNatClampNeg).toNatClampNeg)) r0 35).toNatClampNeg (gI (sI h (gF h r0 36) (gI h r0 35).toNatClampNeg (gI h (gF h r0 12) (gI h (gF h r0 28) x3.toNatClampNeg).toNatClampNeg)) (gF (sI h (gF h r0 36) (gI h r0 35).toNatClampNeg (gI h (gF h r0 12) (gI h (gF h r0 28) x3.toNatClampNeg).toNatClampNeg)) r0 13) (gI (sI h (gF h r0 36) (gI h r0 35).toNatClampNeg (gI h (gF h r0 12) (gI h (gF h r0 28) x3.toNatClampNeg).toNatClampNeg)) (gF (sI h (gF h r0 36) (gI h r0 35).toNatClampNeg (gI h (gF h r0 12) (gI h (gF h r0 28) x3.toNatClampNeg).toNatClampNeg)) r0 28) x3.toNatClampNeg).toNatClampNeg)) r0 29) x3.toNatClampNeg)) r0 30)) ∧ ((vp_in x3 (ln (gF (sI (sI (sI h (gF h r0 36) (gI h r0 35).toNatClampNeg (gI h (gF h r0 12) (gI h (gF h r0 28) x3.toNatClampNeg).toNatClampNeg)) (gF (sI h (gF h r0 36) (gI h r0 35).toNatClampNeg (gI h (gF h r0 12) (gI h (gF h r0 28) x3.toNatClampNeg).toNatClampNeg)) r0 37) (gI (sI h (gF h r0 36) (gI h r0 35).toNatClampNeg (gI h (gF h r0 12) (gI h (gF h r0 28) x3.toNatClampNeg).toNatClampNeg)) r0 35).toNatClampNeg (gI (sI h (gF h r0 36) (gI h r0 35).toNatClampNeg (gI h (gF h r0 12) (gI h (gF h r0 28) x3.toNatClampNeg).toNatClampNeg)) (gF (sI h (gF h r0 36) (gI h r0 35).toNatClampNeg (gI h (gF h r0 12) (gI h (gF h r0 28) x3.toNatClampNeg).toNatClampNeg)) r0 13) (gI (sI h (gF h r0 36) (gI h r0 35).toNatClampNeg (gI h (gF h r0 12) (gI h (gF h r0 28) x3.toNatClampNeg).toNatClampNeg)) (gF (sI h (gF h r0 36) (gI h r0 35).toNatClampNeg (gI h (gF h r0 12) (gI h (gF h r0 28) x3.toNatClampNeg).toNatClampNeg)) r0 28) x3.toNatClampNeg).toNatClampNeg)) (gF (sI (sI h (gF h r0 36) (gI h r0 35).toNatClampNeg (gI h (gF h r0 12) (gI h (gF h r0 28) x3.toNatClampNeg).toNatClampNeg)) (gF (sI h (gF h r0 36) (gI h r0 35).toNatClampNeg (gI h (gF h r0 12) (gI h (gF h r0 28) x3.toNatClampNeg).toNatClampNeg)) r0 37) (gI (sI h (gF h r0 36) (gI h r0 35).toNatClampNeg (gI h (gF h r0 12) (gI h (gF h r0 28) x3.toNatClampNeg).toNatClampNeg)) r0 35).toNatClampNeg (gI (sI h (gF h r0 36) (gI h r0 35).toNatClampNeg (gI h (gF h r0 12) (gI h (gF h r0 28) x3.toNatClampNeg).toNatClampNeg)) (gF (sI h (gF h r0 36) (gI h r0 35).toNatClampNeg (gI h (gF h r0 12) (gI h (gF h r0 28) x3.toNatClampNeg).toNatClampNeg)) r0 13) (gI (sI h (gF h r0 36) (gI h r0 35).toNatClampNeg (gI h (gF h r0 12) (gI h (gF h r0 28) x3.toNatClampNeg).toNatClampNeg)) (gF (sI h (gF h r0 36) (gI h r0 35).toNatClampNeg (gI h (gF h r0 12) (gI h (gF h r0 28) x3.toNatClampNeg).toNatClampNeg)) r0 28) x3.toNatClampNeg).toNatClampNeg)) r0 38) (gI (sI (sI h (gF h r0 36) (gI h r0 35).toNatClampNeg (gI h (gF h r0 12) (gI h (gF h r0 28) x3.toNatClampNeg).toNatClampNeg)) (gF (sI h (gF h r0 36) (gI h r0 35).toNatClampNeg (gI h (gF h r0 12) (gI h (gF h r0 28) x3.toNatClampNeg).toNatClampNeg)) r0 37) (gI (sI h (gF h r0 36) (gI h r0 35).toNatClampNeg (gI h (gF h r0 12) (gI h (gF h r0 28) x3.toNatClampNeg).toNatClampNeg)) r0 35).toNatClampNeg (gI (sI h (gF h r0 36) (gI h r0 35).toNatClampNeg (gI h (gF h r0 12) (gI h (gF h r0 28) x3.toNatClampNeg).toNatClampNeg)) (gF (sI h (gF h r0 36) (gI h r0 35).toNatClampNeg (gI h (gF h r0 12) (gI h (gF h r0 28) x3.toNatClampNeg).toNatClampNeg)) r0 13) (gI (sI h (gF h r0 36) (gI h r0 35).toNatClampNeg (gI h (gF h r0 12) (gI h (gF h r0 28) x3.toNatClampNeg).toNatClampNeg)) (gF (sI h (gF h r0 36) (gI h r0 35).toNatClampNeg (gI h (gF h r0 12) (gI h (gF h r0 28) x3.toNatClampNeg).toNatClampNeg)) r0 28) x3.toNatClampNeg).toNatClampNeg)) r0 35).toNatClampNeg (gI (sI (sI h (gF h r0 36) (gI h r0 35).toNatClampNeg (gI h (gF h r0 12) (gI h (gF h r0 28) x3.toNatClampNeg).toNatClampNeg)) (gF (sI h (gF h r0 36) (gI h r0 35).toNatClampNeg (gI h (gF h r0 12) (gI h (gF h r0 28) x3.toNatClampNeg).toNatClampNeg)) r0 37) (gI (sI h (gF h r0 36) (gI h r0 35).toNatClampNeg (gI h (gF h r0 12) (gI h (gF h r0 28) x3.toNatClampNeg).toNatClampNeg)) r0 35).toNatClampNeg (gI (sI h (gF h r0 36) (gI h r0 35).toNatClampNeg (gI h (gF h r0 12) (gI h (gF h r0 28) x3.toNatClampNeg).toNatClampNeg)) (gF (sI h (gF h r0 36) (gI h r0 35).toNatClampNeg (gI h (gF h r0 12) (gI h (gF h r0 28) x3.toNatClampNeg).toNatClampNeg)) r0 13) (gI (sI h (gF h r0 36) (gI h r0 35).toNatClampNeg (gI h (gF h r0 12) (gI h (gF h r0 28) x3.toNatClampNeg).toNatClampNeg)) (gF (sI h (gF h r0 36) (gI h r0 35).toNatClampNeg (gI h (gF h r0 12) (gI h (gF h r0 28) x3.toNatClampNeg).toNatClampNeg)) r0 28) x3.toNatClampNeg).toNatClampNeg)) (gF (sI (sI h (gF h r0 36) (gI h r0 35).toNatClampNeg (gI h (gF h r0 12) (gI h (gF h r0 28) x3.toNatClampNeg).toNatClampNeg)) (gF (sI h (gF h r0 36) (gI h r0 35).toNatClampNeg (gI h (gF h r0 12) (gI h (gF h r0 28) x3.toNatClampNeg).toNatClampNeg)) r0 37) (gI (sI h (gF h r0 36) (gI h r0 35).toNatClampNeg (gI h (gF h r0 12) (gI h (gF h r0 28) x3.toNatClampNeg).toNatClampNeg)) r0 35).toNatClampNeg (gI (sI h (gF h r0 36) (gI h r0 35).toNatClampNeg (gI h (gF h r0 12) (gI h (gF h r0 28) x3.toNatClampNeg).toNatClampNeg)) (gF (sI h (gF h r0 36) (gI h r0 35).toNatClampNeg (gI h (gF h r0 12) (gI h (gF h r0 28) x3.toNatClampNeg).toNatClampNeg)) r0 13) (gI (sI h (gF h r0 36) (gI h r0 35).toNatClampNeg (gI h (gF h r0 12) (gI h (gF h r0 28) x3.toNatClampNeg).toNatClampNeg)) (gF (sI h (gF h r0 36) (gI h r0 35).toNatClampNeg (gI h (gF h r0 12) (gI h (gF h r0 28) x3.toNatClampNeg).toNatClampNeg)) r0 28) x3.toNatClampNeg).toNatClampNeg)) r0 29) x3.toNatClampNeg)) r0 30))) ∧ ((isA h 0 (gF (sI (sI (sI h (gF h r0 36) (gI h r0 35).toNatClampNeg (gI h (gF h r0 12) (gI h (gF h r0 28) x3.toNatClampNeg).toNatClampNeg)) (gF (sI h (gF h r0 36) (gI h r0 35).toNatClampNeg (gI h (gF h r0 12) (gI h (gF h r0 28) x3.toNatClampNeg).toNatClampNeg)) r0 37) (gI (sI h (gF h r0 36) (gI h r0 35).toNatClampNeg (gI h (gF h r0 12) (gI h (gF h r0 28) x3.toNatClampNeg).toNatClampNeg)) r0 35).toNatClampNeg (gI (sI h (gF h r0 36) (gI h r0 35).toNatClampNeg (gI h (gF h r0 12) (gI h (gF h r0 28) x3.toNatClampNeg).toNatClampNeg)) (gF (sI h (gF h r0 36) (gI h r0 35).toNatClampNeg (gI h (gF h r0 12) (gI h (gF h r0 28) x3.toNatClampNeg).toNatClampNeg)) r0 13) (gI (sI h (gF h r0 36) (gI h r0 35).toNatClampNeg (gI h (gF h r0 12) (gI h (gF h r0 28) x3.toNatClampNeg).toNatClampNeg)) (gF (sI h (gF h r0 36) (gI h r0 35).toNatClampNeg (gI h (gF h r0 12) (gI h (gF h r0 28) x3.toNatClampNeg).toNatClampNeg)) r0 28) x3.toNatClampNeg).toNatClampNeg)) (gF (sI (sI h (gF h r0 36) (gI h r0 35).toNatClampNeg (gI h (gF h r0 12) (gI h (gF h r0 28) x3.toNatClampNeg).toNatClampNeg)) (gF (sI h (gF h r0 36) (gI h r0 35).toNatClampNeg (gI h (gF h r0 12) (gI h (gF h r0 28) x3.toNatClampNeg).toNatClampNeg)) r0 37) (gI (sI h (gF h r0 36) (gI h r0 35).toNatClampNeg (gI h (gF h r0 12) (gI h (gF h r0 28) x3.toNatClampNeg).toNatClampNeg)) r0 35).toNatClampNeg (gI (sI h (gF h r0 36) (gI h r0 35).toNatClampNeg (gI h (gF h r0 12) (gI h (gF h r0 28) x3.toNatClampNeg).toNatClampNeg)) (gF (sI h (gF h r0 36) (gI h r0 35).toNatClampNeg (gI h (gF h r0 12) (gI h (gF h r0 28) x3.toNatClampNeg).toNatClampNeg)) r0 13) (gI (sI h (gF h r0 36) (gI h r0 35).toNatClampNeg (gI h (gF h r0 12) (gI h (gF h r0 28) x3.toNatClampNeg).toNatClampNeg)) (gF (sI h (gF h r0 36) (gI h r0 35).toNatClampNeg (gI h (gF h r0 12) (gI h (gF h r0 28) x3.toNatClampNeg).toNatClampNeg)) r0 28) x3.toNatClampNeg).toNatClampNeg)) r0 38) (gI (sI (sI h (gF h r0 36) (gI h r0 35).toNatClampNeg (gI h (gF h r0 12) (gI h (gF h r0 28) x3.toNatClampNeg).toNatClampNeg)) (gF (sI h (gF h r0 36) (gI h r0 35).toNatClampNeg (gI h (gF h r0 12) (gI h (gF h r0 28) x3.toNatClampNeg).toNatClampNeg)) r0 37) (gI (sI h (gF h r0 36) (gI h r0 35).toNatClampNeg (gI h (gF h r0 12) (gI h (gF h r0 28) x3.toNatClampNeg).toNatClampNeg)) r0 35).toNatClampNeg (gI (sI h (gF h r0 36) (gI h r0 35).toNatClampNeg (gI h (gF h r0 12) (gI h (gF h r0 28) x3.toNatClampNeg).toNatClampNeg)) (gF (sI h (gF h r0 36) (gI h r0 35).toNatClampNeg (gI h (gF h r0 12) (gI h (gF h r0 28) x3.toNatClampNeg).toNatClampNeg)) r0 13) (gI (sI h (gF h r0 36) (gI h r0 35).toNatClampNeg (gI h (gF h r0 12) (gI h (gF h r0 28) x3.toNatClampNeg).toNatClampNeg)) (gF (sI h (gF h r0 36) (gI h r0 35).toNatClampNeg (gI h (gF h r0 12) (gI h (gF h r0 28) x3.toNatClampNeg).toNatClampNeg)) r0 28) x3.toNatClampNeg).toNatClampNeg)) r0 35).toNatClampNeg (gI (sI (sI h (gF h r0 36) (gI h r0 35).toNatClampNeg (gI h (gF h r0 12) (gI h (gF h r0 28) x3.toNatClampNeg).toNatClampNeg)) (gF (sI h (gF h r0 36) (gI h r0 35).toNatClampNeg (gI h (gF h r0 12) (gI h (gF h r0 28) x3.toNatClampNeg).toNatClampNeg)) r0 37) (gI (sI h (gF h r0 36) (gI h r0 35).toNatClampNeg (gI h (gF h r0 12) (gI h (gF h r0 28) x3.toNatClampNeg).toNatClampNeg)) r0 35).toNatClampNeg (gI (sI h (gF h r0 36) (gI h r0 35).toNatClampNeg (gI h (gF h r0 12) (gI h (gF h r0 28) x3.toNatClampNeg).toNatClampNeg)) (gF (sI h (gF h r0 36) (gI h r0 35).toNatClampNeg (gI h (gF h r0 12) (gI h (gF h r0 28) x3.toNatClampNeg).toNatClampNeg)) r0 13) (gI (sI h (gF h r0 36) (gI h r0 35).toNatClampNeg (gI h (gF h r0 12) (gI h (gF h r0 28) x3.toNatClampNeg).toNatClampNeg)) (gF (sI h (gF h r0 36) (gI h r0 35).toNatClampNeg (gI h (gF h r0 12) (gI h (gF h r0 28) x3.toNatClampNeg).toNatClampNeg)) r0 28) x3.toNatClampNeg).toNatClampNeg)) (gF (sI (sI h (gF h r0 36) (gI h r0 35).toNatClampNeg (gI h (gF h r0 12) (gI h (gF h r0 28) x3.toNatClampNeg).toNatClampNeg)) (gF (sI h (gF h r0 36) (gI h r0 35).toNatClampNeg (gI h (gF h r0 12) (gI h (gF h r0 28) x3.toNatClampNeg).toNatClampNeg)) r0 37) (gI (sI h (gF h r0 36) (gI h r0 35).toNatClampNeg (gI h (gF h r0 12) (gI h (gF h r0 28) x3.toNatClampNeg).toNatClampNeg)) r0 35).toNatClampNeg (gI (sI h (gF h r0 36) (gI h r0 35).toNatClampNeg (gI h (gF h r0 12) (gI h (gF h r0 28) x3.toNatClampNeg).toNatClampNeg)) (gF (sI h (gF h r0 36) (gI h r0 35).toNatClampNeg (gI h (gF h r0 12) (gI h (gF h r0 28) x3.toNatClampNeg).toNatClampNeg)) r0 13) (gI (sI h (gF h r0 36) (gI h r0 35).toNatClampNeg (gI h (gF h r0 12) (gI h (gF h r0 28) x3.toNatClampNeg).toNatClampNeg)) (gF (sI h (gF h r0 36) (gI h r0 35).toNatClampNeg (gI h (gF h r0 12) (gI h (gF h r0 28) x3.toNatClampNeg).toNatClampNeg)) r0 28) x3.toNatClampNeg).toNatClampNeg)) r0 29) x3.toNatClampNeg)) r0 39)) ∧ ((vp_in (gI (sI (sI (sI h (gF h r0 36) (gI h r0 35).toNatClampNeg (gI h (gF h r0 12) (gI h (gF h r0 28) x3.toNatClampNeg).toNatClampNeg)) (gF (sI h (gF h r0 36) (gI h r0 35).toNatClampNeg (gI h (gF h r0 12) (gI h (gF h r0 28) x3.toNatClampNeg).toNatClampNeg)) r0 37) (gI (sI h (gF h r0 36) (gI h r0 35).toNatClampNeg (gI h (gF h r0 12) (gI h (gF h r0 28) x3.toNatClampNeg).toNatClampNeg)) r0 35).toNatClampNeg (gI (sI h (gF h r0 36) (gI h r0 35).toNatClampNeg (gI h (gF h r0 12) (gI h (gF h r0 28) x3.toNatClampNeg).toNatClampNeg)) (gF (sI h (gF h r0 36) (gI h r0 35).toNatClampNeg (gI h (gF h r0 12) (gI h (gF h r0 28) x3.toNatClampNeg).toNatClampNeg)) r0 13) (gI (sI h (gF h r0 36) (gI h r0 35).toNatClampNeg (gI h (gF h r0 12) (gI h (gF h r0 28) x3.toNatClampNeg).toNatClampNeg)) (gF (sI h (gF h r0 36) (gI h r0 35).toNatClampNeg (gI h (gF h r0 12) (gI h (gF h r0 28) x3.toNatClampNeg).toNatClampNeg)) r0 28) x3.toNatClampNeg).toNatClampNeg)) (gF (sI (sI h (gF h r0 36) (gI h r0 35).toNatClampNeg (gI h (gF h r0 12) (gI h (gF h r0 28) x3.toNatClampNeg).toNatClampNeg)) (gF (sI h (gF h r0 36) (gI h r0 35).toNatClampNeg (gI h (gF h r0 12) (gI h (gF h r0 28) x3.toNatClampNeg).toNatClampNeg)) r0 37) (gI (sI h (gF h r0 36) (gI h r0 35).toNatClampNeg (gI h (gF h r0 12) (gI h (gF h r0 28) x3.toNatClampNeg).toNatClampNeg)) r0 35).toNatClampNeg (gI (sI h (gF h r0 36) (gI h r0 35).toNatClampNeg (gI h (gF h r0 12) (gI h (gF h r0 28) x3.toNatClampNeg).toNatClampNeg)) (gF (sI h (gF h r0 36) (gI h r0 35).toNatClampNeg (gI h (gF h r0 12) (gI h (gF h r0 28) x3.toNatClampNeg).toNatClampNeg)) r0 13) (gI (sI h (gF h r0 36) (gI h r0 35).toNatClampNeg (gI h (gF h r0 12) (gI h (gF h r0 28) x3.toNatClampNeg).toNatClampNeg)) (gF (sI h (gF h r0 36) (gI h r0 35).toNatClampNeg (gI h (gF h r0 12) (gI h (gF h r0 28) x3.toNatClampNeg).toNatClampNeg)) r0 28) x3.toNatClampNeg).toNatClampNeg)) r0 38) (gI (sI (sI h (gF h r0 36) (gI h r0 35).toNatClampNeg (gI h (gF h r0 12) (gI h (gF h r0 28) x3.toNatClampNeg).toNatClampNeg)) (gF (sI h (gF h r0 36) (gI h r0 35).toNatClampNeg (gI h (gF h r0 12) (gI h (gF h r0 28) x3.toNatClampNeg).toNatClampNeg)) r0 37) (gI (sI h (gF h r0 36) (gI h r0 35).toNatClampNeg (gI h (gF h r0 12) (gI h (gF h r0 28) x3.toNatClampNeg).toNatClampNeg)) r0 35).toNatClampNeg (gI (sI h (gF h r0 36) (gI h r0 35).toNatClampNeg (gI h (gF h r0 12) (gI h (gF h r0 28) x3.toNatClampNeg).toNatClampNeg)) (gF (sI h (gF h r0 36) (gI h r0 35).toNatClampNeg (gI h (gF h r0 12) (gI h (gF h r0 28) x3.toNatClampNeg).toNatClampNeg)) r0 13) (gI (sI h (gF h r0 36) (gI h r0 35).toNatClampNeg (gI h (gF h r0 12) (gI h (gF h r0 28) x3.toNatClampNeg).toNatClampNeg)) (gF (sI h (gF h r0 36) (gI h r0 35).toNatClampNeg (gI h (gF h r0 12) (gI h (gF h r0 28) x3.toNatClampNeg).toNatClampNeg)) r0 28) x3.toNatClampNeg).toNatClampNeg)) r0 35).toNatClampNeg (gI (sI (sI h (gF h r0 36) (gI h r0 35).toNatClampNeg (gI h (gF h r0 12) (gI h (gF h r0 28) x3.toNatClampNeg).toNatClampNeg)) (gF (sI h (gF h r0 36) (gI h r0 35).toNatClampNeg (gI h (gF h r0 12) (gI h (gF h r0 28) x3.toNatClampNeg).toNatClampNeg)) r0 37) (gI (sI h (gF h r0 36) (gI h r0 35).toNatClampNeg (gI h (gF h r0 12) (gI h (gF h r0 28) x3.toNatClampNeg).toNatClampNeg)) r0 35).toNatClampNeg (gI (sI h (gF h r0 36) (gI h r0 35).toNatClampNeg (gI h (gF h r0 12) (gI h (gF h r0 28) x3.toNatClampNeg).toNatClampNeg)) (gF (sI h (gF h r0 36) (gI h r0 35).toNatClampNeg (gI h (gF h r0 12) (gI h (gF h r0 28) x3.toNatClampNeg).toNatClampNeg)) r0 13) (gI (sI h (gF h r0 36) (gI h r0 35).toNatClampNeg (gI h (gF h r0 12) (gI h (gF h r0 28) x3.toNatClampNeg).toNatClampNeg)) (gF (sI h (gF h r0 36) (gI h r0 35).toNatClampNeg (gI h (gF h r0 12) (gI h (gF h r0 28) x3.toNatClampNeg).toNatClampNeg)) r0 28) x3.toNatClampNeg).toNatClampNeg)) (gF (sI (sI h (gF h r0 36) (gI h r0 35).toNatClampNeg (gI h (gF h r0 12) (gI h (gF h r0 28) x3.toNatClampNeg).toNatClampNeg)) (gF (sI h (gF h r0 36) (gI h r0 35).toNatClampNeg (gI h (gF h r0 12) (gI h (gF h r0 28) x3.toNatClampNeg).toNatClampNeg)) r0 37) (gI (sI h (gF h r0 36) (gI h r0 35).toNatClampNeg (gI h (gF h r0 12) (gI h (gF h r0 28) x3.toNatClampNeg).toNatClampNeg)) r0 35).toNatClampNeg (gI (sI h (gF h r0 36) (gI h r0 35).toNatClampNeg (gI h (gF h r0 12) (gI h (gF h r0 28) x3.toNatClampNeg).toNatClampNeg)) (gF (sI h (gF h r0 36) (gI h r0 35).toNatClampNeg (gI h (gF h r0 12) (gI h (gF h r0 28) x3.toNatClampNeg).toNatClampNeg)) r0 13) (gI (sI h (gF h r0 36) (gI h r0 35).toNatClampNeg (gI h (gF h r0 12) (gI h (gF h r0 28) x3.toNatClampNeg).toNatClampNeg)) (gF (sI h (gF h r0 36) (gI h r0 35).toNatClampNeg (gI h (gF h r0 12) (gI h (gF h r0 28) x3.toNatClampNeg).toNatClampNeg)) r0 28) x3.toNatClampNeg).toNatClampNeg)) r0 29) x3.toNatClampNeg)) r0 35) (ln (gF (sI (sI (sI h (gF h r0 36) (gI h r0 35).toNatClampNeg (gI h (gF h r0 12) (gI h (gF h r0 28) x3.toNatClampNeg).toNatClampNeg)) (gF (sI h (gF h r0 36) (gI h r0 35).toNatClampNeg (gI h (gF h r0 12) (gI h (gF h r0 28) x3.toNatClampNeg).toNatClampNeg)) r0 37) (gI (sI h (gF h r0 36) (gI h r0 35).toNatClampNeg (gI h (gF h r0 12) (gI h (gF h r0 28) x3.toNatClampNeg).toNatClampNeg)) r0 35).toNatClampNeg (gI (sI h (gF h r0 36) (gI h r0 35).toNatClampNeg (gI h (gF h r0 12) (gI h (gF h r0 28) x3.toNatClampNeg).toNatClampNeg)) (gF (sI h (gF h r0 36) (gI h r0 35).toNatClampNeg (gI h (gF h r0 12) (gI h (gF h r0 28) x3.toNatClampNeg).toNatClampNeg)) r0 13) (gI (sI h (gF h r0 36) (gI h r0 35).toNatClampNeg (gI h (gF h r0 12) (gI h (gF h r0 28) x3.toNatClampNeg).toNatClampNeg)) (gF (sI h (gF h r0 36) (gI h r0 35).toNatClampNeg (gI h (gF h r0 12) (gI h (gF h r0 28) x3.toNatClampNeg).toNatClampNeg)) r0 28) x3.toNatClampNeg).toNatClampNeg)) (gF (sI (sI h (gF h r0 36) (gI h r0 35).toNatClampNeg (gI h (gF h r0 12) (gI h (gF h r0 28) x3.toNatClampNeg).toNatClampNeg)) (gF (sI h (gF h r0 36) (gI h r0 35).toNatClampNeg (gI h (gF h r0 12) (gI h (gF h r0 28) x3.toNatClampNeg).toNatClampNeg)) r0 37) (gI (sI h (gF h r0 36) (gI h r0 35).toNatClampNeg (gI h (gF h r0 12) (gI h (gF h r0 28) x3.toNatClampNeg).toNatClampNeg)) r0 35).toNatClampNeg (gI (sI h (gF h r0 36) (gI h r0 35).toNatClampNeg (gI h (gF h r0 12) (gI h (gF h r0 28) x3.toNatClampNeg).toNatClampNeg)) (gF (sI h (gF h r0 36) (gI h r0 35).toNatClampNeg (gI h (gF h r0 12) (gI h (gF h r0 28) x3.toNatClampNeg).toNatClampNeg)) r0 13) (gI (sI h (gF h r0 36) (gI h r0 35).toNatClampNeg (gI h (gF h r0 12) (gI h (gF h r0 28) x3.toNatClampNeg).toNatClampNeg)) (gF (sI h (gF h r0 36) (gI h r0 35).toNatClampNeg (gI h (gF h r0 12) (gI h (gF h r0 28) x3.toNatClampNeg).toNatClampNeg)) r0 28) x3.toNatClampNeg).toNatClampNeg)) r0 38) (gI (sI (sI h (gF h r0 36) (gI h r0 35).toNatClampNeg (gI h (gF h r0 12) (gI h (gF h r0 28) x3.toNatClampNeg).toNatClampNeg)) (gF (sI h (gF h r0 36) (gI h r0 35).toNatClampNeg (gI h (gF h r0 12) (gI h (gF h r0 28) x3.toNatClampNeg).toNatClampNeg)) r0 37) (gI (sI h (gF h r0 36) (gI h r0 35).toNatClampNeg (gI h (gF h r0 12) (gI h (gF h r0 28) x3.toNatClampNeg).toNatClampNeg)) r0 35).toNatClampNeg (gI (sI h (gF h r0 36) (gI h r0 35).toNatClampNeg (gI h (gF h r0 12) (gI h (gF h r0 28) x3.toNatClampNeg).toNatClampNeg)) (gF (sI h (gF h r0 36) (gI h r0 35).toNatClampNeg (gI h (gF h r0 12) (gI h (gF h r0 28) x3.toNatClampNeg).toNatClampNeg)) r0 13) (gI (sI h (gF h r0 36) (gI h r0 35).toNatClampNeg (gI h (gF h r0 12) (gI h (gF h r0 28) x3.toNatClampNeg).toNatClampNeg)) (gF (sI h (gF h r0 36) (gI h r0 35).toNatClampNeg (gI h (gF h r0 12) (gI h (gF h r0 28) x3.toNatClampNeg).toNatClampNeg)) r0 28) x3.toNatClampNeg).toNatClampNeg)) r0 35).toNatClampNeg (gI (sI (sI h (gF h r0 36) (gI h r0 35).toNatClampNeg (gI h (gF h r0 12) (gI h (gF h r0 28) x3.toNatClampNeg).toNatClampNeg)) (gF (sI h (gF h r0 36) (gI h r0 35).toNatClampNeg (gI h (gF h r0 12) (gI h (gF h r0 28) x3.toNatClampNeg).toNatClampNeg)) r0 37) (gI (sI h (gF h r0 36) (gI h r0 35).toNatClampNeg (gI h (gF h r0 12) (gI h (gF h r0 28) x3.toNatClampNeg).toNatClampNeg)) r0 35).toNatClampNeg (gI (sI h (gF h r0 36) (gI h r0 35).toNatClampNeg (gI h (gF h r0 12) (gI h (gF h r0 28) x3.toNatClampNeg).toNatClampNeg)) (gF (sI h (gF h r0 36) (gI h r0 35).toNatClampNeg (gI h (gF h r0 12) (gI h (gF h r0 28) x3.toNatClampNeg).toNatClampNeg)) r0 13) (gI (sI h (gF h r0 36) (gI h r0 35).toNatClampNeg (gI h (gF h r0 12) (gI h (gF h r0 28) x3.toNatClampNeg).toNatClampNeg)) (gF (sI h (gF h r0 36) (gI h r0 35).toNatClampNeg (gI h (gF h r0 12) (gI h (gF h r0 28) x3.toNatClampNeg).toNatClampNeg)) r0 28) x3.toNatClampNeg).toNatClampNeg)) (gF (sI (sI h (gF h r0 36) (gI h r0 35).toNatClampNeg (gI h (gF h r0 12) (gI h (gF h r0 28) x3.toNatClampNeg).toNatClampNeg)) (gF (sI h (gF h r0 36) (gI h r0 35).toNatClampNeg (gI h (gF h r0 12) (gI h (gF h r0 28) x3.toNatClampNeg).toNatClampNeg)) r0 37) (gI (sI h (gF h r0 36) (gI h r0 35).toNatClampNeg (gI h (gF h r0 12) (gI h (gF h r0 28) x3.toNatClampNeg).toNatClampNeg)) r0 35).toNatClampNeg (gI (sI h (gF h r0 36) (gI h r0 35).toNatClampNeg (gI h (gF h r0 12) (gI h (gF h r0 28) x3.toNatClampNeg).toNatClampNeg)) (gF (sI h (gF h r0 36) (gI h r0 35).toNatClampNeg (gI h (gF h r0 12) (gI h (gF h r0 28) x3.toNatClampNeg).toNatClampNeg)) r0 13) (gI (sI h (gF h r0 36) (gI h r0 35).toNatClampNeg (gI h (gF h r0 12) (gI h (gF h r0 28) x3.toNatClampNeg).toNatClampNeg)) (gF (sI h (gF h r0 36) (gI h r0 35).toNatClampNeg (gI h (gF h r0 12) (gI h (gF h r0 28) x3.toNatClampNeg).toNatClampNeg)) r0 28) x3.toNatClampNeg).toNatClampNeg)) r0 29) x3.toNatClampNeg)) r0 39))) ∧ (Rr mX12_ask 0 0 111 [(0, .ref r0), (1, .int x1), (2, .int x2), (3, .int x3), (4, .int 0)] [] (sI (sI (sI (sI h (gF h r0 36) (gI h r0 35).toNatClampNeg (gI h (gF h r0 12) (gI h (gF h r0 28) x3.toNatClampNeg).toNatClampNeg)) (gF (sI h (gF h r0 36) (gI h r0 35).toNatClampNeg (gI h (gF h r0 12) (gI h (gF h r0 28) x3.toNatClampNeg).toNatClampNeg)) r0 37) (gI (sI h (gF h r0 36) (gI h r0 35).toNatClampNeg (gI h (gF h r0 12) (gI h (gF h r0 28) x3.toNatClampNeg).toNatClampNeg)) r0 35).toNatClampNeg (gI (sI h (gF h r0 36) (gI h r0 35).toNatClampNeg (gI h (gF h r0 12) (gI h (gF h r0 28) x3.toNatClampNeg).toNatClampNeg)) (gF (sI h (gF h r0 36) (gI h r0 35).toNatClampNeg (gI h (gF h r0 12) (gI h (gF h r0 28) x3.toNatClampNeg).toNatClampNeg)) r0 13) (gI (sI h (gF h r0 36) (gI h r0 35).toNatClampNeg (gI h (gF h r0 12) (gI h (gF h r0 28) x3.toNatClampNeg).toNatClampNeg)) (gF (sI h (gF h r0 36) (gI h r0 35).toNatClampNeg (gI h (gF h r0 12) (gI h (gF h r0 28) x3.toNatClampNeg).toNatClampNeg)) r0 28) x3.toNatClampNeg).toNatClampNeg)) (gF (sI (sI h (gF h r0 36) (gI h r0 35).toNatClampNeg (gI h (gF h r0 12) (gI h (gF h r0 28) x3.toNatClampNeg).toNatClampNeg)) (gF (sI h (gF h r0 36) (gI h r0 35).toNatClampNeg (gI h (gF h r0 12) (gI h (gF h r0 28) x3.toNatClampNeg).toNatClampNeg)) r0 37) (gI (sI h (gF h r0 36) (gI h r0 35).toNatClampNeg (gI h (gF h r0 12) (gI h (gF h r0 28) x3.toNatClampNeg).toNatClampNeg)) r0 35).toNatClampNeg (gI (sI h (gF h r0 36) (gI h r0 35).toNatClampNeg (gI h (gF h r0 12) (gI h (gF h r0 28) x3.toNatClampNeg).toNatClampNeg)) (gF (sI h (gF h r0 36) (gI h r0 35).toNatClampNeg (gI h (gF h r0 12) (gI h (gF h r0 28) x3.toNatClampNeg).toNatClampNeg)) r0 13) (gI (sI h (gF h r0 36) (gI h r0 35).toNatClampNeg (gI h (gF h r0 12) (gI h (gF h r0 28) x3.toNatClampNeg).toNatClampNeg)) (gF (sI h (gF h r0 36) (gI h r0 35).toNatClampNeg (gI h (gF h r0 12) (gI h (gF h r0 28) x3.toNatClampNeg).toNatClampNeg)) r0 28) x3.toNatClampNeg).toNatClampNeg)) r0 38) (gI (sI (sI h (gF h r0 36) (gI h r0 35).toNatClampNeg (gI h (gF h r0 12) (gI h (gF h r0 28) x3.toNatClampNeg).toNatClampNeg)) (gF (sI h (gF h r0 36) (gI h r0 35).toNatClampNeg (gI h (gF h r0 12) (gI h (gF h r0 28) x3.toNatClampNeg).toNatClampNeg)) r0 37) (gI (sI h (gF h r0 36) (gI h r0 35).toNatClampNeg (gI h (gF h r0 12) (gI h (gF h r0 28) x3.toNatClampNeg).toNatClampNeg)) r0 35).toNatClampNeg (gI (sI h (gF h r0 36) (gI h r0 35).toNatClampNeg (gI h (gF h r0 12) (gI h (gF h r0 28) x3.toNatClampNeg).toNatClampNeg)) (gF (sI h (gF h r0 36) (gI h r0 35).toNatClampNeg (gI h (gF h r0 12) (gI h (gF h r0 28) x3.toNatClampNeg).toNatClampNeg)) r0 13) (gI (sI h (gF h r0 36) (gI h r0 35).toNatClampNeg (gI h (gF h r0 12) (gI h (gF h r0 28) x3.toNatClampNeg).toNatClampNeg)) (gF (sI h (gF h r0 36) (gI h r0 35).toNatClampNeg (gI h (gF h r0 12) (gI h (gF h r0 28) x3.toNatClampNeg).toNatClampNeg)) r0 28) x3.toNatClampNeg).toNatClampNeg)) r0 35).toNatClampNeg (gI (sI (sI h (gF h r0 36) (gI h r0 35).toNatClampNeg (gI h (gF h r0 12) (gI h (gF h r0 28) x3.toNatClampNeg).toNatClampNeg)) (gF (sI h (gF h r0 36) (gI h r0 35).toNatClampNeg (gI h (gF h r0 12) (gI h (gF h r0 28) x3.toNatClampNeg).toNatClampNeg)) r0 37) (gI (sI h (gF h r0 36) (gI h r0 35).toNatClampNeg (gI h (gF h r0 12) (gI h (gF h r0 28) x3.toNatClampNeg).toNatClampNeg)) r0 35).toNatClampNeg (gI (sI h (gF h r0 36) (gI h r0 35).toNatClampNeg (gI h (gF h r0 12) (gI h (gF h r0 28) x3.toNatClampNeg).toNatClampNeg)) (gF (sI h (gF h r0 36) (gI h r0 35).toNatClampNeg (gI h (gF h r0 12) (gI h (gF h r0 28) x3.toNatClampNeg).toNatClampNeg)) r0 13) (gI (sI h (gF h r0 36) (gI h r0 35).toNatClampNeg (gI h (gF h r0 12) (gI h (gF h r0 28) x3.toNatClampNeg).toNatClampNeg)) (gF (sI h (gF h r0 36) (gI h r0 35).toNatClampNeg (gI h (gF h r0 12) (gI h (gF h r0 28) x3.toNatClampNeg).toNatClampNeg)) r0 28) x3.toNatClampNeg).toNatClampNeg)) (gF (sI (sI h (gF h r0 36) (gI h r0 35).toNatClampNeg (gI h (gF h r0 12) (gI h (gF h r0 28) x3.toNatClampNeg).toNatClampNeg)) (gF (sI h (gF h r0 36) (gI h r0 35).toNatClampNeg (gI h (gF h r0 12) (gI h (gF h r0 28) x3.toNatClampNeg).toNatClampNeg)) r0 37) (gI (sI h (gF h r0 36) (gI h r0 35).toNatClampNeg (gI h (gF h r0 12) (gI h (gF h r0 28) x3.toNatClampNeg).toNatClampNeg)) r0 35).toNatClampNeg (gI (sI h (gF h r0 36) (gI h r0 35).toNatClampNeg (gI h (gF h r0 12) (gI h (gF h r0 28) x3.toNatClampNeg).toNatClampNeg)) (gF (sI h (gF h r0 36) (gI h r0 35).toNatClampNeg (gI h (gF h r0 12) (gI h (gF h r0 28) x3.toNatClampNeg).toNatClampNeg)) r0 13) (gI (sI h (gF h r0 36) (gI h r0 35).toNatClampNeg (gI h (gF h r0 12) (gI h (gF h r0 28) x3.toNatClampNeg).toNatClampNeg)) (gF (sI h (gF h r0 36) (gI h r0 35).toNatClampNeg (gI h (gF h r0 12) (gI h (gF h r0 28) x3.toNatClampNeg).toNatClampNeg)) r0 28) x3.toNatClampNeg).toNatClampNeg)) r0 29) x3.toNatClampNeg)) (gF (sI (sI (sI h (gF h r0 36) (gI h r0 35).toNatClampNeg (gI h (gF h r0 12) (gI h (gF h r0 28) x3.toNatClampNeg).toNatClampNeg)) (gF (sI h (gF h r0 36) (gI h r0 35).toNatClampNeg (gI h (gF h r0 12) (gI h (gF h r0 28) x3.toNatClampNeg).toNatClampNeg)) r0 37) (gI (sI h (gF h r0 36) (gI h r0 35).toNatClampNeg (gI h (gF h r0 12) (gI h (gF h r0 28) x3.toNatClampNeg).toNatClampNeg)) r0 35).toNatClampNeg (gI (sI h (gF h r0 36) (gI h r0 35).toNatClampNeg (gI h (gF h r0 12) (gI h (gF h r0 28) x3.toNatClampNeg).toNatClampNeg)) (gF (sI h (gF h r0 36) (gI h r0 35).toNatClampNeg (gI h (gF h r0 12) (gI h (gF h r0 28) x3.toNatClampNeg).toNatClampNeg)) r0 13) (gI (sI h (gF h r0 36) (gI h r0 35).toNatClampNeg (gI h (gF h r0 12) (gI h (gF h r0 28) x3.toNatClampNeg).toNatClampNeg)) (gF (sI h (gF h r0 36) (gI h r0 35).toNatClampNeg (gI h (gF h r0 12) (gI h (gF h r0 28) x3.toNatClampNeg).toNatClampNeg)) r0 28) x3.toNatClampNeg).toNatClampNeg)) (gF (sI (sI h (gF h r0 36) (gI h r0 35).toNatClampNeg (gI h (gF h r0 12) (gI h (gF h r0 28) x3.toNatClampNeg).toNatClampNeg)) (gF (sI h (gF h r0 36) (gI h r0 35).toNatClampNeg (gI h (gF h r0 12) (gI h (gF h r0 28) x3.toNatClampNeg).toNatClampNeg)) r0 37) (gI (sI h (gF h r0 36) (gI h r0 35).toNatClampNeg (gI h (gF h r0 12) (gI h (gF h r0 28) x3.toNatClampNeg).toNatClampNeg)) r0 35).toNatClampNeg (gI (sI h (gF h r0 36) (gI h r0 35).toNatClampNeg (gI h (gF h r0 12) (gI h (gF h r0 28) x3.toNatClampNeg).toNatClampNeg)) (gF (sI h (gF h r0 36) (gI h r0 35).toNatClampNeg (gI h (gF h r0 12) (gI h (gF h r0 28) x3.toNatClampNeg).toNatClampNeg)) r0 13) (gI (sI h (gF h r0 36) (gI h r0 35).toNatClampNeg (gI h (gF h r0 12) (gI h (gF h r0 28) x3.toNatClampNeg).toNatClampNeg)) (gF (sI h (gF h r0 36) (gI h r0 35).toNatClampNeg (gI h (gF h r0 12) (gI h (gF h r0 28) x3.toNatClampNeg).toNatClampNeg)) r0 28) x3.toNatClampNeg).toNatClampNeg)) r0 38) (gI (sI (sI h (gF h r0 36) (gI h r0 35).toNatClampNeg (gI h (gF h r0 12) (gI h (gF h r0 28) x3.toNatClampNeg).toNatClampNeg)) (gF (sI h (gF h r0 36) (gI h r0 35).toNatClampNeg (gI h (gF h r0 12) (gI h (gF h r0 28) x3.toNatClampNeg).toNatClampNeg)) r0 37) (gI (sI h (gF h r0 36) (gI h r0 35).toNatClampNeg (gI h (gF h r0 12) (gI h (gF h r0 28) x3.toNatClampNeg).toNatClampNeg)) r0 35).toNatClampNeg (gI (sI h (gF h r0 36) (gI h r0 35).toNatClampNeg (gI h (gF h r0 12) (gI h (gF h r0 28) x3.toNatClampNeg).toNatClampNeg)) (gF (sI h (gF h r0 36) (gI h r0 35).toNatClampNeg (gI h (gF h r0 12) (gI h (gF h r0 28) x3.toNatClampNeg).toNatClampNeg)) r0 13) (gI (sI h (gF h r0 36) (gI h r0 35).toNatClampNeg (gI h (gF h r0 12) (gI h (gF h r0 28) x3.toNatClampNeg).toNatClampNeg)) (gF (sI h (gF h r0 36) (gI h r0 35).toNatClampNeg (gI h (gF h r0 12) (gI h (gF h r0 28) x3.toNatClampNeg).toNatClampNeg)) r0 28) x3.toNatClampNeg).toNatClampNeg)) r0 35).toNatClampNeg (gI (sI (sI h (gF h r0 36) (gI h r0 35).toNatClampNeg (gI h (gF h r0 12) (gI h (gF h r0 28) x3.toNatClampNeg).toNatClampNeg)) (gF (sI h (gF h r0 36) (gI h r0 35).toNatClampNeg (gI h (gF h r0 12) (gI h (gF h r0 28) x3.toNatClampNeg).toNatClampNeg)) r0 37) (gI (sI h (gF h r0 36) (gI h r0 35).toNatClampNeg (gI h (gF h r0 12) (gI h (gF h r0 28) x3.toNatClampNeg).toNatClampNeg)) r0 35).toNatClampNeg (gI (sI h (gF h r0 36) (gI h r0 35).toNatClampNeg (gI h (gF h r0 12) (gI h (gF h r0 28) x3.toNatClampNeg).toNatClampNeg)) (gF (sI h (gF h r0 36) (gI h r0 35).toNatClampNeg (gI h (gF h r0 12) (gI h (gF h r0 28) x3.toNatClampNeg).toNatClampNeg)) r0 13) (gI (sI h (gF h r0 36) (gI h r0 35).toNatClampNeg (gI h (gF h r0 12) (gI h (gF h r0 28) x3.toNatClampNeg).toNatClampNeg)) (gF (sI h (gF h r0 36) (gI h r0 35).toNatClampNeg (gI h (gF h r0 12) (gI h (gF h r0 28) x3.toNatClampNeg).toNatClampNeg)) r0 28) x3.toNatClampNeg).toNatClampNeg)) (gF (sI (sI h (gF h r0 36) (gI h r0 35).toNatClampNeg (gI h (gF h r0 12) (gI h (gF h r0 28) x3.toNatClampNeg).toNatClampNeg)) (gF (sI h (gF h r0 36) (gI h r0 35).toNatClampNeg (gI h (gF h r0 12) (gI h (gF h r0 28) x3.toNatClampNeg).toNatClampNeg)) r0 37) (gI (sI h (gF h r0 36) (gI h r0 35).toNatClampNeg (gI h (gF h r0 12) (gI h (gF h r0 28) x3.toNatClampNeg).toNatClampNeg)) r0 35).toNatClampNeg (gI (sI h (gF h r0 36) (gI h r0 35).toNatClampNeg (gI h (gF h r0 12) (gI h (gF h r0 28) x3.toNatClampNeg).toNatClampNeg)) (gF (sI h (gF h r0 36) (gI h r0 35).toNatClampNeg (gI h (gF h r0 12) (gI h (gF h r0 28) x3.toNatClampNeg).toNatClampNeg)) r0 13) (gI (sI h (gF h r0 36) (gI h r0 35).toNatClampNeg (gI h (gF h r0 12) (gI h (gF h r0 28) x3.toNatClampNeg).toNatClampNeg)) (gF (sI h (gF h r0 36) (gI h r0 35).toNatClampNeg (gI h (gF h r0 12) (gI h (gF h r0 28) x3.toNatClampNeg).toNatClampNeg)) r0 28) x3.toNatClampNeg).toNatClampNeg)) r0 29) x3.toNatClampNeg)) r0 39) (gI (sI (sI (sI h (gF h r0 36) (gI h r0 35).toNatClampNeg (gI h (gF h r0 12) (gI h (gF h r0 28) x3.toNatClampNeg).toNatClampNeg)) (gF (sI h (gF h r0 36) (gI h r0 35).toNatClampNeg (gI h (gF h r0 12) (gI h (gF h r0 28) x3.toNatClampNeg).toNatClampNeg)) r0 37) (gI (sI h (gF h r0 36) (gI h r0 35).toNatClampNeg (gI h (gF h r0 12) (gI h (gF h r0 28) x3.toNatClampNeg).toNatClampNeg)) r0 35).toNatClampNeg (gI (sI h (gF h r0 36) (gI h r0 35).toNatClampNeg (gI h (gF h r0 12) (gI h (gF h r0 28) x3.toNatClampNeg).toNatClampNeg)) (gF (sI h (gF h r0 36) (gI h r0 35).toNatClampNeg (gI h (gF h r0 12) (gI h (gF h r0 28) x3.toNatClampNeg).toNatClampNeg)) r0 13) (gI (sI h (gF h r0 36) (gI h r0 35).toNatClampNeg (gI h (gF h r0 12) (gI h (gF h r0 28) x3.toNatClampNeg).toNatClampNeg)) (gF (sI h (gF h r0 36) (gI h r0 35).toNatClampNeg (gI h (gF h r0 12) (gI h (gF h r0 28) x3.toNatClampNeg).toNatClampNeg)) r0 28) x3.toNatClampNeg).toNatClampNeg)) (gF (sI (sI h (gF h r0 36) (gI h r0 35).toNatClampNeg (gI h (gF h r0 12) (gI h (gF h r0 28) x3.toNatClampNeg).toNatClampNeg)) (gF (sI h (gF h r0 36) (gI h r0 35).toNatClampNeg (gI h (gF h r0 12) (gI h (gF h r0 28) x3.toNatClampNeg).toNatClampNeg)) r0 37) (gI (sI h (gF h r0 36) (gI h r0 35).toNatClampNeg (gI h (gF h r0 12) (gI h (gF h r0 28) x3.toNatClampNeg).toNatClampNeg)) r0 35).toNatClampNeg (gI (sI h (gF h r0 36) (gI h r0 35).toNatClampNeg (gI h (gF h r0 12) (gI h (gF h r0 28) x3.toNatClampNeg).toNatClampNeg)) (gF (sI h (gF h r0 36) (gI h r0 35).toNatClampNeg (gI h (gF h r0 12) (gI h (gF h r0 28) x3.toNatClampNeg).toNatClampNeg)) r0 13) (gI (sI h (gF h r0 36) (gI h r0 35).toNatClampNeg (gI h (gF h r0 12) (gI h (gF h r0 28) x3.toNatClampNeg).toNatClampNeg)) (gF (sI h (gF h r0 36) (gI h r0 35).toNatClampNeg (gI h (gF h r0 12) (gI h (gF h r0 28) x3.toNatClampNeg).toNatClampNeg)) r0 28) x3.toNatClampNeg).toNatClampNeg)) r0 38) (gI (sI (sI h (gF h r0 36) (gI h r0 35).toNatClampNeg (gI h (gF h r0 12) (gI h (gF h r0 28) x3.toNatClampNeg).toNatClampNeg)) (gF (sI h (gF h r0 36) (gI h r0 35).toNatClampNeg (gI h (gF h r0 12) (gI h (gF h r0 28) x3.toNatClampNeg).toNatClampNeg)) r0 37) (gI (sI h (gF h r0 36) (gI h r0 35).toNatClampNeg (gI h (gF h r0 12) (gI h (gF h r0 28) x3.toNatClampNeg).toNatClampNeg)) r0 35).toNatClampNeg (gI (sI h (gF h r0 36) (gI h r0 35).toNatClampNeg (gI h (gF h r0 12) (gI h (gF h r0 28) x3.toNatClampNeg).toNatClampNeg)) (gF (sI h (gF h r0 36) (gI h r0 35).toNatClampNeg (gI h (gF h r0 12) (gI h (gF h r0 28) x3.toNatClampNeg).toNatClampNeg)) r0 13) (gI (sI h (gF h r0 36) (gI h r0 35).toNatClampNeg (gI h (gF h r0 12) (gI h (gF h r0 28) x3.toNatClampNeg).toNatClampNeg)) (gF (sI h (gF h r0 36) (gI h r0 35).toNatClampNeg (gI h (gF h r0 12) (gI h (gF h r0 28) x3.toNatClampNeg).toNatClampNeg)) r0 28) x3.toNatClampNeg).toNatClampNeg)) r0 35).toNatClampNeg (gI (sI (sI h (gF h r0 36) (gI h r0 35).toNatClampNeg (gI h (gF h r0 12) (gI h (gF h r0 28) x3.toNatClampNeg).toNatClampNeg)) (gF (sI h (gF h r0 36) (gI h r0 35).toNatClampNeg (gI h (gF h r0 12) (gI h (gF h r0 28) x3.toNatClampNeg).toNatClampNeg)) r0 37) (gI (sI h (gF h r0 36) (gI h r0 35).toNatClampNeg (gI h (gF h r0 12) (gI h (gF h r0 28) x3.toNatClampNeg).toNatClampNeg)) r0 35).toNatClampNeg (gI (sI h (gF h r0 36) (gI h r0 35).toNatClampNeg (gI h (gF h r0 12) (gI h (gF h r0 28) x3.toNatClampNeg).toNatClampNeg)) (gF (sI h (gF h r0 36) (gI h r0 35).toNatClampNeg (gI h (gF h r0 12) (gI h (gF h r0 28) x3.toNatClampNeg).toNatClampNeg)) r0 13) (gI (sI h (gF h r0 36) (gI h r0 35).toNatClampNeg (gI h (gF h r0 12) (gI h (gF h r0 28) x3.toNatClampNeg).toNatClampNeg)) (gF (sI h (gF h r0 36) (gI h r0 35).toNatClampNeg (gI h (gF h r0 12) (gI h (gF h r0 28) x3.toNatClampNeg).toNatClampNeg)) r0 28) x3.toNatClampNeg).toNatClampNeg)) (gF (sI (sI h (gF h r0 36) (gI h r0 35).toNatClampNeg (gI h (gF h r0 12) (gI h (gF h r0 28) x3.toNatClampNeg).toNatClampNeg)) (gF (sI h (gF h r0 36) (gI h r0 35).toNatClampNeg (gI h (gF h r0 12) (gI h (gF h r0 28) x3.toNatClampNeg).toNatClampNeg)) r0 37) (gI (sI h (gF h r0 36) (gI h r0 35).toNatClampNeg (gI h (gF h r0 12) (gI h (gF h r0 28) x3.toNatClampNeg).toNatClampNeg)) r0 35).toNatClampNeg (gI (sI h (gF h r0 36) (gI h r0 35).toNatClampNeg (gI h (gF h r0 12) (gI h (gF h r0 28) x3.toNatClampNeg).toNatClampNeg)) (gF (sI h (gF h r0 36) (gI h r0 35).toNatClampNeg (gI h (gF h r0 12) (gI h (gF h r0 28) x3.toNatClampNeg).toNatClampNeg)) r0 13) (gI (sI h (gF h r0 36) (gI h r0 35).toNatClampNeg (gI h (gF h r0 12) (gI h (gF h r0 28) x3.toNatClampNeg).toNatClampNeg)) (gF (sI h (gF h r0 36) (gI h r0 35).toNatClampNeg (gI h (gF h r0 12) (gI h (gF h r0 28) x3.toNatClampNeg).toNatClampNeg)) r0 28) x3.toNatClampNeg).toNatClampNeg)) r0 29) x3.toNatClampNeg)) r0 35).toNatClampNeg (gI (sI (sI (sI h (gF h r0 36) (gI h r0 35).toNatClampNeg (gI h (gF h r0 12) (gI h (gF h r0 28) x3.toNatClampNeg).toNatClampNeg)) (gF (sI h (gF h r0 36) (gI h r0 35).toNatClampNeg (gI h (gF h r0 12) (gI h (gF h r0 28) x3.toNatClampNeg).toNatClampNeg)) r0 37) (gI (sI h (gF h r0 36) (gI h r0 35).toNatClampNeg (gI h (gF h r0 12) (gI h (gF h r0 28) x3.toNatClampNeg).toNatClampNeg)) r0 35).toNatClampNeg (gI (sI h (gF h r0 36) (gI h r0 35).toNatClampNeg (gI h (gF h r0 12) (gI h (gF h r0 28) x3.toNatClampNeg).toNatClampNeg)) (gF (sI h (gF h r0 36) (gI h r0 35).toNatClampNeg (gI h (gF h r0 12) (gI h (gF h r0 28) x3.toNatClampNeg).toNatClampNeg)) r0 13) (gI (sI h (gF h r0 36) (gI h r0 35).toNatClampNeg (gI h (gF h r0 12) (gI h (gF h r0 28) x3.toNatClampNeg).toNatClampNeg)) (gF (sI h (gF h r0 36) (gI h r0 35).toNatClampNeg (gI h (gF h r0 12) (gI h (gF h r0 28) x3.toNatClampNeg).toNatClampNeg)) r0 28) x3.toNatClampNeg).toNatClampNeg)) (gF (sI (sI h (gF h r0 36) (gI h r0 35).toNatClampNeg (gI h (gF h r0 12) (gI h (gF h r0 28) x3.toNatClampNeg).toNatClampNeg)) (gF (sI h (gF h r0 36) (gI h r0 35).toNatClampNeg (gI h (gF h r0 12) (gI h (gF h r0 28) x3.toNatClampNeg).toNatClampNeg)) r0 37) (gI (sI h (gF h r0 36) (gI h r0 35).toNatClampNeg (gI h (gF h r0 12) (gI h (gF h r0 28) x3.toNatClampNeg).toNatClampNeg)) r0 35).toNatClampNeg (gI (sI h (gF h r0 36) (gI h r0 35).toNatClampNeg (gI h (gF h r0 12) (gI h (gF h r0 28) x3.toNatClampNeg).toNatClampNeg)) (gF (sI h (gF h r0 36) (gI h r0 35).toNatClampNeg (gI h (gF h r0 12) (gI h (gF h r0 28) x3.toNatClampNeg).toNatClampNeg)) r0 13) (gI (sI h (gF h r0 36) (gI h r0 35).toNatClampNeg (gI h (gF h r0 12) (gI h (gF h r0 28) x3.toNatClampNeg).toNatClampNeg)) (gF (sI h (gF h r0 36) (gI h r0 35).toNatClampNeg (gI h (gF h r0 12) (gI h (gF h r0 28) x3.toNatClampNeg).toNatClampNeg)) r0 28) x3.toNatClampNeg).toNatClampNeg)) r0 38) (gI (sI (sI h (gF h r0 36) (gI h r0 35).toNatClampNeg (gI h (gF h r0 12) (gI h (gF h r0 28) x3.toNatClampNeg).toNatClampNeg)) (gF (sI h (gF h r0 36) (gI h r0 35).toNatClampNeg (gI h (gF h r0 12) (gI h (gF h r0 28) x3.toNatClampNeg).toNatClampNeg)) r0 37) (gI (sI h (gF h r0 36) (gI h r0 35).toNatClampNeg (gI h (gF h r0 12) (gI h (gF h r0 28) x3.toNatClampNeg).toNatClampNeg)) r0 35).toNatClampNeg (gI (sI h (gF h r0 36) (gI h r0 35).toNatClampNeg (gI h (gF h r0 12) (gI h (gF h r0 28) x3.toNatClampNeg).toNatClampNeg)) (gF (sI h (gF h r0 36) (gI h r0 35).toNatClampNeg (gI h (gF h r0 12) (gI h (gF h r0 28) x3.toNatClampNeg).toNatClampNeg)) r0 13) (gI (sI h (gF h r0 36) (gI h r0 35).toNatClampNeg (gI h (gF h r0 12) (gI h (gF h r0 28) x3.toNatClampNeg).toNatClampNeg)) (gF (sI h (gF h r0 36) (gI h r0 35).toNatClampNeg (gI h (gF h r0 12) (gI h (gF h r0 28) x3.toNatClampNeg).toNatClampNeg)) r0 28) x3.toNatClampNeg).toNatClampNeg)) r0 35).toNatClampNeg (gI (sI (sI h (gF h r0 36) (gI h r0 35).toNatClampNeg (gI h (gF h r0 12) (gI h (gF h r0 28) x3.toNatClampNeg).toNatClampNeg)) (gF (sI h (gF h r0 36) (gI h r0 35).toNatClampNeg (gI h (gF h r0 12) (gI h (gF h r0 28) x3.toNatClampNeg).toNatClampNeg)) r0 37) (gI (sI h (gF h r0 36) (gI h r0 35).toNatClampNeg (gI h (gF h r0 12) (gI h (gF h r0 28) x3.toNatClampNeg).toNatClampNeg)) r0 35).toNatClampNeg (gI (sI h (gF h r0 36) (gI h r0 35).toNatClampNeg (gI h (gF h r0 12) (gI h (gF h r0 28) x3.toNatClampNeg).toNatClampNeg)) (gF (sI h (gF h r0 36) (gI h r0 35).toNatClampNeg (gI h (gF h r0 12) (gI h (gF h r0 28) x3.toNatClampNeg).toNatClampNeg)) r0 13) (gI (sI h (gF h r0 36) (gI h r0 35).toNatClampNeg (gI h (gF h r0 12) (gI h (gF h r0 28) x3.toNatClampNeg).toNatClampNeg)) (gF (sI h (gF h r0 36) (gI h r0 35).toNatClampNeg (gI h (gF h r0 12) (gI h (gF h r0 28) x3.toNatClampNeg).toNatClampNeg)) r0 28) x3.toNatClampNeg).toNatClampNeg)) (gF (sI (sI h (gF h r0 36) (gI h r0 35).toNatClampNeg (gI h (gF h r0 12) (gI h (gF h r0 28) x3.toNatClampNeg).toNatClampNeg)) (gF (sI h (gF h r0 36) (gI h r0 35).toNatClampNeg (gI h (gF h r0 12) (gI h (gF h r0 28) x3.toNatClampNeg).toNatClampNeg)) r0 37) (gI (sI h (gF h r0 36) (gI h r0 35).toNatClampNeg (gI h (gF h r0 12) (gI h (gF h r0 28) x3.toNatClampNeg).toNatClampNeg)) r0 35).toNatClampNeg (gI (sI h (gF h r0 36) (gI h r0 35).toNatClampNeg (gI h (gF h r0 12) (gI h (gF h r0 28) x3.toNatClampNeg).toNatClampNeg)) (gF (sI h (gF h r0 36) (gI h r0 35).toNatClampNeg (gI h (gF h r0 12) (gI h (gF h r0 28) x3.toNatClampNeg).toNatClampNeg)) r0 13) (gI (sI h (gF h r0 36) (gI h r0 35).toNatClampNeg (gI h (gF h r0 12) (gI h (gF h r0 28) x3.toNatClampNeg).toNatClampNeg)) (gF (sI h (gF h r0 36) (gI h r0 35).toNatClampNeg (gI h (gF h r0 12) (gI h (gF h r0 28) x3.toNatClampNeg).toNatClampNeg)) r0 28) x3.toNatClampNeg).toNatClampNeg)) r0 29) x3.toNatClampNeg)) (gF (sI (sI (sI h (gF h r0 36) (gI h r0 35).toNatClampNeg (gI h (gF h r0 12) (gI h (gF h r0 28) x3.toNatClampNeg).toNatClampNeg)) (gF (sI h (gF h r0 36) (gI h r0 35).toNatClampNeg (gI h (gF h r0 12) (gI h (gF h r0 28) x3.toNatClampNeg).toNatClampNeg)) r0 37) (gI (sI h (gF h r0 36) (gI h r0 35).toNatClampNeg (gI h (gF h r0 12) (gI h (gF h r0 28) x3.toNatClampNeg).toNatClampNeg)) r0 35).toNatClampNeg (gI (sI h (gF h r0 36) (gI h r0 35).toNatClampNeg (gI h (gF h r0 12) (gI h (gF h r0 28) x3.toNatClampNeg).toNatClampNeg)) (gF (sI h (gF h r0 36) (gI h r0 35).toNatClampNeg (gI h (gF h r0 12) (gI h (gF h r0 28) x3.toNatClampNeg).toNatClampNeg)) r0 13) (gI (sI h (gF h r0 36) (gI h r0 35).toNatClampNeg (gI h (gF h r0 12) (gI h (gF h r0 28) x3.toNatClampNeg).toNatClampNeg)) (gF (sI h (gF h r0 36) (gI h r0 35).toNatClampNeg (gI h (gF h r0 12) (gI h (gF h r0 28) x3.toNatClampNeg).toNatClampNeg)) r0 28) x3.toNatClampNeg).toNatClampNeg)) (gF (sI (sI h (gF h r0 36) (gI h r0 35).toNatClampNeg (gI h (gF h r0 12) (gI h (gF h r0 28) x3.toNatClampNeg).toNatClampNeg)) (gF (sI h (gF h r0 36) (gI h r0 35).toNatClampNeg (gI h (gF h r0 12) (gI h (gF h r0 28) x3.toNatClampNeg).toNatClampNeg)) r0 37) (gI (sI h (gF h r0 36) (gI h r0 35).toNatClampNeg (gI h (gF h r0 12) (gI h (gF h r0 28) x3.toNatClampNeg).toNatClampNeg)) r0 35).toNatClampNeg (gI (sI h (gF h r0 36) (gI h r0 35).toNatClampNeg (gI h (gF h r0 12) (gI h (gF h r0 28) x3.toNatClampNeg).toNatClampNeg)) (gF (sI h (gF h r0 36) (gI h r0 35).toNatClampNeg (gI h (gF h r0 12) (gI h (gF h r0 28) x3.toNatClampNeg).toNatClampNeg)) r0 13) (gI (sI h (gF h r0 36) (gI h r0 35).toNatClampNeg (gI h (gF h r0 12) (gI h (gF h r0 28) x3.toNatClampNeg).toNatClampNeg)) (gF (sI h (gF h r0 36) (gI h r0 35).toNatClampNeg (gI h (gF h r0 12) (gI h (gF h r0 28) x3.toNatClampNeg).toNatClampNeg)) r0 28) x3.toNatClampNeg).toNatClampNeg)) r0 38) (gI (sI (sI h (gF h r0 36) (gI h r0 35).toNatClampNeg (gI h (gF h r0 12) (gI h (gF h r0 28) x3.toNatClampNeg).toNatClampNeg)) (gF (sI h (gF h r0 36) (gI h r0 35).toNatClampNeg (gI h (gF h r0 12) (gI h (gF h r0 28) x3.toNatClampNeg).toNatClampNeg)) r0 37) (gI (sI h (gF h r0 36) (gI h r0 35).toNatClampNeg (gI h (gF h r0 12) (gI h (gF h r0 28) x3.toNatClampNeg).toNatClampNeg)) r0 35).toNatClampNeg (gI (sI h (gF h r0 36) (gI h r0 35).toNatClampNeg (gI h (gF h r0 12) (gI h (gF h r0 28) x3.toNatClampNeg).toNatClampNeg)) (gF (sI h (gF h r0 36) (gI h r0 35).toNatClampNeg (gI h (gF h r0 12) (gI h (gF h r0 28) x3.toNatClampNeg).toNatClampNeg)) r0 13) (gI (sI h (gF h r0 36) (gI h r0 35).toNatClampNeg (gI h (gF h r0 12) (gI h (gF h r0 28) x3.toNatClampNeg).toNatClampNeg)) (gF (sI h (gF h r0 36) (gI h r0 35).toNatClampNeg (gI h (gF h r0 12) (gI h (gF h r0 28) x3.toNatClampNeg).toNatClampNeg)) r0 28) x3.toNatClampNeg).toNatClampNeg)) r0 35).toNatClampNeg (gI (sI (sI h (gF h r0 36) (gI h r0 35).toNatClampNeg (gI h (gF h r0 12) (gI h (gF h r0 28) x3.toNatClampNeg).toNatClampNeg)) (gF (sI h (gF h r0 36) (gI h r0 35).toNatClampNeg (gI h (gF h r0 12) (gI h (gF h r0 28) x3.toNatClampNeg).toNatClampNeg)) r0 37) (gI (sI h (gF h r0 36) (gI h r0 35).toNatClampNeg (gI h (gF h r0 12) (gI h (gF h r0 28) x3.toNatClampNeg).toNatClampNeg)) r0 35).toNatClampNeg (gI (sI h (gF h r0 36) (gI h r0 35).toNatClampNeg (gI h (gF h r0 12) (gI h (gF h r0 28) x3.toNatClampNeg).toNatClampNeg)) (gF (sI h (gF h r0 36) (gI h r0 35).toNatClampNeg (gI h (gF h r0 12) (gI h (gF h r0 28) x3.toNatClampNeg).toNatClampNeg)) r0 13) (gI (sI h (gF h r0 36) (gI h r0 35).toNatClampNeg (gI h (gF h r0 12) (gI h (gF h r0 28) x3.toNatClampNeg).toNatClampNeg)) (gF (sI h (gF h r0 36) (gI h r0 35).toNatClampNeg (gI h (gF h r0 12) (gI h (gF h r0 28) x3.toNatClampNeg).toNatClampNeg)) r0 28) x3.toNatClampNeg).toNatClampNeg)) (gF (sI (sI h (gF h r0 36) (gI h r0 35).toNatClampNeg (gI h (gF h r0 12) (gI h (gF h r0 28) x3.toNatClampNeg).toNatClampNeg)) (gF (sI h (gF h r0 36) (gI h r0 35).toNatClampNeg (gI h (gF h r0 12) (gI h (gF h r0 28) x3.toNatClampNeg).toNatClampNeg)) r0 37) (gI (sI h (gF h r0 36) (gI h r0 35).toNatClampNeg (gI h (gF h r0 12) (gI h (gF h r0 28) x3.toNatClampNeg).toNatClampNeg)) r0 35).toNatClampNeg (gI (sI h (gF h r0 36) (gI h r0 35).toNatClampNeg (gI h (gF h r0 12) (gI h (gF h r0 28) x3.toNatClampNeg).toNatClampNeg)) (gF (sI h (gF h r0 36) (gI h r0 35).toNatClampNeg (gI h (gF h r0 12) (gI h (gF h r0 28) x3.toNatClampNeg).toNatClampNeg)) r0 13) (gI (sI h (gF h r0 36) (gI h r0 35).toNatClampNeg (gI h (gF h r0 12) (gI h (gF h r0 28) x3.toNatClampNeg).toNatClampNeg)) (gF (sI h (gF h r0 36) (gI h r0 35).toNatClampNeg (gI h (gF h r0 12) (gI h (gF h r0 28) x3.toNatClampNeg).toNatClampNeg)) r0 28) x3.toNatClampNeg).toNatClampNeg)) r0 29) x3.toNatClampNeg)) r0 30) x3.toNatClampNeg)) P))))))))))))))))))))) ∧ (¬ (gI h (gF h r0 26) x3.toNatClampNeg) ≤ x2 → Rr mX12_ask 0 0 7 [(0, .ref r0), (1, .int x1), (2, .int x2), (3, .int (x3 + 1))] [] h P))))))))) : Rr mX12_ask 0 0 7 [(0, .ref r0), (1, .int x1), (2, .int x2), (3, .int x3)] [] h P := by
  refine R_iload_n dX12_ask_7 rfl 3 rfl ?_
  refine R_aload_n dX12_ask_8 rfl 0 rfl ?_
  obtain ⟨ob1, hf⟩ := hf
  refine G12_23 dX12_ask_9 lfX12_199 ob1 ?_
  refine R_icmp_ge (tgt := 199) dX12_ask_12 (by decide) (fun b2 => ?_) (fun b2 => ?_)
  · have hf := hf.1 b2
    exact R_ret dX12_ask_199 rfl hf
  · have hf := hf.2 b2
    refine R_aload_n dX12_ask_15 rfl 0 rfl ?_
    refine G12_27 dX12_ask_16 lfX12_48 ob1 ?_
    refine R_iload_n dX12_ask_19 rfl 3 rfl ?_
    obtain ⟨ob3, hf⟩ := hf
    obtain ⟨ob4, hf⟩ := hf
    refine R_iaload dX12_ask_20 ob3 ob4 ?_
    refine R_iload_n dX12_ask_21 rfl 1 rfl ?_
    refine R_icmp_ne (tgt := 193) dX12_ask_22 (by decide) (fun b5 => ?_) (fun b5 => ?_)
    · have hf := hf.1 b5
      refine R_iinc (v := x3 + 1) dX12_ask_193 3 rfl rfl (by decide) rfl ?_
      refine R_goto (tgt := 7) dX12_ask_196 (by decide) ?_
      exact R_sub [1, 2, 3, 0] rfl hf
    · have hf := hf.2 b5
      refine R_aload_n dX12_ask_25 rfl 0 rfl ?_
      refine G12_26 dX12_ask_26 lfX12_45 ob1 ?_
      refine R_iload_n dX12_ask_29 rfl 3 rfl ?_
      obtain ⟨ob6, hf⟩ := hf
      obtain ⟨ob7, hf⟩ := hf
      refine R_iaload dX12_ask_30 ob6 ob7 ?_
      refine R_iload_n dX12_ask_31 rfl 2 rfl ?_
      refine R_icmp_le (tgt := 38) dX12_ask_32 (by decide) (fun b8 => ?_) (fun b8 => ?_)
      · have hf := hf.1 b8
        refine R_aload_n dX12_ask_38 rfl 0 rfl ?_
        refine G12_36 dX12_ask_39 lfX12_72 ob1 ?_
        refine R_aload_n dX12_ask_42 rfl 0 rfl ?_
        refine G12_35 dX12_ask_43 lfX12_273 ob1 ?_
        refine R_aload_n dX12_ask_46 rfl 0 rfl ?_
        refine G12_12 dX12_ask_47 lfX12_21 ob1 ?_
        refine R_aload_n dX12_ask_50 rfl 0 rfl ?_
        refine G12_28 dX12_ask_51 lfX12_51 ob1 ?_
        refine R_iload_n dX12_ask_54 rfl 3 rfl ?_
        obtain ⟨ob9, hf⟩ := hf
        obtain ⟨ob10, hf⟩ := hf
        refine R_iaload dX12_ask_55 ob9 ob10 ?_
        obtain ⟨ob11, hf⟩ := hf
        obtain ⟨ob12, hf⟩ := hf
        refine R_iaload dX12_ask_56 ob11 ob12 ?_
        obtain ⟨ob13, hf⟩ := hf
        obtain ⟨ob14, hf⟩ := hf
        refine R_iastore dX12_ask_57 ob13 ob14 ?_
        refine R_aload_n dX12_ask_58 rfl 0 rfl ?_
        refine G12_37 dX12_ask_59 lfX12_75 ob1 ?_
        refine R_aload_n dX12_ask_62 rfl 0 rfl ?_
        refine G12_35 dX12_ask_63 lfX12_273 ob1 ?_
        refine R_aload_n dX12_ask_66 rfl 0 rfl ?_
        refine G12_13 dX12_ask_67 lfX12_24 ob1 ?_
        refine R_aload_n dX12_ask_70 rfl 0 rfl ?_
        refine G12_28 dX12_ask_71 lfX12_51 ob1 ?_
        refine R_iload_n dX12_ask_74 rfl 3 rfl ?_
        obtain ⟨ob15, hf⟩ := hf
        obtain ⟨ob16, hf⟩ := hf
        refine R_iaload dX12_ask_75 ob15 ob16 ?_
        obtain ⟨ob17, hf⟩ := hf
        obtain ⟨ob18, hf⟩ := hf
        refine R_iaload dX12_ask_76 ob17 ob18 ?_
        obtain ⟨ob19, hf⟩ := hf
        obtain ⟨ob20, hf⟩ := hf
        refine R_iastore dX12_ask_77 ob19 ob20 ?_
        refine R_aload_n dX12_ask_78 rfl 0 rfl ?_
        refine G12_38 dX12_ask_79 lfX12_78 ob1 ?_
        refine R_aload_n dX12_ask_82 rfl 0 rfl ?_
        refine G12_35 dX12_ask_83 lfX12_273 ob1 ?_
        refine R_aload_n dX12_ask_86 rfl 0 rfl ?_
        refine G12_29 dX12_ask_87 lfX12_54 ob1 ?_
        refine R_iload_n dX12_ask_90 rfl 3 rfl ?_
        obtain ⟨ob21, hf⟩ := hf
        obtain ⟨ob22, hf⟩ := hf
        refine R_iaload dX12_ask_91 ob21 ob22 ?_
        obtain ⟨ob23, hf⟩ := hf
        obtain ⟨ob24, hf⟩ := hf
        refine R_iastore dX12_ask_92 ob23 ob24 ?_
        refine R_aload_n dX12_ask_93 rfl 0 rfl ?_
        refine G12_39 dX12_ask_94 lfX12_81 ob1 ?_
        refine R_aload_n dX12_ask_97 rfl 0 rfl ?_
        refine G12_35 dX12_ask_98 lfX12_273 ob1 ?_
        refine R_aload_n dX12_ask_101 rfl 0 rfl ?_
        refine G12_30 dX12_ask_102 lfX12_57 ob1 ?_
        refine R_iload_n dX12_ask_105 rfl 3 rfl ?_
        obtain ⟨ob25, hf⟩ := hf
        obtain ⟨ob26, hf⟩ := hf
        refine R_iaload dX12_ask_106 ob25 ob26 ?_
        obtain ⟨ob27, hf⟩ := hf
        obtain ⟨ob28, hf⟩ := hf
        refine R_iastore dX12_ask_107 ob27 ob28 ?_
        refine R_iconst (v := 0) dX12_ask_108 (by decide) ?_
        refine R_istore dX12_ask_109 (by decide) rfl ?_
        exact R_sub [1, 2, 3, 4, 0] rfl hf
      · have hf := hf.2 b8
        refine R_goto (tgt := 193) dX12_ask_35 (by decide) ?_
        refine R_iinc (v := x3 + 1) dX12_ask_193 3 rfl rfl (by decide) rfl ?_
        refine R_goto (tgt := 7) dX12_ask_196 (by decide) ?_
        exact R_sub [1, 2, 3, 0] rfl hf
set_option maxRecDepth 20000 in
theorem sX12_ask_111 {P : Option Value → AH → Prop} (h : AH) (r0 : Nat) (x1 : Int32) (x2 : Int32) (x3 : Int32) (x4 : Int32) (hf : (isO h 12 r0) ∧ (((gI h r0 24) ≤ x4 → Rr mX12_ask 0 0 7 [(0, .ref r0), (1, .int x1), (2, .int x2), (3, .int (x3 + 1))] [] (sI h r0 35 ((gI h r0 35) + 1)) P) ∧ (¬ (gI h r0 24) ≤ x4 → (isA h 0 (gF h r0 32)) ∧ ((vp_in x4 (ln (gF h r0 32))) ∧ ((¬ (gI h (gF h r0 32) x4.toNatClampNeg) = x3 → Rr mX12_ask 0 0 111 [(0, .ref r0), (1, .int x1), (2, .int x2), (3, .int x3), (4, .int (x4 + 1))] [] h P) ∧ ((gI h (gF h r0 32) x4.toNatClampNeg) = x3 → (isA h 0 (gF h r0 31)) ∧ ((vp_in x4 (ln (gF h r0 31))) ∧ (((gI h (gF h r0 31) x4.toNatClampNeg) ≤ x2 → (isA h 0 (gF h r0 33)) ∧ ((vp_in x4 (ln (gF h r0 33))) ∧ ((isA h 0 (gF h r0 38)) ∧ ((vp_in (gI h r0 35) (ln (gF h r0 38))) ∧ ((isA h 0 (gF (sI h (gF h r0 38) (gI h r0 35).toNatClampNeg (gI h (gF h r0 33) x4.toNatClampNeg)) r0 34)) ∧ ((vp_in x4 (ln (gF (sI h (gF h r0 38) (gI h r0 35).toNatClampNeg (gI h (gF h r0 33) x4.toNatClampNeg)) r0 34))) ∧ ((isA h 0 (gF (sI h (gF h r0 38) (gI h r0 35).toNatClampNeg (gI h (gF h r0 33) x4.toNatClampNeg)) r0 39)) ∧ ((vp_in (gI (sI h (gF h r0 38) (gI h r0 35).toNatClampNeg (gI h (gF h r0 33) x4.toNatClampNeg)) r0 35) (ln (gF (sI h (gF h r0 38) (gI h r0 35).toNatClampNeg (gI h (gF h r0 33) x4.toNatClampNeg)) r0 39))) ∧ (Rr mX12_ask 0 0 111 [(0, .ref r0), (1, .int x1), (2, .int x2), (3, .int x3), (4, .int (x4 + 1))] [] (sI (sI h (gF h r0 38) (gI h r0 35).toNatClampNeg (gI h (gF h r0 33) x4.toNatClampNeg)) (gF (sI h (gF h r0 38) (gI h r0 35).toNatClampNeg (gI h (gF h r0 33) x4.toNatClampNeg)) r0 39) (gI (sI h (gF h r0 38) (gI h r0 35).toNatClampNeg (gI h (gF h r0 33) x4.toNatClampNeg)) r0 35).toNatClampNeg (gI (sI h (gF h r0 38) (gI h r0 35).toNatClampNeg (gI h (gF h r0 33) x4.toNatClampNeg)) (gF (sI h (gF h r0 38) (gI h r0 35).toNatClampNeg (gI h (gF h r0 33) x4.toNatClampNeg)) r0 34) x4.toNatClampNeg)) P))))))))) ∧ (¬ (gI h (gF h r0 31) x4.toNatClampNeg) ≤ x2 → Rr mX12_ask 0 0 111 [(0, .ref r0), (1, .int x1), (2, .int x2), (3, .int x3), (4, .int (x4 + 1))] [] h P))))))))) : Rr mX12_ask 0 0 111 [(0, .ref r0), (1, .int x1), (2, .int x2), (3, .int x3), (4, .int x4)] [] h P := by
  refine R_iload dX12_ask_111 4 rfl ?_
  refine R_aload_n dX12_ask_113 rfl 0 rfl ?_
  obtain ⟨ob1, hf⟩ := hf
  refine G12_24 dX12_ask_114 lfX12_202 ob1 ?_
  refine R_icmp_ge (tgt := 183) dX12_ask_117 (by decide) (fun b2 => ?_) (fun b2 => ?_)
  · have hf := hf.1 b2
    refine R_aload_n dX12_ask_183 rfl 0 rfl ?_
    refine R_dup dX12_ask_184 rfl ?_
    refine G12_35 dX12_ask_185 lfX12_273 ob1 ?_
    refine R_iconst (v := 1) dX12_ask_188 (by decide) ?_
    refine R_iadd dX12_ask_189 ?_
    refine S12_35 dX12_ask_190 lfX12_273 ob1 ?_
    refine R_iinc (v := x3 + 1) dX12_ask_193 3 rfl rfl (by decide) rfl ?_
    refine R_goto (tgt := 7) dX12_ask_196 (by decide) ?_
    exact R_sub [1, 2, 3, 0] rfl hf
  · have hf := hf.2 b2
    refine R_aload_n dX12_ask_120 rfl 0 rfl ?_
    refine G12_32 dX12_ask_121 lfX12_63 ob1 ?_
    refine R_iload dX12_ask_124 4 rfl ?_
    obtain ⟨ob3, hf⟩ := hf
    obtain ⟨ob4, hf⟩ := hf
    refine R_iaload dX12_ask_126 ob3 ob4 ?_
    refine R_iload_n dX12_ask_127 rfl 3 rfl ?_
    refine R_icmp_ne (tgt := 177) dX12_ask_128 (by decide) (fun b5 => ?_) (fun b5 => ?_)
    · have hf := hf.1 b5
      refine R_iinc (v := x4 + 1) dX12_ask_177 4 rfl rfl (by decide) rfl ?_
      refine R_goto (tgt := 111) dX12_ask_180 (by decide) ?_
      exact R_sub [1, 2, 3, 4, 0] rfl hf
    · have hf := hf.2 b5
      refine R_aload_n dX12_ask_131 rfl 0 rfl ?_
      refine G12_31 dX12_ask_132 lfX12_60 ob1 ?_
      refine R_iload dX12_ask_135 4 rfl ?_
      obtain ⟨ob6, hf⟩ := hf
      obtain ⟨ob7, hf⟩ := hf
      refine R_iaload dX12_ask_137 ob6 ob7 ?_
      refine R_iload_n dX12_ask_138 rfl 2 rfl ?_
      refine R_icmp_le (tgt := 145) dX12_ask_139 (by decide) (fun b8 => ?_) (fun b8 => ?_)
      · have hf := hf.1 b8
        refine R_aload_n dX12_ask_145 rfl 0 rfl ?_
        refine G12_38 dX12_ask_146 lfX12_78 ob1 ?_
        refine R_aload_n dX12_ask_149 rfl 0 rfl ?_
        refine G12_35 dX12_ask_150 lfX12_273 ob1 ?_
        refine R_aload_n dX12_ask_153 rfl 0 rfl ?_
        refine G12_33 dX12_ask_154 lfX12_66 ob1 ?_
        refine R_iload dX12_ask_157 4 rfl ?_
        obtain ⟨ob9, hf⟩ := hf
        obtain ⟨ob10, hf⟩ := hf
        refine R_iaload dX12_ask_159 ob9 ob10 ?_
        obtain ⟨ob11, hf⟩ := hf
        obtain ⟨ob12, hf⟩ := hf
        refine R_iastore dX12_ask_160 ob11 ob12 ?_
        refine R_aload_n dX12_ask_161 rfl 0 rfl ?_
        refine G12_39 dX12_ask_162 lfX12_81 ob1 ?_
        refine R_aload_n dX12_ask_165 rfl 0 rfl ?_
        refine G12_35 dX12_ask_166 lfX12_273 ob1 ?_
        refine R_aload_n dX12_ask_169 rfl 0 rfl ?_
        refine G12_34 dX12_ask_170 lfX12_69 ob1 ?_
        refine R_iload dX12_ask_173 4 rfl ?_
        obtain ⟨ob13, hf⟩ := hf
        obtain ⟨ob14, hf⟩ := hf
        refine R_iaload dX12_ask_175 ob13 ob14 ?_
        obtain ⟨ob15, hf⟩ := hf
        obtain ⟨ob16, hf⟩ := hf
        refine R_iastore dX12_ask_176 ob15 ob16 ?_
        refine R_iinc (v := x4 + 1) dX12_ask_177 4 rfl rfl (by decide) rfl ?_
        refine R_goto (tgt := 111) dX12_ask_180 (by decide) ?_
        exact R_sub [1, 2, 3, 4, 0] rfl hf
      · have hf := hf.2 b8
        refine R_goto (tgt := 177) dX12_ask_142 (by decide) ?_
        refine R_iinc (v := x4 + 1) dX12_ask_177 4 rfl rfl (by decide) rfl ?_
        refine R_goto (tgt := 111) dX12_ask_180 (by decide) ?_
        exact R_sub [1, 2, 3, 4, 0] rfl hf
theorem dX12_begin_0 : decode cX12_begin 0 = .ok (.iconst 0, 1) := by decide +kernel
theorem dX12_begin_1 : decode cX12_begin 1 = .ok (.istore_n 1, 1) := by decide +kernel
theorem dX12_begin_2 : decode cX12_begin 2 = .ok (.iload_n 1, 1) := by decide +kernel
theorem dX12_begin_3 : decode cX12_begin 3 = .ok (.bipush 9, 2) := by decide +kernel
theorem dX12_begin_5 : decode cX12_begin 5 = .ok (.if_icmp .ge 19, 3) := by decide +kernel
theorem dX12_begin_8 : decode cX12_begin 8 = .ok (.aload_n 0, 1) := by decide +kernel
theorem dX12_begin_9 : decode cX12_begin 9 = .ok (.getfield 17, 3) := by decide +kernel
theorem dX12_begin_12 : decode cX12_begin 12 = .ok (.bipush 9, 2) := by decide +kernel
theorem dX12_begin_14 : decode cX12_begin 14 = .ok (.iload_n 1, 1) := by decide +kernel
theorem dX12_begin_15 : decode cX12_begin 15 = .ok (.iadd, 1) := by decide +kernel
theorem dX12_begin_16 : decode cX12_begin 16 = .ok (.iconst 0, 1) := by decide +kernel
theorem dX12_begin_17 : decode cX12_begin 17 = .ok (.iastore, 1) := by decide +kernel
theorem dX12_begin_18 : decode cX12_begin 18 = .ok (.iinc 1 1, 3) := by decide +kernel
theorem dX12_begin_21 : decode cX12_begin 21 = .ok (.goto (-19), 3) := by decide +kernel
theorem dX12_begin_24 : decode cX12_begin 24 = .ok (.aload_n 0, 1) := by decide +kernel
theorem dX12_begin_25 : decode cX12_begin 25 = .ok (.getfield 17, 3) := by decide +kernel
theorem dX12_begin_28 : decode cX12_begin 28 = .ok (.bipush 9, 2) := by decide +kernel
theorem dX12_begin_30 : decode cX12_begin 30 = .ok (.bipush 100, 2) := by decide +kernel
theorem dX12_begin_32 : decode cX12_begin 32 = .ok (.iastore, 1) := by decide +kernel
theorem dX12_begin_33 : decode cX12_begin 33 = .ok (.aload_n 0, 1) := by decide +kernel
theorem dX12_begin_34 : decode cX12_begin 34 = .ok (.getfield 17, 3) := by decide +kernel
theorem dX12_begin_37 : decode cX12_begin 37 = .ok (.bipush 10, 2) := by decide +kernel
theorem dX12_begin_39 : decode cX12_begin 39 = .ok (.bipush 100, 2) := by decide +kernel
theorem dX12_begin_41 : decode cX12_begin 41 = .ok (.iastore, 1) := by decide +kernel
theorem dX12_begin_42 : decode cX12_begin 42 = .ok (.aload_n 0, 1) := by decide +kernel
theorem dX12_begin_43 : decode cX12_begin 43 = .ok (.getfield 17, 3) := by decide +kernel
theorem dX12_begin_46 : decode cX12_begin 46 = .ok (.bipush 12, 2) := by decide +kernel
theorem dX12_begin_48 : decode cX12_begin 48 = .ok (.iconst 1, 1) := by decide +kernel
theorem dX12_begin_49 : decode cX12_begin 49 = .ok (.iastore, 1) := by decide +kernel
theorem dX12_begin_50 : decode cX12_begin 50 = .ok (.aload_n 0, 1) := by decide +kernel
theorem dX12_begin_51 : decode cX12_begin 51 = .ok (.getfield 17, 3) := by decide +kernel
theorem dX12_begin_54 : decode cX12_begin 54 = .ok (.bipush 13, 2) := by decide +kernel
theorem dX12_begin_56 : decode cX12_begin 56 = .ok (.iconst 2, 1) := by decide +kernel
theorem dX12_begin_57 : decode cX12_begin 57 = .ok (.iastore, 1) := by decide +kernel
theorem dX12_begin_58 : decode cX12_begin 58 = .ok (.aload_n 0, 1) := by decide +kernel
theorem dX12_begin_59 : decode cX12_begin 59 = .ok (.getfield 17, 3) := by decide +kernel
theorem dX12_begin_62 : decode cX12_begin 62 = .ok (.bipush 15, 2) := by decide +kernel
theorem dX12_begin_64 : decode cX12_begin 64 = .ok (.iconst 3, 1) := by decide +kernel
theorem dX12_begin_65 : decode cX12_begin 65 = .ok (.iastore, 1) := by decide +kernel
theorem dX12_begin_66 : decode cX12_begin 66 = .ok (.aload_n 0, 1) := by decide +kernel
theorem dX12_begin_67 : decode cX12_begin 67 = .ok (.getfield 17, 3) := by decide +kernel
theorem dX12_begin_70 : decode cX12_begin 70 = .ok (.bipush 16, 2) := by decide +kernel
theorem dX12_begin_72 : decode cX12_begin 72 = .ok (.iconst 1, 1) := by decide +kernel
theorem dX12_begin_73 : decode cX12_begin 73 = .ok (.iastore, 1) := by decide +kernel
theorem dX12_begin_74 : decode cX12_begin 74 = .ok (.iconst 0, 1) := by decide +kernel
theorem dX12_begin_75 : decode cX12_begin 75 = .ok (.istore_n 1, 1) := by decide +kernel
theorem dX12_begin_76 : decode cX12_begin 76 = .ok (.iload_n 1, 1) := by decide +kernel
theorem dX12_begin_77 : decode cX12_begin 77 = .ok (.iconst 4, 1) := by decide +kernel
theorem dX12_begin_78 : decode cX12_begin 78 = .ok (.if_icmp .ge 18, 3) := by decide +kernel
theorem dX12_begin_81 : decode cX12_begin 81 = .ok (.aload_n 0, 1) := by decide +kernel
theorem dX12_begin_82 : decode cX12_begin 82 = .ok (.getfield 27, 3) := by decide +kernel
theorem dX12_begin_85 : decode cX12_begin 85 = .ok (.iconst 4, 1) := by decide +kernel
theorem dX12_begin_86 : decode cX12_begin 86 = .ok (.iload_n 1, 1) := by decide +kernel
theorem dX12_begin_87 : decode cX12_begin 87 = .ok (.iadd, 1) := by decide +kernel
theorem dX12_begin_88 : decode cX12_begin 88 = .ok (.iconst 0, 1) := by decide +kernel
theorem dX12_begin_89 : decode cX12_begin 89 = .ok (.iastore, 1) := by decide +kernel
theorem dX12_begin_90 : decode cX12_begin 90 = .ok (.iinc 1 1, 3) := by decide +kernel
theorem dX12_begin_93 : decode cX12_begin 93 = .ok (.goto (-17), 3) := by decide +kernel
theorem dX12_begin_96 : decode cX12_begin 96 = .ok (.iconst 0, 1) := by decide +kernel
theorem dX12_begin_97 : decode cX12_begin 97 = .ok (.istore_n 1, 1) := by decide +kernel
theorem dX12_begin_98 : decode cX12_begin 98 = .ok (.iload_n 1, 1) := by decide +kernel
theorem dX12_begin_99 : decode cX12_begin 99 = .ok (.bipush 64, 2) := by decide +kernel
theorem dX12_begin_101 : decode cX12_begin 101 = .ok (.if_icmp .ge 19, 3) := by decide +kernel
theorem dX12_begin_104 : decode cX12_begin 104 = .ok (.aload_n 0, 1) := by decide +kernel
theorem dX12_begin_105 : decode cX12_begin 105 = .ok (.getfield 33, 3) := by decide +kernel
theorem dX12_begin_108 : decode cX12_begin 108 = .ok (.bipush 64, 2) := by decide +kernel
theorem dX12_begin_110 : decode cX12_begin 110 = .ok (.iload_n 1, 1) := by decide +kernel
theorem dX12_begin_111 : decode cX12_begin 111 = .ok (.iadd, 1) := by decide +kernel
theorem dX12_begin_112 : decode cX12_begin 112 = .ok (.iconst 0, 1) := by decide +kernel
theorem dX12_begin_113 : decode cX12_begin 113 = .ok (.iastore, 1) := by decide +kernel
theorem dX12_begin_114 : decode cX12_begin 114 = .ok (.iinc 1 1, 3) := by decide +kernel
theorem dX12_begin_117 : decode cX12_begin 117 = .ok (.goto (-19), 3) := by decide +kernel
theorem dX12_begin_120 : decode cX12_begin 120 = .ok (.iconst 0, 1) := by decide +kernel
theorem dX12_begin_121 : decode cX12_begin 121 = .ok (.istore_n 1, 1) := by decide +kernel
theorem dX12_begin_122 : decode cX12_begin 122 = .ok (.iload_n 1, 1) := by decide +kernel
theorem dX12_begin_123 : decode cX12_begin 123 = .ok (.bipush 16, 2) := by decide +kernel
theorem dX12_begin_125 : decode cX12_begin 125 = .ok (.if_icmp .ge 33, 3) := by decide +kernel
theorem dX12_begin_128 : decode cX12_begin 128 = .ok (.aload_n 0, 1) := by decide +kernel
theorem dX12_begin_129 : decode cX12_begin 129 = .ok (.getfield 42, 3) := by decide +kernel
theorem dX12_begin_132 : decode cX12_begin 132 = .ok (.bipush 16, 2) := by decide +kernel
theorem dX12_begin_134 : decode cX12_begin 134 = .ok (.iload_n 1, 1) := by decide +kernel
theorem dX12_begin_135 : decode cX12_begin 135 = .ok (.iadd, 1) := by decide +kernel
theorem dX12_begin_136 : decode cX12_begin 136 = .ok (.iload_n 1, 1) := by decide +kernel
theorem dX12_begin_137 : decode cX12_begin 137 = .ok (.iconst 4, 1) := by decide +kernel
theorem dX12_begin_138 : decode cX12_begin 138 = .ok (.idiv, 1) := by decide +kernel
theorem dX12_begin_139 : decode cX12_begin 139 = .ok (.iload_n 1, 1) := by decide +kernel
theorem dX12_begin_140 : decode cX12_begin 140 = .ok (.iconst 4, 1) := by decide +kernel
theorem dX12_begin_141 : decode cX12_begin 141 = .ok (.irem, 1) := by decide +kernel
theorem dX12_begin_142 : decode cX12_begin 142 = .ok (.if_icmp .ne 7, 3) := by decide +kernel
theorem dX12_begin_145 : decode cX12_begin 145 = .ok (.iconst (-1), 1) := by decide +kernel
theorem dX12_begin_146 : decode cX12_begin 146 = .ok (.goto 5, 3) := by decide +kernel
theorem dX12_begin_149 : decode cX12_begin 149 = .ok (.bipush 100, 2) := by decide +kernel
theorem dX12_begin_151 : decode cX12_begin 151 = .ok (.iastore, 1) := by decide +kernel
theorem dX12_begin_152 : decode cX12_begin 152 = .ok (.iinc 1 1, 3) := by decide +kernel
theorem dX12_begin_155 : decode cX12_begin 155 = .ok (.goto (-33), 3) := by decide +kernel
theorem dX12_begin_158 : decode cX12_begin 158 = .ok (.aload_n 0, 1) := by decide +kernel
theorem dX12_begin_159 : decode cX12_begin 159 = .ok (.iconst 0, 1) := by decide +kernel
theorem dX12_begin_160 : decode cX12_begin 160 = .ok (.putfield 189, 3) := by decide +kernel
theorem dX12_begin_163 : decode cX12_begin 163 = .ok (.aload_n 0, 1) := by decide +kernel
theorem dX12_begin_164 : decode cX12_begin 164 = .ok (.iconst 0, 1) := by decide +kernel
theorem dX12_begin_165 : decode cX12_begin 165 = .ok (.putfield 192, 3) := by decide +kernel
theorem dX12_begin_168 : decode cX12_begin 168 = .ok (.return_, 1) := by decide +kernel
set_option maxRecDepth 20000 in
theorem sX12_begin_0 {P : Option Value → AH → Prop} (h : AH) (r0 : Nat) (hf : Rr mX12_begin 0 0 2 [(0, .ref r0), (1, .int 0)] [] h P) : Rr mX12_begin 0 0 0 [(0, .ref r0)] [] h P := by
  refine R_iconst (v := 0) dX12_begin_0 (by decide) ?_
  refine R_istore_n dX12_begin_1 rfl (by decide) rfl ?_
  exact R_sub [1, 0] rfl hf
set_option maxRecDepth 20000 in
theorem sX12_begin_2 {P : Option Value → AH → Prop} (h : AH) (r0 : Nat) (x1 : Int32) (hf : (9 ≤ x1 → (isO h 12 r0) ∧ ((isA h 0 (gF h r0 11)) ∧ ((vp_in 9 (ln (gF h r0 11))) ∧ ((isA h 0 (gF (sI h (gF h r0 11) (Int32.toNatClampNeg 9) 100) r0 11)) ∧ ((vp_in 10 (ln (gF (sI h (gF h r0 11) (Int32.toNatClampNeg 9) 100) r0 11))) ∧ ((isA h 0 (gF (sI (sI h (gF h r0 11) (Int32.toNatClampNeg 9) 100) (gF (sI h (gF h r0 11) (Int32.toNatClampNeg 9) 100) r0 11) (Int32.toNatClampNeg 10) 100) r0 11)) ∧ ((vp_in 12 (ln (gF (sI (sI h (gF h r0 11) (Int32.toNatClampNeg 9) 100) (gF (sI h (gF h r0 11) (Int32.toNatClampNeg 9) 100) r0 11) (Int32.toNatClampNeg 10) 100) r0 11))) ∧ ((isA h 0 (gF (sI (sI (sI h (gF h r0 11) (Int32.toNatClampNeg 9) 100) (gF (sI h (gF h r0 11) (Int32.toNatClampNeg 9) 100) r0 11) (Int32.toNatClampNeg 10) 100) (gF (sI (sI h (gF h r0 11) (Int32.toNatClampNeg 9) 100) (gF (sI h (gF h r0 11) (Int32.toNatClampNeg 9) 100) r0 11) (Int32.toNatClampNeg 10) 100) r0 11) (Int32.toNatClampNeg 12) 1) r0 11)) ∧ ((vp_in 13 (ln (gF (sI (sI (sI h (gF h r0 11) (Int32.toNatClampNeg 9) 100) (gF (sI h (gF h r0 11) (Int32.toNatClampNeg 9) 100) r0 11) (Int32.toNatClampNeg 10) 100) (gF (sI (sI h (gF h r0 11) (Int32.toNatClampNeg 9) 100) (gF (sI h (gF h r0 11) (Int32.toNatClampNeg 9) 100) r0 11) (Int32.toNatClampNeg 10) 100) r0 11) (Int32.toNatClampNeg 12) 1) r0 11))) ∧ ((isA h 0 (gF (sI (sI (sI (sI h (gF h r0 11) (Int32.toNatClampNeg 9) 100) (gF (sI h (gF h r0 11) (Int32.toNatClampNeg 9) 100) r0 11) (Int32.toNatClampNeg 10) 100) (gF (sI (sI h (gF h r0 11) (Int32.toNatClampNeg 9) 100) (gF (sI h (gF h r0 11) (Int32.toNatClampNeg 9) 100) r0 11) (Int32.toNatClampNeg 10) 100) r0 11) (Int32.toNatClampNeg 12) 1) (gF (sI (sI (sI h (gF h r0 11) (Int32.toNatClampNeg 9) 100) (gF (sI h (gF h r0 11) (Int32.toNatClampNeg 9) 100) r0 11) (Int32.toNatClampNeg 10) 100) (gF (sI (sI h (gF h r0 11) (Int32.toNatClampNeg 9) 100) (gF (sI h (gF h r0 11) (Int32.toNatClampNeg 9) 100) r0 11) (Int32.toNatClampNeg 10) 100) r0 11) (Int32.toNatClampNeg 12) 1) r0 11) (Int32.toNatClampNeg 13) 2) r0 11)) ∧ ((vp_in 15 (ln (gF (sI (sI (sI (sI h (gF h r0 11) (Int32.toNatClampNeg 9) 100) (gF (sI h (gF h r0 11) (Int32.toNatClampNeg 9) 100) r0 11) (Int32.toNatClampNeg 10) 100) (gF (sI (sI h (gF h r0 11) (Int32.toNatClampNeg 9) 100) (gF (sI h (gF h r0 11) (Int32.toNatClampNeg 9) 100) r0 11) (Int32.toNatClampNeg 10) 100) r0 11) (Int32.toNatClampNeg 12) 1) (gF (sI (sI (sI h (gF h r0 11) (Int32.toNatClampNeg 9) 100) (gF (sI h (gF h r0 11) (Int32.toNatClampNeg 9) 100) r0 11) (Int32.toNatClampNeg 10) 100) (gF (sI (sI h (gF h r0 11) (Int32.toNatClampNeg 9) 100) (gF (sI h (gF h r0 11) (Int32.toNatClampNeg 9) 100) r0 11) (Int32.toNatClampNeg 10) 100) r0 11) (Int32.toNatClampNeg 12) 1) r0 11) (Int32.toNatClampNeg 13) 2) r0 11))) ∧ ((isA h 0 (gF (sI (sI (sI (sI (sI h (gF h r0 11) (Int32.toNatClampNeg 9) 100) (gF (sI h (gF h r0 11) (Int32.toNatClampNeg 9) 100) r0 11) (Int32.toNatClampNeg 10) 100) (gF (sI (sI h (gF h r0 11) (Int32.toNatClampNeg 9) 100) (gF (sI h (gF h r0 11) (Int32.toNatClampNeg 9) 100) r0 11) (Int32.toNatClampNeg 10) 100) r0 11) (Int32.toNatClampNeg 12) 1) (gF (sI (sI (sI h (gF h r0 11) (Int32.toNatClampNeg 9) 100) (gF (sI h (gF h r0 11) (Int32.toNatClampNeg 9) 100) r0 11) (Int32.toNatClampNeg 10) 100) (gF (sI (sI h (gF h r0 11) (Int32.toNatClampNeg 9) 100) (gF (sI h (gF h r0 11) (Int32.toNatClampNeg 9) 100) r0 11) (Int32.toNatClampNeg 10) 100) r0 11) (Int32.toNatClampNeg 12) 1) r0 11) (Int32.toNatClampNeg 13) 2) (gF (sI (sI (sI (sI h (gF h r0 11) (Int32.toNatClampNeg 9) 100) (gF (sI h (gF h r0 11) (Int32.toNatClampNeg 9) 100) r0 11) (Int32.toNatClampNeg 10) 100) (gF (sI (sI h (gF h r0 11) (Int32.toNatClampNeg 9) 100) (gF (sI h (gF h r0 11) (Int32.toNatClampNeg 9) 100) r0 11) (Int32.toNatClampNeg 10) 100) r0 11) (Int32.toNatClampNeg 12) 1) (gF (sI (sI (sI h (gF h r0 11) (Int32.toNatClampNeg 9) 100) (gF (sI h (gF h r0 11) (Int32.toNatClampNeg 9) 100) r0 11) (Int32.toNatClampNeg 10) 100) (gF (sI (sI h (gF h r0 11) (Int32.toNatClampNeg 9) 100) (gF (sI h (gF h r0 11) (Int32.toNatClampNeg 9) 100) r0 11) (Int32.toNatClampNeg 10) 100) r0 11) (Int32.toNatClampNeg 12) 1) r0 11) (Int32.toNatClampNeg 13) 2) r0 11) (Int32.toNatClampNeg 15) 3) r0 11)) ∧ ((vp_in 16 (ln (gF (sI (sI (sI (sI (sI h (gF h r0 11) (Int32.toNatClampNeg 9) 100) (gF (sI h (gF h r0 11) (Int32.toNatClampNeg 9) 100) r0 11) (Int32.toNatClampNeg 10) 100) (gF (sI (sI h (gF h r0 11) (Int32.toNatClampNeg 9) 100) (gF (sI h (gF h r0 11) (Int32.toNatClampNeg 9) 100) r0 11) (Int32.toNatClampNeg 10) 100) r0 11) (Int32.toNatClampNeg 12) 1) (gF (sI (sI (sI h (gF h r0 11) (Int32.toNatClampNeg 9) 100) (gF (sI h (gF h r0 11) (Int32.toNatClampNeg 9) 100) r0 11) (Int32.toNatClampNeg 10) 100) (gF (sI (sI h (gF h r0 11) (Int32.toNatClampNeg 9) 100) (gF (sI h (gF h r0 11) (Int32.toNatClampNeg 9) 100) r0 11) (Int32.toNatClampNeg 10) 100) r0 11) (Int32.toNatClampNeg 12) 1) r0 11) (Int32.toNatClampNeg 13) 2) (gF (sI (sI (sI (sI h (gF h r0 11) (Int32.toNatClampNeg 9) 100) (gF (sI h (gF h r0 11) (Int32.toNatClampNeg 9) 100) r0 11) (Int32.toNatClampNeg 10) 100) (gF (sI (sI h (gF h r0 11) (Int32.toNatClampNeg 9) 100) (gF (sI h (gF h r0 11) (Int32.toNatClampNeg 9) 100) r0 11) (Int32.toNatClampNeg 10) 100) r0 11) (Int32.toNatClampNeg 12) 1) (gF (sI (sI (sI h (gF h r0 11) (Int32.toNatClampNeg 9) 100) (gF (sI h (gF h r0 11) (Int32.toNatClampNeg 9) 100) r0 11) (Int32.toNatClampNeg 10) 100) (gF (sI (sI h (gF h r0 11) (Int32.toNatClampNeg 9) 100) (gF (sI h (gF h r0 11) (Int32.toNatClampNeg 9) 100) r0 11) (Int32.toNatClampNeg 10) 100) r0 11) (Int32.toNatClampNeg 12) 1) r0 11) (Int32.toNatClampNeg 13) 2) r0 11) (Int32.toNatClampNeg 15) 3) r0 11))) ∧ (Rr mX12_begin 0 0 76 [(0, .ref r0), (1, .int 0)] [] (sI (sI (sI (sI (sI (sI h (gF h r0 11) (Int32.toNatClampNeg 9) 100) (gF (sI h (gF h r0 11) (Int32.toNatClampNeg 9) 100) r0 11) (Int32.toNatClampNeg 10) 100) (gF (sI (sI h (gF h r0 11) (Int32.toNatClampNeg 9) 100) (gF (sI h (gF h r0 11) (Int32.toNatClampNeg 9) 100) r0 11) (Int32.toNatClampNeg 10) 100) r0 11) (Int32.toNatClampNeg 12) 1) (gF (sI (sI (sI h (gF h r0 11) (Int32.toNatClampNeg 9) 100) (gF (sI h (gF h r0 11) (Int32.toNatClampNeg 9) 100) r0 11) (Int32.toNatClampNeg 10) 100) (gF (sI (sI h (gF h r0 11) (Int32.toNatClampNeg 9) 100) (gF (sI h (gF h r0 11) (Int32.toNatClampNeg 9) 100) r0 11) (Int32.toNatClampNeg 10) 100) r0 11) (Int32.toNatClampNeg 12) 1) r0 11) (Int32.toNatClampNeg 13) 2) (gF (sI (sI (sI (sI h (gF h r0 11) (Int32.toNatClampNeg 9) 100) (gF (sI h (gF h r0 11) (Int32.toNatClampNeg 9) 100) r0 11) (Int32.toNatClampNeg 10) 100) (gF (sI (sI h (gF h r0 11) (Int32.toNatClampNeg 9) 100) (gF (sI h (gF h r0 11) (Int32.toNatClampNeg 9) 100) r0 11) (Int32.toNatClampNeg 10) 100) r0 11) (Int32.toNatClampNeg 12) 1) (gF (sI (sI (sI h (gF h r0 11) (Int32.toNatClampNeg 9) 100) (gF (sI h (gF h r0 11) (Int32.toNatClampNeg 9) 100) r0 11) (Int32.toNatClampNeg 10) 100) (gF (sI (sI h (gF h r0 11) (Int32.toNatClampNeg 9) 100) (gF (sI h (gF h r0 11) (Int32.toNatClampNeg 9) 100) r0 11) (Int32.toNatClampNeg 10) 100) r0 11) (Int32.toNatClampNeg 12) 1) r0 11) (Int32.toNatClampNeg 13) 2) r0 11) (Int32.toNatClampNeg 15) 3) (gF (sI (sI (sI (sI (sI h (gF h r0 11) (Int32.toNatClampNeg 9) 100) (gF (sI h (gF h r0 11) (Int32.toNatClampNeg 9) 100) r0 11) (Int32.toNatClampNeg 10) 100) (gF (sI (sI h (gF h r0 11) (Int32.toNatClampNeg 9) 100) (gF (sI h (gF h r0 11) (Int32.toNatClampNeg 9) 100) r0 11) (Int32.toNatClampNeg 10) 100) r0 11) (Int32.toNatClampNeg 12) 1) (gF (sI (sI (sI h (gF h r0 11) (Int32.toNatClampNeg 9) 100) (gF (sI h (gF h r0 11) (Int32.toNatClampNeg 9) 100) r0 11) (Int32.toNatClampNeg 10) 100) (gF (sI (sI h (gF h r0 11) (Int32.toNatClampNeg 9) 100) (gF (sI h (gF h r0 11) (Int32.toNatClampNeg 9) 100) r0 11) (Int32.toNatClampNeg 10) 100) r0 11) (Int32.toNatClampNeg 12) 1) r0 11) (Int32.toNatClampNeg 13) 2) (gF (sI (sI (sI (sI h (gF h r0 11) (Int32.toNatClampNeg 9) 100) (gF (sI h (gF h r0 11) (Int32.toNatClampNeg 9) 100) r0 11) (Int32.toNatClampNeg 10) 100) (gF (sI (sI h (gF h r0 11) (Int32.toNatClampNeg 9) 100) (gF (sI h (gF h r0 11) (Int32.toNatClampNeg 9) 100) r0 11) (Int32.toNatClampNeg 10) 100) r0 11) (Int32.toNatClampNeg 12) 1) (gF (sI (sI (sI h (gF h r0 11) (Int32.toNatClampNeg 9) 100) (gF (sI h (gF h r0 11) (Int32.toNatClampNeg 9) 100) r0 11) (Int32.toNatClampNeg 10) 100) (gF (sI (sI h (gF h r0 11) (Int32.toNatClampNeg 9) 100) (gF (sI h (gF h r0 11) (Int32.toNatClampNeg 9) 100) r0 11) (Int32.toNatClampNeg 10) 100) r0 11) (Int32.toNatClampNeg 12) 1) r0 11) (Int32.toNatClampNeg 13) 2) r0 11) (Int32.toNatClampNeg 15) 3) r0 11) (Int32.toNatClampNeg 16) 1) P)))))))))))))) ∧ (¬ 9 ≤ x1 → (isO h 12 r0) ∧ ((isA h 0 (gF h r0 11)) ∧ ((vp_in (9 + x1) (ln (gF h r0 11))) ∧ (Rr mX12_begin 0 0 2 [(0, .ref r0), (1, .int (x1 + 1))] [] (sI h (gF h r0 11) (9 + x1).toNatClampNeg 0) P))))) : Rr mX12_begin 0 0 2 [(0, .ref r0), (1, .int x1)] [] h P := by
  refine R_iload_n dX12_begin_2 rfl 1 rfl ?_
  refine R_bipush (v := 9) dX12_begin_3 (by decide) ?_
  refine R_icmp_ge (tgt := 24) dX12_begin_5 (by decide) (fun b1 => ?_) (fun b1 => ?_)
  · have hf := hf.1 b1
    refine R_aload_n dX12_begin_24 rfl 0 rfl ?_
    obtain ⟨ob2, hf⟩ := hf
    refine G12_11 dX12_begin_25 lfX12_17 ob2 ?_
    refine R_bipush (v := 9) dX12_begin_28 (by decide) ?_
    refine R_bipush (v := 100) dX12_begin_30 (by decide) ?_
    obtain ⟨ob3, hf⟩ := hf
    obtain ⟨ob4, hf⟩ := hf
    refine R_iastore dX12_begin_32 ob3 ob4 ?_
    refine R_aload_n dX12_begin_33 rfl 0 rfl ?_
    refine G12_11 dX12_begin_34 lfX12_17 ob2 ?_
    refine R_bipush (v := 10) dX12_begin_37 (by decide) ?_
    refine R_bipush (v := 100) dX12_begin_39 (by decide) ?_
    obtain ⟨ob5, hf⟩ := hf
    obtain ⟨ob6, hf⟩ := hf
    refine R_iastore dX12_begin_41 ob5 ob6 ?_
    refine R_aload_n dX12_begin_42 rfl 0 rfl ?_
    refine G12_11 dX12_begin_43 lfX12_17 ob2 ?_
    refine R_bipush (v := 12) dX12_begin_46 (by decide) ?_
    refine R_iconst (v := 1) dX12_begin_48 (by decide) ?_
    obtain ⟨ob7, hf⟩ := hf
    obtain ⟨ob8, hf⟩ := hf
    refine R_iastore dX12_begin_49 ob7 ob8 ?_
    refine R_aload_n dX12_begin_50 rfl 0 rfl ?_
    refine G12_11 dX12_begin_51 lfX12_17 ob2 ?_
    refine R_bipush (v := 13) dX12_begin_54 (by decide) ?_
    refine R_iconst (v := 2) dX12_begin_56 (by decide) ?_
    obtain ⟨ob9, hf⟩ := hf
    obtain ⟨ob10, hf⟩ := hf
    refine R_iastore dX12_begin_57 ob9 ob10 ?_
    refine R_aload_n dX12_begin_58 rfl 0 rfl ?_
    refine G12_11 dX12_begin_59 lfX12_17 ob2 ?_
    refine R_bipush (v := 15) dX12_begin_62 (by decide) ?_
    refine R_iconst (v := 3) dX12_begin_64 (by decide) ?_
    obtain ⟨ob11, hf⟩ := hf
    obtain ⟨ob12, hf⟩ := hf
    refine R_iastore dX12_begin_65 ob11 ob12 ?_
    refine R_aload_n dX12_begin_66 rfl 0 rfl ?_
    refine G12_11 dX12_begin_67 lfX12_17 ob2 ?_
    refine R_bipush (v := 16) dX12_begin_70 (by decide) ?_
    refine R_iconst (v := 1) dX12_begin_72 (by decide) ?_
    obtain ⟨ob13, hf⟩ := hf
    obtain ⟨ob14, hf⟩ := hf
    refine R_iastore dX12_begin_73 ob13 ob14 ?_
    refine R_iconst (v := 0) dX12_begin_74 (by decide) ?_
    refine R_istore_n dX12_begin_75 rfl (by decide) rfl ?_
    exact R_sub [1, 0] rfl hf
  · have hf := hf.2 b1
    refine R_aload_n dX12_begin_8 rfl 0 rfl ?_
    obtain ⟨ob15, hf⟩ := hf
    refine G12_11 dX12_begin_9 lfX12_17 ob15 ?_
    refine R_bipush (v := 9) dX12_begin_12 (by decide) ?_
    refine R_iload_n dX12_begin_14 rfl 1 rfl ?_
    refine R_iadd dX12_begin_15 ?_
    refine R_iconst (v := 0) dX12_begin_16 (by decide) ?_
    obtain ⟨ob16, hf⟩ := hf
    obtain ⟨ob17, hf⟩ := hf
    refine R_iastore dX12_begin_17 ob16 ob17 ?_
    refine R_iinc (v := x1 + 1) dX12_begin_18 1 rfl rfl (by decide) rfl ?_
    refine R_goto (tgt := 2) dX12_begin_21 (by decide) ?_
    exact R_sub [1, 0] rfl hf
set_option maxRecDepth 20000 in
theorem sX12_begin_76 {P : Option Value → AH → Prop} (h : AH) (r0 : Nat) (x1 : Int32) (hf : (4 ≤ x1 → Rr mX12_begin 0 0 98 [(0, .ref r0), (1, .int 0)] [] h P) ∧ (¬ 4 ≤ x1 → (isO h 12 r0) ∧ ((isA h 0 (gF h r0 14)) ∧ ((vp_in (4 + x1) (ln (gF h r0 14))) ∧ (Rr mX12_begin 0 0 76 [(0, .ref r0), (1, .int (x1 + 1))] [] (sI h (gF h r0 14) (4 + x1).toNatClampNeg 0) P))))) : Rr mX12_begin 0 0 76 [(0, .ref r0), (1, .int x1)] [] h P := by
  refine R_iload_n dX12_begin_76 rfl 1 rfl ?_
  refine R_iconst (v := 4) dX12_begin_77 (by decide) ?_
  refine R_icmp_ge (tgt := 96) dX12_begin_78 (by decide) (fun b1 => ?_) (fun b1 => ?_)
  · have hf := hf.1 b1
    refine R_iconst (v := 0) dX12_begin_96 (by decide) ?_
    refine R_istore_n dX12_begin_97 rfl (by decide) rfl ?_
    exact R_sub [1, 0] rfl hf
  · have hf := hf.2 b1
    refine R_aload_n dX12_begin_81 rfl 0 rfl ?_
    obtain ⟨ob2, hf⟩ := hf
    refine G12_14 dX12_begin_82 lfX12_27 ob2 ?_
    refine R_iconst (v := 4) dX12_begin_85 (by decide) ?_
    refine R_iload_n dX12_begin_86 rfl 1 rfl ?_
    refine R_iadd dX12_begin_87 ?_
    refine R_iconst (v := 0) dX12_begin_88 (by decide) ?_
    obtain ⟨ob3, hf⟩ := hf
    obtain ⟨ob4, hf⟩ := hf
    refine R_iastore dX12_begin_89 ob3 ob4 ?_
    refine R_iinc (v := x1 + 1) dX12_begin_90 1 rfl rfl (by decide) rfl ?_
    refine R_goto (tgt := 76) dX12_begin_93 (by decide) ?_
    exact R_sub [1, 0] rfl hf
set_option maxRecDepth 20000 in
theorem sX12_begin_98 {P : Option Value → AH → Prop} (h : AH) (r0 : Nat) (x1 : Int32) (hf : (64 ≤ x1 → Rr mX12_begin 0 0 122 [(0, .ref r0), (1, .int 0)] [] h P) ∧ (¬ 64 ≤ x1 → (isO h 12 r0) ∧ ((isA h 0 (gF h r0 16)) ∧ ((vp_in (64 + x1) (ln (gF h r0 16))) ∧ (Rr mX12_begin 0 0 98 [(0, .ref r0), (1, .int (x1 + 1))] [] (sI h (gF h r0 16) (64 + x1).toNatClampNeg 0) P))))) : Rr mX12_begin 0 0 98 [(0, .ref r0), (1, .int x1)] [] h P := by
  refine R_iload_n dX12_begin_98 rfl 1 rfl ?_
  refine R_bipush (v := 64) dX12_begin_99 (by decide) ?_
  refine R_icmp_ge (tgt := 120) dX12_begin_101 (by decide) (fun b1 => ?_) (fun b1 => ?_)
  · have hf := hf.1 b1
    refine R_iconst (v := 0) dX12_begin_120 (by decide) ?_
    refine R_istore_n dX12_begin_121 rfl (by decide) rfl ?_
    exact R_sub [1, 0] rfl hf
  · have hf := hf.2 b1
    refine R_aload_n dX12_begin_104 rfl 0 rfl ?_
    obtain ⟨ob2, hf⟩ := hf
    refine G12_16 dX12_begin_105 lfX12_33 ob2 ?_
    refine R_bipush (v := 64) dX12_begin_108 (by decide) ?_
    refine R_iload_n dX12_begin_110 rfl 1 rfl ?_
    refine R_iadd dX12_begin_111 ?_
    refine R_iconst (v := 0) dX12_begin_112 (by decide) ?_
    obtain ⟨ob3, hf⟩ := hf
    obtain ⟨ob4, hf⟩ := hf
    refine R_iastore dX12_begin_113 ob3 ob4 ?_
    refine R_iinc (v := x1 + 1) dX12_begin_114 1 rfl rfl (by decide) rfl ?_
    refine R_goto (tgt := 98) dX12_begin_117 (by decide) ?_
    exact R_sub [1, 0] rfl hf
set_option maxRecDepth 20000 in
theorem sX12_begin_122 {P : Option Value → AH → Prop} (h : AH) (r0 : Nat) (x1 : Int32) (hf : (16 ≤ x1 → (isO h 12 r0) ∧ (P none (sI (sI h r0 21 0) r0 22 0))) ∧ (¬ 16 ≤ x1 → (isO h 12 r0) ∧ (∀ z5 : Int32, z5 = (if (x1 / 4) = (x1 % 4) then (-1) else 100) → ((isA h 0 (gF h r0 19)) ∧ ((vp_in (16 + x1) (ln (gF h r0 19))) ∧ (Rr mX12_begin 0 0 122 [(0, .ref r0), (1, .int (x1 + 1))] [] (sI h (gF h r0 19) (16 + x1).toNatClampNeg z5) P)))))) : Rr mX12_begin 0 0 122 [(0, .ref r0), (1, .int x1)] [] h P := by
  refine R_iload_n dX12_begin_122 rfl 1 rfl ?_
  refine R_bipush (v := 16) dX12_begin_123 (by decide) ?_
  refine R_icmp_ge (tgt := 158) dX12_begin_125 (by decide) (fun b1 => ?_) (fun b1 => ?_)
  · have hf := hf.1 b1
    refine R_aload_n dX12_begin_158 rfl 0 rfl ?_
    refine R_iconst (v := 0) dX12_begin_159 (by decide) ?_
    obtain ⟨ob2, hf⟩ := hf
    refine S12_21 dX12_begin_160 lfX12_189 ob2 ?_
    refine R_aload_n dX12_begin_163 rfl 0 rfl ?_
    refine R_iconst (v := 0) dX12_begin_164 (by decide) ?_
    refine S12_22 dX12_begin_165 lfX12_192 ob2 ?_
    exact R_ret dX12_begin_168 rfl hf
  · have hf := hf.2 b1
    refine R_aload_n dX12_begin_128 rfl 0 rfl ?_
    obtain ⟨ob3, hf⟩ := hf
    refine G12_19 dX12_begin_129 lfX12_42 ob3 ?_
    refine R_bipush (v := 16) dX12_begin_132 (by decide) ?_
    refine R_iload_n dX12_begin_134 rfl 1 rfl ?_
    refine R_iadd dX12_begin_135 ?_
    refine R_iload_n dX12_begin_136 rfl 1 rfl ?_
    refine R_iconst (v := 4) dX12_begin_137 (by decide) ?_
    refine R_idiv dX12_begin_138 (by decide) ?_
    refine R_iload_n dX12_begin_139 rfl 1 rfl ?_
    refine R_iconst (v := 4) dX12_begin_140 (by decide) ?_
    refine R_irem dX12_begin_141 (by decide) ?_
    have key : ∀ z5 : Int32, z5 = (if (x1 / 4) = (x1 % 4) then (-1) else 100) → Rr mX12_begin 0 0 151 [(0, .ref r0), (1, .int x1)] [.int z5, .int (16 + x1), .ref (gF h r0 19)] h P := by
      intro z5 ez5
      have hf := hf z5 ez5
      obtain ⟨ob6, hf⟩ := hf
      obtain ⟨ob7, hf⟩ := hf
      refine R_iastore dX12_begin_151 ob6 ob7 ?_
      refine R_iinc (v := x1 + 1) dX12_begin_152 1 rfl rfl (by decide) rfl ?_
      refine R_goto (tgt := 122) dX12_begin_155 (by decide) ?_
      exact R_sub [1, 0] rfl hf
    refine R_icmp_ne (tgt := 149) dX12_begin_142 (by decide) (fun b4 => ?_) (fun b4 => ?_)
    · refine R_bipush (v := 100) dX12_begin_149 (by decide) ?_
      exact R_sub [0, 1] rfl (key _ (by rw [if_neg b4]))
    · refine R_iconst (v := (-1)) dX12_begin_145 (by decide) ?_
      refine R_goto (tgt := 151) dX12_begin_146 (by decide) ?_
      exact R_sub [0, 1] rfl (key _ (by rw [if_pos b4]))
theorem dX12_bits_0 : decode cX12_bits 0 = .ok (.iconst 0, 1) := by decide +kernel
theorem dX12_bits_1 : decode cX12_bits 1 = .ok (.istore_n 1, 1) := by decide +kernel
theorem dX12_bits_2 : decode cX12_bits 2 = .ok (.iload_n 0, 1) := by decide +kernel
theorem dX12_bits_3 : decode cX12_bits 3 = .ok (.istore_n 2, 1) := by decide +kernel
theorem dX12_bits_4 : decode cX12_bits 4 = .ok (.iload_n 2, 1) := by decide +kernel
theorem dX12_bits_5 : decode cX12_bits 5 = .ok (.ifCond .eq 15, 3) := by decide +kernel
theorem dX12_bits_8 : decode cX12_bits 8 = .ok (.iinc 1 1, 3) := by decide +kernel
theorem dX12_bits_11 : decode cX12_bits 11 = .ok (.iload_n 2, 1) := by decide +kernel
theorem dX12_bits_12 : decode cX12_bits 12 = .ok (.iload_n 2, 1) := by decide +kernel
theorem dX12_bits_13 : decode cX12_bits 13 = .ok (.iconst 1, 1) := by decide +kernel
theorem dX12_bits_14 : decode cX12_bits 14 = .ok (.isub, 1) := by decide +kernel
theorem dX12_bits_15 : decode cX12_bits 15 = .ok (.iand, 1) := by decide +kernel
theorem dX12_bits_16 : decode cX12_bits 16 = .ok (.istore_n 2, 1) := by decide +kernel
theorem dX12_bits_17 : decode cX12_bits 17 = .ok (.goto (-13), 3) := by decide +kernel
theorem dX12_bits_20 : decode cX12_bits 20 = .ok (.iload_n 1, 1) := by decide +kernel
theorem dX12_bits_21 : decode cX12_bits 21 = .ok (.ireturn, 1) := by decide +kernel
set_option maxRecDepth 20000 in
theorem sX12_bits_0 {P : Option Value → AH → Prop} (h : AH) (x0 : Int32) (hf : Rr mX12_bits 0 0 4 [(1, .int 0), (2, .int x0)] [] h P) : Rr mX12_bits 0 0 0 [(0, .int x0)] [] h P := by
  refine R_iconst (v := 0) dX12_bits_0 (by decide) ?_
  refine R_istore_n dX12_bits_1 rfl (by decide) rfl ?_
  refine R_iload_n dX12_bits_2 rfl 1 rfl ?_
  refine R_istore_n dX12_bits_3 rfl (by decide) rfl ?_
  exact R_sub [1, 0] rfl hf
set_option maxRecDepth 20000 in
theorem sX12_bits_4 {P : Option Value → AH → Prop} (h : AH) (x1 : Int32) (x2 : Int32) (hf : (x2 = 0 → P (some (.int x1)) h) ∧ (¬ x2 = 0 → Rr mX12_bits 0 0 4 [(1, .int (x1 + 1)), (2, .int (x2 &&& (x2 - 1)))] [] h P)) : Rr mX12_bits 0 0 4 [(1, .int x1), (2, .int x2)] [] h P := by
  refine R_iload_n dX12_bits_4 rfl 1 rfl ?_
  refine R_if_eq (tgt := 20) dX12_bits_5 (by decide) (fun b1 => ?_) (fun b1 => ?_)
  · have hf := hf.1 b1
    refine R_iload_n dX12_bits_20 rfl 0 rfl ?_
    exact R_iret dX12_bits_21 rfl rfl hf
  · have hf := hf.2 b1
    refine R_iinc (v := x1 + 1) dX12_bits_8 0 rfl rfl (by decide) rfl ?_
    refine R_iload_n dX12_bits_11 rfl 1 rfl ?_
    refine R_iload_n dX12_bits_12 rfl 1 rfl ?_
    refine R_iconst (v := 1) dX12_bits_13 (by decide) ?_
    refine R_isub dX12_bits_14 ?_
    refine R_iand dX12_bits_15 ?_
    refine R_istore_n dX12_bits_16 rfl (by decide) rfl ?_
    refine R_goto (tgt := 4) dX12_bits_17 (by decide) ?_
    exact R_sub [1, 0] rfl hf
theorem dX12_byteAt_0 : decode cX12_byteAt 0 = .ok (.iload_n 1, 1) := by decide +kernel
theorem dX12_byteAt_1 : decode cX12_byteAt 1 = .ok (.aload_n 0, 1) := by decide +kernel
theorem dX12_byteAt_2 : decode cX12_byteAt 2 = .ok (.getfield 124, 3) := by decide +kernel
theorem dX12_byteAt_5 : decode cX12_byteAt 5 = .ok (.if_icmp .ge 16, 3) := by decide +kernel
theorem dX12_byteAt_8 : decode cX12_byteAt 8 = .ok (.aload_n 0, 1) := by decide +kernel
theorem dX12_byteAt_9 : decode cX12_byteAt 9 = .ok (.getfield 7, 3) := by decide +kernel
theorem dX12_byteAt_12 : decode cX12_byteAt 12 = .ok (.iload_n 1, 1) := by decide +kernel
theorem dX12_byteAt_13 : decode cX12_byteAt 13 = .ok (.baload, 1) := by decide +kernel
theorem dX12_byteAt_14 : decode cX12_byteAt 14 = .ok (.sipush 255, 3) := by decide +kernel
theorem dX12_byteAt_17 : decode cX12_byteAt 17 = .ok (.iand, 1) := by decide +kernel
theorem dX12_byteAt_18 : decode cX12_byteAt 18 = .ok (.goto 4, 3) := by decide +kernel
theorem dX12_byteAt_21 : decode cX12_byteAt 21 = .ok (.iconst (-1), 1) := by decide +kernel
theorem dX12_byteAt_22 : decode cX12_byteAt 22 = .ok (.ireturn, 1) := by decide +kernel
set_option maxRecDepth 20000 in
theorem sX12_byteAt_0 {P : Option Value → AH → Prop} (h : AH) (r0 : Nat) (x1 : Int32) (hf : (isO h 12 r0) ∧ ((isA h 2 (gF h r0 0)) ∧ ((¬ (gI h r0 2) ≤ x1 → vp_in x1 (ln (gF h r0 0))) ∧ (∀ z5 : Int32, z5 = (if (gI h r0 2) ≤ x1 then (-1) else ((gI h (gF h r0 0) x1.toNatClampNeg) &&& 255)) → (P (some (.int z5)) h))))) : Rr mX12_byteAt 0 0 0 [(0, .ref r0), (1, .int x1)] [] h P := by
  refine R_iload_n dX12_byteAt_0 rfl 1 rfl ?_
  refine R_aload_n dX12_byteAt_1 rfl 0 rfl ?_
  obtain ⟨ob1, hf⟩ := hf
  refine G12_2 dX12_byteAt_2 lfX12_124 ob1 ?_
  obtain ⟨ob3, hf⟩ := hf
  obtain ⟨ob4, hf⟩ := hf
  have key : ∀ z5 : Int32, z5 = (if (gI h r0 2) ≤ x1 then (-1) else ((gI h (gF h r0 0) x1.toNatClampNeg) &&& 255)) → Rr mX12_byteAt 0 0 22 [] [.int z5] h P := by
    intro z5 ez5
    have hf := hf z5 ez5
    exact R_iret dX12_byteAt_22 rfl rfl hf
  refine R_icmp_ge (tgt := 21) dX12_byteAt_5 (by decide) (fun b2 => ?_) (fun b2 => ?_)
  · refine R_iconst (v := (-1)) dX12_byteAt_21 (by decide) ?_
    exact R_sub [] rfl (key _ (by rw [if_pos b2]))
  · refine R_aload_n dX12_byteAt_8 rfl 0 rfl ?_
    refine G12_0 dX12_byteAt_9 lfX12_7 ob1 ?_
    refine R_iload_n dX12_byteAt_12 rfl 1 rfl ?_
    refine R_baload dX12_byteAt_13 ob3 (ob4 b2) ?_
    refine R_sipush (v := 255) dX12_byteAt_14 (by decide) ?_
    refine R_iand dX12_byteAt_17 ?_
    refine R_goto (tgt := 22) dX12_byteAt_18 (by decide) ?_
    exact R_sub [] rfl (key _ (by rw [if_neg b2]))
theorem aX12_byteAt {h : AH} {P : Option Value → AH → Prop} {r0 : Nat} {x1 : Int32} (o0 : isO h 12 r0) (o1 : isA h 2 (gF h r0 0)) (o2 : ¬ (gI h r0 2) ≤ x1 → vp_in x1 (ln (gF h r0 0))) (k : P (some (.int (if (gI h r0 2) ≤ x1 then (-1) else ((gI h (gF h r0 0) x1.toNatClampNeg) &&& 255)))) h) : Call mX12_byteAt [.ref r0, .int x1] h P :=
  Call.ofR (by decide +kernel) (Nat.le_of_ble_eq_true rfl) (sX12_byteAt_0 h r0 x1 (⟨o0, ⟨o1, ⟨o2, fun z5 ez5 => by subst ez5; exact (k)⟩⟩⟩))
theorem dX12_comes_0 : decode cX12_comes 0 = .ok (.iconst 0, 1) := by decide +kernel
theorem dX12_comes_1 : decode cX12_comes 1 = .ok (.istore_n 2, 1) := by decide +kernel
theorem dX12_comes_2 : decode cX12_comes 2 = .ok (.iload_n 2, 1) := by decide +kernel
theorem dX12_comes_3 : decode cX12_comes 3 = .ok (.iload_n 1, 1) := by decide +kernel
theorem dX12_comes_4 : decode cX12_comes 4 = .ok (.if_icmp .ge 17, 3) := by decide +kernel
theorem dX12_comes_7 : decode cX12_comes 7 = .ok (.aload_n 0, 1) := by decide +kernel
theorem dX12_comes_8 : decode cX12_comes 8 = .ok (.iload_n 2, 1) := by decide +kernel
theorem dX12_comes_9 : decode cX12_comes 9 = .ok (.aload_n 0, 1) := by decide +kernel
theorem dX12_comes_10 : decode cX12_comes 10 = .ok (.iload_n 1, 1) := by decide +kernel
theorem dX12_comes_11 : decode cX12_comes 11 = .ok (.iload_n 2, 1) := by decide +kernel
theorem dX12_comes_12 : decode cX12_comes 12 = .ok (.iadd, 1) := by decide +kernel
theorem dX12_comes_13 : decode cX12_comes 13 = .ok (.iaload, 1) := by decide +kernel
theorem dX12_comes_14 : decode cX12_comes 14 = .ok (.iastore, 1) := by decide +kernel
theorem dX12_comes_15 : decode cX12_comes 15 = .ok (.iinc 2 1, 3) := by decide +kernel
theorem dX12_comes_18 : decode cX12_comes 18 = .ok (.goto (-16), 3) := by decide +kernel
theorem dX12_comes_21 : decode cX12_comes 21 = .ok (.return_, 1) := by decide +kernel
set_option maxRecDepth 20000 in
theorem sX12_comes_0 {P : Option Value → AH → Prop} (h : AH) (r0 : Nat) (x1 : Int32) (hf : Rr mX12_comes 0 0 2 [(0, .ref r0), (1, .int x1), (2, .int 0)] [] h P) : Rr mX12_comes 0 0 0 [(0, .ref r0), (1, .int x1)] [] h P := by
  refine R_iconst (v := 0) dX12_comes_0 (by decide) ?_
  refine R_istore_n dX12_comes_1 rfl (by decide) rfl ?_
  exact R_sub [1, 2, 0] rfl hf
set_option maxRecDepth 20000 in
theorem sX12_comes_2 {P : Option Value → AH → Prop} (h : AH) (r0 : Nat) (x1 : Int32) (x2 : Int32) (hf : (x1 ≤ x2 → P none h) ∧ (¬ x1 ≤ x2 → (isA h 0 r0) ∧ ((vp_in (x1 + x2) (ln r0)) ∧ ((vp_in x2 (ln r0)) ∧ (Rr mX12_comes 0 0 2 [(0, .ref r0), (1, .int x1), (2, .int (x2 + 1))] [] (sI h r0 x2.toNatClampNeg (gI h r0 (x1 + x2).toNatClampNeg)) P))))) : Rr mX12_comes 0 0 2 [(0, .ref r0), (1, .int x1), (2, .int x2)] [] h P := by
  refine R_iload_n dX12_comes_2 rfl 2 rfl ?_
  refine R_iload_n dX12_comes_3 rfl 1 rfl ?_
  refine R_icmp_ge (tgt := 21) dX12_comes_4 (by decide) (fun b1 => ?_) (fun b1 => ?_)
  · have hf := hf.1 b1
    exact R_ret dX12_comes_21 rfl hf
  · have hf := hf.2 b1
    refine R_aload_n dX12_comes_7 rfl 0 rfl ?_
    refine R_iload_n dX12_comes_8 rfl 2 rfl ?_
    refine R_aload_n dX12_comes_9 rfl 0 rfl ?_
    refine R_iload_n dX12_comes_10 rfl 1 rfl ?_
    refine R_iload_n dX12_comes_11 rfl 2 rfl ?_
    refine R_iadd dX12_comes_12 ?_
    obtain ⟨ob2, hf⟩ := hf
    obtain ⟨ob3, hf⟩ := hf
    refine R_iaload dX12_comes_13 ob2 ob3 ?_
    obtain ⟨ob4, hf⟩ := hf
    refine R_iastore dX12_comes_14 ob2 ob4 ?_
    refine R_iinc (v := x2 + 1) dX12_comes_15 2 rfl rfl (by decide) rfl ?_
    refine R_goto (tgt := 2) dX12_comes_18 (by decide) ?_
    exact R_sub [1, 2, 0] rfl hf
theorem dX12_count_0 : decode cX12_count 0 = .ok (.iload_n 1, 1) := by decide +kernel
theorem dX12_count_1 : decode cX12_count 1 = .ok (.tableswitch 68 0 4 #[35, 40, 45, 50, 63], 35) := by decide +kernel
theorem dX12_count_36 : decode cX12_count 36 = .ok (.aload_n 0, 1) := by decide +kernel
theorem dX12_count_37 : decode cX12_count 37 = .ok (.getfield 256, 3) := by decide +kernel
theorem dX12_count_40 : decode cX12_count 40 = .ok (.ireturn, 1) := by decide +kernel
theorem dX12_count_41 : decode cX12_count 41 = .ok (.aload_n 0, 1) := by decide +kernel
theorem dX12_count_42 : decode cX12_count 42 = .ok (.getfield 199, 3) := by decide +kernel
theorem dX12_count_45 : decode cX12_count 45 = .ok (.ireturn, 1) := by decide +kernel
theorem dX12_count_46 : decode cX12_count 46 = .ok (.aload_n 0, 1) := by decide +kernel
theorem dX12_count_47 : decode cX12_count 47 = .ok (.getfield 202, 3) := by decide +kernel
theorem dX12_count_50 : decode cX12_count 50 = .ok (.ireturn, 1) := by decide +kernel
theorem dX12_count_51 : decode cX12_count 51 = .ok (.aload_n 0, 1) := by decide +kernel
theorem dX12_count_52 : decode cX12_count 52 = .ok (.getfield 335, 3) := by decide +kernel
theorem dX12_count_55 : decode cX12_count 55 = .ok (.ifCond .eq 7, 3) := by decide +kernel
theorem dX12_count_58 : decode cX12_count 58 = .ok (.iconst 1, 1) := by decide +kernel
theorem dX12_count_59 : decode cX12_count 59 = .ok (.goto 4, 3) := by decide +kernel
theorem dX12_count_62 : decode cX12_count 62 = .ok (.iconst 0, 1) := by decide +kernel
theorem dX12_count_63 : decode cX12_count 63 = .ok (.ireturn, 1) := by decide +kernel
theorem dX12_count_64 : decode cX12_count 64 = .ok (.aload_n 0, 1) := by decide +kernel
theorem dX12_count_65 : decode cX12_count 65 = .ok (.getfield 121, 3) := by decide +kernel
theorem dX12_count_68 : decode cX12_count 68 = .ok (.ireturn, 1) := by decide +kernel
theorem dX12_count_69 : decode cX12_count 69 = .ok (.iconst (-1), 1) := by decide +kernel
theorem dX12_count_70 : decode cX12_count 70 = .ok (.ireturn, 1) := by decide +kernel
set_option maxRecDepth 20000 in
theorem sX12_count_0 {P : Option Value → AH → Prop} (h : AH) (r0 : Nat) (x1 : Int32) (hf : (x1 = 0 → (isO h 12 r0) ∧ (P (some (.int (gI h r0 20))) h)) ∧ (¬ x1 = 0 → (x1 = 1 → (isO h 12 r0) ∧ (P (some (.int (gI h r0 23))) h)) ∧ (¬ x1 = 1 → (x1 = 2 → (isO h 12 r0) ∧ (P (some (.int (gI h r0 24))) h)) ∧ (¬ x1 = 2 → (x1 = 3 → (isO h 12 r0) ∧ (P (some (.int (bi (¬ (gI h r0 51) = 0)))) h)) ∧ (¬ x1 = 3 → (x1 = 4 → (isO h 12 r0) ∧ (P (some (.int (gI h r0 1))) h)) ∧ (¬ x1 = 4 → P (some (.int (-1))) h)))))) : Rr mX12_count 0 0 0 [(0, .ref r0), (1, .int x1)] [] h P := by
  refine R_iload_n dX12_count_0 rfl 1 rfl ?_
  by_cases b1 : x1 = 0
  · have hf := hf.1 b1
    refine R_tableIn (off := 35) (tgt := 36) dX12_count_1 (by rw [b1]; decide) (by rw [b1]; decide) (by rw [b1]; decide) (by decide) ?_
    refine R_aload_n dX12_count_36 rfl 0 rfl ?_
    obtain ⟨ob2, hf⟩ := hf
    refine G12_20 dX12_count_37 lfX12_256 ob2 ?_
    exact R_iret dX12_count_40 rfl rfl hf
  have hf := hf.2 b1
  by_cases b3 : x1 = 1
  · have hf := hf.1 b3
    refine R_tableIn (off := 40) (tgt := 41) dX12_count_1 (by rw [b3]; decide) (by rw [b3]; decide) (by rw [b3]; decide) (by decide) ?_
    refine R_aload_n dX12_count_41 rfl 0 rfl ?_
    obtain ⟨ob4, hf⟩ := hf
    refine G12_23 dX12_count_42 lfX12_199 ob4 ?_
    exact R_iret dX12_count_45 rfl rfl hf
  have hf := hf.2 b3
  by_cases b5 : x1 = 2
  · have hf := hf.1 b5
    refine R_tableIn (off := 45) (tgt := 46) dX12_count_1 (by rw [b5]; decide) (by rw [b5]; decide) (by rw [b5]; decide) (by decide) ?_
    refine R_aload_n dX12_count_46 rfl 0 rfl ?_
    obtain ⟨ob6, hf⟩ := hf
    refine G12_24 dX12_count_47 lfX12_202 ob6 ?_
    exact R_iret dX12_count_50 rfl rfl hf
  have hf := hf.2 b5
  by_cases b7 : x1 = 3
  · have hf := hf.1 b7
    refine R_tableIn (off := 50) (tgt := 51) dX12_count_1 (by rw [b7]; decide) (by rw [b7]; decide) (by rw [b7]; decide) (by decide) ?_
    refine R_aload_n dX12_count_51 rfl 0 rfl ?_
    obtain ⟨ob8, hf⟩ := hf
    refine G12_51 dX12_count_52 lfX12_335 ob8 ?_
    have key :  Rr mX12_count 0 0 63 [] [.int (bi (¬ (gI h r0 51) = 0))] h P := by
      exact R_iret dX12_count_63 rfl rfl hf
    refine R_if_eq (tgt := 62) dX12_count_55 (by decide) (fun b9 => ?_) (fun b9 => ?_)
    · refine R_iconst (v := 0) dX12_count_62 (by decide) ?_
      have kb := key
      rw [show bi (¬ (gI h r0 51) = 0) = 0 from by simp only [bi, b9, false_and, and_false, true_and, and_true, not_true_eq_false, not_false_eq_true, if_true, if_false, true_or, or_true, false_or, or_false, reduceIte]] at kb
      exact R_sub [] rfl kb
    · refine R_iconst (v := 1) dX12_count_58 (by decide) ?_
      refine R_goto (tgt := 63) dX12_count_59 (by decide) ?_
      have kb := key
      rw [show bi (¬ (gI h r0 51) = 0) = 1 from by simp only [bi, b9, false_and, and_false, true_and, and_true, not_true_eq_false, not_false_eq_true, if_true, if_false, true_or, or_true, false_or, or_false, reduceIte]] at kb
      exact R_sub [] rfl kb
  have hf := hf.2 b7
  by_cases b10 : x1 = 4
  · have hf := hf.1 b10
    refine R_tableIn (off := 63) (tgt := 64) dX12_count_1 (by rw [b10]; decide) (by rw [b10]; decide) (by rw [b10]; decide) (by decide) ?_
    refine R_aload_n dX12_count_64 rfl 0 rfl ?_
    obtain ⟨ob11, hf⟩ := hf
    refine G12_1 dX12_count_65 lfX12_121 ob11 ?_
    exact R_iret dX12_count_68 rfl rfl hf
  have hf := hf.2 b10
  refine R_tableOut (tgt := 69) dX12_count_1 (by have q0 := lv_neT (a := 0) b1 (by decide); have q1 := lv_neT (a := 1) b3 (by decide); have q2 := lv_neT (a := 2) b5 (by decide); have q3 := lv_neT (a := 3) b7 (by decide); have q4 := lv_neT (a := 4) b10 (by decide); omega) (by decide) ?_
  refine R_iconst (v := (-1)) dX12_count_69 (by decide) ?_
  exact R_iret dX12_count_70 rfl rfl hf
theorem aX12_count {h : AH} {P : Option Value → AH → Prop} {r0 : Nat} {x1 : Int32} (o0 : isO h 12 r0) (k : P (some (.int (if x1 = 0 then (gI h r0 20) else (if x1 = 1 then (gI h r0 23) else (if x1 = 2 then (gI h r0 24) else (if x1 = 3 then (bi (¬ (gI h r0 51) = 0)) else (if x1 = 4 then (gI h r0 1) else (-1)))))))) h) : Call mX12_count [.ref r0, .int x1] h P :=
  Call.ofR (by decide +kernel) (Nat.le_of_ble_eq_true rfl) (sX12_count_0 h r0 x1 (⟨fun b0 => ⟨o0, by rw [if_pos b0] at k; exact k⟩, fun b0 => ⟨fun b1 => ⟨o0, by rw [if_neg b0, if_pos b1] at k; exact k⟩, fun b1 => ⟨fun b2 => ⟨o0, by rw [if_neg b0, if_neg b1, if_pos b2] at k; exact k⟩, fun b2 => ⟨fun b3 => ⟨o0, by rw [if_neg b0, if_neg b1, if_neg b2, if_pos b3] at k; exact k⟩, fun b3 => ⟨fun b4 => ⟨o0, by rw [if_neg b0, if_neg b1, if_neg b2, if_neg b3, if_pos b4] at k; exact k⟩, fun b4 => by rw [if_neg b0, if_neg b1, if_neg b2, if_neg b3, if_neg b4] at k; exact k⟩⟩⟩⟩⟩))
theorem dX12_end_0 : decode cX12_end 0 = .ok (.iload_n 1, 1) := by decide +kernel
theorem dX12_end_1 : decode cX12_end 1 = .ok (.ifCond .lt 11, 3) := by decide +kernel
theorem dX12_end_4 : decode cX12_end 4 = .ok (.iload_n 1, 1) := by decide +kernel
theorem dX12_end_5 : decode cX12_end 5 = .ok (.aload_n 0, 1) := by decide +kernel
theorem dX12_end_6 : decode cX12_end 6 = .ok (.getfield 121, 3) := by decide +kernel
theorem dX12_end_9 : decode cX12_end 9 = .ok (.if_icmp .le 5, 3) := by decide +kernel
theorem dX12_end_12 : decode cX12_end 12 = .ok (.iconst (-1), 1) := by decide +kernel
theorem dX12_end_13 : decode cX12_end 13 = .ok (.ireturn, 1) := by decide +kernel
theorem dX12_end_14 : decode cX12_end 14 = .ok (.aload_n 0, 1) := by decide +kernel
theorem dX12_end_15 : decode cX12_end 15 = .ok (.iload_n 1, 1) := by decide +kernel
theorem dX12_end_16 : decode cX12_end 16 = .ok (.putfield 121, 3) := by decide +kernel
theorem dX12_end_19 : decode cX12_end 19 = .ok (.iload_n 1, 1) := by decide +kernel
theorem dX12_end_20 : decode cX12_end 20 = .ok (.ireturn, 1) := by decide +kernel
set_option maxRecDepth 20000 in
theorem sX12_end_0 {P : Option Value → AH → Prop} (h : AH) (r0 : Nat) (x1 : Int32) (hf : (x1 < 0 → P (some (.int (-1))) h) ∧ (¬ x1 < 0 → (isO h 12 r0) ∧ ((x1 ≤ (gI h r0 1) → P (some (.int x1)) (sI h r0 1 x1)) ∧ (¬ x1 ≤ (gI h r0 1) → P (some (.int (-1))) h)))) : Rr mX12_end 0 0 0 [(0, .ref r0), (1, .int x1)] [] h P := by
  refine R_iload_n dX12_end_0 rfl 1 rfl ?_
  refine R_if_lt (tgt := 12) dX12_end_1 (by decide) (fun b1 => ?_) (fun b1 => ?_)
  · have hf := hf.1 b1
    refine R_iconst (v := (-1)) dX12_end_12 (by decide) ?_
    exact R_iret dX12_end_13 rfl rfl hf
  · have hf := hf.2 b1
    refine R_iload_n dX12_end_4 rfl 1 rfl ?_
    refine R_aload_n dX12_end_5 rfl 0 rfl ?_
    obtain ⟨ob2, hf⟩ := hf
    refine G12_1 dX12_end_6 lfX12_121 ob2 ?_
    refine R_icmp_le (tgt := 14) dX12_end_9 (by decide) (fun b3 => ?_) (fun b3 => ?_)
    · have hf := hf.1 b3
      refine R_aload_n dX12_end_14 rfl 0 rfl ?_
      refine R_iload_n dX12_end_15 rfl 1 rfl ?_
      refine S12_1 dX12_end_16 lfX12_121 ob2 ?_
      refine R_iload_n dX12_end_19 rfl 1 rfl ?_
      exact R_iret dX12_end_20 rfl rfl hf
    · have hf := hf.2 b3
      refine R_iconst (v := (-1)) dX12_end_12 (by decide) ?_
      exact R_iret dX12_end_13 rfl rfl hf
theorem dX12_fails_0 : decode cX12_fails 0 = .ok (.aload_n 0, 1) := by decide +kernel
theorem dX12_fails_1 : decode cX12_fails 1 = .ok (.iload_n 1, 1) := by decide +kernel
theorem dX12_fails_2 : decode cX12_fails 2 = .ok (.putfield 172, 3) := by decide +kernel
theorem dX12_fails_5 : decode cX12_fails 5 = .ok (.aload_n 0, 1) := by decide +kernel
theorem dX12_fails_6 : decode cX12_fails 6 = .ok (.aload_n 0, 1) := by decide +kernel
theorem dX12_fails_7 : decode cX12_fails 7 = .ok (.getfield 146, 3) := by decide +kernel
theorem dX12_fails_10 : decode cX12_fails 10 = .ok (.putfield 13, 3) := by decide +kernel
theorem dX12_fails_13 : decode cX12_fails 13 = .ok (.iconst 0, 1) := by decide +kernel
theorem dX12_fails_14 : decode cX12_fails 14 = .ok (.ireturn, 1) := by decide +kernel
set_option maxRecDepth 20000 in
theorem sX12_fails_0 {P : Option Value → AH → Prop} (h : AH) (r0 : Nat) (x1 : Int32) (hf : (isO h 12 r0) ∧ (P (some (.int 0)) (sI (sI h r0 8 x1) r0 9 (gI (sI h r0 8 x1) r0 5)))) : Rr mX12_fails 0 0 0 [(0, .ref r0), (1, .int x1)] [] h P := by
  refine R_aload_n dX12_fails_0 rfl 0 rfl ?_
  refine R_iload_n dX12_fails_1 rfl 1 rfl ?_
  obtain ⟨ob1, hf⟩ := hf
  refine S12_8 dX12_fails_2 lfX12_172 ob1 ?_
  refine R_aload_n dX12_fails_5 rfl 0 rfl ?_
  refine R_aload_n dX12_fails_6 rfl 0 rfl ?_
  refine G12_5 dX12_fails_7 lfX12_146 ob1 ?_
  refine S12_9 dX12_fails_10 lfX12_13 ob1 ?_
  refine R_iconst (v := 0) dX12_fails_13 (by decide) ?_
  exact R_iret dX12_fails_14 rfl rfl hf
theorem dX12_fault_0 : decode cX12_fault 0 = .ok (.iload_n 1, 1) := by decide +kernel
theorem dX12_fault_1 : decode cX12_fault 1 = .ok (.ifCond .ne 10, 3) := by decide +kernel
theorem dX12_fault_4 : decode cX12_fault 4 = .ok (.aload_n 0, 1) := by decide +kernel
theorem dX12_fault_5 : decode cX12_fault 5 = .ok (.getfield 172, 3) := by decide +kernel
theorem dX12_fault_8 : decode cX12_fault 8 = .ok (.goto 16, 3) := by decide +kernel
theorem dX12_fault_11 : decode cX12_fault 11 = .ok (.iload_n 1, 1) := by decide +kernel
theorem dX12_fault_12 : decode cX12_fault 12 = .ok (.iconst 1, 1) := by decide +kernel
theorem dX12_fault_13 : decode cX12_fault 13 = .ok (.if_icmp .ne 10, 3) := by decide +kernel
theorem dX12_fault_16 : decode cX12_fault 16 = .ok (.aload_n 0, 1) := by decide +kernel
theorem dX12_fault_17 : decode cX12_fault 17 = .ok (.getfield 13, 3) := by decide +kernel
theorem dX12_fault_20 : decode cX12_fault 20 = .ok (.goto 4, 3) := by decide +kernel
theorem dX12_fault_23 : decode cX12_fault 23 = .ok (.iconst (-1), 1) := by decide +kernel
theorem dX12_fault_24 : decode cX12_fault 24 = .ok (.ireturn, 1) := by decide +kernel
set_option maxRecDepth 20000 in
theorem sX12_fault_0 {P : Option Value → AH → Prop} (h : AH) (r0 : Nat) (x1 : Int32) (hf : (isO h 12 r0) ∧ (∀ z4 : Int32, z4 = (if x1 = 0 then (gI h r0 8) else (if x1 = 1 then (gI h r0 9) else (-1))) → (P (some (.int z4)) h))) : Rr mX12_fault 0 0 0 [(0, .ref r0), (1, .int x1)] [] h P := by
  refine R_iload_n dX12_fault_0 rfl 1 rfl ?_
  obtain ⟨ob3, hf⟩ := hf
  have key : ∀ z4 : Int32, z4 = (if x1 = 0 then (gI h r0 8) else (if x1 = 1 then (gI h r0 9) else (-1))) → Rr mX12_fault 0 0 24 [] [.int z4] h P := by
    intro z4 ez4
    have hf := hf z4 ez4
    exact R_iret dX12_fault_24 rfl rfl hf
  refine R_if_ne (tgt := 11) dX12_fault_1 (by decide) (fun b1 => ?_) (fun b1 => ?_)
  · refine R_iload_n dX12_fault_11 rfl 1 rfl ?_
    refine R_iconst (v := 1) dX12_fault_12 (by decide) ?_
    refine R_icmp_ne (tgt := 23) dX12_fault_13 (by decide) (fun b2 => ?_) (fun b2 => ?_)
    · refine R_iconst (v := (-1)) dX12_fault_23 (by decide) ?_
      exact R_sub [] rfl (key _ (by rw [if_neg b1, if_neg b2]))
    · refine R_aload_n dX12_fault_16 rfl 0 rfl ?_
      refine G12_9 dX12_fault_17 lfX12_13 ob3 ?_
      refine R_goto (tgt := 24) dX12_fault_20 (by decide) ?_
      exact R_sub [] rfl (key _ (by rw [if_neg b1, if_pos b2]))
  · refine R_aload_n dX12_fault_4 rfl 0 rfl ?_
    refine G12_8 dX12_fault_5 lfX12_172 ob3 ?_
    refine R_goto (tgt := 24) dX12_fault_8 (by decide) ?_
    exact R_sub [] rfl (key _ (by rw [if_pos b1]))
theorem aX12_fault {h : AH} {P : Option Value → AH → Prop} {r0 : Nat} {x1 : Int32} (o0 : isO h 12 r0) (k : P (some (.int (if x1 = 0 then (gI h r0 8) else (if x1 = 1 then (gI h r0 9) else (-1))))) h) : Call mX12_fault [.ref r0, .int x1] h P :=
  Call.ofR (by decide +kernel) (Nat.le_of_ble_eq_true rfl) (sX12_fault_0 h r0 x1 (⟨o0, fun z4 ez4 => by subst ez4; exact (k)⟩))
theorem dX12_feed_0 : decode cX12_feed 0 = .ok (.aload_n 0, 1) := by decide +kernel
theorem dX12_feed_1 : decode cX12_feed 1 = .ok (.getfield 121, 3) := by decide +kernel
theorem dX12_feed_4 : decode cX12_feed 4 = .ok (.bipush 20, 2) := by decide +kernel
theorem dX12_feed_6 : decode cX12_feed 6 = .ok (.iadd, 1) := by decide +kernel
theorem dX12_feed_7 : decode cX12_feed 7 = .ok (.sipush 900, 3) := by decide +kernel
theorem dX12_feed_10 : decode cX12_feed 10 = .ok (.if_icmp .le 6, 3) := by decide +kernel
theorem dX12_feed_13 : decode cX12_feed 13 = .ok (.bipush (-3), 2) := by decide +kernel
theorem dX12_feed_15 : decode cX12_feed 15 = .ok (.ireturn, 1) := by decide +kernel
theorem dX12_feed_16 : decode cX12_feed 16 = .ok (.iconst 0, 1) := by decide +kernel
theorem dX12_feed_17 : decode cX12_feed 17 = .ok (.istore 6, 2) := by decide +kernel
theorem dX12_feed_19 : decode cX12_feed 19 = .ok (.iload 6, 2) := by decide +kernel
theorem dX12_feed_21 : decode cX12_feed 21 = .ok (.iconst 5, 1) := by decide +kernel
theorem dX12_feed_22 : decode cX12_feed 22 = .ok (.if_icmp .ge 93, 3) := by decide +kernel
theorem dX12_feed_25 : decode cX12_feed 25 = .ok (.iload 6, 2) := by decide +kernel
theorem dX12_feed_27 : decode cX12_feed 27 = .ok (.ifCond .ne 7, 3) := by decide +kernel
theorem dX12_feed_30 : decode cX12_feed 30 = .ok (.iload_n 1, 1) := by decide +kernel
theorem dX12_feed_31 : decode cX12_feed 31 = .ok (.goto 36, 3) := by decide +kernel
theorem dX12_feed_34 : decode cX12_feed 34 = .ok (.iload 6, 2) := by decide +kernel
theorem dX12_feed_36 : decode cX12_feed 36 = .ok (.iconst 1, 1) := by decide +kernel
theorem dX12_feed_37 : decode cX12_feed 37 = .ok (.if_icmp .ne 7, 3) := by decide +kernel
theorem dX12_feed_40 : decode cX12_feed 40 = .ok (.iload_n 2, 1) := by decide +kernel
theorem dX12_feed_41 : decode cX12_feed 41 = .ok (.goto 26, 3) := by decide +kernel
theorem dX12_feed_44 : decode cX12_feed 44 = .ok (.iload 6, 2) := by decide +kernel
theorem dX12_feed_46 : decode cX12_feed 46 = .ok (.iconst 2, 1) := by decide +kernel
theorem dX12_feed_47 : decode cX12_feed 47 = .ok (.if_icmp .ne 7, 3) := by decide +kernel
theorem dX12_feed_50 : decode cX12_feed 50 = .ok (.iload_n 3, 1) := by decide +kernel
theorem dX12_feed_51 : decode cX12_feed 51 = .ok (.goto 16, 3) := by decide +kernel
theorem dX12_feed_54 : decode cX12_feed 54 = .ok (.iload 6, 2) := by decide +kernel
theorem dX12_feed_56 : decode cX12_feed 56 = .ok (.iconst 3, 1) := by decide +kernel
theorem dX12_feed_57 : decode cX12_feed 57 = .ok (.if_icmp .ne 8, 3) := by decide +kernel
theorem dX12_feed_60 : decode cX12_feed 60 = .ok (.iload 4, 2) := by decide +kernel
theorem dX12_feed_62 : decode cX12_feed 62 = .ok (.goto 5, 3) := by decide +kernel
theorem dX12_feed_65 : decode cX12_feed 65 = .ok (.iload 5, 2) := by decide +kernel
theorem dX12_feed_67 : decode cX12_feed 67 = .ok (.istore 7, 2) := by decide +kernel
theorem dX12_feed_69 : decode cX12_feed 69 = .ok (.bipush 24, 2) := by decide +kernel
theorem dX12_feed_71 : decode cX12_feed 71 = .ok (.istore 8, 2) := by decide +kernel
theorem dX12_feed_73 : decode cX12_feed 73 = .ok (.iload 8, 2) := by decide +kernel
theorem dX12_feed_75 : decode cX12_feed 75 = .ok (.ifCond .lt 34, 3) := by decide +kernel
theorem dX12_feed_78 : decode cX12_feed 78 = .ok (.aload_n 0, 1) := by decide +kernel
theorem dX12_feed_79 : decode cX12_feed 79 = .ok (.getfield 7, 3) := by decide +kernel
theorem dX12_feed_82 : decode cX12_feed 82 = .ok (.aload_n 0, 1) := by decide +kernel
theorem dX12_feed_83 : decode cX12_feed 83 = .ok (.getfield 121, 3) := by decide +kernel
theorem dX12_feed_86 : decode cX12_feed 86 = .ok (.iload 7, 2) := by decide +kernel
theorem dX12_feed_88 : decode cX12_feed 88 = .ok (.iload 8, 2) := by decide +kernel
theorem dX12_feed_90 : decode cX12_feed 90 = .ok (.ishr, 1) := by decide +kernel
theorem dX12_feed_91 : decode cX12_feed 91 = .ok (.i2b, 1) := by decide +kernel
theorem dX12_feed_92 : decode cX12_feed 92 = .ok (.bastore, 1) := by decide +kernel
theorem dX12_feed_93 : decode cX12_feed 93 = .ok (.aload_n 0, 1) := by decide +kernel
theorem dX12_feed_94 : decode cX12_feed 94 = .ok (.dup, 1) := by decide +kernel
theorem dX12_feed_95 : decode cX12_feed 95 = .ok (.getfield 121, 3) := by decide +kernel
theorem dX12_feed_98 : decode cX12_feed 98 = .ok (.iconst 1, 1) := by decide +kernel
theorem dX12_feed_99 : decode cX12_feed 99 = .ok (.iadd, 1) := by decide +kernel
theorem dX12_feed_100 : decode cX12_feed 100 = .ok (.putfield 121, 3) := by decide +kernel
theorem dX12_feed_103 : decode cX12_feed 103 = .ok (.iinc 8 (-8), 3) := by decide +kernel
theorem dX12_feed_106 : decode cX12_feed 106 = .ok (.goto (-33), 3) := by decide +kernel
theorem dX12_feed_109 : decode cX12_feed 109 = .ok (.iinc 6 1, 3) := by decide +kernel
theorem dX12_feed_112 : decode cX12_feed 112 = .ok (.goto (-93), 3) := by decide +kernel
theorem dX12_feed_115 : decode cX12_feed 115 = .ok (.aload_n 0, 1) := by decide +kernel
theorem dX12_feed_116 : decode cX12_feed 116 = .ok (.getfield 121, 3) := by decide +kernel
theorem dX12_feed_119 : decode cX12_feed 119 = .ok (.ireturn, 1) := by decide +kernel
set_option maxRecDepth 20000 in
theorem sX12_feed_0 {P : Option Value → AH → Prop} (h : AH) (r0 : Nat) (x1 : Int32) (x2 : Int32) (x3 : Int32) (x4 : Int32) (x5 : Int32) (hf : (isO h 12 r0) ∧ ((((gI h r0 1) + 20) ≤ 900 → Rr mX12_feed 0 0 19 [(0, .ref r0), (1, .int x1), (2, .int x2), (3, .int x3), (4, .int x4), (5, .int x5), (6, .int 0)] [] h P) ∧ (¬ ((gI h r0 1) + 20) ≤ 900 → P (some (.int (-3))) h))) : Rr mX12_feed 0 0 0 [(0, .ref r0), (1, .int x1), (2, .int x2), (3, .int x3), (4, .int x4), (5, .int x5)] [] h P := by
  refine R_aload_n dX12_feed_0 rfl 0 rfl ?_
  obtain ⟨ob1, hf⟩ := hf
  refine G12_1 dX12_feed_1 lfX12_121 ob1 ?_
  refine R_bipush (v := 20) dX12_feed_4 (by decide) ?_
  refine R_iadd dX12_feed_6 ?_
  refine R_sipush (v := 900) dX12_feed_7 (by decide) ?_
  refine R_icmp_le (tgt := 16) dX12_feed_10 (by decide) (fun b2 => ?_) (fun b2 => ?_)
  · have hf := hf.1 b2
    refine R_iconst (v := 0) dX12_feed_16 (by decide) ?_
    refine R_istore dX12_feed_17 (by decide) rfl ?_
    exact R_sub [1, 2, 3, 4, 5, 6, 0] rfl hf
  · have hf := hf.2 b2
    refine R_bipush (v := (-3)) dX12_feed_13 (by decide) ?_
    exact R_iret dX12_feed_15 rfl rfl hf
set_option maxRecDepth 20000 in
theorem sX12_feed_19 {P : Option Value → AH → Prop} (h : AH) (r0 : Nat) (x1 : Int32) (x2 : Int32) (x3 : Int32) (x4 : Int32) (x5 : Int32) (x6 : Int32) (hf : (5 ≤ x6 → (isO h 12 r0) ∧ (P (some (.int (gI h r0 1))) h)) ∧ (¬ 5 ≤ x6 → ∀ z7 : Int32, z7 = (if x6 = 0 then x1 else (if x6 = 1 then x2 else (if x6 = 2 then x3 else (if x6 = 3 then x4 else x5)))) → (Rr mX12_feed 0 0 73 [(0, .ref r0), (1, .int x1), (2, .int x2), (3, .int x3), (4, .int x4), (5, .int x5), (6, .int x6), (7, .int z7), (8, .int 24)] [] h P))) : Rr mX12_feed 0 0 19 [(0, .ref r0), (1, .int x1), (2, .int x2), (3, .int x3), (4, .int x4), (5, .int x5), (6, .int x6)] [] h P := by
  refine R_iload dX12_feed_19 6 rfl ?_
  refine R_iconst (v := 5) dX12_feed_21 (by decide) ?_
  refine R_icmp_ge (tgt := 115) dX12_feed_22 (by decide) (fun b1 => ?_) (fun b1 => ?_)
  · have hf := hf.1 b1
    refine R_aload_n dX12_feed_115 rfl 0 rfl ?_
    obtain ⟨ob2, hf⟩ := hf
    refine G12_1 dX12_feed_116 lfX12_121 ob2 ?_
    exact R_iret dX12_feed_119 rfl rfl hf
  · have hf := hf.2 b1
    refine R_iload dX12_feed_25 6 rfl ?_
    have key : ∀ z7 : Int32, z7 = (if x6 = 0 then x1 else (if x6 = 1 then x2 else (if x6 = 2 then x3 else (if x6 = 3 then x4 else x5)))) → Rr mX12_feed 0 0 67 [(0, .ref r0), (1, .int x1), (2, .int x2), (3, .int x3), (4, .int x4), (5, .int x5), (6, .int x6)] [.int z7] h P := by
      intro z7 ez7
      have hf := hf z7 ez7
      refine R_istore dX12_feed_67 (by decide) rfl ?_
      refine R_bipush (v := 24) dX12_feed_69 (by decide) ?_
      refine R_istore dX12_feed_71 (by decide) rfl ?_
      exact R_sub [2, 3, 4, 5, 6, 7, 8, 1, 0] rfl hf
    refine R_if_ne (tgt := 34) dX12_feed_27 (by decide) (fun b3 => ?_) (fun b3 => ?_)
    · refine R_iload dX12_feed_34 6 rfl ?_
      refine R_iconst (v := 1) dX12_feed_36 (by decide) ?_
      refine R_icmp_ne (tgt := 44) dX12_feed_37 (by decide) (fun b4 => ?_) (fun b4 => ?_)
      · refine R_iload dX12_feed_44 6 rfl ?_
        refine R_iconst (v := 2) dX12_feed_46 (by decide) ?_
        refine R_icmp_ne (tgt := 54) dX12_feed_47 (by decide) (fun b5 => ?_) (fun b5 => ?_)
        · refine R_iload dX12_feed_54 6 rfl ?_
          refine R_iconst (v := 3) dX12_feed_56 (by decide) ?_
          refine R_icmp_ne (tgt := 65) dX12_feed_57 (by decide) (fun b6 => ?_) (fun b6 => ?_)
          · refine R_iload dX12_feed_65 5 rfl ?_
            exact R_sub [0, 1, 2, 3, 4, 5, 6] rfl (key _ (by rw [if_neg b3, if_neg b4, if_neg b5, if_neg b6]))
          · refine R_iload dX12_feed_60 4 rfl ?_
            refine R_goto (tgt := 67) dX12_feed_62 (by decide) ?_
            exact R_sub [0, 1, 2, 3, 4, 5, 6] rfl (key _ (by rw [if_neg b3, if_neg b4, if_neg b5, if_pos b6]))
        · refine R_iload_n dX12_feed_50 rfl 3 rfl ?_
          refine R_goto (tgt := 67) dX12_feed_51 (by decide) ?_
          exact R_sub [0, 1, 2, 3, 4, 5, 6] rfl (key _ (by rw [if_neg b3, if_neg b4, if_pos b5]))
      · refine R_iload_n dX12_feed_40 rfl 2 rfl ?_
        refine R_goto (tgt := 67) dX12_feed_41 (by decide) ?_
        exact R_sub [0, 1, 2, 3, 4, 5, 6] rfl (key _ (by rw [if_neg b3, if_pos b4]))
    · refine R_iload_n dX12_feed_30 rfl 1 rfl ?_
      refine R_goto (tgt := 67) dX12_feed_31 (by decide) ?_
      exact R_sub [0, 1, 2, 3, 4, 5, 6] rfl (key _ (by rw [if_pos b3]))
set_option maxRecDepth 20000 in
theorem sX12_feed_73 {P : Option Value → AH → Prop} (h : AH) (r0 : Nat) (x1 : Int32) (x2 : Int32) (x3 : Int32) (x4 : Int32) (x5 : Int32) (x6 : Int32) (x7 : Int32) (x8 : Int32) (hf : (x8 < 0 → Rr mX12_feed 0 0 19 [(0, .ref r0), (1, .int x1), (2, .int x2), (3, .int x3), (4, .int x4), (5, .int x5), (6, .int (x6 + 1))] [] h P) ∧ (¬ x8 < 0 → (isO h 12 r0) ∧ ((isA h 2 (gF h r0 0)) ∧ ((vp_in (gI h r0 1) (ln (gF h r0 0))) ∧ (Rr mX12_feed 0 0 73 [(0, .ref r0), (1, .int x1), (2, .int x2), (3, .int x3), (4, .int x4), (5, .int x5), (6, .int x6), (7, .int x7), (8, .int (x8 + (-8)))] [] (sI (sI h (gF h r0 0) (gI h r0 1).toNatClampNeg (x7 >>> (x8 &&& 31)).toInt8.toInt32.toInt8.toInt32) r0 1 ((gI (sI h (gF h r0 0) (gI h r0 1).toNatClampNeg (x7 >>> (x8 &&& 31)).toInt8.toInt32.toInt8.toInt32) r0 1) + 1)) P))))) : Rr mX12_feed 0 0 73 [(0, .ref r0), (1, .int x1), (2, .int x2), (3, .int x3), (4, .int x4), (5, .int x5), (6, .int x6), (7, .int x7), (8, .int x8)] [] h P := by
  refine R_iload dX12_feed_73 8 rfl ?_
  refine R_if_lt (tgt := 109) dX12_feed_75 (by decide) (fun b1 => ?_) (fun b1 => ?_)
  · have hf := hf.1 b1
    refine R_iinc (v := x6 + 1) dX12_feed_109 6 rfl rfl (by decide) rfl ?_
    refine R_goto (tgt := 19) dX12_feed_112 (by decide) ?_
    exact R_sub [1, 2, 3, 4, 5, 6, 0] rfl hf
  · have hf := hf.2 b1
    refine R_aload_n dX12_feed_78 rfl 0 rfl ?_
    obtain ⟨ob2, hf⟩ := hf
    refine G12_0 dX12_feed_79 lfX12_7 ob2 ?_
    refine R_aload_n dX12_feed_82 rfl 0 rfl ?_
    refine G12_1 dX12_feed_83 lfX12_121 ob2 ?_
    refine R_iload dX12_feed_86 7 rfl ?_
    refine R_iload dX12_feed_88 8 rfl ?_
    refine R_ishr dX12_feed_90 ?_
    refine R_i2b dX12_feed_91 ?_
    obtain ⟨ob3, hf⟩ := hf
    obtain ⟨ob4, hf⟩ := hf
    refine R_bastore dX12_feed_92 ob3 ob4 ?_
    refine R_aload_n dX12_feed_93 rfl 0 rfl ?_
    refine R_dup dX12_feed_94 rfl ?_
    refine G12_1 dX12_feed_95 lfX12_121 ob2 ?_
    refine R_iconst (v := 1) dX12_feed_98 (by decide) ?_
    refine R_iadd dX12_feed_99 ?_
    refine S12_1 dX12_feed_100 lfX12_121 ob2 ?_
    refine R_iinc (v := x8 + (-8)) dX12_feed_103 8 rfl rfl (by decide) rfl ?_
    refine R_goto (tgt := 73) dX12_feed_106 (by decide) ?_
    exact R_sub [1, 2, 3, 4, 5, 6, 7, 8, 0] rfl hf
theorem dX12_goOn_0 : decode cX12_goOn 0 = .ok (.lload_n 2, 1) := by decide +kernel
theorem dX12_goOn_1 : decode cX12_goOn 1 = .ok (.iload 4, 2) := by decide +kernel
theorem dX12_goOn_3 : decode cX12_goOn 3 = .ok (.i2l, 1) := by decide +kernel
theorem dX12_goOn_4 : decode cX12_goOn 4 = .ok (.lmul, 1) := by decide +kernel
theorem dX12_goOn_5 : decode cX12_goOn 5 = .ok (.iload_n 1, 1) := by decide +kernel
theorem dX12_goOn_6 : decode cX12_goOn 6 = .ok (.i2l, 1) := by decide +kernel
theorem dX12_goOn_7 : decode cX12_goOn 7 = .ok (.lmul, 1) := by decide +kernel
theorem dX12_goOn_8 : decode cX12_goOn 8 = .ok (.iload 5, 2) := by decide +kernel
theorem dX12_goOn_10 : decode cX12_goOn 10 = .ok (.i2l, 1) := by decide +kernel
theorem dX12_goOn_11 : decode cX12_goOn 11 = .ok (.aload_n 0, 1) := by decide +kernel
theorem dX12_goOn_12 : decode cX12_goOn 12 = .ok (.getfield 102, 3) := by decide +kernel
theorem dX12_goOn_15 : decode cX12_goOn 15 = .ok (.iload_n 1, 1) := by decide +kernel
theorem dX12_goOn_16 : decode cX12_goOn 16 = .ok (.bipush 6, 2) := by decide +kernel
theorem dX12_goOn_18 : decode cX12_goOn 18 = .ok (.if_icmp .ge 9, 3) := by decide +kernel
theorem dX12_goOn_21 : decode cX12_goOn 21 = .ok (.iload_n 1, 1) := by decide +kernel
theorem dX12_goOn_22 : decode cX12_goOn 22 = .ok (.iconst 1, 1) := by decide +kernel
theorem dX12_goOn_23 : decode cX12_goOn 23 = .ok (.iadd, 1) := by decide +kernel
theorem dX12_goOn_24 : decode cX12_goOn 24 = .ok (.goto 5, 3) := by decide +kernel
theorem dX12_goOn_27 : decode cX12_goOn 27 = .ok (.bipush 6, 2) := by decide +kernel
theorem dX12_goOn_29 : decode cX12_goOn 29 = .ok (.laload, 1) := by decide +kernel
theorem dX12_goOn_30 : decode cX12_goOn 30 = .ok (.lmul, 1) := by decide +kernel
theorem dX12_goOn_31 : decode cX12_goOn 31 = .ok (.ladd, 1) := by decide +kernel
theorem dX12_goOn_32 : decode cX12_goOn 32 = .ok (.iload 6, 2) := by decide +kernel
theorem dX12_goOn_34 : decode cX12_goOn 34 = .ok (.i2l, 1) := by decide +kernel
theorem dX12_goOn_35 : decode cX12_goOn 35 = .ok (.aload_n 0, 1) := by decide +kernel
theorem dX12_goOn_36 : decode cX12_goOn 36 = .ok (.getfield 102, 3) := by decide +kernel
theorem dX12_goOn_39 : decode cX12_goOn 39 = .ok (.iload_n 1, 1) := by decide +kernel
theorem dX12_goOn_40 : decode cX12_goOn 40 = .ok (.ifCond .le 9, 3) := by decide +kernel
theorem dX12_goOn_43 : decode cX12_goOn 43 = .ok (.iload_n 1, 1) := by decide +kernel
theorem dX12_goOn_44 : decode cX12_goOn 44 = .ok (.iconst 1, 1) := by decide +kernel
theorem dX12_goOn_45 : decode cX12_goOn 45 = .ok (.isub, 1) := by decide +kernel
theorem dX12_goOn_46 : decode cX12_goOn 46 = .ok (.goto 4, 3) := by decide +kernel
theorem dX12_goOn_49 : decode cX12_goOn 49 = .ok (.iconst 0, 1) := by decide +kernel
theorem dX12_goOn_50 : decode cX12_goOn 50 = .ok (.laload, 1) := by decide +kernel
theorem dX12_goOn_51 : decode cX12_goOn 51 = .ok (.lmul, 1) := by decide +kernel
theorem dX12_goOn_52 : decode cX12_goOn 52 = .ok (.ladd, 1) := by decide +kernel
theorem dX12_goOn_53 : decode cX12_goOn 53 = .ok (.bipush 10, 2) := by decide +kernel
theorem dX12_goOn_55 : decode cX12_goOn 55 = .ok (.iload 5, 2) := by decide +kernel
theorem dX12_goOn_57 : decode cX12_goOn 57 = .ok (.isub, 1) := by decide +kernel
theorem dX12_goOn_58 : decode cX12_goOn 58 = .ok (.iload 6, 2) := by decide +kernel
theorem dX12_goOn_60 : decode cX12_goOn 60 = .ok (.isub, 1) := by decide +kernel
theorem dX12_goOn_61 : decode cX12_goOn 61 = .ok (.i2l, 1) := by decide +kernel
theorem dX12_goOn_62 : decode cX12_goOn 62 = .ok (.aload_n 0, 1) := by decide +kernel
theorem dX12_goOn_63 : decode cX12_goOn 63 = .ok (.getfield 102, 3) := by decide +kernel
theorem dX12_goOn_66 : decode cX12_goOn 66 = .ok (.iload_n 1, 1) := by decide +kernel
theorem dX12_goOn_67 : decode cX12_goOn 67 = .ok (.laload, 1) := by decide +kernel
theorem dX12_goOn_68 : decode cX12_goOn 68 = .ok (.lmul, 1) := by decide +kernel
theorem dX12_goOn_69 : decode cX12_goOn 69 = .ok (.ladd, 1) := by decide +kernel
theorem dX12_goOn_70 : decode cX12_goOn 70 = .ok (.lreturn, 1) := by decide +kernel
set_option maxRecDepth 20000 in
theorem sX12_goOn_0 {P : Option Value → AH → Prop} (h : AH) (r0 : Nat) (x1 : Int32) (y2 : Int64) (x4 : Int32) (x5 : Int32) (x6 : Int32) (hf : (isO h 12 r0) ∧ (∀ z3 : Int32, z3 = (if 6 ≤ x1 then 6 else (x1 + 1)) → ((isA h 1 (gF h r0 54)) ∧ ((vp_in z3 (ln (gF h r0 54))) ∧ (∀ z7 : Int32, z7 = (if x1 ≤ 0 then 0 else (x1 - 1)) → ((vp_in z7 (ln (gF h r0 54))) ∧ ((vp_in x1 (ln (gF h r0 54))) ∧ (P (some (.long (((((y2 * x4.toInt64) * x1.toInt64) + (x5.toInt64 * (gL h (gF h r0 54) z3.toNatClampNeg))) + (x6.toInt64 * (gL h (gF h r0 54) z7.toNatClampNeg))) + (((10 - x5) - x6).toInt64 * (gL h (gF h r0 54) x1.toNatClampNeg))))) h)))))))) : Rr mX12_goOn 0 0 0 [(0, .ref r0), (1, .int x1), (2, .long y2), (4, .int x4), (5, .int x5), (6, .int x6)] [] h P := by
  refine R_lload_n dX12_goOn_0 rfl 2 rfl ?_
  refine R_iload dX12_goOn_1 3 rfl ?_
  refine R_i2l dX12_goOn_3 ?_
  refine R_lmul dX12_goOn_4 ?_
  refine R_iload_n dX12_goOn_5 rfl 1 rfl ?_
  refine R_i2l dX12_goOn_6 ?_
  refine R_lmul dX12_goOn_7 ?_
  refine R_iload dX12_goOn_8 4 rfl ?_
  refine R_i2l dX12_goOn_10 ?_
  refine R_aload_n dX12_goOn_11 rfl 0 rfl ?_
  obtain ⟨ob1, hf⟩ := hf
  refine G12_54 dX12_goOn_12 lfX12_102 ob1 ?_
  refine R_iload_n dX12_goOn_15 rfl 1 rfl ?_
  refine R_bipush (v := 6) dX12_goOn_16 (by decide) ?_
  have key : ∀ z3 : Int32, z3 = (if 6 ≤ x1 then 6 else (x1 + 1)) → Rr mX12_goOn 0 0 29 [(0, .ref r0), (1, .int x1), (5, .int x5), (6, .int x6)] [.int z3, .ref (gF h r0 54), .long x5.toInt64, .long ((y2 * x4.toInt64) * x1.toInt64)] h P := by
    intro z3 ez3
    have hf := hf z3 ez3
    obtain ⟨ob4, hf⟩ := hf
    obtain ⟨ob5, hf⟩ := hf
    refine R_laload dX12_goOn_29 ob4 ob5 ?_
    refine R_lmul dX12_goOn_30 ?_
    refine R_ladd dX12_goOn_31 ?_
    refine R_iload dX12_goOn_32 3 rfl ?_
    refine R_i2l dX12_goOn_34 ?_
    refine R_aload_n dX12_goOn_35 rfl 0 rfl ?_
    refine G12_54 dX12_goOn_36 lfX12_102 ob1 ?_
    refine R_iload_n dX12_goOn_39 rfl 1 rfl ?_
    have key : ∀ z7 : Int32, z7 = (if x1 ≤ 0 then 0 else (x1 - 1)) → Rr mX12_goOn 0 0 50 [(0, .ref r0), (1, .int x1), (5, .int x5), (6, .int x6)] [.int z7, .ref (gF h r0 54), .long x6.toInt64, .long (((y2 * x4.toInt64) * x1.toInt64) + (x5.toInt64 * (gL h (gF h r0 54) z3.toNatClampNeg)))] h P := by
      intro z7 ez7
      have hf := hf z7 ez7
      obtain ⟨ob8, hf⟩ := hf
      refine R_laload dX12_goOn_50 ob4 ob8 ?_
      refine R_lmul dX12_goOn_51 ?_
      refine R_ladd dX12_goOn_52 ?_
      refine R_bipush (v := 10) dX12_goOn_53 (by decide) ?_
      refine R_iload dX12_goOn_55 2 rfl ?_
      refine R_isub dX12_goOn_57 ?_
      refine R_iload dX12_goOn_58 3 rfl ?_
      refine R_isub dX12_goOn_60 ?_
      refine R_i2l dX12_goOn_61 ?_
      refine R_aload_n dX12_goOn_62 rfl 0 rfl ?_
      refine G12_54 dX12_goOn_63 lfX12_102 ob1 ?_
      refine R_iload_n dX12_goOn_66 rfl 1 rfl ?_
      obtain ⟨ob9, hf⟩ := hf
      refine R_laload dX12_goOn_67 ob4 ob9 ?_
      refine R_lmul dX12_goOn_68 ?_
      refine R_ladd dX12_goOn_69 ?_
      exact R_lret dX12_goOn_70 rfl hf
    refine R_if_le (tgt := 49) dX12_goOn_40 (by decide) (fun b6 => ?_) (fun b6 => ?_)
    · refine R_iconst (v := 0) dX12_goOn_49 (by decide) ?_
      exact R_sub [0, 1, 2, 3] rfl (key _ (by rw [if_pos b6]))
    · refine R_iload_n dX12_goOn_43 rfl 1 rfl ?_
      refine R_iconst (v := 1) dX12_goOn_44 (by decide) ?_
      refine R_isub dX12_goOn_45 ?_
      refine R_goto (tgt := 50) dX12_goOn_46 (by decide) ?_
      exact R_sub [0, 1, 2, 3] rfl (key _ (by rw [if_neg b6]))
  refine R_icmp_ge (tgt := 27) dX12_goOn_18 (by decide) (fun b2 => ?_) (fun b2 => ?_)
  · refine R_bipush (v := 6) dX12_goOn_27 (by decide) ?_
    exact R_sub [0, 1, 4, 5] rfl (key _ (by rw [if_pos b2]))
  · refine R_iload_n dX12_goOn_21 rfl 1 rfl ?_
    refine R_iconst (v := 1) dX12_goOn_22 (by decide) ?_
    refine R_iadd dX12_goOn_23 ?_
    refine R_goto (tgt := 29) dX12_goOn_24 (by decide) ?_
    exact R_sub [0, 1, 4, 5] rfl (key _ (by rw [if_neg b2]))
theorem aX12_goOn {h : AH} {P : Option Value → AH → Prop} {r0 : Nat} {x1 : Int32} {y2 : Int64} {x4 : Int32} {x5 : Int32} {x6 : Int32} (o0 : isO h 12 r0) (o1 : isA h 1 (gF h r0 54)) (o2 : vp_in (if 6 ≤ x1 then 6 else (x1 + 1)) (ln (gF h r0 54))) (o3 : vp_in (if x1 ≤ 0 then 0 else (x1 - 1)) (ln (gF h r0 54))) (o4 : vp_in x1 (ln (gF h r0 54))) (k : P (some (.long (((((y2 * x4.toInt64) * x1.toInt64) + (x5.toInt64 * (gL h (gF h r0 54) (if 6 ≤ x1 then 6 else (x1 + 1)).toNatClampNeg))) + (x6.toInt64 * (gL h (gF h r0 54) (if x1 ≤ 0 then 0 else (x1 - 1)).toNatClampNeg))) + (((10 - x5) - x6).toInt64 * (gL h (gF h r0 54) x1.toNatClampNeg))))) h) : Call mX12_goOn [.ref r0, .int x1, .long y2, .int x4, .int x5, .int x6] h P :=
  Call.ofR (by decide +kernel) (Nat.le_of_ble_eq_true rfl) (sX12_goOn_0 h r0 x1 y2 x4 x5 x6 (⟨o0, fun z3 ez3 => by subst ez3; exact (⟨o1, ⟨o2, fun z7 ez7 => by subst ez7; exact (⟨o3, ⟨o4, k⟩⟩)⟩⟩)⟩))
theorem dX12_in_0 : decode cX12_in 0 = .ok (.iload_n 0, 1) := by decide +kernel
theorem dX12_in_1 : decode cX12_in 1 = .ok (.iload_n 1, 1) := by decide +kernel
theorem dX12_in_2 : decode cX12_in 2 = .ok (.if_icmp .lt 12, 3) := by decide +kernel
theorem dX12_in_5 : decode cX12_in 5 = .ok (.iload_n 0, 1) := by decide +kernel
theorem dX12_in_6 : decode cX12_in 6 = .ok (.iload_n 2, 1) := by decide +kernel
theorem dX12_in_7 : decode cX12_in 7 = .ok (.if_icmp .gt 7, 3) := by decide +kernel
theorem dX12_in_10 : decode cX12_in 10 = .ok (.iconst 1, 1) := by decide +kernel
theorem dX12_in_11 : decode cX12_in 11 = .ok (.goto 4, 3) := by decide +kernel
theorem dX12_in_14 : decode cX12_in 14 = .ok (.iconst 0, 1) := by decide +kernel
theorem dX12_in_15 : decode cX12_in 15 = .ok (.ireturn, 1) := by decide +kernel
set_option maxRecDepth 20000 in
theorem sX12_in_0 {P : Option Value → AH → Prop} (h : AH) (x0 : Int32) (x1 : Int32) (x2 : Int32) (hf : P (some (.int (bi (¬ x0 < x1 ∧ ¬ x2 < x0)))) h) : Rr mX12_in 0 0 0 [(0, .int x0), (1, .int x1), (2, .int x2)] [] h P := by
  refine R_iload_n dX12_in_0 rfl 0 rfl ?_
  refine R_iload_n dX12_in_1 rfl 1 rfl ?_
  have key :  Rr mX12_in 0 0 15 [] [.int (bi (¬ x0 < x1 ∧ ¬ x2 < x0))] h P := by
    exact R_iret dX12_in_15 rfl (nb_n (bi_01 _)) hf
  refine R_icmp_lt (tgt := 14) dX12_in_2 (by decide) (fun b1 => ?_) (fun b1 => ?_)
  · refine R_iconst (v := 0) dX12_in_14 (by decide) ?_
    have kb := key
    rw [show bi (¬ x0 < x1 ∧ ¬ x2 < x0) = 0 from by simp only [bi, b1, false_and, and_false, true_and, and_true, not_true_eq_false, not_false_eq_true, if_true, if_false, true_or, or_true, false_or, or_false, reduceIte]] at kb
    exact R_sub [] rfl kb
  · refine R_iload_n dX12_in_5 rfl 0 rfl ?_
    refine R_iload_n dX12_in_6 rfl 2 rfl ?_
    refine R_icmp_gt (tgt := 14) dX12_in_7 (by decide) (fun b2 => ?_) (fun b2 => ?_)
    · refine R_iconst (v := 0) dX12_in_14 (by decide) ?_
      have kb := key
      rw [show bi (¬ x0 < x1 ∧ ¬ x2 < x0) = 0 from by simp only [bi, b1, b2, false_and, and_false, true_and, and_true, not_true_eq_false, not_false_eq_true, if_true, if_false, true_or, or_true, false_or, or_false, reduceIte]] at kb
      exact R_sub [] rfl kb
    · refine R_iconst (v := 1) dX12_in_10 (by decide) ?_
      refine R_goto (tgt := 15) dX12_in_11 (by decide) ?_
      have kb := key
      rw [show bi (¬ x0 < x1 ∧ ¬ x2 < x0) = 1 from by simp only [bi, b1, b2, false_and, and_false, true_and, and_true, not_true_eq_false, not_false_eq_true, if_true, if_false, true_or, or_true, false_or, or_false, reduceIte]] at kb
      exact R_sub [] rfl kb
theorem aX12_in {h : AH} {P : Option Value → AH → Prop} {x0 : Int32} {x1 : Int32} {x2 : Int32}  (k : P (some (.int (bi (¬ x0 < x1 ∧ ¬ x2 < x0)))) h) : Call mX12_in [.int x0, .int x1, .int x2] h P :=
  Call.ofR (by decide +kernel) (Nat.le_of_ble_eq_true rfl) (sX12_in_0 h x0 x1 x2 (k))
theorem dX12_isAgain_0 : decode cX12_isAgain 0 = .ok (.aload_n 0, 1) := by decide +kernel
theorem dX12_isAgain_1 : decode cX12_isAgain 1 = .ok (.getfield 189, 3) := by decide +kernel
theorem dX12_isAgain_4 : decode cX12_isAgain 4 = .ok (.iload_n 1, 1) := by decide +kernel
theorem dX12_isAgain_5 : decode cX12_isAgain 5 = .ok (.ishr, 1) := by decide +kernel
theorem dX12_isAgain_6 : decode cX12_isAgain 6 = .ok (.iconst 1, 1) := by decide +kernel
theorem dX12_isAgain_7 : decode cX12_isAgain 7 = .ok (.iand, 1) := by decide +kernel
theorem dX12_isAgain_8 : decode cX12_isAgain 8 = .ok (.iconst 1, 1) := by decide +kernel
theorem dX12_isAgain_9 : decode cX12_isAgain 9 = .ok (.if_icmp .ne 7, 3) := by decide +kernel
theorem dX12_isAgain_12 : decode cX12_isAgain 12 = .ok (.iconst 1, 1) := by decide +kernel
theorem dX12_isAgain_13 : decode cX12_isAgain 13 = .ok (.goto 4, 3) := by decide +kernel
theorem dX12_isAgain_16 : decode cX12_isAgain 16 = .ok (.iconst 0, 1) := by decide +kernel
theorem dX12_isAgain_17 : decode cX12_isAgain 17 = .ok (.istore_n 2, 1) := by decide +kernel
theorem dX12_isAgain_18 : decode cX12_isAgain 18 = .ok (.aload_n 0, 1) := by decide +kernel
theorem dX12_isAgain_19 : decode cX12_isAgain 19 = .ok (.dup, 1) := by decide +kernel
theorem dX12_isAgain_20 : decode cX12_isAgain 20 = .ok (.getfield 189, 3) := by decide +kernel
theorem dX12_isAgain_23 : decode cX12_isAgain 23 = .ok (.iconst 1, 1) := by decide +kernel
theorem dX12_isAgain_24 : decode cX12_isAgain 24 = .ok (.iload_n 1, 1) := by decide +kernel
theorem dX12_isAgain_25 : decode cX12_isAgain 25 = .ok (.ishl, 1) := by decide +kernel
theorem dX12_isAgain_26 : decode cX12_isAgain 26 = .ok (.ior, 1) := by decide +kernel
theorem dX12_isAgain_27 : decode cX12_isAgain 27 = .ok (.putfield 189, 3) := by decide +kernel
theorem dX12_isAgain_30 : decode cX12_isAgain 30 = .ok (.iload_n 2, 1) := by decide +kernel
theorem dX12_isAgain_31 : decode cX12_isAgain 31 = .ok (.ireturn, 1) := by decide +kernel
set_option maxRecDepth 20000 in
theorem sX12_isAgain_0 {P : Option Value → AH → Prop} (h : AH) (r0 : Nat) (x1 : Int32) (hf : (isO h 12 r0) ∧ (P (some (.int (bi ((((gI h r0 21) >>> (x1 &&& 31)) &&& 1) = 1)))) (sI h r0 21 ((gI h r0 21) ||| ((1 : Int32) <<< (x1 &&& 31)))))) : Rr mX12_isAgain 0 0 0 [(0, .ref r0), (1, .int x1)] [] h P := by
  refine R_aload_n dX12_isAgain_0 rfl 0 rfl ?_
  obtain ⟨ob1, hf⟩ := hf
  refine G12_21 dX12_isAgain_1 lfX12_189 ob1 ?_
  refine R_iload_n dX12_isAgain_4 rfl 1 rfl ?_
  refine R_ishr dX12_isAgain_5 ?_
  refine R_iconst (v := 1) dX12_isAgain_6 (by decide) ?_
  refine R_iand dX12_isAgain_7 ?_
  refine R_iconst (v := 1) dX12_isAgain_8 (by decide) ?_
  have key :  Rr mX12_isAgain 0 0 17 [(0, .ref r0), (1, .int x1)] [.int (bi ((((gI h r0 21) >>> (x1 &&& 31)) &&& 1) = 1))] h P := by
    refine R_istore_n dX12_isAgain_17 rfl (by decide) rfl ?_
    refine R_aload_n dX12_isAgain_18 rfl 1 rfl ?_
    refine R_dup dX12_isAgain_19 rfl ?_
    refine G12_21 dX12_isAgain_20 lfX12_189 ob1 ?_
    refine R_iconst (v := 1) dX12_isAgain_23 (by decide) ?_
    refine R_iload_n dX12_isAgain_24 rfl 2 rfl ?_
    refine R_ishl dX12_isAgain_25 ?_
    refine R_ior dX12_isAgain_26 ?_
    refine S12_21 dX12_isAgain_27 lfX12_189 ob1 ?_
    refine R_iload_n dX12_isAgain_30 rfl 0 rfl ?_
    exact R_iret dX12_isAgain_31 rfl (nb_n (bi_01 _)) hf
  refine R_icmp_ne (tgt := 16) dX12_isAgain_9 (by decide) (fun b2 => ?_) (fun b2 => ?_)
  · refine R_iconst (v := 0) dX12_isAgain_16 (by decide) ?_
    have kb := key
    rw [show bi ((((gI h r0 21) >>> (x1 &&& 31)) &&& 1) = 1) = 0 from by simp only [bi, b2, false_and, and_false, true_and, and_true, not_true_eq_false, not_false_eq_true, if_true, if_false, true_or, or_true, false_or, or_false, reduceIte]] at kb
    exact R_sub [0, 1] rfl kb
  · refine R_iconst (v := 1) dX12_isAgain_12 (by decide) ?_
    refine R_goto (tgt := 17) dX12_isAgain_13 (by decide) ?_
    have kb := key
    rw [show bi ((((gI h r0 21) >>> (x1 &&& 31)) &&& 1) = 1) = 1 from by simp only [bi, b2, false_and, and_false, true_and, and_true, not_true_eq_false, not_false_eq_true, if_true, if_false, true_or, or_true, false_or, or_false, reduceIte]] at kb
    exact R_sub [0, 1] rfl kb
theorem aX12_isAgain {h : AH} {P : Option Value → AH → Prop} {r0 : Nat} {x1 : Int32} (o0 : isO h 12 r0) (k : P (some (.int (bi ((((gI h r0 21) >>> (x1 &&& 31)) &&& 1) = 1)))) (sI h r0 21 ((gI h r0 21) ||| ((1 : Int32) <<< (x1 &&& 31))))) : Call mX12_isAgain [.ref r0, .int x1] h P :=
  Call.ofR (by decide +kernel) (Nat.le_of_ble_eq_true rfl) (sX12_isAgain_0 h r0 x1 (⟨o0, k⟩))
theorem dX12_isDigit_0 : decode cX12_isDigit 0 = .ok (.iload_n 0, 1) := by decide +kernel
theorem dX12_isDigit_1 : decode cX12_isDigit 1 = .ok (.bipush 48, 2) := by decide +kernel
theorem dX12_isDigit_3 : decode cX12_isDigit 3 = .ok (.if_icmp .lt 13, 3) := by decide +kernel
theorem dX12_isDigit_6 : decode cX12_isDigit 6 = .ok (.iload_n 0, 1) := by decide +kernel
theorem dX12_isDigit_7 : decode cX12_isDigit 7 = .ok (.bipush 57, 2) := by decide +kernel
theorem dX12_isDigit_9 : decode cX12_isDigit 9 = .ok (.if_icmp .gt 7, 3) := by decide +kernel
theorem dX12_isDigit_12 : decode cX12_isDigit 12 = .ok (.iconst 1, 1) := by decide +kernel
theorem dX12_isDigit_13 : decode cX12_isDigit 13 = .ok (.goto 4, 3) := by decide +kernel
theorem dX12_isDigit_16 : decode cX12_isDigit 16 = .ok (.iconst 0, 1) := by decide +kernel
theorem dX12_isDigit_17 : decode cX12_isDigit 17 = .ok (.ireturn, 1) := by decide +kernel
set_option maxRecDepth 20000 in
theorem sX12_isDigit_0 {P : Option Value → AH → Prop} (h : AH) (x0 : Int32) (hf : P (some (.int (bi (¬ x0 < 48 ∧ ¬ 57 < x0)))) h) : Rr mX12_isDigit 0 0 0 [(0, .int x0)] [] h P := by
  refine R_iload_n dX12_isDigit_0 rfl 0 rfl ?_
  refine R_bipush (v := 48) dX12_isDigit_1 (by decide) ?_
  have key :  Rr mX12_isDigit 0 0 17 [] [.int (bi (¬ x0 < 48 ∧ ¬ 57 < x0))] h P := by
    exact R_iret dX12_isDigit_17 rfl (nb_n (bi_01 _)) hf
  refine R_icmp_lt (tgt := 16) dX12_isDigit_3 (by decide) (fun b1 => ?_) (fun b1 => ?_)
  · refine R_iconst (v := 0) dX12_isDigit_16 (by decide) ?_
    have kb := key
    rw [show bi (¬ x0 < 48 ∧ ¬ 57 < x0) = 0 from by simp only [bi, b1, false_and, and_false, true_and, and_true, not_true_eq_false, not_false_eq_true, if_true, if_false, true_or, or_true, false_or, or_false, reduceIte]] at kb
    exact R_sub [] rfl kb
  · refine R_iload_n dX12_isDigit_6 rfl 0 rfl ?_
    refine R_bipush (v := 57) dX12_isDigit_7 (by decide) ?_
    refine R_icmp_gt (tgt := 16) dX12_isDigit_9 (by decide) (fun b2 => ?_) (fun b2 => ?_)
    · refine R_iconst (v := 0) dX12_isDigit_16 (by decide) ?_
      have kb := key
      rw [show bi (¬ x0 < 48 ∧ ¬ 57 < x0) = 0 from by simp only [bi, b1, b2, false_and, and_false, true_and, and_true, not_true_eq_false, not_false_eq_true, if_true, if_false, true_or, or_true, false_or, or_false, reduceIte]] at kb
      exact R_sub [] rfl kb
    · refine R_iconst (v := 1) dX12_isDigit_12 (by decide) ?_
      refine R_goto (tgt := 17) dX12_isDigit_13 (by decide) ?_
      have kb := key
      rw [show bi (¬ x0 < 48 ∧ ¬ 57 < x0) = 1 from by simp only [bi, b1, b2, false_and, and_false, true_and, and_true, not_true_eq_false, not_false_eq_true, if_true, if_false, true_or, or_true, false_or, or_false, reduceIte]] at kb
      exact R_sub [] rfl kb
theorem aX12_isDigit {h : AH} {P : Option Value → AH → Prop} {x0 : Int32}  (k : P (some (.int (bi (¬ x0 < 48 ∧ ¬ 57 < x0)))) h) : Call mX12_isDigit [.int x0] h P :=
  Call.ofR (by decide +kernel) (Nat.le_of_ble_eq_true rfl) (sX12_isDigit_0 h x0 (k))
theorem dX12_isLevel_0 : decode cX12_isLevel 0 = .ok (.iconst 0, 1) := by decide +kernel
theorem dX12_isLevel_1 : decode cX12_isLevel 1 = .ok (.istore 5, 2) := by decide +kernel
theorem dX12_isLevel_3 : decode cX12_isLevel 3 = .ok (.iconst 0, 1) := by decide +kernel
theorem dX12_isLevel_4 : decode cX12_isLevel 4 = .ok (.istore 6, 2) := by decide +kernel
theorem dX12_isLevel_6 : decode cX12_isLevel 6 = .ok (.iload_n 1, 1) := by decide +kernel
theorem dX12_isLevel_7 : decode cX12_isLevel 7 = .ok (.istore 7, 2) := by decide +kernel
theorem dX12_isLevel_9 : decode cX12_isLevel 9 = .ok (.iload 7, 2) := by decide +kernel
theorem dX12_isLevel_11 : decode cX12_isLevel 11 = .ok (.iload_n 2, 1) := by decide +kernel
theorem dX12_isLevel_12 : decode cX12_isLevel 12 = .ok (.if_icmp .ge 67, 3) := by decide +kernel
theorem dX12_isLevel_15 : decode cX12_isLevel 15 = .ok (.aload_n 0, 1) := by decide +kernel
theorem dX12_isLevel_16 : decode cX12_isLevel 16 = .ok (.getfield 99, 3) := by decide +kernel
theorem dX12_isLevel_19 : decode cX12_isLevel 19 = .ok (.iload 7, 2) := by decide +kernel
theorem dX12_isLevel_21 : decode cX12_isLevel 21 = .ok (.iaload, 1) := by decide +kernel
theorem dX12_isLevel_22 : decode cX12_isLevel 22 = .ok (.iload 7, 2) := by decide +kernel
theorem dX12_isLevel_24 : decode cX12_isLevel 24 = .ok (.iload_n 3, 1) := by decide +kernel
theorem dX12_isLevel_25 : decode cX12_isLevel 25 = .ok (.imul, 1) := by decide +kernel
theorem dX12_isLevel_26 : decode cX12_isLevel 26 = .ok (.isub, 1) := by decide +kernel
theorem dX12_isLevel_27 : decode cX12_isLevel 27 = .ok (.istore 8, 2) := by decide +kernel
theorem dX12_isLevel_29 : decode cX12_isLevel 29 = .ok (.iload 7, 2) := by decide +kernel
theorem dX12_isLevel_31 : decode cX12_isLevel 31 = .ok (.iload_n 1, 1) := by decide +kernel
theorem dX12_isLevel_32 : decode cX12_isLevel 32 = .ok (.if_icmp .eq 10, 3) := by decide +kernel
theorem dX12_isLevel_35 : decode cX12_isLevel 35 = .ok (.iload 8, 2) := by decide +kernel
theorem dX12_isLevel_37 : decode cX12_isLevel 37 = .ok (.iload 5, 2) := by decide +kernel
theorem dX12_isLevel_39 : decode cX12_isLevel 39 = .ok (.if_icmp .ge 8, 3) := by decide +kernel
theorem dX12_isLevel_42 : decode cX12_isLevel 42 = .ok (.iload 8, 2) := by decide +kernel
theorem dX12_isLevel_44 : decode cX12_isLevel 44 = .ok (.goto 5, 3) := by decide +kernel
theorem dX12_isLevel_47 : decode cX12_isLevel 47 = .ok (.iload 5, 2) := by decide +kernel
theorem dX12_isLevel_49 : decode cX12_isLevel 49 = .ok (.istore 5, 2) := by decide +kernel
theorem dX12_isLevel_51 : decode cX12_isLevel 51 = .ok (.iload 7, 2) := by decide +kernel
theorem dX12_isLevel_53 : decode cX12_isLevel 53 = .ok (.iload_n 1, 1) := by decide +kernel
theorem dX12_isLevel_54 : decode cX12_isLevel 54 = .ok (.if_icmp .eq 10, 3) := by decide +kernel
theorem dX12_isLevel_57 : decode cX12_isLevel 57 = .ok (.iload 8, 2) := by decide +kernel
theorem dX12_isLevel_59 : decode cX12_isLevel 59 = .ok (.iload 6, 2) := by decide +kernel
theorem dX12_isLevel_61 : decode cX12_isLevel 61 = .ok (.if_icmp .le 8, 3) := by decide +kernel
theorem dX12_isLevel_64 : decode cX12_isLevel 64 = .ok (.iload 8, 2) := by decide +kernel
theorem dX12_isLevel_66 : decode cX12_isLevel 66 = .ok (.goto 5, 3) := by decide +kernel
theorem dX12_isLevel_69 : decode cX12_isLevel 69 = .ok (.iload 6, 2) := by decide +kernel
theorem dX12_isLevel_71 : decode cX12_isLevel 71 = .ok (.istore 6, 2) := by decide +kernel
theorem dX12_isLevel_73 : decode cX12_isLevel 73 = .ok (.iinc 7 1, 3) := by decide +kernel
theorem dX12_isLevel_76 : decode cX12_isLevel 76 = .ok (.goto (-67), 3) := by decide +kernel
theorem dX12_isLevel_79 : decode cX12_isLevel 79 = .ok (.iload 6, 2) := by decide +kernel
theorem dX12_isLevel_81 : decode cX12_isLevel 81 = .ok (.iload 5, 2) := by decide +kernel
theorem dX12_isLevel_83 : decode cX12_isLevel 83 = .ok (.isub, 1) := by decide +kernel
theorem dX12_isLevel_84 : decode cX12_isLevel 84 = .ok (.iconst 2, 1) := by decide +kernel
theorem dX12_isLevel_85 : decode cX12_isLevel 85 = .ok (.iload 4, 2) := by decide +kernel
theorem dX12_isLevel_87 : decode cX12_isLevel 87 = .ok (.imul, 1) := by decide +kernel
theorem dX12_isLevel_88 : decode cX12_isLevel 88 = .ok (.if_icmp .gt 7, 3) := by decide +kernel
theorem dX12_isLevel_91 : decode cX12_isLevel 91 = .ok (.iconst 1, 1) := by decide +kernel
theorem dX12_isLevel_92 : decode cX12_isLevel 92 = .ok (.goto 4, 3) := by decide +kernel
theorem dX12_isLevel_95 : decode cX12_isLevel 95 = .ok (.iconst 0, 1) := by decide +kernel
theorem dX12_isLevel_96 : decode cX12_isLevel 96 = .ok (.ireturn, 1) := by decide +kernel
set_option maxRecDepth 20000 in
theorem sX12_isLevel_0 {P : Option Value → AH → Prop} (h : AH) (r0 : Nat) (x1 : Int32) (x2 : Int32) (x3 : Int32) (x4 : Int32) (hf : Rr mX12_isLevel 0 0 9 [(0, .ref r0), (1, .int x1), (2, .int x2), (3, .int x3), (4, .int x4), (5, .int 0), (6, .int 0), (7, .int x1)] [] h P) : Rr mX12_isLevel 0 0 0 [(0, .ref r0), (1, .int x1), (2, .int x2), (3, .int x3), (4, .int x4)] [] h P := by
  refine R_iconst (v := 0) dX12_isLevel_0 (by decide) ?_
  refine R_istore dX12_isLevel_1 (by decide) rfl ?_
  refine R_iconst (v := 0) dX12_isLevel_3 (by decide) ?_
  refine R_istore dX12_isLevel_4 (by decide) rfl ?_
  refine R_iload_n dX12_isLevel_6 rfl 3 rfl ?_
  refine R_istore dX12_isLevel_7 (by decide) rfl ?_
  exact R_sub [3, 4, 5, 6, 7, 2, 1, 0] rfl hf
set_option maxRecDepth 20000 in
theorem sX12_isLevel_9 {P : Option Value → AH → Prop} (h : AH) (r0 : Nat) (x1 : Int32) (x2 : Int32) (x3 : Int32) (x4 : Int32) (x5 : Int32) (x6 : Int32) (x7 : Int32) (hf : (x2 ≤ x7 → P (some (.int (bi (¬ (2 * x4) < (x6 - x5))))) h) ∧ (¬ x2 ≤ x7 → (isO h 12 r0) ∧ ((isA h 0 (gF h r0 53)) ∧ ((vp_in x7 (ln (gF h r0 53))) ∧ (∀ z8 : Int32, z8 = (if x7 = x1 then ((gI h (gF h r0 53) x7.toNatClampNeg) - (x7 * x3)) else (if x5 ≤ ((gI h (gF h r0 53) x7.toNatClampNeg) - (x7 * x3)) then x5 else ((gI h (gF h r0 53) x7.toNatClampNeg) - (x7 * x3)))) → (∀ z11 : Int32, z11 = (if x7 = x1 then ((gI h (gF h r0 53) x7.toNatClampNeg) - (x7 * x3)) else (if ((gI h (gF h r0 53) x7.toNatClampNeg) - (x7 * x3)) ≤ x6 then x6 else ((gI h (gF h r0 53) x7.toNatClampNeg) - (x7 * x3)))) → (Rr mX12_isLevel 0 0 9 [(0, .ref r0), (1, .int x1), (2, .int x2), (3, .int x3), (4, .int x4), (5, .int z8), (6, .int z11), (7, .int (x7 + 1))] [] h P))))))) : Rr mX12_isLevel 0 0 9 [(0, .ref r0), (1, .int x1), (2, .int x2), (3, .int x3), (4, .int x4), (5, .int x5), (6, .int x6), (7, .int x7)] [] h P := by
  refine R_iload dX12_isLevel_9 7 rfl ?_
  refine R_iload_n dX12_isLevel_11 rfl 2 rfl ?_
  refine R_icmp_ge (tgt := 79) dX12_isLevel_12 (by decide) (fun b1 => ?_) (fun b1 => ?_)
  · have hf := hf.1 b1
    refine R_iload dX12_isLevel_79 6 rfl ?_
    refine R_iload dX12_isLevel_81 5 rfl ?_
    refine R_isub dX12_isLevel_83 ?_
    refine R_iconst (v := 2) dX12_isLevel_84 (by decide) ?_
    refine R_iload dX12_isLevel_85 4 rfl ?_
    refine R_imul dX12_isLevel_87 ?_
    have key :  Rr mX12_isLevel 0 0 96 [] [.int (bi (¬ (2 * x4) < (x6 - x5)))] h P := by
      exact R_iret dX12_isLevel_96 rfl (nb_n (bi_01 _)) hf
    refine R_icmp_gt (tgt := 95) dX12_isLevel_88 (by decide) (fun b2 => ?_) (fun b2 => ?_)
    · refine R_iconst (v := 0) dX12_isLevel_95 (by decide) ?_
      have kb := key
      rw [show bi (¬ (2 * x4) < (x6 - x5)) = 0 from by simp only [bi, b2, false_and, and_false, true_and, and_true, not_true_eq_false, not_false_eq_true, if_true, if_false, true_or, or_true, false_or, or_false, reduceIte]] at kb
      exact R_sub [] rfl kb
    · refine R_iconst (v := 1) dX12_isLevel_91 (by decide) ?_
      refine R_goto (tgt := 96) dX12_isLevel_92 (by decide) ?_
      have kb := key
      rw [show bi (¬ (2 * x4) < (x6 - x5)) = 1 from by simp only [bi, b2, false_and, and_false, true_and, and_true, not_true_eq_false, not_false_eq_true, if_true, if_false, true_or, or_true, false_or, or_false, reduceIte]] at kb
      exact R_sub [] rfl kb
  · have hf := hf.2 b1
    refine R_aload_n dX12_isLevel_15 rfl 0 rfl ?_
    obtain ⟨ob3, hf⟩ := hf
    refine G12_53 dX12_isLevel_16 lfX12_99 ob3 ?_
    refine R_iload dX12_isLevel_19 7 rfl ?_
    obtain ⟨ob4, hf⟩ := hf
    obtain ⟨ob5, hf⟩ := hf
    refine R_iaload dX12_isLevel_21 ob4 ob5 ?_
    refine R_iload dX12_isLevel_22 7 rfl ?_
    refine R_iload_n dX12_isLevel_24 rfl 3 rfl ?_
    refine R_imul dX12_isLevel_25 ?_
    refine R_isub dX12_isLevel_26 ?_
    refine R_istore dX12_isLevel_27 (by decide) rfl ?_
    refine R_iload dX12_isLevel_29 8 rfl ?_
    refine R_iload_n dX12_isLevel_31 rfl 2 rfl ?_
    have key : ∀ z8 : Int32, z8 = (if x7 = x1 then ((gI h (gF h r0 53) x7.toNatClampNeg) - (x7 * x3)) else (if x5 ≤ ((gI h (gF h r0 53) x7.toNatClampNeg) - (x7 * x3)) then x5 else ((gI h (gF h r0 53) x7.toNatClampNeg) - (x7 * x3)))) → Rr mX12_isLevel 0 0 49 [(0, .ref r0), (1, .int x1), (2, .int x2), (3, .int x3), (4, .int x4), (6, .int x6), (7, .int x7), (8, .int ((gI h (gF h r0 53) x7.toNatClampNeg) - (x7 * x3)))] [.int z8] h P := by
      intro z8 ez8
      have hf := hf z8 ez8
      refine R_istore dX12_isLevel_49 (by decide) rfl ?_
      refine R_iload dX12_isLevel_51 7 rfl ?_
      refine R_iload_n dX12_isLevel_53 rfl 2 rfl ?_
      have key : ∀ z11 : Int32, z11 = (if x7 = x1 then ((gI h (gF h r0 53) x7.toNatClampNeg) - (x7 * x3)) else (if ((gI h (gF h r0 53) x7.toNatClampNeg) - (x7 * x3)) ≤ x6 then x6 else ((gI h (gF h r0 53) x7.toNatClampNeg) - (x7 * x3)))) → Rr mX12_isLevel 0 0 71 [(0, .ref r0), (1, .int x1), (2, .int x2), (3, .int x3), (4, .int x4), (5, .int z8), (7, .int x7)] [.int z11] h P := by
        intro z11 ez11
        have hf := hf z11 ez11
        refine R_istore dX12_isLevel_71 (by decide) rfl ?_
        refine R_iinc (v := x7 + 1) dX12_isLevel_73 7 rfl rfl (by decide) rfl ?_
        refine R_goto (tgt := 9) dX12_isLevel_76 (by decide) ?_
        exact R_sub [2, 3, 4, 5, 6, 7, 1, 0] rfl hf
      refine R_icmp_eq (tgt := 64) dX12_isLevel_54 (by decide) (fun b9 => ?_) (fun b9 => ?_)
      · refine R_iload dX12_isLevel_64 8 rfl ?_
        refine R_goto (tgt := 71) dX12_isLevel_66 (by decide) ?_
        exact R_sub [1, 2, 3, 4, 5, 0, 7] rfl (key _ (by rw [if_pos b9]))
      · refine R_iload dX12_isLevel_57 8 rfl ?_
        refine R_iload dX12_isLevel_59 6 rfl ?_
        refine R_icmp_le (tgt := 69) dX12_isLevel_61 (by decide) (fun b10 => ?_) (fun b10 => ?_)
        · refine R_iload dX12_isLevel_69 6 rfl ?_
          exact R_sub [1, 2, 3, 4, 5, 0, 7] rfl (key _ (by rw [if_neg b9, if_pos b10]))
        · refine R_iload dX12_isLevel_64 8 rfl ?_
          refine R_goto (tgt := 71) dX12_isLevel_66 (by decide) ?_
          exact R_sub [1, 2, 3, 4, 5, 0, 7] rfl (key _ (by rw [if_neg b9, if_neg b10]))
    refine R_icmp_eq (tgt := 42) dX12_isLevel_32 (by decide) (fun b6 => ?_) (fun b6 => ?_)
    · refine R_iload dX12_isLevel_42 0 rfl ?_
      refine R_goto (tgt := 49) dX12_isLevel_44 (by decide) ?_
      exact R_sub [1, 2, 3, 4, 5, 7, 8, 0] rfl (key _ (by rw [if_pos b6]))
    · refine R_iload dX12_isLevel_35 0 rfl ?_
      refine R_iload dX12_isLevel_37 6 rfl ?_
      refine R_icmp_ge (tgt := 47) dX12_isLevel_39 (by decide) (fun b7 => ?_) (fun b7 => ?_)
      · refine R_iload dX12_isLevel_47 6 rfl ?_
        exact R_sub [1, 2, 3, 4, 5, 7, 8, 0] rfl (key _ (by rw [if_neg b6, if_pos b7]))
      · refine R_iload dX12_isLevel_42 0 rfl ?_
        refine R_goto (tgt := 49) dX12_isLevel_44 (by decide) ?_
        exact R_sub [1, 2, 3, 4, 5, 7, 8, 0] rfl (key _ (by rw [if_neg b6, if_neg b7]))
theorem dX12_isSmall_0 : decode cX12_isSmall 0 = .ok (.iload_n 0, 1) := by decide +kernel
theorem dX12_isSmall_1 : decode cX12_isSmall 1 = .ok (.bipush 97, 2) := by decide +kernel
theorem dX12_isSmall_3 : decode cX12_isSmall 3 = .ok (.if_icmp .lt 13, 3) := by decide +kernel
theorem dX12_isSmall_6 : decode cX12_isSmall 6 = .ok (.iload_n 0, 1) := by decide +kernel
theorem dX12_isSmall_7 : decode cX12_isSmall 7 = .ok (.bipush 122, 2) := by decide +kernel
theorem dX12_isSmall_9 : decode cX12_isSmall 9 = .ok (.if_icmp .gt 7, 3) := by decide +kernel
theorem dX12_isSmall_12 : decode cX12_isSmall 12 = .ok (.iconst 1, 1) := by decide +kernel
theorem dX12_isSmall_13 : decode cX12_isSmall 13 = .ok (.goto 4, 3) := by decide +kernel
theorem dX12_isSmall_16 : decode cX12_isSmall 16 = .ok (.iconst 0, 1) := by decide +kernel
theorem dX12_isSmall_17 : decode cX12_isSmall 17 = .ok (.ireturn, 1) := by decide +kernel
set_option maxRecDepth 20000 in
theorem sX12_isSmall_0 {P : Option Value → AH → Prop} (h : AH) (x0 : Int32) (hf : P (some (.int (bi (¬ x0 < 97 ∧ ¬ 122 < x0)))) h) : Rr mX12_isSmall 0 0 0 [(0, .int x0)] [] h P := by
  refine R_iload_n dX12_isSmall_0 rfl 0 rfl ?_
  refine R_bipush (v := 97) dX12_isSmall_1 (by decide) ?_
  have key :  Rr mX12_isSmall 0 0 17 [] [.int (bi (¬ x0 < 97 ∧ ¬ 122 < x0))] h P := by
    exact R_iret dX12_isSmall_17 rfl (nb_n (bi_01 _)) hf
  refine R_icmp_lt (tgt := 16) dX12_isSmall_3 (by decide) (fun b1 => ?_) (fun b1 => ?_)
  · refine R_iconst (v := 0) dX12_isSmall_16 (by decide) ?_
    have kb := key
    rw [show bi (¬ x0 < 97 ∧ ¬ 122 < x0) = 0 from by simp only [bi, b1, false_and, and_false, true_and, and_true, not_true_eq_false, not_false_eq_true, if_true, if_false, true_or, or_true, false_or, or_false, reduceIte]] at kb
    exact R_sub [] rfl kb
  · refine R_iload_n dX12_isSmall_6 rfl 0 rfl ?_
    refine R_bipush (v := 122) dX12_isSmall_7 (by decide) ?_
    refine R_icmp_gt (tgt := 16) dX12_isSmall_9 (by decide) (fun b2 => ?_) (fun b2 => ?_)
    · refine R_iconst (v := 0) dX12_isSmall_16 (by decide) ?_
      have kb := key
      rw [show bi (¬ x0 < 97 ∧ ¬ 122 < x0) = 0 from by simp only [bi, b1, b2, false_and, and_false, true_and, and_true, not_true_eq_false, not_false_eq_true, if_true, if_false, true_or, or_true, false_or, or_false, reduceIte]] at kb
      exact R_sub [] rfl kb
    · refine R_iconst (v := 1) dX12_isSmall_12 (by decide) ?_
      refine R_goto (tgt := 17) dX12_isSmall_13 (by decide) ?_
      have kb := key
      rw [show bi (¬ x0 < 97 ∧ ¬ 122 < x0) = 1 from by simp only [bi, b1, b2, false_and, and_false, true_and, and_true, not_true_eq_false, not_false_eq_true, if_true, if_false, true_or, or_true, false_or, or_false, reduceIte]] at kb
      exact R_sub [] rfl kb
theorem aX12_isSmall {h : AH} {P : Option Value → AH → Prop} {x0 : Int32}  (k : P (some (.int (bi (¬ x0 < 97 ∧ ¬ 122 < x0)))) h) : Call mX12_isSmall [.int x0] h P :=
  Call.ofR (by decide +kernel) (Nat.le_of_ble_eq_true rfl) (sX12_isSmall_0 h x0 (k))
