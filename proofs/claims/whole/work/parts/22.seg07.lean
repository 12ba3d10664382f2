theorem dX12_read_0 : decode cX12_read 0 = .ok (.iload_n 1, 1) := by decide +kernel
theorem dX12_read_1 : decode cX12_read 1 = .ok (.aload_n 0, 1) := by decide +kernel
theorem dX12_read_2 : decode cX12_read 2 = .ok (.getfield 205, 3) := by decide +kernel
theorem dX12_read_5 : decode cX12_read 5 = .ok (.sipush 999, 3) := by decide +kernel
theorem dX12_read_8 : decode cX12_read 8 = .ok (.invokestatic 178, 3) := by decide +kernel
theorem dX12_read_11 : decode cX12_read 11 = .ok (.ifCond .eq 50, 3) := by decide +kernel
theorem dX12_read_14 : decode cX12_read 14 = .ok (.iload_n 2, 1) := by decide +kernel
theorem dX12_read_15 : decode cX12_read 15 = .ok (.invokestatic 259, 3) := by decide +kernel
theorem dX12_read_18 : decode cX12_read 18 = .ok (.ifCond .eq 43, 3) := by decide +kernel
theorem dX12_read_21 : decode cX12_read 21 = .ok (.iload_n 3, 1) := by decide +kernel
theorem dX12_read_22 : decode cX12_read 22 = .ok (.iconst 0, 1) := by decide +kernel
theorem dX12_read_23 : decode cX12_read 23 = .ok (.aload_n 0, 1) := by decide +kernel
theorem dX12_read_24 : decode cX12_read 24 = .ok (.getfield 17, 3) := by decide +kernel
theorem dX12_read_27 : decode cX12_read 27 = .ok (.iconst 2, 1) := by decide +kernel
theorem dX12_read_28 : decode cX12_read 28 = .ok (.iaload, 1) := by decide +kernel
theorem dX12_read_29 : decode cX12_read 29 = .ok (.iconst 1, 1) := by decide +kernel
theorem dX12_read_30 : decode cX12_read 30 = .ok (.isub, 1) := by decide +kernel
theorem dX12_read_31 : decode cX12_read 31 = .ok (.invokestatic 178, 3) := by decide +kernel
theorem dX12_read_34 : decode cX12_read 34 = .ok (.ifCond .eq 27, 3) := by decide +kernel
theorem dX12_read_37 : decode cX12_read 37 = .ok (.iload 4, 2) := by decide +kernel
theorem dX12_read_39 : decode cX12_read 39 = .ok (.bipush (-99), 2) := by decide +kernel
theorem dX12_read_41 : decode cX12_read 41 = .ok (.bipush 99, 2) := by decide +kernel
theorem dX12_read_43 : decode cX12_read 43 = .ok (.invokestatic 178, 3) := by decide +kernel
theorem dX12_read_46 : decode cX12_read 46 = .ok (.ifCond .eq 15, 3) := by decide +kernel
theorem dX12_read_49 : decode cX12_read 49 = .ok (.iload 5, 2) := by decide +kernel
theorem dX12_read_51 : decode cX12_read 51 = .ok (.bipush (-99), 2) := by decide +kernel
theorem dX12_read_53 : decode cX12_read 53 = .ok (.bipush 99, 2) := by decide +kernel
theorem dX12_read_55 : decode cX12_read 55 = .ok (.invokestatic 178, 3) := by decide +kernel
theorem dX12_read_58 : decode cX12_read 58 = .ok (.ifCond .ne 6, 3) := by decide +kernel
theorem dX12_read_61 : decode cX12_read 61 = .ok (.bipush (-2), 2) := by decide +kernel
theorem dX12_read_63 : decode cX12_read 63 = .ok (.ireturn, 1) := by decide +kernel
theorem dX12_read_64 : decode cX12_read 64 = .ok (.aload_n 0, 1) := by decide +kernel
theorem dX12_read_65 : decode cX12_read 65 = .ok (.getfield 199, 3) := by decide +kernel
theorem dX12_read_68 : decode cX12_read 68 = .ok (.bipush 24, 2) := by decide +kernel
theorem dX12_read_70 : decode cX12_read 70 = .ok (.if_icmp .ne 6, 3) := by decide +kernel
theorem dX12_read_73 : decode cX12_read 73 = .ok (.bipush (-3), 2) := by decide +kernel
theorem dX12_read_75 : decode cX12_read 75 = .ok (.ireturn, 1) := by decide +kernel
theorem dX12_read_76 : decode cX12_read 76 = .ok (.aload_n 0, 1) := by decide +kernel
theorem dX12_read_77 : decode cX12_read 77 = .ok (.iload_n 1, 1) := by decide +kernel
theorem dX12_read_78 : decode cX12_read 78 = .ok (.putfield 205, 3) := by decide +kernel
theorem dX12_read_81 : decode cX12_read 81 = .ok (.aload_n 0, 1) := by decide +kernel
theorem dX12_read_82 : decode cX12_read 82 = .ok (.getfield 45, 3) := by decide +kernel
theorem dX12_read_85 : decode cX12_read 85 = .ok (.aload_n 0, 1) := by decide +kernel
theorem dX12_read_86 : decode cX12_read 86 = .ok (.getfield 199, 3) := by decide +kernel
theorem dX12_read_89 : decode cX12_read 89 = .ok (.iload_n 1, 1) := by decide +kernel
theorem dX12_read_90 : decode cX12_read 90 = .ok (.iastore, 1) := by decide +kernel
theorem dX12_read_91 : decode cX12_read 91 = .ok (.aload_n 0, 1) := by decide +kernel
theorem dX12_read_92 : decode cX12_read 92 = .ok (.getfield 48, 3) := by decide +kernel
theorem dX12_read_95 : decode cX12_read 95 = .ok (.aload_n 0, 1) := by decide +kernel
theorem dX12_read_96 : decode cX12_read 96 = .ok (.getfield 199, 3) := by decide +kernel
theorem dX12_read_99 : decode cX12_read 99 = .ok (.iload_n 2, 1) := by decide +kernel
theorem dX12_read_100 : decode cX12_read 100 = .ok (.iastore, 1) := by decide +kernel
theorem dX12_read_101 : decode cX12_read 101 = .ok (.aload_n 0, 1) := by decide +kernel
theorem dX12_read_102 : decode cX12_read 102 = .ok (.getfield 51, 3) := by decide +kernel
theorem dX12_read_105 : decode cX12_read 105 = .ok (.aload_n 0, 1) := by decide +kernel
theorem dX12_read_106 : decode cX12_read 106 = .ok (.getfield 199, 3) := by decide +kernel
theorem dX12_read_109 : decode cX12_read 109 = .ok (.iload_n 3, 1) := by decide +kernel
theorem dX12_read_110 : decode cX12_read 110 = .ok (.iastore, 1) := by decide +kernel
theorem dX12_read_111 : decode cX12_read 111 = .ok (.aload_n 0, 1) := by decide +kernel
theorem dX12_read_112 : decode cX12_read 112 = .ok (.getfield 54, 3) := by decide +kernel
theorem dX12_read_115 : decode cX12_read 115 = .ok (.aload_n 0, 1) := by decide +kernel
theorem dX12_read_116 : decode cX12_read 116 = .ok (.getfield 199, 3) := by decide +kernel
theorem dX12_read_119 : decode cX12_read 119 = .ok (.iload 4, 2) := by decide +kernel
theorem dX12_read_121 : decode cX12_read 121 = .ok (.iastore, 1) := by decide +kernel
theorem dX12_read_122 : decode cX12_read 122 = .ok (.aload_n 0, 1) := by decide +kernel
theorem dX12_read_123 : decode cX12_read 123 = .ok (.getfield 57, 3) := by decide +kernel
theorem dX12_read_126 : decode cX12_read 126 = .ok (.aload_n 0, 1) := by decide +kernel
theorem dX12_read_127 : decode cX12_read 127 = .ok (.getfield 199, 3) := by decide +kernel
theorem dX12_read_130 : decode cX12_read 130 = .ok (.iload 5, 2) := by decide +kernel
theorem dX12_read_132 : decode cX12_read 132 = .ok (.iastore, 1) := by decide +kernel
theorem dX12_read_133 : decode cX12_read 133 = .ok (.aload_n 0, 1) := by decide +kernel
theorem dX12_read_134 : decode cX12_read 134 = .ok (.dup, 1) := by decide +kernel
theorem dX12_read_135 : decode cX12_read 135 = .ok (.getfield 199, 3) := by decide +kernel
theorem dX12_read_138 : decode cX12_read 138 = .ok (.iconst 1, 1) := by decide +kernel
theorem dX12_read_139 : decode cX12_read 139 = .ok (.iadd, 1) := by decide +kernel
theorem dX12_read_140 : decode cX12_read 140 = .ok (.putfield 199, 3) := by decide +kernel
theorem dX12_read_143 : decode cX12_read 143 = .ok (.aload_n 0, 1) := by decide +kernel
theorem dX12_read_144 : decode cX12_read 144 = .ok (.getfield 199, 3) := by decide +kernel
theorem dX12_read_147 : decode cX12_read 147 = .ok (.iconst 1, 1) := by decide +kernel
theorem dX12_read_148 : decode cX12_read 148 = .ok (.isub, 1) := by decide +kernel
theorem dX12_read_149 : decode cX12_read 149 = .ok (.ireturn, 1) := by decide +kernel
set_option maxRecDepth 20000 in
theorem sX12_read_0 {P : Option Value → AH → Prop} (h : AH) (r0 : Nat) (x1 : Int32) (x2 : Int32) (x3 : Int32) (x4 : Int32) (x5 : Int32) (hf : (isO h 12 r0) ∧ ((¬ (¬ x1 < (gI h r0 25) ∧ ¬ 999 < x1) → P (some (.int (-2))) h) ∧ ((¬ x1 < (gI h r0 25) ∧ ¬ 999 < x1) → (¬ (¬ x2 < 0 ∧ ¬ 3 < x2) → P (some (.int (-2))) h) ∧ ((¬ x2 < 0 ∧ ¬ 3 < x2) → (isA h 0 (gF h r0 11)) ∧ ((vp_in 2 (ln (gF h r0 11))) ∧ ((¬ (¬ x3 < 0 ∧ ¬ ((gI h (gF h r0 11) (Int32.toNatClampNeg 2)) - 1) < x3) → P (some (.int (-2))) h) ∧ ((¬ x3 < 0 ∧ ¬ ((gI h (gF h r0 11) (Int32.toNatClampNeg 2)) - 1) < x3) → (¬ (¬ x4 < (-99) ∧ ¬ 99 < x4) → P (some (.int (-2))) h) ∧ ((¬ x4 < (-99) ∧ ¬ 99 < x4) → ((¬ x5 < (-99) ∧ ¬ 99 < x5) → (¬ (gI h r0 23) = 24 → (isA h 0 (gF (sI h r0 25 x1) r0 26)) ∧ ((vp_in (gI (sI h r0 25 x1) r0 23) (ln (gF (sI h r0 25 x1) r0 26))) ∧ ((isA h 0 (gF (sI (sI h r0 25 x1) (gF (sI h r0 25 x1) r0 26) (gI (sI h r0 25 x1) r0 23).toNatClampNeg x1) r0 27)) ∧ ((vp_in (gI (sI (sI h r0 25 x1) (gF (sI h r0 25 x1) r0 26) (gI (sI h r0 25 x1) r0 23).toNatClampNeg x1) r0 23) (ln (gF (sI (sI h r0 25 x1) (gF (sI h r0 25 x1) r0 26) (gI (sI h r0 25 x1) r0 23).toNatClampNeg x1) r0 27))) ∧ ((isA h 0 (gF (sI (sI (sI h r0 25 x1) (gF (sI h r0 25 x1) r0 26) (gI (sI h r0 25 x1) r0 23).toNatClampNeg x1) (gF (sI (sI h r0 25 x1) (gF (sI h r0 25 x1) r0 26) (gI (sI h r0 25 x1) r0 23).toNatClampNeg x1) r0 27) (gI (sI (sI h r0 25 x1) (gF (sI h r0 25 x1) r0 26) (gI (sI h r0 25 x1) r0 23).toNatClampNeg x1) r0 23).toNatClampNeg x2) r0 28)) ∧ ((vp_in (gI (sI (sI (sI h r0 25 x1) (gF (sI h r0 25 x1) r0 26) (gI (sI h r0 25 x1) r0 23).toNatClampNeg x1) (gF (sI (sI h r0 25 x1) (gF (sI h r0 25 x1) r0 26) (gI (sI h r0 25 x1) r0 23).toNatClampNeg x1) r0 27) (gI (sI (sI h r0 25 x1) (gF (sI h r0 25 x1) r0 26) (gI (sI h r0 25 x1) r0 23).toNatClampNeg x1) r0 23).toNatClampNeg x2) r0 23) (ln (gF (sI (sI (sI h r0 25 x1) (gF (sI h r0 25 x1) r0 26) (gI (sI h r0 25 x1) r0 23).toNatClampNeg x1) (gF (sI (sI h r0 25 x1) (gF (sI h r0 25 x1) r0 26) (gI (sI h r0 25 x1) r0 23).toNatClampNeg x1) r0 27) (gI (sI (sI h r0 25 x1) (gF (sI h r0 25 x1) r0 26) (gI (sI h r0 25 x1) r0 23).toNatClampNeg x1) r0 23).toNatClampNeg x2) r0 28))) ∧ ((isA h 0 (gF (sI (sI (sI (sI h r0 25 x1) (gF (sI h r0 25 x1) r0 26) (gI (sI h r0 25 x1) r0 23).toNatClampNeg x1) (gF (sI (sI h r0 25 x1) (gF (sI h r0 25 x1) r0 26) (gI (sI h r0 25 x1) r0 23).toNatClampNeg x1) r0 27) (gI (sI (sI h r0 25 x1) (gF (sI h r0 25 x1) r0 26) (gI (sI h r0 25 x1) r0 23).toNatClampNeg x1) r0 23).toNatClampNeg x2) (gF (sI (sI (sI h r0 25 x1) (gF (sI h r0 25 x1) r0 26) (gI (sI h r0 25 x1) r0 23).toNatClampNeg x1) (gF (sI (sI h r0 25 x1) (gF (sI h r0 25 x1) r0 26) (gI (sI h r0 25 x1) r0 23).toNatClampNeg x1) r0 27) (gI (sI (sI h r0 25 x1) (gF (sI h r0 25 x1) r0 26) (gI (sI h r0 25 x1) r0 23).toNatClampNeg x1) r0 23).toNatClampNeg x2) r0 28) (gI (sI (sI (sI h r0 25 x1) (gF (sI h r0 25 x1) r0 26) (gI (sI h r0 25 x1) r0 23).toNatClampNeg x1) (gF (sI (sI h r0 25 x1) (gF (sI h r0 25 x1) r0 26) (gI (sI h r0 25 x1) r0 23).toNatClampNeg x1) r0 27) (gI (sI (sI h r0 25 x1) (gF (sI h r0 25 x1) r0 26) (gI (sI h r0 25 x1) r0 23).toNatClampNeg x1) r0 23).toNatClampNeg x2) r0 23).toNatClampNeg x3) r0 29)) ∧ ((vp_in (gI (sI (sI (sI (sI h r0 25 x1) (gF (sI h r0 25 x1) r0 26) (gI (sI h r0 25 x1) r0 23).toNatClampNeg x1) (gF (sI (sI h r0 25 x1) (gF (sI h r0 25 x1) r0 26) (gI (sI h r0 25 x1) r0 23).toNatClampNeg x1) r0 27) (gI (sI (sI h r0 25 x1) (gF (sI h r0 25 x1) r0 26) (gI (sI h r0 25 x1) r0 23).toNatClampNeg x1) r0 23).toNatClampNeg x2) (gF (sI (sI (sI h r0 25 x1) (gF (sI h r0 25 x1) r0 26) (gI (sI h r0 25 x1) r0 23).toNatClampNeg x1) (gF (sI (sI h r0 25 x1) (gF (sI h r0 25 x1) r0 26) (gI (sI h r0 25 x1) r0 23).toNatClampNeg x1) r0 27) (gI (sI (sI h r0 25 x1) (gF (sI h r0 25 x1) r0 26) (gI (sI h r0 25 x1) r0 23).toNatClampNeg x1) r0 23).toNatClampNeg x2) r0 28) (gI (sI (sI (sI h r0 25 x1) (gF (sI h r0 25 x1) r0 26) (gI (sI h r0 25 x1) r0 23).toNatClampNeg x1) (gF (sI (sI h r0 25 x1) (gF (sI h r0 25 x1) r0 26) (gI (sI h r0 25 x1) r0 23).toNatClampNeg x1) r0 27) (gI (sI (sI h r0 25 x1) (gF (sI h r0 25 x1) r0 26) (gI (sI h r0 25 x1) r0 23).toNatClampNeg x1) r0 23).toNatClampNeg x2) r0 23).toNatClampNeg x3) r0 23) (ln (gF (sI (sI (sI (sI h r0 25 x1) (gF (sI h r0 25 x1) r0 26) (gI (sI h r0 25 x1) r0 23).toNatClampNeg x1) (gF (sI (sI h r0 25 x1) (gF (sI h r0 25 x1) r0 26) (gI (sI h r0 25 x1) r0 23).toNatClampNeg x1) r0 27) (gI (sI (sI h r0 25 x1) (gF (sI h r0 25 x1) r0 26) (gI (sI h r0 25 x1) r0 23).toNatClampNeg x1) r0 23).toNatClampNeg x2) (gF (sI (sI (sI h r0 25 x1) (gF (sI h r0 25 x1) r0 26) (gI (sI h r0 25 x1) r0 23).toNatClampNeg x1) (gF (sI (sI h r0 25 x1) (gF (sI h r0 25 x1) r0 26) (gI (sI h r0 25 x1) r0 23).toNatClampNeg x1) r0 27) (gI (sI (sI h r0 25 x1) (gF (sI h r0 25 x1) r0 26) (gI (sI h r0 25 x1) r0 23).toNatClampNeg x1) r0 23).toNatClampNeg x2) r0 28) (gI (sI (sI (sI h r0 25 x1) (gF (sI h r0 25 x1) r0 26) (gI (sI h r0 25 x1) r0 23).toNatClampNeg x1) (gF (sI (sI h r0 25 x1) (gF (sI h r0 25 x1) r0 26) (gI (sI h r0 25 x1) r0 23).toNatClampNeg x1) r0 27) (gI (sI (sI h r0 25 x1) (gF (sI h r0 25 x1) r0 26) (gI (sI h r0 25 x1) r0 23).toNatClampNeg x1) r0 23).toNatClampNeg x2) r0 23).toNatClampNeg x3) r0 29))) ∧ ((isA h 0 (gF (sI (sI (sI (sI (sI h r0 25 x1) (gF (sI h r0 25 x1) r0 26) (gI (sI h r0 25 x1) r0 23).toNatClampNeg x1) (gF (sI (sI h r0 25 x1) (gF (sI h r0 25 x1) r0 26) (gI (sI h r0 25 x1) r0 23).toNatClampNeg x1) r0 27) (gI (sI (sI h r0 25 x1) (gF (sI h r0 25 x1) r0 26) (gI (sI h r0 25 x1) r0 23).toNatClampNeg x1) r0 23).toNatClampNeg x2) (gF (sI (sI (sI h r0 25 x1) (gF (sI h r0 25 x1) r0 26) (gI (sI h r0 25 x1) r0 23).toNatClampNeg x1) (gF (sI (sI h r0 25 x1) (gF (sI h r0 25 x1) r0 26) (gI (sI h r0 25 x1) r0 23).toNatClampNeg x1) r0 27) (gI (sI (sI h r0 25 x1) (gF (sI h r0 25 x1) r0 26) (gI (sI h r0 25 x1) r0 23).toNatClampNeg x1) r0 23).toNatClampNeg x2) r0 28) (gI (sI (sI (sI h r0 25 x1) (gF (sI h r0 25 x1) r0 26) (gI (sI h r0 25 x1) r0 23).toNatClampNeg x1) (gF (sI (sI h r0 25 x1) (gF (sI h r0 25 x1) r0 26) (gI (sI h r0 25 x1) r0 23).toNatClampNeg x1) r0 27) (gI (sI (sI h r0 25 x1) (gF (sI h r0 25 x1) r0 26) (gI (sI h r0 25 x1) r0 23).toNatClampNeg x1) r0 23).toNatClampNeg x2) r0 23).toNatClampNeg x3) (gF (sI (sI (sI (sI h r0 25 x1) (gF (sI h r0 25 x1) r0 26) (gI (sI h r0 25 x1) r0 23).toNatClampNeg x1) (gF (sI (sI h r0 25 x1) (gF (sI h r0 25 x1) r0 26) (gI (sI h r0 25 x1) r0 23).toNatClampNeg x1) r0 27) (gI (sI (sI h r0 25 x1) (gF (sI h r0 25 x1) r0 26) (gI (sI h r0 25 x1) r0 23).toNatClampNeg x1) r0 23).toNatClampNeg x2) (gF (sI (sI (sI h r0 25 x1) (gF (sI h r0 25 x1) r0 26) (gI (sI h r0 25 x1) r0 23).toNatClampNeg x1) (gF (sI (sI h r0 25 x1) (gF (sI h r0 25 x1) r0 26) (gI (sI h r0 25 x1) r0 23).toNatClampNeg x1) r0 27) (gI (sI (sI h r0 25 x1) (gF (sI h r0 25 x1) r0 26) (gI (sI h r0 25 x1) r0 23).toNatClampNeg x1) r0 23).toNatClampNeg x2) r0 28) (gI (sI (sI (sI h r0 25 x1) (gF (sI h r0 25 x1) r0 26) (gI (sI h r0 25 x1) r0 23).toNatClampNeg x1) (gF (sI (sI h r0 25 x1) (gF (sI h r0 25 x1) r0 26) (gI (sI h r0 25 x1) r0 23).toNatClampNeg x1) r0 27) (gI (sI (sI h r0 25 x1) (gF (sI h r0 25 x1) r0 26) (gI (sI h r0 25 x1) r0 23).toNatClampNeg x1) r0 23).toNatClampNeg x2) r0 23).toNatClampNeg x3) r0 29) (gI (sI (sI (sI (sI h r0 25 x1) (gF (sI h r0 25 x1) r0 26) (gI (sI h r0 25 x1) r0 23).toNatClampNeg x1) (gF (sI (sI h r0 25 x1) (gF (sI h r0 25 x1) r0 26) (gI (sI h r0 25 x1) r0 23).toNatClampNeg x1) r0 27) (gI (sI (sI h r0 25 x1) (gF (sI h r0 25 x1) r0 26) (gI (sI h r0 25 x1) r0 23).toNatClampNeg x1) r0 23).toNatClampNeg x2) (gF (sI (sI (sI h r0 25 x1) (gF (sI h r0 25 x1) r0 26) (gI (sI h r0 25 x1) r0 23).toNatClampNeg x1) (gF (sI (sI h r0 25 x1) (gF (sI h r0 25 x1) r0 26) (gI (sI h r0 25 x1) r0 23).toNatClampNeg x1) r0 27) (gI (sI (sI h r0 25 x1) (gF (sI h r0 25 x1) r0 26) (gI (sI h r0 25 x1) r0 23).toNatClampNeg x1) r0 23).toNatClampNeg x2) r0 28) (gI (sI (sI (sI h r0 25 x1) (gF (sI h r0 25 x1) r0 26) (gI (sI h r0 25 x1) r0 23).toNatClampNeg x1) (gF (sI (sI h r0 25 x1) (gF (sI h r0 25 x1) r0 26) (gI (sI h r0 25 x1) r0 23).toNatClampNeg x1) r0 27) (gI (sI (sI h r0 25 x1) (gF (sI h r0 25 x1) r0 26) (gI (sI h r0 25 x1) r0 23).toNatClampNeg x1) r0 23).toNatClampNeg x2) r0 23).toNatClampNeg x3) r0 23).toNatClampNeg x4) r0 30)) ∧ ((vp_in (gI (sI (sI (sI (sI (sI h r0 25 x1) (gF (sI h r0 25 x1) r0 26) (gI (sI h r0 25 x1) r0 23).toNatClampNeg x1) (gF (sI (sI h r0 25 x1) (gF (sI h r0 25 x1) r0 26) (gI (sI h r0 25 x1) r0 23).toNatClampNeg x1) r0 27) (gI (sI (sI h r0 25 x1) (gF (sI h r0 25 x1) r0 26) (gI (sI h r0 25 x1) r0 23).toNatClampNeg x1) r0 23).toNatClampNeg x2) (gF (sI (sI (sI h r0 25 x1) (gF (sI h r0 25 x1) r0 26) (gI (sI h r0 25 x1) r0 23).toNatClampNeg x1) (gF (sI (sI h r0 25 x1) (gF (sI h r0 25 x1) r0 26) (gI (sI h r0 25 x1) r0 23).toNatClampNeg x1) r0 27) (gI (sI (sI h r0 25 x1) (gF (sI h r0 25 x1) r0 26) (gI (sI h r0 25 x1) r0 23).toNatClampNeg x1) r0 23).toNatClampNeg x2) r0 28) (gI (sI (sI (sI h r0 25 x1) (gF (sI h r0 25 x1) r0 26) (gI (sI h r0 25 x1) r0 23).toNatClampNeg x1) (gF (sI (sI h r0 25 x1) (gF (sI h r0 25 x1) r0 26) (gI (sI h r0 25 x1) r0 23).toNatClampNeg x1) r0 27) (gI (sI (sI h r0 25 x1) (gF (sI h r0 25 x1) r0 26) (gI (sI h r0 25 x1) r0 23).toNatClampNeg x1) r0 23).toNatClampNeg x2) r0 23).toNatClampNeg x3) (gF (sI (sI (sI (sI h r0 25 x1) (gF (sI h r0 25 x1) r0 26) (gI (sI h r0 25 x1) r0 23).toNatClampNeg x1) (gF (sI (sI h r0 25 x1) (gF (sI h r0 25 x1) r0 26) (gI (sI h r0 25 x1) r0 23).toNatClampNeg x1) r0 27) (gI (sI (sI h r0 25 x1) (gF (sI h r0 25 x1) r0 26) (gI (sI h r0 25 x1) r0 23).toNatClampNeg x1) r0 23).toNatClampNeg x2) (gF (sI (sI (sI h r0 25 x1) (gF (sI h r0 25 x1) r0 26) (gI (sI h r0 25 x1) r0 23).toNatClampNeg x1) (gF (sI (sI h r0 25 x1) (gF (sI h r0 25 x1) r0 26) (gI (sI h r0 25 x1) r0 23).toNatClampNeg x1) r0 27) (gI (sI (sI h r0 25 x1) (gF (sI h r0 25 x1) r0 26) (gI (sI h r0 25 x1) r0 23).toNatClampNeg x1) r0 23).toNatClampNeg x2) r0 28) (gI (sI (sI (sI h r0 25 x1) (gF (sI h r0 25 x1) r0 26) (gI (sI h r0 25 x1) r0 23).toNatClampNeg x1) (gF (sI (sI h r0 25 x1) (gF (sI h r0 25 x1) r0 26) (gI (sI h r0 25 x1) r0 23).toNatClampNeg x1) r0 27) (gI (sI (sI h r0 25 x1) (gF (sI h r0 25 x1) r0 26) (gI (sI h r0 25 x1) r0 23).toNatClampNeg x1) r0 23).toNatClampNeg x2) r0 23).toNatClampNeg x3) r0 29) (gI (sI (sI (sI (sI h r0 25 x1) (gF (sI h r0 25 x1) r0 26) (gI (sI h r0 25 x1) r0 23).toNatClampNeg x1) (gF (sI (sI h r0 25 x1) (gF (sI h r0 25 x1) r0 26) (gI (sI h r0 25 x1) r0 23).toNatClampNeg x1) r0 27) (gI (sI (sI h r0 25 x1) (gF (sI h r0 25 x1) r0 26) (gI (sI h r0 25 x1) r0 23).toNatClampNeg x1) r0 23).toNatClampNeg x2) (gF (sI (sI (sI h r0 25 x1) (gF (sI h r0 25 x1) r0 26) (gI (sI h r0 25 x1) r0 23).toNatClampNeg x1) (gF (sI (sI h r0 25 x1) (gF (sI h r0 25 x1) r0 26) (gI (sI h r0 25 x1) r0 23).toNatClampNeg x1) r0 27) (gI (sI (sI h r0 25 x1) (gF (sI h r0 25 x1) r0 26) (gI (sI h r0 25 x1) r0 23).toNatClampNeg x1) r0 23).toNatClampNeg x2) r0 28) (gI (sI (sI (sI h r0 25 x1) (gF (sI h r0 25 x1) r0 26) (gI (sI h r0 25 x1) r0 23).toNatClampNeg x1) (gF (sI (sI h r0 25 x1) (gF (sI h r0 25 x1) r0 26) (gI (sI h r0 25 x1) r0 23).toNatClampNeg x1) r0 27) (gI (sI (sI h r0 25 x1) (gF (sI h r0 25 x1) r0 26) (gI (sI h r0 25 x1) r0 23).toNatClampNeg x1) r0 23).toNatClampNeg x2) r0 23).toNatClampNeg x3) r0 23).toNatClampNeg x4) r0 23) (ln (gF (sI (sI (sI (sI (sI h r0 25 x1) (gF (sI h r0 25 x1) r0 26) (gI (sI h r0 25 x1) r0 23).toNatClampNeg x1) (gF (sI (sI h r0 25 x1) (gF (sI h r0 25 x1) r0 26) (gI (sI h r0 25 x1) r0 23).toNatClampNeg x1) r0 27) (gI (sI (sI h r0 25 x1) (gF (sI h r0 25 x1) r0 26) (gI (sI h r0 25 x1) r0 23).toNatClampNeg x1) r0 23).toNatClampNeg x2) (gF (sI (sI (sI h r0 25 x1) (gF (sI h r0 25 x1) r0 26) (gI (sI h r0 25 x1) r0 23).toNatClampNeg x1) (gF (sI (sI h r0 25 x1) (gF (sI h r0 25 x1) r0 26) (gI (sI h r0 25 x1) r0 23).toNatClampNeg x1) r0 27) (gI (sI (sI h r0 25 x1) (gF (sI h r0 25 x1) r0 26) (gI (sI h r0 25 x1) r0 23).toNatClampNeg x1) r0 23).toNatClampNeg x2) r0 28) (gI (sI (sI (sI h r0 25 x1) (gF (sI h r0 25 x1) r0 26) (gI (sI h r0 25 x1) r0 23).toNatClampNeg x1) (gF (sI (sI h r0 25 x1) (gF (sI h r0 25 x1) r0 26) (gI (sI h r0 25 x1) r0 23).toNatClampNeg x1) r0 27) (gI (sI (sI h r0 25 x1) (gF (sI h r0 25 x1) r0 26) (gI (sI h r0 25 x1) r0 23).toNatClampNeg x1) r0 23).toNatClampNeg x2) r0 23).toNatClampNeg x3) (gF (sI (sI (sI (sI h r0 25 x1) (gF (sI h r0 25 x1) r0 26) (gI (sI h r0 25 x1) r0 23).toNatClampNeg x1) (gF (sI (sI h r0 25 x1) (gF (sI h r0 25 x1) r0 26) (gI (sI h r0 25 x1) r0 23).toNatClampNeg x1) r0 27) (gI (sI (sI h r0 25 x1) (gF (sI h r0 25 x1) r0 26) (gI (sI h r0 25 x1) r0 23).toNatClampNeg x1) r0 23).toNatClampNeg x2) (gF (sI (sI (sI h r0 25 x1) (gF (sI h r0 25 x1) r0 26) (gI (sI h r0 25 x1) r0 23).toNatClampNeg x1) (gF (sI (sI h r0 25 x1) (gF (sI h r0 25 x1) r0 26) (gI (sI h r0 25 x1) r0 23).toNatClampNeg x1) r0 27) (gI (sI (sI h r0 25 x1) (gF (sI h r0 25 x1) r0 26) (gI (sI h r0 25 x1) r0 23).toNatClampNeg x1) r0 23).toNatClampNeg x2) r0 28) (gI (sI (sI (sI h r0 25 x1) (gF (sI h r0 25 x1) r0 26) (gI (sI h r0 25 x1) r0 23).toNatClampNeg x1) (gF (sI (sI h r0 25 x1) (gF (sI h r0 25 x1) r0 26) (gI (sI h r0 25 x1) r0 23).toNatClampNeg x1) r0 27) (gI (sI (sI h r0 25 x1) (gF (sI h r0 25 x1) r0 26) (gI (sI h r0 25 x1) r0 23).toNatClampNeg x1) r0 23).toNatClampNeg x2) r0 23).toNatClampNeg x3) r0 29) (gI (sI (sI (sI (sI h r0 25 x1) (gF (sI h r0 25 x1) r0 26) (gI (sI h r0 25 x1) r0 23).toNatClampNeg x1) (gF (sI (sI h r0 25 x1) (gF (sI h r0 25 x1) r0 26) (gI (sI h r0 25 x1) r0 23).toNatClampNeg x1) r0 27) (gI (sI (sI h r0 25 x1) (gF (sI h r0 25 x1) r0 26) (gI (sI h r0 25 x1) r0 23).toNatClampNeg x1) r0 23).toNatClampNeg x2) (gF (sI (sI (sI h r0 25 x1) (gF (sI h r0 25 x1) r0 26) (gI (sI h r0 25 x1) r0 23).toNatClampNeg x1) (gF (sI (sI h r0 25 x1) (gF (sI h r0 25 x1) r0 26) (gI (sI h r0 25 x1) r0 23).toNatClampNeg x1) r0 27) (gI (sI (sI h r0 25 x1) (gF (sI h r0 25 x1) r0 26) (gI (sI h r0 25 x1) r0 23).toNatClampNeg x1) r0 23).toNatClampNeg x2) r0 28) (gI (sI (sI (sI h r0 25 x1) (gF (sI h r0 25 x1) r0 26) (gI (sI h r0 25 x1) r0 23).toNatClampNeg x1) (gF (sI (sI h r0 25 x1) (gF (sI h r0 25 x1) r0 26) (gI (sI h r0 25 x1) r0 23).toNatClampNeg x1) r0 27) (gI (sI (sI h r0 25 x1) (gF (sI h r0 25 x1) r0 26) (gI (sI h r0 25 x1) r0 23).toNatClampNeg x1) r0 23).toNatClampNeg x2) r0 23).toNatClampNeg x3) r0 23).toNatClampNeg x4) r0 30))) ∧ (P (some (.int ((gI (sI (sI (sI (sI (sI (sI (sI h r0 25 x1) (gF (sI h r0 25 x1) r0 26) (gI (sI h r0 25 x1) r0 23).toNatClampNeg x1) (gF (sI (sI h r0 25 x1) (gF (sI h r0 25 x1) r0 26) (gI (sI h r0 25 x1) r0 23).toNatClampNeg x1) r0 27) (gI (sI (sI h r0 25 x1) (gF (sI h r0 25 x1) r0 26) (gI (sI h r0 25 x1) r0 23).toNatClampNeg x1) r0 23).toNatClampNeg x2) (gF (sI (sI (sI h r0 25 x1) (gF (sI h r0 25 x1) r0 26) (gI (sI h r0 25 x1) r0 23).toNatClampNeg x1) (gF (sI (sI h r0 25 x1) (gF (sI h r0 25 x1) r0 26) (gI (sI h r0 25 x1) r0 23).toNatClampNeg x1) r0 27) (gI (sI (sI h r0 25 x1) (gF (sI h r0 25 x1) r0 26) (gI (sI h r0 25 x1) r0 23).toNatClampNeg x1) r0 23).toNatClampNeg x2) r0 28) (gI (sI (sI (sI h r0 25 x1) (gF (sI h r0 25 x1) r0 26) (gI (sI h r0 25 x1) r0 23).toNatClampNeg x1) (gF (sI (sI h r0 25 x1) (gF (sI h r0 25 x1) r0 26) (gI (sI h r0 25 x1) r0 23).toNatClampNeg x1) r0 27) (gI (sI (sI h r0 25 x1) (gF (sI h r0 25 x1) r0 26) (gI (sI h r0 25 x1) r0 23).toNatClampNeg x1) r0 23).toNatClampNeg x2) r0 23).toNatClampNeg x3) (gF (sI (sI (sI (sI h r0 25 x1) (gF (sI h r0 25 x1) r0 26) (gI (sI h r0 25 x1) r0 23).toNatClampNeg x1) (gF (sI (sI h r0 25 x1) (gF (sI h r0 25 x1) r0 26) (gI (sI h r0 25 x1) r0 23).toNatClampNeg x1) r0 27) (gI (sI (sI h r0 25 x1) (gF (sI h r0 25 x1) r0 26) (gI (sI h r0 25 x1) r0 23).toNatClampNeg x1) r0 23).toNatClampNeg x2) (gF (sI (sI (sI h r0 25 x1) (gF (sI h r0 25 x1) r0 26) (gI (sI h r0 25 x1) r0 23).toNatClampNeg x1) (gF (sI (sI h r0 25 x1) (gF (sI h r0 25 x1) r0 26) (gI (sI h r0 25 x1) r0 23).toNatClampNeg x1) r0 27) (gI (sI (sI h r0 25 x1) (gF (sI h r0 25 x1) r0 26) (gI (sI h r0 25 x1) r0 23).toNatClampNeg x1) r0 23).toNatClampNeg x2) r0 28) (gI (sI (sI (sI h r0 25 x1) (gF (sI h r0 25 x1) r0 26) (gI (sI h r0 25 x1) r0 23).toNatClampNeg x1) (gF (sI (sI h r0 25 x1) (gF (sI h r0 25 x1) r0 26) (gI (sI h r0 25 x1) r0 23).toNatClampNeg x1) r0 27) (gI (sI (sI h r0 25 x1) (gF (sI h r0 25 x1) r0 26) (gI (sI h r0 25 x1) r0 23).toNatClampNeg x1) r0 23).toNatClampNeg x2) r0 23).toNatClampNeg x3) r0 29) (gI (sI (sI (sI (sI h r0 25 x1) (gF (sI h r0 25 x1) r0 26) (gI (sI h r0 25 x1) r0 23).toNatClampNeg x1) (gF (sI (sI h r0 25 x1) (gF (sI h r0 25 x1) r0 26) (gI (sI h r0 25 x1) r0 23).toNatClampNeg x1) r0 27) (gI (sI (sI h r0 25 x1) (gF (sI h r0 25 x1) r0 26) (gI (sI h r0 25 x1) r0 23).toNatClampNeg x1) r0 23).toNatClampNeg x2) (gF (sI (sI (sI h r0 25 x1) (gF (sI h r0 25 x1) r0 26) (gI (sI h r0 25 x1) r0 23).toNatClampNeg x1) (gF (sI (sI h r0 25 x1) (gF (sI h r0 25 x1) r0 26) (gI (sI h r0 25 x1) r0 23).toNatClampNeg x1) r0 27) (gI (sI (sI h r0 25 x1) (gF (sI h r0 25 x1) r0 26) (gI (sI h r0 25 x1) r0 23).toNatClampNeg x1) r0 23).toNatClampNeg x2) r0 28) (gI (sI (sI (sI h r0 25 x1) (gF (sI h r0 25 x1) r0 26) (gI (sI h r0 25 x1) r0 23).toNatClampNeg x1) (gF (sI (sI h r0 25 x1) (gF (sI h r0 25 x1) r0 26) (gI (sI h r0 25 x1) r0 23).toNatClampNeg x1) r0 27) (gI (sI (sI h r0 25 x1) (gF (sI h r0 25 x1) r0 26) (gI (sI h r0 25 x1) r0 23).toNatClampNeg x1) r0 23).toNatClampNeg x2) r0 23).toNatClampNeg x3) r0 23).toNatClampNeg x4) (gF (sI (sI (sI (sI (sI h r0 25 x1) (gF (sI h r0 25 x1) r0 26) (gI (sI h r0 25 x1) r0 23).toNatClampNeg x1) (gF (sI (sI h r0 25 x1) (gF (sI h r0 25 x1) r0 26) (gI (sI h r0 25 x1) r0 23).toNatClampNeg x1) r0 27) (gI (sI (sI h r0 25 x1) (gF (sI h r0 25 x1) r0 26) (gI (sI h r0 25 x1) r0 23).toNatClampNeg x1) r0 23).toNatClampNeg x2) (gF (sI (sI (sI h r0 25 x1) (gF (sI h r0 25 x1) r0 26) (gI (sI h r0 25 x1) r0 23).toNatClampNeg x1) (gF (sI (sI h r0 25 x1) (gF (sI h r0 25 x1) r0 26) (gI (sI h r0 25 x1) r0 23).toNatClampNeg x1) r0 27) (gI (sI (sI h r0 25 x1) (gF (sI h r0 25 x1) r0 26) (gI (sI h r0 25 x1) r0 23).toNatClampNeg x1) r0 23).toNatClampNeg x2) r0 28) (gI (sI (sI (sI h r0 25 x1) (gF (sI h r0 25 x1) r0 26) (gI (sI h r0 25 x1) r0 23).toNatClampNeg x1) (gF (sI (sI h r0 25 x1) (gF (sI h r0 25 x1) r0 26) (gI (sI h r0 25 x1) r0 23).toNatClampNeg x1) r0 27) (gI (sI (sI h r0 25 x1) (gF (sI h r0 25 x1) r0 26) (gI (sI h r0 25 x1) r0 23).toNatClampNeg x1) r0 23).toNatClampNeg x2) r0 23).toNatClampNeg x3) (gF (sI (sI (sI (sI h r0 25 x1) (gF (sI h r0 25 x1) r0 26) (gI (sI h r0 25 x1) r0 23).toNatClampNeg x1) (gF (sI (sI h r0 25 x1) (gF (sI h r0 25 x1) r0 26) (gI (sI h r0 25 x1) r0 23).toNatClampNeg x1) r0 27) (gI (sI (sI h r0 25 x1) (gF (sI h r0 25 x1) r0 26) (gI (sI h r0 25 x1) r0 23).toNatClampNeg x1) r0 23).toNatClampNeg x2) (gF (sI (sI (sI h r0 25 x1) (gF (sI h r0 25 x1) r0 26) (gI (sI h r0 25 x1) r0 23).toNatClampNeg x1) (gF (sI (sI h r0 25 x1) (gF (sI h r0 25 x1) r0 26) (gI (sI h r0 25 x1) r0 23).toNatClampNeg x1) r0 27) (gI (sI (sI h r0 25 x1) (gF (sI h r0 25 x1) r0 26) (gI (sI h r0 25 x1) r0 23).toNatClampNeg x1) r0 23).toNatClampNeg x2) r0 28) (gI (sI (sI (sI h r0 25 x1) (gF (sI h r0 25 x1) r0 26) (gI (sI h r0 25 x1) r0 23).toNatClampNeg x1) (gF (sI (sI h r0 25 x1) (gF (sI h r0 25 x1) r0 26) (gI (sI h r0 25 x1) r0 23).toNatClampNeg x1) r0 27) (gI (sI (sI h r0 25 x1) (gF (sI h r0 25 x1) r0 26) (gI (sI h r0 25 x1) r0 23).toNatClampNeg x1) r0 23).toNatClampNeg x2) r0 23).toNatClampNeg x3) r0 29) (gI (sI (sI (sI (sI h r0 25 x1) (gF (sI h r0 25 x1) r0 26) (gI (sI h r0 25 x1) r0 23).toNatClampNeg x1) (gF (sI (sI h r0 25 x1) (gF (sI h r0 25 x1) r0 26) (gI (sI h r0 25 x1) r0 23).toNatClampNeg x1) r0 27) (gI (sI (sI h r0 25 x1) (gF (sI h r0 25 x1) r0 26) (gI (sI h r0 25 x1) r0 23).toNatClampNeg x1) r0 23).toNatClampNeg x2) (gF (sI (sI (sI h r0 25 x1) (gF (sI h r0 25 x1) r0 26) (gI (sI h r0 25 x1) r0 23).toNatClampNeg x1) (gF (sI (sI h r0 25 x1) (gF (sI h r0 25 x1) r0 26) (gI (sI h r0 25 x1) r0 23).toNatClampNeg x1) r0 27) (gI (sI (sI h r0 25 x1) (gF (sI h r0 25 x1) r0 26) (gI (sI h r0 25 x1) r0 23).toNatClampNeg x1) r0 23).toNatClampNeg x2) r0 28) (gI (sI (sI (sI h r0 25 x1) (gF (sI h r0 25 x1) r0 26) (gI (sI h r0 25 x1) r0 23).toNatClampNeg x1) (gF (sI (sI h r0 25 x1) (gF (sI h r0 25 x1) r0 26) (gI (sI h r0 25 x1) r0 23).toNatClampNeg x1) r0 27) (gI (sI (sI h r0 25 x1) (gF (sI h r0 25 x1) r0 26) (gI (sI h r0 25 x1) r0 23).toNatClampNeg x1) r0 23).toNatClampNeg x2) r0 23).toNatClampNeg x3) r0 23).toNatClampNeg x4) r0 30) (gI (sI (sI (sI (sI (sI h r0 25 x1) (gF (sI h r0 25 x1) r0 26) (gI (sI h r0 25 x1) r0 23).toNatClampNeg x1) (gF (sI (sI h r0 25 x1) (gF (sI h r0 25 x1) r0 26) (gI (sI h r0 25 x1) r0 23).toNatClampNeg x1) r0 27) (gI (sI (sI h r0 25 x1) (gF (sI h r0 25 x1) r0 26) (gI (sI h r0 25 x1) r0 23).toNatClampNeg x1) r0 23).toNatClampNeg x2) (gF (sI (sI (sI h r0 25 x1) (gF (sI h r0 25 x1) r0 26) (gI (sI h r0 25 x1) r0 23).toNatClampNeg x1) (gF (sI (sI h r0 25 x1) (gF (sI h r0 25 x1) r0 26) (gI (sI h r0 25 x1) r0 23).toNatClampNeg x1) r0 27) (gI (sI (sI h r0 25 x1) (gF (sI h r0 25 x1) r0 26) (gI (sI h r0 25 x1) r0 23).toNatClampNeg x1) r0 23).toNatClampNeg x2) r0 28) (gI (sI (sI (sI h r0 25 x1) (gF (sI h r0 25 x1) r0 26) (gI (sI h r0 25 x1) r0 23).toNatClampNeg x1) (gF (sI (sI h r0 25 x1) (gF (sI h r0 25 x1) r0 26) (gI (sI h r0 25 x1) r0 23).toNatClampNeg x1) r0 27) (gI (sI (sI h r0 25 x1) (gF (sI h r0 25 x1) r0 26) (gI (sI h r0 25 x1) r0 23).toNatClampNeg x1) r0 23).toNatClampNeg x2) r0 23).toNatClampNeg x3) (gF (sI (sI (sI (sI h r0 25 x1) (gF (sI h r0 25 x1) r0 26) (gI (sI h r0 25 x1) r0 23).toNatClampNeg x1) (gF (sI (sI h r0 25 x1) (gF (sI h r0 25 x1) r0 26) (gI (sI h r0 25 x1) r0 23).toNatClampNeg x1) r0 27) (gI (sI (sI h r0 25 x1) (gF (sI h r0 25 x1) r0 26) (gI (sI h r0 25 x1) r0 23).toNatClampNeg x1) r0 23).toNatClampNeg x2) (gF (sI (sI (sI h r0 25 x1) (gF (sI h r0 25 x1) r0 26) (gI (sI h r0 25 x1) r0 23).toNatClampNeg x1) (gF (sI (sI h r0 25 x1) (gF (sI h r0 25 x1) r0 26) (gI (sI h r0 25 x1) r0 23).toNatClampNeg x1) r0 27) (gI (sI (sI h r0 25 x1) (gF (sI h r0 25 x1) r0 26) (gI (sI h r0 25 x1) r0 23).toNatClampNeg x1) r0 23).toNatClampNeg x2) r0 28) (gI (sI (sI (sI h r0 25 x1) (gF (sI h r0 25 x1) r0 26) (gI (sI h r0 25 x1) r0 23).toNatClampNeg x1) (gF (sI (sI h r0 25 x1) (gF (sI h r0 25 x1) r0 26) (gI (sI h r0 25 x1) r0 23).toNatClampNeg x1) r0 27) (gI (sI (sI h r0 25 x1) (gF (sI h r0 25 x1) r0 26) (gI (sI h r0 25 x1) r0 23).toNatClampNeg x1) r0 23).toNatClampNeg x2) r0 23).toNatClampNeg x3) r0 29) (gI (sI (sI (sI (sI h r0 25 x1) (gF (sI h r0 25 x1) r0 26) (gI (sI h r0 25 x1) r0 23).toNatClampNeg x1) (gF (sI (sI h r0 25 x1) (gF (sI h r0 25 x1) r0 26) (gI (sI h r0 25 x1) r0 23).toNatClampNeg x1) r0 27) (gI (sI (sI h r0 25 x1) (gF (sI h r0 25 x1) r0 26) (gI (sI h r0 25 x1) r0 23).toNatClampNeg x1) r0 23).toNatClampNeg x2) (gF (sI (sI (sI h r0 25 x1) (gF (sI h r0 25 x1) r0 26) (gI (sI h r0 25 x1) r0 23).toNatClampNeg x1) (gF (sI (sI h r0 25 x1) (gF (sI h r0 25 x1) r0 26) (gI (sI h r0 25 x1) r0 23).toNatClampNeg x1) r0 27) (gI (sI (sI h r0 25 x1) (gF (sI h r0 25 x1) r0 26) (gI (sI h r0 25 x1) r0 23).toNatClampNeg x1) r0 23).toNatClampNeg x2) r0 28) (gI (sI (sI (sI h r0 25 x1) (gF (sI h r0 25 x1) r0 26) (gI (sI h r0 25 x1) r0 23).toNatClampNeg x1) (gF (sI (sI h r0 25 x1) (gF (sI h r0 25 x1) r0 26) (gI (sI h r0 25 x1) r0 23).toNatClampNeg x1) r0 27) (gI (sI (sI h r0 25 x1) (gF (sI h r0 25 x1) r0 26) (gI (sI h r0 25 x1) r0 23).toNatClampNeg x1) r0 23).toNatClampNeg x2) r0 23).toNatClampNeg x3) r0 23).toNatClampNeg x4) r0 23).toNatClampNeg x5) r0 23 ((gI (sI (sI (sI (sI (sI (sI h r0 25 x1) (gF (sI h r0 25 x1) r0 26) (gI (sI h r0 25 x1) r0 23).toNatClampNeg x1) (gF (sI (sI h r0 25 x1) (gF (sI h r0 25 x1) r0 26) (gI (sI h r0 25 x1) r0 23).toNatClampNeg x1) r0 27) (gI (sI (sI h r0 25 x1) (gF (sI h r0 25 x1) r0 26) (gI (sI h r0 25 x1) r0 23).toNatClampNeg x1) r0 23).toNatClampNeg x2) (gF (sI (sI (sI h r0 25 x1) (gF (sI h r0 25 x1) r0 26) (gI (sI h r0 25 x1) r0 23).toNatClampNeg x1) (gF (sI (sI h r0 25 x1) (gF (sI h r0 25 x1) r0 26) (gI (sI h r0 25 x1) r0 23).toNatClampNeg x1) r0 27) (gI (sI (sI h r0 25 x1) (gF (sI h r0 25 x1) r0 26) (gI (sI h r0 25 x1) r0 23).toNatClampNeg x1) r0 23).toNatClampNeg x2) r0 28) (gI (sI (sI (sI h r0 25 x1) (gF (sI h r0 25 x1) r0 26) (gI (sI h r0 25 x1) r0 23).toNatClampNeg x1) (gF (sI (sI h r0 25 x1) (gF (sI h r0 25 x1) r0 26) (gI (sI h r0 25 x1) r0 23).toNatClampNeg x1) r0 27) (gI (sI (sI h r0 25 x1) (gF (sI h r0 25 x1) r0 26) (gI (sI h r0 25 x1) r0 23).toNatClampNeg x1) r0 23).toNatClampNeg x2) r0 23).toNatClampNeg x3) (gF (sI (sI (sI (sI h r0 25 x1) (gF (sI h r0 25 x1) r0 26) (gI (sI h r0 25 x1) r0 23).toNatClampNeg x1) (gF (sI (sI h r0 25 x1) (gF (sI h r0 25 x1) r0 26) (gI (sI h r0 25 x1) r0 23).toNatClampNeg x1) r0 27) (gI (sI (sI h r0 25 x1) (gF (sI h r0 25 x1) r0 26) (gI (sI h r0 25 x1) r0 23).toNatClampNeg x1) r0 23).toNatClampNeg x2) (gF (sI (sI (sI h r0 25 x1) (gF (sI h r0 25 x1) r0 26) (gI (sI h r0 25 x1) r0 23).toNatClampNeg x1) (gF (sI (sI h r0 25 x1) (gF (sI h r0 25 x1) r0 26) (gI (sI h r0 25 x1) r0 23).toNatClampNeg x1) r0 27) (gI (sI (sI h r0 25 x1) (gF (sI h r0 25 x1) r0 26) (gI (sI h r0 25 x1) r0 23).toNatClampNeg x1) r0 23).toNatClampNeg x2) r0 28) (gI (sI (sI (sI h r0 25 x1) (gF (sI h r0 25 x1) r0 26) (gI (sI h r0 25 x1) r0 23).toNatClampNeg x1) (gF (sI (sI h r0 25 x1) (gF (sI h r0 25 x1) r0 26) (gI (sI h r0 25 x1) r0 23).toNatClampNeg x1) r0 27) (gI (sI (sI h r0 25 x1) (gF (sI h r0 25 x1) r0 26) (gI (sI h r0 25 x1) r0 23).toNatClampNeg x1) r0 23).toNatClampNeg x2) r0 23).toNatClampNeg x3) r0 29) (gI (sI (sI (sI (sI h r0 25 x1) (gF (sI h r0 25 x1) r0 26) (gI (sI h r0 25 x1) r0 23).toNatClampNeg x1) (gF (sI (sI h r0 25 x1) (gF (sI h r0 25 x1) r0 26) (gI (sI h r0 25 x1) r0 23).toNatClampNeg x1) r0 27) (gI (sI (sI h r0 25 x1) (gF (sI h r0 25 x1) r0 26) (gI (sI h r0 25 x1) r0 23).toNatClampNeg x1) r0 23).toNatClampNeg x2) (gF (sI (sI (sI h r0 25 x1) (gF (sI h r0 25 x1) r0 26) (gI (sI h r0 25 x1) r0 23).toNatClampNeg x1) (gF (sI (sI h r0 25 x1) (gF (sI h r0 25 x1) r0 26) (gI (sI h r0 25 x1) r0 23).toNatClampNeg x1) r0 27) (gI (sI (sI h r0 25 x1) (gF (sI h r0 25 x1) r0 26) (gI (sI h r0 25 x1) r0 23).toNatClampNeg x1) r0 23).toNatClampNeg x2) r0 28) (gI (sI (sI (sI h r0 25 x1) (gF (sI h r0 25 x1) r0 26) (gI (sI h r0 25 x1) r0 23).toNatClampNeg x1) (gF (sI (sI h r0 25 x1) (gF (sI h r0 25 x1) r0 26) (gI (sI h r0 25 x1) r0 23).toNatClampNeg x1) r0 27) (gI (sI (sI h r0 25 x1) (gF (sI h r0 25 x1) r0 26) (gI (sI h r0 25 x1) r0 23).toNatClampNeg x1) r0 23).toNatClampNeg x2) r0 23).toNatClampNeg x3) r0 23).toNatClampNeg x4) (gF (sI (sI (sI (sI (sI h r0 25 x1) (gF (sI h r0 25 x1) r0 26) (gI (sI h r0 25 x1) r0 23).toNatClampNeg x1) (gF (sI (sI h r0 25 x1) (gF (sI h r0 25 x1) r0 26) (gI (sI h r0 25 x1) r0 23).toNatClampNeg x1) r0 27) (gI (sI (sI h r0 25 x1) (gF (sI h r0 25 x1) r0 26) (gI (sI h r0 25 x1) r0 23).toNatClampNeg x1) r0 23).toNatClampNeg x2) (gF (sI (sI (sI h r0 25 x1) (gF (sI h r0 25 x1) r0 26) (gI (sI h r0 25 x1) r0 23).toNatClampNeg x1) (gF (sI (sI h r0 25 x1) (gF (sI h r0 25 x1) r0 26) (gI (sI h r0 25 x1) r0 23).toNatClampNeg x1) r0 27) (gI (sI (sI h r0 25 x1) (gF (sI h r0 25 x1) r0 26) (gI (sI h r0 25 x1) r0 23).toNatClampNeg x1) r0 23).toNatClampNeg x2) r0 28) (gI (sI (sI (sI h r0 25 x1) (gF (sI h r0 25 x1) r0 26) (gI (sI h r0 25 x1) r0 23).toNatClampNeg x1) (gF (sI (sI h r0 25 x1) (gF (sI h r0 25 x1) r0 26) (gI (sI h r0 25 x1) r0 23).toNatClampNeg x1) r0 27) (gI (sI (sI h r0 25 x1) (gF (sI h r0 25 x1) r0 26) (gI (sI h r0 25 x1) r0 23).toNatClampNeg x1) r0 23).toNatClampNeg x2) r0 23).toNatClampNeg x3) (gF (sI (sI (sI (sI h r0 25 x1) (gF (sI h r0 25 x1) r0 26) (gI (sI h r0 25 x1) r0 23).toNatClampNeg x1) (gF (sI (sI h r0 25 x1) (gF (sI h r0 25 x1) r0 26) (gI (sI h r0 25 x1) r0 23).toNatClampNeg x1) r0 27) (gI (sI (sI h r0 25 x1) (gF (sI h r0 25 x1) r0 26) (gI (sI h r0 25 x1) r0 23).toNatClampNeg x1) r0 23).toNatClampNeg x2) (gF (sI (sI (sI h r0 25 x1) (gF (sI h r0 25 x1) r0 26) (gI (sI h r0 25 x1) r0 23).toNatClampNeg x1) (gF (sI (sI h r0 25 x1) (gF (sI h r0 25 x1) r0 26) (gI (sI h r0 25 x1) r0 23).toNatClampNeg x1) r0 27) (gI (sI (sI h r0 25 x1) (gF (sI h r0 25 x1) r0 26) (gI (sI h r0 25 x1) r0 23).toNatClampNeg x1) r0 23).toNatClampNeg x2) r0 28) (gI (sI (sI (sI h r0 25 x1) (gF (sI h r0 25 x1) r0 26) (gI (sI h r0 25 x1) r0 23).toNatClampNeg x1) (gF (sI (sI h r0 25 x1) (gF (sI h r0 25 x1) r0 26) (gI (sI h r0 25 x1) r0 23).toNatClampNeg x1) r0 27) (gI (sI (sI h r0 25 x1) (gF (sI h r0 25 x1) r0 26) (gI (sI h r0 25 x1) r0 23).toNatClampNeg x1) r0 23).toNatClampNeg x2) r0 23).toNatClampNeg x3) r0 29) (gI (sI (sI (sI (sI h r0 25 x1) (gF (sI h r0 25 x1) r0 26) (gI (sI h r0 25 x1) r0 23).toNatClampNeg x1) (gF (sI (sI h r0 25 x1) (gF (sI h r0 25 x1) r0 26) (gI (sI h r0 25 x1) r0 23).toNatClampNeg x1) r0 27) (gI (sI (sI h r0 25 x1) (gF (sI h r0 25 x1) r0 26) (gI (sI h r0 25 x1) r0 23).toNatClampNeg x1) r0 23).toNatClampNeg x2) (gF (sI (sI (sI h r0 25 x1) (gF (sI h r0 25 x1) r0 26) (gI (sI h r0 25 x1) r0 23).toNatClampNeg x1) (gF (sI (sI h r0 25 x1) (gF (sI h r0 25 x1) r0 26) (gI (sI h r0 25 x1) r0 23).toNatClampNeg x1) r0 27) (gI (sI (sI h r0 25 x1) (gF (sI h r0 25 x1) r0 26) (gI (sI h r0 25 x1) r0 23).toNatClampNeg x1) r0 23).toNatClampNeg x2) r0 28) (gI (sI (sI (sI h r0 25 x1) (gF (sI h r0 25 x1) r0 26) (gI (sI h r0 25 x1) r0 23).toNatClampNeg x1) (gF (sI (sI h r0 25 x1) (gF (sI h r0 25 x1) r0 26) (gI (sI h r0 25 x1) r0 23).toNatClampNeg x1) r0 27) (gI (sI (sI h r0 25 x1) (gF (sI h r0 25 x1) r0 26) (gI (sI h r0 25 x1) r0 23).toNatClampNeg x1) r0 23).toNatClampNeg x2) r0 23).toNatClampNeg x3) r0 23).toNatClampNeg x4) r0 30) (gI (sI (sI (sI (sI (sI h r0 25 x1) (gF (sI h r0 25 x1) r0 26) (gI (sI h r0 25 x1) r0 23).toNatClampNeg x1) (gF (sI (sI h r0 25 x1) (gF (sI h r0 25 x1) r0 26) (gI (sI h r0 25 x1) r0 23).toNatClampNeg x1) r0 27) (gI (sI (sI h r0 25 x1) (gF (sI h r0 25 x1) r0 26) (gI (sI h r0 25 x1) r0 23).toNatClampNeg x1) r0 23).toNatClampNeg x2) (gF (sI (sI (sI h r0 25 x1) (gF (sI h r0 25 x1) r0 26) (gI (sI h r0 25 x1) r0 23).toNatClampNeg x1) (gF (sI (sI h r0 25 x1) (gF (sI h r0 25 x1) r0 26) (gI (sI h r0 25 x1) r0 23).toNatClampNeg x1) r0 27) (gI (sI (sI h r0 25 x1) (gF (sI h r0 25 x1) r0 26) (gI (sI h r0 25 x1) r0 23).toNatClampNeg x1) r0 23).toNatClampNeg x2) r0 28) (gI (sI (sI (sI h r0 25 x1) (gF (sI h r0 25 x1) r0 26) (gI (sI h r0 25 x1) r0 23).toNatClampNeg x1) (gF (sI (sI h r0 25 x1) (gF (sI h r0 25 x1) r0 26) (gI (sI h r0 25 x1) r0 23).toNatClampNeg x1) r0 27) (gI (sI (sI h r0 25 x1) (gF (sI h r0 25 x1) r0 26) (gI (sI h r0 25 x1) r0 23).toNatClampNeg x1) r0 23).toNatClampNeg x2) r0 23).toNatClampNeg x3) (gF (sI (sI (sI (sI h r0 25 x1) (gF (sI h r0 25 x1) r0 26) (gI (sI h r0 25 x1) r0 23).toNatClampNeg x1) (gF (sI (sI h r0 25 x1) (gF (sI h r0 25 x1) r0 26) (gI (sI h r0 25 x1) r0 23).toNatClampNeg x1) r0 27) (gI (sI (sI h r0 25 x1) (gF (sI h r0 25 x1) r0 26) (gI (sI h r0 25 x1) r0 23).toNatClampNeg x1) r0 23).toNatClampNeg x2) (gF (sI (sI (sI h r0 25 x1) (gF (sI h r0 25 x1) r0 26) (gI (sI h r0 25 x1) r0 23).toNatClampNeg x1) (gF (sI (sI h r0 25 x1) (gF (sI h r0 25 x1) r0 26) (gI (sI h r0 25 x1) r0 23).toNatClampNeg x1) r0 27) (gI (sI (sI h r0 25 x1) (gF (sI h r0 25 x1) r0 26) (gI (sI h r0 25 x1) r0 23).toNatClampNeg x1) r0 23).toNatClampNeg x2) r0 28) (gI (sI (sI (sI h r0 25 x1) (gF (sI h r0 25 x1) r0 26) (gI (sI h r0 25 x1) r0 23).toNatClampNeg x1) (gF (sI (sI h r0 25 x1) (gF (sI h r0 25 x1) r0 26) (gI (sI h r0 25 x1) r0 23).toNatClampNeg x1) r0 27) (gI (sI (sI h r0 25 x1) (gF (sI h r0 25 x1) r0 26) (gI (sI h r0 25 x1) r0 23).toNatClampNeg x1) r0 23).toNatClampNeg x2) r0 23).toNatClampNeg x3) r0 29) (gI (sI (sI (sI (sI h r0 25 x1) (gF (sI h r0 25 x1) r0 26) (gI (sI h r0 25 x1) r0 23).toNatClampNeg x1) (gF (sI (sI h r0 25 x1) (gF (sI h r0 25 x1) r0 26) (gI (sI h r0 25 x1) r0 23).toNatClampNeg x1) r0 27) (gI (sI (sI h r0 25 x1) (gF (sI h r0 25 x1) r0 26) (gI (sI h r0 25 x1) r0 23).toNatClampNeg x1) r0 23).toNatClampNeg x2) (gF (sI (sI (sI h r0 25 x1) (gF (sI h r0 25 x1) r0 26) (gI (sI h r0 25 x1) r0 23).toNatClampNeg x1) (gF (sI (sI h r0 25 x1) (gF (sI h r0 25 x1) r0 26) (gI (sI h r0 25 x1) r0 23).toNatClampNeg x1) r0 27) (gI (sI (sI h r0 25 x1) (gF (sI h r0 25 x1) r0 26) (gI (sI h r0 25 x1) r0 23).toNatClampNeg x1) r0 23).toNatClampNeg x2) r0 28) (gI (sI (sI (sI h r0 25 x1) (gF (sI h r0 25 x1) r0 26) (gI (sI h r0 25 x1) r0 23).toNatClampNeg x1) (gF (sI (sI h r0 25 x1) (gF (sI h r0 25 x1) r0 26) (gI (sI h r0 25 x1) r0 23).toNatClampNeg x1) r0 27) (gI (sI (sI h r0 25 x1) (gF (sI h r0 25 x1) r0 26) (gI (sI h r0 25 x1) r0 23).toNatClampNeg x1) r0 23).toNatClampNeg x2) r0 23).toNatClampNeg x3) r0 23).toNatClampNeg x4) r0 23).toNatClampNeg x5) r0 23) + 1)) r0 23) - 1))) (sI (sI (sI (sI (sI (sI (sI h r0 25 x1) (gF (sI h r0 25 x1) r0 26) (gI (sI h r0 25 x1) r0 23).toNatClampNeg x1) (gF (sI (sI h r0 25 x1) (gF (sI h r0 25 x1) r0 26) (gI (sI h r0 25 x1) r0 23).toNatClampNeg x1) r0 27) (gI (sI (sI h r0 25 x1) (gF (sI h r0 25 x1) r0 26) (gI (sI h r0 25 x1) r0 23).toNatClampNeg x1) r0 23).toNatClampNeg x2) (gF (sI (sI (sI h r0 25 x1) (gF (sI h r0 25 x1) r0 26) (gI (sI h r0 25 x1) r0 23).toNatClampNeg x1) (gF (sI (sI h r0 25 x1) (gF (sI h r0 25 x1) r0 26) (gI (sI h r0 25 x1) r0 23).toNatClampNeg x1) r0 27) (gI (sI (sI h r0 25 x1) (gF (sI h r0 25 x1) r0 26) (gI (sI h r0 25 x1) r0 23).toNatClampNeg x1) r0 23).toNatClampNeg x2) r0 28) (gI (sI (sI (sI h r0 25 x1) (gF (sI h r0 25 x1) r0 26) (gI (sI h r0 25 x1) r0 23).toNatClampNeg x1) (gF (sI (sI h r0 25 x1) (gF (sI h r0 25 x1) r0 26) (gI (sI h r0 25 x1) r0 23).toNatClampNeg x1) r0 27) (gI (sI (sI h r0 25 x1) (gF (sI h r0 25 x1) r0 26) (gI (sI h r0 25 x1) r0 23).toNatClampNeg x1) r0 23).toNatClampNeg x2) r0 23).toNatClampNeg x3) (gF (sI (sI (sI (sI h r0 25 x1) (gF (sI h r0 25 x1) r0 26) (gI (sI h r0 25 x1) r0 23).toNatClampNeg x1) (gF (sI (sI h r0 25 x1) (gF (sI h r0 25 x1) r0 26) (gI (sI h r0 25 x1) r0 23).toNatClampNeg x1) r0 27) (gI (sI (sI h r0 25 x1) (gF (sI h r0 25 x1) r0 26) (gI (sI h r0 25 x1) r0 23).toNatClampNeg x1) r0 23).toNatClampNeg x2) (gF (sI (sI (sI h r0 25 x1) (gF (sI h r0 25 x1) r0 26) (gI (sI h r0 25 x1) r0 23).toNatClampNeg x1) (gF (sI (sI h r0 25 x1) (gF (sI h r0 25 x1) r0 26) (gI (sI h r0 25 x1) r0 23).toNatClampNeg x1) r0 27) (gI (sI (sI h r0 25 x1) (gF (sI h r0 25 x1) r0 26) (gI (sI h r0 25 x1) r0 23).toNatClampNeg x1) r0 23).toNatClampNeg x2) r0 28) (gI (sI (sI (sI h r0 25 x1) (gF (sI h r0 25 x1) r0 26) (gI (sI h r0 25 x1) r0 23).toNatClampNeg x1) (gF (sI (sI h r0 25 x1) (gF (sI h r0 25 x1) r0 26) (gI (sI h r0 25 x1) r0 23).toNatClampNeg x1) r0 27) (gI (sI (sI h r0 25 x1) (gF (sI h r0 25 x1) r0 26) (gI (sI h r0 25 x1) r0 23).toNatClampNeg x1) r0 23).toNatClampNeg x2) r0 23).toNatClampNeg x3) r0 29) (gI (sI (sI (sI (sI h r0 25 x1) (gF (sI h r0 25 x1) r0 26) (gI (sI h r0 25 x1) r0 23).toNatClampNeg x1) (gF (sI (sI h r0 25 x1) (gF (sI h r0 25 x1) r0 26) (gI (sI h r0 25 x1) r0 23).toNatClampNeg x1) r0 27) (gI (sI (sI h r0 25 x1) (gF (sI h r0 25 x1) r0 26) (gI (sI h r0 25 x1) r0 23).toNatClampNeg x1) r0 23).toNatClampNeg x2) (gF (sI (sI (sI h r0 25 x1) (gF (sI h r0 25 x1) r0 26) (gI (sI h r0 25 x1) r0 23).toNatClampNeg x1) (gF (sI (sI h r0 25 x1) (gF (sI h r0 25 x1) r0 26) (gI (sI h r0 25 x1) r0 23).toNatClampNeg x1) r0 27) (gI (sI (sI h r0 25 x1) (gF (sI h r0 25 x1) r0 26) (gI (sI h r0 25 x1) r0 23).toNatClampNeg x1) r0 23).toNatClampNeg x2) r0 28) (gI (sI (sI (sI h r0 25 x1) (gF (sI h r0 25 x1) r0 26) (gI (sI h r0 25 x1) r0 23).toNatClampNeg x1) (gF (sI (sI h r0 25 x1) (gF (sI h r0 25 x1) r0 26) (gI (sI h r0 25 x1) r0 23).toNatClampNeg x1) r0 27) (gI (sI (sI h r0 25 x1) (gF (sI h r0 25 x1) r0 26) (gI (sI h r0 25 x1) r0 23).toNatClampNeg x1) r0 23).toNatClampNeg x2) r0 23).toNatClampNeg x3) r0 23).toNatClampNeg x4) (gF (sI (sI (sI (sI (sI h r0 25 x1) (gF (sI h r0 25 x1) r0 26) (gI (sI h r0 25 x1) r0 23).toNatClampNeg x1) (gF (sI (sI h r0 25 x1) (gF (sI h r0 25 x1) r0 26) (gI (sI h r0 25 x1) r0 23).toNatClampNeg x1) r0 27) (gI (sI (sI h r0 25 x1) (gF (sI h r0 25 x1) r0 26) (gI (sI h r0 25 x1) r0 23).toNatClampNeg x1) r0 23).toNatClampNeg x2) (gF (sI (sI (sI h r0 25 x1) (gF (sI h r0 25 x1) r0 26) (gI (sI h r0 25 x1) r0 23).toNatClampNeg x1) (gF (sI (sI h r0 25 x1) (gF (sI h r0 25 x1) r0 26) (gI (sI h r0 25 x1) r0 23).toNatClampNeg x1) r0 27) (gI (sI (sI h r0 25 x1) (gF (sI h r0 25 x1) r0 26) (gI (sI h r0 25 x1) r0 23).toNatClampNeg x1) r0 23).toNatClampNeg x2) r0 28) (gI (sI (sI (sI h r0 25 x1) (gF (sI h r0 25 x1) r0 26) (gI (sI h r0 25 x1) r0 23).toNatClampNeg x1) (gF (sI (sI h r0 25 x1) (gF (sI h r0 25 x1) r0 26) (gI (sI h r0 25 x1) r0 23).toNatClampNeg x1) r0 27) (gI (sI (sI h r0 25 x1) (gF (sI h r0 25 x1) r0 26) (gI (sI h r0 25 x1) r0 23).toNatClampNeg x1) r0 23).toNatClampNeg x2) r0 23).toNatClampNeg x3) (gF (sI (sI (sI (sI h r0 25 x1) (gF (sI h r0 25 x1) r0 26) (gI (sI h r0 25 x1) r0 23).toNatClampNeg x1) (gF (sI (sI h r0 25 x1) (gF (sI h r0 25 x1) r0 26) (gI (sI h r0 25 x1) r0 23).toNatClampNeg x1) r0 27) (gI (sI (sI h r0 25 x1) (gF (sI h r0 25 x1) r0 26) (gI (sI h r0 25 x1) r0 23).toNatClampNeg x1) r0 23).toNatClampNeg x2) (gF (sI (sI (sI h r0 25 x1) (gF (sI h r0 25 x1) r0 26) (gI (sI h r0 25 x1) r0 23).toNatClampNeg x1) (gF (sI (sI h r0 25 x1) (gF (sI h r0 25 x1) r0 26) (gI (sI h r0 25 x1) r0 23).toNatClampNeg x1) r0 27) (gI (sI (sI h r0 25 x1) (gF (sI h r0 25 x1) r0 26) (gI (sI h r0 25 x1) r0 23).toNatClampNeg x1) r0 23).toNatClampNeg x2) r0 28) (gI (sI (sI (sI h r0 25 x1) (gF (sI h r0 25 x1) r0 26) (gI (sI h r0 25 x1) r0 23).toNatClampNeg x1) (gF (sI (sI h r0 25 x1) (gF (sI h r0 25 x1) r0 26) (gI (sI h r0 25 x1) r0 23).toNatClampNeg x1) r0 27) (gI (sI (sI h r0 25 x1) (gF (sI h r0 25 x1) r0 26) (gI (sI h r0 25 x1) r0 23).toNatClampNeg x1) r0 23).toNatClampNeg x2) r0 23).toNatClampNeg x3) r0 29) (gI (sI (sI (sI (sI h r0 25 x1) (gF (sI h r0 25 x1) r0 26) (gI (sI h r0 25 x1) r0 23).toNatClampNeg x1) (gF (sI (sI h r0 25 x1) (gF (sI h r0 25 x1) r0 26) (gI (sI h r0 25 x1) r0 23).toNatClampNeg x1) r0 27) (gI (sI (sI h r0 25 x1) (gF (sI h r0 25 x1) r0 26) (gI (sI h r0 25 x1) r0 23).toNatClampNeg x1) r0 23).toNatClampNeg x2) (gF (sI (sI (sI h r0 25 x1) (gF (sI h r0 25 x1) r0 26) (gI (sI h r0 25 x1) r0 23).toNatClampNeg x1) (gF (sI (sI h r0 25 x1) (gF (sI h r0 25 x1) r0 26) (gI (sI h r0 25 x1) r0 23).toNatClampNeg x1) r0 27) (gI (sI (sI h r0 25 x1) (gF (sI h r0 25 x1) r0 26) (gI (sI h r0 25 x1) r0 23).toNatClampNeg x1) r0 23).toNatClampNeg x2) r0 28) (gI (sI (sI (sI h r0 25 x1) (gF (sI h r0 25 x1) r0 26) (gI (sI h r0 25 x1) r0 23).toNatClampNeg x1) (gF (sI (sI h r0 25 x1) (gF (sI h r0 25 x1) r0 26) (gI (sI h r0 25 x1) r0 23).toNatClampNeg x1) r0 27) (gI (sI (sI h r0 25 x1) (gF (sI h r0 25 x1) r0 26) (gI (sI h r0 25 x1) r0 23).toNatClampNeg x1) r0 23).toNatClampNeg x2) r0 23).toNatClampNeg x3) r0 23).toNatClampNeg x4) r0 30) (gI (sI (sI (sI (sI (sI h r0 25 x1) (gF (sI h r0 25 x1) r0 26) (gI (sI h r0 25 x1) r0 23).toNatClampNeg x1) (gF (sI (sI h r0 25 x1) (gF (sI h r0 25 x1) r0 26) (gI (sI h r0 25 x1) r0 23).toNatClampNeg x1) r0 27) (gI (sI (sI h r0 25 x1) (gF (sI h r0 25 x1) r0 26) (gI (sI h r0 25 x1) r0 23).toNatClampNeg x1) r0 23).toNatClampNeg x2) (gF (sI (sI (sI h r0 25 x1) (gF (sI h r0 25 x1) r0 26) (gI (sI h r0 25 x1) r0 23).toNatClampNeg x1) (gF (sI (sI h r0 25 x1) (gF (sI h r0 25 x1) r0 26) (gI (sI h r0 25 x1) r0 23).toNatClampNeg x1) r0 27) (gI (sI (sI h r0 25 x1) (gF (sI h r0 25 x1) r0 26) (gI (sI h r0 25 x1) r0 23).toNatClampNeg x1) r0 23).toNatClampNeg x2) r0 28) (gI (sI (sI (sI h r0 25 x1) (gF (sI h r0 25 x1) r0 26) (gI (sI h r0 25 x1) r0 23).toNatClampNeg x1) (gF (sI (sI h r0 25 x1) (gF (sI h r0 25 x1) r0 26) (gI (sI h r0 25 x1) r0 23).toNatClampNeg x1) r0 27) (gI (sI (sI h r0 25 x1) (gF (sI h r0 25 x1) r0 26) (gI (sI h r0 25 x1) r0 23).toNatClampNeg x1) r0 23).toNatClampNeg x2) r0 23).toNatClampNeg x3) (gF (sI (sI (sI (sI h r0 25 x1) (gF (sI h r0 25 x1) r0 26) (gI (sI h r0 25 x1) r0 23).toNatClampNeg x1) (gF (sI (sI h r0 25 x1) (gF (sI h r0 25 x1) r0 26) (gI (sI h r0 25 x1) r0 23).toNatClampNeg x1) r0 27) (gI (sI (sI h r0 25 x1) (gF (sI h r0 25 x1) r0 26) (gI (sI h r0 25 x1) r0 23).toNatClampNeg x1) r0 23).toNatClampNeg x2) (gF (sI (sI (sI h r0 25 x1) (gF (sI h r0 25 x1) r0 26) (gI (sI h r0 25 x1) r0 23).toNatClampNeg x1) (gF (sI (sI h r0 25 x1) (gF (sI h r0 25 x1) r0 26) (gI (sI h r0 25 x1) r0 23).toNatClampNeg x1) r0 27) (gI (sI (sI h r0 25 x1) (gF (sI h r0 25 x1) r0 26) (gI (sI h r0 25 x1) r0 23).toNatClampNeg x1) r0 23).toNatClampNeg x2) r0 28) (gI (sI (sI (sI h r0 25 x1) (gF (sI h r0 25 x1) r0 26) (gI (sI h r0 25 x1) r0 23).toNatClampNeg x1) (gF (sI (sI h r0 25 x1) (gF (sI h r0 25 x1) r0 26) (gI (sI h r0 25 x1) r0 23).toNatClampNeg x1) r0 27) (gI (sI (sI h r0 25 x1) (gF (sI h r0 25 x1) r0 26) (gI (sI h r0 25 x1) r0 23).toNatClampNeg x1) r0 23).toNatClampNeg x2) r0 23).toNatClampNeg x3) r0 29) (gI (sI (sI (sI (sI h r0 25 x1) (gF (sI h r0 25 x1) r0 26) (gI (sI h r0 25 x1) r0 23).toNatClampNeg x1) (gF (sI (sI h r0 25 x1) (gF (sI h r0 25 x1) r0 26) (gI (sI h r0 25 x1) r0 23).toNatClampNeg x1) r0 27) (gI (sI (sI h r0 25 x1) (gF (sI h r0 25 x1) r0 26) (gI (sI h r0 25 x1) r0 23).toNatClampNeg x1) r0 23).toNatClampNeg x2) (gF (sI (sI (sI h r0 25 x1) (gF (sI h r0 25 x1) r0 26) (gI (sI h r0 25 x1) r0 23).toNatClampNeg x1) (gF (sI (sI h r0 25 x1) (gF (sI h r0 25 x1) r0 26) (gI (sI h r0 25 x1) r0 23).toNatClampNeg x1) r0 27) (gI (sI (sI h r0 25 x1) (gF (sI h r0 25 x1) r0 26) (gI (sI h r0 25 x1) r0 23).toNatClampNeg x1) r0 23).toNatClampNeg x2) r0 28) (gI (sI (sI (sI h r0 25 x1) (gF (sI h r0 25 x1) r0 26) (gI (sI h r0 25 x1) r0 23).toNatClampNeg x1) (gF (sI (sI h r0 25 x1) (gF (sI h r0 25 x1) r0 26) (gI (sI h r0 25 x1) r0 23).toNatClampNeg x1) r0 27) (gI (sI (sI h r0 25 x1) (gF (sI h r0 25 x1) r0 26) (gI (sI h r0 25 x1) r0 23).toNatClampNeg x1) r0 23).toNatClampNeg x2) r0 23).toNatClampNeg x3) r0 23).toNatClampNeg x4) r0 23).toNatClampNeg x5) r0 23 ((gI (sI (sI (sI (sI (sI (sI h r0 25 x1) (gF (sI h r0 25 x1) r0 26) (gI (sI h r0 25 x1) r0 23).toNatClampNeg x1) (gF (sI (sI h r0 25 x1) (gF (sI h r0 25 x1) r0 26) (gI (sI h r0 25 x1) r0 23).toNatClampNeg x1) r0 27) (gI (sI (sI h r0 25 x1) (gF (sI h r0 25 x1) r0 26) (gI (sI h r0 25 x1) r0 23).toNatClampNeg x1) r0 23).toNatClampNeg x2) (gF (sI (sI (sI h r0 25 x1) (gF (sI h r0 25 x1) r0 26) (gI (sI h r0 25 x1) r0 23).toNatClampNeg x1) (gF (sI (sI h r0 25 x1) (gF (sI h r0 25 x1) r0 26) (gI (sI h r0 25 x1) r0 23).toNatClampNeg x1) r0 27) (gI (sI (sI h r0 25 x1) (gF (sI h r0 25 x1) r0 26) (gI (sI h r0 25 x1) r0 23).toNatClampNeg x1) r0 23).toNatClampNeg x2) r0 28) (gI (sI (sI (sI h r0 25 x1) (gF (sI h r0 25 x1) r0 26) (gI (sI h r0 25 x1) r0 23).toNatClampNeg x1) (gF (sI (sI h r0 25 x1) (gF (sI h r0 25 x1) r0 26) (gI (sI h r0 25 x1) r0 23).toNatClampNeg x1) r0 27) (gI (sI (sI h r0 25 x1) (gF (sI h r0 25 x1) r0 26) (gI (sI h r0 25 x1) r0 23).toNatClampNeg x1) r0 23).toNatClampNeg x2) r0 23).toNatClampNeg x3) (gF (sI (sI (sI (sI h r0 25 x1) (gF (sI h r0 25 x1) r0 26) (gI (sI h r0 25 x1) r0 23).toNatClampNeg x1) (gF (sI (sI h r0 25 x1) (gF (sI h r0 25 x1) r0 26) (gI (sI h r0 25 x1) r0 23).toNatClampNeg x1) r0 27) (gI (sI (sI h r0 25 x1) (gF (sI h r0 25 x1) r0 26) (gI (sI h r0 25 x1) r0 23).toNatClampNeg x1) r0 23).toNatClampNeg x2) (gF (sI (sI (sI h r0 25 x1) (gF (sI h r0 25 x1) r0 26) (gI (sI h r0 25 x1) r0 23).toNatClampNeg x1) (gF (sI (sI h r0 25 x1) (gF (sI h r0 25 x1) r0 26) (gI (sI h r0 25 x1) r0 23).toNatClampNeg x1) r0 27) (gI (sI (sI h r0 25 x1) (gF (sI h r0 25 x1) r0 26) (gI (sI h r0 25 x1) r0 23).toNatClampNeg x1) r0 23).toNatClampNeg x2) r0 28) (gI (sI (sI (sI h r0 25 x1) (gF (sI h r0 25 x1) r0 26) (gI (sI h r0 25 x1) r0 23).toNatClampNeg x1) (gF (sI (sI h r0 25 x1) (gF (sI h r0 25 x1) r0 26) (gI (sI h r0 25 x1) r0 23).toNatClampNeg x1) r0 27) (gI (sI (sI h r0 25 x1) (gF (sI h r0 25 x1) r0 26) (gI (sI h r0 25 x1) r0 23).toNatClampNeg x1) r0 23).toNatClampNeg x2) r0 23).toNatClampNeg x3) r0 29) (gI (sI (sI (sI (sI h r0 25 x1) (gF (sI h r0 25 x1) r0 26) (gI (sI h r0 25 x1) r0 23).toNatClampNeg x1) (gF (sI (sI h r0 25 x1) (gF (sI h r0 25 x1) r0 26) (gI (sI h r0 25 x1) r0 23).toNatClampNeg x1) r0 27) (gI (sI (sI h r0 25 x1) (gF (sI h r0 25 x1) r0 26) (gI (sI h r0 25 x1) r0 23).toNatClampNeg x1) r0 23).toNatClampNeg x2) (gF (sI (sI (sI h r0 25 x1) (gF (sI h r0 25 x1) r0 26) (gI (sI h r0 25 x1) r0 23).toNatClampNeg x1) (gF (sI (sI h r0 25 x1) (gF (sI h r0 25 x1) r0 26) (gI (sI h r0 25 x1) r0 23).toNatClampNeg x1) r0 27) (gI (sI (sI h r0 25 x1) (gF (sI h r0 25 x1) r0 26) (gI (sI h r0 25 x1) r0 23).toNatClampNeg x1) r0 23).toNatClampNeg x2) r0 28) (gI (sI (sI (sI h r0 25 x1) (gF (sI h r0 25 x1) r0 26) (gI (sI h r0 25 x1) r0 23).toNatClampNeg x1) (gF (sI (sI h r0 25 x1) (gF (sI h r0 25 x1) r0 26) (gI (sI h r0 25 x1) r0 23).toNatClampNeg x1) r0 27) (gI (sI (sI h r0 25 x1) (gF (sI h r0 25 x1) r0 26) (gI (sI h r0 25 x1) r0 23).toNatClampNeg x1) r0 23).toNatClampNeg x2) r0 23).toNatClampNeg x3) r0 23).toNatClampNeg x4) (gF (sI (sI (sI (sI (sI h r0 25 x1) (gF (sI h r0 25 x1) r0 26) (gI (sI h r0 25 x1) r0 23).toNatClampNeg x1) (gF (sI (sI h r0 25 x1) (gF (sI h r0 25 x1) r0 26) (gI (sI h r0 25 x1) r0 23).toNatClampNeg x1) r0 27) (gI (sI (sI h r0 25 x1) (gF (sI h r0 25 x1) r0 26) (gI (sI h r0 25 x1) r0 23).toNatClampNeg x1) r0 23).toNatClampNeg x2) (gF (sI (sI (sI h r0 25 x1) (gF (sI h r0 25 x1) r0 26) (gI (sI h r0 25 x1) r0 23).toNatClampNeg x1) (gF (sI (sI h r0 25 x1) (gF (sI h r0 25 x1) r0 26) (gI (sI h r0 25 x1) r0 23).toNatClampNeg x1) r0 27) (gI (sI (sI h r0 25 x1) (gF (sI h r0 25 x1) r0 26) (gI (sI h r0 25 x1) r0 23).toNatClampNeg x1) r0 23).toNatClampNeg x2) r0 28) (gI (sI (sI (sI h r0 25 x1) (gF (sI h r0 25 x1) r0 26) (gI (sI h r0 25 x1) r0 23).toNatClampNeg x1) (gF (sI (sI h r0 25 x1) (gF (sI h r0 25 x1) r0 26) (gI (sI h r0 25 x1) r0 23).toNatClampNeg x1) r0 27) (gI (sI (sI h r0 25 x1) (gF (sI h r0 25 x1) r0 26) (gI (sI h r0 25 x1) r0 23).toNatClampNeg x1) r0 23).toNatClampNeg x2) r0 23).toNatClampNeg x3) (gF (sI (sI (sI (sI h r0 25 x1) (gF (sI h r0 25 x1) r0 26) (gI (sI h r0 25 x1) r0 23).toNatClampNeg x1) (gF (sI (sI h r0 25 x1) (gF (sI h r0 25 x1) r0 26) (gI (sI h r0 25 x1) r0 23).toNatClampNeg x1) r0 27) (gI (sI (sI h r0 25 x1) (gF (sI h r0 25 x1) r0 26) (gI (sI h r0 25 x1) r0 23).toNatClampNeg x1) r0 23).toNatClampNeg x2) (gF (sI (sI (sI h r0 25 x1) (gF (sI h r0 25 x1) r0 26) (gI (sI h r0 25 x1) r0 23).toNatClampNeg x1) (gF (sI (sI h r0 25 x1) (gF (sI h r0 25 x1) r0 26) (gI (sI h r0 25 x1) r0 23).toNatClampNeg x1) r0 27) (gI (sI (sI h r0 25 x1) (gF (sI h r0 25 x1) r0 26) (gI (sI h r0 25 x1) r0 23).toNatClampNeg x1) r0 23).toNatClampNeg x2) r0 28) (gI (sI (sI (sI h r0 25 x1) (gF (sI h r0 25 x1) r0 26) (gI (sI h r0 25 x1) r0 23).toNatClampNeg x1) (gF (sI (sI h r0 25 x1) (gF (sI h r0 25 x1) r0 26) (gI (sI h r0 25 x1) r0 23).toNatClampNeg x1) r0 27) (gI (sI (sI h r0 25 x1) (gF (sI h r0 25 x1) r0 26) (gI (sI h r0 25 x1) r0 23).toNatClampNeg x1) r0 23).toNatClampNeg x2) r0 23).toNatClampNeg x3) r0 29) (gI (sI (sI (sI (sI h r0 25 x1) (gF (sI h r0 25 x1) r0 26) (gI (sI h r0 25 x1) r0 23).toNatClampNeg x1) (gF (sI (sI h r0 25 x1) (gF (sI h r0 25 x1) r0 26) (gI (sI h r0 25 x1) r0 23).toNatClampNeg x1) r0 27) (gI (sI (sI h r0 25 x1) (gF (sI h r0 25 x1) r0 26) (gI (sI h r0 25 x1) r0 23).toNatClampNeg x1) r0 23).toNatClampNeg x2) (gF (sI (sI (sI h r0 25 x1) (gF (sI h r0 25 x1) r0 26) (gI (sI h r0 25 x1) r0 23).toNatClampNeg x1) (gF (sI (sI h r0 25 x1) (gF (sI h r0 25 x1) r0 26) (gI (sI h r0 25 x1) r0 23).toNatClampNeg x1) r0 27) (gI (sI (sI h r0 25 x1) (gF (sI h r0 25 x1) r0 26) (gI (sI h r0 25 x1) r0 23).toNatClampNeg x1) r0 23).toNatClampNeg x2) r0 28) (gI (sI (sI (sI h r0 25 x1) (gF (sI h r0 25 x1) r0 26) (gI (sI h r0 25 x1) r0 23).toNatClampNeg x1) (gF (sI (sI h r0 25 x1) (gF (sI h r0 25 x1) r0 26) (gI (sI h r0 25 x1) r0 23).toNatClampNeg x1) r0 27) (gI (sI (sI h r0 25 x1) (gF (sI h r0 25 x1) r0 26) (gI (sI h r0 25 x1) r0 23).toNatClampNeg x1) r0 23).toNatClampNeg x2) r0 23).toNatClampNeg x3) r0 23).toNatClampNeg x4) r0 30) (gI (sI (sI (sI (sI (sI h r0 25 x1) (gF (sI h r0 25 x1) r0 26) (gI (sI h r0 25 x1) r0 23).toNatClampNeg x1) (gF (sI (sI h r0 25 x1) (gF (sI h r0 25 x1) r0 26) (gI (sI h r0 25 x1) r0 23).toNatClampNeg x1) r0 27) (gI (sI (sI h r0 25 x1) (gF (sI h r0 25 x1) r0 26) (gI (sI h r0 25 x1) r0 23).toNatClampNeg x1) r0 23).toNatClampNeg x2) (gF (sI (sI (sI h r0 25 x1) (gF (sI h r0 25 x1) r0 26) (gI (sI h r0 25 x1) r0 23).toNatClampNeg x1) (gF (sI (sI h r0 25 x1) (gF (sI h r0 25 x1) r0 26) (gI (sI h r0 25 x1) r0 23).toNatClampNeg x1) r0 27) (gI (sI (sI h r0 25 x1) (gF (sI h r0 25 x1) r0 26) (gI (sI h r0 25 x1) r0 23).toNatClampNeg x1) r0 23).toNatClampNeg x2) r0 28) (gI (sI (sI (sI h r0 25 x1) (gF (sI h r0 25 x1) r0 26) (gI (sI h r0 25 x1) r0 23).toNatClampNeg x1) (gF (sI (sI h r0 25 x1) (gF (sI h r0 25 x1) r0 26) (gI (sI h r0 25 x1) r0 23).toNatClampNeg x1) r0 27) (gI (sI (sI h r0 25 x1) (gF (sI h r0 25 x1) r0 26) (gI (sI h r0 25 x1) r0 23).toNatClampNeg x1) r0 23).toNatClampNeg x2) r0 23).toNatClampNeg x3) (gF (sI (sI (sI (sI h r0 25 x1) (gF (sI h r0 25 x1) r0 26) (gI (sI h r0 25 x1) r0 23).toNatClampNeg x1) (gF (sI (sI h r0 25 x1) (gF (sI h r0 25 x1) r0 26) (gI (sI h r0 25 x1) r0 23).toNatClampNeg x1) r0 27) (gI (sI (sI h r0 25 x1) (gF (sI h r0 25 x1) r0 26) (gI (sI h r0 25 x1) r0 23).toNatClampNeg x1) r0 23).toNatClampNeg x2) (gF (sI (sI (sI h r0 25 x1) (gF (sI h r0 25 x1) r0 26) (gI (sI h r0 25 x1) r0 23).toNatClampNeg x1) (gF (sI (sI h r0 25 x1) (gF (sI h r0 25 x1) r0 26) (gI (sI h r0 25 x1) r0 23).toNatClampNeg x1) r0 27) (gI (sI (sI h r0 25 x1) (gF (sI h r0 25 x1) r0 26) (gI (sI h r0 25 x1) r0 23).toNatClampNeg x1) r0 23).toNatClampNeg x2) r0 28) (gI (sI (sI (sI h r0 25 x1) (gF (sI h r0 25 x1) r0 26) (gI (sI h r0 25 x1) r0 23).toNatClampNeg x1) (gF (sI (sI h r0 25 x1) (gF (sI h r0 25 x1) r0 26) (gI (sI h r0 25 x1) r0 23).toNatClampNeg x1) r0 27) (gI (sI (sI h r0 25 x1) (gF (sI h r0 25 x1) r0 26) (gI (sI h r0 25 x1) r0 23).toNatClampNeg x1) r0 23).toNatClampNeg x2) r0 23).toNatClampNeg x3) r0 29) (gI (sI (sI (sI (sI h r0 25 x1) (gF (sI h r0 25 x1) r0 26) (gI (sI h r0 25 x1) r0 23).toNatClampNeg x1) (gF (sI (sI h r0 25 x1) (gF (sI h r0 25 x1) r0 26) (gI (sI h r0 25 x1) r0 23).toNatClampNeg x1) r0 27) (gI (sI (sI h r0 25 x1) (gF (sI h r0 25 x1) r0 26) (gI (sI h r0 25 x1) r0 23).toNatClampNeg x1) r0 23).toNatClampNeg x2) (gF (sI (sI (sI h r0 25 x1) (gF (sI h r0 25 x1) r0 26) (gI (sI h r0 25 x1) r0 23).toNatClampNeg x1) (gF (sI (sI h r0 25 x1) (gF (sI h r0 25 x1) r0 26) (gI (sI h r0 25 x1) r0 23).toNatClampNeg x1) r0 27) (gI (sI (sI h r0 25 x1) (gF (sI h r0 25 x1) r0 26) (gI (sI h r0 25 x1) r0 23).toNatClampNeg x1) r0 23).toNatClampNeg x2) r0 28) (gI (sI (sI (sI h r0 25 x1) (gF (sI h r0 25 x1) r0 26) (gI (sI h r0 25 x1) r0 23).toNatClampNeg x1) (gF (sI (sI h r0 25 x1) (gF (sI h r0 25 x1) r0 26) (gI (sI h r0 25 x1) r0 23).toNatClampNeg x1) r0 27) (gI (sI (sI h r0 25 x1) (gF (sI h r0 25 x1) r0 26) (gI (sI h r0 25 x1) r0 23).toNatClampNeg x1) r0 23).toNatClampNeg x2) r0 23).toNatClampNeg x3) r0 23).toNatClampNeg x4) r0 23).toNatClampNeg x5) r0 23) + 1))))))))))))) ∧ ((gI h r0 23) = 24 → P (some (.int (-3))) h)) ∧ (¬ (¬ x5 < (-99) ∧ ¬ 99 < x5) → P (some (.int (-2))) h))))))))) : Rr mX12_read 0 0 0 [(0, .ref r0), (1, .int x1), (2, .int x2), (3, .int x3), (4, .int x4), (5, .int x5)] [] h P := by
  refine R_iload_n dX12_read_0 rfl 1 rfl ?_
  refine R_aload_n dX12_read_1 rfl 0 rfl ?_
  obtain ⟨ob1, hf⟩ := hf
  refine G12_25 dX12_read_2 lfX12_205 ob1 ?_
  refine R_sipush (v := 999) dX12_read_5 (by decide) ?_
  refine R_callS (N := mX12_in) (as := [.int x1, .int (gI h r0 25), .int 999]) (rest := []) (kc2 := 0) (ks2 := 0) dX12_read_8 lmX12_178 oX12_in (Nat.le_of_ble_eq_true rfl) rfl rfl (Nat.le_of_ble_eq_true rfl) rfl rfl (aX12_in  ?_)
  refine R_if_eq_b (tgt := 61) dX12_read_11 (by decide) (fun b2 => ?_) (fun b2 => ?_)
  · have hf := hf.1 b2
    refine R_bipush (v := (-2)) dX12_read_61 (by decide) ?_
    exact R_iret dX12_read_63 rfl rfl hf
  · have hf := hf.2 b2
    refine R_iload_n dX12_read_14 rfl 2 rfl ?_
    refine R_callS (N := mX12_isInkNumber) (as := [.int x2]) (rest := []) (kc2 := 0) (ks2 := 0) dX12_read_15 lmX12_259 oX12_isInkNumber (Nat.le_of_ble_eq_true rfl) rfl rfl (Nat.le_of_ble_eq_true rfl) rfl rfl (aX12_isInkNumber  ?_)
    refine R_if_eq_b (tgt := 61) dX12_read_18 (by decide) (fun b3 => ?_) (fun b3 => ?_)
    · have hf := hf.1 b3
      refine R_bipush (v := (-2)) dX12_read_61 (by decide) ?_
      exact R_iret dX12_read_63 rfl rfl hf
    · have hf := hf.2 b3
      refine R_iload_n dX12_read_21 rfl 3 rfl ?_
      refine R_iconst (v := 0) dX12_read_22 (by decide) ?_
      refine R_aload_n dX12_read_23 rfl 0 rfl ?_
      refine G12_11 dX12_read_24 lfX12_17 ob1 ?_
      refine R_iconst (v := 2) dX12_read_27 (by decide) ?_
      obtain ⟨ob4, hf⟩ := hf
      obtain ⟨ob5, hf⟩ := hf
      refine R_iaload dX12_read_28 ob4 ob5 ?_
      refine R_iconst (v := 1) dX12_read_29 (by decide) ?_
      refine R_isub dX12_read_30 ?_
      refine R_callS (N := mX12_in) (as := [.int x3, .int 0, .int ((gI h (gF h r0 11) (Int32.toNatClampNeg 2)) - 1)]) (rest := []) (kc2 := 0) (ks2 := 0) dX12_read_31 lmX12_178 oX12_in (Nat.le_of_ble_eq_true rfl) rfl rfl (Nat.le_of_ble_eq_true rfl) rfl rfl (aX12_in  ?_)
      refine R_if_eq_b (tgt := 61) dX12_read_34 (by decide) (fun b6 => ?_) (fun b6 => ?_)
      · have hf := hf.1 b6
        refine R_bipush (v := (-2)) dX12_read_61 (by decide) ?_
        exact R_iret dX12_read_63 rfl rfl hf
      · have hf := hf.2 b6
        refine R_iload dX12_read_37 4 rfl ?_
        refine R_bipush (v := (-99)) dX12_read_39 (by decide) ?_
        refine R_bipush (v := 99) dX12_read_41 (by decide) ?_
        refine R_callS (N := mX12_in) (as := [.int x4, .int (-99), .int 99]) (rest := []) (kc2 := 0) (ks2 := 0) dX12_read_43 lmX12_178 oX12_in (Nat.le_of_ble_eq_true rfl) rfl rfl (Nat.le_of_ble_eq_true rfl) rfl rfl (aX12_in  ?_)
        refine R_if_eq_b (tgt := 61) dX12_read_46 (by decide) (fun b7 => ?_) (fun b7 => ?_)
        · have hf := hf.1 b7
          refine R_bipush (v := (-2)) dX12_read_61 (by decide) ?_
          exact R_iret dX12_read_63 rfl rfl hf
        · have hf := hf.2 b7
          refine R_iload dX12_read_49 5 rfl ?_
          refine R_bipush (v := (-99)) dX12_read_51 (by decide) ?_
          refine R_bipush (v := 99) dX12_read_53 (by decide) ?_
          refine R_callS (N := mX12_in) (as := [.int x5, .int (-99), .int 99]) (rest := []) (kc2 := 0) (ks2 := 0) dX12_read_55 lmX12_178 oX12_in (Nat.le_of_ble_eq_true rfl) rfl rfl (Nat.le_of_ble_eq_true rfl) rfl rfl (aX12_in  ?_)
          refine R_if_ne_b (tgt := 64) dX12_read_58 (by decide) (fun b8 => ?_) (fun b8 => ?_)
          · have hf := hf.1 b8
            refine R_aload_n dX12_read_64 rfl 0 rfl ?_
            refine G12_23 dX12_read_65 lfX12_199 ob1 ?_
            refine R_bipush (v := 24) dX12_read_68 (by decide) ?_
            refine R_icmp_ne (tgt := 76) dX12_read_70 (by decide) (fun b9 => ?_) (fun b9 => ?_)
            · have hf := hf.1 b9
              refine R_aload_n dX12_read_76 rfl 0 rfl ?_
              refine R_iload_n dX12_read_77 rfl 1 rfl ?_
              refine S12_25 dX12_read_78 lfX12_205 ob1 ?_
              refine R_aload_n dX12_read_81 rfl 0 rfl ?_
              refine G12_26 dX12_read_82 lfX12_45 ob1 ?_
              refine R_aload_n dX12_read_85 rfl 0 rfl ?_
              refine G12_23 dX12_read_86 lfX12_199 ob1 ?_
              refine R_iload_n dX12_read_89 rfl 1 rfl ?_
              obtain ⟨ob10, hf⟩ := hf
              obtain ⟨ob11, hf⟩ := hf
              refine R_iastore dX12_read_90 ob10 ob11 ?_
              refine R_aload_n dX12_read_91 rfl 0 rfl ?_
              refine G12_27 dX12_read_92 lfX12_48 ob1 ?_
              refine R_aload_n dX12_read_95 rfl 0 rfl ?_
              refine G12_23 dX12_read_96 lfX12_199 ob1 ?_
              refine R_iload_n dX12_read_99 rfl 2 rfl ?_
              obtain ⟨ob12, hf⟩ := hf
              obtain ⟨ob13, hf⟩ := hf
              refine R_iastore dX12_read_100 ob12 ob13 ?_
              refine R_aload_n dX12_read_101 rfl 0 rfl ?_
              refine G12_28 dX12_read_102 lfX12_51 ob1 ?_
              refine R_aload_n dX12_read_105 rfl 0 rfl ?_
              refine G12_23 dX12_read_106 lfX12_199 ob1 ?_
              refine R_iload_n dX12_read_109 rfl 3 rfl ?_
              obtain ⟨ob14, hf⟩ := hf
              obtain ⟨ob15, hf⟩ := hf
              refine R_iastore dX12_read_110 ob14 ob15 ?_
              refine R_aload_n dX12_read_111 rfl 0 rfl ?_
              refine G12_29 dX12_read_112 lfX12_54 ob1 ?_
              refine R_aload_n dX12_read_115 rfl 0 rfl ?_
              refine G12_23 dX12_read_116 lfX12_199 ob1 ?_
              refine R_iload dX12_read_119 4 rfl ?_
              obtain ⟨ob16, hf⟩ := hf
              obtain ⟨ob17, hf⟩ := hf
              refine R_iastore dX12_read_121 ob16 ob17 ?_
              refine R_aload_n dX12_read_122 rfl 0 rfl ?_
              refine G12_30 dX12_read_123 lfX12_57 ob1 ?_
              refine R_aload_n dX12_read_126 rfl 0 rfl ?_
              refine G12_23 dX12_read_127 lfX12_199 ob1 ?_
              refine R_iload dX12_read_130 5 rfl ?_
              obtain ⟨ob18, hf⟩ := hf
              obtain ⟨ob19, hf⟩ := hf
              refine R_iastore dX12_read_132 ob18 ob19 ?_
              refine R_aload_n dX12_read_133 rfl 0 rfl ?_
              refine R_dup dX12_read_134 rfl ?_
              refine G12_23 dX12_read_135 lfX12_199 ob1 ?_
              refine R_iconst (v := 1) dX12_read_138 (by decide) ?_
              refine R_iadd dX12_read_139 ?_
              refine S12_23 dX12_read_140 lfX12_199 ob1 ?_
              refine R_aload_n dX12_read_143 rfl 0 rfl ?_
              refine G12_23 dX12_read_144 lfX12_199 ob1 ?_
              refine R_iconst (v := 1) dX12_read_147 (by decide) ?_
              refine R_isub dX12_read_148 ?_
              exact R_iret dX12_read_149 rfl rfl hf
            · have hf := hf.2 b9
              refine R_bipush (v := (-3)) dX12_read_73 (by decide) ?_
              exact R_iret dX12_read_75 rfl rfl hf
          · have hf := hf.2 b8
            refine R_bipush (v := (-2)) dX12_read_61 (by decide) ?_
            exact R_iret dX12_read_63 rfl rfl hf
theorem dX12_screw_0 : decode cX12_screw 0 = .ok (.iload_n 1, 1) := by decide +kernel
theorem dX12_screw_1 : decode cX12_screw 1 = .ok (.invokestatic 259, 3) := by decide +kernel
theorem dX12_screw_4 : decode cX12_screw 4 = .ok (.ifCond .eq 46, 3) := by decide +kernel
theorem dX12_screw_7 : decode cX12_screw 7 = .ok (.iload_n 2, 1) := by decide +kernel
theorem dX12_screw_8 : decode cX12_screw 8 = .ok (.iconst 0, 1) := by decide +kernel
theorem dX12_screw_9 : decode cX12_screw 9 = .ok (.aload_n 0, 1) := by decide +kernel
theorem dX12_screw_10 : decode cX12_screw 10 = .ok (.getfield 27, 3) := by decide +kernel
theorem dX12_screw_13 : decode cX12_screw 13 = .ok (.iload_n 1, 1) := by decide +kernel
theorem dX12_screw_14 : decode cX12_screw 14 = .ok (.iaload, 1) := by decide +kernel
theorem dX12_screw_15 : decode cX12_screw 15 = .ok (.iconst 1, 1) := by decide +kernel
theorem dX12_screw_16 : decode cX12_screw 16 = .ok (.isub, 1) := by decide +kernel
theorem dX12_screw_17 : decode cX12_screw 17 = .ok (.invokestatic 178, 3) := by decide +kernel
theorem dX12_screw_20 : decode cX12_screw 20 = .ok (.ifCond .eq 30, 3) := by decide +kernel
theorem dX12_screw_23 : decode cX12_screw 23 = .ok (.iload_n 3, 1) := by decide +kernel
theorem dX12_screw_24 : decode cX12_screw 24 = .ok (.iconst 0, 1) := by decide +kernel
theorem dX12_screw_25 : decode cX12_screw 25 = .ok (.iconst 2, 1) := by decide +kernel
theorem dX12_screw_26 : decode cX12_screw 26 = .ok (.invokestatic 178, 3) := by decide +kernel
theorem dX12_screw_29 : decode cX12_screw 29 = .ok (.ifCond .eq 21, 3) := by decide +kernel
theorem dX12_screw_32 : decode cX12_screw 32 = .ok (.aload_n 0, 1) := by decide +kernel
theorem dX12_screw_33 : decode cX12_screw 33 = .ok (.getfield 30, 3) := by decide +kernel
theorem dX12_screw_36 : decode cX12_screw 36 = .ok (.bipush 9, 2) := by decide +kernel
theorem dX12_screw_38 : decode cX12_screw 38 = .ok (.iload_n 1, 1) := by decide +kernel
theorem dX12_screw_39 : decode cX12_screw 39 = .ok (.imul, 1) := by decide +kernel
theorem dX12_screw_40 : decode cX12_screw 40 = .ok (.iconst 3, 1) := by decide +kernel
theorem dX12_screw_41 : decode cX12_screw 41 = .ok (.iload_n 2, 1) := by decide +kernel
theorem dX12_screw_42 : decode cX12_screw 42 = .ok (.imul, 1) := by decide +kernel
theorem dX12_screw_43 : decode cX12_screw 43 = .ok (.iadd, 1) := by decide +kernel
theorem dX12_screw_44 : decode cX12_screw 44 = .ok (.iload_n 3, 1) := by decide +kernel
theorem dX12_screw_45 : decode cX12_screw 45 = .ok (.iadd, 1) := by decide +kernel
theorem dX12_screw_46 : decode cX12_screw 46 = .ok (.iaload, 1) := by decide +kernel
theorem dX12_screw_47 : decode cX12_screw 47 = .ok (.goto 5, 3) := by decide +kernel
theorem dX12_screw_50 : decode cX12_screw 50 = .ok (.bipush (-99), 2) := by decide +kernel
theorem dX12_screw_52 : decode cX12_screw 52 = .ok (.ireturn, 1) := by decide +kernel
set_option maxRecDepth 20000 in
theorem sX12_screw_0 {P : Option Value → AH → Prop} (h : AH) (r0 : Nat) (x1 : Int32) (x2 : Int32) (x3 : Int32) (hf : (isO h 12 r0) ∧ ((isA h 0 (gF h r0 14)) ∧ (((¬ x1 < 0 ∧ ¬ 3 < x1) → vp_in x1 (ln (gF h r0 14))) ∧ ((isA h 0 (gF h r0 15)) ∧ (((¬ x1 < 0 ∧ ¬ 3 < x1) → (¬ x2 < 0 ∧ ¬ ((gI h (gF h r0 14) x1.toNatClampNeg) - 1) < x2) → (¬ x3 < 0 ∧ ¬ 2 < x3) → vp_in (((9 * x1) + (3 * x2)) + x3) (ln (gF h r0 15))) ∧ (∀ z9 : Int32, z9 = (if (¬ x1 < 0 ∧ ¬ 3 < x1) then (if (¬ x2 < 0 ∧ ¬ ((gI h (gF h r0 14) x1.toNatClampNeg) - 1) < x2) then (if (¬ x3 < 0 ∧ ¬ 2 < x3) then (gI h (gF h r0 15) (((9 * x1) + (3 * x2)) + x3).toNatClampNeg) else (-99)) else (-99)) else (-99)) → (P (some (.int z9)) h))))))) : Rr mX12_screw 0 0 0 [(0, .ref r0), (1, .int x1), (2, .int x2), (3, .int x3)] [] h P := by
  refine R_iload_n dX12_screw_0 rfl 1 rfl ?_
  refine R_callS (N := mX12_isInkNumber) (as := [.int x1]) (rest := []) (kc2 := 0) (ks2 := 0) dX12_screw_1 lmX12_259 oX12_isInkNumber (Nat.le_of_ble_eq_true rfl) rfl rfl (Nat.le_of_ble_eq_true rfl) rfl rfl (aX12_isInkNumber  ?_)
  obtain ⟨ob2, hf⟩ := hf
  obtain ⟨ob3, hf⟩ := hf
  obtain ⟨ob4, hf⟩ := hf
  obtain ⟨ob7, hf⟩ := hf
  obtain ⟨ob8, hf⟩ := hf
  have key : ∀ z9 : Int32, z9 = (if (¬ x1 < 0 ∧ ¬ 3 < x1) then (if (¬ x2 < 0 ∧ ¬ ((gI h (gF h r0 14) x1.toNatClampNeg) - 1) < x2) then (if (¬ x3 < 0 ∧ ¬ 2 < x3) then (gI h (gF h r0 15) (((9 * x1) + (3 * x2)) + x3).toNatClampNeg) else (-99)) else (-99)) else (-99)) → Rr mX12_screw 0 0 52 [] [.int z9] h P := by
    intro z9 ez9
    have hf := hf z9 ez9
    exact R_iret dX12_screw_52 rfl rfl hf
  refine R_if_eq_b (tgt := 50) dX12_screw_4 (by decide) (fun b1 => ?_) (fun b1 => ?_)
  · refine R_bipush (v := (-99)) dX12_screw_50 (by decide) ?_
    exact R_sub [] rfl (key _ (by rw [if_neg b1]))
  · refine R_iload_n dX12_screw_7 rfl 2 rfl ?_
    refine R_iconst (v := 0) dX12_screw_8 (by decide) ?_
    refine R_aload_n dX12_screw_9 rfl 0 rfl ?_
    refine G12_14 dX12_screw_10 lfX12_27 ob2 ?_
    refine R_iload_n dX12_screw_13 rfl 1 rfl ?_
    refine R_iaload dX12_screw_14 ob3 (ob4 b1) ?_
    refine R_iconst (v := 1) dX12_screw_15 (by decide) ?_
    refine R_isub dX12_screw_16 ?_
    refine R_callS (N := mX12_in) (as := [.int x2, .int 0, .int ((gI h (gF h r0 14) x1.toNatClampNeg) - 1)]) (rest := []) (kc2 := 0) (ks2 := 0) dX12_screw_17 lmX12_178 oX12_in (Nat.le_of_ble_eq_true rfl) rfl rfl (Nat.le_of_ble_eq_true rfl) rfl rfl (aX12_in  ?_)
    refine R_if_eq_b (tgt := 50) dX12_screw_20 (by decide) (fun b5 => ?_) (fun b5 => ?_)
    · refine R_bipush (v := (-99)) dX12_screw_50 (by decide) ?_
      exact R_sub [] rfl (key _ (by rw [if_pos b1, if_neg b5]))
    · refine R_iload_n dX12_screw_23 rfl 3 rfl ?_
      refine R_iconst (v := 0) dX12_screw_24 (by decide) ?_
      refine R_iconst (v := 2) dX12_screw_25 (by decide) ?_
      refine R_callS (N := mX12_in) (as := [.int x3, .int 0, .int 2]) (rest := []) (kc2 := 0) (ks2 := 0) dX12_screw_26 lmX12_178 oX12_in (Nat.le_of_ble_eq_true rfl) rfl rfl (Nat.le_of_ble_eq_true rfl) rfl rfl (aX12_in  ?_)
      refine R_if_eq_b (tgt := 50) dX12_screw_29 (by decide) (fun b6 => ?_) (fun b6 => ?_)
      · refine R_bipush (v := (-99)) dX12_screw_50 (by decide) ?_
        exact R_sub [] rfl (key _ (by rw [if_pos b1, if_pos b5, if_neg b6]))
      · refine R_aload_n dX12_screw_32 rfl 0 rfl ?_
        refine G12_15 dX12_screw_33 lfX12_30 ob2 ?_
        refine R_bipush (v := 9) dX12_screw_36 (by decide) ?_
        refine R_iload_n dX12_screw_38 rfl 1 rfl ?_
        refine R_imul dX12_screw_39 ?_
        refine R_iconst (v := 3) dX12_screw_40 (by decide) ?_
        refine R_iload_n dX12_screw_41 rfl 2 rfl ?_
        refine R_imul dX12_screw_42 ?_
        refine R_iadd dX12_screw_43 ?_
        refine R_iload_n dX12_screw_44 rfl 3 rfl ?_
        refine R_iadd dX12_screw_45 ?_
        refine R_iaload dX12_screw_46 ob7 (ob8 b1 b5 b6) ?_
        refine R_goto (tgt := 52) dX12_screw_47 (by decide) ?_
        exact R_sub [] rfl (key _ (by rw [if_pos b1, if_pos b5, if_pos b6]))
theorem aX12_screw {h : AH} {P : Option Value → AH → Prop} {r0 : Nat} {x1 : Int32} {x2 : Int32} {x3 : Int32} (o0 : isO h 12 r0) (o1 : isA h 0 (gF h r0 14)) (o2 : (¬ x1 < 0 ∧ ¬ 3 < x1) → vp_in x1 (ln (gF h r0 14))) (o3 : isA h 0 (gF h r0 15)) (o4 : (¬ x1 < 0 ∧ ¬ 3 < x1) → (¬ x2 < 0 ∧ ¬ ((gI h (gF h r0 14) x1.toNatClampNeg) - 1) < x2) → (¬ x3 < 0 ∧ ¬ 2 < x3) → vp_in (((9 * x1) + (3 * x2)) + x3) (ln (gF h r0 15))) (k : P (some (.int (if (¬ x1 < 0 ∧ ¬ 3 < x1) then (if (¬ x2 < 0 ∧ ¬ ((gI h (gF h r0 14) x1.toNatClampNeg) - 1) < x2) then (if (¬ x3 < 0 ∧ ¬ 2 < x3) then (gI h (gF h r0 15) (((9 * x1) + (3 * x2)) + x3).toNatClampNeg) else (-99)) else (-99)) else (-99)))) h) : Call mX12_screw [.ref r0, .int x1, .int x2, .int x3] h P :=
  Call.ofR (by decide +kernel) (Nat.le_of_ble_eq_true rfl) (sX12_screw_0 h r0 x1 x2 x3 (⟨o0, ⟨o1, ⟨o2, ⟨o3, ⟨o4, fun z9 ez9 => by subst ez9; exact (k)⟩⟩⟩⟩⟩))
theorem dX12_setting_0 : decode cX12_setting 0 = .ok (.iload_n 1, 1) := by decide +kernel
theorem dX12_setting_1 : decode cX12_setting 1 = .ok (.iconst 0, 1) := by decide +kernel
theorem dX12_setting_2 : decode cX12_setting 2 = .ok (.iconst 4, 1) := by decide +kernel
theorem dX12_setting_3 : decode cX12_setting 3 = .ok (.invokestatic 178, 3) := by decide +kernel
theorem dX12_setting_6 : decode cX12_setting 6 = .ok (.ifCond .ne 6, 3) := by decide +kernel
theorem dX12_setting_9 : decode cX12_setting 9 = .ok (.bipush (-2), 2) := by decide +kernel
theorem dX12_setting_11 : decode cX12_setting 11 = .ok (.ireturn, 1) := by decide +kernel
theorem dX12_setting_12 : decode cX12_setting 12 = .ok (.aload_n 0, 1) := by decide +kernel
theorem dX12_setting_13 : decode cX12_setting 13 = .ok (.getfield 17, 3) := by decide +kernel
theorem dX12_setting_16 : decode cX12_setting 16 = .ok (.bipush 8, 2) := by decide +kernel
theorem dX12_setting_18 : decode cX12_setting 18 = .ok (.iaload, 1) := by decide +kernel
theorem dX12_setting_19 : decode cX12_setting 19 = .ok (.istore_n 2, 1) := by decide +kernel
theorem dX12_setting_20 : decode cX12_setting 20 = .ok (.iload_n 2, 1) := by decide +kernel
theorem dX12_setting_21 : decode cX12_setting 21 = .ok (.iconst 4, 1) := by decide +kernel
theorem dX12_setting_22 : decode cX12_setting 22 = .ok (.if_icmp .ge 5, 3) := by decide +kernel
theorem dX12_setting_25 : decode cX12_setting 25 = .ok (.iconst (-1), 1) := by decide +kernel
theorem dX12_setting_26 : decode cX12_setting 26 = .ok (.ireturn, 1) := by decide +kernel
theorem dX12_setting_27 : decode cX12_setting 27 = .ok (.iconst (-1), 1) := by decide +kernel
theorem dX12_setting_28 : decode cX12_setting 28 = .ok (.istore_n 3, 1) := by decide +kernel
theorem dX12_setting_29 : decode cX12_setting 29 = .ok (.iconst 0, 1) := by decide +kernel
theorem dX12_setting_30 : decode cX12_setting 30 = .ok (.istore 4, 2) := by decide +kernel
theorem dX12_setting_32 : decode cX12_setting 32 = .ok (.iconst 0, 1) := by decide +kernel
theorem dX12_setting_33 : decode cX12_setting 33 = .ok (.istore 5, 2) := by decide +kernel
theorem dX12_setting_35 : decode cX12_setting 35 = .ok (.iload 5, 2) := by decide +kernel
theorem dX12_setting_37 : decode cX12_setting 37 = .ok (.iload_n 2, 1) := by decide +kernel
theorem dX12_setting_38 : decode cX12_setting 38 = .ok (.iload_n 2, 1) := by decide +kernel
theorem dX12_setting_39 : decode cX12_setting 39 = .ok (.imul, 1) := by decide +kernel
theorem dX12_setting_40 : decode cX12_setting 40 = .ok (.iload_n 2, 1) := by decide +kernel
theorem dX12_setting_41 : decode cX12_setting 41 = .ok (.imul, 1) := by decide +kernel
theorem dX12_setting_42 : decode cX12_setting 42 = .ok (.iload_n 2, 1) := by decide +kernel
theorem dX12_setting_43 : decode cX12_setting 43 = .ok (.imul, 1) := by decide +kernel
theorem dX12_setting_44 : decode cX12_setting 44 = .ok (.if_icmp .ge 175, 3) := by decide +kernel
theorem dX12_setting_47 : decode cX12_setting 47 = .ok (.iload 5, 2) := by decide +kernel
theorem dX12_setting_49 : decode cX12_setting 49 = .ok (.istore 6, 2) := by decide +kernel
theorem dX12_setting_51 : decode cX12_setting 51 = .ok (.iconst 3, 1) := by decide +kernel
theorem dX12_setting_52 : decode cX12_setting 52 = .ok (.istore 7, 2) := by decide +kernel
theorem dX12_setting_54 : decode cX12_setting 54 = .ok (.iload 7, 2) := by decide +kernel
theorem dX12_setting_56 : decode cX12_setting 56 = .ok (.ifCond .lt 26, 3) := by decide +kernel
theorem dX12_setting_59 : decode cX12_setting 59 = .ok (.aload_n 0, 1) := by decide +kernel
theorem dX12_setting_60 : decode cX12_setting 60 = .ok (.getfield 112, 3) := by decide +kernel
theorem dX12_setting_63 : decode cX12_setting 63 = .ok (.iload 7, 2) := by decide +kernel
theorem dX12_setting_65 : decode cX12_setting 65 = .ok (.iload 6, 2) := by decide +kernel
theorem dX12_setting_67 : decode cX12_setting 67 = .ok (.iload_n 2, 1) := by decide +kernel
theorem dX12_setting_68 : decode cX12_setting 68 = .ok (.irem, 1) := by decide +kernel
theorem dX12_setting_69 : decode cX12_setting 69 = .ok (.iastore, 1) := by decide +kernel
theorem dX12_setting_70 : decode cX12_setting 70 = .ok (.iload 6, 2) := by decide +kernel
theorem dX12_setting_72 : decode cX12_setting 72 = .ok (.iload_n 2, 1) := by decide +kernel
theorem dX12_setting_73 : decode cX12_setting 73 = .ok (.idiv, 1) := by decide +kernel
theorem dX12_setting_74 : decode cX12_setting 74 = .ok (.istore 6, 2) := by decide +kernel
theorem dX12_setting_76 : decode cX12_setting 76 = .ok (.iinc 7 (-1), 3) := by decide +kernel
theorem dX12_setting_79 : decode cX12_setting 79 = .ok (.goto (-25), 3) := by decide +kernel
theorem dX12_setting_82 : decode cX12_setting 82 = .ok (.iconst 1, 1) := by decide +kernel
theorem dX12_setting_83 : decode cX12_setting 83 = .ok (.istore 7, 2) := by decide +kernel
theorem dX12_setting_85 : decode cX12_setting 85 = .ok (.ldc_w 361, 3) := by decide +kernel
theorem dX12_setting_88 : decode cX12_setting 88 = .ok (.istore 8, 2) := by decide +kernel
theorem dX12_setting_90 : decode cX12_setting 90 = .ok (.iconst 0, 1) := by decide +kernel
theorem dX12_setting_91 : decode cX12_setting 91 = .ok (.istore 9, 2) := by decide +kernel
theorem dX12_setting_93 : decode cX12_setting 93 = .ok (.iload 9, 2) := by decide +kernel
theorem dX12_setting_95 : decode cX12_setting 95 = .ok (.iconst 4, 1) := by decide +kernel
theorem dX12_setting_96 : decode cX12_setting 96 = .ok (.if_icmp .ge 90, 3) := by decide +kernel
theorem dX12_setting_99 : decode cX12_setting 99 = .ok (.iconst 0, 1) := by decide +kernel
theorem dX12_setting_100 : decode cX12_setting 100 = .ok (.istore 10, 2) := by decide +kernel
theorem dX12_setting_102 : decode cX12_setting 102 = .ok (.iload 10, 2) := by decide +kernel
theorem dX12_setting_104 : decode cX12_setting 104 = .ok (.iload 9, 2) := by decide +kernel
theorem dX12_setting_106 : decode cX12_setting 106 = .ok (.if_icmp .ge 74, 3) := by decide +kernel
theorem dX12_setting_109 : decode cX12_setting 109 = .ok (.iload 7, 2) := by decide +kernel
theorem dX12_setting_111 : decode cX12_setting 111 = .ok (.ifCond .eq 24, 3) := by decide +kernel
theorem dX12_setting_114 : decode cX12_setting 114 = .ok (.aload_n 0, 1) := by decide +kernel
theorem dX12_setting_115 : decode cX12_setting 115 = .ok (.getfield 112, 3) := by decide +kernel
theorem dX12_setting_118 : decode cX12_setting 118 = .ok (.iload 9, 2) := by decide +kernel
theorem dX12_setting_120 : decode cX12_setting 120 = .ok (.iaload, 1) := by decide +kernel
theorem dX12_setting_121 : decode cX12_setting 121 = .ok (.aload_n 0, 1) := by decide +kernel
theorem dX12_setting_122 : decode cX12_setting 122 = .ok (.getfield 112, 3) := by decide +kernel
theorem dX12_setting_125 : decode cX12_setting 125 = .ok (.iload 10, 2) := by decide +kernel
theorem dX12_setting_127 : decode cX12_setting 127 = .ok (.iaload, 1) := by decide +kernel
theorem dX12_setting_128 : decode cX12_setting 128 = .ok (.if_icmp .eq 7, 3) := by decide +kernel
theorem dX12_setting_131 : decode cX12_setting 131 = .ok (.iconst 1, 1) := by decide +kernel
theorem dX12_setting_132 : decode cX12_setting 132 = .ok (.goto 4, 3) := by decide +kernel
theorem dX12_setting_135 : decode cX12_setting 135 = .ok (.iconst 0, 1) := by decide +kernel
theorem dX12_setting_136 : decode cX12_setting 136 = .ok (.istore 7, 2) := by decide +kernel
theorem dX12_setting_138 : decode cX12_setting 138 = .ok (.aload_n 0, 1) := by decide +kernel
theorem dX12_setting_139 : decode cX12_setting 139 = .ok (.aload_n 0, 1) := by decide +kernel
theorem dX12_setting_140 : decode cX12_setting 140 = .ok (.getfield 112, 3) := by decide +kernel
theorem dX12_setting_143 : decode cX12_setting 143 = .ok (.iload 9, 2) := by decide +kernel
theorem dX12_setting_145 : decode cX12_setting 145 = .ok (.iaload, 1) := by decide +kernel
theorem dX12_setting_146 : decode cX12_setting 146 = .ok (.aload_n 0, 1) := by decide +kernel
theorem dX12_setting_147 : decode cX12_setting 147 = .ok (.getfield 112, 3) := by decide +kernel
theorem dX12_setting_150 : decode cX12_setting 150 = .ok (.iload 10, 2) := by decide +kernel
theorem dX12_setting_152 : decode cX12_setting 152 = .ok (.iaload, 1) := by decide +kernel
theorem dX12_setting_153 : decode cX12_setting 153 = .ok (.invokevirtual 365, 3) := by decide +kernel
theorem dX12_setting_156 : decode cX12_setting 156 = .ok (.istore 11, 2) := by decide +kernel
theorem dX12_setting_158 : decode cX12_setting 158 = .ok (.iload 11, 2) := by decide +kernel
theorem dX12_setting_160 : decode cX12_setting 160 = .ok (.iload 8, 2) := by decide +kernel
theorem dX12_setting_162 : decode cX12_setting 162 = .ok (.if_icmp .ge 8, 3) := by decide +kernel
theorem dX12_setting_165 : decode cX12_setting 165 = .ok (.iload 11, 2) := by decide +kernel
theorem dX12_setting_167 : decode cX12_setting 167 = .ok (.goto 5, 3) := by decide +kernel
theorem dX12_setting_170 : decode cX12_setting 170 = .ok (.iload 8, 2) := by decide +kernel
theorem dX12_setting_172 : decode cX12_setting 172 = .ok (.istore 8, 2) := by decide +kernel
theorem dX12_setting_174 : decode cX12_setting 174 = .ok (.iinc 10 1, 3) := by decide +kernel
theorem dX12_setting_177 : decode cX12_setting 177 = .ok (.goto (-75), 3) := by decide +kernel
theorem dX12_setting_180 : decode cX12_setting 180 = .ok (.iinc 9 1, 3) := by decide +kernel
theorem dX12_setting_183 : decode cX12_setting 183 = .ok (.goto (-90), 3) := by decide +kernel
theorem dX12_setting_186 : decode cX12_setting 186 = .ok (.iload 7, 2) := by decide +kernel
theorem dX12_setting_188 : decode cX12_setting 188 = .ok (.ifCond .eq 25, 3) := by decide +kernel
theorem dX12_setting_191 : decode cX12_setting 191 = .ok (.iload_n 3, 1) := by decide +kernel
theorem dX12_setting_192 : decode cX12_setting 192 = .ok (.iconst (-1), 1) := by decide +kernel
theorem dX12_setting_193 : decode cX12_setting 193 = .ok (.if_icmp .eq 13, 3) := by decide +kernel
theorem dX12_setting_196 : decode cX12_setting 196 = .ok (.iload 8, 2) := by decide +kernel
theorem dX12_setting_198 : decode cX12_setting 198 = .ok (.iload 4, 2) := by decide +kernel
theorem dX12_setting_200 : decode cX12_setting 200 = .ok (.if_icmp .gt 6, 3) := by decide +kernel
theorem dX12_setting_203 : decode cX12_setting 203 = .ok (.goto 10, 3) := by decide +kernel
theorem dX12_setting_206 : decode cX12_setting 206 = .ok (.iload 5, 2) := by decide +kernel
theorem dX12_setting_208 : decode cX12_setting 208 = .ok (.istore_n 3, 1) := by decide +kernel
theorem dX12_setting_209 : decode cX12_setting 209 = .ok (.iload 8, 2) := by decide +kernel
theorem dX12_setting_211 : decode cX12_setting 211 = .ok (.istore 4, 2) := by decide +kernel
theorem dX12_setting_213 : decode cX12_setting 213 = .ok (.iinc 5 1, 3) := by decide +kernel
theorem dX12_setting_216 : decode cX12_setting 216 = .ok (.goto (-181), 3) := by decide +kernel
theorem dX12_setting_219 : decode cX12_setting 219 = .ok (.iload_n 1, 1) := by decide +kernel
theorem dX12_setting_220 : decode cX12_setting 220 = .ok (.ifCond .ne 6, 3) := by decide +kernel
theorem dX12_setting_223 : decode cX12_setting 223 = .ok (.iload 4, 2) := by decide +kernel
theorem dX12_setting_225 : decode cX12_setting 225 = .ok (.ireturn, 1) := by decide +kernel
theorem dX12_setting_226 : decode cX12_setting 226 = .ok (.iconst 4, 1) := by decide +kernel
theorem dX12_setting_227 : decode cX12_setting 227 = .ok (.istore 5, 2) := by decide +kernel
theorem dX12_setting_229 : decode cX12_setting 229 = .ok (.iload 5, 2) := by decide +kernel
theorem dX12_setting_231 : decode cX12_setting 231 = .ok (.iload_n 1, 1) := by decide +kernel
theorem dX12_setting_232 : decode cX12_setting 232 = .ok (.if_icmp .le 13, 3) := by decide +kernel
theorem dX12_setting_235 : decode cX12_setting 235 = .ok (.iload_n 3, 1) := by decide +kernel
theorem dX12_setting_236 : decode cX12_setting 236 = .ok (.iload_n 2, 1) := by decide +kernel
theorem dX12_setting_237 : decode cX12_setting 237 = .ok (.idiv, 1) := by decide +kernel
theorem dX12_setting_238 : decode cX12_setting 238 = .ok (.istore_n 3, 1) := by decide +kernel
theorem dX12_setting_239 : decode cX12_setting 239 = .ok (.iinc 5 (-1), 3) := by decide +kernel
theorem dX12_setting_242 : decode cX12_setting 242 = .ok (.goto (-13), 3) := by decide +kernel
theorem dX12_setting_245 : decode cX12_setting 245 = .ok (.iload_n 3, 1) := by decide +kernel
theorem dX12_setting_246 : decode cX12_setting 246 = .ok (.iload_n 2, 1) := by decide +kernel
theorem dX12_setting_247 : decode cX12_setting 247 = .ok (.irem, 1) := by decide +kernel
theorem dX12_setting_248 : decode cX12_setting 248 = .ok (.ireturn, 1) := by decide +kernel
set_option maxRecDepth 20000 in
theorem sX12_setting_0 {P : Option Value → AH → Prop} (h : AH) (r0 : Nat) (x1 : Int32) (hf : ((¬ x1 < 0 ∧ ¬ 4 < x1) → (isO h 12 r0) ∧ ((isA h 0 (gF h r0 11)) ∧ ((vp_in 8 (ln (gF h r0 11))) ∧ ((4 ≤ (gI h (gF h r0 11) (Int32.toNatClampNeg 8)) → Rr mX12_setting 0 0 35 [(0, .ref r0), (1, .int x1), (2, .int (gI h (gF h r0 11) (Int32.toNatClampNeg 8))), (3, .int (-1)), (4, .int 0), (5, .int 0)] [] h P) ∧ (¬ 4 ≤ (gI h (gF h r0 11) (Int32.toNatClampNeg 8)) → P (some (.int (-1))) h))))) ∧ (¬ (¬ x1 < 0 ∧ ¬ 4 < x1) → P (some (.int (-2))) h)) : Rr mX12_setting 0 0 0 [(0, .ref r0), (1, .int x1)] [] h P := by
  refine R_iload_n dX12_setting_0 rfl 1 rfl ?_
  refine R_iconst (v := 0) dX12_setting_1 (by decide) ?_
  refine R_iconst (v := 4) dX12_setting_2 (by decide) ?_
  refine R_callS (N := mX12_in) (as := [.int x1, .int 0, .int 4]) (rest := []) (kc2 := 0) (ks2 := 0) dX12_setting_3 lmX12_178 oX12_in (Nat.le_of_ble_eq_true rfl) rfl rfl (Nat.le_of_ble_eq_true rfl) rfl rfl (aX12_in  ?_)
  refine R_if_ne_b (tgt := 12) dX12_setting_6 (by decide) (fun b1 => ?_) (fun b1 => ?_)
  · have hf := hf.1 b1
    refine R_aload_n dX12_setting_12 rfl 0 rfl ?_
    obtain ⟨ob2, hf⟩ := hf
    refine G12_11 dX12_setting_13 lfX12_17 ob2 ?_
    refine R_bipush (v := 8) dX12_setting_16 (by decide) ?_
    obtain ⟨ob3, hf⟩ := hf
    obtain ⟨ob4, hf⟩ := hf
    refine R_iaload dX12_setting_18 ob3 ob4 ?_
    refine R_istore_n dX12_setting_19 rfl (by decide) rfl ?_
    refine R_iload_n dX12_setting_20 rfl 0 rfl ?_
    refine R_iconst (v := 4) dX12_setting_21 (by decide) ?_
    refine R_icmp_ge (tgt := 27) dX12_setting_22 (by decide) (fun b5 => ?_) (fun b5 => ?_)
    · have hf := hf.1 b5
      refine R_iconst (v := (-1)) dX12_setting_27 (by decide) ?_
      refine R_istore_n dX12_setting_28 rfl (by decide) rfl ?_
      refine R_iconst (v := 0) dX12_setting_29 (by decide) ?_
      refine R_istore dX12_setting_30 (by decide) rfl ?_
      refine R_iconst (v := 0) dX12_setting_32 (by decide) ?_
      refine R_istore dX12_setting_33 (by decide) rfl ?_
      exact R_sub [4, 5, 3, 2, 1, 0] rfl hf
    · have hf := hf.2 b5
      refine R_iconst (v := (-1)) dX12_setting_25 (by decide) ?_
      exact R_iret dX12_setting_26 rfl rfl hf
  · have hf := hf.2 b1
    refine R_bipush (v := (-2)) dX12_setting_9 (by decide) ?_
    exact R_iret dX12_setting_11 rfl rfl hf
set_option maxRecDepth 20000 in
theorem sX12_setting_35 {P : Option Value → AH → Prop} (h : AH) (r0 : Nat) (x1 : Int32) (x2 : Int32) (x3 : Int32) (x4 : Int32) (x5 : Int32) (hf : ((((x2 * x2) * x2) * x2) ≤ x5 → (¬ x1 = 0 → Rr mX12_setting 0 0 229 [(1, .int x1), (2, .int x2), (3, .int x3), (5, .int 4)] [] h P) ∧ (x1 = 0 → P (some (.int x4)) h)) ∧ (¬ (((x2 * x2) * x2) * x2) ≤ x5 → Rr mX12_setting 0 0 54 [(0, .ref r0), (1, .int x1), (2, .int x2), (3, .int x3), (4, .int x4), (5, .int x5), (6, .int x5), (7, .int 3)] [] h P)) : Rr mX12_setting 0 0 35 [(0, .ref r0), (1, .int x1), (2, .int x2), (3, .int x3), (4, .int x4), (5, .int x5)] [] h P := by
  refine R_iload dX12_setting_35 5 rfl ?_
  refine R_iload_n dX12_setting_37 rfl 2 rfl ?_
  refine R_iload_n dX12_setting_38 rfl 2 rfl ?_
  refine R_imul dX12_setting_39 ?_
  refine R_iload_n dX12_setting_40 rfl 2 rfl ?_
  refine R_imul dX12_setting_41 ?_
  refine R_iload_n dX12_setting_42 rfl 2 rfl ?_
  refine R_imul dX12_setting_43 ?_
  refine R_icmp_ge (tgt := 219) dX12_setting_44 (by decide) (fun b1 => ?_) (fun b1 => ?_)
  · have hf := hf.1 b1
    refine R_iload_n dX12_setting_219 rfl 1 rfl ?_
    refine R_if_ne (tgt := 226) dX12_setting_220 (by decide) (fun b2 => ?_) (fun b2 => ?_)
    · have hf := hf.1 b2
      refine R_iconst (v := 4) dX12_setting_226 (by decide) ?_
      refine R_istore dX12_setting_227 (by decide) rfl ?_
      exact R_sub [2, 3, 4, 0] rfl hf
    · have hf := hf.2 b2
      refine R_iload dX12_setting_223 4 rfl ?_
      exact R_iret dX12_setting_225 rfl rfl hf
  · have hf := hf.2 b1
    refine R_iload dX12_setting_47 5 rfl ?_
    refine R_istore dX12_setting_49 (by decide) rfl ?_
    refine R_iconst (v := 3) dX12_setting_51 (by decide) ?_
    refine R_istore dX12_setting_52 (by decide) rfl ?_
    exact R_sub [2, 3, 4, 5, 6, 7, 1, 0] rfl hf
set_option maxRecDepth 20000 in
theorem sX12_setting_54 {P : Option Value → AH → Prop} (h : AH) (r0 : Nat) (x1 : Int32) (x2 : Int32) (x3 : Int32) (x4 : Int32) (x5 : Int32) (x6 : Int32) (x7 : Int32) (hf : (x7 < 0 → Rr mX12_setting 0 0 93 [(0, .ref r0), (1, .int x1), (2, .int x2), (3, .int x3), (4, .int x4), (5, .int x5), (7, .int 1), (8, .int 1000000), (9, .int 0)] [] h P) ∧ (¬ x7 < 0 → (isO h 12 r0) ∧ ((¬ x2 = 0) ∧ ((isA h 0 (gF h r0 58)) ∧ ((vp_in x7 (ln (gF h r0 58))) ∧ (Rr mX12_setting 0 0 54 [(0, .ref r0), (1, .int x1), (2, .int x2), (3, .int x3), (4, .int x4), (5, .int x5), (6, .int (x6 / x2)), (7, .int (x7 + (-1)))] [] (sI h (gF h r0 58) x7.toNatClampNeg (x6 % x2)) P)))))) : Rr mX12_setting 0 0 54 [(0, .ref r0), (1, .int x1), (2, .int x2), (3, .int x3), (4, .int x4), (5, .int x5), (6, .int x6), (7, .int x7)] [] h P := by
  refine R_iload dX12_setting_54 7 rfl ?_
  refine R_if_lt (tgt := 82) dX12_setting_56 (by decide) (fun b1 => ?_) (fun b1 => ?_)
  · have hf := hf.1 b1
    refine R_iconst (v := 1) dX12_setting_82 (by decide) ?_
    refine R_istore dX12_setting_83 (by decide) rfl ?_
    refine R_ldcw (v := 1000000) dX12_setting_85 lcX12_361 ?_
    refine R_istore dX12_setting_88 (by decide) rfl ?_
    refine R_iconst (v := 0) dX12_setting_90 (by decide) ?_
    refine R_istore dX12_setting_91 (by decide) rfl ?_
    exact R_sub [3, 4, 5, 6, 7, 8, 2, 1, 0] rfl hf
  · have hf := hf.2 b1
    refine R_aload_n dX12_setting_59 rfl 0 rfl ?_
    obtain ⟨ob2, hf⟩ := hf
    refine G12_58 dX12_setting_60 lfX12_112 ob2 ?_
    refine R_iload dX12_setting_63 7 rfl ?_
    refine R_iload dX12_setting_65 6 rfl ?_
    refine R_iload_n dX12_setting_67 rfl 2 rfl ?_
    obtain ⟨ob3, hf⟩ := hf
    refine R_irem dX12_setting_68 ob3 ?_
    obtain ⟨ob4, hf⟩ := hf
    obtain ⟨ob5, hf⟩ := hf
    refine R_iastore dX12_setting_69 ob4 ob5 ?_
    refine R_iload dX12_setting_70 6 rfl ?_
    refine R_iload_n dX12_setting_72 rfl 2 rfl ?_
    refine R_idiv dX12_setting_73 ob3 ?_
    refine R_istore dX12_setting_74 (by decide) rfl ?_
    refine R_iinc (v := x7 + (-1)) dX12_setting_76 7 rfl rfl (by decide) rfl ?_
    refine R_goto (tgt := 54) dX12_setting_79 (by decide) ?_
    exact R_sub [2, 3, 4, 5, 6, 7, 1, 0] rfl hf
set_option maxRecDepth 20000 in
theorem sX12_setting_93 {P : Option Value → AH → Prop} (h : AH) (r0 : Nat) (x1 : Int32) (x2 : Int32) (x3 : Int32) (x4 : Int32) (x5 : Int32) (x7 : Int32) (x8 : Int32) (x9 : Int32) (hf : (4 ≤ x9 → ∀ z5 : Int32, z5 = (if x7 = 0 then x3 else (if x3 = (-1) then x5 else (if x4 < x8 then x5 else x3))) → (∀ z6 : Int32, z6 = (if x7 = 0 then x4 else (if x3 = (-1) then x8 else (if x4 < x8 then x8 else x4))) → (Rr mX12_setting 0 0 35 [(0, .ref r0), (1, .int x1), (2, .int x2), (3, .int z5), (4, .int z6), (5, .int (x5 + 1))] [] h P))) ∧ (¬ 4 ≤ x9 → Rr mX12_setting 0 0 102 [(0, .ref r0), (1, .int x1), (2, .int x2), (3, .int x3), (4, .int x4), (5, .int x5), (7, .int x7), (8, .int x8), (9, .int x9), (10, .int 0)] [] h P)) : Rr mX12_setting 0 0 93 [(0, .ref r0), (1, .int x1), (2, .int x2), (3, .int x3), (4, .int x4), (5, .int x5), (7, .int x7), (8, .int x8), (9, .int x9)] [] h P := by
  refine R_iload dX12_setting_93 8 rfl ?_
  refine R_iconst (v := 4) dX12_setting_95 (by decide) ?_
  refine R_icmp_ge (tgt := 186) dX12_setting_96 (by decide) (fun b1 => ?_) (fun b1 => ?_)
  · have hf := hf.1 b1
    refine R_iload dX12_setting_186 6 rfl ?_
    have key : ∀ z5 : Int32, ∀ z6 : Int32, z5 = (if x7 = 0 then x3 else (if x3 = (-1) then x5 else (if x4 < x8 then x5 else x3))) → z6 = (if x7 = 0 then x4 else (if x3 = (-1) then x8 else (if x4 < x8 then x8 else x4))) → Rr mX12_setting 0 0 213 [(0, .ref r0), (1, .int x1), (2, .int x2), (3, .int z5), (4, .int z6), (5, .int x5)] [] h P := by
      intro z5 z6 ez5 ez6
      have hf := hf z5 ez5 z6 ez6
      refine R_iinc (v := x5 + 1) dX12_setting_213 5 rfl rfl (by decide) rfl ?_
      refine R_goto (tgt := 35) dX12_setting_216 (by decide) ?_
      exact R_sub [1, 2, 3, 4, 5, 0] rfl hf
    refine R_if_eq (tgt := 213) dX12_setting_188 (by decide) (fun b2 => ?_) (fun b2 => ?_)
    · exact R_sub [0, 1, 2, 3, 4, 5] rfl (key _ _ (by rw [if_pos b2]) (by rw [if_pos b2]))
    · refine R_iload_n dX12_setting_191 rfl 3 rfl ?_
      refine R_iconst (v := (-1)) dX12_setting_192 (by decide) ?_
      refine R_icmp_eq (tgt := 206) dX12_setting_193 (by decide) (fun b3 => ?_) (fun b3 => ?_)
      · refine R_iload dX12_setting_206 5 rfl ?_
        refine R_istore_n dX12_setting_208 rfl (by decide) rfl ?_
        refine R_iload dX12_setting_209 7 rfl ?_
        refine R_istore dX12_setting_211 (by decide) rfl ?_
        exact R_sub [2, 3, 4, 1, 0, 5] rfl (key _ _ (by rw [if_neg b2, if_pos b3]) (by rw [if_neg b2, if_pos b3]))
      · refine R_iload dX12_setting_196 7 rfl ?_
        refine R_iload dX12_setting_198 4 rfl ?_
        refine R_icmp_gt (tgt := 206) dX12_setting_200 (by decide) (fun b4 => ?_) (fun b4 => ?_)
        · refine R_iload dX12_setting_206 5 rfl ?_
          refine R_istore_n dX12_setting_208 rfl (by decide) rfl ?_
          refine R_iload dX12_setting_209 7 rfl ?_
          refine R_istore dX12_setting_211 (by decide) rfl ?_
          exact R_sub [2, 3, 4, 1, 0, 5] rfl (key _ _ (by rw [if_neg b2, if_neg b3, if_pos b4]) (by rw [if_neg b2, if_neg b3, if_pos b4]))
        · refine R_goto (tgt := 213) dX12_setting_203 (by decide) ?_
          exact R_sub [0, 1, 2, 3, 4, 5] rfl (key _ _ (by rw [if_neg b2, if_neg b3, if_neg b4]) (by rw [if_neg b2, if_neg b3, if_neg b4]))
  · have hf := hf.2 b1
    refine R_iconst (v := 0) dX12_setting_99 (by decide) ?_
    refine R_istore dX12_setting_100 (by decide) rfl ?_
    exact R_sub [1, 2, 3, 4, 5, 6, 7, 8, 9, 0] rfl hf
set_option maxRecDepth 20000 in
theorem sX12_setting_102 {P : Option Value → AH → Prop} (h : AH) (r0 : Nat) (x1 : Int32) (x2 : Int32) (x3 : Int32) (x4 : Int32) (x5 : Int32) (x7 : Int32) (x8 : Int32) (x9 : Int32) (x10 : Int32) (hf : (x9 ≤ x10 → Rr mX12_setting 0 0 93 [(0, .ref r0), (1, .int x1), (2, .int x2), (3, .int x3), (4, .int x4), (5, .int x5), (7, .int x7), (8, .int x8), (9, .int (x9 + 1))] [] h P) ∧ (¬ x9 ≤ x10 → (isO h 12 r0) ∧ ((isA h 0 (gF h r0 58)) ∧ ((¬ x7 = 0 → vp_in x9 (ln (gF h r0 58))) ∧ ((¬ x7 = 0 → vp_in x10 (ln (gF h r0 58))) ∧ ((vp_in x9 (ln (gF h r0 58))) ∧ ((vp_in x10 (ln (gF h r0 58))) ∧ (Call mX12_beatOf [.ref r0, .int (gI h (gF h r0 58) x9.toNatClampNeg), .int (gI h (gF h r0 58) x10.toNatClampNeg)] h (fun v h10 => ∃ z11 : Int32, v = some (.int z11) ∧ (∀ z13 : Int32, z13 = (if x8 ≤ z11 then x8 else z11) → (Rr mX12_setting 0 0 102 [(0, .ref r0), (1, .int x1), (2, .int x2), (3, .int x3), (4, .int x4), (5, .int x5), (7, .int (bi (¬ x7 = 0 ∧ ¬ (gI h (gF h r0 58) x9.toNatClampNeg) = (gI h (gF h r0 58) x10.toNatClampNeg)))), (8, .int z13), (9, .int x9), (10, .int (x10 + 1))] [] h10 P))))))))))) : Rr mX12_setting 0 0 102 [(0, .ref r0), (1, .int x1), (2, .int x2), (3, .int x3), (4, .int x4), (5, .int x5), (7, .int x7), (8, .int x8), (9, .int x9), (10, .int x10)] [] h P := by
  refine R_iload dX12_setting_102 9 rfl ?_
  refine R_iload dX12_setting_104 8 rfl ?_
  refine R_icmp_ge (tgt := 180) dX12_setting_106 (by decide) (fun b1 => ?_) (fun b1 => ?_)
  · have hf := hf.1 b1
    refine R_iinc (v := x9 + 1) dX12_setting_180 8 rfl rfl (by decide) rfl ?_
    refine R_goto (tgt := 93) dX12_setting_183 (by decide) ?_
    exact R_sub [1, 2, 3, 4, 5, 6, 7, 8, 0] rfl hf
  · have hf := hf.2 b1
    refine R_iload dX12_setting_109 6 rfl ?_
    obtain ⟨ob3, hf⟩ := hf
    obtain ⟨ob4, hf⟩ := hf
    obtain ⟨ob5, hf⟩ := hf
    obtain ⟨ob6, hf⟩ := hf
    have key :  Rr mX12_setting 0 0 136 [(0, .ref r0), (1, .int x1), (2, .int x2), (3, .int x3), (4, .int x4), (5, .int x5), (8, .int x8), (9, .int x9), (10, .int x10)] [.int (bi (¬ x7 = 0 ∧ ¬ (gI h (gF h r0 58) x9.toNatClampNeg) = (gI h (gF h r0 58) x10.toNatClampNeg)))] h P := by
      refine R_istore dX12_setting_136 (by decide) rfl ?_
      refine R_aload_n dX12_setting_138 rfl 1 rfl ?_
      refine R_aload_n dX12_setting_139 rfl 1 rfl ?_
      refine G12_58 dX12_setting_140 lfX12_112 ob3 ?_
      refine R_iload dX12_setting_143 8 rfl ?_
      obtain ⟨ob8, hf⟩ := hf
      refine R_iaload dX12_setting_145 ob4 ob8 ?_
      refine R_aload_n dX12_setting_146 rfl 1 rfl ?_
      refine G12_58 dX12_setting_147 lfX12_112 ob3 ?_
      refine R_iload dX12_setting_150 9 rfl ?_
      obtain ⟨ob9, hf⟩ := hf
      refine R_iaload dX12_setting_152 ob4 ob9 ?_
      refine R_callV (ci := 12) (N := mX12_beatOf) (as := [.int (gI h (gF h r0 58) x9.toNatClampNeg), .int (gI h (gF h r0 58) x10.toNatClampNeg)]) (rest := []) (kc2 := 0) (ks2 := 0) dX12_setting_153 lmX12_365 oX12_beatOf (Nat.le_of_ble_eq_true rfl) rfl rfl (Nat.le_of_ble_eq_true rfl) rfl rfl ob3 ok12 (Call.mono hf ?_)
      rintro _ h10 ⟨z11, rfl, hf⟩
      refine R_istore dX12_setting_156 (by decide) rfl ?_
      refine R_iload dX12_setting_158 0 rfl ?_
      refine R_iload dX12_setting_160 8 rfl ?_
      have key : ∀ z13 : Int32, z13 = (if x8 ≤ z11 then x8 else z11) → Rr mX12_setting 0 0 172 [(0, .ref r0), (1, .int x1), (2, .int x2), (3, .int x3), (4, .int x4), (5, .int x5), (7, .int (bi (¬ x7 = 0 ∧ ¬ (gI h (gF h r0 58) x9.toNatClampNeg) = (gI h (gF h r0 58) x10.toNatClampNeg)))), (9, .int x9), (10, .int x10)] [.int z13] h10 P := by
        intro z13 ez13
        have hf := hf z13 ez13
        refine R_istore dX12_setting_172 (by decide) rfl ?_
        refine R_iinc (v := x10 + 1) dX12_setting_174 9 rfl rfl (by decide) rfl ?_
        refine R_goto (tgt := 102) dX12_setting_177 (by decide) ?_
        exact R_sub [2, 3, 4, 5, 6, 7, 8, 1, 9, 0] rfl hf
      refine R_icmp_ge (tgt := 170) dX12_setting_162 (by decide) (fun b12 => ?_) (fun b12 => ?_)
      · refine R_iload dX12_setting_170 8 rfl ?_
        exact R_sub [2, 3, 4, 5, 6, 7, 1, 9, 10] rfl (key _ (by rw [if_pos b12]))
      · refine R_iload dX12_setting_165 0 rfl ?_
        refine R_goto (tgt := 172) dX12_setting_167 (by decide) ?_
        exact R_sub [2, 3, 4, 5, 6, 7, 1, 9, 10] rfl (key _ (by rw [if_neg b12]))
    refine R_if_eq (tgt := 135) dX12_setting_111 (by decide) (fun b2 => ?_) (fun b2 => ?_)
    · refine R_iconst (v := 0) dX12_setting_135 (by decide) ?_
      have kb := key
      rw [show bi (¬ x7 = 0 ∧ ¬ (gI h (gF h r0 58) x9.toNatClampNeg) = (gI h (gF h r0 58) x10.toNatClampNeg)) = 0 from by simp only [bi, b2, false_and, and_false, true_and, and_true, not_true_eq_false, not_false_eq_true, if_true, if_false, true_or, or_true, false_or, or_false, reduceIte]] at kb
      exact R_sub [0, 1, 2, 3, 4, 5, 7, 8, 9] rfl kb
    · refine R_aload_n dX12_setting_114 rfl 0 rfl ?_
      refine G12_58 dX12_setting_115 lfX12_112 ob3 ?_
      refine R_iload dX12_setting_118 8 rfl ?_
      refine R_iaload dX12_setting_120 ob4 (ob5 b2) ?_
      refine R_aload_n dX12_setting_121 rfl 0 rfl ?_
      refine G12_58 dX12_setting_122 lfX12_112 ob3 ?_
      refine R_iload dX12_setting_125 9 rfl ?_
      refine R_iaload dX12_setting_127 ob4 (ob6 b2) ?_
      refine R_icmp_eq (tgt := 135) dX12_setting_128 (by decide) (fun b7 => ?_) (fun b7 => ?_)
      · refine R_iconst (v := 0) dX12_setting_135 (by decide) ?_
        have kb := key
        rw [show bi (¬ x7 = 0 ∧ ¬ (gI h (gF h r0 58) x9.toNatClampNeg) = (gI h (gF h r0 58) x10.toNatClampNeg)) = 0 from by simp only [bi, b2, b7, false_and, and_false, true_and, and_true, not_true_eq_false, not_false_eq_true, if_true, if_false, true_or, or_true, false_or, or_false, reduceIte]] at kb
        exact R_sub [0, 1, 2, 3, 4, 5, 7, 8, 9] rfl kb
      · refine R_iconst (v := 1) dX12_setting_131 (by decide) ?_
        refine R_goto (tgt := 136) dX12_setting_132 (by decide) ?_
        have kb := key
        rw [show bi (¬ x7 = 0 ∧ ¬ (gI h (gF h r0 58) x9.toNatClampNeg) = (gI h (gF h r0 58) x10.toNatClampNeg)) = 1 from by simp only [bi, b2, b7, false_and, and_false, true_and, and_true, not_true_eq_false, not_false_eq_true, if_true, if_false, true_or, or_true, false_or, or_false, reduceIte]] at kb
        exact R_sub [0, 1, 2, 3, 4, 5, 7, 8, 9] rfl kb
set_option maxRecDepth 20000 in
theorem sX12_setting_229 {P : Option Value → AH → Prop} (h : AH) (x1 : Int32) (x2 : Int32) (x3 : Int32) (x5 : Int32) (hf : (x5 ≤ x1 → (¬ x2 = 0) ∧ (P (some (.int (x3 % x2))) h)) ∧ (¬ x5 ≤ x1 → (¬ x2 = 0) ∧ (Rr mX12_setting 0 0 229 [(1, .int x1), (2, .int x2), (3, .int (x3 / x2)), (5, .int (x5 + (-1)))] [] h P))) : Rr mX12_setting 0 0 229 [(1, .int x1), (2, .int x2), (3, .int x3), (5, .int x5)] [] h P := by
  refine R_iload dX12_setting_229 3 rfl ?_
  refine R_iload_n dX12_setting_231 rfl 0 rfl ?_
  refine R_icmp_le (tgt := 245) dX12_setting_232 (by decide) (fun b1 => ?_) (fun b1 => ?_)
  · have hf := hf.1 b1
    refine R_iload_n dX12_setting_245 rfl 2 rfl ?_
    refine R_iload_n dX12_setting_246 rfl 1 rfl ?_
    obtain ⟨ob2, hf⟩ := hf
    refine R_irem dX12_setting_247 ob2 ?_
    exact R_iret dX12_setting_248 rfl rfl hf
  · have hf := hf.2 b1
    refine R_iload_n dX12_setting_235 rfl 2 rfl ?_
    refine R_iload_n dX12_setting_236 rfl 1 rfl ?_
    obtain ⟨ob3, hf⟩ := hf
    refine R_idiv dX12_setting_237 ob3 ?_
    refine R_istore_n dX12_setting_238 rfl (by decide) rfl ?_
    refine R_iinc (v := x5 + (-1)) dX12_setting_239 3 rfl rfl (by decide) rfl ?_
    refine R_goto (tgt := 229) dX12_setting_242 (by decide) ?_
    exact R_sub [2, 3, 1, 0] rfl hf
theorem dX12_shape_0 : decode cX12_shape 0 = .ok (.iload_n 1, 1) := by decide +kernel
theorem dX12_shape_1 : decode cX12_shape 1 = .ok (.invokestatic 259, 3) := by decide +kernel
theorem dX12_shape_4 : decode cX12_shape 4 = .ok (.ifCond .eq 23, 3) := by decide +kernel
theorem dX12_shape_7 : decode cX12_shape 7 = .ok (.iload_n 2, 1) := by decide +kernel
theorem dX12_shape_8 : decode cX12_shape 8 = .ok (.bipush (-2), 2) := by decide +kernel
theorem dX12_shape_10 : decode cX12_shape 10 = .ok (.iconst 2, 1) := by decide +kernel
theorem dX12_shape_11 : decode cX12_shape 11 = .ok (.invokestatic 178, 3) := by decide +kernel
theorem dX12_shape_14 : decode cX12_shape 14 = .ok (.ifCond .eq 13, 3) := by decide +kernel
theorem dX12_shape_17 : decode cX12_shape 17 = .ok (.iload_n 3, 1) := by decide +kernel
theorem dX12_shape_18 : decode cX12_shape 18 = .ok (.iconst 0, 1) := by decide +kernel
theorem dX12_shape_19 : decode cX12_shape 19 = .ok (.bipush 15, 2) := by decide +kernel
theorem dX12_shape_21 : decode cX12_shape 21 = .ok (.invokestatic 178, 3) := by decide +kernel
theorem dX12_shape_24 : decode cX12_shape 24 = .ok (.ifCond .ne 6, 3) := by decide +kernel
theorem dX12_shape_27 : decode cX12_shape 27 = .ok (.bipush (-2), 2) := by decide +kernel
theorem dX12_shape_29 : decode cX12_shape 29 = .ok (.ireturn, 1) := by decide +kernel
theorem dX12_shape_30 : decode cX12_shape 30 = .ok (.aload_n 0, 1) := by decide +kernel
theorem dX12_shape_31 : decode cX12_shape 31 = .ok (.iload_n 1, 1) := by decide +kernel
theorem dX12_shape_32 : decode cX12_shape 32 = .ok (.iload_n 2, 1) := by decide +kernel
theorem dX12_shape_33 : decode cX12_shape 33 = .ok (.iconst 0, 1) := by decide +kernel
theorem dX12_shape_34 : decode cX12_shape 34 = .ok (.invokevirtual 303, 3) := by decide +kernel
theorem dX12_shape_37 : decode cX12_shape 37 = .ok (.aload_n 0, 1) := by decide +kernel
theorem dX12_shape_38 : decode cX12_shape 38 = .ok (.getfield 93, 3) := by decide +kernel
theorem dX12_shape_41 : decode cX12_shape 41 = .ok (.iconst 0, 1) := by decide +kernel
theorem dX12_shape_42 : decode cX12_shape 42 = .ok (.iload_n 3, 1) := by decide +kernel
theorem dX12_shape_43 : decode cX12_shape 43 = .ok (.iadd, 1) := by decide +kernel
theorem dX12_shape_44 : decode cX12_shape 44 = .ok (.iaload, 1) := by decide +kernel
theorem dX12_shape_45 : decode cX12_shape 45 = .ok (.ireturn, 1) := by decide +kernel
set_option maxRecDepth 20000 in
theorem sX12_shape_0 {P : Option Value → AH → Prop} (h : AH) (r0 : Nat) (x1 : Int32) (x2 : Int32) (x3 : Int32) (hf : (¬ (¬ x1 < 0 ∧ ¬ 3 < x1) → P (some (.int (-2))) h) ∧ ((¬ x1 < 0 ∧ ¬ 3 < x1) → (¬ (¬ x2 < (-2) ∧ ¬ 2 < x2) → P (some (.int (-2))) h) ∧ ((¬ x2 < (-2) ∧ ¬ 2 < x2) → ((¬ x3 < 0 ∧ ¬ 15 < x3) → (isO h 12 r0) ∧ (Call mX12_spreadTo [.ref r0, .int x1, .int x2, .int 0] h (fun v h5 => v = none ∧ ((isO h5 12 r0) ∧ ((isA h5 0 (gF h5 r0 45)) ∧ ((vp_in (0 + x3) (ln (gF h5 r0 45))) ∧ (P (some (.int (gI h5 (gF h5 r0 45) (0 + x3).toNatClampNeg))) h5))))))) ∧ (¬ (¬ x3 < 0 ∧ ¬ 15 < x3) → P (some (.int (-2))) h)))) : Rr mX12_shape 0 0 0 [(0, .ref r0), (1, .int x1), (2, .int x2), (3, .int x3)] [] h P := by
  refine R_iload_n dX12_shape_0 rfl 1 rfl ?_
  refine R_callS (N := mX12_isInkNumber) (as := [.int x1]) (rest := []) (kc2 := 0) (ks2 := 0) dX12_shape_1 lmX12_259 oX12_isInkNumber (Nat.le_of_ble_eq_true rfl) rfl rfl (Nat.le_of_ble_eq_true rfl) rfl rfl (aX12_isInkNumber  ?_)
  refine R_if_eq_b (tgt := 27) dX12_shape_4 (by decide) (fun b1 => ?_) (fun b1 => ?_)
  · have hf := hf.1 b1
    refine R_bipush (v := (-2)) dX12_shape_27 (by decide) ?_
    exact R_iret dX12_shape_29 rfl rfl hf
  · have hf := hf.2 b1
    refine R_iload_n dX12_shape_7 rfl 2 rfl ?_
    refine R_bipush (v := (-2)) dX12_shape_8 (by decide) ?_
    refine R_iconst (v := 2) dX12_shape_10 (by decide) ?_
    refine R_callS (N := mX12_in) (as := [.int x2, .int (-2), .int 2]) (rest := []) (kc2 := 0) (ks2 := 0) dX12_shape_11 lmX12_178 oX12_in (Nat.le_of_ble_eq_true rfl) rfl rfl (Nat.le_of_ble_eq_true rfl) rfl rfl (aX12_in  ?_)
    refine R_if_eq_b (tgt := 27) dX12_shape_14 (by decide) (fun b2 => ?_) (fun b2 => ?_)
    · have hf := hf.1 b2
      refine R_bipush (v := (-2)) dX12_shape_27 (by decide) ?_
      exact R_iret dX12_shape_29 rfl rfl hf
    · have hf := hf.2 b2
      refine R_iload_n dX12_shape_17 rfl 3 rfl ?_
      refine R_iconst (v := 0) dX12_shape_18 (by decide) ?_
      refine R_bipush (v := 15) dX12_shape_19 (by decide) ?_
      refine R_callS (N := mX12_in) (as := [.int x3, .int 0, .int 15]) (rest := []) (kc2 := 0) (ks2 := 0) dX12_shape_21 lmX12_178 oX12_in (Nat.le_of_ble_eq_true rfl) rfl rfl (Nat.le_of_ble_eq_true rfl) rfl rfl (aX12_in  ?_)
      refine R_if_ne_b (tgt := 30) dX12_shape_24 (by decide) (fun b3 => ?_) (fun b3 => ?_)
      · have hf := hf.1 b3
        refine R_aload_n dX12_shape_30 rfl 0 rfl ?_
        refine R_iload_n dX12_shape_31 rfl 1 rfl ?_
        refine R_iload_n dX12_shape_32 rfl 2 rfl ?_
        refine R_iconst (v := 0) dX12_shape_33 (by decide) ?_
        obtain ⟨ob4, hf⟩ := hf
        refine R_callV (ci := 12) (N := mX12_spreadTo) (as := [.int x1, .int x2, .int 0]) (rest := []) (kc2 := 0) (ks2 := 0) dX12_shape_34 lmX12_303 oX12_spreadTo (Nat.le_of_ble_eq_true rfl) rfl rfl (Nat.le_of_ble_eq_true rfl) rfl rfl ob4 ok12 (Call.mono hf ?_)
        rintro _ h5 ⟨rfl, hf⟩
        refine R_aload_n dX12_shape_37 rfl 0 rfl ?_
        obtain ⟨ob6, hf⟩ := hf
        refine G12_45 dX12_shape_38 lfX12_93 ob6 ?_
        refine R_iconst (v := 0) dX12_shape_41 (by decide) ?_
        refine R_iload_n dX12_shape_42 rfl 3 rfl ?_
        refine R_iadd dX12_shape_43 ?_
        obtain ⟨ob7, hf⟩ := hf
        obtain ⟨ob8, hf⟩ := hf
        refine R_iaload dX12_shape_44 ob7 ob8 ?_
        exact R_iret dX12_shape_45 rfl rfl hf
      · have hf := hf.2 b3
        refine R_bipush (v := (-2)) dX12_shape_27 (by decide) ?_
        exact R_iret dX12_shape_29 rfl rfl hf
theorem dX12_shift_0 : decode cX12_shift 0 = .ok (.iload_n 1, 1) := by decide +kernel
theorem dX12_shift_1 : decode cX12_shift 1 = .ok (.iload_n 2, 1) := by decide +kernel
theorem dX12_shift_2 : decode cX12_shift 2 = .ok (.iload_n 3, 1) := by decide +kernel
theorem dX12_shift_3 : decode cX12_shift 3 = .ok (.iload 4, 2) := by decide +kernel
theorem dX12_shift_5 : decode cX12_shift 5 = .ok (.invokestatic 262, 3) := by decide +kernel
theorem dX12_shift_8 : decode cX12_shift 8 = .ok (.ifCond .eq 37, 3) := by decide +kernel
theorem dX12_shift_11 : decode cX12_shift 11 = .ok (.iload 5, 2) := by decide +kernel
theorem dX12_shift_13 : decode cX12_shift 13 = .ok (.iconst 0, 1) := by decide +kernel
theorem dX12_shift_14 : decode cX12_shift 14 = .ok (.sipush 200, 3) := by decide +kernel
theorem dX12_shift_17 : decode cX12_shift 17 = .ok (.invokestatic 178, 3) := by decide +kernel
theorem dX12_shift_20 : decode cX12_shift 20 = .ok (.ifCond .eq 25, 3) := by decide +kernel
theorem dX12_shift_23 : decode cX12_shift 23 = .ok (.iload 6, 2) := by decide +kernel
theorem dX12_shift_25 : decode cX12_shift 25 = .ok (.iconst 0, 1) := by decide +kernel
theorem dX12_shift_26 : decode cX12_shift 26 = .ok (.sipush 200, 3) := by decide +kernel
theorem dX12_shift_29 : decode cX12_shift 29 = .ok (.invokestatic 178, 3) := by decide +kernel
theorem dX12_shift_32 : decode cX12_shift 32 = .ok (.ifCond .eq 13, 3) := by decide +kernel
theorem dX12_shift_35 : decode cX12_shift 35 = .ok (.iload 7, 2) := by decide +kernel
theorem dX12_shift_37 : decode cX12_shift 37 = .ok (.iconst 0, 1) := by decide +kernel
theorem dX12_shift_38 : decode cX12_shift 38 = .ok (.iconst 1, 1) := by decide +kernel
theorem dX12_shift_39 : decode cX12_shift 39 = .ok (.invokestatic 178, 3) := by decide +kernel
theorem dX12_shift_42 : decode cX12_shift 42 = .ok (.ifCond .ne 7, 3) := by decide +kernel
theorem dX12_shift_45 : decode cX12_shift 45 = .ok (.sipush (-9999), 3) := by decide +kernel
theorem dX12_shift_48 : decode cX12_shift 48 = .ok (.ireturn, 1) := by decide +kernel
theorem dX12_shift_49 : decode cX12_shift 49 = .ok (.iload 7, 2) := by decide +kernel
theorem dX12_shift_51 : decode cX12_shift 51 = .ok (.ifCond .ne 17, 3) := by decide +kernel
theorem dX12_shift_54 : decode cX12_shift 54 = .ok (.iload_n 1, 1) := by decide +kernel
theorem dX12_shift_55 : decode cX12_shift 55 = .ok (.iload_n 3, 1) := by decide +kernel
theorem dX12_shift_56 : decode cX12_shift 56 = .ok (.iload 4, 2) := by decide +kernel
theorem dX12_shift_58 : decode cX12_shift 58 = .ok (.iload 5, 2) := by decide +kernel
theorem dX12_shift_60 : decode cX12_shift 60 = .ok (.iload 6, 2) := by decide +kernel
theorem dX12_shift_62 : decode cX12_shift 62 = .ok (.invokestatic 266, 3) := by decide +kernel
theorem dX12_shift_65 : decode cX12_shift 65 = .ok (.goto 14, 3) := by decide +kernel
theorem dX12_shift_68 : decode cX12_shift 68 = .ok (.iload_n 2, 1) := by decide +kernel
theorem dX12_shift_69 : decode cX12_shift 69 = .ok (.iload_n 3, 1) := by decide +kernel
theorem dX12_shift_70 : decode cX12_shift 70 = .ok (.iload 4, 2) := by decide +kernel
theorem dX12_shift_72 : decode cX12_shift 72 = .ok (.iload 5, 2) := by decide +kernel
theorem dX12_shift_74 : decode cX12_shift 74 = .ok (.iload 6, 2) := by decide +kernel
theorem dX12_shift_76 : decode cX12_shift 76 = .ok (.invokestatic 270, 3) := by decide +kernel
theorem dX12_shift_79 : decode cX12_shift 79 = .ok (.ireturn, 1) := by decide +kernel
set_option maxRecDepth 20000 in
theorem sX12_shift_0 {P : Option Value → AH → Prop} (h : AH) (r0 : Nat) (x1 : Int32) (x2 : Int32) (x3 : Int32) (x4 : Int32) (x5 : Int32) (x6 : Int32) (x7 : Int32) (hf : (¬ ((¬ x1 < (-9) ∧ ¬ 9 < x1) ∧ (¬ x2 < (-9) ∧ ¬ 9 < x2) ∧ (¬ x3 < (-9) ∧ ¬ 9 < x3) ∧ (¬ x4 < 0 ∧ ¬ 9 < x4)) → P (some (.int (-9999))) h) ∧ (((¬ x1 < (-9) ∧ ¬ 9 < x1) ∧ (¬ x2 < (-9) ∧ ¬ 9 < x2) ∧ (¬ x3 < (-9) ∧ ¬ 9 < x3) ∧ (¬ x4 < 0 ∧ ¬ 9 < x4)) → (¬ (¬ x5 < 0 ∧ ¬ 200 < x5) → P (some (.int (-9999))) h) ∧ ((¬ x5 < 0 ∧ ¬ 200 < x5) → (¬ (¬ x6 < 0 ∧ ¬ 200 < x6) → P (some (.int (-9999))) h) ∧ ((¬ x6 < 0 ∧ ¬ 200 < x6) → ((¬ x7 < 0 ∧ ¬ 1 < x7) → ∀ z6 : Int32, z6 = (if x7 = 0 then (x1 + (((x4 * x5) - (x3 * x6)) / 100)) else (x2 + (((x3 * x5) + (x4 * x6)) / 100))) → (P (some (.int z6)) h)) ∧ (¬ (¬ x7 < 0 ∧ ¬ 1 < x7) → P (some (.int (-9999))) h))))) : Rr mX12_shift 0 0 0 [(0, .ref r0), (1, .int x1), (2, .int x2), (3, .int x3), (4, .int x4), (5, .int x5), (6, .int x6), (7, .int x7)] [] h P := by
  refine R_iload_n dX12_shift_0 rfl 1 rfl ?_
  refine R_iload_n dX12_shift_1 rfl 2 rfl ?_
  refine R_iload_n dX12_shift_2 rfl 3 rfl ?_
  refine R_iload dX12_shift_3 4 rfl ?_
  refine R_callS (N := mX12_isSlip) (as := [.int x1, .int x2, .int x3, .int x4]) (rest := []) (kc2 := 0) (ks2 := 0) dX12_shift_5 lmX12_262 oX12_isSlip (Nat.le_of_ble_eq_true rfl) rfl rfl (Nat.le_of_ble_eq_true rfl) rfl rfl (aX12_isSlip  ?_)
  refine R_if_eq_b (tgt := 45) dX12_shift_8 (by decide) (fun b1 => ?_) (fun b1 => ?_)
  · have hf := hf.1 b1
    refine R_sipush (v := (-9999)) dX12_shift_45 (by decide) ?_
    exact R_iret dX12_shift_48 rfl rfl hf
  · have hf := hf.2 b1
    refine R_iload dX12_shift_11 5 rfl ?_
    refine R_iconst (v := 0) dX12_shift_13 (by decide) ?_
    refine R_sipush (v := 200) dX12_shift_14 (by decide) ?_
    refine R_callS (N := mX12_in) (as := [.int x5, .int 0, .int 200]) (rest := []) (kc2 := 0) (ks2 := 0) dX12_shift_17 lmX12_178 oX12_in (Nat.le_of_ble_eq_true rfl) rfl rfl (Nat.le_of_ble_eq_true rfl) rfl rfl (aX12_in  ?_)
    refine R_if_eq_b (tgt := 45) dX12_shift_20 (by decide) (fun b2 => ?_) (fun b2 => ?_)
    · have hf := hf.1 b2
      refine R_sipush (v := (-9999)) dX12_shift_45 (by decide) ?_
      exact R_iret dX12_shift_48 rfl rfl hf
    · have hf := hf.2 b2
      refine R_iload dX12_shift_23 6 rfl ?_
      refine R_iconst (v := 0) dX12_shift_25 (by decide) ?_
      refine R_sipush (v := 200) dX12_shift_26 (by decide) ?_
      refine R_callS (N := mX12_in) (as := [.int x6, .int 0, .int 200]) (rest := []) (kc2 := 0) (ks2 := 0) dX12_shift_29 lmX12_178 oX12_in (Nat.le_of_ble_eq_true rfl) rfl rfl (Nat.le_of_ble_eq_true rfl) rfl rfl (aX12_in  ?_)
      refine R_if_eq_b (tgt := 45) dX12_shift_32 (by decide) (fun b3 => ?_) (fun b3 => ?_)
      · have hf := hf.1 b3
        refine R_sipush (v := (-9999)) dX12_shift_45 (by decide) ?_
        exact R_iret dX12_shift_48 rfl rfl hf
      · have hf := hf.2 b3
        refine R_iload dX12_shift_35 7 rfl ?_
        refine R_iconst (v := 0) dX12_shift_37 (by decide) ?_
        refine R_iconst (v := 1) dX12_shift_38 (by decide) ?_
        refine R_callS (N := mX12_in) (as := [.int x7, .int 0, .int 1]) (rest := []) (kc2 := 0) (ks2 := 0) dX12_shift_39 lmX12_178 oX12_in (Nat.le_of_ble_eq_true rfl) rfl rfl (Nat.le_of_ble_eq_true rfl) rfl rfl (aX12_in  ?_)
        refine R_if_ne_b (tgt := 49) dX12_shift_42 (by decide) (fun b4 => ?_) (fun b4 => ?_)
        · have hf := hf.1 b4
          refine R_iload dX12_shift_49 7 rfl ?_
          have key : ∀ z6 : Int32, z6 = (if x7 = 0 then (x1 + (((x4 * x5) - (x3 * x6)) / 100)) else (x2 + (((x3 * x5) + (x4 * x6)) / 100))) → Rr mX12_shift 0 0 79 [] [.int z6] h P := by
            intro z6 ez6
            have hf := hf z6 ez6
            exact R_iret dX12_shift_79 rfl rfl hf
          refine R_if_ne (tgt := 68) dX12_shift_51 (by decide) (fun b5 => ?_) (fun b5 => ?_)
          · refine R_iload_n dX12_shift_68 rfl 2 rfl ?_
            refine R_iload_n dX12_shift_69 rfl 3 rfl ?_
            refine R_iload dX12_shift_70 4 rfl ?_
            refine R_iload dX12_shift_72 5 rfl ?_
            refine R_iload dX12_shift_74 6 rfl ?_
            refine R_callS (N := mX12_upAt) (as := [.int x2, .int x3, .int x4, .int x5, .int x6]) (rest := []) (kc2 := 0) (ks2 := 0) dX12_shift_76 lmX12_270 oX12_upAt (Nat.le_of_ble_eq_true rfl) rfl rfl (Nat.le_of_ble_eq_true rfl) rfl rfl (aX12_upAt  ?_)
            exact R_sub [] rfl (key _ (by rw [if_neg b5]))
          · refine R_iload_n dX12_shift_54 rfl 1 rfl ?_
            refine R_iload_n dX12_shift_55 rfl 3 rfl ?_
            refine R_iload dX12_shift_56 4 rfl ?_
            refine R_iload dX12_shift_58 5 rfl ?_
            refine R_iload dX12_shift_60 6 rfl ?_
            refine R_callS (N := mX12_acrossAt) (as := [.int x1, .int x3, .int x4, .int x5, .int x6]) (rest := []) (kc2 := 0) (ks2 := 0) dX12_shift_62 lmX12_266 oX12_acrossAt (Nat.le_of_ble_eq_true rfl) rfl rfl (Nat.le_of_ble_eq_true rfl) rfl rfl (aX12_acrossAt  ?_)
            refine R_goto (tgt := 79) dX12_shift_65 (by decide) ?_
            exact R_sub [] rfl (key _ (by rw [if_pos b5]))
        · have hf := hf.2 b4
          refine R_sipush (v := (-9999)) dX12_shift_45 (by decide) ?_
          exact R_iret dX12_shift_48 rfl rfl hf
theorem aX12_shift {h : AH} {P : Option Value → AH → Prop} {r0 : Nat} {x1 : Int32} {x2 : Int32} {x3 : Int32} {x4 : Int32} {x5 : Int32} {x6 : Int32} {x7 : Int32}  (k : P (some (.int (if ((¬ x1 < (-9) ∧ ¬ 9 < x1) ∧ (¬ x2 < (-9) ∧ ¬ 9 < x2) ∧ (¬ x3 < (-9) ∧ ¬ 9 < x3) ∧ (¬ x4 < 0 ∧ ¬ 9 < x4)) then (if (¬ x5 < 0 ∧ ¬ 200 < x5) then (if (¬ x6 < 0 ∧ ¬ 200 < x6) then (if (¬ x7 < 0 ∧ ¬ 1 < x7) then (if x7 = 0 then (x1 + (((x4 * x5) - (x3 * x6)) / 100)) else (x2 + (((x3 * x5) + (x4 * x6)) / 100))) else (-9999)) else (-9999)) else (-9999)) else (-9999)))) h) : Call mX12_shift [.ref r0, .int x1, .int x2, .int x3, .int x4, .int x5, .int x6, .int x7] h P :=
  Call.ofR (by decide +kernel) (Nat.le_of_ble_eq_true rfl) (sX12_shift_0 h r0 x1 x2 x3 x4 x5 x6 x7 (⟨fun b0 => by rw [if_neg b0] at k; exact k, fun b0 => ⟨fun b1 => by rw [if_pos b0, if_neg b1] at k; exact k, fun b1 => ⟨fun b2 => by rw [if_pos b0, if_pos b1, if_neg b2] at k; exact k, fun b2 => ⟨fun b3 => fun z6 ez6 => by subst ez6; exact (by rw [if_pos b0, if_pos b1, if_pos b2, if_pos b3] at k; exact k), fun b3 => by rw [if_pos b0, if_pos b1, if_pos b2, if_neg b3] at k; exact k⟩⟩⟩⟩))
theorem dX12_sum_0 : decode cX12_sum 0 = .ok (.aload_n 0, 1) := by decide +kernel
theorem dX12_sum_1 : decode cX12_sum 1 = .ok (.iload_n 1, 1) := by decide +kernel
theorem dX12_sum_2 : decode cX12_sum 2 = .ok (.invokevirtual 368, 3) := by decide +kernel
theorem dX12_sum_5 : decode cX12_sum 5 = .ok (.istore_n 2, 1) := by decide +kernel
theorem dX12_sum_6 : decode cX12_sum 6 = .ok (.iload_n 2, 1) := by decide +kernel
theorem dX12_sum_7 : decode cX12_sum 7 = .ok (.iconst (-1), 1) := by decide +kernel
theorem dX12_sum_8 : decode cX12_sum 8 = .ok (.if_icmp .ne 8, 3) := by decide +kernel
theorem dX12_sum_11 : decode cX12_sum 11 = .ok (.bipush (-2), 2) := by decide +kernel
theorem dX12_sum_13 : decode cX12_sum 13 = .ok (.goto 4, 3) := by decide +kernel
theorem dX12_sum_16 : decode cX12_sum 16 = .ok (.iload_n 2, 1) := by decide +kernel
theorem dX12_sum_17 : decode cX12_sum 17 = .ok (.ireturn, 1) := by decide +kernel
set_option maxRecDepth 20000 in
theorem sX12_sum_0 {P : Option Value → AH → Prop} (h : AH) (r0 : Nat) (x1 : Int32) (hf : (isO h 12 r0) ∧ (Call mX12_sumOf [.ref r0, .int x1] h (fun v h2 => ∃ z3 : Int32, v = some (.int z3) ∧ (∀ z5 : Int32, z5 = (if z3 = (-1) then (-2) else z3) → (P (some (.int z5)) h2))))) : Rr mX12_sum 0 0 0 [(0, .ref r0), (1, .int x1)] [] h P := by
  refine R_aload_n dX12_sum_0 rfl 0 rfl ?_
  refine R_iload_n dX12_sum_1 rfl 1 rfl ?_
  obtain ⟨ob1, hf⟩ := hf
  refine R_callV (ci := 12) (N := mX12_sumOf) (as := [.int x1]) (rest := []) (kc2 := 0) (ks2 := 0) dX12_sum_2 lmX12_368 oX12_sumOf (Nat.le_of_ble_eq_true rfl) rfl rfl (Nat.le_of_ble_eq_true rfl) rfl rfl ob1 ok12 (Call.mono hf ?_)
  rintro _ h2 ⟨z3, rfl, hf⟩
  refine R_istore_n dX12_sum_5 rfl (by decide) rfl ?_
  refine R_iload_n dX12_sum_6 rfl 0 rfl ?_
  refine R_iconst (v := (-1)) dX12_sum_7 (by decide) ?_
  have key : ∀ z5 : Int32, z5 = (if z3 = (-1) then (-2) else z3) → Rr mX12_sum 0 0 17 [] [.int z5] h2 P := by
    intro z5 ez5
    have hf := hf z5 ez5
    exact R_iret dX12_sum_17 rfl rfl hf
  refine R_icmp_ne (tgt := 16) dX12_sum_8 (by decide) (fun b4 => ?_) (fun b4 => ?_)
  · refine R_iload_n dX12_sum_16 rfl 0 rfl ?_
    exact R_sub [] rfl (key _ (by rw [if_neg b4]))
  · refine R_bipush (v := (-2)) dX12_sum_11 (by decide) ?_
    refine R_goto (tgt := 17) dX12_sum_13 (by decide) ?_
    exact R_sub [] rfl (key _ (by rw [if_pos b4]))
theorem dX1_gather_0 : decode cX1_gather 0 = .ok (.aload_n 0, 1) := by decide +kernel
theorem dX1_gather_1 : decode cX1_gather 1 = .ok (.iconst 0, 1) := by decide +kernel
theorem dX1_gather_2 : decode cX1_gather 2 = .ok (.putfield 63, 3) := by decide +kernel
theorem dX1_gather_5 : decode cX1_gather 5 = .ok (.iconst 0, 1) := by decide +kernel
theorem dX1_gather_6 : decode cX1_gather 6 = .ok (.istore 5, 2) := by decide +kernel
theorem dX1_gather_8 : decode cX1_gather 8 = .ok (.iload 5, 2) := by decide +kernel
theorem dX1_gather_10 : decode cX1_gather 10 = .ok (.aload_n 2, 1) := by decide +kernel
theorem dX1_gather_11 : decode cX1_gather 11 = .ok (.getfield 66, 3) := by decide +kernel
theorem dX1_gather_14 : decode cX1_gather 14 = .ok (.if_icmp .ge 126, 3) := by decide +kernel
theorem dX1_gather_17 : decode cX1_gather 17 = .ok (.aload_n 0, 1) := by decide +kernel
theorem dX1_gather_18 : decode cX1_gather 18 = .ok (.getfield 63, 3) := by decide +kernel
theorem dX1_gather_21 : decode cX1_gather 21 = .ok (.aload_n 0, 1) := by decide +kernel
theorem dX1_gather_22 : decode cX1_gather 22 = .ok (.getfield 9, 3) := by decide +kernel
theorem dX1_gather_25 : decode cX1_gather 25 = .ok (.arraylength, 1) := by decide +kernel
theorem dX1_gather_26 : decode cX1_gather 26 = .ok (.if_icmp .ge 114, 3) := by decide +kernel
theorem dX1_gather_29 : decode cX1_gather 29 = .ok (.aload_n 2, 1) := by decide +kernel
theorem dX1_gather_30 : decode cX1_gather 30 = .ok (.iload 5, 2) := by decide +kernel
theorem dX1_gather_32 : decode cX1_gather 32 = .ok (.invokevirtual 67, 3) := by decide +kernel
theorem dX1_gather_35 : decode cX1_gather 35 = .ok (.istore 6, 2) := by decide +kernel
theorem dX1_gather_37 : decode cX1_gather 37 = .ok (.aload_n 2, 1) := by decide +kernel
theorem dX1_gather_38 : decode cX1_gather 38 = .ok (.iload 5, 2) := by decide +kernel
theorem dX1_gather_40 : decode cX1_gather 40 = .ok (.iload_n 3, 1) := by decide +kernel
theorem dX1_gather_41 : decode cX1_gather 41 = .ok (.iload 4, 2) := by decide +kernel
theorem dX1_gather_43 : decode cX1_gather 43 = .ok (.invokevirtual 71, 3) := by decide +kernel
theorem dX1_gather_46 : decode cX1_gather 46 = .ok (.ifCond .eq 88, 3) := by decide +kernel
theorem dX1_gather_49 : decode cX1_gather 49 = .ok (.iload 6, 2) := by decide +kernel
theorem dX1_gather_51 : decode cX1_gather 51 = .ok (.aload_n 1, 1) := by decide +kernel
theorem dX1_gather_52 : decode cX1_gather 52 = .ok (.getfield 75, 3) := by decide +kernel
theorem dX1_gather_55 : decode cX1_gather 55 = .ok (.if_icmp .ge 79, 3) := by decide +kernel
theorem dX1_gather_58 : decode cX1_gather 58 = .ok (.aload_n 0, 1) := by decide +kernel
theorem dX1_gather_59 : decode cX1_gather 59 = .ok (.getfield 9, 3) := by decide +kernel
theorem dX1_gather_62 : decode cX1_gather 62 = .ok (.aload_n 0, 1) := by decide +kernel
theorem dX1_gather_63 : decode cX1_gather 63 = .ok (.getfield 63, 3) := by decide +kernel
theorem dX1_gather_66 : decode cX1_gather 66 = .ok (.aload_n 1, 1) := by decide +kernel
theorem dX1_gather_67 : decode cX1_gather 67 = .ok (.getfield 78, 3) := by decide +kernel
theorem dX1_gather_70 : decode cX1_gather 70 = .ok (.iload 6, 2) := by decide +kernel
theorem dX1_gather_72 : decode cX1_gather 72 = .ok (.iaload, 1) := by decide +kernel
theorem dX1_gather_73 : decode cX1_gather 73 = .ok (.iastore, 1) := by decide +kernel
theorem dX1_gather_74 : decode cX1_gather 74 = .ok (.aload_n 0, 1) := by decide +kernel
theorem dX1_gather_75 : decode cX1_gather 75 = .ok (.getfield 15, 3) := by decide +kernel
theorem dX1_gather_78 : decode cX1_gather 78 = .ok (.aload_n 0, 1) := by decide +kernel
theorem dX1_gather_79 : decode cX1_gather 79 = .ok (.getfield 63, 3) := by decide +kernel
theorem dX1_gather_82 : decode cX1_gather 82 = .ok (.aload_n 1, 1) := by decide +kernel
theorem dX1_gather_83 : decode cX1_gather 83 = .ok (.getfield 81, 3) := by decide +kernel
theorem dX1_gather_86 : decode cX1_gather 86 = .ok (.iload 6, 2) := by decide +kernel
theorem dX1_gather_88 : decode cX1_gather 88 = .ok (.iaload, 1) := by decide +kernel
theorem dX1_gather_89 : decode cX1_gather 89 = .ok (.iastore, 1) := by decide +kernel
theorem dX1_gather_90 : decode cX1_gather 90 = .ok (.aload_n 0, 1) := by decide +kernel
theorem dX1_gather_91 : decode cX1_gather 91 = .ok (.getfield 18, 3) := by decide +kernel
theorem dX1_gather_94 : decode cX1_gather 94 = .ok (.aload_n 0, 1) := by decide +kernel
theorem dX1_gather_95 : decode cX1_gather 95 = .ok (.getfield 63, 3) := by decide +kernel
theorem dX1_gather_98 : decode cX1_gather 98 = .ok (.aload_n 2, 1) := by decide +kernel
theorem dX1_gather_99 : decode cX1_gather 99 = .ok (.iload 5, 2) := by decide +kernel
theorem dX1_gather_101 : decode cX1_gather 101 = .ok (.iload 4, 2) := by decide +kernel
theorem dX1_gather_103 : decode cX1_gather 103 = .ok (.invokevirtual 84, 3) := by decide +kernel
theorem dX1_gather_106 : decode cX1_gather 106 = .ok (.iastore, 1) := by decide +kernel
theorem dX1_gather_107 : decode cX1_gather 107 = .ok (.aload_n 0, 1) := by decide +kernel
theorem dX1_gather_108 : decode cX1_gather 108 = .ok (.getfield 21, 3) := by decide +kernel
theorem dX1_gather_111 : decode cX1_gather 111 = .ok (.aload_n 0, 1) := by decide +kernel
theorem dX1_gather_112 : decode cX1_gather 112 = .ok (.getfield 63, 3) := by decide +kernel
theorem dX1_gather_115 : decode cX1_gather 115 = .ok (.aload_n 2, 1) := by decide +kernel
theorem dX1_gather_116 : decode cX1_gather 116 = .ok (.iload 5, 2) := by decide +kernel
theorem dX1_gather_118 : decode cX1_gather 118 = .ok (.iload 4, 2) := by decide +kernel
theorem dX1_gather_120 : decode cX1_gather 120 = .ok (.invokevirtual 88, 3) := by decide +kernel
theorem dX1_gather_123 : decode cX1_gather 123 = .ok (.iastore, 1) := by decide +kernel
theorem dX1_gather_124 : decode cX1_gather 124 = .ok (.aload_n 0, 1) := by decide +kernel
theorem dX1_gather_125 : decode cX1_gather 125 = .ok (.dup, 1) := by decide +kernel
theorem dX1_gather_126 : decode cX1_gather 126 = .ok (.getfield 63, 3) := by decide +kernel
theorem dX1_gather_129 : decode cX1_gather 129 = .ok (.iconst 1, 1) := by decide +kernel
theorem dX1_gather_130 : decode cX1_gather 130 = .ok (.iadd, 1) := by decide +kernel
theorem dX1_gather_131 : decode cX1_gather 131 = .ok (.putfield 63, 3) := by decide +kernel
theorem dX1_gather_134 : decode cX1_gather 134 = .ok (.iinc 5 1, 3) := by decide +kernel
theorem dX1_gather_137 : decode cX1_gather 137 = .ok (.goto (-129), 3) := by decide +kernel
theorem dX1_gather_140 : decode cX1_gather 140 = .ok (.return_, 1) := by decide +kernel
set_option maxRecDepth 20000 in
theorem sX1_gather_0 {P : Option Value → AH → Prop} (h : AH) (r0 : Nat) (r1 : Nat) (r2 : Nat) (x3 : Int32) (x4 : Int32) (hf : (isO h 1 r0) ∧ (Rr mX1_gather 0 0 8 [(0, .ref r0), (1, .ref r1), (2, .ref r2), (3, .int x3), (4, .int x4), (5, .int 0)] [] (sI h r0 0 0) P)) : Rr mX1_gather 0 0 0 [(0, .ref r0), (1, .ref r1), (2, .ref r2), (3, .int x3), (4, .int x4)] [] h P := by
  refine R_aload_n dX1_gather_0 rfl 0 rfl ?_
  refine R_iconst (v := 0) dX1_gather_1 (by decide) ?_
  obtain ⟨ob1, hf⟩ := hf
  refine S1_0 dX1_gather_2 lfX1_63 ob1 ?_
  refine R_iconst (v := 0) dX1_gather_5 (by decide) ?_
  refine R_istore dX1_gather_6 (by decide) rfl ?_
  exact R_sub [1, 2, 3, 4, 5, 0] rfl hf
set_option maxRecDepth 20000 in
theorem sX1_gather_8 {P : Option Value → AH → Prop} (h : AH) (r0 : Nat) (r1 : Nat) (r2 : Nat) (x3 : Int32) (x4 : Int32) (x5 : Int32) (hf : (isO h 7 r2) ∧ (((gI h r2 0) ≤ x5 → P none h) ∧ (¬ (gI h r2 0) ≤ x5 → (isO h 1 r0) ∧ ((isA h 0 (gF h r0 1)) ∧ (((Int32.ofNat (ln (gF h r0 1))) ≤ (gI h r0 0) → P none h) ∧ (¬ (Int32.ofNat (ln (gF h r0 1))) ≤ (gI h r0 0) → (isA h 0 (gF h r2 5)) ∧ ((vp_in x5 (ln (gF h r2 5))) ∧ ((isA h 0 (gF h r2 4)) ∧ ((vp_in x5 (ln (gF h r2 4))) ∧ ((isA h 0 (gF h r2 3)) ∧ (((gI h (gF h r2 4) x5.toNatClampNeg) = x3 → vp_in x5 (ln (gF h r2 3))) ∧ ((¬ ((gI h (gF h r2 4) x5.toNatClampNeg) = x3 ∧ ¬ x4 < (gI h (gF h r2 3) x5.toNatClampNeg)) → Rr mX1_gather 0 0 8 [(0, .ref r0), (1, .ref r1), (2, .ref r2), (3, .int x3), (4, .int x4), (5, .int (x5 + 1))] [] h P) ∧ (((gI h (gF h r2 4) x5.toNatClampNeg) = x3 ∧ ¬ x4 < (gI h (gF h r2 3) x5.toNatClampNeg)) → (isO h 3 r1) ∧ (((gI h r1 3) ≤ (gI h (gF h r2 5) x5.toNatClampNeg) → Rr mX1_gather 0 0 8 [(0, .ref r0), (1, .ref r1), (2, .ref r2), (3, .int x3), (4, .int x4), (5, .int (x5 + 1))] [] h P) ∧ (¬ (gI h r1 3) ≤ (gI h (gF h r2 5) x5.toNatClampNeg) → (isA h 0 (gF h r1 4)) ∧ ((vp_in (gI h (gF h r2 5) x5.toNatClampNeg) (ln (gF h r1 4))) ∧ ((vp_in (gI h r0 0) (ln (gF h r0 1))) ∧ ((isA h 0 (gF (sI h (gF h r0 1) (gI h r0 0).toNatClampNeg (gI h (gF h r1 4) (gI h (gF h r2 5) x5.toNatClampNeg).toNatClampNeg)) r1 5)) ∧ ((vp_in (gI h (gF h r2 5) x5.toNatClampNeg) (ln (gF (sI h (gF h r0 1) (gI h r0 0).toNatClampNeg (gI h (gF h r1 4) (gI h (gF h r2 5) x5.toNatClampNeg).toNatClampNeg)) r1 5))) ∧ ((isA h 0 (gF (sI h (gF h r0 1) (gI h r0 0).toNatClampNeg (gI h (gF h r1 4) (gI h (gF h r2 5) x5.toNatClampNeg).toNatClampNeg)) r0 2)) ∧ ((vp_in (gI (sI h (gF h r0 1) (gI h r0 0).toNatClampNeg (gI h (gF h r1 4) (gI h (gF h r2 5) x5.toNatClampNeg).toNatClampNeg)) r0 0) (ln (gF (sI h (gF h r0 1) (gI h r0 0).toNatClampNeg (gI h (gF h r1 4) (gI h (gF h r2 5) x5.toNatClampNeg).toNatClampNeg)) r0 2))) ∧ (Call mX7_acrossKnown [.ref r2, .int x5, .int x4] (sI (sI h (gF h r0 1) (gI h r0 0).toNatClampNeg (gI h (gF h r1 4) (gI h (gF h r2 5) x5.toNatClampNeg).toNatClampNeg)) (gF (sI h (gF h r0 1) (gI h r0 0).toNatClampNeg (gI h (gF h r1 4) (gI h (gF h r2 5) x5.toNatClampNeg).toNatClampNeg)) r0 2) (gI (sI h (gF h r0 1) (gI h r0 0).toNatClampNeg (gI h (gF h r1 4) (gI h (gF h r2 5) x5.toNatClampNeg).toNatClampNeg)) r0 0).toNatClampNeg (gI (sI h (gF h r0 1) (gI h r0 0).toNatClampNeg (gI h (gF h r1 4) (gI h (gF h r2 5) x5.toNatClampNeg).toNatClampNeg)) (gF (sI h (gF h r0 1) (gI h r0 0).toNatClampNeg (gI h (gF h r1 4) (gI h (gF h r2 5) x5.toNatClampNeg).toNatClampNeg)) r1 5) (gI h (gF h r2 5) x5.toNatClampNeg).toNatClampNeg)) (fun v h22 => ∃ z23 : Int32, v = some (.int z23) ∧ ((isA h22 0 (gF (sI (sI h (gF h r0 1) (gI h r0 0).toNatClampNeg (gI h (gF h r1 4) (gI h (gF h r2 5) x5.toNatClampNeg).toNatClampNeg)) (gF (sI h (gF h r0 1) (gI h r0 0).toNatClampNeg (gI h (gF h r1 4) (gI h (gF h r2 5) x5.toNatClampNeg).toNatClampNeg)) r0 2) (gI (sI h (gF h r0 1) (gI h r0 0).toNatClampNeg (gI h (gF h r1 4) (gI h (gF h r2 5) x5.toNatClampNeg).toNatClampNeg)) r0 0).toNatClampNeg (gI (sI h (gF h r0 1) (gI h r0 0).toNatClampNeg (gI h (gF h r1 4) (gI h (gF h r2 5) x5.toNatClampNeg).toNatClampNeg)) (gF (sI h (gF h r0 1) (gI h r0 0).toNatClampNeg (gI h (gF h r1 4) (gI h (gF h r2 5) x5.toNatClampNeg).toNatClampNeg)) r1 5) (gI h (gF h r2 5) x5.toNatClampNeg).toNatClampNeg)) r0 3)) ∧ ((vp_in (gI (sI (sI h (gF h r0 1) (gI h r0 0).toNatClampNeg (gI h (gF h r1 4) (gI h (gF h r2 5) x5.toNatClampNeg).toNatClampNeg)) (gF (sI h (gF h r0 1) (gI h r0 0).toNatClampNeg (gI h (gF h r1 4) (gI h (gF h r2 5) x5.toNatClampNeg).toNatClampNeg)) r0 2) (gI (sI h (gF h r0 1) (gI h r0 0).toNatClampNeg (gI h (gF h r1 4) (gI h (gF h r2 5) x5.toNatClampNeg).toNatClampNeg)) r0 0).toNatClampNeg (gI (sI h (gF h r0 1) (gI h r0 0).toNatClampNeg (gI h (gF h r1 4) (gI h (gF h r2 5) x5.toNatClampNeg).toNatClampNeg)) (gF (sI h (gF h r0 1) (gI h r0 0).toNatClampNeg (gI h (gF h r1 4) (gI h (gF h r2 5) x5.toNatClampNeg).toNatClampNeg)) r1 5) (gI h (gF h r2 5) x5.toNatClampNeg).toNatClampNeg)) r0 0) (ln (gF (sI (sI h (gF h r0 1) (gI h r0 0).toNatClampNeg (gI h (gF h r1 4) (gI h (gF h r2 5) x5.toNatClampNeg).toNatClampNeg)) (gF (sI h (gF h r0 1) (gI h r0 0).toNatClampNeg (gI h (gF h r1 4) (gI h (gF h r2 5) x5.toNatClampNeg).toNatClampNeg)) r0 2) (gI (sI h (gF h r0 1) (gI h r0 0).toNatClampNeg (gI h (gF h r1 4) (gI h (gF h r2 5) x5.toNatClampNeg).toNatClampNeg)) r0 0).toNatClampNeg (gI (sI h (gF h r0 1) (gI h r0 0).toNatClampNeg (gI h (gF h r1 4) (gI h (gF h r2 5) x5.toNatClampNeg).toNatClampNeg)) (gF (sI h (gF h r0 1) (gI h r0 0).toNatClampNeg (gI h (gF h r1 4) (gI h (gF h r2 5) x5.toNatClampNeg).toNatClampNeg)) r1 5) (gI h (gF h r2 5) x5.toNatClampNeg).toNatClampNeg)) r0 3))) ∧ ((isO h22 1 r0) ∧ ((isO h22 7 r2) ∧ (Call mX7_upKnown [.ref r2, .int x5, .int x4] (sI h22 (gF (sI (sI h (gF h r0 1) (gI h r0 0).toNatClampNeg (gI h (gF h r1 4) (gI h (gF h r2 5) x5.toNatClampNeg).toNatClampNeg)) (gF (sI h (gF h r0 1) (gI h r0 0).toNatClampNeg (gI h (gF h r1 4) (gI h (gF h r2 5) x5.toNatClampNeg).toNatClampNeg)) r0 2) (gI (sI h (gF h r0 1) (gI h r0 0).toNatClampNeg (gI h (gF h r1 4) (gI h (gF h r2 5) x5.toNatClampNeg).toNatClampNeg)) r0 0).toNatClampNeg (gI (sI h (gF h r0 1) (gI h r0 0).toNatClampNeg (gI h (gF h r1 4) (gI h (gF h r2 5) x5.toNatClampNeg).toNatClampNeg)) (gF (sI h (gF h r0 1) (gI h r0 0).toNatClampNeg (gI h (gF h r1 4) (gI h (gF h r2 5) x5.toNatClampNeg).toNatClampNeg)) r1 5) (gI h (gF h r2 5) x5.toNatClampNeg).toNatClampNeg)) r0 3) (gI (sI (sI h (gF h r0 1) (gI h r0 0).toNatClampNeg (gI h (gF h r1 4) (gI h (gF h r2 5) x5.toNatClampNeg).toNatClampNeg)) (gF (sI h (gF h r0 1) (gI h r0 0).toNatClampNeg (gI h (gF h r1 4) (gI h (gF h r2 5) x5.toNatClampNeg).toNatClampNeg)) r0 2) (gI (sI h (gF h r0 1) (gI h r0 0).toNatClampNeg (gI h (gF h r1 4) (gI h (gF h r2 5) x5.toNatClampNeg).toNatClampNeg)) r0 0).toNatClampNeg (gI (sI h (gF h r0 1) (gI h r0 0).toNatClampNeg (gI h (gF h r1 4) (gI h (gF h r2 5) x5.toNatClampNeg).toNatClampNeg)) (gF (sI h (gF h r0 1) (gI h r0 0).toNatClampNeg (gI h (gF h r1 4) (gI h (gF h r2 5) x5.toNatClampNeg).toNatClampNeg)) r1 5) (gI h (gF h r2 5) x5.toNatClampNeg).toNatClampNeg)) r0 0).toNatClampNeg z23) (fun v h28 => ∃ z29 : Int32, v = some (.int z29) ∧ ((isA h28 0 (gF (sI h22 (gF (sI (sI h (gF h r0 1) (gI h r0 0).toNatClampNeg (gI h (gF h r1 4) (gI h (gF h r2 5) x5.toNatClampNeg).toNatClampNeg)) (gF (sI h (gF h r0 1) (gI h r0 0).toNatClampNeg (gI h (gF h r1 4) (gI h (gF h r2 5) x5.toNatClampNeg).toNatClampNeg)) r0 2) (gI (sI h (gF h r0 1) (gI h r0 0).toNatClampNeg (gI h (gF h r1 4) (gI h (gF h r2 5) x5.toNatClampNeg).toNatClampNeg)) r0 0).toNatClampNeg (gI (sI h (gF h r0 1) (gI h r0 0).toNatClampNeg (gI h (gF h r1 4) (gI h (gF h r2 5) x5.toNatClampNeg).toNatClampNeg)) (gF (sI h (gF h r0 1) (gI h r0 0).toNatClampNeg (gI h (gF h r1 4) (gI h (gF h r2 5) x5.toNatClampNeg).toNatClampNeg)) r1 5) (gI h (gF h r2 5) x5.toNatClampNeg).toNatClampNeg)) r0 3) (gI (sI (sI h (gF h r0 1) (gI h r0 0).toNatClampNeg (gI h (gF h r1 4) (gI h (gF h r2 5) x5.toNatClampNeg).toNatClampNeg)) (gF (sI h (gF h r0 1) (gI h r0 0).toNatClampNeg (gI h (gF h r1 4) (gI h (gF h r2 5) x5.toNatClampNeg).toNatClampNeg)) r0 2) (gI (sI h (gF h r0 1) (gI h r0 0).toNatClampNeg (gI h (gF h r1 4) (gI h (gF h r2 5) x5.toNatClampNeg).toNatClampNeg)) r0 0).toNatClampNeg (gI (sI h (gF h r0 1) (gI h r0 0).toNatClampNeg (gI h (gF h r1 4) (gI h (gF h r2 5) x5.toNatClampNeg).toNatClampNeg)) (gF (sI h (gF h r0 1) (gI h r0 0).toNatClampNeg (gI h (gF h r1 4) (gI h (gF h r2 5) x5.toNatClampNeg).toNatClampNeg)) r1 5) (gI h (gF h r2 5) x5.toNatClampNeg).toNatClampNeg)) r0 0).toNatClampNeg z23) r0 4)) ∧ ((vp_in (gI (sI h22 (gF (sI (sI h (gF h r0 1) (gI h r0 0).toNatClampNeg (gI h (gF h r1 4) (gI h (gF h r2 5) x5.toNatClampNeg).toNatClampNeg)) (gF (sI h (gF h r0 1) (gI h r0 0).toNatClampNeg (gI h (gF h r1 4) (gI h (gF h r2 5) x5.toNatClampNeg).toNatClampNeg)) r0 2) (gI (sI h (gF h r0 1) (gI h r0 0).toNatClampNeg (gI h (gF h r1 4) (gI h (gF h r2 5) x5.toNatClampNeg).toNatClampNeg)) r0 0).toNatClampNeg (gI (sI h (gF h r0 1) (gI h r0 0).toNatClampNeg (gI h (gF h r1 4) (gI h (gF h r2 5) x5.toNatClampNeg).toNatClampNeg)) (gF (sI h (gF h r0 1) (gI h r0 0).toNatClampNeg (gI h (gF h r1 4) (gI h (gF h r2 5) x5.toNatClampNeg).toNatClampNeg)) r1 5) (gI h (gF h r2 5) x5.toNatClampNeg).toNatClampNeg)) r0 3) (gI (sI (sI h (gF h r0 1) (gI h r0 0).toNatClampNeg (gI h (gF h r1 4) (gI h (gF h r2 5) x5.toNatClampNeg).toNatClampNeg)) (gF (sI h (gF h r0 1) (gI h r0 0).toNatClampNeg (gI h (gF h r1 4) (gI h (gF h r2 5) x5.toNatClampNeg).toNatClampNeg)) r0 2) (gI (sI h (gF h r0 1) (gI h r0 0).toNatClampNeg (gI h (gF h r1 4) (gI h (gF h r2 5) x5.toNatClampNeg).toNatClampNeg)) r0 0).toNatClampNeg (gI (sI h (gF h r0 1) (gI h r0 0).toNatClampNeg (gI h (gF h r1 4) (gI h (gF h r2 5) x5.toNatClampNeg).toNatClampNeg)) (gF (sI h (gF h r0 1) (gI h r0 0).toNatClampNeg (gI h (gF h r1 4) (gI h (gF h r2 5) x5.toNatClampNeg).toNatClampNeg)) r1 5) (gI h (gF h r2 5) x5.toNatClampNeg).toNatClampNeg)) r0 0).toNatClampNeg z23) r0 0) (ln (gF (sI h22 (gF (sI (sI h (gF h r0 1) (gI h r0 0).toNatClampNeg (gI h (gF h r1 4) (gI h (gF h r2 5) x5.toNatClampNeg).toNatClampNeg)) (gF (sI h (gF h r0 1) (gI h r0 0).toNatClampNeg (gI h (gF h r1 4) (gI h (gF h r2 5) x5.toNatClampNeg).toNatClampNeg)) r0 2) (gI (sI h (gF h r0 1) (gI h r0 0).toNatClampNeg (gI h (gF h r1 4) (gI h (gF h r2 5) x5.toNatClampNeg).toNatClampNeg)) r0 0).toNatClampNeg (gI (sI h (gF h r0 1) (gI h r0 0).toNatClampNeg (gI h (gF h r1 4) (gI h (gF h r2 5) x5.toNatClampNeg).toNatClampNeg)) (gF (sI h (gF h r0 1) (gI h r0 0).toNatClampNeg (gI h (gF h r1 4) (gI h (gF h r2 5) x5.toNatClampNeg).toNatClampNeg)) r1 5) (gI h (gF h r2 5) x5.toNatClampNeg).toNatClampNeg)) r0 3) (gI (sI (sI h (gF h r0 1) (gI h r0 0).toNatClampNeg (gI h (gF h r1 4) (gI h (gF h r2 5) x5.toNatClampNeg).toNatClampNeg)) (gF (sI h (gF h r0 1) (gI h r0 0).toNatClampNeg (gI h (gF h r1 4) (gI h (gF h r2 5) x5.toNatClampNeg).toNatClampNeg)) r0 2) (gI (sI h (gF h r0 1) (gI h r0 0).toNatClampNeg (gI h (gF h r1 4) (gI h (gF h r2 5) x5.toNatClampNeg).toNatClampNeg)) r0 0).toNatClampNeg (gI (sI h (gF h r0 1) (gI h r0 0).toNatClampNeg (gI h (gF h r1 4) (gI h (gF h r2 5) x5.toNatClampNeg).toNatClampNeg)) (gF (sI h (gF h r0 1) (gI h r0 0).toNatClampNeg (gI h (gF h r1 4) (gI h (gF h r2 5) x5.toNatClampNeg).toNatClampNeg)) r1 5) (gI h (gF h r2 5) x5.toNatClampNeg).toNatClampNeg)) r0 0).toNatClampNeg z23) r0 4))) ∧ ((isO h28 1 r0) ∧ (Rr mX1_gather 0 0 8 [(0, .ref r0), (1, .ref r1), (2, .ref r2), (3, .int x3), (4, .int x4), (5, .int (x5 + 1))] [] (sI (sI h28 (gF (sI h22 (gF (sI (sI h (gF h r0 1) (gI h r0 0).toNatClampNeg (gI h (gF h r1 4) (gI h (gF h r2 5) x5.toNatClampNeg).toNatClampNeg)) (gF (sI h (gF h r0 1) (gI h r0 0).toNatClampNeg (gI h (gF h r1 4) (gI h (gF h r2 5) x5.toNatClampNeg).toNatClampNeg)) r0 2) (gI (sI h (gF h r0 1) (gI h r0 0).toNatClampNeg (gI h (gF h r1 4) (gI h (gF h r2 5) x5.toNatClampNeg).toNatClampNeg)) r0 0).toNatClampNeg (gI (sI h (gF h r0 1) (gI h r0 0).toNatClampNeg (gI h (gF h r1 4) (gI h (gF h r2 5) x5.toNatClampNeg).toNatClampNeg)) (gF (sI h (gF h r0 1) (gI h r0 0).toNatClampNeg (gI h (gF h r1 4) (gI h (gF h r2 5) x5.toNatClampNeg).toNatClampNeg)) r1 5) (gI h (gF h r2 5) x5.toNatClampNeg).toNatClampNeg)) r0 3) (gI (sI (sI h (gF h r0 1) (gI h r0 0).toNatClampNeg (gI h (gF h r1 4) (gI h (gF h r2 5) x5.toNatClampNeg).toNatClampNeg)) (gF (sI h (gF h r0 1) (gI h r0 0).toNatClampNeg (gI h (gF h r1 4) (gI h (gF h r2 5) x5.toNatClampNeg).toNatClampNeg)) r0 2) (gI (sI h (gF h r0 1) (gI h r0 0).toNatClampNeg (gI h (gF h r1 4) (gI h (gF h r2 5) x5.toNatClampNeg).toNatClampNeg)) r0 0).toNatClampNeg (gI (sI h (gF h r0 1) (gI h r0 0).toNatClampNeg (gI h (gF h r1 4) (gI h (gF h r2 5) x5.toNatClampNeg).toNatClampNeg)) (gF (sI h (gF h r0 1) (gI h r0 0).toNatClampNeg (gI h (gF h r1 4) (gI h (gF h r2 5) x5.toNatClampNeg).toNatClampNeg)) r1 5) (gI h (gF h r2 5) x5.toNatClampNeg).toNatClampNeg)) r0 0).toNatClampNeg z23) r0 4) (gI (sI h22 (gF (sI (sI h (gF h r0 1) (gI h r0 0).toNatClampNeg (gI h (gF h r1 4) (gI h (gF h r2 5) x5.toNatClampNeg).toNatClampNeg)) (gF (sI h (gF h r0 1) (gI h r0 0).toNatClampNeg (gI h (gF h r1 4) (gI h (gF h r2 5) x5.toNatClampNeg).toNatClampNeg)) r0 2) (gI (sI h (gF h r0 1) (gI h r0 0).toNatClampNeg (gI h (gF h r1 4) (gI h (gF h r2 5) x5.toNatClampNeg).toNatClampNeg)) r0 0).toNatClampNeg (gI (sI h (gF h r0 1) (gI h r0 0).toNatClampNeg (gI h (gF h r1 4) (gI h (gF h r2 5) x5.toNatClampNeg).toNatClampNeg)) (gF (sI h (gF h r0 1) (gI h r0 0).toNatClampNeg (gI h (gF h r1 4) (gI h (gF h r2 5) x5.toNatClampNeg).toNatClampNeg)) r1 5) (gI h (gF h r2 5) x5.toNatClampNeg).toNatClampNeg)) r0 3) (gI (sI (sI h (gF h r0 1) (gI h r0 0).toNatClampNeg (gI h (gF h r1 4) (gI h (gF h r2 5) x5.toNatClampNeg).toNatClampNeg)) (gF (sI h (gF h r0 1) (gI h r0 0).toNatClampNeg (gI h (gF h r1 4) (gI h (gF h r2 5) x5.toNatClampNeg).toNatClampNeg)) r0 2) (gI (sI h (gF h r0 1) (gI h r0 0).toNatClampNeg (gI h (gF h r1 4) (gI h (gF h r2 5) x5.toNatClampNeg).toNatClampNeg)) r0 0).toNatClampNeg (gI (sI h (gF h r0 1) (gI h r0 0).toNatClampNeg (gI h (gF h r1 4) (gI h (gF h r2 5) x5.toNatClampNeg).toNatClampNeg)) (gF (sI h (gF h r0 1) (gI h r0 0).toNatClampNeg (gI h (gF h r1 4) (gI h (gF h r2 5) x5.toNatClampNeg).toNatClampNeg)) r1 5) (gI h (gF h r2 5) x5.toNatClampNeg).toNatClampNeg)) r0 0).toNatClampNeg z23) r0 0).toNatClampNeg z29) r0 0 ((gI (sI h28 (gF (sI h22 (gF (sI (sI h (gF h r0 1) (gI h r0 0).toNatClampNeg (gI h (gF h r1 4) (gI h (gF h r2 5) x5.toNatClampNeg).toNatClampNeg)) (gF (sI h (gF h r0 1) (gI h r0 0).toNatClampNeg (gI h (gF h r1 4) (gI h (gF h r2 5) x5.toNatClampNeg).toNatClampNeg)) r0 2) (gI (sI h (gF h r0 1) (gI h r0 0).toNatClampNeg (gI h (gF h r1 4) (gI h (gF h r2 5) x5.toNatClampNeg).toNatClampNeg)) r0 0).toNatClampNeg (gI (sI h (gF h r0 1) (gI h r0 0).toNatClampNeg (gI h (gF h r1 4) (gI h (gF h r2 5) x5.toNatClampNeg).toNatClampNeg)) (gF (sI h (gF h r0 1) (gI h r0 0).toNatClampNeg (gI h (gF h r1 4) (gI h (gF h r2 5) x5.toNatClampNeg).toNatClampNeg)) r1 5) (gI h (gF h r2 5) x5.toNatClampNeg).toNatClampNeg)) r0 3) (gI (sI (sI h (gF h r0 1) (gI h r0 0).toNatClampNeg (gI h (gF h r1 4) (gI h (gF h r2 5) x5.toNatClampNeg).toNatClampNeg)) (gF (sI h (gF h r0 1) (gI h r0 0).toNatClampNeg (gI h (gF h r1 4) (gI h (gF h r2 5) x5.toNatClampNeg).toNatClampNeg)) r0 2) (gI (sI h (gF h r0 1) (gI h r0 0).toNatClampNeg (gI h (gF h r1 4) (gI h (gF h r2 5) x5.toNatClampNeg).toNatClampNeg)) r0 0).toNatClampNeg (gI (sI h (gF h r0 1) (gI h r0 0).toNatClampNeg (gI h (gF h r1 4) (gI h (gF h r2 5) x5.toNatClampNeg).toNatClampNeg)) (gF (sI h (gF h r0 1) (gI h r0 0).toNatClampNeg (gI h (gF h r1 4) (gI h (gF h r2 5) x5.toNatClampNeg).toNatClampNeg)) r1 5) (gI h (gF h r2 5) x5.toNatClampNeg).toNatClampNeg)) r0 0).toNatClampNeg z23) r0 4) (gI (sI h22 (gF (sI (sI h (gF h r0 1) (gI h r0 0).toNatClampNeg (gI h (gF h r1 4) (gI h (gF h r2 5) x5.toNatClampNeg).toNatClampNeg)) (gF (sI h (gF h r0 1) (gI h r0 0).toNatClampNeg (gI h (gF h r1 4) (gI h (gF h r2 5) x5.toNatClampNeg).toNatClampNeg)) r0 2) (gI (sI h (gF h r0 1) (gI h r0 0).toNatClampNeg (gI h (gF h r1 4) (gI h (gF h r2 5) x5.toNatClampNeg).toNatClampNeg)) r0 0).toNatClampNeg (gI (sI h (gF h r0 1) (gI h r0 0).toNatClampNeg (gI h (gF h r1 4) (gI h (gF h r2 5) x5.toNatClampNeg).toNatClampNeg)) (gF (sI h (gF h r0 1) (gI h r0 0).toNatClampNeg (gI h (gF h r1 4) (gI h (gF h r2 5) x5.toNatClampNeg).toNatClampNeg)) r1 5) (gI h (gF h r2 5) x5.toNatClampNeg).toNatClampNeg)) r0 3) (gI (sI (sI h (gF h r0 1) (gI h r0 0).toNatClampNeg (gI h (gF h r1 4) (gI h (gF h r2 5) x5.toNatClampNeg).toNatClampNeg)) (gF (sI h (gF h r0 1) (gI h r0 0).toNatClampNeg (gI h (gF h r1 4) (gI h (gF h r2 5) x5.toNatClampNeg).toNatClampNeg)) r0 2) (gI (sI h (gF h r0 1) (gI h r0 0).toNatClampNeg (gI h (gF h r1 4) (gI h (gF h r2 5) x5.toNatClampNeg).toNatClampNeg)) r0 0).toNatClampNeg (gI (sI h (gF h r0 1) (gI h r0 0).toNatClampNeg (gI h (gF h r1 4) (gI h (gF h r2 5) x5.toNatClampNeg).toNatClampNeg)) (gF (sI h (gF h r0 1) (gI h r0 0).toNatClampNeg (gI h (gF h r1 4) (gI h (gF h r2 5) x5.toNatClampNeg).toNatClampNeg)) r1 5) (gI h (gF h r2 5) x5.toNatClampNeg).toNatClampNeg)) r0 0).toNatClampNeg z23) r0 0).toNatClampNeg z29) r0 0) + 1)) P))))))))))))))))))))))))))))))))) : Rr mX1_gather 0 0 8 [(0, .ref r0), (1, .ref r1), (2, .ref r2), (3, .int x3), (4, .int x4), (5, .int x5)] [] h P := by
  refine R_iload dX1_gather_8 5 rfl ?_
  refine R_aload_n dX1_gather_10 rfl 2 rfl ?_
  obtain ⟨ob1, hf⟩ := hf
  refine G7_0 dX1_gather_11 lfX1_66 ob1 ?_
  refine R_icmp_ge (tgt := 140) dX1_gather_14 (by decide) (fun b2 => ?_) (fun b2 => ?_)
  · have hf := hf.1 b2
    exact R_ret dX1_gather_140 rfl hf
  · have hf := hf.2 b2
    refine R_aload_n dX1_gather_17 rfl 0 rfl ?_
    obtain ⟨ob3, hf⟩ := hf
    refine G1_0 dX1_gather_18 lfX1_63 ob3 ?_
    refine R_aload_n dX1_gather_21 rfl 0 rfl ?_
    refine G1_1 dX1_gather_22 lfX1_9 ob3 ?_
    obtain ⟨ob4, hf⟩ := hf
    refine R_alen (v := Int32.ofNat (ln (gF h r0 1))) (by decide) dX1_gather_25 ob4 rfl ?_
    refine R_icmp_ge (tgt := 140) dX1_gather_26 (by decide) (fun b5 => ?_) (fun b5 => ?_)
    · have hf := hf.1 b5
      exact R_ret dX1_gather_140 rfl hf
    · have hf := hf.2 b5
      refine R_aload_n dX1_gather_29 rfl 2 rfl ?_
      refine R_iload dX1_gather_30 5 rfl ?_
      obtain ⟨ob6, hf⟩ := hf
      obtain ⟨ob7, hf⟩ := hf
      refine R_callV (ci := 7) (N := mX7_markOf) (as := [.int x5]) (rest := []) (kc2 := 0) (ks2 := 0) dX1_gather_32 lmX1_67 oX7_markOf (Nat.le_of_ble_eq_true rfl) rfl rfl (Nat.le_of_ble_eq_true rfl) rfl rfl ob1 ok7 (aX7_markOf ob1 ob6 ob7 ?_)
      refine R_istore dX1_gather_35 (by decide) rfl ?_
      refine R_aload_n dX1_gather_37 rfl 3 rfl ?_
      refine R_iload dX1_gather_38 6 rfl ?_
      refine R_iload_n dX1_gather_40 rfl 4 rfl ?_
      refine R_iload dX1_gather_41 5 rfl ?_
      obtain ⟨ob8, hf⟩ := hf
      obtain ⟨ob9, hf⟩ := hf
      obtain ⟨ob10, hf⟩ := hf
      obtain ⟨ob11, hf⟩ := hf
      refine R_callV (ci := 7) (N := mX7_isKnown) (as := [.int x5, .int x3, .int x4]) (rest := []) (kc2 := 0) (ks2 := 0) dX1_gather_43 lmX1_71 oX7_isKnown (Nat.le_of_ble_eq_true rfl) rfl rfl (Nat.le_of_ble_eq_true rfl) rfl rfl ob1 ok7 (aX7_isKnown ob1 ob8 ob9 ob10 ob11 ?_)
      refine R_if_eq_b (tgt := 134) dX1_gather_46 (by decide) (fun b12 => ?_) (fun b12 => ?_)
      · have hf := hf.1 b12
        refine R_iinc (v := x5 + 1) dX1_gather_134 6 rfl rfl (by decide) rfl ?_
        refine R_goto (tgt := 8) dX1_gather_137 (by decide) ?_
        exact R_sub [2, 3, 4, 5, 6, 0] rfl hf
      · have hf := hf.2 b12
        refine R_iload dX1_gather_49 0 rfl ?_
        refine R_aload_n dX1_gather_51 rfl 2 rfl ?_
        obtain ⟨ob13, hf⟩ := hf
        refine G3_3 dX1_gather_52 lfX1_75 ob13 ?_
        refine R_icmp_ge (tgt := 134) dX1_gather_55 (by decide) (fun b14 => ?_) (fun b14 => ?_)
        · have hf := hf.1 b14
          refine R_iinc (v := x5 + 1) dX1_gather_134 6 rfl rfl (by decide) rfl ?_
          refine R_goto (tgt := 8) dX1_gather_137 (by decide) ?_
          exact R_sub [2, 3, 4, 5, 6, 0] rfl hf
        · have hf := hf.2 b14
          refine R_aload_n dX1_gather_58 rfl 1 rfl ?_
          refine G1_1 dX1_gather_59 lfX1_9 ob3 ?_
          refine R_aload_n dX1_gather_62 rfl 1 rfl ?_
          refine G1_0 dX1_gather_63 lfX1_63 ob3 ?_
          refine R_aload_n dX1_gather_66 rfl 2 rfl ?_
          refine G3_4 dX1_gather_67 lfX1_78 ob13 ?_
          refine R_iload dX1_gather_70 0 rfl ?_
          obtain ⟨ob15, hf⟩ := hf
          obtain ⟨ob16, hf⟩ := hf
          refine R_iaload dX1_gather_72 ob15 ob16 ?_
          obtain ⟨ob17, hf⟩ := hf
          refine R_iastore dX1_gather_73 ob4 ob17 ?_
          refine R_aload_n dX1_gather_74 rfl 1 rfl ?_
          refine G1_2 dX1_gather_75 lfX1_15 ob3 ?_
          refine R_aload_n dX1_gather_78 rfl 1 rfl ?_
          refine G1_0 dX1_gather_79 lfX1_63 ob3 ?_
          refine R_aload_n dX1_gather_82 rfl 2 rfl ?_
          refine G3_5 dX1_gather_83 lfX1_81 ob13 ?_
          refine R_iload dX1_gather_86 0 rfl ?_
          obtain ⟨ob18, hf⟩ := hf
          obtain ⟨ob19, hf⟩ := hf
          refine R_iaload dX1_gather_88 ob18 ob19 ?_
          obtain ⟨ob20, hf⟩ := hf
          obtain ⟨ob21, hf⟩ := hf
          refine R_iastore dX1_gather_89 ob20 ob21 ?_
          refine R_aload_n dX1_gather_90 rfl 1 rfl ?_
          refine G1_3 dX1_gather_91 lfX1_18 ob3 ?_
          refine R_aload_n dX1_gather_94 rfl 1 rfl ?_
          refine G1_0 dX1_gather_95 lfX1_63 ob3 ?_
          refine R_aload_n dX1_gather_98 rfl 3 rfl ?_
          refine R_iload dX1_gather_99 6 rfl ?_
          refine R_iload dX1_gather_101 5 rfl ?_
          refine R_callV (ci := 7) (N := mX7_acrossKnown) (as := [.int x5, .int x4]) (rest := [.int (gI (sI (sI h (gF h r0 1) (gI h r0 0).toNatClampNeg (gI h (gF h r1 4) (gI h (gF h r2 5) x5.toNatClampNeg).toNatClampNeg)) (gF (sI h (gF h r0 1) (gI h r0 0).toNatClampNeg (gI h (gF h r1 4) (gI h (gF h r2 5) x5.toNatClampNeg).toNatClampNeg)) r0 2) (gI (sI h (gF h r0 1) (gI h r0 0).toNatClampNeg (gI h (gF h r1 4) (gI h (gF h r2 5) x5.toNatClampNeg).toNatClampNeg)) r0 0).toNatClampNeg (gI (sI h (gF h r0 1) (gI h r0 0).toNatClampNeg (gI h (gF h r1 4) (gI h (gF h r2 5) x5.toNatClampNeg).toNatClampNeg)) (gF (sI h (gF h r0 1) (gI h r0 0).toNatClampNeg (gI h (gF h r1 4) (gI h (gF h r2 5) x5.toNatClampNeg).toNatClampNeg)) r1 5) (gI h (gF h r2 5) x5.toNatClampNeg).toNatClampNeg)) r0 0), .ref (gF (sI (sI h (gF h r0 1) (gI h r0 0).toNatClampNeg (gI h (gF h r1 4) (gI h (gF h r2 5) x5.toNatClampNeg).toNatClampNeg)) (gF (sI h (gF h r0 1) (gI h r0 0).toNatClampNeg (gI h (gF h r1 4) (gI h (gF h r2 5) x5.toNatClampNeg).toNatClampNeg)) r0 2) (gI (sI h (gF h r0 1) (gI h r0 0).toNatClampNeg (gI h (gF h r1 4) (gI h (gF h r2 5) x5.toNatClampNeg).toNatClampNeg)) r0 0).toNatClampNeg (gI (sI h (gF h r0 1) (gI h r0 0).toNatClampNeg (gI h (gF h r1 4) (gI h (gF h r2 5) x5.toNatClampNeg).toNatClampNeg)) (gF (sI h (gF h r0 1) (gI h r0 0).toNatClampNeg (gI h (gF h r1 4) (gI h (gF h r2 5) x5.toNatClampNeg).toNatClampNeg)) r1 5) (gI h (gF h r2 5) x5.toNatClampNeg).toNatClampNeg)) r0 3)]) (kc2 := 0) (ks2 := 0) dX1_gather_103 lmX1_84 oX7_acrossKnown (Nat.le_of_ble_eq_true rfl) rfl rfl (Nat.le_of_ble_eq_true rfl) rfl rfl ob1 ok7 (Call.mono hf ?_)
          rintro _ h22 ⟨z23, rfl, hf⟩
          obtain ⟨ob24, hf⟩ := hf
          obtain ⟨ob25, hf⟩ := hf
          refine R_iastore dX1_gather_106 ob24 ob25 ?_
          refine R_aload_n dX1_gather_107 rfl 1 rfl ?_
          obtain ⟨ob26, hf⟩ := hf
          refine G1_4 dX1_gather_108 lfX1_21 ob26 ?_
          refine R_aload_n dX1_gather_111 rfl 1 rfl ?_
          refine G1_0 dX1_gather_112 lfX1_63 ob26 ?_
          refine R_aload_n dX1_gather_115 rfl 3 rfl ?_
          refine R_iload dX1_gather_116 6 rfl ?_
          refine R_iload dX1_gather_118 5 rfl ?_
          obtain ⟨ob27, hf⟩ := hf
          refine R_callV (ci := 7) (N := mX7_upKnown) (as := [.int x5, .int x4]) (rest := [.int (gI (sI h22 (gF (sI (sI h (gF h r0 1) (gI h r0 0).toNatClampNeg (gI h (gF h r1 4) (gI h (gF h r2 5) x5.toNatClampNeg).toNatClampNeg)) (gF (sI h (gF h r0 1) (gI h r0 0).toNatClampNeg (gI h (gF h r1 4) (gI h (gF h r2 5) x5.toNatClampNeg).toNatClampNeg)) r0 2) (gI (sI h (gF h r0 1) (gI h r0 0).toNatClampNeg (gI h (gF h r1 4) (gI h (gF h r2 5) x5.toNatClampNeg).toNatClampNeg)) r0 0).toNatClampNeg (gI (sI h (gF h r0 1) (gI h r0 0).toNatClampNeg (gI h (gF h r1 4) (gI h (gF h r2 5) x5.toNatClampNeg).toNatClampNeg)) (gF (sI h (gF h r0 1) (gI h r0 0).toNatClampNeg (gI h (gF h r1 4) (gI h (gF h r2 5) x5.toNatClampNeg).toNatClampNeg)) r1 5) (gI h (gF h r2 5) x5.toNatClampNeg).toNatClampNeg)) r0 3) (gI (sI (sI h (gF h r0 1) (gI h r0 0).toNatClampNeg (gI h (gF h r1 4) (gI h (gF h r2 5) x5.toNatClampNeg).toNatClampNeg)) (gF (sI h (gF h r0 1) (gI h r0 0).toNatClampNeg (gI h (gF h r1 4) (gI h (gF h r2 5) x5.toNatClampNeg).toNatClampNeg)) r0 2) (gI (sI h (gF h r0 1) (gI h r0 0).toNatClampNeg (gI h (gF h r1 4) (gI h (gF h r2 5) x5.toNatClampNeg).toNatClampNeg)) r0 0).toNatClampNeg (gI (sI h (gF h r0 1) (gI h r0 0).toNatClampNeg (gI h (gF h r1 4) (gI h (gF h r2 5) x5.toNatClampNeg).toNatClampNeg)) (gF (sI h (gF h r0 1) (gI h r0 0).toNatClampNeg (gI h (gF h r1 4) (gI h (gF h r2 5) x5.toNatClampNeg).toNatClampNeg)) r1 5) (gI h (gF h r2 5) x5.toNatClampNeg).toNatClampNeg)) r0 0).toNatClampNeg z23) r0 0), .ref (gF (sI h22 (gF (sI (sI h (gF h r0 1) (gI h r0 0).toNatClampNeg (gI h (gF h r1 4) (gI h (gF h r2 5) x5.toNatClampNeg).toNatClampNeg)) (gF (sI h (gF h r0 1) (gI h r0 0).toNatClampNeg (gI h (gF h r1 4) (gI h (gF h r2 5) x5.toNatClampNeg).toNatClampNeg)) r0 2) (gI (sI h (gF h r0 1) (gI h r0 0).toNatClampNeg (gI h (gF h r1 4) (gI h (gF h r2 5) x5.toNatClampNeg).toNatClampNeg)) r0 0).toNatClampNeg (gI (sI h (gF h r0 1) (gI h r0 0).toNatClampNeg (gI h (gF h r1 4) (gI h (gF h r2 5) x5.toNatClampNeg).toNatClampNeg)) (gF (sI h (gF h r0 1) (gI h r0 0).toNatClampNeg (gI h (gF h r1 4) (gI h (gF h r2 5) x5.toNatClampNeg).toNatClampNeg)) r1 5) (gI h (gF h r2 5) x5.toNatClampNeg).toNatClampNeg)) r0 3) (gI (sI (sI h (gF h r0 1) (gI h r0 0).toNatClampNeg (gI h (gF h r1 4) (gI h (gF h r2 5) x5.toNatClampNeg).toNatClampNeg)) (gF (sI h (gF h r0 1) (gI h r0 0).toNatClampNeg (gI h (gF h r1 4) (gI h (gF h r2 5) x5.toNatClampNeg).toNatClampNeg)) r0 2) (gI (sI h (gF h r0 1) (gI h r0 0).toNatClampNeg (gI h (gF h r1 4) (gI h (gF h r2 5) x5.toNatClampNeg).toNatClampNeg)) r0 0).toNatClampNeg (gI (sI h (gF h r0 1) (gI h r0 0).toNatClampNeg (gI h (gF h r1 4) (gI h (gF h r2 5) x5.toNatClampNeg).toNatClampNeg)) (gF (sI h (gF h r0 1) (gI h r0 0).toNatClampNeg (gI h (gF h r1 4) (gI h (gF h r2 5) x5.toNatClampNeg).toNatClampNeg)) r1 5) (gI h (gF h r2 5) x5.toNatClampNeg).toNatClampNeg)) r0 0).toNatClampNeg z23) r0 4)]) (kc2 := 0) (ks2 := 0) dX1_gather_120 lmX1_88 oX7_upKnown (Nat.le_of_ble_eq_true rfl) rfl rfl (Nat.le_of_ble_eq_true rfl) rfl rfl ob27 ok7 (Call.mono hf ?_)
          rintro _ h28 ⟨z29, rfl, hf⟩
          obtain ⟨ob30, hf⟩ := hf
          obtain ⟨ob31, hf⟩ := hf
          refine R_iastore dX1_gather_123 ob30 ob31 ?_
          refine R_aload_n dX1_gather_124 rfl 1 rfl ?_
          refine R_dup dX1_gather_125 rfl ?_
          obtain ⟨ob32, hf⟩ := hf
          refine G1_0 dX1_gather_126 lfX1_63 ob32 ?_
          refine R_iconst (v := 1) dX1_gather_129 (by decide) ?_
          refine R_iadd dX1_gather_130 ?_
          refine S1_0 dX1_gather_131 lfX1_63 ob32 ?_
          refine R_iinc (v := x5 + 1) dX1_gather_134 6 rfl rfl (by decide) rfl ?_
          refine R_goto (tgt := 8) dX1_gather_137 (by decide) ?_
          exact R_sub [2, 3, 4, 5, 6, 0] rfl hf
theorem dX1_takeIn_0 : decode cX1_takeIn 0 = .ok (.aload_n 0, 1) := by decide +kernel
theorem dX1_takeIn_1 : decode cX1_takeIn 1 = .ok (.iconst 0, 1) := by decide +kernel
theorem dX1_takeIn_2 : decode cX1_takeIn 2 = .ok (.aload_n 0, 1) := by decide +kernel
theorem dX1_takeIn_3 : decode cX1_takeIn 3 = .ok (.getfield 47, 3) := by decide +kernel
theorem dX1_takeIn_6 : decode cX1_takeIn 6 = .ok (.aload_n 0, 1) := by decide +kernel
theorem dX1_takeIn_7 : decode cX1_takeIn 7 = .ok (.getfield 50, 3) := by decide +kernel
theorem dX1_takeIn_10 : decode cX1_takeIn 10 = .ok (.invokevirtual 108, 3) := by decide +kernel
theorem dX1_takeIn_13 : decode cX1_takeIn 13 = .ok (.aload_n 0, 1) := by decide +kernel
theorem dX1_takeIn_14 : decode cX1_takeIn 14 = .ok (.iconst 1, 1) := by decide +kernel
theorem dX1_takeIn_15 : decode cX1_takeIn 15 = .ok (.aload_n 0, 1) := by decide +kernel
theorem dX1_takeIn_16 : decode cX1_takeIn 16 = .ok (.getfield 53, 3) := by decide +kernel
theorem dX1_takeIn_19 : decode cX1_takeIn 19 = .ok (.aload_n 0, 1) := by decide +kernel
theorem dX1_takeIn_20 : decode cX1_takeIn 20 = .ok (.getfield 56, 3) := by decide +kernel
theorem dX1_takeIn_23 : decode cX1_takeIn 23 = .ok (.invokevirtual 108, 3) := by decide +kernel
theorem dX1_takeIn_26 : decode cX1_takeIn 26 = .ok (.aload_n 0, 1) := by decide +kernel
theorem dX1_takeIn_27 : decode cX1_takeIn 27 = .ok (.iconst 2, 1) := by decide +kernel
theorem dX1_takeIn_28 : decode cX1_takeIn 28 = .ok (.iload_n 1, 1) := by decide +kernel
theorem dX1_takeIn_29 : decode cX1_takeIn 29 = .ok (.iload_n 1, 1) := by decide +kernel
theorem dX1_takeIn_30 : decode cX1_takeIn 30 = .ok (.invokevirtual 108, 3) := by decide +kernel
theorem dX1_takeIn_33 : decode cX1_takeIn 33 = .ok (.aload_n 0, 1) := by decide +kernel
theorem dX1_takeIn_34 : decode cX1_takeIn 34 = .ok (.iconst 3, 1) := by decide +kernel
theorem dX1_takeIn_35 : decode cX1_takeIn 35 = .ok (.iload_n 2, 1) := by decide +kernel
theorem dX1_takeIn_36 : decode cX1_takeIn 36 = .ok (.iload_n 2, 1) := by decide +kernel
theorem dX1_takeIn_37 : decode cX1_takeIn 37 = .ok (.invokevirtual 108, 3) := by decide +kernel
theorem dX1_takeIn_40 : decode cX1_takeIn 40 = .ok (.aload_n 0, 1) := by decide +kernel
theorem dX1_takeIn_41 : decode cX1_takeIn 41 = .ok (.dup, 1) := by decide +kernel
theorem dX1_takeIn_42 : decode cX1_takeIn 42 = .ok (.getfield 34, 3) := by decide +kernel
theorem dX1_takeIn_45 : decode cX1_takeIn 45 = .ok (.aload_n 0, 1) := by decide +kernel
theorem dX1_takeIn_46 : decode cX1_takeIn 46 = .ok (.getfield 50, 3) := by decide +kernel
theorem dX1_takeIn_49 : decode cX1_takeIn 49 = .ok (.aload_n 0, 1) := by decide +kernel
theorem dX1_takeIn_50 : decode cX1_takeIn 50 = .ok (.getfield 47, 3) := by decide +kernel
theorem dX1_takeIn_53 : decode cX1_takeIn 53 = .ok (.isub, 1) := by decide +kernel
theorem dX1_takeIn_54 : decode cX1_takeIn 54 = .ok (.iconst 1, 1) := by decide +kernel
theorem dX1_takeIn_55 : decode cX1_takeIn 55 = .ok (.iadd, 1) := by decide +kernel
theorem dX1_takeIn_56 : decode cX1_takeIn 56 = .ok (.aload_n 0, 1) := by decide +kernel
theorem dX1_takeIn_57 : decode cX1_takeIn 57 = .ok (.getfield 56, 3) := by decide +kernel
theorem dX1_takeIn_60 : decode cX1_takeIn 60 = .ok (.aload_n 0, 1) := by decide +kernel
theorem dX1_takeIn_61 : decode cX1_takeIn 61 = .ok (.getfield 53, 3) := by decide +kernel
theorem dX1_takeIn_64 : decode cX1_takeIn 64 = .ok (.isub, 1) := by decide +kernel
theorem dX1_takeIn_65 : decode cX1_takeIn 65 = .ok (.iconst 1, 1) := by decide +kernel
theorem dX1_takeIn_66 : decode cX1_takeIn 66 = .ok (.iadd, 1) := by decide +kernel
theorem dX1_takeIn_67 : decode cX1_takeIn 67 = .ok (.imul, 1) := by decide +kernel
theorem dX1_takeIn_68 : decode cX1_takeIn 68 = .ok (.iadd, 1) := by decide +kernel
theorem dX1_takeIn_69 : decode cX1_takeIn 69 = .ok (.putfield 34, 3) := by decide +kernel
theorem dX1_takeIn_72 : decode cX1_takeIn 72 = .ok (.return_, 1) := by decide +kernel
set_option maxRecDepth 20000 in
theorem sX1_takeIn_0 {P : Option Value → AH → Prop} (h : AH) (r0 : Nat) (x1 : Int32) (x2 : Int32) (hf : (isO h 1 r0) ∧ (Call mX1_widen [.ref r0, .int 0, .int (gI h r0 5), .int (gI h r0 6)] h (fun v h2 => v = none ∧ ((isO h2 1 r0) ∧ (Call mX1_widen [.ref r0, .int 1, .int (gI h2 r0 7), .int (gI h2 r0 8)] h2 (fun v h4 => v = none ∧ ((isO h4 1 r0) ∧ (Call mX1_widen [.ref r0, .int 2, .int x1, .int x1] h4 (fun v h6 => v = none ∧ ((isO h6 1 r0) ∧ (Call mX1_widen [.ref r0, .int 3, .int x2, .int x2] h6 (fun v h8 => v = none ∧ ((isO h8 1 r0) ∧ (P none (sI h8 r0 9 ((gI h8 r0 9) + ((((gI h8 r0 6) - (gI h8 r0 5)) + 1) * (((gI h8 r0 8) - (gI h8 r0 7)) + 1)))))))))))))))))) : Rr mX1_takeIn 0 0 0 [(0, .ref r0), (1, .int x1), (2, .int x2)] [] h P := by
  refine R_aload_n dX1_takeIn_0 rfl 0 rfl ?_
  refine R_iconst (v := 0) dX1_takeIn_1 (by decide) ?_
  refine R_aload_n dX1_takeIn_2 rfl 0 rfl ?_
  obtain ⟨ob1, hf⟩ := hf
  refine G1_5 dX1_takeIn_3 lfX1_47 ob1 ?_
  refine R_aload_n dX1_takeIn_6 rfl 0 rfl ?_
  refine G1_6 dX1_takeIn_7 lfX1_50 ob1 ?_
  refine R_callV (ci := 1) (N := mX1_widen) (as := [.int 0, .int (gI h r0 5), .int (gI h r0 6)]) (rest := []) (kc2 := 0) (ks2 := 0) dX1_takeIn_10 lmX1_108 oX1_widen (Nat.le_of_ble_eq_true rfl) rfl rfl (Nat.le_of_ble_eq_true rfl) rfl rfl ob1 ok1 (Call.mono hf ?_)
  rintro _ h2 ⟨rfl, hf⟩
  refine R_aload_n dX1_takeIn_13 rfl 0 rfl ?_
  refine R_iconst (v := 1) dX1_takeIn_14 (by decide) ?_
  refine R_aload_n dX1_takeIn_15 rfl 0 rfl ?_
  obtain ⟨ob3, hf⟩ := hf
  refine G1_7 dX1_takeIn_16 lfX1_53 ob3 ?_
  refine R_aload_n dX1_takeIn_19 rfl 0 rfl ?_
  refine G1_8 dX1_takeIn_20 lfX1_56 ob3 ?_
  refine R_callV (ci := 1) (N := mX1_widen) (as := [.int 1, .int (gI h2 r0 7), .int (gI h2 r0 8)]) (rest := []) (kc2 := 0) (ks2 := 0) dX1_takeIn_23 lmX1_108 oX1_widen (Nat.le_of_ble_eq_true rfl) rfl rfl (Nat.le_of_ble_eq_true rfl) rfl rfl ob3 ok1 (Call.mono hf ?_)
  rintro _ h4 ⟨rfl, hf⟩
  refine R_aload_n dX1_takeIn_26 rfl 0 rfl ?_
  refine R_iconst (v := 2) dX1_takeIn_27 (by decide) ?_
  refine R_iload_n dX1_takeIn_28 rfl 1 rfl ?_
  refine R_iload_n dX1_takeIn_29 rfl 1 rfl ?_
  obtain ⟨ob5, hf⟩ := hf
  refine R_callV (ci := 1) (N := mX1_widen) (as := [.int 2, .int x1, .int x1]) (rest := []) (kc2 := 0) (ks2 := 0) dX1_takeIn_30 lmX1_108 oX1_widen (Nat.le_of_ble_eq_true rfl) rfl rfl (Nat.le_of_ble_eq_true rfl) rfl rfl ob5 ok1 (Call.mono hf ?_)
  rintro _ h6 ⟨rfl, hf⟩
  refine R_aload_n dX1_takeIn_33 rfl 0 rfl ?_
  refine R_iconst (v := 3) dX1_takeIn_34 (by decide) ?_
  refine R_iload_n dX1_takeIn_35 rfl 2 rfl ?_
  refine R_iload_n dX1_takeIn_36 rfl 2 rfl ?_
  obtain ⟨ob7, hf⟩ := hf
  refine R_callV (ci := 1) (N := mX1_widen) (as := [.int 3, .int x2, .int x2]) (rest := []) (kc2 := 0) (ks2 := 0) dX1_takeIn_37 lmX1_108 oX1_widen (Nat.le_of_ble_eq_true rfl) rfl rfl (Nat.le_of_ble_eq_true rfl) rfl rfl ob7 ok1 (Call.mono hf ?_)
  rintro _ h8 ⟨rfl, hf⟩
  refine R_aload_n dX1_takeIn_40 rfl 0 rfl ?_
  refine R_dup dX1_takeIn_41 rfl ?_
  obtain ⟨ob9, hf⟩ := hf
  refine G1_9 dX1_takeIn_42 lfX1_34 ob9 ?_
  refine R_aload_n dX1_takeIn_45 rfl 0 rfl ?_
  refine G1_6 dX1_takeIn_46 lfX1_50 ob9 ?_
  refine R_aload_n dX1_takeIn_49 rfl 0 rfl ?_
  refine G1_5 dX1_takeIn_50 lfX1_47 ob9 ?_
  refine R_isub dX1_takeIn_53 ?_
  refine R_iconst (v := 1) dX1_takeIn_54 (by decide) ?_
  refine R_iadd dX1_takeIn_55 ?_
  refine R_aload_n dX1_takeIn_56 rfl 0 rfl ?_
  refine G1_8 dX1_takeIn_57 lfX1_56 ob9 ?_
  refine R_aload_n dX1_takeIn_60 rfl 0 rfl ?_
  refine G1_7 dX1_takeIn_61 lfX1_53 ob9 ?_
  refine R_isub dX1_takeIn_64 ?_
  refine R_iconst (v := 1) dX1_takeIn_65 (by decide) ?_
  refine R_iadd dX1_takeIn_66 ?_
  refine R_imul dX1_takeIn_67 ?_
  refine R_iadd dX1_takeIn_68 ?_
  refine S1_9 dX1_takeIn_69 lfX1_34 ob9 ?_
  exact R_ret dX1_takeIn_72 rfl hf
theorem dX2_weigh_0 : decode cX2_weigh 0 = .ok (.lconst 1, 1) := by decide +kernel
theorem dX2_weigh_1 : decode cX2_weigh 1 = .ok (.lstore 7, 2) := by decide +kernel
theorem dX2_weigh_3 : decode cX2_weigh 3 = .ok (.aload_n 0, 1) := by decide +kernel
theorem dX2_weigh_4 : decode cX2_weigh 4 = .ok (.getfield 9, 3) := by decide +kernel
theorem dX2_weigh_7 : decode cX2_weigh 7 = .ok (.lconst 0, 1) := by decide +kernel
theorem dX2_weigh_8 : decode cX2_weigh 8 = .ok (.invokestatic 23, 3) := by decide +kernel
theorem dX2_weigh_11 : decode cX2_weigh 11 = .ok (.iconst 1, 1) := by decide +kernel
theorem dX2_weigh_12 : decode cX2_weigh 12 = .ok (.istore 9, 2) := by decide +kernel
theorem dX2_weigh_14 : decode cX2_weigh 14 = .ok (.iload 9, 2) := by decide +kernel
theorem dX2_weigh_16 : decode cX2_weigh 16 = .ok (.iload_n 1, 1) := by decide +kernel
theorem dX2_weigh_17 : decode cX2_weigh 17 = .ok (.if_icmp .gt 120, 3) := by decide +kernel
theorem dX2_weigh_20 : decode cX2_weigh 20 = .ok (.lload 7, 2) := by decide +kernel
theorem dX2_weigh_22 : decode cX2_weigh 22 = .ok (.ldc2_w 29, 3) := by decide +kernel
theorem dX2_weigh_25 : decode cX2_weigh 25 = .ok (.lmul, 1) := by decide +kernel
theorem dX2_weigh_26 : decode cX2_weigh 26 = .ok (.lstore 7, 2) := by decide +kernel
theorem dX2_weigh_28 : decode cX2_weigh 28 = .ok (.aload_n 0, 1) := by decide +kernel
theorem dX2_weigh_29 : decode cX2_weigh 29 = .ok (.iload 4, 2) := by decide +kernel
theorem dX2_weigh_31 : decode cX2_weigh 31 = .ok (.i2l, 1) := by decide +kernel
theorem dX2_weigh_32 : decode cX2_weigh 32 = .ok (.lload 7, 2) := by decide +kernel
theorem dX2_weigh_34 : decode cX2_weigh 34 = .ok (.lmul, 1) := by decide +kernel
theorem dX2_weigh_35 : decode cX2_weigh 35 = .ok (.aload_n 0, 1) := by decide +kernel
theorem dX2_weigh_36 : decode cX2_weigh 36 = .ok (.iconst 0, 1) := by decide +kernel
theorem dX2_weigh_37 : decode cX2_weigh 37 = .ok (.iload 5, 2) := by decide +kernel
theorem dX2_weigh_39 : decode cX2_weigh 39 = .ok (.iload 6, 2) := by decide +kernel
theorem dX2_weigh_41 : decode cX2_weigh 41 = .ok (.invokevirtual 31, 3) := by decide +kernel
theorem dX2_weigh_44 : decode cX2_weigh 44 = .ok (.ladd, 1) := by decide +kernel
theorem dX2_weigh_45 : decode cX2_weigh 45 = .ok (.putfield 35, 3) := by decide +kernel
theorem dX2_weigh_48 : decode cX2_weigh 48 = .ok (.iconst 0, 1) := by decide +kernel
theorem dX2_weigh_49 : decode cX2_weigh 49 = .ok (.istore 10, 2) := by decide +kernel
theorem dX2_weigh_51 : decode cX2_weigh 51 = .ok (.iload 10, 2) := by decide +kernel
theorem dX2_weigh_53 : decode cX2_weigh 53 = .ok (.bipush 6, 2) := by decide +kernel
theorem dX2_weigh_55 : decode cX2_weigh 55 = .ok (.if_icmp .gt 58, 3) := by decide +kernel
theorem dX2_weigh_58 : decode cX2_weigh 58 = .ok (.iload_n 3, 1) := by decide +kernel
theorem dX2_weigh_59 : decode cX2_weigh 59 = .ok (.iload 10, 2) := by decide +kernel
theorem dX2_weigh_61 : decode cX2_weigh 61 = .ok (.imul, 1) := by decide +kernel
theorem dX2_weigh_62 : decode cX2_weigh 62 = .ok (.i2l, 1) := by decide +kernel
theorem dX2_weigh_63 : decode cX2_weigh 63 = .ok (.lload 7, 2) := by decide +kernel
theorem dX2_weigh_65 : decode cX2_weigh 65 = .ok (.lmul, 1) := by decide +kernel
theorem dX2_weigh_66 : decode cX2_weigh 66 = .ok (.aload_n 0, 1) := by decide +kernel
theorem dX2_weigh_67 : decode cX2_weigh 67 = .ok (.iload 10, 2) := by decide +kernel
theorem dX2_weigh_69 : decode cX2_weigh 69 = .ok (.iload 5, 2) := by decide +kernel
theorem dX2_weigh_71 : decode cX2_weigh 71 = .ok (.iload 6, 2) := by decide +kernel
theorem dX2_weigh_73 : decode cX2_weigh 73 = .ok (.invokevirtual 31, 3) := by decide +kernel
theorem dX2_weigh_76 : decode cX2_weigh 76 = .ok (.ladd, 1) := by decide +kernel
theorem dX2_weigh_77 : decode cX2_weigh 77 = .ok (.lstore 11, 2) := by decide +kernel
theorem dX2_weigh_79 : decode cX2_weigh 79 = .ok (.aload_n 0, 1) := by decide +kernel
theorem dX2_weigh_80 : decode cX2_weigh 80 = .ok (.getfield 13, 3) := by decide +kernel
theorem dX2_weigh_83 : decode cX2_weigh 83 = .ok (.iload 10, 2) := by decide +kernel
theorem dX2_weigh_85 : decode cX2_weigh 85 = .ok (.lload 11, 2) := by decide +kernel
theorem dX2_weigh_87 : decode cX2_weigh 87 = .ok (.aload_n 0, 1) := by decide +kernel
theorem dX2_weigh_88 : decode cX2_weigh 88 = .ok (.getfield 35, 3) := by decide +kernel
theorem dX2_weigh_91 : decode cX2_weigh 91 = .ok (.invokestatic 39, 3) := by decide +kernel
theorem dX2_weigh_94 : decode cX2_weigh 94 = .ok (.lastore, 1) := by decide +kernel
theorem dX2_weigh_95 : decode cX2_weigh 95 = .ok (.iload 10, 2) := by decide +kernel
theorem dX2_weigh_97 : decode cX2_weigh 97 = .ok (.iload_n 2, 1) := by decide +kernel
theorem dX2_weigh_98 : decode cX2_weigh 98 = .ok (.if_icmp .ne 9, 3) := by decide +kernel
theorem dX2_weigh_101 : decode cX2_weigh 101 = .ok (.aload_n 0, 1) := by decide +kernel
theorem dX2_weigh_102 : decode cX2_weigh 102 = .ok (.lload 11, 2) := by decide +kernel
theorem dX2_weigh_104 : decode cX2_weigh 104 = .ok (.putfield 45, 3) := by decide +kernel
theorem dX2_weigh_107 : decode cX2_weigh 107 = .ok (.iinc 10 1, 3) := by decide +kernel
theorem dX2_weigh_110 : decode cX2_weigh 110 = .ok (.goto (-59), 3) := by decide +kernel
theorem dX2_weigh_113 : decode cX2_weigh 113 = .ok (.aload_n 0, 1) := by decide +kernel
theorem dX2_weigh_114 : decode cX2_weigh 114 = .ok (.getfield 13, 3) := by decide +kernel
theorem dX2_weigh_117 : decode cX2_weigh 117 = .ok (.iconst 0, 1) := by decide +kernel
theorem dX2_weigh_118 : decode cX2_weigh 118 = .ok (.aload_n 0, 1) := by decide +kernel
theorem dX2_weigh_119 : decode cX2_weigh 119 = .ok (.getfield 9, 3) := by decide +kernel
theorem dX2_weigh_122 : decode cX2_weigh 122 = .ok (.iconst 0, 1) := by decide +kernel
theorem dX2_weigh_123 : decode cX2_weigh 123 = .ok (.aload_n 0, 1) := by decide +kernel
theorem dX2_weigh_124 : decode cX2_weigh 124 = .ok (.getfield 13, 3) := by decide +kernel
theorem dX2_weigh_127 : decode cX2_weigh 127 = .ok (.arraylength, 1) := by decide +kernel
theorem dX2_weigh_128 : decode cX2_weigh 128 = .ok (.invokestatic 48, 3) := by decide +kernel
theorem dX2_weigh_131 : decode cX2_weigh 131 = .ok (.iinc 9 1, 3) := by decide +kernel
theorem dX2_weigh_134 : decode cX2_weigh 134 = .ok (.goto (-120), 3) := by decide +kernel
theorem dX2_weigh_137 : decode cX2_weigh 137 = .ok (.return_, 1) := by decide +kernel
set_option maxRecDepth 20000 in
theorem sX2_weigh_0 {P : Option Value → AH → Prop} (h : AH) (r0 : Nat) (x1 : Int32) (x2 : Int32) (x3 : Int32) (x4 : Int32) (x5 : Int32) (x6 : Int32) (hf : (isO h 2 r0) ∧ (Call mJ7_fill_d0a16 [.ref (gF h r0 0), .long 0] h (fun v h2 => v = none ∧ (Rr mX2_weigh 0 0 14 [(0, .ref r0), (1, .int x1), (2, .int x2), (3, .int x3), (4, .int x4), (5, .int x5), (6, .int x6), (7, .long 1), (9, .int 1)] [] h2 P)))) : Rr mX2_weigh 0 0 0 [(0, .ref r0), (1, .int x1), (2, .int x2), (3, .int x3), (4, .int x4), (5, .int x5), (6, .int x6)] [] h P := by
  refine R_lconst (v := 1) dX2_weigh_0 (by decide) ?_
  refine R_lstore dX2_weigh_1 (by decide) rfl ?_
  refine R_aload_n dX2_weigh_3 rfl 1 rfl ?_
  obtain ⟨ob1, hf⟩ := hf
  refine G2_0 dX2_weigh_4 lfX2_9 ob1 ?_
  refine R_lconst (v := 0) dX2_weigh_7 (by decide) ?_
  refine R_callS (N := mJ7_fill_d0a16) (as := [.ref (gF h r0 0), .long 0]) (rest := []) (kc2 := 0) (ks2 := 0) dX2_weigh_8 lmX2_23 oJ7_fill_d0a16 (Nat.le_of_ble_eq_true rfl) rfl rfl (Nat.le_of_ble_eq_true rfl) rfl rfl (Call.mono hf ?_)
  rintro _ h2 ⟨rfl, hf⟩
  refine R_iconst (v := 1) dX2_weigh_11 (by decide) ?_
  refine R_istore dX2_weigh_12 (by decide) rfl ?_
  exact R_sub [2, 3, 4, 5, 6, 7, 8, 1, 0] rfl hf
set_option maxRecDepth 20000 in
theorem sX2_weigh_14 {P : Option Value → AH → Prop} (h : AH) (r0 : Nat) (x1 : Int32) (x2 : Int32) (x3 : Int32) (x4 : Int32) (x5 : Int32) (x6 : Int32) (y7 : Int64) (x9 : Int32) (hf : (x1 < x9 → P none h) ∧ (¬ x1 < x9 → (isO h 2 r0) ∧ (Call mX2_costBehind [.ref r0, .int 0, .int x5, .int x6] h (fun v h3 => ∃ w4 : Int64, v = some (.long w4) ∧ ((isO h3 2 r0) ∧ (Rr mX2_weigh 0 0 51 [(0, .ref r0), (1, .int x1), (2, .int x2), (3, .int x3), (4, .int x4), (5, .int x5), (6, .int x6), (7, .long (y7 * 10)), (9, .int x9), (10, .int 0)] [] (sL h3 r0 3 ((x4.toInt64 * (y7 * 10)) + w4)) P)))))) : Rr mX2_weigh 0 0 14 [(0, .ref r0), (1, .int x1), (2, .int x2), (3, .int x3), (4, .int x4), (5, .int x5), (6, .int x6), (7, .long y7), (9, .int x9)] [] h P := by
  refine R_iload dX2_weigh_14 8 rfl ?_
  refine R_iload_n dX2_weigh_16 rfl 1 rfl ?_
  refine R_icmp_gt (tgt := 137) dX2_weigh_17 (by decide) (fun b1 => ?_) (fun b1 => ?_)
  · have hf := hf.1 b1
    exact R_ret dX2_weigh_137 rfl hf
  · have hf := hf.2 b1
    refine R_lload dX2_weigh_20 7 rfl ?_
    refine R_ldc2 (v := 10) dX2_weigh_22 lcX2_29 ?_
    refine R_lmul dX2_weigh_25 ?_
    refine R_lstore dX2_weigh_26 (by decide) rfl ?_
    refine R_aload_n dX2_weigh_28 rfl 1 rfl ?_
    refine R_iload dX2_weigh_29 5 rfl ?_
    refine R_i2l dX2_weigh_31 ?_
    refine R_lload dX2_weigh_32 0 rfl ?_
    refine R_lmul dX2_weigh_34 ?_
    refine R_aload_n dX2_weigh_35 rfl 1 rfl ?_
    refine R_iconst (v := 0) dX2_weigh_36 (by decide) ?_
    refine R_iload dX2_weigh_37 6 rfl ?_
    refine R_iload dX2_weigh_39 7 rfl ?_
    obtain ⟨ob2, hf⟩ := hf
    refine R_callV (ci := 2) (N := mX2_costBehind) (as := [.int 0, .int x5, .int x6]) (rest := [.long (x4.toInt64 * (y7 * 10)), .ref r0]) (kc2 := 0) (ks2 := 0) dX2_weigh_41 lmX2_31 oX2_costBehind (Nat.le_of_ble_eq_true rfl) rfl rfl (Nat.le_of_ble_eq_true rfl) rfl rfl ob2 ok2 (Call.mono hf ?_)
    rintro _ h3 ⟨w4, rfl, hf⟩
    refine R_ladd dX2_weigh_44 ?_
    obtain ⟨ob5, hf⟩ := hf
    refine S2_3 dX2_weigh_45 lfX2_35 ob5 ?_
    refine R_iconst (v := 0) dX2_weigh_48 (by decide) ?_
    refine R_istore dX2_weigh_49 (by decide) rfl ?_
    exact R_sub [2, 3, 4, 5, 6, 7, 8, 1, 9, 0] rfl hf
set_option maxRecDepth 20000 in
theorem sX2_weigh_51 {P : Option Value → AH → Prop} (h : AH) (r0 : Nat) (x1 : Int32) (x2 : Int32) (x3 : Int32) (x4 : Int32) (x5 : Int32) (x6 : Int32) (y7 : Int64) (x9 : Int32) (x10 : Int32) (hf : (6 < x10 → (isO h 2 r0) ∧ ((isA h 0 (gF h r0 1)) ∧ ((isA h 1 (gF h r0 1)) ∧ ((isA h 1 (gF h r0 0)) ∧ ((¬ (Int32.ofNat (ln (gF h r0 1))) < 0) ∧ (((Int32.toNatClampNeg 0) + (Int32.ofNat (ln (gF h r0 1))).toNatClampNeg ≤ ln (gF h r0 1)) ∧ (((Int32.toNatClampNeg 0) + (Int32.ofNat (ln (gF h r0 1))).toNatClampNeg ≤ ln (gF h r0 0)) ∧ (Rr mX2_weigh 0 0 14 [(0, .ref r0), (1, .int x1), (2, .int x2), (3, .int x3), (4, .int x4), (5, .int x5), (6, .int x6), (7, .long y7), (9, .int (x9 + 1))] [] (rL h (gF h r0 0) (va_cpy (gL h (gF h r0 1)) (gL h (gF h r0 0)) (Int32.toNatClampNeg 0) (Int32.toNatClampNeg 0) (Int32.ofNat (ln (gF h r0 1))).toNatClampNeg)) P)))))))) ∧ (¬ 6 < x10 → (isO h 2 r0) ∧ (Call mX2_costBehind [.ref r0, .int x10, .int x5, .int x6] h (fun v h10 => ∃ w11 : Int64, v = some (.long w11) ∧ ((isO h10 2 r0) ∧ ((isA h10 1 (gF h10 r0 1)) ∧ ((vp_in x10 (ln (gF h10 r0 1))) ∧ ((¬ x10 = x2 → Rr mX2_weigh 0 0 51 [(0, .ref r0), (1, .int x1), (2, .int x2), (3, .int x3), (4, .int x4), (5, .int x5), (6, .int x6), (7, .long y7), (9, .int x9), (10, .int (x10 + 1))] [] (sL h10 (gF h10 r0 1) x10.toNatClampNeg (lmin (((x3 * x10).toInt64 * y7) + w11) (gL h10 r0 3))) P) ∧ (x10 = x2 → Rr mX2_weigh 0 0 51 [(0, .ref r0), (1, .int x1), (2, .int x2), (3, .int x3), (4, .int x4), (5, .int x5), (6, .int x6), (7, .long y7), (9, .int x9), (10, .int (x10 + 1))] [] (sL (sL h10 (gF h10 r0 1) x10.toNatClampNeg (lmin (((x3 * x10).toInt64 * y7) + w11) (gL h10 r0 3))) r0 2 (((x3 * x10).toInt64 * y7) + w11)) P))))))))) : Rr mX2_weigh 0 0 51 [(0, .ref r0), (1, .int x1), (2, .int x2), (3, .int x3), (4, .int x4), (5, .int x5), (6, .int x6), (7, .long y7), (9, .int x9), (10, .int x10)] [] h P := by
  refine R_iload dX2_weigh_51 9 rfl ?_
  refine R_bipush (v := 6) dX2_weigh_53 (by decide) ?_
  refine R_icmp_gt (tgt := 113) dX2_weigh_55 (by decide) (fun b1 => ?_) (fun b1 => ?_)
  · have hf := hf.1 b1
    refine R_aload_n dX2_weigh_113 rfl 0 rfl ?_
    obtain ⟨ob2, hf⟩ := hf
    refine G2_1 dX2_weigh_114 lfX2_13 ob2 ?_
    refine R_iconst (v := 0) dX2_weigh_117 (by decide) ?_
    refine R_aload_n dX2_weigh_118 rfl 0 rfl ?_
    refine G2_0 dX2_weigh_119 lfX2_9 ob2 ?_
    refine R_iconst (v := 0) dX2_weigh_122 (by decide) ?_
    refine R_aload_n dX2_weigh_123 rfl 0 rfl ?_
    refine G2_1 dX2_weigh_124 lfX2_13 ob2 ?_
    obtain ⟨ob3, hf⟩ := hf
    refine R_alen (v := Int32.ofNat (ln (gF h r0 1))) (by decide) dX2_weigh_127 ob3 rfl ?_
    obtain ⟨ob4, hf⟩ := hf
    obtain ⟨ob5, hf⟩ := hf
    obtain ⟨ob6, hf⟩ := hf
    obtain ⟨ob7, hf⟩ := hf
    obtain ⟨ob8, hf⟩ := hf
    refine R_copyL dX2_weigh_128 lmX2_48 w_ac1 w_ac2 w_ac3 (by decide) rfl ob4 ob5 (by decide) (by decide) ob6 ob7 ob8 ?_
    refine R_iinc (v := x9 + 1) dX2_weigh_131 8 rfl rfl (by decide) rfl ?_
    refine R_goto (tgt := 14) dX2_weigh_134 (by decide) ?_
    exact R_sub [1, 2, 3, 4, 5, 6, 7, 8, 0] rfl hf
  · have hf := hf.2 b1
    refine R_iload_n dX2_weigh_58 rfl 3 rfl ?_
    refine R_iload dX2_weigh_59 9 rfl ?_
    refine R_imul dX2_weigh_61 ?_
    refine R_i2l dX2_weigh_62 ?_
    refine R_lload dX2_weigh_63 7 rfl ?_
    refine R_lmul dX2_weigh_65 ?_
    refine R_aload_n dX2_weigh_66 rfl 0 rfl ?_
    refine R_iload dX2_weigh_67 9 rfl ?_
    refine R_iload dX2_weigh_69 5 rfl ?_
    refine R_iload dX2_weigh_71 6 rfl ?_
    obtain ⟨ob9, hf⟩ := hf
    refine R_callV (ci := 2) (N := mX2_costBehind) (as := [.int x10, .int x5, .int x6]) (rest := [.long ((x3 * x10).toInt64 * y7)]) (kc2 := 0) (ks2 := 0) dX2_weigh_73 lmX2_31 oX2_costBehind (Nat.le_of_ble_eq_true rfl) rfl rfl (Nat.le_of_ble_eq_true rfl) rfl rfl ob9 ok2 (Call.mono hf ?_)
    rintro _ h10 ⟨w11, rfl, hf⟩
    refine R_ladd dX2_weigh_76 ?_
    refine R_lstore dX2_weigh_77 (by decide) rfl ?_
    refine R_aload_n dX2_weigh_79 rfl 1 rfl ?_
    obtain ⟨ob12, hf⟩ := hf
    refine G2_1 dX2_weigh_80 lfX2_13 ob12 ?_
    refine R_iload dX2_weigh_83 10 rfl ?_
    refine R_lload dX2_weigh_85 0 rfl ?_
    refine R_aload_n dX2_weigh_87 rfl 1 rfl ?_
    refine G2_3 dX2_weigh_88 lfX2_35 ob12 ?_
    refine R_mminL dX2_weigh_91 lmX2_39 (by decide) (Nat.le_of_ble_eq_true rfl) ?_
    obtain ⟨ob13, hf⟩ := hf
    obtain ⟨ob14, hf⟩ := hf
    refine R_lastore dX2_weigh_94 ob13 ob14 ?_
    refine R_iload dX2_weigh_95 10 rfl ?_
    refine R_iload_n dX2_weigh_97 rfl 3 rfl ?_
    refine R_icmp_ne (tgt := 107) dX2_weigh_98 (by decide) (fun b15 => ?_) (fun b15 => ?_)
    · have hf := hf.1 b15
      refine R_iinc (v := x10 + 1) dX2_weigh_107 10 rfl rfl (by decide) rfl ?_
      refine R_goto (tgt := 51) dX2_weigh_110 (by decide) ?_
      exact R_sub [2, 3, 4, 5, 6, 7, 8, 9, 10, 0] rfl hf
    · have hf := hf.2 b15
      refine R_aload_n dX2_weigh_101 rfl 1 rfl ?_
      refine R_lload dX2_weigh_102 0 rfl ?_
      refine S2_2 dX2_weigh_104 lfX2_45 ob12 ?_
      refine R_iinc (v := x10 + 1) dX2_weigh_107 10 rfl rfl (by decide) rfl ?_
      refine R_goto (tgt := 51) dX2_weigh_110 (by decide) ?_
      exact R_sub [2, 3, 4, 5, 6, 7, 8, 9, 10, 0] rfl hf
