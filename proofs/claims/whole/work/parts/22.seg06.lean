theorem dX12_setting_0 : decode cX12_setting 0 = .ok (.iload_n 1, 1) := by decide +kernel
theorem dX12_setting_1 : decode cX12_setting 1 = .ok (.iconst 0, 1) := by decide +kernel
theorem dX12_setting_2 : decode cX12_setting 2 = .ok (.iconst 4, 1) := by decide +kernel
theorem dX12_setting_3 : decode cX12_setting 3 = .ok (.invokestatic 178, 3) := by decide +kernel
theorem dX12_setting_6 : decode cX12_setting 6 = .ok (.ifCond .ne 6, 3) := by decide +kernel
theorem dX12_setting_9 : decode cX12_setting 9 = .ok (.bipush (-2), 2) := by decide +kernel
theorem dX12_setting_11 : decode cX12_setting 11 = .ok (.ireturn, 1) := by decide +kernel
theorem dX12_setting_12 : decode cX12_setting 12 = .ok (.aload_n 0, 1) := by decide +kernel
theorem dX12_setting_13 : decode cX12_setting 13 = .ok (.getfield 17, 3) := by decide +kernel
theorem dX12_setting_16 : decode cX12_setting 16 = .ok (.bipush 8, 2) := by decide +kernel
theorem dX12_setting_18 : decode cX12_setting 18 = .ok (.iaload, 1) := by decide +kernel
theorem dX12_setting_19 : decode cX12_setting 19 = .ok (.istore_n 2, 1) := by decide +kernel
theorem dX12_setting_20 : decode cX12_setting 20 = .ok (.iload_n 2, 1) := by decide +kernel
theorem dX12_setting_21 : decode cX12_setting 21 = .ok (.iconst 4, 1) := by decide +kernel
theorem dX12_setting_22 : decode cX12_setting 22 = .ok (.if_icmp .ge 5, 3) := by decide +kernel
theorem dX12_setting_25 : decode cX12_setting 25 = .ok (.iconst (-1), 1) := by decide +kernel
theorem dX12_setting_26 : decode cX12_setting 26 = .ok (.ireturn, 1) := by decide +kernel
theorem dX12_setting_27 : decode cX12_setting 27 = .ok (.iconst (-1), 1) := by decide +kernel
theorem dX12_setting_28 : decode cX12_setting 28 = .ok (.istore_n 3, 1) := by decide +kernel
theorem dX12_setting_29 : decode cX12_setting 29 = .ok (.iconst 0, 1) := by decide +kernel
theorem dX12_setting_30 : decode cX12_setting 30 = .ok (.istore 4, 2) := by decide +kernel
theorem dX12_setting_32 : decode cX12_setting 32 = .ok (.iconst 0, 1) := by decide +kernel
theorem dX12_setting_33 : decode cX12_setting 33 = .ok (.istore 5, 2) := by decide +kernel
theorem dX12_setting_35 : decode cX12_setting 35 = .ok (.iload 5, 2) := by decide +kernel
theorem dX12_setting_37 : decode cX12_setting 37 = .ok (.iload_n 2, 1) := by decide +kernel
theorem dX12_setting_38 : decode cX12_setting 38 = .ok (.iload_n 2, 1) := by decide +kernel
theorem dX12_setting_39 : decode cX12_setting 39 = .ok (.imul, 1) := by decide +kernel
theorem dX12_setting_40 : decode cX12_setting 40 = .ok (.iload_n 2, 1) := by decide +kernel
theorem dX12_setting_41 : decode cX12_setting 41 = .ok (.imul, 1) := by decide +kernel
theorem dX12_setting_42 : decode cX12_setting 42 = .ok (.iload_n 2, 1) := by decide +kernel
theorem dX12_setting_43 : decode cX12_setting 43 = .ok (.imul, 1) := by decide +kernel
theorem dX12_setting_44 : decode cX12_setting 44 = .ok (.if_icmp .ge 175, 3) := by decide +kernel
theorem dX12_setting_47 : decode cX12_setting 47 = .ok (.iload 5, 2) := by decide +kernel
theorem dX12_setting_49 : decode cX12_setting 49 = .ok (.istore 6, 2) := by decide +kernel
theorem dX12_setting_51 : decode cX12_setting 51 = .ok (.iconst 3, 1) := by decide +kernel
theorem dX12_setting_52 : decode cX12_setting 52 = .ok (.istore 7, 2) := by decide +kernel
theorem dX12_setting_54 : decode cX12_setting 54 = .ok (.iload 7, 2) := by decide +kernel
theorem dX12_setting_56 : decode cX12_setting 56 = .ok (.ifCond .lt 26, 3) := by decide +kernel
theorem dX12_setting_59 : decode cX12_setting 59 = .ok (.aload_n 0, 1) := by decide +kernel
theorem dX12_setting_60 : decode cX12_setting 60 = .ok (.getfield 112, 3) := by decide +kernel
theorem dX12_setting_63 : decode cX12_setting 63 = .ok (.iload 7, 2) := by decide +kernel
theorem dX12_setting_65 : decode cX12_setting 65 = .ok (.iload 6, 2) := by decide +kernel
theorem dX12_setting_67 : decode cX12_setting 67 = .ok (.iload_n 2, 1) := by decide +kernel
theorem dX12_setting_68 : decode cX12_setting 68 = .ok (.irem, 1) := by decide +kernel
theorem dX12_setting_69 : decode cX12_setting 69 = .ok (.iastore, 1) := by decide +kernel
theorem dX12_setting_70 : decode cX12_setting 70 = .ok (.iload 6, 2) := by decide +kernel
theorem dX12_setting_72 : decode cX12_setting 72 = .ok (.iload_n 2, 1) := by decide +kernel
theorem dX12_setting_73 : decode cX12_setting 73 = .ok (.idiv, 1) := by decide +kernel
theorem dX12_setting_74 : decode cX12_setting 74 = .ok (.istore 6, 2) := by decide +kernel
theorem dX12_setting_76 : decode cX12_setting 76 = .ok (.iinc 7 (-1), 3) := by decide +kernel
theorem dX12_setting_79 : decode cX12_setting 79 = .ok (.goto (-25), 3) := by decide +kernel
theorem dX12_setting_82 : decode cX12_setting 82 = .ok (.iconst 1, 1) := by decide +kernel
theorem dX12_setting_83 : decode cX12_setting 83 = .ok (.istore 7, 2) := by decide +kernel
theorem dX12_setting_85 : decode cX12_setting 85 = .ok (.ldc_w 361, 3) := by decide +kernel
theorem dX12_setting_88 : decode cX12_setting 88 = .ok (.istore 8, 2) := by decide +kernel
theorem dX12_setting_90 : decode cX12_setting 90 = .ok (.iconst 0, 1) := by decide +kernel
theorem dX12_setting_91 : decode cX12_setting 91 = .ok (.istore 9, 2) := by decide +kernel
theorem dX12_setting_93 : decode cX12_setting 93 = .ok (.iload 9, 2) := by decide +kernel
theorem dX12_setting_95 : decode cX12_setting 95 = .ok (.iconst 4, 1) := by decide +kernel
theorem dX12_setting_96 : decode cX12_setting 96 = .ok (.if_icmp .ge 90, 3) := by decide +kernel
theorem dX12_setting_99 : decode cX12_setting 99 = .ok (.iconst 0, 1) := by decide +kernel
theorem dX12_setting_100 : decode cX12_setting 100 = .ok (.istore 10, 2) := by decide +kernel
theorem dX12_setting_102 : decode cX12_setting 102 = .ok (.iload 10, 2) := by decide +kernel
theorem dX12_setting_104 : decode cX12_setting 104 = .ok (.iload 9, 2) := by decide +kernel
theorem dX12_setting_106 : decode cX12_setting 106 = .ok (.if_icmp .ge 74, 3) := by decide +kernel
theorem dX12_setting_109 : decode cX12_setting 109 = .ok (.iload 7, 2) := by decide +kernel
theorem dX12_setting_111 : decode cX12_setting 111 = .ok (.ifCond .eq 24, 3) := by decide +kernel
theorem dX12_setting_114 : decode cX12_setting 114 = .ok (.aload_n 0, 1) := by decide +kernel
theorem dX12_setting_115 : decode cX12_setting 115 = .ok (.getfield 112, 3) := by decide +kernel
theorem dX12_setting_118 : decode cX12_setting 118 = .ok (.iload 9, 2) := by decide +kernel
theorem dX12_setting_120 : decode cX12_setting 120 = .ok (.iaload, 1) := by decide +kernel
theorem dX12_setting_121 : decode cX12_setting 121 = .ok (.aload_n 0, 1) := by decide +kernel
theorem dX12_setting_122 : decode cX12_setting 122 = .ok (.getfield 112, 3) := by decide +kernel
theorem dX12_setting_125 : decode cX12_setting 125 = .ok (.iload 10, 2) := by decide +kernel
theorem dX12_setting_127 : decode cX12_setting 127 = .ok (.iaload, 1) := by decide +kernel
theorem dX12_setting_128 : decode cX12_setting 128 = .ok (.if_icmp .eq 7, 3) := by decide +kernel
theorem dX12_setting_131 : decode cX12_setting 131 = .ok (.iconst 1, 1) := by decide +kernel
theorem dX12_setting_132 : decode cX12_setting 132 = .ok (.goto 4, 3) := by decide +kernel
theorem dX12_setting_135 : decode cX12_setting 135 = .ok (.iconst 0, 1) := by decide +kernel
theorem dX12_setting_136 : decode cX12_setting 136 = .ok (.istore 7, 2) := by decide +kernel
theorem dX12_setting_138 : decode cX12_setting 138 = .ok (.aload_n 0, 1) := by decide +kernel
theorem dX12_setting_139 : decode cX12_setting 139 = .ok (.aload_n 0, 1) := by decide +kernel
theorem dX12_setting_140 : decode cX12_setting 140 = .ok (.getfield 112, 3) := by decide +kernel
theorem dX12_setting_143 : decode cX12_setting 143 = .ok (.iload 9, 2) := by decide +kernel
theorem dX12_setting_145 : decode cX12_setting 145 = .ok (.iaload, 1) := by decide +kernel
theorem dX12_setting_146 : decode cX12_setting 146 = .ok (.aload_n 0, 1) := by decide +kernel
theorem dX12_setting_147 : decode cX12_setting 147 = .ok (.getfield 112, 3) := by decide +kernel
theorem dX12_setting_150 : decode cX12_setting 150 = .ok (.iload 10, 2) := by decide +kernel
theorem dX12_setting_152 : decode cX12_setting 152 = .ok (.iaload, 1) := by decide +kernel
theorem dX12_setting_153 : decode cX12_setting 153 = .ok (.invokevirtual 365, 3) := by decide +kernel
theorem dX12_setting_156 : decode cX12_setting 156 = .ok (.istore 11, 2) := by decide +kernel
theorem dX12_setting_158 : decode cX12_setting 158 = .ok (.iload 11, 2) := by decide +kernel
theorem dX12_setting_160 : decode cX12_setting 160 = .ok (.iload 8, 2) := by decide +kernel
theorem dX12_setting_162 : decode cX12_setting 162 = .ok (.if_icmp .ge 8, 3) := by decide +kernel
theorem dX12_setting_165 : decode cX12_setting 165 = .ok (.iload 11, 2) := by decide +kernel
theorem dX12_setting_167 : decode cX12_setting 167 = .ok (.goto 5, 3) := by decide +kernel
theorem dX12_setting_170 : decode cX12_setting 170 = .ok (.iload 8, 2) := by decide +kernel
theorem dX12_setting_172 : decode cX12_setting 172 = .ok (.istore 8, 2) := by decide +kernel
theorem dX12_setting_174 : decode cX12_setting 174 = .ok (.iinc 10 1, 3) := by decide +kernel
theorem dX12_setting_177 : decode cX12_setting 177 = .ok (.goto (-75), 3) := by decide +kernel
theorem dX12_setting_180 : decode cX12_setting 180 = .ok (.iinc 9 1, 3) := by decide +kernel
theorem dX12_setting_183 : decode cX12_setting 183 = .ok (.goto (-90), 3) := by decide +kernel
theorem dX12_setting_186 : decode cX12_setting 186 = .ok (.iload 7, 2) := by decide +kernel
theorem dX12_setting_188 : decode cX12_setting 188 = .ok (.ifCond .eq 25, 3) := by decide +kernel
theorem dX12_setting_191 : decode cX12_setting 191 = .ok (.iload_n 3, 1) := by decide +kernel
theorem dX12_setting_192 : decode cX12_setting 192 = .ok (.iconst (-1), 1) := by decide +kernel
theorem dX12_setting_193 : decode cX12_setting 193 = .ok (.if_icmp .eq 13, 3) := by decide +kernel
theorem dX12_setting_196 : decode cX12_setting 196 = .ok (.iload 8, 2) := by decide +kernel
theorem dX12_setting_198 : decode cX12_setting 198 = .ok (.iload 4, 2) := by decide +kernel
theorem dX12_setting_200 : decode cX12_setting 200 = .ok (.if_icmp .gt 6, 3) := by decide +kernel
theorem dX12_setting_203 : decode cX12_setting 203 = .ok (.goto 10, 3) := by decide +kernel
theorem dX12_setting_206 : decode cX12_setting 206 = .ok (.iload 5, 2) := by decide +kernel
theorem dX12_setting_208 : decode cX12_setting 208 = .ok (.istore_n 3, 1) := by decide +kernel
theorem dX12_setting_209 : decode cX12_setting 209 = .ok (.iload 8, 2) := by decide +kernel
theorem dX12_setting_211 : decode cX12_setting 211 = .ok (.istore 4, 2) := by decide +kernel
theorem dX12_setting_213 : decode cX12_setting 213 = .ok (.iinc 5 1, 3) := by decide +kernel
theorem dX12_setting_216 : decode cX12_setting 216 = .ok (.goto (-181), 3) := by decide +kernel
theorem dX12_setting_219 : decode cX12_setting 219 = .ok (.iload_n 1, 1) := by decide +kernel
theorem dX12_setting_220 : decode cX12_setting 220 = .ok (.ifCond .ne 6, 3) := by decide +kernel
theorem dX12_setting_223 : decode cX12_setting 223 = .ok (.iload 4, 2) := by decide +kernel
theorem dX12_setting_225 : decode cX12_setting 225 = .ok (.ireturn, 1) := by decide +kernel
theorem dX12_setting_226 : decode cX12_setting 226 = .ok (.iconst 4, 1) := by decide +kernel
theorem dX12_setting_227 : decode cX12_setting 227 = .ok (.istore 5, 2) := by decide +kernel
theorem dX12_setting_229 : decode cX12_setting 229 = .ok (.iload 5, 2) := by decide +kernel
theorem dX12_setting_231 : decode cX12_setting 231 = .ok (.iload_n 1, 1) := by decide +kernel
theorem dX12_setting_232 : decode cX12_setting 232 = .ok (.if_icmp .le 13, 3) := by decide +kernel
theorem dX12_setting_235 : decode cX12_setting 235 = .ok (.iload_n 3, 1) := by decide +kernel
theorem dX12_setting_236 : decode cX12_setting 236 = .ok (.iload_n 2, 1) := by decide +kernel
theorem dX12_setting_237 : decode cX12_setting 237 = .ok (.idiv, 1) := by decide +kernel
theorem dX12_setting_238 : decode cX12_setting 238 = .ok (.istore_n 3, 1) := by decide +kernel
theorem dX12_setting_239 : decode cX12_setting 239 = .ok (.iinc 5 (-1), 3) := by decide +kernel
theorem dX12_setting_242 : decode cX12_setting 242 = .ok (.goto (-13), 3) := by decide +kernel
theorem dX12_setting_245 : decode cX12_setting 245 = .ok (.iload_n 3, 1) := by decide +kernel
theorem dX12_setting_246 : decode cX12_setting 246 = .ok (.iload_n 2, 1) := by decide +kernel
theorem dX12_setting_247 : decode cX12_setting 247 = .ok (.irem, 1) := by decide +kernel
theorem dX12_setting_248 : decode cX12_setting 248 = .ok (.ireturn, 1) := by decide +kernel
set_option maxRecDepth 20000 in
theorem sX12_setting_0 {P : Option Value → AH → Prop} (h : AH) (r0 : Nat) (x1 : Int32) (hf : ((¬ x1 < 0 ∧ ¬ 4 < x1) → (isO h 12 r0) ∧ ((isA h 0 (gF h r0 11)) ∧ ((vp_in 8 (ln (gF h r0 11))) ∧ ((4 ≤ (gI h (gF h r0 11) (Int32.toNatClampNeg 8)) → Rr mX12_setting 0 0 35 [(0, .ref r0), (1, .int x1), (2, .int (gI h (gF h r0 11) (Int32.toNatClampNeg 8))), (3, .int (-1)), (4, .int 0), (5, .int 0)] [] h P) ∧ (¬ 4 ≤ (gI h (gF h r0 11) (Int32.toNatClampNeg 8)) → P (some (.int (-1))) h))))) ∧ (¬ (¬ x1 < 0 ∧ ¬ 4 < x1) → P (some (.int (-2))) h)) : Rr mX12_setting 0 0 0 [(0, .ref r0), (1, .int x1)] [] h P := by
  refine R_iload_n dX12_setting_0 rfl 1 rfl ?_
  refine R_iconst (v := 0) dX12_setting_1 (by decide) ?_
  refine R_iconst (v := 4) dX12_setting_2 (by decide) ?_
  refine R_callS (N := mX12_in) (as := [.int x1, .int 0, .int 4]) (rest := []) (kc2 := 0) (ks2 := 0) dX12_setting_3 lmX12_178 oX12_in (Nat.le_of_ble_eq_true rfl) rfl rfl (Nat.le_of_ble_eq_true rfl) rfl rfl (aX12_in  ?_)
  refine R_if_ne_b (tgt := 12) dX12_setting_6 (by decide) (fun b1 => ?_) (fun b1 => ?_)
  · have hf := hf.1 b1
    refine R_aload_n dX12_setting_12 rfl 0 rfl ?_
    obtain ⟨ob2, hf⟩ := hf
    refine G12_11 dX12_setting_13 lfX12_17 ob2 ?_
    refine R_bipush (v := 8) dX12_setting_16 (by decide) ?_
    obtain ⟨ob3, hf⟩ := hf
    obtain ⟨ob4, hf⟩ := hf
    refine R_iaload dX12_setting_18 ob3 ob4 ?_
    refine R_istore_n dX12_setting_19 rfl (by decide) rfl ?_
    refine R_iload_n dX12_setting_20 rfl 0 rfl ?_
    refine R_iconst (v := 4) dX12_setting_21 (by decide) ?_
    refine R_icmp_ge (tgt := 27) dX12_setting_22 (by decide) (fun b5 => ?_) (fun b5 => ?_)
    · have hf := hf.1 b5
      refine R_iconst (v := (-1)) dX12_setting_27 (by decide) ?_
      refine R_istore_n dX12_setting_28 rfl (by decide) rfl ?_
      refine R_iconst (v := 0) dX12_setting_29 (by decide) ?_
      refine R_istore dX12_setting_30 (by decide) rfl ?_
      refine R_iconst (v := 0) dX12_setting_32 (by decide) ?_
      refine R_istore dX12_setting_33 (by decide) rfl ?_
      exact R_sub [4, 5, 3, 2, 1, 0] rfl hf
    · have hf := hf.2 b5
      refine R_iconst (v := (-1)) dX12_setting_25 (by decide) ?_
      exact R_iret dX12_setting_26 rfl rfl hf
  · have hf := hf.2 b1
    refine R_bipush (v := (-2)) dX12_setting_9 (by decide) ?_
    exact R_iret dX12_setting_11 rfl rfl hf
set_option maxRecDepth 20000 in
theorem sX12_setting_35 {P : Option Value → AH → Prop} (h : AH) (r0 : Nat) (x1 : Int32) (x2 : Int32) (x3 : Int32) (x4 : Int32) (x5 : Int32) (hf : ((((x2 * x2) * x2) * x2) ≤ x5 → (¬ x1 = 0 → Rr mX12_setting 0 0 229 [(1, .int x1), (2, .int x2), (3, .int x3), (5, .int 4)] [] h P) ∧ (x1 = 0 → P (some (.int x4)) h)) ∧ (¬ (((x2 * x2) * x2) * x2) ≤ x5 → Rr mX12_setting 0 0 54 [(0, .ref r0), (1, .int x1), (2, .int x2), (3, .int x3), (4, .int x4), (5, .int x5), (6, .int x5), (7, .int 3)] [] h P)) : Rr mX12_setting 0 0 35 [(0, .ref r0), (1, .int x1), (2, .int x2), (3, .int x3), (4, .int x4), (5, .int x5)] [] h P := by
  refine R_iload dX12_setting_35 5 rfl ?_
  refine R_iload_n dX12_setting_37 rfl 2 rfl ?_
  refine R_iload_n dX12_setting_38 rfl 2 rfl ?_
  refine R_imul dX12_setting_39 ?_
  refine R_iload_n dX12_setting_40 rfl 2 rfl ?_
  refine R_imul dX12_setting_41 ?_
  refine R_iload_n dX12_setting_42 rfl 2 rfl ?_
  refine R_imul dX12_setting_43 ?_
  refine R_icmp_ge (tgt := 219) dX12_setting_44 (by decide) (fun b1 => ?_) (fun b1 => ?_)
  · have hf := hf.1 b1
    refine R_iload_n dX12_setting_219 rfl 1 rfl ?_
    refine R_if_ne (tgt := 226) dX12_setting_220 (by decide) (fun b2 => ?_) (fun b2 => ?_)
    · have hf := hf.1 b2
      refine R_iconst (v := 4) dX12_setting_226 (by decide) ?_
      refine R_istore dX12_setting_227 (by decide) rfl ?_
      exact R_sub [2, 3, 4, 0] rfl hf
    · have hf := hf.2 b2
      refine R_iload dX12_setting_223 4 rfl ?_
      exact R_iret dX12_setting_225 rfl rfl hf
  · have hf := hf.2 b1
    refine R_iload dX12_setting_47 5 rfl ?_
    refine R_istore dX12_setting_49 (by decide) rfl ?_
    refine R_iconst (v := 3) dX12_setting_51 (by decide) ?_
    refine R_istore dX12_setting_52 (by decide) rfl ?_
    exact R_sub [2, 3, 4, 5, 6, 7, 1, 0] rfl hf
set_option maxRecDepth 20000 in
theorem sX12_setting_54 {P : Option Value → AH → Prop} (h : AH) (r0 : Nat) (x1 : Int32) (x2 : Int32) (x3 : Int32) (x4 : Int32) (x5 : Int32) (x6 : Int32) (x7 : Int32) (hf : (x7 < 0 → Rr mX12_setting 0 0 93 [(0, .ref r0), (1, .int x1), (2, .int x2), (3, .int x3), (4, .int x4), (5, .int x5), (7, .int 1), (8, .int 1000000), (9, .int 0)] [] h P) ∧ (¬ x7 < 0 → (isO h 12 r0) ∧ ((¬ x2 = 0) ∧ ((isA h 0 (gF h r0 58)) ∧ ((vp_in x7 (ln (gF h r0 58))) ∧ (Rr mX12_setting 0 0 54 [(0, .ref r0), (1, .int x1), (2, .int x2), (3, .int x3), (4, .int x4), (5, .int x5), (6, .int (x6 / x2)), (7, .int (x7 + (-1)))] [] (sI h (gF h r0 58) x7.toNatClampNeg (x6 % x2)) P)))))) : Rr mX12_setting 0 0 54 [(0, .ref r0), (1, .int x1), (2, .int x2), (3, .int x3), (4, .int x4), (5, .int x5), (6, .int x6), (7, .int x7)] [] h P := by
  refine R_iload dX12_setting_54 7 rfl ?_
  refine R_if_lt (tgt := 82) dX12_setting_56 (by decide) (fun b1 => ?_) (fun b1 => ?_)
  · have hf := hf.1 b1
    refine R_iconst (v := 1) dX12_setting_82 (by decide) ?_
    refine R_istore dX12_setting_83 (by decide) rfl ?_
    refine R_ldcw (v := 1000000) dX12_setting_85 lcX12_361 ?_
    refine R_istore dX12_setting_88 (by decide) rfl ?_
    refine R_iconst (v := 0) dX12_setting_90 (by decide) ?_
    refine R_istore dX12_setting_91 (by decide) rfl ?_
    exact R_sub [3, 4, 5, 6, 7, 8, 2, 1, 0] rfl hf
  · have hf := hf.2 b1
    refine R_aload_n dX12_setting_59 rfl 0 rfl ?_
    obtain ⟨ob2, hf⟩ := hf
    refine G12_58 dX12_setting_60 lfX12_112 ob2 ?_
    refine R_iload dX12_setting_63 7 rfl ?_
    refine R_iload dX12_setting_65 6 rfl ?_
    refine R_iload_n dX12_setting_67 rfl 2 rfl ?_
    obtain ⟨ob3, hf⟩ := hf
    refine R_irem dX12_setting_68 ob3 ?_
    obtain ⟨ob4, hf⟩ := hf
    obtain ⟨ob5, hf⟩ := hf
    refine R_iastore dX12_setting_69 ob4 ob5 ?_
    refine R_iload dX12_setting_70 6 rfl ?_
    refine R_iload_n dX12_setting_72 rfl 2 rfl ?_
    refine R_idiv dX12_setting_73 ob3 ?_
    refine R_istore dX12_setting_74 (by decide) rfl ?_
    refine R_iinc (v := x7 + (-1)) dX12_setting_76 7 rfl rfl (by decide) rfl ?_
    refine R_goto (tgt := 54) dX12_setting_79 (by decide) ?_
    exact R_sub [2, 3, 4, 5, 6, 7, 1, 0] rfl hf
set_option maxRecDepth 20000 in
theorem sX12_setting_93 {P : Option Value → AH → Prop} (h : AH) (r0 : Nat) (x1 : Int32) (x2 : Int32) (x3 : Int32) (x4 : Int32) (x5 : Int32) (x7 : Int32) (x8 : Int32) (x9 : Int32) (hf : (4 ≤ x9 → ∀ z5 : Int32, z5 = (if x7 = 0 then x3 else (if x3 = (-1) then x5 else (if x4 < x8 then x5 else x3))) → (∀ z6 : Int32, z6 = (if x7 = 0 then x4 else (if x3 = (-1) then x8 else (if x4 < x8 then x8 else x4))) → (Rr mX12_setting 0 0 35 [(0, .ref r0), (1, .int x1), (2, .int x2), (3, .int z5), (4, .int z6), (5, .int (x5 + 1))] [] h P))) ∧ (¬ 4 ≤ x9 → Rr mX12_setting 0 0 102 [(0, .ref r0), (1, .int x1), (2, .int x2), (3, .int x3), (4, .int x4), (5, .int x5), (7, .int x7), (8, .int x8), (9, .int x9), (10, .int 0)] [] h P)) : Rr mX12_setting 0 0 93 [(0, .ref r0), (1, .int x1), (2, .int x2), (3, .int x3), (4, .int x4), (5, .int x5), (7, .int x7), (8, .int x8), (9, .int x9)] [] h P := by
  refine R_iload dX12_setting_93 8 rfl ?_
  refine R_iconst (v := 4) dX12_setting_95 (by decide) ?_
  refine R_icmp_ge (tgt := 186) dX12_setting_96 (by decide) (fun b1 => ?_) (fun b1 => ?_)
  · have hf := hf.1 b1
    refine R_iload dX12_setting_186 6 rfl ?_
    have key : ∀ z5 : Int32, ∀ z6 : Int32, z5 = (if x7 = 0 then x3 else (if x3 = (-1) then x5 else (if x4 < x8 then x5 else x3))) → z6 = (if x7 = 0 then x4 else (if x3 = (-1) then x8 else (if x4 < x8 then x8 else x4))) → Rr mX12_setting 0 0 213 [(0, .ref r0), (1, .int x1), (2, .int x2), (3, .int z5), (4, .int z6), (5, .int x5)] [] h P := by
      intro z5 z6 ez5 ez6
      have hf := hf z5 ez5 z6 ez6
      refine R_iinc (v := x5 + 1) dX12_setting_213 5 rfl rfl (by decide) rfl ?_
      refine R_goto (tgt := 35) dX12_setting_216 (by decide) ?_
      exact R_sub [1, 2, 3, 4, 5, 0] rfl hf
    refine R_if_eq (tgt := 213) dX12_setting_188 (by decide) (fun b2 => ?_) (fun b2 => ?_)
    · exact R_sub [0, 1, 2, 3, 4, 5] rfl (key _ _ (by rw [if_pos b2]) (by rw [if_pos b2]))
    · refine R_iload_n dX12_setting_191 rfl 3 rfl ?_
      refine R_iconst (v := (-1)) dX12_setting_192 (by decide) ?_
      refine R_icmp_eq (tgt := 206) dX12_setting_193 (by decide) (fun b3 => ?_) (fun b3 => ?_)
      · refine R_iload dX12_setting_206 5 rfl ?_
        refine R_istore_n dX12_setting_208 rfl (by decide) rfl ?_
        refine R_iload dX12_setting_209 7 rfl ?_
        refine R_istore dX12_setting_211 (by decide) rfl ?_
        exact R_sub [2, 3, 4, 1, 0, 5] rfl (key _ _ (by rw [if_neg b2, if_pos b3]) (by rw [if_neg b2, if_pos b3]))
      · refine R_iload dX12_setting_196 7 rfl ?_
        refine R_iload dX12_setting_198 4 rfl ?_
        refine R_icmp_gt (tgt := 206) dX12_setting_200 (by decide) (fun b4 => ?_) (fun b4 => ?_)
        · refine R_iload dX12_setting_206 5 rfl ?_
          refine R_istore_n dX12_setting_208 rfl (by decide) rfl ?_
          refine R_iload dX12_setting_209 7 rfl ?_
          refine R_istore dX12_setting_211 (by decide) rfl ?_
          exact R_sub [2, 3, 4, 1, 0, 5] rfl (key _ _ (by rw [if_neg b2, if_neg b3, if_pos b4]) (by rw [if_neg b2, if_neg b3, if_pos b4]))
        · refine R_goto (tgt := 213) dX12_setting_203 (by decide) ?_
          exact R_sub [0, 1, 2, 3, 4, 5] rfl (key _ _ (by rw [if_neg b2, if_neg b3, if_neg b4]) (by rw [if_neg b2, if_neg b3, if_neg b4]))
  · have hf := hf.2 b1
    refine R_iconst (v := 0) dX12_setting_99 (by decide) ?_
    refine R_istore dX12_setting_100 (by decide) rfl ?_
    exact R_sub [1, 2, 3, 4, 5, 6, 7, 8, 9, 0] rfl hf
set_option maxRecDepth 20000 in
theorem sX12_setting_102 {P : Option Value → AH → Prop} (h : AH) (r0 : Nat) (x1 : Int32) (x2 : Int32) (x3 : Int32) (x4 : Int32) (x5 : Int32) (x7 : Int32) (x8 : Int32) (x9 : Int32) (x10 : Int32) (hf : (x9 ≤ x10 → Rr mX12_setting 0 0 93 [(0, .ref r0), (1, .int x1), (2, .int x2), (3, .int x3), (4, .int x4), (5, .int x5), (7, .int x7), (8, .int x8), (9, .int (x9 + 1))] [] h P) ∧ (¬ x9 ≤ x10 → (isO h 12 r0) ∧ ((isA h 0 (gF h r0 58)) ∧ ((¬ x7 = 0 → vp_in x9 (ln (gF h r0 58))) ∧ ((¬ x7 = 0 → vp_in x10 (ln (gF h r0 58))) ∧ ((vp_in x9 (ln (gF h r0 58))) ∧ ((vp_in x10 (ln (gF h r0 58))) ∧ (Call mX12_beatOf [.ref r0, .int (gI h (gF h r0 58) x9.toNatClampNeg), .int (gI h (gF h r0 58) x10.toNatClampNeg)] h (fun v h10 => ∃ z11 : Int32, v = some (.int z11) ∧ (∀ z13 : Int32, z13 = (if x8 ≤ z11 then x8 else z11) → (Rr mX12_setting 0 0 102 [(0, .ref r0), (1, .int x1), (2, .int x2), (3, .int x3), (4, .int x4), (5, .int x5), (7, .int (bi (¬ x7 = 0 ∧ ¬ (gI h (gF h r0 58) x9.toNatClampNeg) = (gI h (gF h r0 58) x10.toNatClampNeg)))), (8, .int z13), (9, .int x9), (10, .int (x10 + 1))] [] h10 P))))))))))) : Rr mX12_setting 0 0 102 [(0, .ref r0), (1, .int x1), (2, .int x2), (3, .int x3), (4, .int x4), (5, .int x5), (7, .int x7), (8, .int x8), (9, .int x9), (10, .int x10)] [] h P := by
  refine R_iload dX12_setting_102 9 rfl ?_
  refine R_iload dX12_setting_104 8 rfl ?_
  refine R_icmp_ge (tgt := 180) dX12_setting_106 (by decide) (fun b1 => ?_) (fun b1 => ?_)
  · have hf := hf.1 b1
    refine R_iinc (v := x9 + 1) dX12_setting_180 8 rfl rfl (by decide) rfl ?_
    refine R_goto (tgt := 93) dX12_setting_183 (by decide) ?_
    exact R_sub [1, 2, 3, 4, 5, 6, 7, 8, 0] rfl hf
  · have hf := hf.2 b1
    refine R_iload dX12_setting_109 6 rfl ?_
    obtain ⟨ob3, hf⟩ := hf
    obtain ⟨ob4, hf⟩ := hf
    obtain ⟨ob5, hf⟩ := hf
    obtain ⟨ob6, hf⟩ := hf
    have key :  Rr mX12_setting 0 0 136 [(0, .ref r0), (1, .int x1), (2, .int x2), (3, .int x3), (4, .int x4), (5, .int x5), (8, .int x8), (9, .int x9), (10, .int x10)] [.int (bi (¬ x7 = 0 ∧ ¬ (gI h (gF h r0 58) x9.toNatClampNeg) = (gI h (gF h r0 58) x10.toNatClampNeg)))] h P := by
      refine R_istore dX12_setting_136 (by decide) rfl ?_
      refine R_aload_n dX12_setting_138 rfl 1 rfl ?_
      refine R_aload_n dX12_setting_139 rfl 1 rfl ?_
      refine G12_58 dX12_setting_140 lfX12_112 ob3 ?_
      refine R_iload dX12_setting_143 8 rfl ?_
      obtain ⟨ob8, hf⟩ := hf
      refine R_iaload dX12_setting_145 ob4 ob8 ?_
      refine R_aload_n dX12_setting_146 rfl 1 rfl ?_
      refine G12_58 dX12_setting_147 lfX12_112 ob3 ?_
      refine R_iload dX12_setting_150 9 rfl ?_
      obtain ⟨ob9, hf⟩ := hf
      refine R_iaload dX12_setting_152 ob4 ob9 ?_
      refine R_callV (ci := 12) (N := mX12_beatOf) (as := [.int (gI h (gF h r0 58) x9.toNatClampNeg), .int (gI h (gF h r0 58) x10.toNatClampNeg)]) (rest := []) (kc2 := 0) (ks2 := 0) dX12_setting_153 lmX12_365 oX12_beatOf (Nat.le_of_ble_eq_true rfl) rfl rfl (Nat.le_of_ble_eq_true rfl) rfl rfl ob3 ok12 (Call.mono hf ?_)
      rintro _ h10 ⟨z11, rfl, hf⟩
      refine R_istore dX12_setting_156 (by decide) rfl ?_
      refine R_iload dX12_setting_158 0 rfl ?_
      refine R_iload dX12_setting_160 8 rfl ?_
      have key : ∀ z13 : Int32, z13 = (if x8 ≤ z11 then x8 else z11) → Rr mX12_setting 0 0 172 [(0, .ref r0), (1, .int x1), (2, .int x2), (3, .int x3), (4, .int x4), (5, .int x5), (7, .int (bi (¬ x7 = 0 ∧ ¬ (gI h (gF h r0 58) x9.toNatClampNeg) = (gI h (gF h r0 58) x10.toNatClampNeg)))), (9, .int x9), (10, .int x10)] [.int z13] h10 P := by
        intro z13 ez13
        have hf := hf z13 ez13
        refine R_istore dX12_setting_172 (by decide) rfl ?_
        refine R_iinc (v := x10 + 1) dX12_setting_174 9 rfl rfl (by decide) rfl ?_
        refine R_goto (tgt := 102) dX12_setting_177 (by decide) ?_
        exact R_sub [2, 3, 4, 5, 6, 7, 8, 1, 9, 0] rfl hf
      refine R_icmp_ge (tgt := 170) dX12_setting_162 (by decide) (fun b12 => ?_) (fun b12 => ?_)
      · refine R_iload dX12_setting_170 8 rfl ?_
        exact R_sub [2, 3, 4, 5, 6, 7, 1, 9, 10] rfl (key _ (by rw [if_pos b12]))
      · refine R_iload dX12_setting_165 0 rfl ?_
        refine R_goto (tgt := 172) dX12_setting_167 (by decide) ?_
        exact R_sub [2, 3, 4, 5, 6, 7, 1, 9, 10] rfl (key _ (by rw [if_neg b12]))
    refine R_if_eq (tgt := 135) dX12_setting_111 (by decide) (fun b2 => ?_) (fun b2 => ?_)
    · refine R_iconst (v := 0) dX12_setting_135 (by decide) ?_
      have kb := key
      rw [show bi (¬ x7 = 0 ∧ ¬ (gI h (gF h r0 58) x9.toNatClampNeg) = (gI h (gF h r0 58) x10.toNatClampNeg)) = 0 from by simp only [bi, b2, false_and, and_false, true_and, and_true, not_true_eq_false, not_false_eq_true, if_true, if_false, true_or, or_true, false_or, or_false, reduceIte]] at kb
      exact R_sub [0, 1, 2, 3, 4, 5, 7, 8, 9] rfl kb
    · refine R_aload_n dX12_setting_114 rfl 0 rfl ?_
      refine G12_58 dX12_setting_115 lfX12_112 ob3 ?_
      refine R_iload dX12_setting_118 8 rfl ?_
      refine R_iaload dX12_setting_120 ob4 (ob5 b2) ?_
      refine R_aload_n dX12_setting_121 rfl 0 rfl ?_
      refine G12_58 dX12_setting_122 lfX12_112 ob3 ?_
      refine R_iload dX12_setting_125 9 rfl ?_
      refine R_iaload dX12_setting_127 ob4 (ob6 b2) ?_
      refine R_icmp_eq (tgt := 135) dX12_setting_128 (by decide) (fun b7 => ?_) (fun b7 => ?_)
      · refine R_iconst (v := 0) dX12_setting_135 (by decide) ?_
        have kb := key
        rw [show bi (¬ x7 = 0 ∧ ¬ (gI h (gF h r0 58) x9.toNatClampNeg) = (gI h (gF h r0 58) x10.toNatClampNeg)) = 0 from by simp only [bi, b2, b7, false_and, and_false, true_and, and_true, not_true_eq_false, not_false_eq_true, if_true, if_false, true_or, or_true, false_or, or_false, reduceIte]] at kb
        exact R_sub [0, 1, 2, 3, 4, 5, 7, 8, 9] rfl kb
      · refine R_iconst (v := 1) dX12_setting_131 (by decide) ?_
        refine R_goto (tgt := 136) dX12_setting_132 (by decide) ?_
        have kb := key
        rw [show bi (¬ x7 = 0 ∧ ¬ (gI h (gF h r0 58) x9.toNatClampNeg) = (gI h (gF h r0 58) x10.toNatClampNeg)) = 1 from by simp only [bi, b2, b7, false_and, and_false, true_and, and_true, not_true_eq_false, not_false_eq_true, if_true, if_false, true_or, or_true, false_or, or_false, reduceIte]] at kb
        exact R_sub [0, 1, 2, 3, 4, 5, 7, 8, 9] rfl kb
set_option maxRecDepth 20000 in
theorem sX12_setting_229 {P : Option Value → AH → Prop} (h : AH) (x1 : Int32) (x2 : Int32) (x3 : Int32) (x5 : Int32) (hf : (x5 ≤ x1 → (¬ x2 = 0) ∧ (P (some (.int (x3 % x2))) h)) ∧ (¬ x5 ≤ x1 → (¬ x2 = 0) ∧ (Rr mX12_setting 0 0 229 [(1, .int x1), (2, .int x2), (3, .int (x3 / x2)), (5, .int (x5 + (-1)))] [] h P))) : Rr mX12_setting 0 0 229 [(1, .int x1), (2, .int x2), (3, .int x3), (5, .int x5)] [] h P := by
  refine R_iload dX12_setting_229 3 rfl ?_
  refine R_iload_n dX12_setting_231 rfl 0 rfl ?_
  refine R_icmp_le (tgt := 245) dX12_setting_232 (by decide) (fun b1 => ?_) (fun b1 => ?_)
  · have hf := hf.1 b1
    refine R_iload_n dX12_setting_245 rfl 2 rfl ?_
    refine R_iload_n dX12_setting_246 rfl 1 rfl ?_
    obtain ⟨ob2, hf⟩ := hf
    refine R_irem dX12_setting_247 ob2 ?_
    exact R_iret dX12_setting_248 rfl rfl hf
  · have hf := hf.2 b1
    refine R_iload_n dX12_setting_235 rfl 2 rfl ?_
    refine R_iload_n dX12_setting_236 rfl 1 rfl ?_
    obtain ⟨ob3, hf⟩ := hf
    refine R_idiv dX12_setting_237 ob3 ?_
    refine R_istore_n dX12_setting_238 rfl (by decide) rfl ?_
    refine R_iinc (v := x5 + (-1)) dX12_setting_239 3 rfl rfl (by decide) rfl ?_
    refine R_goto (tgt := 229) dX12_setting_242 (by decide) ?_
    exact R_sub [2, 3, 1, 0] rfl hf
theorem dX12_shape_0 : decode cX12_shape 0 = .ok (.iload_n 1, 1) := by decide +kernel
theorem dX12_shape_1 : decode cX12_shape 1 = .ok (.invokestatic 259, 3) := by decide +kernel
theorem dX12_shape_4 : decode cX12_shape 4 = .ok (.ifCond .eq 23, 3) := by decide +kernel
theorem dX12_shape_7 : decode cX12_shape 7 = .ok (.iload_n 2, 1) := by decide +kernel
theorem dX12_shape_8 : decode cX12_shape 8 = .ok (.bipush (-2), 2) := by decide +kernel
theorem dX12_shape_10 : decode cX12_shape 10 = .ok (.iconst 2, 1) := by decide +kernel
theorem dX12_shape_11 : decode cX12_shape 11 = .ok (.invokestatic 178, 3) := by decide +kernel
theorem dX12_shape_14 : decode cX12_shape 14 = .ok (.ifCond .eq 13, 3) := by decide +kernel
theorem dX12_shape_17 : decode cX12_shape 17 = .ok (.iload_n 3, 1) := by decide +kernel
theorem dX12_shape_18 : decode cX12_shape 18 = .ok (.iconst 0, 1) := by decide +kernel
theorem dX12_shape_19 : decode cX12_shape 19 = .ok (.bipush 15, 2) := by decide +kernel
theorem dX12_shape_21 : decode cX12_shape 21 = .ok (.invokestatic 178, 3) := by decide +kernel
theorem dX12_shape_24 : decode cX12_shape 24 = .ok (.ifCond .ne 6, 3) := by decide +kernel
theorem dX12_shape_27 : decode cX12_shape 27 = .ok (.bipush (-2), 2) := by decide +kernel
theorem dX12_shape_29 : decode cX12_shape 29 = .ok (.ireturn, 1) := by decide +kernel
theorem dX12_shape_30 : decode cX12_shape 30 = .ok (.aload_n 0, 1) := by decide +kernel
theorem dX12_shape_31 : decode cX12_shape 31 = .ok (.iload_n 1, 1) := by decide +kernel
theorem dX12_shape_32 : decode cX12_shape 32 = .ok (.iload_n 2, 1) := by decide +kernel
theorem dX12_shape_33 : decode cX12_shape 33 = .ok (.iconst 0, 1) := by decide +kernel
theorem dX12_shape_34 : decode cX12_shape 34 = .ok (.invokevirtual 303, 3) := by decide +kernel
theorem dX12_shape_37 : decode cX12_shape 37 = .ok (.aload_n 0, 1) := by decide +kernel
theorem dX12_shape_38 : decode cX12_shape 38 = .ok (.getfield 93, 3) := by decide +kernel
theorem dX12_shape_41 : decode cX12_shape 41 = .ok (.iconst 0, 1) := by decide +kernel
theorem dX12_shape_42 : decode cX12_shape 42 = .ok (.iload_n 3, 1) := by decide +kernel
theorem dX12_shape_43 : decode cX12_shape 43 = .ok (.iadd, 1) := by decide +kernel
theorem dX12_shape_44 : decode cX12_shape 44 = .ok (.iaload, 1) := by decide +kernel
theorem dX12_shape_45 : decode cX12_shape 45 = .ok (.ireturn, 1) := by decide +kernel
set_option maxRecDepth 20000 in
theorem sX12_shape_0 {P : Option Value → AH → Prop} (h : AH) (r0 : Nat) (x1 : Int32) (x2 : Int32) (x3 : Int32) (hf : (¬ (¬ x1 < 0 ∧ ¬ 3 < x1) → P (some (.int (-2))) h) ∧ ((¬ x1 < 0 ∧ ¬ 3 < x1) → (¬ (¬ x2 < (-2) ∧ ¬ 2 < x2) → P (some (.int (-2))) h) ∧ ((¬ x2 < (-2) ∧ ¬ 2 < x2) → ((¬ x3 < 0 ∧ ¬ 15 < x3) → (isO h 12 r0) ∧ (Call mX12_spreadTo [.ref r0, .int x1, .int x2, .int 0] h (fun v h5 => v = none ∧ ((isO h5 12 r0) ∧ ((isA h5 0 (gF h5 r0 45)) ∧ ((vp_in (0 + x3) (ln (gF h5 r0 45))) ∧ (P (some (.int (gI h5 (gF h5 r0 45) (0 + x3).toNatClampNeg))) h5))))))) ∧ (¬ (¬ x3 < 0 ∧ ¬ 15 < x3) → P (some (.int (-2))) h)))) : Rr mX12_shape 0 0 0 [(0, .ref r0), (1, .int x1), (2, .int x2), (3, .int x3)] [] h P := by
  refine R_iload_n dX12_shape_0 rfl 1 rfl ?_
  refine R_callS (N := mX12_isInkNumber) (as := [.int x1]) (rest := []) (kc2 := 0) (ks2 := 0) dX12_shape_1 lmX12_259 oX12_isInkNumber (Nat.le_of_ble_eq_true rfl) rfl rfl (Nat.le_of_ble_eq_true rfl) rfl rfl (aX12_isInkNumber  ?_)
  refine R_if_eq_b (tgt := 27) dX12_shape_4 (by decide) (fun b1 => ?_) (fun b1 => ?_)
  · have hf := hf.1 b1
    refine R_bipush (v := (-2)) dX12_shape_27 (by decide) ?_
    exact R_iret dX12_shape_29 rfl rfl hf
  · have hf := hf.2 b1
    refine R_iload_n dX12_shape_7 rfl 2 rfl ?_
    refine R_bipush (v := (-2)) dX12_shape_8 (by decide) ?_
    refine R_iconst (v := 2) dX12_shape_10 (by decide) ?_
    refine R_callS (N := mX12_in) (as := [.int x2, .int (-2), .int 2]) (rest := []) (kc2 := 0) (ks2 := 0) dX12_shape_11 lmX12_178 oX12_in (Nat.le_of_ble_eq_true rfl) rfl rfl (Nat.le_of_ble_eq_true rfl) rfl rfl (aX12_in  ?_)
    refine R_if_eq_b (tgt := 27) dX12_shape_14 (by decide) (fun b2 => ?_) (fun b2 => ?_)
    · have hf := hf.1 b2
      refine R_bipush (v := (-2)) dX12_shape_27 (by decide) ?_
      exact R_iret dX12_shape_29 rfl rfl hf
    · have hf := hf.2 b2
      refine R_iload_n dX12_shape_17 rfl 3 rfl ?_
      refine R_iconst (v := 0) dX12_shape_18 (by decide) ?_
      refine R_bipush (v := 15) dX12_shape_19 (by decide) ?_
      refine R_callS (N := mX12_in) (as := [.int x3, .int 0, .int 15]) (rest := []) (kc2 := 0) (ks2 := 0) dX12_shape_21 lmX12_178 oX12_in (Nat.le_of_ble_eq_true rfl) rfl rfl (Nat.le_of_ble_eq_true rfl) rfl rfl (aX12_in  ?_)
      refine R_if_ne_b (tgt := 30) dX12_shape_24 (by decide) (fun b3 => ?_) (fun b3 => ?_)
      · have hf := hf.1 b3
        refine R_aload_n dX12_shape_30 rfl 0 rfl ?_
        refine R_iload_n dX12_shape_31 rfl 1 rfl ?_
        refine R_iload_n dX12_shape_32 rfl 2 rfl ?_
        refine R_iconst (v := 0) dX12_shape_33 (by decide) ?_
        obtain ⟨ob4, hf⟩ := hf
        refine R_callV (ci := 12) (N := mX12_spreadTo) (as := [.int x1, .int x2, .int 0]) (rest := []) (kc2 := 0) (ks2 := 0) dX12_shape_34 lmX12_303 oX12_spreadTo (Nat.le_of_ble_eq_true rfl) rfl rfl (Nat.le_of_ble_eq_true rfl) rfl rfl ob4 ok12 (Call.mono hf ?_)
        rintro _ h5 ⟨rfl, hf⟩
        refine R_aload_n dX12_shape_37 rfl 0 rfl ?_
        obtain ⟨ob6, hf⟩ := hf
        refine G12_45 dX12_shape_38 lfX12_93 ob6 ?_
        refine R_iconst (v := 0) dX12_shape_41 (by decide) ?_
        refine R_iload_n dX12_shape_42 rfl 3 rfl ?_
        refine R_iadd dX12_shape_43 ?_
        obtain ⟨ob7, hf⟩ := hf
        obtain ⟨ob8, hf⟩ := hf
        refine R_iaload dX12_shape_44 ob7 ob8 ?_
        exact R_iret dX12_shape_45 rfl rfl hf
      · have hf := hf.2 b3
        refine R_bipush (v := (-2)) dX12_shape_27 (by decide) ?_
        exact R_iret dX12_shape_29 rfl rfl hf
theorem dX12_shift_0 : decode cX12_shift 0 = .ok (.iload_n 1, 1) := by decide +kernel
theorem dX12_shift_1 : decode cX12_shift 1 = .ok (.iload_n 2, 1) := by decide +kernel
theorem dX12_shift_2 : decode cX12_shift 2 = .ok (.iload_n 3, 1) := by decide +kernel
theorem dX12_shift_3 : decode cX12_shift 3 = .ok (.iload 4, 2) := by decide +kernel
theorem dX12_shift_5 : decode cX12_shift 5 = .ok (.invokestatic 262, 3) := by decide +kernel
theorem dX12_shift_8 : decode cX12_shift 8 = .ok (.ifCond .eq 37, 3) := by decide +kernel
theorem dX12_shift_11 : decode cX12_shift 11 = .ok (.iload 5, 2) := by decide +kernel
theorem dX12_shift_13 : decode cX12_shift 13 = .ok (.iconst 0, 1) := by decide +kernel
theorem dX12_shift_14 : decode cX12_shift 14 = .ok (.sipush 200, 3) := by decide +kernel
theorem dX12_shift_17 : decode cX12_shift 17 = .ok (.invokestatic 178, 3) := by decide +kernel
theorem dX12_shift_20 : decode cX12_shift 20 = .ok (.ifCond .eq 25, 3) := by decide +kernel
theorem dX12_shift_23 : decode cX12_shift 23 = .ok (.iload 6, 2) := by decide +kernel
theorem dX12_shift_25 : decode cX12_shift 25 = .ok (.iconst 0, 1) := by decide +kernel
theorem dX12_shift_26 : decode cX12_shift 26 = .ok (.sipush 200, 3) := by decide +kernel
theorem dX12_shift_29 : decode cX12_shift 29 = .ok (.invokestatic 178, 3) := by decide +kernel
theorem dX12_shift_32 : decode cX12_shift 32 = .ok (.ifCond .eq 13, 3) := by decide +kernel
theorem dX12_shift_35 : decode cX12_shift 35 = .ok (.iload 7, 2) := by decide +kernel
theorem dX12_shift_37 : decode cX12_shift 37 = .ok (.iconst 0, 1) := by decide +kernel
theorem dX12_shift_38 : decode cX12_shift 38 = .ok (.iconst 1, 1) := by decide +kernel
theorem dX12_shift_39 : decode cX12_shift 39 = .ok (.invokestatic 178, 3) := by decide +kernel
theorem dX12_shift_42 : decode cX12_shift 42 = .ok (.ifCond .ne 7, 3) := by decide +kernel
theorem dX12_shift_45 : decode cX12_shift 45 = .ok (.sipush (-9999), 3) := by decide +kernel
theorem dX12_shift_48 : decode cX12_shift 48 = .ok (.ireturn, 1) := by decide +kernel
theorem dX12_shift_49 : decode cX12_shift 49 = .ok (.iload 7, 2) := by decide +kernel
theorem dX12_shift_51 : decode cX12_shift 51 = .ok (.ifCond .ne 17, 3) := by decide +kernel
theorem dX12_shift_54 : decode cX12_shift 54 = .ok (.iload_n 1, 1) := by decide +kernel
theorem dX12_shift_55 : decode cX12_shift 55 = .ok (.iload_n 3, 1) := by decide +kernel
theorem dX12_shift_56 : decode cX12_shift 56 = .ok (.iload 4, 2) := by decide +kernel
theorem dX12_shift_58 : decode cX12_shift 58 = .ok (.iload 5, 2) := by decide +kernel
theorem dX12_shift_60 : decode cX12_shift 60 = .ok (.iload 6, 2) := by decide +kernel
theorem dX12_shift_62 : decode cX12_shift 62 = .ok (.invokestatic 266, 3) := by decide +kernel
theorem dX12_shift_65 : decode cX12_shift 65 = .ok (.goto 14, 3) := by decide +kernel
theorem dX12_shift_68 : decode cX12_shift 68 = .ok (.iload_n 2, 1) := by decide +kernel
theorem dX12_shift_69 : decode cX12_shift 69 = .ok (.iload_n 3, 1) := by decide +kernel
theorem dX12_shift_70 : decode cX12_shift 70 = .ok (.iload 4, 2) := by decide +kernel
theorem dX12_shift_72 : decode cX12_shift 72 = .ok (.iload 5, 2) := by decide +kernel
theorem dX12_shift_74 : decode cX12_shift 74 = .ok (.iload 6, 2) := by decide +kernel
theorem dX12_shift_76 : decode cX12_shift 76 = .ok (.invokestatic 270, 3) := by decide +kernel
theorem dX12_shift_79 : decode cX12_shift 79 = .ok (.ireturn, 1) := by decide +kernel
set_option maxRecDepth 20000 in
theorem sX12_shift_0 {P : Option Value → AH → Prop} (h : AH) (r0 : Nat) (x1 : Int32) (x2 : Int32) (x3 : Int32) (x4 : Int32) (x5 : Int32) (x6 : Int32) (x7 : Int32) (hf : (¬ ((¬ x1 < (-9) ∧ ¬ 9 < x1) ∧ (¬ x2 < (-9) ∧ ¬ 9 < x2) ∧ (¬ x3 < (-9) ∧ ¬ 9 < x3) ∧ (¬ x4 < 0 ∧ ¬ 9 < x4)) → P (some (.int (-9999))) h) ∧ (((¬ x1 < (-9) ∧ ¬ 9 < x1) ∧ (¬ x2 < (-9) ∧ ¬ 9 < x2) ∧ (¬ x3 < (-9) ∧ ¬ 9 < x3) ∧ (¬ x4 < 0 ∧ ¬ 9 < x4)) → (¬ (¬ x5 < 0 ∧ ¬ 200 < x5) → P (some (.int (-9999))) h) ∧ ((¬ x5 < 0 ∧ ¬ 200 < x5) → (¬ (¬ x6 < 0 ∧ ¬ 200 < x6) → P (some (.int (-9999))) h) ∧ ((¬ x6 < 0 ∧ ¬ 200 < x6) → ((¬ x7 < 0 ∧ ¬ 1 < x7) → ∀ z6 : Int32, z6 = (if x7 = 0 then (x1 + (((x4 * x5) - (x3 * x6)) / 100)) else (x2 + (((x3 * x5) + (x4 * x6)) / 100))) → (P (some (.int z6)) h)) ∧ (¬ (¬ x7 < 0 ∧ ¬ 1 < x7) → P (some (.int (-9999))) h))))) : Rr mX12_shift 0 0 0 [(0, .ref r0), (1, .int x1), (2, .int x2), (3, .int x3), (4, .int x4), (5, .int x5), (6, .int x6), (7, .int x7)] [] h P := by
  refine R_iload_n dX12_shift_0 rfl 1 rfl ?_
  refine R_iload_n dX12_shift_1 rfl 2 rfl ?_
  refine R_iload_n dX12_shift_2 rfl 3 rfl ?_
  refine R_iload dX12_shift_3 4 rfl ?_
  refine R_callS (N := mX12_isSlip) (as := [.int x1, .int x2, .int x3, .int x4]) (rest := []) (kc2 := 0) (ks2 := 0) dX12_shift_5 lmX12_262 oX12_isSlip (Nat.le_of_ble_eq_true rfl) rfl rfl (Nat.le_of_ble_eq_true rfl) rfl rfl (aX12_isSlip  ?_)
  refine R_if_eq_b (tgt := 45) dX12_shift_8 (by decide) (fun b1 => ?_) (fun b1 => ?_)
  · have hf := hf.1 b1
    refine R_sipush (v := (-9999)) dX12_shift_45 (by decide) ?_
    exact R_iret dX12_shift_48 rfl rfl hf
  · have hf := hf.2 b1
    refine R_iload dX12_shift_11 5 rfl ?_
    refine R_iconst (v := 0) dX12_shift_13 (by decide) ?_
    refine R_sipush (v := 200) dX12_shift_14 (by decide) ?_
    refine R_callS (N := mX12_in) (as := [.int x5, .int 0, .int 200]) (rest := []) (kc2 := 0) (ks2 := 0) dX12_shift_17 lmX12_178 oX12_in (Nat.le_of_ble_eq_true rfl) rfl rfl (Nat.le_of_ble_eq_true rfl) rfl rfl (aX12_in  ?_)
    refine R_if_eq_b (tgt := 45) dX12_shift_20 (by decide) (fun b2 => ?_) (fun b2 => ?_)
    · have hf := hf.1 b2
      refine R_sipush (v := (-9999)) dX12_shift_45 (by decide) ?_
      exact R_iret dX12_shift_48 rfl rfl hf
    · have hf := hf.2 b2
      refine R_iload dX12_shift_23 6 rfl ?_
      refine R_iconst (v := 0) dX12_shift_25 (by decide) ?_
      refine R_sipush (v := 200) dX12_shift_26 (by decide) ?_
      refine R_callS (N := mX12_in) (as := [.int x6, .int 0, .int 200]) (rest := []) (kc2 := 0) (ks2 := 0) dX12_shift_29 lmX12_178 oX12_in (Nat.le_of_ble_eq_true rfl) rfl rfl (Nat.le_of_ble_eq_true rfl) rfl rfl (aX12_in  ?_)
      refine R_if_eq_b (tgt := 45) dX12_shift_32 (by decide) (fun b3 => ?_) (fun b3 => ?_)
      · have hf := hf.1 b3
        refine R_sipush (v := (-9999)) dX12_shift_45 (by decide) ?_
        exact R_iret dX12_shift_48 rfl rfl hf
      · have hf := hf.2 b3
        refine R_iload dX12_shift_35 7 rfl ?_
        refine R_iconst (v := 0) dX12_shift_37 (by decide) ?_
        refine R_iconst (v := 1) dX12_shift_38 (by decide) ?_
        refine R_callS (N := mX12_in) (as := [.int x7, .int 0, .int 1]) (rest := []) (kc2 := 0) (ks2 := 0) dX12_shift_39 lmX12_178 oX12_in (Nat.le_of_ble_eq_true rfl) rfl rfl (Nat.le_of_ble_eq_true rfl) rfl rfl (aX12_in  ?_)
        refine R_if_ne_b (tgt := 49) dX12_shift_42 (by decide) (fun b4 => ?_) (fun b4 => ?_)
        · have hf := hf.1 b4
          refine R_iload dX12_shift_49 7 rfl ?_
          have key : ∀ z6 : Int32, z6 = (if x7 = 0 then (x1 + (((x4 * x5) - (x3 * x6)) / 100)) else (x2 + (((x3 * x5) + (x4 * x6)) / 100))) → Rr mX12_shift 0 0 79 [] [.int z6] h P := by
            intro z6 ez6
            have hf := hf z6 ez6
            exact R_iret dX12_shift_79 rfl rfl hf
          refine R_if_ne (tgt := 68) dX12_shift_51 (by decide) (fun b5 => ?_) (fun b5 => ?_)
          · refine R_iload_n dX12_shift_68 rfl 2 rfl ?_
            refine R_iload_n dX12_shift_69 rfl 3 rfl ?_
            refine R_iload dX12_shift_70 4 rfl ?_
            refine R_iload dX12_shift_72 5 rfl ?_
            refine R_iload dX12_shift_74 6 rfl ?_
            refine R_callS (N := mX12_upAt) (as := [.int x2, .int x3, .int x4, .int x5, .int x6]) (rest := []) (kc2 := 0) (ks2 := 0) dX12_shift_76 lmX12_270 oX12_upAt (Nat.le_of_ble_eq_true rfl) rfl rfl (Nat.le_of_ble_eq_true rfl) rfl rfl (aX12_upAt  ?_)
            exact R_sub [] rfl (key _ (by rw [if_neg b5]))
          · refine R_iload_n dX12_shift_54 rfl 1 rfl ?_
            refine R_iload_n dX12_shift_55 rfl 3 rfl ?_
            refine R_iload dX12_shift_56 4 rfl ?_
            refine R_iload dX12_shift_58 5 rfl ?_
            refine R_iload dX12_shift_60 6 rfl ?_
            refine R_callS (N := mX12_acrossAt) (as := [.int x1, .int x3, .int x4, .int x5, .int x6]) (rest := []) (kc2 := 0) (ks2 := 0) dX12_shift_62 lmX12_266 oX12_acrossAt (Nat.le_of_ble_eq_true rfl) rfl rfl (Nat.le_of_ble_eq_true rfl) rfl rfl (aX12_acrossAt  ?_)
            refine R_goto (tgt := 79) dX12_shift_65 (by decide) ?_
            exact R_sub [] rfl (key _ (by rw [if_pos b5]))
        · have hf := hf.2 b4
          refine R_sipush (v := (-9999)) dX12_shift_45 (by decide) ?_
          exact R_iret dX12_shift_48 rfl rfl hf
theorem aX12_shift {h : AH} {P : Option Value → AH → Prop} {r0 : Nat} {x1 : Int32} {x2 : Int32} {x3 : Int32} {x4 : Int32} {x5 : Int32} {x6 : Int32} {x7 : Int32}  (k : P (some (.int (if ((¬ x1 < (-9) ∧ ¬ 9 < x1) ∧ (¬ x2 < (-9) ∧ ¬ 9 < x2) ∧ (¬ x3 < (-9) ∧ ¬ 9 < x3) ∧ (¬ x4 < 0 ∧ ¬ 9 < x4)) then (if (¬ x5 < 0 ∧ ¬ 200 < x5) then (if (¬ x6 < 0 ∧ ¬ 200 < x6) then (if (¬ x7 < 0 ∧ ¬ 1 < x7) then (if x7 = 0 then (x1 + (((x4 * x5) - (x3 * x6)) / 100)) else (x2 + (((x3 * x5) + (x4 * x6)) / 100))) else (-9999)) else (-9999)) else (-9999)) else (-9999)))) h) : Call mX12_shift [.ref r0, .int x1, .int x2, .int x3, .int x4, .int x5, .int x6, .int x7] h P :=
  Call.ofR (by decide +kernel) (Nat.le_of_ble_eq_true rfl) (sX12_shift_0 h r0 x1 x2 x3 x4 x5 x6 x7 (⟨fun b0 => by rw [if_neg b0] at k; exact k, fun b0 => ⟨fun b1 => by rw [if_pos b0, if_neg b1] at k; exact k, fun b1 => ⟨fun b2 => by rw [if_pos b0, if_pos b1, if_neg b2] at k; exact k, fun b2 => ⟨fun b3 => fun z6 ez6 => by subst ez6; exact (by rw [if_pos b0, if_pos b1, if_pos b2, if_pos b3] at k; exact k), fun b3 => by rw [if_pos b0, if_pos b1, if_pos b2, if_neg b3] at k; exact k⟩⟩⟩⟩))
theorem dX12_sum_0 : decode cX12_sum 0 = .ok (.aload_n 0, 1) := by decide +kernel
theorem dX12_sum_1 : decode cX12_sum 1 = .ok (.iload_n 1, 1) := by decide +kernel
theorem dX12_sum_2 : decode cX12_sum 2 = .ok (.invokevirtual 368, 3) := by decide +kernel
theorem dX12_sum_5 : decode cX12_sum 5 = .ok (.istore_n 2, 1) := by decide +kernel
theorem dX12_sum_6 : decode cX12_sum 6 = .ok (.iload_n 2, 1) := by decide +kernel
theorem dX12_sum_7 : decode cX12_sum 7 = .ok (.iconst (-1), 1) := by decide +kernel
theorem dX12_sum_8 : decode cX12_sum 8 = .ok (.if_icmp .ne 8, 3) := by decide +kernel
theorem dX12_sum_11 : decode cX12_sum 11 = .ok (.bipush (-2), 2) := by decide +kernel
theorem dX12_sum_13 : decode cX12_sum 13 = .ok (.goto 4, 3) := by decide +kernel
theorem dX12_sum_16 : decode cX12_sum 16 = .ok (.iload_n 2, 1) := by decide +kernel
theorem dX12_sum_17 : decode cX12_sum 17 = .ok (.ireturn, 1) := by decide +kernel
set_option maxRecDepth 20000 in
theorem sX12_sum_0 {P : Option Value → AH → Prop} (h : AH) (r0 : Nat) (x1 : Int32) (hf : (isO h 12 r0) ∧ (Call mX12_sumOf [.ref r0, .int x1] h (fun v h2 => ∃ z3 : Int32, v = some (.int z3) ∧ (∀ z5 : Int32, z5 = (if z3 = (-1) then (-2) else z3) → (P (some (.int z5)) h2))))) : Rr mX12_sum 0 0 0 [(0, .ref r0), (1, .int x1)] [] h P := by
  refine R_aload_n dX12_sum_0 rfl 0 rfl ?_
  refine R_iload_n dX12_sum_1 rfl 1 rfl ?_
  obtain ⟨ob1, hf⟩ := hf
  refine R_callV (ci := 12) (N := mX12_sumOf) (as := [.int x1]) (rest := []) (kc2 := 0) (ks2 := 0) dX12_sum_2 lmX12_368 oX12_sumOf (Nat.le_of_ble_eq_true rfl) rfl rfl (Nat.le_of_ble_eq_true rfl) rfl rfl ob1 ok12 (Call.mono hf ?_)
  rintro _ h2 ⟨z3, rfl, hf⟩
  refine R_istore_n dX12_sum_5 rfl (by decide) rfl ?_
  refine R_iload_n dX12_sum_6 rfl 0 rfl ?_
  refine R_iconst (v := (-1)) dX12_sum_7 (by decide) ?_
  have key : ∀ z5 : Int32, z5 = (if z3 = (-1) then (-2) else z3) → Rr mX12_sum 0 0 17 [] [.int z5] h2 P := by
    intro z5 ez5
    have hf := hf z5 ez5
    exact R_iret dX12_sum_17 rfl rfl hf
  refine R_icmp_ne (tgt := 16) dX12_sum_8 (by decide) (fun b4 => ?_) (fun b4 => ?_)
  · refine R_iload_n dX12_sum_16 rfl 0 rfl ?_
    exact R_sub [] rfl (key _ (by rw [if_neg b4]))
  · refine R_bipush (v := (-2)) dX12_sum_11 (by decide) ?_
    refine R_goto (tgt := 17) dX12_sum_13 (by decide) ?_
    exact R_sub [] rfl (key _ (by rw [if_pos b4]))
theorem dX1_gather_0 : decode cX1_gather 0 = .ok (.aload_n 0, 1) := by decide +kernel
theorem dX1_gather_1 : decode cX1_gather 1 = .ok (.iconst 0, 1) := by decide +kernel
theorem dX1_gather_2 : decode cX1_gather 2 = .ok (.putfield 63, 3) := by decide +kernel
theorem dX1_gather_5 : decode cX1_gather 5 = .ok (.iconst 0, 1) := by decide +kernel
theorem dX1_gather_6 : decode cX1_gather 6 = .ok (.istore 5, 2) := by decide +kernel
theorem dX1_gather_8 : decode cX1_gather 8 = .ok (.iload 5, 2) := by decide +kernel
theorem dX1_gather_10 : decode cX1_gather 10 = .ok (.aload_n 2, 1) := by decide +kernel
theorem dX1_gather_11 : decode cX1_gather 11 = .ok (.getfield 66, 3) := by decide +kernel
theorem dX1_gather_14 : decode cX1_gather 14 = .ok (.if_icmp .ge 126, 3) := by decide +kernel
theorem dX1_gather_17 : decode cX1_gather 17 = .ok (.aload_n 0, 1) := by decide +kernel
theorem dX1_gather_18 : decode cX1_gather 18 = .ok (.getfield 63, 3) := by decide +kernel
theorem dX1_gather_21 : decode cX1_gather 21 = .ok (.aload_n 0, 1) := by decide +kernel
theorem dX1_gather_22 : decode cX1_gather 22 = .ok (.getfield 9, 3) := by decide +kernel
theorem dX1_gather_25 : decode cX1_gather 25 = .ok (.arraylength, 1) := by decide +kernel
theorem dX1_gather_26 : decode cX1_gather 26 = .ok (.if_icmp .ge 114, 3) := by decide +kernel
theorem dX1_gather_29 : decode cX1_gather 29 = .ok (.aload_n 2, 1) := by decide +kernel
theorem dX1_gather_30 : decode cX1_gather 30 = .ok (.iload 5, 2) := by decide +kernel
theorem dX1_gather_32 : decode cX1_gather 32 = .ok (.invokevirtual 67, 3) := by decide +kernel
theorem dX1_gather_35 : decode cX1_gather 35 = .ok (.istore 6, 2) := by decide +kernel
theorem dX1_gather_37 : decode cX1_gather 37 = .ok (.aload_n 2, 1) := by decide +kernel
theorem dX1_gather_38 : decode cX1_gather 38 = .ok (.iload 5, 2) := by decide +kernel
theorem dX1_gather_40 : decode cX1_gather 40 = .ok (.iload_n 3, 1) := by decide +kernel
theorem dX1_gather_41 : decode cX1_gather 41 = .ok (.iload 4, 2) := by decide +kernel
theorem dX1_gather_43 : decode cX1_gather 43 = .ok (.invokevirtual 71, 3) := by decide +kernel
theorem dX1_gather_46 : decode cX1_gather 46 = .ok (.ifCond .eq 88, 3) := by decide +kernel
theorem dX1_gather_49 : decode cX1_gather 49 = .ok (.iload 6, 2) := by decide +kernel
theorem dX1_gather_51 : decode cX1_gather 51 = .ok (.aload_n 1, 1) := by decide +kernel
theorem dX1_gather_52 : decode cX1_gather 52 = .ok (.getfield 75, 3) := by decide +kernel
theorem dX1_gather_55 : decode cX1_gather 55 = .ok (.if_icmp .ge 79, 3) := by decide +kernel
theorem dX1_gather_58 : decode cX1_gather 58 = .ok (.aload_n 0, 1) := by decide +kernel
theorem dX1_gather_59 : decode cX1_gather 59 = .ok (.getfield 9, 3) := by decide +kernel
theorem dX1_gather_62 : decode cX1_gather 62 = .ok (.aload_n 0, 1) := by decide +kernel
theorem dX1_gather_63 : decode cX1_gather 63 = .ok (.getfield 63, 3) := by decide +kernel
theorem dX1_gather_66 : decode cX1_gather 66 = .ok (.aload_n 1, 1) := by decide +kernel
theorem dX1_gather_67 : decode cX1_gather 67 = .ok (.getfield 78, 3) := by decide +kernel
theorem dX1_gather_70 : decode cX1_gather 70 = .ok (.iload 6, 2) := by decide +kernel
theorem dX1_gather_72 : decode cX1_gather 72 = .ok (.iaload, 1) := by decide +kernel
theorem dX1_gather_73 : decode cX1_gather 73 = .ok (.iastore, 1) := by decide +kernel
theorem dX1_gather_74 : decode cX1_gather 74 = .ok (.aload_n 0, 1) := by decide +kernel
theorem dX1_gather_75 : decode cX1_gather 75 = .ok (.getfield 15, 3) := by decide +kernel
theorem dX1_gather_78 : decode cX1_gather 78 = .ok (.aload_n 0, 1) := by decide +kernel
theorem dX1_gather_79 : decode cX1_gather 79 = .ok (.getfield 63, 3) := by decide +kernel
theorem dX1_gather_82 : decode cX1_gather 82 = .ok (.aload_n 1, 1) := by decide +kernel
theorem dX1_gather_83 : decode cX1_gather 83 = .ok (.getfield 81, 3) := by decide +kernel
theorem dX1_gather_86 : decode cX1_gather 86 = .ok (.iload 6, 2) := by decide +kernel
theorem dX1_gather_88 : decode cX1_gather 88 = .ok (.iaload, 1) := by decide +kernel
theorem dX1_gather_89 : decode cX1_gather 89 = .ok (.iastore, 1) := by decide +kernel
theorem dX1_gather_90 : decode cX1_gather 90 = .ok (.aload_n 0, 1) := by decide +kernel
theorem dX1_gather_91 : decode cX1_gather 91 = .ok (.getfield 18, 3) := by decide +kernel
theorem dX1_gather_94 : decode cX1_gather 94 = .ok (.aload_n 0, 1) := by decide +kernel
theorem dX1_gather_95 : decode cX1_gather 95 = .ok (.getfield 63, 3) := by decide +kernel
theorem dX1_gather_98 : decode cX1_gather 98 = .ok (.aload_n 2, 1) := by decide +kernel
theorem dX1_gather_99 : decode cX1_gather 99 = .ok (.iload 5, 2) := by decide +kernel
theorem dX1_gather_101 : decode cX1_gather 101 = .ok (.iload 4, 2) := by decide +kernel
theorem dX1_gather_103 : decode cX1_gather 103 = .ok (.invokevirtual 84, 3) := by decide +kernel
theorem dX1_gather_106 : decode cX1_gather 106 = .ok (.iastore, 1) := by decide +kernel
theorem dX1_gather_107 : decode cX1_gather 107 = .ok (.aload_n 0, 1) := by decide +kernel
theorem dX1_gather_108 : decode cX1_gather 108 = .ok (.getfield 21, 3) := by decide +kernel
theorem dX1_gather_111 : decode cX1_gather 111 = .ok (.aload_n 0, 1) := by decide +kernel
theorem dX1_gather_112 : decode cX1_gather 112 = .ok (.getfield 63, 3) := by decide +kernel
theorem dX1_gather_115 : decode cX1_gather 115 = .ok (.aload_n 2, 1) := by decide +kernel
theorem dX1_gather_116 : decode cX1_gather 116 = .ok (.iload 5, 2) := by decide +kernel
theorem dX1_gather_118 : decode cX1_gather 118 = .ok (.iload 4, 2) := by decide +kernel
theorem dX1_gather_120 : decode cX1_gather 120 = .ok (.invokevirtual 88, 3) := by decide +kernel
theorem dX1_gather_123 : decode cX1_gather 123 = .ok (.iastore, 1) := by decide +kernel
theorem dX1_gather_124 : decode cX1_gather 124 = .ok (.aload_n 0, 1) := by decide +kernel
theorem dX1_gather_125 : decode cX1_gather 125 = .ok (.dup, 1) := by decide +kernel
theorem dX1_gather_126 : decode cX1_gather 126 = .ok (.getfield 63, 3) := by decide +kernel
theorem dX1_gather_129 : decode cX1_gather 129 = .ok (.iconst 1, 1) := by decide +kernel
theorem dX1_gather_130 : decode cX1_gather 130 = .ok (.iadd, 1) := by decide +kernel
theorem dX1_gather_131 : decode cX1_gather 131 = .ok (.putfield 63, 3) := by decide +kernel
theorem dX1_gather_134 : decode cX1_gather 134 = .ok (.iinc 5 1, 3) := by decide +kernel
theorem dX1_gather_137 : decode cX1_gather 137 = .ok (.goto (-129), 3) := by decide +kernel
theorem dX1_gather_140 : decode cX1_gather 140 = .ok (.return_, 1) := by decide +kernel
set_option maxRecDepth 20000 in
theorem sX1_gather_0 {P : Option Value → AH → Prop} (h : AH) (r0 : Nat) (r1 : Nat) (r2 : Nat) (x3 : Int32) (x4 : Int32) (hf : (isO h 1 r0) ∧ (Rr mX1_gather 0 0 8 [(0, .ref r0), (1, .ref r1), (2, .ref r2), (3, .int x3), (4, .int x4), (5, .int 0)] [] (sI h r0 0 0) P)) : Rr mX1_gather 0 0 0 [(0, .ref r0), (1, .ref r1), (2, .ref r2), (3, .int x3), (4, .int x4)] [] h P := by
  refine R_aload_n dX1_gather_0 rfl 0 rfl ?_
  refine R_iconst (v := 0) dX1_gather_1 (by decide) ?_
  obtain ⟨ob1, hf⟩ := hf
  refine S1_0 dX1_gather_2 lfX1_63 ob1 ?_
  refine R_iconst (v := 0) dX1_gather_5 (by decide) ?_
  refine R_istore dX1_gather_6 (by decide) rfl ?_
  exact R_sub [1, 2, 3, 4, 5, 0] rfl hf
set_option maxRecDepth 20000 in
theorem sX1_gather_8 {P : Option Value → AH → Prop} (h : AH) (r0 : Nat) (r1 : Nat) (r2 : Nat) (x3 : Int32) (x4 : Int32) (x5 : Int32) (hf : (isO h 7 r2) ∧ (((gI h r2 0) ≤ x5 → P none h) ∧ (¬ (gI h r2 0) ≤ x5 → (isO h 1 r0) ∧ ((isA h 0 (gF h r0 1)) ∧ (((Int32.ofNat (ln (gF h r0 1))) ≤ (gI h r0 0) → P none h) ∧ (¬ (Int32.ofNat (ln (gF h r0 1))) ≤ (gI h r0 0) → (isA h 0 (gF h r2 5)) ∧ ((vp_in x5 (ln (gF h r2 5))) ∧ ((isA h 0 (gF h r2 4)) ∧ ((vp_in x5 (ln (gF h r2 4))) ∧ ((isA h 0 (gF h r2 3)) ∧ (((gI h (gF h r2 4) x5.toNatClampNeg) = x3 → vp_in x5 (ln (gF h r2 3))) ∧ ((¬ ((gI h (gF h r2 4) x5.toNatClampNeg) = x3 ∧ ¬ x4 < (gI h (gF h r2 3) x5.toNatClampNeg)) → Rr mX1_gather 0 0 8 [(0, .ref r0), (1, .ref r1), (2, .ref r2), (3, .int x3), (4, .int x4), (5, .int (x5 + 1))] [] h P) ∧ (((gI h (gF h r2 4) x5.toNatClampNeg) = x3 ∧ ¬ x4 < (gI h (gF h r2 3) x5.toNatClampNeg)) → (isO h 3 r1) ∧ (((gI h r1 3) ≤ (gI h (gF h r2 5) x5.toNatClampNeg) → Rr mX1_gather 0 0 8 [(0, .ref r0), (1, .ref r1), (2, .ref r2), (3, .int x3), (4, .int x4), (5, .int (x5 + 1))] [] h P) ∧ (¬ (gI h r1 3) ≤ (gI h (gF h r2 5) x5.toNatClampNeg) → (isA h 0 (gF h r1 4)) ∧ ((vp_in (gI h (gF h r2 5) x5.toNatClampNeg) (ln (gF h r1 4))) ∧ ((vp_in (gI h r0 0) (ln (gF h r0 1))) ∧ ((isA h 0 (gF h r1 5)) ∧ ((vp_in (gI h (gF h r2 5) x5.toNatClampNeg) (ln (gF h r1 5))) ∧ ((isA h 0 (gF h r0 2)) ∧ ((vp_in (gI h r0 0) (ln (gF h r0 2))) ∧ (Call mX7_acrossKnown [.ref r2, .int x5, .int x4] (sI (sI h (gF h r0 1) (gI h r0 0).toNatClampNeg (gI h (gF h r1 4) (gI h (gF h r2 5) x5.toNatClampNeg).toNatClampNeg)) (gF h r0 2) (gI h r0 0).toNatClampNeg (gI (sI h (gF h r0 1) (gI h r0 0).toNatClampNeg (gI h (gF h r1 4) (gI h (gF h r2 5) x5.toNatClampNeg).toNatClampNeg)) (gF h r1 5) (gI h (gF h r2 5) x5.toNatClampNeg).toNatClampNeg)) (fun v h22 => ∃ z23 : Int32, v = some (.int z23) ∧ ((isA h22 0 (gF h r0 3)) ∧ ((vp_in (gI h r0 0) (ln (gF h r0 3))) ∧ ((isO h22 1 r0) ∧ ((isO h22 7 r2) ∧ (Call mX7_upKnown [.ref r2, .int x5, .int x4] (sI h22 (gF h r0 3) (gI h r0 0).toNatClampNeg z23) (fun v h28 => ∃ z29 : Int32, v = some (.int z29) ∧ ((isA h28 0 (gF h22 r0 4)) ∧ ((vp_in (gI h22 r0 0) (ln (gF h22 r0 4))) ∧ ((isO h28 1 r0) ∧ (Rr mX1_gather 0 0 8 [(0, .ref r0), (1, .ref r1), (2, .ref r2), (3, .int x3), (4, .int x4), (5, .int (x5 + 1))] [] (sI (sI h28 (gF h22 r0 4) (gI h22 r0 0).toNatClampNeg z29) r0 0 ((gI h28 r0 0) + 1)) P))))))))))))))))))))))))))))))))) : Rr mX1_gather 0 0 8 [(0, .ref r0), (1, .ref r1), (2, .ref r2), (3, .int x3), (4, .int x4), (5, .int x5)] [] h P := by
  refine R_iload dX1_gather_8 5 rfl ?_
  refine R_aload_n dX1_gather_10 rfl 2 rfl ?_
  obtain ⟨ob1, hf⟩ := hf
  refine G7_0 dX1_gather_11 lfX1_66 ob1 ?_
  refine R_icmp_ge (tgt := 140) dX1_gather_14 (by decide) (fun b2 => ?_) (fun b2 => ?_)
  · have hf := hf.1 b2
    exact R_ret dX1_gather_140 rfl hf
  · have hf := hf.2 b2
    refine R_aload_n dX1_gather_17 rfl 0 rfl ?_
    obtain ⟨ob3, hf⟩ := hf
    refine G1_0 dX1_gather_18 lfX1_63 ob3 ?_
    refine R_aload_n dX1_gather_21 rfl 0 rfl ?_
    refine G1_1 dX1_gather_22 lfX1_9 ob3 ?_
    obtain ⟨ob4, hf⟩ := hf
    refine R_alen (v := Int32.ofNat (ln (gF h r0 1))) (by decide) dX1_gather_25 ob4 rfl ?_
    refine R_icmp_ge (tgt := 140) dX1_gather_26 (by decide) (fun b5 => ?_) (fun b5 => ?_)
    · have hf := hf.1 b5
      exact R_ret dX1_gather_140 rfl hf
    · have hf := hf.2 b5
      refine R_aload_n dX1_gather_29 rfl 2 rfl ?_
      refine R_iload dX1_gather_30 5 rfl ?_
      obtain ⟨ob6, hf⟩ := hf
      obtain ⟨ob7, hf⟩ := hf
      refine R_callV (ci := 7) (N := mX7_markOf) (as := [.int x5]) (rest := []) (kc2 := 0) (ks2 := 0) dX1_gather_32 lmX1_67 oX7_markOf (Nat.le_of_ble_eq_true rfl) rfl rfl (Nat.le_of_ble_eq_true rfl) rfl rfl ob1 ok7 (aX7_markOf ob1 ob6 ob7 ?_)
      refine R_istore dX1_gather_35 (by decide) rfl ?_
      refine R_aload_n dX1_gather_37 rfl 3 rfl ?_
      refine R_iload dX1_gather_38 6 rfl ?_
      refine R_iload_n dX1_gather_40 rfl 4 rfl ?_
      refine R_iload dX1_gather_41 5 rfl ?_
      obtain ⟨ob8, hf⟩ := hf
      obtain ⟨ob9, hf⟩ := hf
      obtain ⟨ob10, hf⟩ := hf
      obtain ⟨ob11, hf⟩ := hf
      refine R_callV (ci := 7) (N := mX7_isKnown) (as := [.int x5, .int x3, .int x4]) (rest := []) (kc2 := 0) (ks2 := 0) dX1_gather_43 lmX1_71 oX7_isKnown (Nat.le_of_ble_eq_true rfl) rfl rfl (Nat.le_of_ble_eq_true rfl) rfl rfl ob1 ok7 (aX7_isKnown ob1 ob8 ob9 ob10 ob11 ?_)
      refine R_if_eq_b (tgt := 134) dX1_gather_46 (by decide) (fun b12 => ?_) (fun b12 => ?_)
      · have hf := hf.1 b12
        refine R_iinc (v := x5 + 1) dX1_gather_134 6 rfl rfl (by decide) rfl ?_
        refine R_goto (tgt := 8) dX1_gather_137 (by decide) ?_
        exact R_sub [2, 3, 4, 5, 6, 0] rfl hf
      · have hf := hf.2 b12
        refine R_iload dX1_gather_49 0 rfl ?_
        refine R_aload_n dX1_gather_51 rfl 2 rfl ?_
        obtain ⟨ob13, hf⟩ := hf
        refine G3_3 dX1_gather_52 lfX1_75 ob13 ?_
        refine R_icmp_ge (tgt := 134) dX1_gather_55 (by decide) (fun b14 => ?_) (fun b14 => ?_)
        · have hf := hf.1 b14
          refine R_iinc (v := x5 + 1) dX1_gather_134 6 rfl rfl (by decide) rfl ?_
          refine R_goto (tgt := 8) dX1_gather_137 (by decide) ?_
          exact R_sub [2, 3, 4, 5, 6, 0] rfl hf
        · have hf := hf.2 b14
          refine R_aload_n dX1_gather_58 rfl 1 rfl ?_
          refine G1_1 dX1_gather_59 lfX1_9 ob3 ?_
          refine R_aload_n dX1_gather_62 rfl 1 rfl ?_
          refine G1_0 dX1_gather_63 lfX1_63 ob3 ?_
          refine R_aload_n dX1_gather_66 rfl 2 rfl ?_
          refine G3_4 dX1_gather_67 lfX1_78 ob13 ?_
          refine R_iload dX1_gather_70 0 rfl ?_
          obtain ⟨ob15, hf⟩ := hf
          obtain ⟨ob16, hf⟩ := hf
          refine R_iaload dX1_gather_72 ob15 ob16 ?_
          obtain ⟨ob17, hf⟩ := hf
          refine R_iastore dX1_gather_73 ob4 ob17 ?_
          refine R_aload_n dX1_gather_74 rfl 1 rfl ?_
          refine G1_2 dX1_gather_75 lfX1_15 ob3 ?_
          refine R_eqF (y := gF h r0 2) rfl ?_
          refine R_aload_n dX1_gather_78 rfl 1 rfl ?_
          refine G1_0 dX1_gather_79 lfX1_63 ob3 ?_
          refine R_eqI (y := gI h r0 0) (rd_r (ne_oa ob3 ob4 (by decide))) ?_
          refine R_aload_n dX1_gather_82 rfl 2 rfl ?_
          refine G3_5 dX1_gather_83 lfX1_81 ob13 ?_
          refine R_eqF (y := gF h r1 5) rfl ?_
          refine R_iload dX1_gather_86 0 rfl ?_
          obtain ⟨ob18, hf⟩ := hf
          obtain ⟨ob19, hf⟩ := hf
          refine R_iaload dX1_gather_88 ob18 ob19 ?_
          obtain ⟨ob20, hf⟩ := hf
          obtain ⟨ob21, hf⟩ := hf
          refine R_iastore dX1_gather_89 ob20 ob21 ?_
          refine R_aload_n dX1_gather_90 rfl 1 rfl ?_
          refine G1_3 dX1_gather_91 lfX1_18 ob3 ?_
          refine R_eqF (y := gF h r0 3) rfl ?_
          refine R_aload_n dX1_gather_94 rfl 1 rfl ?_
          refine G1_0 dX1_gather_95 lfX1_63 ob3 ?_
          refine R_eqI (y := gI h r0 0) ((rd_r (ne_oa ob3 ob20 (by decide))).trans (rd_r (ne_oa ob3 ob4 (by decide)))) ?_
          refine R_aload_n dX1_gather_98 rfl 3 rfl ?_
          refine R_iload dX1_gather_99 6 rfl ?_
          refine R_iload dX1_gather_101 5 rfl ?_
          refine R_callV (ci := 7) (N := mX7_acrossKnown) (as := [.int x5, .int x4]) (rest := [.int (gI h r0 0), .ref (gF h r0 3)]) (kc2 := 0) (ks2 := 0) dX1_gather_103 lmX1_84 oX7_acrossKnown (Nat.le_of_ble_eq_true rfl) rfl rfl (Nat.le_of_ble_eq_true rfl) rfl rfl ob1 ok7 (Call.mono hf ?_)
          rintro _ h22 ⟨z23, rfl, hf⟩
          obtain ⟨ob24, hf⟩ := hf
          obtain ⟨ob25, hf⟩ := hf
          refine R_iastore dX1_gather_106 ob24 ob25 ?_
          refine R_aload_n dX1_gather_107 rfl 1 rfl ?_
          obtain ⟨ob26, hf⟩ := hf
          refine G1_4 dX1_gather_108 lfX1_21 ob26 ?_
          refine R_eqF (y := gF h22 r0 4) rfl ?_
          refine R_aload_n dX1_gather_111 rfl 1 rfl ?_
          refine G1_0 dX1_gather_112 lfX1_63 ob26 ?_
          refine R_eqI (y := gI h22 r0 0) (rd_r (ne_oa ob26 ob24 (by decide))) ?_
          refine R_aload_n dX1_gather_115 rfl 3 rfl ?_
          refine R_iload dX1_gather_116 6 rfl ?_
          refine R_iload dX1_gather_118 5 rfl ?_
          obtain ⟨ob27, hf⟩ := hf
          refine R_callV (ci := 7) (N := mX7_upKnown) (as := [.int x5, .int x4]) (rest := [.int (gI h22 r0 0), .ref (gF h22 r0 4)]) (kc2 := 0) (ks2 := 0) dX1_gather_120 lmX1_88 oX7_upKnown (Nat.le_of_ble_eq_true rfl) rfl rfl (Nat.le_of_ble_eq_true rfl) rfl rfl ob27 ok7 (Call.mono hf ?_)
          rintro _ h28 ⟨z29, rfl, hf⟩
          obtain ⟨ob30, hf⟩ := hf
          obtain ⟨ob31, hf⟩ := hf
          refine R_iastore dX1_gather_123 ob30 ob31 ?_
          refine R_aload_n dX1_gather_124 rfl 1 rfl ?_
          refine R_dup dX1_gather_125 rfl ?_
          obtain ⟨ob32, hf⟩ := hf
          refine G1_0 dX1_gather_126 lfX1_63 ob32 ?_
          refine R_eqI (y := gI h28 r0 0) (rd_r (ne_oa ob32 ob30 (by decide))) ?_
          refine R_iconst (v := 1) dX1_gather_129 (by decide) ?_
          refine R_iadd dX1_gather_130 ?_
          refine S1_0 dX1_gather_131 lfX1_63 ob32 ?_
          refine R_iinc (v := x5 + 1) dX1_gather_134 6 rfl rfl (by decide) rfl ?_
          refine R_goto (tgt := 8) dX1_gather_137 (by decide) ?_
          exact R_sub [2, 3, 4, 5, 6, 0] rfl hf
theorem dX1_takeIn_0 : decode cX1_takeIn 0 = .ok (.aload_n 0, 1) := by decide +kernel
theorem dX1_takeIn_1 : decode cX1_takeIn 1 = .ok (.iconst 0, 1) := by decide +kernel
theorem dX1_takeIn_2 : decode cX1_takeIn 2 = .ok (.aload_n 0, 1) := by decide +kernel
theorem dX1_takeIn_3 : decode cX1_takeIn 3 = .ok (.getfield 47, 3) := by decide +kernel
theorem dX1_takeIn_6 : decode cX1_takeIn 6 = .ok (.aload_n 0, 1) := by decide +kernel
theorem dX1_takeIn_7 : decode cX1_takeIn 7 = .ok (.getfield 50, 3) := by decide +kernel
theorem dX1_takeIn_10 : decode cX1_takeIn 10 = .ok (.invokevirtual 108, 3) := by decide +kernel
theorem dX1_takeIn_13 : decode cX1_takeIn 13 = .ok (.aload_n 0, 1) := by decide +kernel
theorem dX1_takeIn_14 : decode cX1_takeIn 14 = .ok (.iconst 1, 1) := by decide +kernel
theorem dX1_takeIn_15 : decode cX1_takeIn 15 = .ok (.aload_n 0, 1) := by decide +kernel
theorem dX1_takeIn_16 : decode cX1_takeIn 16 = .ok (.getfield 53, 3) := by decide +kernel
theorem dX1_takeIn_19 : decode cX1_takeIn 19 = .ok (.aload_n 0, 1) := by decide +kernel
theorem dX1_takeIn_20 : decode cX1_takeIn 20 = .ok (.getfield 56, 3) := by decide +kernel
theorem dX1_takeIn_23 : decode cX1_takeIn 23 = .ok (.invokevirtual 108, 3) := by decide +kernel
theorem dX1_takeIn_26 : decode cX1_takeIn 26 = .ok (.aload_n 0, 1) := by decide +kernel
theorem dX1_takeIn_27 : decode cX1_takeIn 27 = .ok (.iconst 2, 1) := by decide +kernel
theorem dX1_takeIn_28 : decode cX1_takeIn 28 = .ok (.iload_n 1, 1) := by decide +kernel
theorem dX1_takeIn_29 : decode cX1_takeIn 29 = .ok (.iload_n 1, 1) := by decide +kernel
theorem dX1_takeIn_30 : decode cX1_takeIn 30 = .ok (.invokevirtual 108, 3) := by decide +kernel
theorem dX1_takeIn_33 : decode cX1_takeIn 33 = .ok (.aload_n 0, 1) := by decide +kernel
theorem dX1_takeIn_34 : decode cX1_takeIn 34 = .ok (.iconst 3, 1) := by decide +kernel
theorem dX1_takeIn_35 : decode cX1_takeIn 35 = .ok (.iload_n 2, 1) := by decide +kernel
theorem dX1_takeIn_36 : decode cX1_takeIn 36 = .ok (.iload_n 2, 1) := by decide +kernel
theorem dX1_takeIn_37 : decode cX1_takeIn 37 = .ok (.invokevirtual 108, 3) := by decide +kernel
theorem dX1_takeIn_40 : decode cX1_takeIn 40 = .ok (.aload_n 0, 1) := by decide +kernel
theorem dX1_takeIn_41 : decode cX1_takeIn 41 = .ok (.dup, 1) := by decide +kernel
theorem dX1_takeIn_42 : decode cX1_takeIn 42 = .ok (.getfield 34, 3) := by decide +kernel
theorem dX1_takeIn_45 : decode cX1_takeIn 45 = .ok (.aload_n 0, 1) := by decide +kernel
theorem dX1_takeIn_46 : decode cX1_takeIn 46 = .ok (.getfield 50, 3) := by decide +kernel
theorem dX1_takeIn_49 : decode cX1_takeIn 49 = .ok (.aload_n 0, 1) := by decide +kernel
theorem dX1_takeIn_50 : decode cX1_takeIn 50 = .ok (.getfield 47, 3) := by decide +kernel
theorem dX1_takeIn_53 : decode cX1_takeIn 53 = .ok (.isub, 1) := by decide +kernel
theorem dX1_takeIn_54 : decode cX1_takeIn 54 = .ok (.iconst 1, 1) := by decide +kernel
theorem dX1_takeIn_55 : decode cX1_takeIn 55 = .ok (.iadd, 1) := by decide +kernel
theorem dX1_takeIn_56 : decode cX1_takeIn 56 = .ok (.aload_n 0, 1) := by decide +kernel
theorem dX1_takeIn_57 : decode cX1_takeIn 57 = .ok (.getfield 56, 3) := by decide +kernel
theorem dX1_takeIn_60 : decode cX1_takeIn 60 = .ok (.aload_n 0, 1) := by decide +kernel
theorem dX1_takeIn_61 : decode cX1_takeIn 61 = .ok (.getfield 53, 3) := by decide +kernel
theorem dX1_takeIn_64 : decode cX1_takeIn 64 = .ok (.isub, 1) := by decide +kernel
theorem dX1_takeIn_65 : decode cX1_takeIn 65 = .ok (.iconst 1, 1) := by decide +kernel
theorem dX1_takeIn_66 : decode cX1_takeIn 66 = .ok (.iadd, 1) := by decide +kernel
theorem dX1_takeIn_67 : decode cX1_takeIn 67 = .ok (.imul, 1) := by decide +kernel
theorem dX1_takeIn_68 : decode cX1_takeIn 68 = .ok (.iadd, 1) := by decide +kernel
theorem dX1_takeIn_69 : decode cX1_takeIn 69 = .ok (.putfield 34, 3) := by decide +kernel
theorem dX1_takeIn_72 : decode cX1_takeIn 72 = .ok (.return_, 1) := by decide +kernel
set_option maxRecDepth 20000 in
theorem sX1_takeIn_0 {P : Option Value → AH → Prop} (h : AH) (r0 : Nat) (x1 : Int32) (x2 : Int32) (hf : (isO h 1 r0) ∧ (Call mX1_widen [.ref r0, .int 0, .int (gI h r0 5), .int (gI h r0 6)] h (fun v h2 => v = none ∧ ((isO h2 1 r0) ∧ (Call mX1_widen [.ref r0, .int 1, .int (gI h2 r0 7), .int (gI h2 r0 8)] h2 (fun v h4 => v = none ∧ ((isO h4 1 r0) ∧ (Call mX1_widen [.ref r0, .int 2, .int x1, .int x1] h4 (fun v h6 => v = none ∧ ((isO h6 1 r0) ∧ (Call mX1_widen [.ref r0, .int 3, .int x2, .int x2] h6 (fun v h8 => v = none ∧ ((isO h8 1 r0) ∧ (P none (sI h8 r0 9 ((gI h8 r0 9) + ((((gI h8 r0 6) - (gI h8 r0 5)) + 1) * (((gI h8 r0 8) - (gI h8 r0 7)) + 1)))))))))))))))))) : Rr mX1_takeIn 0 0 0 [(0, .ref r0), (1, .int x1), (2, .int x2)] [] h P := by
  refine R_aload_n dX1_takeIn_0 rfl 0 rfl ?_
  refine R_iconst (v := 0) dX1_takeIn_1 (by decide) ?_
  refine R_aload_n dX1_takeIn_2 rfl 0 rfl ?_
  obtain ⟨ob1, hf⟩ := hf
  refine G1_5 dX1_takeIn_3 lfX1_47 ob1 ?_
  refine R_aload_n dX1_takeIn_6 rfl 0 rfl ?_
  refine G1_6 dX1_takeIn_7 lfX1_50 ob1 ?_
  refine R_callV (ci := 1) (N := mX1_widen) (as := [.int 0, .int (gI h r0 5), .int (gI h r0 6)]) (rest := []) (kc2 := 0) (ks2 := 0) dX1_takeIn_10 lmX1_108 oX1_widen (Nat.le_of_ble_eq_true rfl) rfl rfl (Nat.le_of_ble_eq_true rfl) rfl rfl ob1 ok1 (Call.mono hf ?_)
  rintro _ h2 ⟨rfl, hf⟩
  refine R_aload_n dX1_takeIn_13 rfl 0 rfl ?_
  refine R_iconst (v := 1) dX1_takeIn_14 (by decide) ?_
  refine R_aload_n dX1_takeIn_15 rfl 0 rfl ?_
  obtain ⟨ob3, hf⟩ := hf
  refine G1_7 dX1_takeIn_16 lfX1_53 ob3 ?_
  refine R_aload_n dX1_takeIn_19 rfl 0 rfl ?_
  refine G1_8 dX1_takeIn_20 lfX1_56 ob3 ?_
  refine R_callV (ci := 1) (N := mX1_widen) (as := [.int 1, .int (gI h2 r0 7), .int (gI h2 r0 8)]) (rest := []) (kc2 := 0) (ks2 := 0) dX1_takeIn_23 lmX1_108 oX1_widen (Nat.le_of_ble_eq_true rfl) rfl rfl (Nat.le_of_ble_eq_true rfl) rfl rfl ob3 ok1 (Call.mono hf ?_)
  rintro _ h4 ⟨rfl, hf⟩
  refine R_aload_n dX1_takeIn_26 rfl 0 rfl ?_
  refine R_iconst (v := 2) dX1_takeIn_27 (by decide) ?_
  refine R_iload_n dX1_takeIn_28 rfl 1 rfl ?_
  refine R_iload_n dX1_takeIn_29 rfl 1 rfl ?_
  obtain ⟨ob5, hf⟩ := hf
  refine R_callV (ci := 1) (N := mX1_widen) (as := [.int 2, .int x1, .int x1]) (rest := []) (kc2 := 0) (ks2 := 0) dX1_takeIn_30 lmX1_108 oX1_widen (Nat.le_of_ble_eq_true rfl) rfl rfl (Nat.le_of_ble_eq_true rfl) rfl rfl ob5 ok1 (Call.mono hf ?_)
  rintro _ h6 ⟨rfl, hf⟩
  refine R_aload_n dX1_takeIn_33 rfl 0 rfl ?_
  refine R_iconst (v := 3) dX1_takeIn_34 (by decide) ?_
  refine R_iload_n dX1_takeIn_35 rfl 2 rfl ?_
  refine R_iload_n dX1_takeIn_36 rfl 2 rfl ?_
  obtain ⟨ob7, hf⟩ := hf
  refine R_callV (ci := 1) (N := mX1_widen) (as := [.int 3, .int x2, .int x2]) (rest := []) (kc2 := 0) (ks2 := 0) dX1_takeIn_37 lmX1_108 oX1_widen (Nat.le_of_ble_eq_true rfl) rfl rfl (Nat.le_of_ble_eq_true rfl) rfl rfl ob7 ok1 (Call.mono hf ?_)
  rintro _ h8 ⟨rfl, hf⟩
  refine R_aload_n dX1_takeIn_40 rfl 0 rfl ?_
  refine R_dup dX1_takeIn_41 rfl ?_
  obtain ⟨ob9, hf⟩ := hf
  refine G1_9 dX1_takeIn_42 lfX1_34 ob9 ?_
  refine R_aload_n dX1_takeIn_45 rfl 0 rfl ?_
  refine G1_6 dX1_takeIn_46 lfX1_50 ob9 ?_
  refine R_aload_n dX1_takeIn_49 rfl 0 rfl ?_
  refine G1_5 dX1_takeIn_50 lfX1_47 ob9 ?_
  refine R_isub dX1_takeIn_53 ?_
  refine R_iconst (v := 1) dX1_takeIn_54 (by decide) ?_
  refine R_iadd dX1_takeIn_55 ?_
  refine R_aload_n dX1_takeIn_56 rfl 0 rfl ?_
  refine G1_8 dX1_takeIn_57 lfX1_56 ob9 ?_
  refine R_aload_n dX1_takeIn_60 rfl 0 rfl ?_
  refine G1_7 dX1_takeIn_61 lfX1_53 ob9 ?_
  refine R_isub dX1_takeIn_64 ?_
  refine R_iconst (v := 1) dX1_takeIn_65 (by decide) ?_
  refine R_iadd dX1_takeIn_66 ?_
  refine R_imul dX1_takeIn_67 ?_
  refine R_iadd dX1_takeIn_68 ?_
  refine S1_9 dX1_takeIn_69 lfX1_34 ob9 ?_
  exact R_ret dX1_takeIn_72 rfl hf
theorem dX2_weigh_0 : decode cX2_weigh 0 = .ok (.lconst 1, 1) := by decide +kernel
theorem dX2_weigh_1 : decode cX2_weigh 1 = .ok (.lstore 7, 2) := by decide +kernel
theorem dX2_weigh_3 : decode cX2_weigh 3 = .ok (.aload_n 0, 1) := by decide +kernel
theorem dX2_weigh_4 : decode cX2_weigh 4 = .ok (.getfield 9, 3) := by decide +kernel
theorem dX2_weigh_7 : decode cX2_weigh 7 = .ok (.lconst 0, 1) := by decide +kernel
theorem dX2_weigh_8 : decode cX2_weigh 8 = .ok (.invokestatic 23, 3) := by decide +kernel
theorem dX2_weigh_11 : decode cX2_weigh 11 = .ok (.iconst 1, 1) := by decide +kernel
theorem dX2_weigh_12 : decode cX2_weigh 12 = .ok (.istore 9, 2) := by decide +kernel
theorem dX2_weigh_14 : decode cX2_weigh 14 = .ok (.iload 9, 2) := by decide +kernel
theorem dX2_weigh_16 : decode cX2_weigh 16 = .ok (.iload_n 1, 1) := by decide +kernel
theorem dX2_weigh_17 : decode cX2_weigh 17 = .ok (.if_icmp .gt 120, 3) := by decide +kernel
theorem dX2_weigh_20 : decode cX2_weigh 20 = .ok (.lload 7, 2) := by decide +kernel
theorem dX2_weigh_22 : decode cX2_weigh 22 = .ok (.ldc2_w 29, 3) := by decide +kernel
theorem dX2_weigh_25 : decode cX2_weigh 25 = .ok (.lmul, 1) := by decide +kernel
theorem dX2_weigh_26 : decode cX2_weigh 26 = .ok (.lstore 7, 2) := by decide +kernel
theorem dX2_weigh_28 : decode cX2_weigh 28 = .ok (.aload_n 0, 1) := by decide +kernel
theorem dX2_weigh_29 : decode cX2_weigh 29 = .ok (.iload 4, 2) := by decide +kernel
theorem dX2_weigh_31 : decode cX2_weigh 31 = .ok (.i2l, 1) := by decide +kernel
theorem dX2_weigh_32 : decode cX2_weigh 32 = .ok (.lload 7, 2) := by decide +kernel
theorem dX2_weigh_34 : decode cX2_weigh 34 = .ok (.lmul, 1) := by decide +kernel
theorem dX2_weigh_35 : decode cX2_weigh 35 = .ok (.aload_n 0, 1) := by decide +kernel
theorem dX2_weigh_36 : decode cX2_weigh 36 = .ok (.iconst 0, 1) := by decide +kernel
theorem dX2_weigh_37 : decode cX2_weigh 37 = .ok (.iload 5, 2) := by decide +kernel
theorem dX2_weigh_39 : decode cX2_weigh 39 = .ok (.iload 6, 2) := by decide +kernel
theorem dX2_weigh_41 : decode cX2_weigh 41 = .ok (.invokevirtual 31, 3) := by decide +kernel
theorem dX2_weigh_44 : decode cX2_weigh 44 = .ok (.ladd, 1) := by decide +kernel
theorem dX2_weigh_45 : decode cX2_weigh 45 = .ok (.putfield 35, 3) := by decide +kernel
theorem dX2_weigh_48 : decode cX2_weigh 48 = .ok (.iconst 0, 1) := by decide +kernel
theorem dX2_weigh_49 : decode cX2_weigh 49 = .ok (.istore 10, 2) := by decide +kernel
theorem dX2_weigh_51 : decode cX2_weigh 51 = .ok (.iload 10, 2) := by decide +kernel
theorem dX2_weigh_53 : decode cX2_weigh 53 = .ok (.bipush 6, 2) := by decide +kernel
theorem dX2_weigh_55 : decode cX2_weigh 55 = .ok (.if_icmp .gt 58, 3) := by decide +kernel
theorem dX2_weigh_58 : decode cX2_weigh 58 = .ok (.iload_n 3, 1) := by decide +kernel
theorem dX2_weigh_59 : decode cX2_weigh 59 = .ok (.iload 10, 2) := by decide +kernel
theorem dX2_weigh_61 : decode cX2_weigh 61 = .ok (.imul, 1) := by decide +kernel
theorem dX2_weigh_62 : decode cX2_weigh 62 = .ok (.i2l, 1) := by decide +kernel
theorem dX2_weigh_63 : decode cX2_weigh 63 = .ok (.lload 7, 2) := by decide +kernel
theorem dX2_weigh_65 : decode cX2_weigh 65 = .ok (.lmul, 1) := by decide +kernel
theorem dX2_weigh_66 : decode cX2_weigh 66 = .ok (.aload_n 0, 1) := by decide +kernel
theorem dX2_weigh_67 : decode cX2_weigh 67 = .ok (.iload 10, 2) := by decide +kernel
theorem dX2_weigh_69 : decode cX2_weigh 69 = .ok (.iload 5, 2) := by decide +kernel
theorem dX2_weigh_71 : decode cX2_weigh 71 = .ok (.iload 6, 2) := by decide +kernel
theorem dX2_weigh_73 : decode cX2_weigh 73 = .ok (.invokevirtual 31, 3) := by decide +kernel
theorem dX2_weigh_76 : decode cX2_weigh 76 = .ok (.ladd, 1) := by decide +kernel
theorem dX2_weigh_77 : decode cX2_weigh 77 = .ok (.lstore 11, 2) := by decide +kernel
theorem dX2_weigh_79 : decode cX2_weigh 79 = .ok (.aload_n 0, 1) := by decide +kernel
theorem dX2_weigh_80 : decode cX2_weigh 80 = .ok (.getfield 13, 3) := by decide +kernel
theorem dX2_weigh_83 : decode cX2_weigh 83 = .ok (.iload 10, 2) := by decide +kernel
theorem dX2_weigh_85 : decode cX2_weigh 85 = .ok (.lload 11, 2) := by decide +kernel
theorem dX2_weigh_87 : decode cX2_weigh 87 = .ok (.aload_n 0, 1) := by decide +kernel
theorem dX2_weigh_88 : decode cX2_weigh 88 = .ok (.getfield 35, 3) := by decide +kernel
theorem dX2_weigh_91 : decode cX2_weigh 91 = .ok (.invokestatic 39, 3) := by decide +kernel
theorem dX2_weigh_94 : decode cX2_weigh 94 = .ok (.lastore, 1) := by decide +kernel
theorem dX2_weigh_95 : decode cX2_weigh 95 = .ok (.iload 10, 2) := by decide +kernel
theorem dX2_weigh_97 : decode cX2_weigh 97 = .ok (.iload_n 2, 1) := by decide +kernel
theorem dX2_weigh_98 : decode cX2_weigh 98 = .ok (.if_icmp .ne 9, 3) := by decide +kernel
theorem dX2_weigh_101 : decode cX2_weigh 101 = .ok (.aload_n 0, 1) := by decide +kernel
theorem dX2_weigh_102 : decode cX2_weigh 102 = .ok (.lload 11, 2) := by decide +kernel
theorem dX2_weigh_104 : decode cX2_weigh 104 = .ok (.putfield 45, 3) := by decide +kernel
theorem dX2_weigh_107 : decode cX2_weigh 107 = .ok (.iinc 10 1, 3) := by decide +kernel
theorem dX2_weigh_110 : decode cX2_weigh 110 = .ok (.goto (-59), 3) := by decide +kernel
theorem dX2_weigh_113 : decode cX2_weigh 113 = .ok (.aload_n 0, 1) := by decide +kernel
theorem dX2_weigh_114 : decode cX2_weigh 114 = .ok (.getfield 13, 3) := by decide +kernel
theorem dX2_weigh_117 : decode cX2_weigh 117 = .ok (.iconst 0, 1) := by decide +kernel
theorem dX2_weigh_118 : decode cX2_weigh 118 = .ok (.aload_n 0, 1) := by decide +kernel
theorem dX2_weigh_119 : decode cX2_weigh 119 = .ok (.getfield 9, 3) := by decide +kernel
theorem dX2_weigh_122 : decode cX2_weigh 122 = .ok (.iconst 0, 1) := by decide +kernel
theorem dX2_weigh_123 : decode cX2_weigh 123 = .ok (.aload_n 0, 1) := by decide +kernel
theorem dX2_weigh_124 : decode cX2_weigh 124 = .ok (.getfield 13, 3) := by decide +kernel
theorem dX2_weigh_127 : decode cX2_weigh 127 = .ok (.arraylength, 1) := by decide +kernel
theorem dX2_weigh_128 : decode cX2_weigh 128 = .ok (.invokestatic 48, 3) := by decide +kernel
theorem dX2_weigh_131 : decode cX2_weigh 131 = .ok (.iinc 9 1, 3) := by decide +kernel
theorem dX2_weigh_134 : decode cX2_weigh 134 = .ok (.goto (-120), 3) := by decide +kernel
theorem dX2_weigh_137 : decode cX2_weigh 137 = .ok (.return_, 1) := by decide +kernel
set_option maxRecDepth 20000 in
theorem sX2_weigh_0 {P : Option Value → AH → Prop} (h : AH) (r0 : Nat) (x1 : Int32) (x2 : Int32) (x3 : Int32) (x4 : Int32) (x5 : Int32) (x6 : Int32) (hf : (isO h 2 r0) ∧ (Call mJ7_fill_d0a16 [.ref (gF h r0 0), .long 0] h (fun v h2 => v = none ∧ (Rr mX2_weigh 0 0 14 [(0, .ref r0), (1, .int x1), (2, .int x2), (3, .int x3), (4, .int x4), (5, .int x5), (6, .int x6), (7, .long 1), (9, .int 1)] [] h2 P)))) : Rr mX2_weigh 0 0 0 [(0, .ref r0), (1, .int x1), (2, .int x2), (3, .int x3), (4, .int x4), (5, .int x5), (6, .int x6)] [] h P := by
  refine R_lconst (v := 1) dX2_weigh_0 (by decide) ?_
  refine R_lstore dX2_weigh_1 (by decide) rfl ?_
  refine R_aload_n dX2_weigh_3 rfl 1 rfl ?_
  obtain ⟨ob1, hf⟩ := hf
  refine G2_0 dX2_weigh_4 lfX2_9 ob1 ?_
  refine R_lconst (v := 0) dX2_weigh_7 (by decide) ?_
  refine R_callS (N := mJ7_fill_d0a16) (as := [.ref (gF h r0 0), .long 0]) (rest := []) (kc2 := 0) (ks2 := 0) dX2_weigh_8 lmX2_23 oJ7_fill_d0a16 (Nat.le_of_ble_eq_true rfl) rfl rfl (Nat.le_of_ble_eq_true rfl) rfl rfl (Call.mono hf ?_)
  rintro _ h2 ⟨rfl, hf⟩
  refine R_iconst (v := 1) dX2_weigh_11 (by decide) ?_
  refine R_istore dX2_weigh_12 (by decide) rfl ?_
  exact R_sub [2, 3, 4, 5, 6, 7, 8, 1, 0] rfl hf
set_option maxRecDepth 20000 in
theorem sX2_weigh_14 {P : Option Value → AH → Prop} (h : AH) (r0 : Nat) (x1 : Int32) (x2 : Int32) (x3 : Int32) (x4 : Int32) (x5 : Int32) (x6 : Int32) (y7 : Int64) (x9 : Int32) (hf : (x1 < x9 → P none h) ∧ (¬ x1 < x9 → (isO h 2 r0) ∧ (Call mX2_costBehind [.ref r0, .int 0, .int x5, .int x6] h (fun v h3 => ∃ w4 : Int64, v = some (.long w4) ∧ ((isO h3 2 r0) ∧ (Rr mX2_weigh 0 0 51 [(0, .ref r0), (1, .int x1), (2, .int x2), (3, .int x3), (4, .int x4), (5, .int x5), (6, .int x6), (7, .long (y7 * 10)), (9, .int x9), (10, .int 0)] [] (sL h3 r0 3 ((x4.toInt64 * (y7 * 10)) + w4)) P)))))) : Rr mX2_weigh 0 0 14 [(0, .ref r0), (1, .int x1), (2, .int x2), (3, .int x3), (4, .int x4), (5, .int x5), (6, .int x6), (7, .long y7), (9, .int x9)] [] h P := by
  refine R_iload dX2_weigh_14 8 rfl ?_
  refine R_iload_n dX2_weigh_16 rfl 1 rfl ?_
  refine R_icmp_gt (tgt := 137) dX2_weigh_17 (by decide) (fun b1 => ?_) (fun b1 => ?_)
  · have hf := hf.1 b1
    exact R_ret dX2_weigh_137 rfl hf
  · have hf := hf.2 b1
    refine R_lload dX2_weigh_20 7 rfl ?_
    refine R_ldc2 (v := 10) dX2_weigh_22 lcX2_29 ?_
    refine R_lmul dX2_weigh_25 ?_
    refine R_lstore dX2_weigh_26 (by decide) rfl ?_
    refine R_aload_n dX2_weigh_28 rfl 1 rfl ?_
    refine R_iload dX2_weigh_29 5 rfl ?_
    refine R_i2l dX2_weigh_31 ?_
    refine R_lload dX2_weigh_32 0 rfl ?_
    refine R_lmul dX2_weigh_34 ?_
    refine R_aload_n dX2_weigh_35 rfl 1 rfl ?_
    refine R_iconst (v := 0) dX2_weigh_36 (by decide) ?_
    refine R_iload dX2_weigh_37 6 rfl ?_
    refine R_iload dX2_weigh_39 7 rfl ?_
    obtain ⟨ob2, hf⟩ := hf
    refine R_callV (ci := 2) (N := mX2_costBehind) (as := [.int 0, .int x5, .int x6]) (rest := [.long (x4.toInt64 * (y7 * 10)), .ref r0]) (kc2 := 0) (ks2 := 0) dX2_weigh_41 lmX2_31 oX2_costBehind (Nat.le_of_ble_eq_true rfl) rfl rfl (Nat.le_of_ble_eq_true rfl) rfl rfl ob2 ok2 (Call.mono hf ?_)
    rintro _ h3 ⟨w4, rfl, hf⟩
    refine R_ladd dX2_weigh_44 ?_
    obtain ⟨ob5, hf⟩ := hf
    refine S2_3 dX2_weigh_45 lfX2_35 ob5 ?_
    refine R_iconst (v := 0) dX2_weigh_48 (by decide) ?_
    refine R_istore dX2_weigh_49 (by decide) rfl ?_
    exact R_sub [2, 3, 4, 5, 6, 7, 8, 1, 9, 0] rfl hf
set_option maxRecDepth 20000 in
theorem sX2_weigh_51 {P : Option Value → AH → Prop} (h : AH) (r0 : Nat) (x1 : Int32) (x2 : Int32) (x3 : Int32) (x4 : Int32) (x5 : Int32) (x6 : Int32) (y7 : Int64) (x9 : Int32) (x10 : Int32) (hf : (6 < x10 → (isO h 2 r0) ∧ ((isA h 0 (gF h r0 1)) ∧ ((isA h 1 (gF h r0 1)) ∧ ((isA h 1 (gF h r0 0)) ∧ ((¬ (Int32.ofNat (ln (gF h r0 1))) < 0) ∧ (((Int32.toNatClampNeg 0) + (Int32.ofNat (ln (gF h r0 1))).toNatClampNeg ≤ ln (gF h r0 1)) ∧ (((Int32.toNatClampNeg 0) + (Int32.ofNat (ln (gF h r0 1))).toNatClampNeg ≤ ln (gF h r0 0)) ∧ (Rr mX2_weigh 0 0 14 [(0, .ref r0), (1, .int x1), (2, .int x2), (3, .int x3), (4, .int x4), (5, .int x5), (6, .int x6), (7, .long y7), (9, .int (x9 + 1))] [] (rL h (gF h r0 0) (va_cpy (gL h (gF h r0 1)) (gL h (gF h r0 0)) (Int32.toNatClampNeg 0) (Int32.toNatClampNeg 0) (Int32.ofNat (ln (gF h r0 1))).toNatClampNeg)) P)))))))) ∧ (¬ 6 < x10 → (isO h 2 r0) ∧ (Call mX2_costBehind [.ref r0, .int x10, .int x5, .int x6] h (fun v h10 => ∃ w11 : Int64, v = some (.long w11) ∧ ((isO h10 2 r0) ∧ ((isA h10 1 (gF h10 r0 1)) ∧ ((vp_in x10 (ln (gF h10 r0 1))) ∧ ((¬ x10 = x2 → Rr mX2_weigh 0 0 51 [(0, .ref r0), (1, .int x1), (2, .int x2), (3, .int x3), (4, .int x4), (5, .int x5), (6, .int x6), (7, .long y7), (9, .int x9), (10, .int (x10 + 1))] [] (sL h10 (gF h10 r0 1) x10.toNatClampNeg (lmin (((x3 * x10).toInt64 * y7) + w11) (gL h10 r0 3))) P) ∧ (x10 = x2 → Rr mX2_weigh 0 0 51 [(0, .ref r0), (1, .int x1), (2, .int x2), (3, .int x3), (4, .int x4), (5, .int x5), (6, .int x6), (7, .long y7), (9, .int x9), (10, .int (x10 + 1))] [] (sL (sL h10 (gF h10 r0 1) x10.toNatClampNeg (lmin (((x3 * x10).toInt64 * y7) + w11) (gL h10 r0 3))) r0 2 (((x3 * x10).toInt64 * y7) + w11)) P))))))))) : Rr mX2_weigh 0 0 51 [(0, .ref r0), (1, .int x1), (2, .int x2), (3, .int x3), (4, .int x4), (5, .int x5), (6, .int x6), (7, .long y7), (9, .int x9), (10, .int x10)] [] h P := by
  refine R_iload dX2_weigh_51 9 rfl ?_
  refine R_bipush (v := 6) dX2_weigh_53 (by decide) ?_
  refine R_icmp_gt (tgt := 113) dX2_weigh_55 (by decide) (fun b1 => ?_) (fun b1 => ?_)
  · have hf := hf.1 b1
    refine R_aload_n dX2_weigh_113 rfl 0 rfl ?_
    obtain ⟨ob2, hf⟩ := hf
    refine G2_1 dX2_weigh_114 lfX2_13 ob2 ?_
    refine R_iconst (v := 0) dX2_weigh_117 (by decide) ?_
    refine R_aload_n dX2_weigh_118 rfl 0 rfl ?_
    refine G2_0 dX2_weigh_119 lfX2_9 ob2 ?_
    refine R_iconst (v := 0) dX2_weigh_122 (by decide) ?_
    refine R_aload_n dX2_weigh_123 rfl 0 rfl ?_
    refine G2_1 dX2_weigh_124 lfX2_13 ob2 ?_
    obtain ⟨ob3, hf⟩ := hf
    refine R_alen (v := Int32.ofNat (ln (gF h r0 1))) (by decide) dX2_weigh_127 ob3 rfl ?_
    obtain ⟨ob4, hf⟩ := hf
    obtain ⟨ob5, hf⟩ := hf
    obtain ⟨ob6, hf⟩ := hf
    obtain ⟨ob7, hf⟩ := hf
    obtain ⟨ob8, hf⟩ := hf
    refine R_copyL dX2_weigh_128 lmX2_48 w_ac1 w_ac2 w_ac3 (by decide) rfl ob4 ob5 (by decide) (by decide) ob6 ob7 ob8 ?_
    refine R_iinc (v := x9 + 1) dX2_weigh_131 8 rfl rfl (by decide) rfl ?_
    refine R_goto (tgt := 14) dX2_weigh_134 (by decide) ?_
    exact R_sub [1, 2, 3, 4, 5, 6, 7, 8, 0] rfl hf
  · have hf := hf.2 b1
    refine R_iload_n dX2_weigh_58 rfl 3 rfl ?_
    refine R_iload dX2_weigh_59 9 rfl ?_
    refine R_imul dX2_weigh_61 ?_
    refine R_i2l dX2_weigh_62 ?_
    refine R_lload dX2_weigh_63 7 rfl ?_
    refine R_lmul dX2_weigh_65 ?_
    refine R_aload_n dX2_weigh_66 rfl 0 rfl ?_
    refine R_iload dX2_weigh_67 9 rfl ?_
    refine R_iload dX2_weigh_69 5 rfl ?_
    refine R_iload dX2_weigh_71 6 rfl ?_
    obtain ⟨ob9, hf⟩ := hf
    refine R_callV (ci := 2) (N := mX2_costBehind) (as := [.int x10, .int x5, .int x6]) (rest := [.long ((x3 * x10).toInt64 * y7)]) (kc2 := 0) (ks2 := 0) dX2_weigh_73 lmX2_31 oX2_costBehind (Nat.le_of_ble_eq_true rfl) rfl rfl (Nat.le_of_ble_eq_true rfl) rfl rfl ob9 ok2 (Call.mono hf ?_)
    rintro _ h10 ⟨w11, rfl, hf⟩
    refine R_ladd dX2_weigh_76 ?_
    refine R_lstore dX2_weigh_77 (by decide) rfl ?_
    refine R_aload_n dX2_weigh_79 rfl 1 rfl ?_
    obtain ⟨ob12, hf⟩ := hf
    refine G2_1 dX2_weigh_80 lfX2_13 ob12 ?_
    refine R_iload dX2_weigh_83 10 rfl ?_
    refine R_lload dX2_weigh_85 0 rfl ?_
    refine R_aload_n dX2_weigh_87 rfl 1 rfl ?_
    refine G2_3 dX2_weigh_88 lfX2_35 ob12 ?_
    refine R_mminL dX2_weigh_91 lmX2_39 (by decide) (Nat.le_of_ble_eq_true rfl) ?_
    obtain ⟨ob13, hf⟩ := hf
    obtain ⟨ob14, hf⟩ := hf
    refine R_lastore dX2_weigh_94 ob13 ob14 ?_
    refine R_iload dX2_weigh_95 10 rfl ?_
    refine R_iload_n dX2_weigh_97 rfl 3 rfl ?_
    refine R_icmp_ne (tgt := 107) dX2_weigh_98 (by decide) (fun b15 => ?_) (fun b15 => ?_)
    · have hf := hf.1 b15
      refine R_iinc (v := x10 + 1) dX2_weigh_107 10 rfl rfl (by decide) rfl ?_
      refine R_goto (tgt := 51) dX2_weigh_110 (by decide) ?_
      exact R_sub [2, 3, 4, 5, 6, 7, 8, 9, 10, 0] rfl hf
    · have hf := hf.2 b15
      refine R_aload_n dX2_weigh_101 rfl 1 rfl ?_
      refine R_lload dX2_weigh_102 0 rfl ?_
      refine S2_2 dX2_weigh_104 lfX2_45 ob12 ?_
      refine R_iinc (v := x10 + 1) dX2_weigh_107 10 rfl rfl (by decide) rfl ?_
      refine R_goto (tgt := 51) dX2_weigh_110 (by decide) ?_
      exact R_sub [2, 3, 4, 5, 6, 7, 8, 9, 10, 0] rfl hf
theorem dX3_forget_0 : decode cX3_forget 0 = .ok (.aload_n 0, 1) := by decide +kernel
theorem dX3_forget_1 : decode cX3_forget 1 = .ok (.iconst 0, 1) := by decide +kernel
theorem dX3_forget_2 : decode cX3_forget 2 = .ok (.putfield 47, 3) := by decide +kernel
theorem dX3_forget_5 : decode cX3_forget 5 = .ok (.aload_n 0, 1) := by decide +kernel
theorem dX3_forget_6 : decode cX3_forget 6 = .ok (.bipush 100, 2) := by decide +kernel
theorem dX3_forget_8 : decode cX3_forget 8 = .ok (.putfield 51, 3) := by decide +kernel
theorem dX3_forget_11 : decode cX3_forget 11 = .ok (.aload_n 0, 1) := by decide +kernel
theorem dX3_forget_12 : decode cX3_forget 12 = .ok (.bipush 100, 2) := by decide +kernel
theorem dX3_forget_14 : decode cX3_forget 14 = .ok (.putfield 54, 3) := by decide +kernel
theorem dX3_forget_17 : decode cX3_forget 17 = .ok (.aload_n 0, 1) := by decide +kernel
theorem dX3_forget_18 : decode cX3_forget 18 = .ok (.iconst 0, 1) := by decide +kernel
theorem dX3_forget_19 : decode cX3_forget 19 = .ok (.putfield 57, 3) := by decide +kernel
theorem dX3_forget_22 : decode cX3_forget 22 = .ok (.aload_n 0, 1) := by decide +kernel
theorem dX3_forget_23 : decode cX3_forget 23 = .ok (.iconst 1, 1) := by decide +kernel
theorem dX3_forget_24 : decode cX3_forget 24 = .ok (.putfield 60, 3) := by decide +kernel
theorem dX3_forget_27 : decode cX3_forget 27 = .ok (.aload_n 0, 1) := by decide +kernel
theorem dX3_forget_28 : decode cX3_forget 28 = .ok (.getfield 18, 3) := by decide +kernel
theorem dX3_forget_31 : decode cX3_forget 31 = .ok (.iconst 0, 1) := by decide +kernel
theorem dX3_forget_32 : decode cX3_forget 32 = .ok (.invokestatic 63, 3) := by decide +kernel
theorem dX3_forget_35 : decode cX3_forget 35 = .ok (.aload_n 0, 1) := by decide +kernel
theorem dX3_forget_36 : decode cX3_forget 36 = .ok (.iconst 2, 1) := by decide +kernel
theorem dX3_forget_37 : decode cX3_forget 37 = .ok (.putfield 69, 3) := by decide +kernel
theorem dX3_forget_40 : decode cX3_forget 40 = .ok (.aload_n 0, 1) := by decide +kernel
theorem dX3_forget_41 : decode cX3_forget 41 = .ok (.iconst 0, 1) := by decide +kernel
theorem dX3_forget_42 : decode cX3_forget 42 = .ok (.putfield 72, 3) := by decide +kernel
theorem dX3_forget_45 : decode cX3_forget 45 = .ok (.iconst 0, 1) := by decide +kernel
theorem dX3_forget_46 : decode cX3_forget 46 = .ok (.istore_n 1, 1) := by decide +kernel
theorem dX3_forget_47 : decode cX3_forget 47 = .ok (.iload_n 1, 1) := by decide +kernel
theorem dX3_forget_48 : decode cX3_forget 48 = .ok (.iconst 4, 1) := by decide +kernel
theorem dX3_forget_49 : decode cX3_forget 49 = .ok (.if_icmp .ge 18, 3) := by decide +kernel
theorem dX3_forget_52 : decode cX3_forget 52 = .ok (.aload_n 0, 1) := by decide +kernel
theorem dX3_forget_53 : decode cX3_forget 53 = .ok (.getfield 30, 3) := by decide +kernel
theorem dX3_forget_56 : decode cX3_forget 56 = .ok (.iload_n 1, 1) := by decide +kernel
theorem dX3_forget_57 : decode cX3_forget 57 = .ok (.aaload, 1) := by decide +kernel
theorem dX3_forget_58 : decode cX3_forget 58 = .ok (.invokevirtual 75, 3) := by decide +kernel
theorem dX3_forget_61 : decode cX3_forget 61 = .ok (.iinc 1 1, 3) := by decide +kernel
theorem dX3_forget_64 : decode cX3_forget 64 = .ok (.goto (-17), 3) := by decide +kernel
theorem dX3_forget_67 : decode cX3_forget 67 = .ok (.aload_n 0, 1) := by decide +kernel
theorem dX3_forget_68 : decode cX3_forget 68 = .ok (.iconst 3, 1) := by decide +kernel
theorem dX3_forget_69 : decode cX3_forget 69 = .ok (.putfield 78, 3) := by decide +kernel
theorem dX3_forget_72 : decode cX3_forget 72 = .ok (.aload_n 0, 1) := by decide +kernel
theorem dX3_forget_73 : decode cX3_forget 73 = .ok (.iconst 1, 1) := by decide +kernel
theorem dX3_forget_74 : decode cX3_forget 74 = .ok (.putfield 81, 3) := by decide +kernel
theorem dX3_forget_77 : decode cX3_forget 77 = .ok (.aload_n 0, 1) := by decide +kernel
theorem dX3_forget_78 : decode cX3_forget 78 = .ok (.getfield 37, 3) := by decide +kernel
theorem dX3_forget_81 : decode cX3_forget 81 = .ok (.iconst 0, 1) := by decide +kernel
theorem dX3_forget_82 : decode cX3_forget 82 = .ok (.putfield 84, 3) := by decide +kernel
theorem dX3_forget_85 : decode cX3_forget 85 = .ok (.aload_n 0, 1) := by decide +kernel
theorem dX3_forget_86 : decode cX3_forget 86 = .ok (.getfield 41, 3) := by decide +kernel
theorem dX3_forget_89 : decode cX3_forget 89 = .ok (.bipush 100, 2) := by decide +kernel
theorem dX3_forget_91 : decode cX3_forget 91 = .ok (.invokestatic 63, 3) := by decide +kernel
theorem dX3_forget_94 : decode cX3_forget 94 = .ok (.return_, 1) := by decide +kernel
set_option maxRecDepth 20000 in
theorem sX3_forget_0 {P : Option Value → AH → Prop} (h : AH) (r0 : Nat) (hf : (isO h 3 r0) ∧ (Call mJ7_fill_53178 [.ref (gF h r0 7), .int 0] (sI (sI (sI (sI (sI h r0 0 0) r0 1 100) r0 2 100) r0 3 0) r0 6 1) (fun v h2 => v = none ∧ ((isO h2 3 r0) ∧ (Rr mX3_forget 0 0 47 [(0, .ref r0), (1, .int 0)] [] (sI (sI h2 r0 9 2) r0 10 0) P))))) : Rr mX3_forget 0 0 0 [(0, .ref r0)] [] h P := by
  refine R_aload_n dX3_forget_0 rfl 0 rfl ?_
  refine R_iconst (v := 0) dX3_forget_1 (by decide) ?_
  obtain ⟨ob1, hf⟩ := hf
  refine S3_0 dX3_forget_2 lfX3_47 ob1 ?_
  refine R_aload_n dX3_forget_5 rfl 0 rfl ?_
  refine R_bipush (v := 100) dX3_forget_6 (by decide) ?_
  refine S3_1 dX3_forget_8 lfX3_51 ob1 ?_
  refine R_aload_n dX3_forget_11 rfl 0 rfl ?_
  refine R_bipush (v := 100) dX3_forget_12 (by decide) ?_
  refine S3_2 dX3_forget_14 lfX3_54 ob1 ?_
  refine R_aload_n dX3_forget_17 rfl 0 rfl ?_
  refine R_iconst (v := 0) dX3_forget_18 (by decide) ?_
  refine S3_3 dX3_forget_19 lfX3_57 ob1 ?_
  refine R_aload_n dX3_forget_22 rfl 0 rfl ?_
  refine R_iconst (v := 1) dX3_forget_23 (by decide) ?_
  refine S3_6 dX3_forget_24 lfX3_60 ob1 ?_
  refine R_aload_n dX3_forget_27 rfl 0 rfl ?_
  refine G3_7 dX3_forget_28 lfX3_18 ob1 ?_
  refine R_eqF (y := gF h r0 7) rfl ?_
  refine R_iconst (v := 0) dX3_forget_31 (by decide) ?_
  refine R_callS (N := mJ7_fill_53178) (as := [.ref (gF h r0 7), .int 0]) (rest := []) (kc2 := 0) (ks2 := 0) dX3_forget_32 lmX3_63 oJ7_fill_53178 (Nat.le_of_ble_eq_true rfl) rfl rfl (Nat.le_of_ble_eq_true rfl) rfl rfl (Call.mono hf ?_)
  rintro _ h2 ⟨rfl, hf⟩
  refine R_aload_n dX3_forget_35 rfl 0 rfl ?_
  refine R_iconst (v := 2) dX3_forget_36 (by decide) ?_
  obtain ⟨ob3, hf⟩ := hf
  refine S3_9 dX3_forget_37 lfX3_69 ob3 ?_
  refine R_aload_n dX3_forget_40 rfl 0 rfl ?_
  refine R_iconst (v := 0) dX3_forget_41 (by decide) ?_
  refine S3_10 dX3_forget_42 lfX3_72 ob3 ?_
  refine R_iconst (v := 0) dX3_forget_45 (by decide) ?_
  refine R_istore_n dX3_forget_46 rfl (by decide) rfl ?_
  exact R_sub [1, 0] rfl hf
set_option maxRecDepth 20000 in
theorem sX3_forget_47 {P : Option Value → AH → Prop} (h : AH) (r0 : Nat) (x1 : Int32) (hf : (4 ≤ x1 → (isO h 3 r0) ∧ ((isO h 8 (gF h r0 14)) ∧ (Call mJ7_fill_53178 [.ref (gF h r0 15), .int 100] (sI (sI (sI h r0 12 3) r0 13 1) (gF h r0 14) 0 0) (fun v h4 => v = none ∧ (P none h4))))) ∧ (¬ 4 ≤ x1 → (isO h 3 r0) ∧ ((isA h 3 (gF h r0 11)) ∧ ((vp_in x1 (ln (gF h r0 11))) ∧ ((isO h 0 (gF h (gF h r0 11) x1.toNatClampNeg)) ∧ (Call mX0_clear [.ref (gF h (gF h r0 11) x1.toNatClampNeg)] h (fun v h9 => v = none ∧ (Rr mX3_forget 0 0 47 [(0, .ref r0), (1, .int (x1 + 1))] [] h9 P)))))))) : Rr mX3_forget 0 0 47 [(0, .ref r0), (1, .int x1)] [] h P := by
  refine R_iload_n dX3_forget_47 rfl 1 rfl ?_
  refine R_iconst (v := 4) dX3_forget_48 (by decide) ?_
  refine R_icmp_ge (tgt := 67) dX3_forget_49 (by decide) (fun b1 => ?_) (fun b1 => ?_)
  · have hf := hf.1 b1
    refine R_aload_n dX3_forget_67 rfl 0 rfl ?_
    refine R_iconst (v := 3) dX3_forget_68 (by decide) ?_
    obtain ⟨ob2, hf⟩ := hf
    refine S3_12 dX3_forget_69 lfX3_78 ob2 ?_
    refine R_aload_n dX3_forget_72 rfl 0 rfl ?_
    refine R_iconst (v := 1) dX3_forget_73 (by decide) ?_
    refine S3_13 dX3_forget_74 lfX3_81 ob2 ?_
    refine R_aload_n dX3_forget_77 rfl 0 rfl ?_
    refine G3_14 dX3_forget_78 lfX3_37 ob2 ?_
    refine R_eqF (y := gF h r0 14) rfl ?_
    refine R_iconst (v := 0) dX3_forget_81 (by decide) ?_
    obtain ⟨ob3, hf⟩ := hf
    refine S8_0 dX3_forget_82 lfX3_84 ob3 ?_
    refine R_aload_n dX3_forget_85 rfl 0 rfl ?_
    refine G3_15 dX3_forget_86 lfX3_41 ob2 ?_
    refine R_eqF (y := gF h r0 15) rfl ?_
    refine R_bipush (v := 100) dX3_forget_89 (by decide) ?_
    refine R_callS (N := mJ7_fill_53178) (as := [.ref (gF h r0 15), .int 100]) (rest := []) (kc2 := 0) (ks2 := 0) dX3_forget_91 lmX3_63 oJ7_fill_53178 (Nat.le_of_ble_eq_true rfl) rfl rfl (Nat.le_of_ble_eq_true rfl) rfl rfl (Call.mono hf ?_)
    rintro _ h4 ⟨rfl, hf⟩
    exact R_ret dX3_forget_94 rfl hf
  · have hf := hf.2 b1
    refine R_aload_n dX3_forget_52 rfl 0 rfl ?_
    obtain ⟨ob5, hf⟩ := hf
    refine G3_11 dX3_forget_53 lfX3_30 ob5 ?_
    refine R_iload_n dX3_forget_56 rfl 1 rfl ?_
    obtain ⟨ob6, hf⟩ := hf
    obtain ⟨ob7, hf⟩ := hf
    refine R_aaload (t := 3) (by decide) dX3_forget_57 ob6 ob7 ?_
    obtain ⟨ob8, hf⟩ := hf
    refine R_callV (ci := 0) (N := mX0_clear) (as := []) (rest := []) (kc2 := 0) (ks2 := 0) dX3_forget_58 lmX3_75 oX0_clear (Nat.le_of_ble_eq_true rfl) rfl rfl (Nat.le_of_ble_eq_true rfl) rfl rfl ob8 ok0 (Call.mono hf ?_)
    rintro _ h9 ⟨rfl, hf⟩
    refine R_iinc (v := x1 + 1) dX3_forget_61 1 rfl rfl (by decide) rfl ?_
    refine R_goto (tgt := 47) dX3_forget_64 (by decide) ?_
    exact R_sub [1, 0] rfl hf
theorem dX5_lay_0 : decode cX5_lay 0 = .ok (.aload_n 0, 1) := by decide +kernel
theorem dX5_lay_1 : decode cX5_lay 1 = .ok (.aload_n 1, 1) := by decide +kernel
theorem dX5_lay_2 : decode cX5_lay 2 = .ok (.getfield 35, 3) := by decide +kernel
theorem dX5_lay_5 : decode cX5_lay 5 = .ok (.putfield 41, 3) := by decide +kernel
theorem dX5_lay_8 : decode cX5_lay 8 = .ok (.aload_n 0, 1) := by decide +kernel
theorem dX5_lay_9 : decode cX5_lay 9 = .ok (.aload_n 1, 1) := by decide +kernel
theorem dX5_lay_10 : decode cX5_lay 10 = .ok (.getfield 44, 3) := by decide +kernel
theorem dX5_lay_13 : decode cX5_lay 13 = .ok (.putfield 47, 3) := by decide +kernel
theorem dX5_lay_16 : decode cX5_lay 16 = .ok (.aload_n 0, 1) := by decide +kernel
theorem dX5_lay_17 : decode cX5_lay 17 = .ok (.getfield 21, 3) := by decide +kernel
theorem dX5_lay_20 : decode cX5_lay 20 = .ok (.aload_n 1, 1) := by decide +kernel
theorem dX5_lay_21 : decode cX5_lay 21 = .ok (.getfield 50, 3) := by decide +kernel
theorem dX5_lay_24 : decode cX5_lay 24 = .ok (.iload_n 2, 1) := by decide +kernel
theorem dX5_lay_25 : decode cX5_lay 25 = .ok (.aaload, 1) := by decide +kernel
theorem dX5_lay_26 : decode cX5_lay 26 = .ok (.invokevirtual 54, 3) := by decide +kernel
theorem dX5_lay_29 : decode cX5_lay 29 = .ok (.aload_n 0, 1) := by decide +kernel
theorem dX5_lay_30 : decode cX5_lay 30 = .ok (.getfield 25, 3) := by decide +kernel
theorem dX5_lay_33 : decode cX5_lay 33 = .ok (.aload_n 1, 1) := by decide +kernel
theorem dX5_lay_34 : decode cX5_lay 34 = .ok (.getfield 50, 3) := by decide +kernel
theorem dX5_lay_37 : decode cX5_lay 37 = .ok (.iload_n 3, 1) := by decide +kernel
theorem dX5_lay_38 : decode cX5_lay 38 = .ok (.aaload, 1) := by decide +kernel
theorem dX5_lay_39 : decode cX5_lay 39 = .ok (.invokevirtual 54, 3) := by decide +kernel
theorem dX5_lay_42 : decode cX5_lay 42 = .ok (.iconst 0, 1) := by decide +kernel
theorem dX5_lay_43 : decode cX5_lay 43 = .ok (.istore 6, 2) := by decide +kernel
theorem dX5_lay_45 : decode cX5_lay 45 = .ok (.iload 6, 2) := by decide +kernel
theorem dX5_lay_47 : decode cX5_lay 47 = .ok (.iconst 4, 1) := by decide +kernel
theorem dX5_lay_48 : decode cX5_lay 48 = .ok (.if_icmp .ge 65, 3) := by decide +kernel
theorem dX5_lay_51 : decode cX5_lay 51 = .ok (.aload_n 0, 1) := by decide +kernel
theorem dX5_lay_52 : decode cX5_lay 52 = .ok (.getfield 11, 3) := by decide +kernel
theorem dX5_lay_55 : decode cX5_lay 55 = .ok (.iload 6, 2) := by decide +kernel
theorem dX5_lay_57 : decode cX5_lay 57 = .ok (.aload_n 0, 1) := by decide +kernel
theorem dX5_lay_58 : decode cX5_lay 58 = .ok (.getfield 21, 3) := by decide +kernel
theorem dX5_lay_61 : decode cX5_lay 61 = .ok (.getfield 58, 3) := by decide +kernel
theorem dX5_lay_64 : decode cX5_lay 64 = .ok (.iload 6, 2) := by decide +kernel
theorem dX5_lay_66 : decode cX5_lay 66 = .ok (.laload, 1) := by decide +kernel
theorem dX5_lay_67 : decode cX5_lay 67 = .ok (.aload_n 0, 1) := by decide +kernel
theorem dX5_lay_68 : decode cX5_lay 68 = .ok (.getfield 25, 3) := by decide +kernel
theorem dX5_lay_71 : decode cX5_lay 71 = .ok (.getfield 58, 3) := by decide +kernel
theorem dX5_lay_74 : decode cX5_lay 74 = .ok (.iload 6, 2) := by decide +kernel
theorem dX5_lay_76 : decode cX5_lay 76 = .ok (.laload, 1) := by decide +kernel
theorem dX5_lay_77 : decode cX5_lay 77 = .ok (.lor, 1) := by decide +kernel
theorem dX5_lay_78 : decode cX5_lay 78 = .ok (.lastore, 1) := by decide +kernel
theorem dX5_lay_79 : decode cX5_lay 79 = .ok (.aload_n 0, 1) := by decide +kernel
theorem dX5_lay_80 : decode cX5_lay 80 = .ok (.getfield 17, 3) := by decide +kernel
theorem dX5_lay_83 : decode cX5_lay 83 = .ok (.iload 6, 2) := by decide +kernel
theorem dX5_lay_85 : decode cX5_lay 85 = .ok (.aload_n 0, 1) := by decide +kernel
theorem dX5_lay_86 : decode cX5_lay 86 = .ok (.getfield 21, 3) := by decide +kernel
theorem dX5_lay_89 : decode cX5_lay 89 = .ok (.getfield 58, 3) := by decide +kernel
theorem dX5_lay_92 : decode cX5_lay 92 = .ok (.iload 6, 2) := by decide +kernel
theorem dX5_lay_94 : decode cX5_lay 94 = .ok (.laload, 1) := by decide +kernel
theorem dX5_lay_95 : decode cX5_lay 95 = .ok (.aload_n 0, 1) := by decide +kernel
theorem dX5_lay_96 : decode cX5_lay 96 = .ok (.getfield 25, 3) := by decide +kernel
theorem dX5_lay_99 : decode cX5_lay 99 = .ok (.getfield 58, 3) := by decide +kernel
theorem dX5_lay_102 : decode cX5_lay 102 = .ok (.iload 6, 2) := by decide +kernel
theorem dX5_lay_104 : decode cX5_lay 104 = .ok (.laload, 1) := by decide +kernel
theorem dX5_lay_105 : decode cX5_lay 105 = .ok (.land, 1) := by decide +kernel
theorem dX5_lay_106 : decode cX5_lay 106 = .ok (.lastore, 1) := by decide +kernel
theorem dX5_lay_107 : decode cX5_lay 107 = .ok (.iinc 6 1, 3) := by decide +kernel
theorem dX5_lay_110 : decode cX5_lay 110 = .ok (.goto (-65), 3) := by decide +kernel
theorem dX5_lay_113 : decode cX5_lay 113 = .ok (.aload_n 0, 1) := by decide +kernel
theorem dX5_lay_114 : decode cX5_lay 114 = .ok (.getfield 21, 3) := by decide +kernel
theorem dX5_lay_117 : decode cX5_lay 117 = .ok (.iload 4, 2) := by decide +kernel
theorem dX5_lay_119 : decode cX5_lay 119 = .ok (.invokevirtual 61, 3) := by decide +kernel
theorem dX5_lay_122 : decode cX5_lay 122 = .ok (.aload_n 0, 1) := by decide +kernel
theorem dX5_lay_123 : decode cX5_lay 123 = .ok (.getfield 25, 3) := by decide +kernel
theorem dX5_lay_126 : decode cX5_lay 126 = .ok (.iload 5, 2) := by decide +kernel
theorem dX5_lay_128 : decode cX5_lay 128 = .ok (.invokevirtual 61, 3) := by decide +kernel
theorem dX5_lay_131 : decode cX5_lay 131 = .ok (.return_, 1) := by decide +kernel
set_option maxRecDepth 20000 in
theorem sX5_lay_0 {P : Option Value → AH → Prop} (h : AH) (r0 : Nat) (r1 : Nat) (x2 : Int32) (x3 : Int32) (x4 : Int32) (x5 : Int32) (hf : (isO h 3 r1) ∧ ((isO h 5 r0) ∧ ((isA h 3 (gF h r1 11)) ∧ ((vp_in x2 (ln (gF h r1 11))) ∧ ((isO h 0 (gF h r0 4)) ∧ ((isO h 0 (gF h (gF h r1 11) x2.toNatClampNeg)) ∧ ((isA h 1 (gF h (gF h (gF h r1 11) x2.toNatClampNeg) 0)) ∧ ((isA h 1 (gF h (gF h r0 4) 0)) ∧ (((Int32.toNatClampNeg 0) + (Int32.toNatClampNeg 4) ≤ ln (gF (sI (sI h r0 0 (gI h r1 12)) r0 1 (gI h r1 13)) (gF h (gF h r1 11) x2.toNatClampNeg) 0)) ∧ (((Int32.toNatClampNeg 0) + (Int32.toNatClampNeg 4) ≤ ln (gF (sI (sI h r0 0 (gI h r1 12)) r0 1 (gI h r1 13)) (gF h r0 4) 0)) ∧ ((isA h 3 (gF (rL (sI (sI h r0 0 (gI h r1 12)) r0 1 (gI h r1 13)) (gF (sI (sI h r0 0 (gI h r1 12)) r0 1 (gI h r1 13)) (gF h r0 4) 0) (va_cpy (gL (sI (sI h r0 0 (gI h r1 12)) r0 1 (gI h r1 13)) (gF (sI (sI h r0 0 (gI h r1 12)) r0 1 (gI h r1 13)) (gF h (gF h r1 11) x2.toNatClampNeg) 0)) (gL (sI (sI h r0 0 (gI h r1 12)) r0 1 (gI h r1 13)) (gF (sI (sI h r0 0 (gI h r1 12)) r0 1 (gI h r1 13)) (gF h r0 4) 0)) (Int32.toNatClampNeg 0) (Int32.toNatClampNeg 0) (Int32.toNatClampNeg 4))) r1 11)) ∧ ((vp_in x3 (ln (gF (rL (sI (sI h r0 0 (gI h r1 12)) r0 1 (gI h r1 13)) (gF (sI (sI h r0 0 (gI h r1 12)) r0 1 (gI h r1 13)) (gF h r0 4) 0) (va_cpy (gL (sI (sI h r0 0 (gI h r1 12)) r0 1 (gI h r1 13)) (gF (sI (sI h r0 0 (gI h r1 12)) r0 1 (gI h r1 13)) (gF h (gF h r1 11) x2.toNatClampNeg) 0)) (gL (sI (sI h r0 0 (gI h r1 12)) r0 1 (gI h r1 13)) (gF (sI (sI h r0 0 (gI h r1 12)) r0 1 (gI h r1 13)) (gF h r0 4) 0)) (Int32.toNatClampNeg 0) (Int32.toNatClampNeg 0) (Int32.toNatClampNeg 4))) r1 11))) ∧ ((isO h 0 (gF (rL (sI (sI h r0 0 (gI h r1 12)) r0 1 (gI h r1 13)) (gF (sI (sI h r0 0 (gI h r1 12)) r0 1 (gI h r1 13)) (gF h r0 4) 0) (va_cpy (gL (sI (sI h r0 0 (gI h r1 12)) r0 1 (gI h r1 13)) (gF (sI (sI h r0 0 (gI h r1 12)) r0 1 (gI h r1 13)) (gF h (gF h r1 11) x2.toNatClampNeg) 0)) (gL (sI (sI h r0 0 (gI h r1 12)) r0 1 (gI h r1 13)) (gF (sI (sI h r0 0 (gI h r1 12)) r0 1 (gI h r1 13)) (gF h r0 4) 0)) (Int32.toNatClampNeg 0) (Int32.toNatClampNeg 0) (Int32.toNatClampNeg 4))) r0 5)) ∧ ((isO h 0 (gF (rL (sI (sI h r0 0 (gI h r1 12)) r0 1 (gI h r1 13)) (gF (sI (sI h r0 0 (gI h r1 12)) r0 1 (gI h r1 13)) (gF h r0 4) 0) (va_cpy (gL (sI (sI h r0 0 (gI h r1 12)) r0 1 (gI h r1 13)) (gF (sI (sI h r0 0 (gI h r1 12)) r0 1 (gI h r1 13)) (gF h (gF h r1 11) x2.toNatClampNeg) 0)) (gL (sI (sI h r0 0 (gI h r1 12)) r0 1 (gI h r1 13)) (gF (sI (sI h r0 0 (gI h r1 12)) r0 1 (gI h r1 13)) (gF h r0 4) 0)) (Int32.toNatClampNeg 0) (Int32.toNatClampNeg 0) (Int32.toNatClampNeg 4))) (gF (rL (sI (sI h r0 0 (gI h r1 12)) r0 1 (gI h r1 13)) (gF (sI (sI h r0 0 (gI h r1 12)) r0 1 (gI h r1 13)) (gF h r0 4) 0) (va_cpy (gL (sI (sI h r0 0 (gI h r1 12)) r0 1 (gI h r1 13)) (gF (sI (sI h r0 0 (gI h r1 12)) r0 1 (gI h r1 13)) (gF h (gF h r1 11) x2.toNatClampNeg) 0)) (gL (sI (sI h r0 0 (gI h r1 12)) r0 1 (gI h r1 13)) (gF (sI (sI h r0 0 (gI h r1 12)) r0 1 (gI h r1 13)) (gF h r0 4) 0)) (Int32.toNatClampNeg 0) (Int32.toNatClampNeg 0) (Int32.toNatClampNeg 4))) r1 11) x3.toNatClampNeg)) ∧ ((isA h 1 (gF h (gF (rL (sI (sI h r0 0 (gI h r1 12)) r0 1 (gI h r1 13)) (gF (sI (sI h r0 0 (gI h r1 12)) r0 1 (gI h r1 13)) (gF h r0 4) 0) (va_cpy (gL (sI (sI h r0 0 (gI h r1 12)) r0 1 (gI h r1 13)) (gF (sI (sI h r0 0 (gI h r1 12)) r0 1 (gI h r1 13)) (gF h (gF h r1 11) x2.toNatClampNeg) 0)) (gL (sI (sI h r0 0 (gI h r1 12)) r0 1 (gI h r1 13)) (gF (sI (sI h r0 0 (gI h r1 12)) r0 1 (gI h r1 13)) (gF h r0 4) 0)) (Int32.toNatClampNeg 0) (Int32.toNatClampNeg 0) (Int32.toNatClampNeg 4))) (gF (rL (sI (sI h r0 0 (gI h r1 12)) r0 1 (gI h r1 13)) (gF (sI (sI h r0 0 (gI h r1 12)) r0 1 (gI h r1 13)) (gF h r0 4) 0) (va_cpy (gL (sI (sI h r0 0 (gI h r1 12)) r0 1 (gI h r1 13)) (gF (sI (sI h r0 0 (gI h r1 12)) r0 1 (gI h r1 13)) (gF h (gF h r1 11) x2.toNatClampNeg) 0)) (gL (sI (sI h r0 0 (gI h r1 12)) r0 1 (gI h r1 13)) (gF (sI (sI h r0 0 (gI h r1 12)) r0 1 (gI h r1 13)) (gF h r0 4) 0)) (Int32.toNatClampNeg 0) (Int32.toNatClampNeg 0) (Int32.toNatClampNeg 4))) r1 11) x3.toNatClampNeg) 0)) ∧ ((isA h 1 (gF h (gF (rL (sI (sI h r0 0 (gI h r1 12)) r0 1 (gI h r1 13)) (gF (sI (sI h r0 0 (gI h r1 12)) r0 1 (gI h r1 13)) (gF h r0 4) 0) (va_cpy (gL (sI (sI h r0 0 (gI h r1 12)) r0 1 (gI h r1 13)) (gF (sI (sI h r0 0 (gI h r1 12)) r0 1 (gI h r1 13)) (gF h (gF h r1 11) x2.toNatClampNeg) 0)) (gL (sI (sI h r0 0 (gI h r1 12)) r0 1 (gI h r1 13)) (gF (sI (sI h r0 0 (gI h r1 12)) r0 1 (gI h r1 13)) (gF h r0 4) 0)) (Int32.toNatClampNeg 0) (Int32.toNatClampNeg 0) (Int32.toNatClampNeg 4))) r0 5) 0)) ∧ (((Int32.toNatClampNeg 0) + (Int32.toNatClampNeg 4) ≤ ln (gF (rL (sI (sI h r0 0 (gI h r1 12)) r0 1 (gI h r1 13)) (gF (sI (sI h r0 0 (gI h r1 12)) r0 1 (gI h r1 13)) (gF h r0 4) 0) (va_cpy (gL (sI (sI h r0 0 (gI h r1 12)) r0 1 (gI h r1 13)) (gF (sI (sI h r0 0 (gI h r1 12)) r0 1 (gI h r1 13)) (gF h (gF h r1 11) x2.toNatClampNeg) 0)) (gL (sI (sI h r0 0 (gI h r1 12)) r0 1 (gI h r1 13)) (gF (sI (sI h r0 0 (gI h r1 12)) r0 1 (gI h r1 13)) (gF h r0 4) 0)) (Int32.toNatClampNeg 0) (Int32.toNatClampNeg 0) (Int32.toNatClampNeg 4))) (gF (rL (sI (sI h r0 0 (gI h r1 12)) r0 1 (gI h r1 13)) (gF (sI (sI h r0 0 (gI h r1 12)) r0 1 (gI h r1 13)) (gF h r0 4) 0) (va_cpy (gL (sI (sI h r0 0 (gI h r1 12)) r0 1 (gI h r1 13)) (gF (sI (sI h r0 0 (gI h r1 12)) r0 1 (gI h r1 13)) (gF h (gF h r1 11) x2.toNatClampNeg) 0)) (gL (sI (sI h r0 0 (gI h r1 12)) r0 1 (gI h r1 13)) (gF (sI (sI h r0 0 (gI h r1 12)) r0 1 (gI h r1 13)) (gF h r0 4) 0)) (Int32.toNatClampNeg 0) (Int32.toNatClampNeg 0) (Int32.toNatClampNeg 4))) (gF (rL (sI (sI h r0 0 (gI h r1 12)) r0 1 (gI h r1 13)) (gF (sI (sI h r0 0 (gI h r1 12)) r0 1 (gI h r1 13)) (gF h r0 4) 0) (va_cpy (gL (sI (sI h r0 0 (gI h r1 12)) r0 1 (gI h r1 13)) (gF (sI (sI h r0 0 (gI h r1 12)) r0 1 (gI h r1 13)) (gF h (gF h r1 11) x2.toNatClampNeg) 0)) (gL (sI (sI h r0 0 (gI h r1 12)) r0 1 (gI h r1 13)) (gF (sI (sI h r0 0 (gI h r1 12)) r0 1 (gI h r1 13)) (gF h r0 4) 0)) (Int32.toNatClampNeg 0) (Int32.toNatClampNeg 0) (Int32.toNatClampNeg 4))) r1 11) x3.toNatClampNeg) 0)) ∧ (((Int32.toNatClampNeg 0) + (Int32.toNatClampNeg 4) ≤ ln (gF (rL (sI (sI h r0 0 (gI h r1 12)) r0 1 (gI h r1 13)) (gF (sI (sI h r0 0 (gI h r1 12)) r0 1 (gI h r1 13)) (gF h r0 4) 0) (va_cpy (gL (sI (sI h r0 0 (gI h r1 12)) r0 1 (gI h r1 13)) (gF (sI (sI h r0 0 (gI h r1 12)) r0 1 (gI h r1 13)) (gF h (gF h r1 11) x2.toNatClampNeg) 0)) (gL (sI (sI h r0 0 (gI h r1 12)) r0 1 (gI h r1 13)) (gF (sI (sI h r0 0 (gI h r1 12)) r0 1 (gI h r1 13)) (gF h r0 4) 0)) (Int32.toNatClampNeg 0) (Int32.toNatClampNeg 0) (Int32.toNatClampNeg 4))) (gF (rL (sI (sI h r0 0 (gI h r1 12)) r0 1 (gI h r1 13)) (gF (sI (sI h r0 0 (gI h r1 12)) r0 1 (gI h r1 13)) (gF h r0 4) 0) (va_cpy (gL (sI (sI h r0 0 (gI h r1 12)) r0 1 (gI h r1 13)) (gF (sI (sI h r0 0 (gI h r1 12)) r0 1 (gI h r1 13)) (gF h (gF h r1 11) x2.toNatClampNeg) 0)) (gL (sI (sI h r0 0 (gI h r1 12)) r0 1 (gI h r1 13)) (gF (sI (sI h r0 0 (gI h r1 12)) r0 1 (gI h r1 13)) (gF h r0 4) 0)) (Int32.toNatClampNeg 0) (Int32.toNatClampNeg 0) (Int32.toNatClampNeg 4))) r0 5) 0)) ∧ (Rr mX5_lay 0 0 45 [(0, .ref r0), (4, .int x4), (5, .int x5), (6, .int 0)] [] (rL (rL (sI (sI h r0 0 (gI h r1 12)) r0 1 (gI h r1 13)) (gF (sI (sI h r0 0 (gI h r1 12)) r0 1 (gI h r1 13)) (gF h r0 4) 0) (va_cpy (gL (sI (sI h r0 0 (gI h r1 12)) r0 1 (gI h r1 13)) (gF (sI (sI h r0 0 (gI h r1 12)) r0 1 (gI h r1 13)) (gF h (gF h r1 11) x2.toNatClampNeg) 0)) (gL (sI (sI h r0 0 (gI h r1 12)) r0 1 (gI h r1 13)) (gF (sI (sI h r0 0 (gI h r1 12)) r0 1 (gI h r1 13)) (gF h r0 4) 0)) (Int32.toNatClampNeg 0) (Int32.toNatClampNeg 0) (Int32.toNatClampNeg 4))) (gF (rL (sI (sI h r0 0 (gI h r1 12)) r0 1 (gI h r1 13)) (gF (sI (sI h r0 0 (gI h r1 12)) r0 1 (gI h r1 13)) (gF h r0 4) 0) (va_cpy (gL (sI (sI h r0 0 (gI h r1 12)) r0 1 (gI h r1 13)) (gF (sI (sI h r0 0 (gI h r1 12)) r0 1 (gI h r1 13)) (gF h (gF h r1 11) x2.toNatClampNeg) 0)) (gL (sI (sI h r0 0 (gI h r1 12)) r0 1 (gI h r1 13)) (gF (sI (sI h r0 0 (gI h r1 12)) r0 1 (gI h r1 13)) (gF h r0 4) 0)) (Int32.toNatClampNeg 0) (Int32.toNatClampNeg 0) (Int32.toNatClampNeg 4))) (gF (rL (sI (sI h r0 0 (gI h r1 12)) r0 1 (gI h r1 13)) (gF (sI (sI h r0 0 (gI h r1 12)) r0 1 (gI h r1 13)) (gF h r0 4) 0) (va_cpy (gL (sI (sI h r0 0 (gI h r1 12)) r0 1 (gI h r1 13)) (gF (sI (sI h r0 0 (gI h r1 12)) r0 1 (gI h r1 13)) (gF h (gF h r1 11) x2.toNatClampNeg) 0)) (gL (sI (sI h r0 0 (gI h r1 12)) r0 1 (gI h r1 13)) (gF (sI (sI h r0 0 (gI h r1 12)) r0 1 (gI h r1 13)) (gF h r0 4) 0)) (Int32.toNatClampNeg 0) (Int32.toNatClampNeg 0) (Int32.toNatClampNeg 4))) r0 5) 0) (va_cpy (gL (rL (sI (sI h r0 0 (gI h r1 12)) r0 1 (gI h r1 13)) (gF (sI (sI h r0 0 (gI h r1 12)) r0 1 (gI h r1 13)) (gF h r0 4) 0) (va_cpy (gL (sI (sI h r0 0 (gI h r1 12)) r0 1 (gI h r1 13)) (gF (sI (sI h r0 0 (gI h r1 12)) r0 1 (gI h r1 13)) (gF h (gF h r1 11) x2.toNatClampNeg) 0)) (gL (sI (sI h r0 0 (gI h r1 12)) r0 1 (gI h r1 13)) (gF (sI (sI h r0 0 (gI h r1 12)) r0 1 (gI h r1 13)) (gF h r0 4) 0)) (Int32.toNatClampNeg 0) (Int32.toNatClampNeg 0) (Int32.toNatClampNeg 4))) (gF (rL (sI (sI h r0 0 (gI h r1 12)) r0 1 (gI h r1 13)) (gF (sI (sI h r0 0 (gI h r1 12)) r0 1 (gI h r1 13)) (gF h r0 4) 0) (va_cpy (gL (sI (sI h r0 0 (gI h r1 12)) r0 1 (gI h r1 13)) (gF (sI (sI h r0 0 (gI h r1 12)) r0 1 (gI h r1 13)) (gF h (gF h r1 11) x2.toNatClampNeg) 0)) (gL (sI (sI h r0 0 (gI h r1 12)) r0 1 (gI h r1 13)) (gF (sI (sI h r0 0 (gI h r1 12)) r0 1 (gI h r1 13)) (gF h r0 4) 0)) (Int32.toNatClampNeg 0) (Int32.toNatClampNeg 0) (Int32.toNatClampNeg 4))) (gF (rL (sI (sI h r0 0 (gI h r1 12)) r0 1 (gI h r1 13)) (gF (sI (sI h r0 0 (gI h r1 12)) r0 1 (gI h r1 13)) (gF h r0 4) 0) (va_cpy (gL (sI (sI h r0 0 (gI h r1 12)) r0 1 (gI h r1 13)) (gF (sI (sI h r0 0 (gI h r1 12)) r0 1 (gI h r1 13)) (gF h (gF h r1 11) x2.toNatClampNeg) 0)) (gL (sI (sI h r0 0 (gI h r1 12)) r0 1 (gI h r1 13)) (gF (sI (sI h r0 0 (gI h r1 12)) r0 1 (gI h r1 13)) (gF h r0 4) 0)) (Int32.toNatClampNeg 0) (Int32.toNatClampNeg 0) (Int32.toNatClampNeg 4))) (gF (rL (sI (sI h r0 0 (gI h r1 12)) r0 1 (gI h r1 13)) (gF (sI (sI h r0 0 (gI h r1 12)) r0 1 (gI h r1 13)) (gF h r0 4) 0) (va_cpy (gL (sI (sI h r0 0 (gI h r1 12)) r0 1 (gI h r1 13)) (gF (sI (sI h r0 0 (gI h r1 12)) r0 1 (gI h r1 13)) (gF h (gF h r1 11) x2.toNatClampNeg) 0)) (gL (sI (sI h r0 0 (gI h r1 12)) r0 1 (gI h r1 13)) (gF (sI (sI h r0 0 (gI h r1 12)) r0 1 (gI h r1 13)) (gF h r0 4) 0)) (Int32.toNatClampNeg 0) (Int32.toNatClampNeg 0) (Int32.toNatClampNeg 4))) r1 11) x3.toNatClampNeg) 0)) (gL (rL (sI (sI h r0 0 (gI h r1 12)) r0 1 (gI h r1 13)) (gF (sI (sI h r0 0 (gI h r1 12)) r0 1 (gI h r1 13)) (gF h r0 4) 0) (va_cpy (gL (sI (sI h r0 0 (gI h r1 12)) r0 1 (gI h r1 13)) (gF (sI (sI h r0 0 (gI h r1 12)) r0 1 (gI h r1 13)) (gF h (gF h r1 11) x2.toNatClampNeg) 0)) (gL (sI (sI h r0 0 (gI h r1 12)) r0 1 (gI h r1 13)) (gF (sI (sI h r0 0 (gI h r1 12)) r0 1 (gI h r1 13)) (gF h r0 4) 0)) (Int32.toNatClampNeg 0) (Int32.toNatClampNeg 0) (Int32.toNatClampNeg 4))) (gF (rL (sI (sI h r0 0 (gI h r1 12)) r0 1 (gI h r1 13)) (gF (sI (sI h r0 0 (gI h r1 12)) r0 1 (gI h r1 13)) (gF h r0 4) 0) (va_cpy (gL (sI (sI h r0 0 (gI h r1 12)) r0 1 (gI h r1 13)) (gF (sI (sI h r0 0 (gI h r1 12)) r0 1 (gI h r1 13)) (gF h (gF h r1 11) x2.toNatClampNeg) 0)) (gL (sI (sI h r0 0 (gI h r1 12)) r0 1 (gI h r1 13)) (gF (sI (sI h r0 0 (gI h r1 12)) r0 1 (gI h r1 13)) (gF h r0 4) 0)) (Int32.toNatClampNeg 0) (Int32.toNatClampNeg 0) (Int32.toNatClampNeg 4))) (gF (rL (sI (sI h r0 0 (gI h r1 12)) r0 1 (gI h r1 13)) (gF (sI (sI h r0 0 (gI h r1 12)) r0 1 (gI h r1 13)) (gF h r0 4) 0) (va_cpy (gL (sI (sI h r0 0 (gI h r1 12)) r0 1 (gI h r1 13)) (gF (sI (sI h r0 0 (gI h r1 12)) r0 1 (gI h r1 13)) (gF h (gF h r1 11) x2.toNatClampNeg) 0)) (gL (sI (sI h r0 0 (gI h r1 12)) r0 1 (gI h r1 13)) (gF (sI (sI h r0 0 (gI h r1 12)) r0 1 (gI h r1 13)) (gF h r0 4) 0)) (Int32.toNatClampNeg 0) (Int32.toNatClampNeg 0) (Int32.toNatClampNeg 4))) r0 5) 0)) (Int32.toNatClampNeg 0) (Int32.toNatClampNeg 0) (Int32.toNatClampNeg 4))) P))))))))))))))))))) : Rr mX5_lay 0 0 0 [(0, .ref r0), (1, .ref r1), (2, .int x2), (3, .int x3), (4, .int x4), (5, .int x5)] [] h P := by
  refine R_aload_n dX5_lay_0 rfl 0 rfl ?_
  refine R_aload_n dX5_lay_1 rfl 1 rfl ?_
  obtain ⟨ob1, hf⟩ := hf
  refine G3_12 dX5_lay_2 lfX5_35 ob1 ?_
  obtain ⟨ob2, hf⟩ := hf
  refine S5_0 dX5_lay_5 lfX5_41 ob2 ?_
  refine R_aload_n dX5_lay_8 rfl 0 rfl ?_
  refine R_aload_n dX5_lay_9 rfl 1 rfl ?_
  refine G3_13 dX5_lay_10 lfX5_44 ob1 ?_
  refine R_eqI (y := gI h r1 13) (rd_r (ne_oo ob1 ob2 (by decide))) ?_
  refine S5_1 dX5_lay_13 lfX5_47 ob2 ?_
  refine R_aload_n dX5_lay_16 rfl 0 rfl ?_
  refine G5_4 dX5_lay_17 lfX5_21 ob2 ?_
  refine R_eqF (y := gF h r0 4) rfl ?_
  refine R_aload_n dX5_lay_20 rfl 1 rfl ?_
  refine G3_11 dX5_lay_21 lfX5_50 ob1 ?_
  refine R_eqF (y := gF h r1 11) rfl ?_
  refine R_iload_n dX5_lay_24 rfl 2 rfl ?_
  obtain ⟨ob3, hf⟩ := hf
  obtain ⟨ob4, hf⟩ := hf
  refine R_aaload (t := 3) (by decide) dX5_lay_25 ob3 ob4 ?_
  refine R_eqF (y := gF h (gF h r1 11) x2.toNatClampNeg) rfl ?_
  obtain ⟨ob5, hf⟩ := hf
  obtain ⟨ob6, hf⟩ := hf
  obtain ⟨ob7, hf⟩ := hf
  obtain ⟨ob8, hf⟩ := hf
  obtain ⟨ob9, hf⟩ := hf
  obtain ⟨ob10, hf⟩ := hf
  refine R_callV (ci := 0) (N := mX0_copy) (as := [.ref (gF h (gF h r1 11) x2.toNatClampNeg)]) (rest := []) (kc2 := 0) (ks2 := 0) dX5_lay_26 lmX5_54 oX0_copy (Nat.le_of_ble_eq_true rfl) rfl rfl (Nat.le_of_ble_eq_true rfl) rfl rfl ob5 ok0 (aX0_copy ob6 ob5 ob7 ob8 ob9 ob10 ?_)
  refine R_aload_n dX5_lay_29 rfl 0 rfl ?_
  refine G5_5 dX5_lay_30 lfX5_25 ob2 ?_
  refine R_aload_n dX5_lay_33 rfl 1 rfl ?_
  refine G3_11 dX5_lay_34 lfX5_50 ob1 ?_
  refine R_iload_n dX5_lay_37 rfl 3 rfl ?_
  obtain ⟨ob11, hf⟩ := hf
  obtain ⟨ob12, hf⟩ := hf
  refine R_aaload (t := 3) (by decide) dX5_lay_38 ob11 ob12 ?_
  obtain ⟨ob13, hf⟩ := hf
  obtain ⟨ob14, hf⟩ := hf
  obtain ⟨ob15, hf⟩ := hf
  obtain ⟨ob16, hf⟩ := hf
  obtain ⟨ob17, hf⟩ := hf
  obtain ⟨ob18, hf⟩ := hf
  refine R_callV (ci := 0) (N := mX0_copy) (as := [.ref (gF (rL (sI (sI h r0 0 (gI h r1 12)) r0 1 (gI h r1 13)) (gF (sI (sI h r0 0 (gI h r1 12)) r0 1 (gI h r1 13)) (gF h r0 4) 0) (va_cpy (gL (sI (sI h r0 0 (gI h r1 12)) r0 1 (gI h r1 13)) (gF (sI (sI h r0 0 (gI h r1 12)) r0 1 (gI h r1 13)) (gF h (gF h r1 11) x2.toNatClampNeg) 0)) (gL (sI (sI h r0 0 (gI h r1 12)) r0 1 (gI h r1 13)) (gF (sI (sI h r0 0 (gI h r1 12)) r0 1 (gI h r1 13)) (gF h r0 4) 0)) (Int32.toNatClampNeg 0) (Int32.toNatClampNeg 0) (Int32.toNatClampNeg 4))) (gF (rL (sI (sI h r0 0 (gI h r1 12)) r0 1 (gI h r1 13)) (gF (sI (sI h r0 0 (gI h r1 12)) r0 1 (gI h r1 13)) (gF h r0 4) 0) (va_cpy (gL (sI (sI h r0 0 (gI h r1 12)) r0 1 (gI h r1 13)) (gF (sI (sI h r0 0 (gI h r1 12)) r0 1 (gI h r1 13)) (gF h (gF h r1 11) x2.toNatClampNeg) 0)) (gL (sI (sI h r0 0 (gI h r1 12)) r0 1 (gI h r1 13)) (gF (sI (sI h r0 0 (gI h r1 12)) r0 1 (gI h r1 13)) (gF h r0 4) 0)) (Int32.toNatClampNeg 0) (Int32.toNatClampNeg 0) (Int32.toNatClampNeg 4))) r1 11) x3.toNatClampNeg)]) (rest := []) (kc2 := 0) (ks2 := 0) dX5_lay_39 lmX5_54 oX0_copy (Nat.le_of_ble_eq_true rfl) rfl rfl (Nat.le_of_ble_eq_true rfl) rfl rfl ob13 ok0 (aX0_copy ob14 ob13 ob15 ob16 ob17 ob18 ?_)
  refine R_iconst (v := 0) dX5_lay_42 (by decide) ?_
  refine R_istore dX5_lay_43 (by decide) rfl ?_
  exact R_sub [1, 5, 6, 0] rfl hf
set_option maxRecDepth 20000 in
theorem sX5_lay_45 {P : Option Value → AH → Prop} (h : AH) (r0 : Nat) (x4 : Int32) (x5 : Int32) (x6 : Int32) (hf : (4 ≤ x6 → (isO h 5 r0) ∧ ((isO h 0 (gF h r0 4)) ∧ (Call mX0_grow [.ref (gF h r0 4), .int x4] h (fun v h4 => v = none ∧ ((isO h4 5 r0) ∧ ((isO h4 0 (gF h4 r0 5)) ∧ (Call mX0_grow [.ref (gF h4 r0 5), .int x5] h4 (fun v h7 => v = none ∧ (P none h7))))))))) ∧ (¬ 4 ≤ x6 → (isO h 5 r0) ∧ ((isO h 0 (gF h r0 4)) ∧ ((isA h 1 (gF h (gF h r0 4) 0)) ∧ ((vp_in x6 (ln (gF h (gF h r0 4) 0))) ∧ ((isO h 0 (gF h r0 5)) ∧ ((isA h 1 (gF h (gF h r0 5) 0)) ∧ ((vp_in x6 (ln (gF h (gF h r0 5) 0))) ∧ ((isA h 1 (gF h r0 2)) ∧ ((vp_in x6 (ln (gF h r0 2))) ∧ ((isA h 1 (gF h r0 3)) ∧ ((vp_in x6 (ln (gF h r0 3))) ∧ (Rr mX5_lay 0 0 45 [(0, .ref r0), (4, .int x4), (5, .int x5), (6, .int (x6 + 1))] [] (sL (sL h (gF h r0 2) x6.toNatClampNeg ((gL h (gF h (gF h r0 4) 0) x6.toNatClampNeg) ||| (gL h (gF h (gF h r0 5) 0) x6.toNatClampNeg))) (gF h r0 3) x6.toNatClampNeg ((gL (sL h (gF h r0 2) x6.toNatClampNeg ((gL h (gF h (gF h r0 4) 0) x6.toNatClampNeg) ||| (gL h (gF h (gF h r0 5) 0) x6.toNatClampNeg))) (gF h (gF h r0 4) 0) x6.toNatClampNeg) &&& (gL (sL h (gF h r0 2) x6.toNatClampNeg ((gL h (gF h (gF h r0 4) 0) x6.toNatClampNeg) ||| (gL h (gF h (gF h r0 5) 0) x6.toNatClampNeg))) (gF h (gF h r0 5) 0) x6.toNatClampNeg))) P))))))))))))) : Rr mX5_lay 0 0 45 [(0, .ref r0), (4, .int x4), (5, .int x5), (6, .int x6)] [] h P := by
  refine R_iload dX5_lay_45 3 rfl ?_
  refine R_iconst (v := 4) dX5_lay_47 (by decide) ?_
  refine R_icmp_ge (tgt := 113) dX5_lay_48 (by decide) (fun b1 => ?_) (fun b1 => ?_)
  · have hf := hf.1 b1
    refine R_aload_n dX5_lay_113 rfl 0 rfl ?_
    obtain ⟨ob2, hf⟩ := hf
    refine G5_4 dX5_lay_114 lfX5_21 ob2 ?_
    refine R_iload dX5_lay_117 1 rfl ?_
    obtain ⟨ob3, hf⟩ := hf
    refine R_callV (ci := 0) (N := mX0_grow) (as := [.int x4]) (rest := []) (kc2 := 0) (ks2 := 0) dX5_lay_119 lmX5_61 oX0_grow (Nat.le_of_ble_eq_true rfl) rfl rfl (Nat.le_of_ble_eq_true rfl) rfl rfl ob3 ok0 (Call.mono hf ?_)
    rintro _ h4 ⟨rfl, hf⟩
    refine R_aload_n dX5_lay_122 rfl 0 rfl ?_
    obtain ⟨ob5, hf⟩ := hf
    refine G5_5 dX5_lay_123 lfX5_25 ob5 ?_
    refine R_iload dX5_lay_126 2 rfl ?_
    obtain ⟨ob6, hf⟩ := hf
    refine R_callV (ci := 0) (N := mX0_grow) (as := [.int x5]) (rest := []) (kc2 := 0) (ks2 := 0) dX5_lay_128 lmX5_61 oX0_grow (Nat.le_of_ble_eq_true rfl) rfl rfl (Nat.le_of_ble_eq_true rfl) rfl rfl ob6 ok0 (Call.mono hf ?_)
    rintro _ h7 ⟨rfl, hf⟩
    exact R_ret dX5_lay_131 rfl hf
  · have hf := hf.2 b1
    refine R_aload_n dX5_lay_51 rfl 0 rfl ?_
    obtain ⟨ob8, hf⟩ := hf
    refine G5_2 dX5_lay_52 lfX5_11 ob8 ?_
    refine R_iload dX5_lay_55 3 rfl ?_
    refine R_aload_n dX5_lay_57 rfl 0 rfl ?_
    refine G5_4 dX5_lay_58 lfX5_21 ob8 ?_
    obtain ⟨ob9, hf⟩ := hf
    refine G0_0 dX5_lay_61 lfX5_58 ob9 ?_
    refine R_iload dX5_lay_64 3 rfl ?_
    obtain ⟨ob10, hf⟩ := hf
    obtain ⟨ob11, hf⟩ := hf
    refine R_laload dX5_lay_66 ob10 ob11 ?_
    refine R_aload_n dX5_lay_67 rfl 0 rfl ?_
    refine G5_5 dX5_lay_68 lfX5_25 ob8 ?_
    obtain ⟨ob12, hf⟩ := hf
    refine G0_0 dX5_lay_71 lfX5_58 ob12 ?_
    refine R_iload dX5_lay_74 3 rfl ?_
    obtain ⟨ob13, hf⟩ := hf
    obtain ⟨ob14, hf⟩ := hf
    refine R_laload dX5_lay_76 ob13 ob14 ?_
    refine R_lor dX5_lay_77 ?_
    obtain ⟨ob15, hf⟩ := hf
    obtain ⟨ob16, hf⟩ := hf
    refine R_lastore dX5_lay_78 ob15 ob16 ?_
    refine R_aload_n dX5_lay_79 rfl 0 rfl ?_
    refine G5_3 dX5_lay_80 lfX5_17 ob8 ?_
    refine R_eqF (y := gF h r0 3) rfl ?_
    refine R_iload dX5_lay_83 3 rfl ?_
    refine R_aload_n dX5_lay_85 rfl 0 rfl ?_
    refine G5_4 dX5_lay_86 lfX5_21 ob8 ?_
    refine R_eqF (y := gF h r0 4) rfl ?_
    refine G0_0 dX5_lay_89 lfX5_58 ob9 ?_
    refine R_eqF (y := gF h (gF h r0 4) 0) rfl ?_
    refine R_iload dX5_lay_92 3 rfl ?_
    refine R_laload dX5_lay_94 ob10 ob11 ?_
    refine R_aload_n dX5_lay_95 rfl 0 rfl ?_
    refine G5_5 dX5_lay_96 lfX5_25 ob8 ?_
    refine R_eqF (y := gF h r0 5) rfl ?_
    refine G0_0 dX5_lay_99 lfX5_58 ob12 ?_
    refine R_eqF (y := gF h (gF h r0 5) 0) rfl ?_
    refine R_iload dX5_lay_102 3 rfl ?_
    refine R_laload dX5_lay_104 ob13 ob14 ?_
    refine R_land dX5_lay_105 ?_
    obtain ⟨ob17, hf⟩ := hf
    obtain ⟨ob18, hf⟩ := hf
    refine R_lastore dX5_lay_106 ob17 ob18 ?_
    refine R_iinc (v := x6 + 1) dX5_lay_107 3 rfl rfl (by decide) rfl ?_
    refine R_goto (tgt := 45) dX5_lay_110 (by decide) ?_
    exact R_sub [1, 2, 3, 0] rfl hf
theorem dX5_slip_0 : decode cX5_slip 0 = .ok (.aload_n 0, 1) := by decide +kernel
theorem dX5_slip_1 : decode cX5_slip 1 = .ok (.getfield 28, 3) := by decide +kernel
theorem dX5_slip_4 : decode cX5_slip 4 = .ok (.aload_n 0, 1) := by decide +kernel
theorem dX5_slip_5 : decode cX5_slip 5 = .ok (.getfield 25, 3) := by decide +kernel
theorem dX5_slip_8 : decode cX5_slip 8 = .ok (.invokevirtual 54, 3) := by decide +kernel
theorem dX5_slip_11 : decode cX5_slip 11 = .ok (.aload_n 0, 1) := by decide +kernel
theorem dX5_slip_12 : decode cX5_slip 12 = .ok (.getfield 28, 3) := by decide +kernel
theorem dX5_slip_15 : decode cX5_slip 15 = .ok (.iload_n 1, 1) := by decide +kernel
theorem dX5_slip_16 : decode cX5_slip 16 = .ok (.iload_n 2, 1) := by decide +kernel
theorem dX5_slip_17 : decode cX5_slip 17 = .ok (.invokevirtual 65, 3) := by decide +kernel
theorem dX5_slip_20 : decode cX5_slip 20 = .ok (.aload_n 0, 1) := by decide +kernel
theorem dX5_slip_21 : decode cX5_slip 21 = .ok (.iconst 0, 1) := by decide +kernel
theorem dX5_slip_22 : decode cX5_slip 22 = .ok (.putfield 69, 3) := by decide +kernel
theorem dX5_slip_25 : decode cX5_slip 25 = .ok (.aload_n 0, 1) := by decide +kernel
theorem dX5_slip_26 : decode cX5_slip 26 = .ok (.iconst 0, 1) := by decide +kernel
theorem dX5_slip_27 : decode cX5_slip 27 = .ok (.putfield 72, 3) := by decide +kernel
theorem dX5_slip_30 : decode cX5_slip 30 = .ok (.iconst 0, 1) := by decide +kernel
theorem dX5_slip_31 : decode cX5_slip 31 = .ok (.istore_n 3, 1) := by decide +kernel
theorem dX5_slip_32 : decode cX5_slip 32 = .ok (.iload_n 3, 1) := by decide +kernel
theorem dX5_slip_33 : decode cX5_slip 33 = .ok (.iconst 4, 1) := by decide +kernel
theorem dX5_slip_34 : decode cX5_slip 34 = .ok (.if_icmp .ge 87, 3) := by decide +kernel
theorem dX5_slip_37 : decode cX5_slip 37 = .ok (.aload_n 0, 1) := by decide +kernel
theorem dX5_slip_38 : decode cX5_slip 38 = .ok (.getfield 21, 3) := by decide +kernel
theorem dX5_slip_41 : decode cX5_slip 41 = .ok (.getfield 58, 3) := by decide +kernel
theorem dX5_slip_44 : decode cX5_slip 44 = .ok (.iload_n 3, 1) := by decide +kernel
theorem dX5_slip_45 : decode cX5_slip 45 = .ok (.laload, 1) := by decide +kernel
theorem dX5_slip_46 : decode cX5_slip 46 = .ok (.lstore 4, 2) := by decide +kernel
theorem dX5_slip_48 : decode cX5_slip 48 = .ok (.aload_n 0, 1) := by decide +kernel
theorem dX5_slip_49 : decode cX5_slip 49 = .ok (.getfield 28, 3) := by decide +kernel
theorem dX5_slip_52 : decode cX5_slip 52 = .ok (.getfield 58, 3) := by decide +kernel
theorem dX5_slip_55 : decode cX5_slip 55 = .ok (.iload_n 3, 1) := by decide +kernel
theorem dX5_slip_56 : decode cX5_slip 56 = .ok (.laload, 1) := by decide +kernel
theorem dX5_slip_57 : decode cX5_slip 57 = .ok (.lstore 6, 2) := by decide +kernel
theorem dX5_slip_59 : decode cX5_slip 59 = .ok (.aload_n 0, 1) := by decide +kernel
theorem dX5_slip_60 : decode cX5_slip 60 = .ok (.dup, 1) := by decide +kernel
theorem dX5_slip_61 : decode cX5_slip 61 = .ok (.getfield 69, 3) := by decide +kernel
theorem dX5_slip_64 : decode cX5_slip 64 = .ok (.aload_n 0, 1) := by decide +kernel
theorem dX5_slip_65 : decode cX5_slip 65 = .ok (.getfield 11, 3) := by decide +kernel
theorem dX5_slip_68 : decode cX5_slip 68 = .ok (.iload_n 3, 1) := by decide +kernel
theorem dX5_slip_69 : decode cX5_slip 69 = .ok (.laload, 1) := by decide +kernel
theorem dX5_slip_70 : decode cX5_slip 70 = .ok (.lload 4, 2) := by decide +kernel
theorem dX5_slip_72 : decode cX5_slip 72 = .ok (.lload 6, 2) := by decide +kernel
theorem dX5_slip_74 : decode cX5_slip 74 = .ok (.lor, 1) := by decide +kernel
theorem dX5_slip_75 : decode cX5_slip 75 = .ok (.ldc2_w 75, 3) := by decide +kernel
theorem dX5_slip_78 : decode cX5_slip 78 = .ok (.lxor, 1) := by decide +kernel
theorem dX5_slip_79 : decode cX5_slip 79 = .ok (.land, 1) := by decide +kernel
theorem dX5_slip_80 : decode cX5_slip 80 = .ok (.invokestatic 77, 3) := by decide +kernel
theorem dX5_slip_83 : decode cX5_slip 83 = .ok (.iadd, 1) := by decide +kernel
theorem dX5_slip_84 : decode cX5_slip 84 = .ok (.putfield 69, 3) := by decide +kernel
theorem dX5_slip_87 : decode cX5_slip 87 = .ok (.aload_n 0, 1) := by decide +kernel
theorem dX5_slip_88 : decode cX5_slip 88 = .ok (.dup, 1) := by decide +kernel
theorem dX5_slip_89 : decode cX5_slip 89 = .ok (.getfield 72, 3) := by decide +kernel
theorem dX5_slip_92 : decode cX5_slip 92 = .ok (.lload 4, 2) := by decide +kernel
theorem dX5_slip_94 : decode cX5_slip 94 = .ok (.lload 6, 2) := by decide +kernel
theorem dX5_slip_96 : decode cX5_slip 96 = .ok (.land, 1) := by decide +kernel
theorem dX5_slip_97 : decode cX5_slip 97 = .ok (.aload_n 0, 1) := by decide +kernel
theorem dX5_slip_98 : decode cX5_slip 98 = .ok (.getfield 17, 3) := by decide +kernel
theorem dX5_slip_101 : decode cX5_slip 101 = .ok (.iload_n 3, 1) := by decide +kernel
theorem dX5_slip_102 : decode cX5_slip 102 = .ok (.laload, 1) := by decide +kernel
theorem dX5_slip_103 : decode cX5_slip 103 = .ok (.ldc2_w 75, 3) := by decide +kernel
theorem dX5_slip_106 : decode cX5_slip 106 = .ok (.lxor, 1) := by decide +kernel
theorem dX5_slip_107 : decode cX5_slip 107 = .ok (.land, 1) := by decide +kernel
theorem dX5_slip_108 : decode cX5_slip 108 = .ok (.invokestatic 77, 3) := by decide +kernel
theorem dX5_slip_111 : decode cX5_slip 111 = .ok (.iadd, 1) := by decide +kernel
theorem dX5_slip_112 : decode cX5_slip 112 = .ok (.putfield 72, 3) := by decide +kernel
theorem dX5_slip_115 : decode cX5_slip 115 = .ok (.iinc 3 1, 3) := by decide +kernel
theorem dX5_slip_118 : decode cX5_slip 118 = .ok (.goto (-86), 3) := by decide +kernel
theorem dX5_slip_121 : decode cX5_slip 121 = .ok (.aload_n 0, 1) := by decide +kernel
theorem dX5_slip_122 : decode cX5_slip 122 = .ok (.getfield 41, 3) := by decide +kernel
theorem dX5_slip_125 : decode cX5_slip 125 = .ok (.aload_n 0, 1) := by decide +kernel
theorem dX5_slip_126 : decode cX5_slip 126 = .ok (.getfield 69, 3) := by decide +kernel
theorem dX5_slip_129 : decode cX5_slip 129 = .ok (.imul, 1) := by decide +kernel
theorem dX5_slip_130 : decode cX5_slip 130 = .ok (.aload_n 0, 1) := by decide +kernel
theorem dX5_slip_131 : decode cX5_slip 131 = .ok (.getfield 47, 3) := by decide +kernel
theorem dX5_slip_134 : decode cX5_slip 134 = .ok (.aload_n 0, 1) := by decide +kernel
theorem dX5_slip_135 : decode cX5_slip 135 = .ok (.getfield 72, 3) := by decide +kernel
theorem dX5_slip_138 : decode cX5_slip 138 = .ok (.imul, 1) := by decide +kernel
theorem dX5_slip_139 : decode cX5_slip 139 = .ok (.iadd, 1) := by decide +kernel
theorem dX5_slip_140 : decode cX5_slip 140 = .ok (.ireturn, 1) := by decide +kernel
set_option maxRecDepth 20000 in
theorem sX5_slip_0 {P : Option Value → AH → Prop} (h : AH) (r0 : Nat) (x1 : Int32) (x2 : Int32) (hf : (isO h 5 r0) ∧ ((isO h 0 (gF h r0 6)) ∧ ((isO h 0 (gF h r0 5)) ∧ ((isA h 1 (gF h (gF h r0 5) 0)) ∧ ((isA h 1 (gF h (gF h r0 6) 0)) ∧ (((Int32.toNatClampNeg 0) + (Int32.toNatClampNeg 4) ≤ ln (gF h (gF h r0 5) 0)) ∧ (((Int32.toNatClampNeg 0) + (Int32.toNatClampNeg 4) ≤ ln (gF h (gF h r0 6) 0)) ∧ ((isO h 0 (gF (rL h (gF h (gF h r0 6) 0) (va_cpy (gL h (gF h (gF h r0 5) 0)) (gL h (gF h (gF h r0 6) 0)) (Int32.toNatClampNeg 0) (Int32.toNatClampNeg 0) (Int32.toNatClampNeg 4))) r0 6)) ∧ (Call mX0_move [.ref (gF (rL h (gF h (gF h r0 6) 0) (va_cpy (gL h (gF h (gF h r0 5) 0)) (gL h (gF h (gF h r0 6) 0)) (Int32.toNatClampNeg 0) (Int32.toNatClampNeg 0) (Int32.toNatClampNeg 4))) r0 6), .int x1, .int x2] (rL h (gF h (gF h r0 6) 0) (va_cpy (gL h (gF h (gF h r0 5) 0)) (gL h (gF h (gF h r0 6) 0)) (Int32.toNatClampNeg 0) (Int32.toNatClampNeg 0) (Int32.toNatClampNeg 4))) (fun v h9 => v = none ∧ ((isO h9 5 r0) ∧ (Rr mX5_slip 0 0 32 [(0, .ref r0), (3, .int 0)] [] (sI (sI h9 r0 7 0) r0 8 0) P)))))))))))) : Rr mX5_slip 0 0 0 [(0, .ref r0), (1, .int x1), (2, .int x2)] [] h P := by
  refine R_aload_n dX5_slip_0 rfl 0 rfl ?_
  obtain ⟨ob1, hf⟩ := hf
  refine G5_6 dX5_slip_1 lfX5_28 ob1 ?_
  refine R_aload_n dX5_slip_4 rfl 0 rfl ?_
  refine G5_5 dX5_slip_5 lfX5_25 ob1 ?_
  obtain ⟨ob2, hf⟩ := hf
  obtain ⟨ob3, hf⟩ := hf
  obtain ⟨ob4, hf⟩ := hf
  obtain ⟨ob5, hf⟩ := hf
  obtain ⟨ob6, hf⟩ := hf
  obtain ⟨ob7, hf⟩ := hf
  refine R_callV (ci := 0) (N := mX0_copy) (as := [.ref (gF h r0 5)]) (rest := []) (kc2 := 0) (ks2 := 0) dX5_slip_8 lmX5_54 oX0_copy (Nat.le_of_ble_eq_true rfl) rfl rfl (Nat.le_of_ble_eq_true rfl) rfl rfl ob2 ok0 (aX0_copy ob3 ob2 ob4 ob5 ob6 ob7 ?_)
  refine R_aload_n dX5_slip_11 rfl 0 rfl ?_
  refine G5_6 dX5_slip_12 lfX5_28 ob1 ?_
  refine R_iload_n dX5_slip_15 rfl 1 rfl ?_
  refine R_iload_n dX5_slip_16 rfl 2 rfl ?_
  obtain ⟨ob8, hf⟩ := hf
  refine R_callV (ci := 0) (N := mX0_move) (as := [.int x1, .int x2]) (rest := []) (kc2 := 0) (ks2 := 0) dX5_slip_17 lmX5_65 oX0_move (Nat.le_of_ble_eq_true rfl) rfl rfl (Nat.le_of_ble_eq_true rfl) rfl rfl ob8 ok0 (Call.mono hf ?_)
  rintro _ h9 ⟨rfl, hf⟩
  refine R_aload_n dX5_slip_20 rfl 0 rfl ?_
  refine R_iconst (v := 0) dX5_slip_21 (by decide) ?_
  obtain ⟨ob10, hf⟩ := hf
  refine S5_7 dX5_slip_22 lfX5_69 ob10 ?_
  refine R_aload_n dX5_slip_25 rfl 0 rfl ?_
  refine R_iconst (v := 0) dX5_slip_26 (by decide) ?_
  refine S5_8 dX5_slip_27 lfX5_72 ob10 ?_
  refine R_iconst (v := 0) dX5_slip_30 (by decide) ?_
  refine R_istore_n dX5_slip_31 rfl (by decide) rfl ?_
  exact R_sub [1, 0] rfl hf
set_option maxRecDepth 20000 in
theorem sX5_slip_32 {P : Option Value → AH → Prop} (h : AH) (r0 : Nat) (x3 : Int32) (hf : (4 ≤ x3 → (isO h 5 r0) ∧ (P (some (.int (((gI h r0 0) * (gI h r0 7)) + ((gI h r0 1) * (gI h r0 8))))) h)) ∧ (¬ 4 ≤ x3 → (isO h 5 r0) ∧ ((isO h 0 (gF h r0 4)) ∧ ((isA h 1 (gF h (gF h r0 4) 0)) ∧ ((vp_in x3 (ln (gF h (gF h r0 4) 0))) ∧ ((isO h 0 (gF h r0 6)) ∧ ((isA h 1 (gF h (gF h r0 6) 0)) ∧ ((vp_in x3 (ln (gF h (gF h r0 6) 0))) ∧ ((isA h 1 (gF h r0 2)) ∧ ((vp_in x3 (ln (gF h r0 2))) ∧ (Call mJ13_bitCount_95d88 [.long ((gL h (gF h r0 2) x3.toNatClampNeg) &&& (((gL h (gF h (gF h r0 4) 0) x3.toNatClampNeg) ||| (gL h (gF h (gF h r0 6) 0) x3.toNatClampNeg)) ^^^ (-1)))] h (fun v h12 => ∃ z13 : Int32, v = some (.int z13) ∧ ((isO h12 5 r0) ∧ ((isA h12 1 (gF h12 r0 3)) ∧ ((vp_in x3 (ln (gF h12 r0 3))) ∧ (Call mJ13_bitCount_95d88 [.long (((gL h (gF h (gF h r0 4) 0) x3.toNatClampNeg) &&& (gL h (gF h (gF h r0 6) 0) x3.toNatClampNeg)) &&& ((gL h12 (gF h12 r0 3) x3.toNatClampNeg) ^^^ (-1)))] (sI h12 r0 7 ((gI h r0 7) + z13)) (fun v h17 => ∃ z18 : Int32, v = some (.int z18) ∧ ((isO h17 5 r0) ∧ (Rr mX5_slip 0 0 32 [(0, .ref r0), (3, .int (x3 + 1))] [] (sI h17 r0 8 ((gI h12 r0 8) + z18)) P))))))))))))))))))) : Rr mX5_slip 0 0 32 [(0, .ref r0), (3, .int x3)] [] h P := by
  refine R_iload_n dX5_slip_32 rfl 1 rfl ?_
  refine R_iconst (v := 4) dX5_slip_33 (by decide) ?_
  refine R_icmp_ge (tgt := 121) dX5_slip_34 (by decide) (fun b1 => ?_) (fun b1 => ?_)
  · have hf := hf.1 b1
    refine R_aload_n dX5_slip_121 rfl 0 rfl ?_
    obtain ⟨ob2, hf⟩ := hf
    refine G5_0 dX5_slip_122 lfX5_41 ob2 ?_
    refine R_aload_n dX5_slip_125 rfl 0 rfl ?_
    refine G5_7 dX5_slip_126 lfX5_69 ob2 ?_
    refine R_imul dX5_slip_129 ?_
    refine R_aload_n dX5_slip_130 rfl 0 rfl ?_
    refine G5_1 dX5_slip_131 lfX5_47 ob2 ?_
    refine R_aload_n dX5_slip_134 rfl 0 rfl ?_
    refine G5_8 dX5_slip_135 lfX5_72 ob2 ?_
    refine R_imul dX5_slip_138 ?_
    refine R_iadd dX5_slip_139 ?_
    exact R_iret dX5_slip_140 rfl rfl hf
  · have hf := hf.2 b1
    refine R_aload_n dX5_slip_37 rfl 0 rfl ?_
    obtain ⟨ob3, hf⟩ := hf
    refine G5_4 dX5_slip_38 lfX5_21 ob3 ?_
    obtain ⟨ob4, hf⟩ := hf
    refine G0_0 dX5_slip_41 lfX5_58 ob4 ?_
    refine R_iload_n dX5_slip_44 rfl 1 rfl ?_
    obtain ⟨ob5, hf⟩ := hf
    obtain ⟨ob6, hf⟩ := hf
    refine R_laload dX5_slip_45 ob5 ob6 ?_
    refine R_lstore dX5_slip_46 (by decide) rfl ?_
    refine R_aload_n dX5_slip_48 rfl 1 rfl ?_
    refine G5_6 dX5_slip_49 lfX5_28 ob3 ?_
    obtain ⟨ob7, hf⟩ := hf
    refine G0_0 dX5_slip_52 lfX5_58 ob7 ?_
    refine R_iload_n dX5_slip_55 rfl 2 rfl ?_
    obtain ⟨ob8, hf⟩ := hf
    obtain ⟨ob9, hf⟩ := hf
    refine R_laload dX5_slip_56 ob8 ob9 ?_
    refine R_lstore dX5_slip_57 (by decide) rfl ?_
    refine R_aload_n dX5_slip_59 rfl 2 rfl ?_
    refine R_dup dX5_slip_60 rfl ?_
    refine G5_7 dX5_slip_61 lfX5_69 ob3 ?_
    refine R_aload_n dX5_slip_64 rfl 2 rfl ?_
    refine G5_2 dX5_slip_65 lfX5_11 ob3 ?_
    refine R_iload_n dX5_slip_68 rfl 3 rfl ?_
    obtain ⟨ob10, hf⟩ := hf
    obtain ⟨ob11, hf⟩ := hf
    refine R_laload dX5_slip_69 ob10 ob11 ?_
    refine R_lload dX5_slip_70 1 rfl ?_
    refine R_lload dX5_slip_72 0 rfl ?_
    refine R_lor dX5_slip_74 ?_
    refine R_ldc2 (v := (-1)) dX5_slip_75 lcX5_75 ?_
    refine R_lxor dX5_slip_78 ?_
    refine R_land dX5_slip_79 ?_
    refine R_callS (N := mJ13_bitCount_95d88) (as := [.long ((gL h (gF h r0 2) x3.toNatClampNeg) &&& (((gL h (gF h (gF h r0 4) 0) x3.toNatClampNeg) ||| (gL h (gF h (gF h r0 6) 0) x3.toNatClampNeg)) ^^^ (-1)))]) (rest := [.int (gI h r0 7), .ref r0]) (kc2 := 0) (ks2 := 0) dX5_slip_80 lmX5_77 oJ13_bitCount_95d88 (Nat.le_of_ble_eq_true rfl) rfl rfl (Nat.le_of_ble_eq_true rfl) rfl rfl (Call.mono hf ?_)
    rintro _ h12 ⟨z13, rfl, hf⟩
    refine R_iadd dX5_slip_83 ?_
    obtain ⟨ob14, hf⟩ := hf
    refine S5_7 dX5_slip_84 lfX5_69 ob14 ?_
    refine R_aload_n dX5_slip_87 rfl 2 rfl ?_
    refine R_dup dX5_slip_88 rfl ?_
    refine G5_8 dX5_slip_89 lfX5_72 ob14 ?_
    refine R_eqI (y := gI h12 r0 8) (rd_k (by decide)) ?_
    refine R_lload dX5_slip_92 1 rfl ?_
    refine R_lload dX5_slip_94 0 rfl ?_
    refine R_land dX5_slip_96 ?_
    refine R_aload_n dX5_slip_97 rfl 2 rfl ?_
    refine G5_3 dX5_slip_98 lfX5_17 ob14 ?_
    refine R_eqF (y := gF h12 r0 3) rfl ?_
    refine R_iload_n dX5_slip_101 rfl 3 rfl ?_
    obtain ⟨ob15, hf⟩ := hf
    obtain ⟨ob16, hf⟩ := hf
    refine R_laload dX5_slip_102 ob15 ob16 ?_
    refine R_eqL (y := gL h12 (gF h12 r0 3) x3.toNatClampNeg) ld_I ?_
    refine R_ldc2 (v := (-1)) dX5_slip_103 lcX5_75 ?_
    refine R_lxor dX5_slip_106 ?_
    refine R_land dX5_slip_107 ?_
    refine R_callS (N := mJ13_bitCount_95d88) (as := [.long (((gL h (gF h (gF h r0 4) 0) x3.toNatClampNeg) &&& (gL h (gF h (gF h r0 6) 0) x3.toNatClampNeg)) &&& ((gL h12 (gF h12 r0 3) x3.toNatClampNeg) ^^^ (-1)))]) (rest := [.int (gI h12 r0 8), .ref r0]) (kc2 := 0) (ks2 := 0) dX5_slip_108 lmX5_77 oJ13_bitCount_95d88 (Nat.le_of_ble_eq_true rfl) rfl rfl (Nat.le_of_ble_eq_true rfl) rfl rfl (Call.mono hf ?_)
    rintro _ h17 ⟨z18, rfl, hf⟩
    refine R_iadd dX5_slip_111 ?_
    obtain ⟨ob19, hf⟩ := hf
    refine S5_8 dX5_slip_112 lfX5_72 ob19 ?_
    refine R_iinc (v := x3 + 1) dX5_slip_115 3 rfl rfl (by decide) rfl ?_
    refine R_goto (tgt := 32) dX5_slip_118 (by decide) ?_
    exact R_sub [3, 0] rfl hf
theorem dX6_badOfRow_0 : decode cX6_badOfRow 0 = .ok (.aload_n 0, 1) := by decide +kernel
theorem dX6_badOfRow_1 : decode cX6_badOfRow 1 = .ok (.getfield 24, 3) := by decide +kernel
theorem dX6_badOfRow_4 : decode cX6_badOfRow 4 = .ok (.istore_n 3, 1) := by decide +kernel
theorem dX6_badOfRow_5 : decode cX6_badOfRow 5 = .ok (.aload_n 0, 1) := by decide +kernel
theorem dX6_badOfRow_6 : decode cX6_badOfRow 6 = .ok (.getfield 27, 3) := by decide +kernel
theorem dX6_badOfRow_9 : decode cX6_badOfRow 9 = .ok (.istore 4, 2) := by decide +kernel
theorem dX6_badOfRow_11 : decode cX6_badOfRow 11 = .ok (.aload_n 0, 1) := by decide +kernel
theorem dX6_badOfRow_12 : decode cX6_badOfRow 12 = .ok (.getfield 30, 3) := by decide +kernel
theorem dX6_badOfRow_15 : decode cX6_badOfRow 15 = .ok (.istore 5, 2) := by decide +kernel
theorem dX6_badOfRow_17 : decode cX6_badOfRow 17 = .ok (.iconst 0, 1) := by decide +kernel
theorem dX6_badOfRow_18 : decode cX6_badOfRow 18 = .ok (.istore 6, 2) := by decide +kernel
theorem dX6_badOfRow_20 : decode cX6_badOfRow 20 = .ok (.iload 6, 2) := by decide +kernel
theorem dX6_badOfRow_22 : decode cX6_badOfRow 22 = .ok (.aload_n 0, 1) := by decide +kernel
theorem dX6_badOfRow_23 : decode cX6_badOfRow 23 = .ok (.getfield 20, 3) := by decide +kernel
theorem dX6_badOfRow_26 : decode cX6_badOfRow 26 = .ok (.if_icmp .ge 70, 3) := by decide +kernel
theorem dX6_badOfRow_29 : decode cX6_badOfRow 29 = .ok (.iload_n 3, 1) := by decide +kernel
theorem dX6_badOfRow_30 : decode cX6_badOfRow 30 = .ok (.aload_n 0, 1) := by decide +kernel
theorem dX6_badOfRow_31 : decode cX6_badOfRow 31 = .ok (.getfield 11, 3) := by decide +kernel
theorem dX6_badOfRow_34 : decode cX6_badOfRow 34 = .ok (.iload 6, 2) := by decide +kernel
theorem dX6_badOfRow_36 : decode cX6_badOfRow 36 = .ok (.iaload, 1) := by decide +kernel
theorem dX6_badOfRow_37 : decode cX6_badOfRow 37 = .ok (.aload_n 1, 1) := by decide +kernel
theorem dX6_badOfRow_38 : decode cX6_badOfRow 38 = .ok (.iload_n 2, 1) := by decide +kernel
theorem dX6_badOfRow_39 : decode cX6_badOfRow 39 = .ok (.iload 6, 2) := by decide +kernel
theorem dX6_badOfRow_41 : decode cX6_badOfRow 41 = .ok (.iconst 0, 1) := by decide +kernel
theorem dX6_badOfRow_42 : decode cX6_badOfRow 42 = .ok (.invokevirtual 73, 3) := by decide +kernel
theorem dX6_badOfRow_45 : decode cX6_badOfRow 45 = .ok (.imul, 1) := by decide +kernel
theorem dX6_badOfRow_46 : decode cX6_badOfRow 46 = .ok (.iadd, 1) := by decide +kernel
theorem dX6_badOfRow_47 : decode cX6_badOfRow 47 = .ok (.istore_n 3, 1) := by decide +kernel
theorem dX6_badOfRow_48 : decode cX6_badOfRow 48 = .ok (.iload 4, 2) := by decide +kernel
theorem dX6_badOfRow_50 : decode cX6_badOfRow 50 = .ok (.aload_n 0, 1) := by decide +kernel
theorem dX6_badOfRow_51 : decode cX6_badOfRow 51 = .ok (.getfield 11, 3) := by decide +kernel
theorem dX6_badOfRow_54 : decode cX6_badOfRow 54 = .ok (.iload 6, 2) := by decide +kernel
theorem dX6_badOfRow_56 : decode cX6_badOfRow 56 = .ok (.iaload, 1) := by decide +kernel
theorem dX6_badOfRow_57 : decode cX6_badOfRow 57 = .ok (.aload_n 1, 1) := by decide +kernel
theorem dX6_badOfRow_58 : decode cX6_badOfRow 58 = .ok (.iload_n 2, 1) := by decide +kernel
theorem dX6_badOfRow_59 : decode cX6_badOfRow 59 = .ok (.iload 6, 2) := by decide +kernel
theorem dX6_badOfRow_61 : decode cX6_badOfRow 61 = .ok (.iconst 1, 1) := by decide +kernel
theorem dX6_badOfRow_62 : decode cX6_badOfRow 62 = .ok (.invokevirtual 73, 3) := by decide +kernel
theorem dX6_badOfRow_65 : decode cX6_badOfRow 65 = .ok (.imul, 1) := by decide +kernel
theorem dX6_badOfRow_66 : decode cX6_badOfRow 66 = .ok (.iadd, 1) := by decide +kernel
theorem dX6_badOfRow_67 : decode cX6_badOfRow 67 = .ok (.istore 4, 2) := by decide +kernel
theorem dX6_badOfRow_69 : decode cX6_badOfRow 69 = .ok (.iload 5, 2) := by decide +kernel
theorem dX6_badOfRow_71 : decode cX6_badOfRow 71 = .ok (.aload_n 0, 1) := by decide +kernel
theorem dX6_badOfRow_72 : decode cX6_badOfRow 72 = .ok (.getfield 11, 3) := by decide +kernel
theorem dX6_badOfRow_75 : decode cX6_badOfRow 75 = .ok (.iload 6, 2) := by decide +kernel
theorem dX6_badOfRow_77 : decode cX6_badOfRow 77 = .ok (.iaload, 1) := by decide +kernel
theorem dX6_badOfRow_78 : decode cX6_badOfRow 78 = .ok (.aload_n 1, 1) := by decide +kernel
theorem dX6_badOfRow_79 : decode cX6_badOfRow 79 = .ok (.iload_n 2, 1) := by decide +kernel
theorem dX6_badOfRow_80 : decode cX6_badOfRow 80 = .ok (.iload 6, 2) := by decide +kernel
theorem dX6_badOfRow_82 : decode cX6_badOfRow 82 = .ok (.iconst 2, 1) := by decide +kernel
theorem dX6_badOfRow_83 : decode cX6_badOfRow 83 = .ok (.invokevirtual 73, 3) := by decide +kernel
theorem dX6_badOfRow_86 : decode cX6_badOfRow 86 = .ok (.imul, 1) := by decide +kernel
theorem dX6_badOfRow_87 : decode cX6_badOfRow 87 = .ok (.iadd, 1) := by decide +kernel
theorem dX6_badOfRow_88 : decode cX6_badOfRow 88 = .ok (.istore 5, 2) := by decide +kernel
theorem dX6_badOfRow_90 : decode cX6_badOfRow 90 = .ok (.iinc 6 1, 3) := by decide +kernel
theorem dX6_badOfRow_93 : decode cX6_badOfRow 93 = .ok (.goto (-73), 3) := by decide +kernel
theorem dX6_badOfRow_96 : decode cX6_badOfRow 96 = .ok (.aload_n 0, 1) := by decide +kernel
theorem dX6_badOfRow_97 : decode cX6_badOfRow 97 = .ok (.aload_n 1, 1) := by decide +kernel
theorem dX6_badOfRow_98 : decode cX6_badOfRow 98 = .ok (.iload_n 3, 1) := by decide +kernel
theorem dX6_badOfRow_99 : decode cX6_badOfRow 99 = .ok (.iload 4, 2) := by decide +kernel
theorem dX6_badOfRow_101 : decode cX6_badOfRow 101 = .ok (.iload 5, 2) := by decide +kernel
theorem dX6_badOfRow_103 : decode cX6_badOfRow 103 = .ok (.invokevirtual 77, 3) := by decide +kernel
theorem dX6_badOfRow_106 : decode cX6_badOfRow 106 = .ok (.ireturn, 1) := by decide +kernel
set_option maxRecDepth 20000 in
theorem sX6_badOfRow_0 {P : Option Value → AH → Prop} (h : AH) (r0 : Nat) (r1 : Nat) (x2 : Int32) (hf : (isO h 6 r0) ∧ (Rr mX6_badOfRow 0 0 20 [(0, .ref r0), (1, .ref r1), (2, .int x2), (3, .int (gI h r0 0)), (4, .int (gI h r0 1)), (5, .int (gI h r0 2)), (6, .int 0)] [] h P)) : Rr mX6_badOfRow 0 0 0 [(0, .ref r0), (1, .ref r1), (2, .int x2)] [] h P := by
  refine R_aload_n dX6_badOfRow_0 rfl 0 rfl ?_
  obtain ⟨ob1, hf⟩ := hf
  refine G6_0 dX6_badOfRow_1 lfX6_24 ob1 ?_
  refine R_istore_n dX6_badOfRow_4 rfl (by decide) rfl ?_
  refine R_aload_n dX6_badOfRow_5 rfl 1 rfl ?_
  refine G6_1 dX6_badOfRow_6 lfX6_27 ob1 ?_
  refine R_istore dX6_badOfRow_9 (by decide) rfl ?_
  refine R_aload_n dX6_badOfRow_11 rfl 2 rfl ?_
  refine G6_2 dX6_badOfRow_12 lfX6_30 ob1 ?_
  refine R_istore dX6_badOfRow_15 (by decide) rfl ?_
  refine R_iconst (v := 0) dX6_badOfRow_17 (by decide) ?_
  refine R_istore dX6_badOfRow_18 (by decide) rfl ?_
  exact R_sub [4, 5, 6, 3, 2, 1, 0] rfl hf
set_option maxRecDepth 20000 in
theorem sX6_badOfRow_20 {P : Option Value → AH → Prop} (h : AH) (r0 : Nat) (r1 : Nat) (x2 : Int32) (x3 : Int32) (x4 : Int32) (x5 : Int32) (x6 : Int32) (hf : (isO h 6 r0) ∧ (((gI h r0 5) ≤ x6 → Call mX6_badOf [.ref r0, .ref r1, .int x3, .int x4, .int x5] h (fun v h3 => ∃ z4 : Int32, v = some (.int z4) ∧ (P (some (.int z4)) h3))) ∧ (¬ (gI h r0 5) ≤ x6 → (isA h 0 (gF h r0 4)) ∧ ((vp_in x6 (ln (gF h r0 4))) ∧ ((isO h 3 r1) ∧ (Call mX3_screwNumber [.ref r1, .int x2, .int x6, .int 0] h (fun v h8 => ∃ z9 : Int32, v = some (.int z9) ∧ ((isO h8 6 r0) ∧ ((isA h8 0 (gF h8 r0 4)) ∧ ((vp_in x6 (ln (gF h8 r0 4))) ∧ ((isO h8 3 r1) ∧ (Call mX3_screwNumber [.ref r1, .int x2, .int x6, .int 1] h8 (fun v h14 => ∃ z15 : Int32, v = some (.int z15) ∧ ((isO h14 6 r0) ∧ ((isA h14 0 (gF h14 r0 4)) ∧ ((vp_in x6 (ln (gF h14 r0 4))) ∧ ((isO h14 3 r1) ∧ (Call mX3_screwNumber [.ref r1, .int x2, .int x6, .int 2] h14 (fun v h20 => ∃ z21 : Int32, v = some (.int z21) ∧ (Rr mX6_badOfRow 0 0 20 [(0, .ref r0), (1, .ref r1), (2, .int x2), (3, .int (x3 + ((gI h (gF h r0 4) x6.toNatClampNeg) * z9))), (4, .int (x4 + ((gI h8 (gF h8 r0 4) x6.toNatClampNeg) * z15))), (5, .int (x5 + ((gI h14 (gF h14 r0 4) x6.toNatClampNeg) * z21))), (6, .int (x6 + 1))] [] h20 P)))))))))))))))))))) : Rr mX6_badOfRow 0 0 20 [(0, .ref r0), (1, .ref r1), (2, .int x2), (3, .int x3), (4, .int x4), (5, .int x5), (6, .int x6)] [] h P := by
  refine R_iload dX6_badOfRow_20 6 rfl ?_
  refine R_aload_n dX6_badOfRow_22 rfl 0 rfl ?_
  obtain ⟨ob1, hf⟩ := hf
  refine G6_5 dX6_badOfRow_23 lfX6_20 ob1 ?_
  refine R_icmp_ge (tgt := 96) dX6_badOfRow_26 (by decide) (fun b2 => ?_) (fun b2 => ?_)
  · have hf := hf.1 b2
    refine R_aload_n dX6_badOfRow_96 rfl 0 rfl ?_
    refine R_aload_n dX6_badOfRow_97 rfl 1 rfl ?_
    refine R_iload_n dX6_badOfRow_98 rfl 3 rfl ?_
    refine R_iload dX6_badOfRow_99 4 rfl ?_
    refine R_iload dX6_badOfRow_101 5 rfl ?_
    refine R_callV (ci := 6) (N := mX6_badOf) (as := [.ref r1, .int x3, .int x4, .int x5]) (rest := []) (kc2 := 0) (ks2 := 0) dX6_badOfRow_103 lmX6_77 oX6_badOf (Nat.le_of_ble_eq_true rfl) rfl rfl (Nat.le_of_ble_eq_true rfl) rfl rfl ob1 ok6 (Call.mono hf ?_)
    rintro _ h3 ⟨z4, rfl, hf⟩
    exact R_iret dX6_badOfRow_106 rfl rfl hf
  · have hf := hf.2 b2
    refine R_iload_n dX6_badOfRow_29 rfl 3 rfl ?_
    refine R_aload_n dX6_badOfRow_30 rfl 0 rfl ?_
    refine G6_4 dX6_badOfRow_31 lfX6_11 ob1 ?_
    refine R_iload dX6_badOfRow_34 6 rfl ?_
    obtain ⟨ob5, hf⟩ := hf
    obtain ⟨ob6, hf⟩ := hf
    refine R_iaload dX6_badOfRow_36 ob5 ob6 ?_
    refine R_aload_n dX6_badOfRow_37 rfl 1 rfl ?_
    refine R_iload_n dX6_badOfRow_38 rfl 2 rfl ?_
    refine R_iload dX6_badOfRow_39 6 rfl ?_
    refine R_iconst (v := 0) dX6_badOfRow_41 (by decide) ?_
    obtain ⟨ob7, hf⟩ := hf
    refine R_callV (ci := 3) (N := mX3_screwNumber) (as := [.int x2, .int x6, .int 0]) (rest := [.int (gI h (gF h r0 4) x6.toNatClampNeg), .int x3]) (kc2 := 0) (ks2 := 0) dX6_badOfRow_42 lmX6_73 oX3_screwNumber (Nat.le_of_ble_eq_true rfl) rfl rfl (Nat.le_of_ble_eq_true rfl) rfl rfl ob7 ok3 (Call.mono hf ?_)
    rintro _ h8 ⟨z9, rfl, hf⟩
    refine R_imul dX6_badOfRow_45 ?_
    refine R_iadd dX6_badOfRow_46 ?_
    refine R_istore_n dX6_badOfRow_47 rfl (by decide) rfl ?_
    refine R_iload dX6_badOfRow_48 4 rfl ?_
    refine R_aload_n dX6_badOfRow_50 rfl 1 rfl ?_
    obtain ⟨ob10, hf⟩ := hf
    refine G6_4 dX6_badOfRow_51 lfX6_11 ob10 ?_
    refine R_iload dX6_badOfRow_54 6 rfl ?_
    obtain ⟨ob11, hf⟩ := hf
    obtain ⟨ob12, hf⟩ := hf
    refine R_iaload dX6_badOfRow_56 ob11 ob12 ?_
    refine R_aload_n dX6_badOfRow_57 rfl 2 rfl ?_
    refine R_iload_n dX6_badOfRow_58 rfl 3 rfl ?_
    refine R_iload dX6_badOfRow_59 6 rfl ?_
    refine R_iconst (v := 1) dX6_badOfRow_61 (by decide) ?_
    obtain ⟨ob13, hf⟩ := hf
    refine R_callV (ci := 3) (N := mX3_screwNumber) (as := [.int x2, .int x6, .int 1]) (rest := [.int (gI h8 (gF h8 r0 4) x6.toNatClampNeg), .int x4]) (kc2 := 0) (ks2 := 0) dX6_badOfRow_62 lmX6_73 oX3_screwNumber (Nat.le_of_ble_eq_true rfl) rfl rfl (Nat.le_of_ble_eq_true rfl) rfl rfl ob13 ok3 (Call.mono hf ?_)
    rintro _ h14 ⟨z15, rfl, hf⟩
    refine R_imul dX6_badOfRow_65 ?_
    refine R_iadd dX6_badOfRow_66 ?_
    refine R_istore dX6_badOfRow_67 (by decide) rfl ?_
    refine R_iload dX6_badOfRow_69 5 rfl ?_
    refine R_aload_n dX6_badOfRow_71 rfl 2 rfl ?_
    obtain ⟨ob16, hf⟩ := hf
    refine G6_4 dX6_badOfRow_72 lfX6_11 ob16 ?_
    refine R_iload dX6_badOfRow_75 6 rfl ?_
    obtain ⟨ob17, hf⟩ := hf
    obtain ⟨ob18, hf⟩ := hf
    refine R_iaload dX6_badOfRow_77 ob17 ob18 ?_
    refine R_aload_n dX6_badOfRow_78 rfl 3 rfl ?_
    refine R_iload_n dX6_badOfRow_79 rfl 4 rfl ?_
    refine R_iload dX6_badOfRow_80 6 rfl ?_
    refine R_iconst (v := 2) dX6_badOfRow_82 (by decide) ?_
    obtain ⟨ob19, hf⟩ := hf
    refine R_callV (ci := 3) (N := mX3_screwNumber) (as := [.int x2, .int x6, .int 2]) (rest := [.int (gI h14 (gF h14 r0 4) x6.toNatClampNeg), .int x5]) (kc2 := 0) (ks2 := 0) dX6_badOfRow_83 lmX6_73 oX3_screwNumber (Nat.le_of_ble_eq_true rfl) rfl rfl (Nat.le_of_ble_eq_true rfl) rfl rfl ob19 ok3 (Call.mono hf ?_)
    rintro _ h20 ⟨z21, rfl, hf⟩
    refine R_imul dX6_badOfRow_86 ?_
    refine R_iadd dX6_badOfRow_87 ?_
    refine R_istore dX6_badOfRow_88 (by decide) rfl ?_
    refine R_iinc (v := x6 + 1) dX6_badOfRow_90 6 rfl rfl (by decide) rfl ?_
    refine R_goto (tgt := 20) dX6_badOfRow_93 (by decide) ?_
    exact R_sub [4, 5, 6, 3, 2, 1, 0] rfl hf
theorem dX8_leastBeat_0 : decode cX8_leastBeat 0 = .ok (.aload_n 0, 1) := by decide +kernel
theorem dX8_leastBeat_1 : decode cX8_leastBeat 1 = .ok (.iload_n 1, 1) := by decide +kernel
theorem dX8_leastBeat_2 : decode cX8_leastBeat 2 = .ok (.iload_n 2, 1) := by decide +kernel
theorem dX8_leastBeat_3 : decode cX8_leastBeat 3 = .ok (.invokevirtual 47, 3) := by decide +kernel
theorem dX8_leastBeat_6 : decode cX8_leastBeat 6 = .ok (.aload_n 0, 1) := by decide +kernel
theorem dX8_leastBeat_7 : decode cX8_leastBeat 7 = .ok (.iload_n 1, 1) := by decide +kernel
theorem dX8_leastBeat_8 : decode cX8_leastBeat 8 = .ok (.iload_n 3, 1) := by decide +kernel
theorem dX8_leastBeat_9 : decode cX8_leastBeat 9 = .ok (.invokevirtual 47, 3) := by decide +kernel
theorem dX8_leastBeat_12 : decode cX8_leastBeat 12 = .ok (.aload_n 0, 1) := by decide +kernel
theorem dX8_leastBeat_13 : decode cX8_leastBeat 13 = .ok (.iload_n 1, 1) := by decide +kernel
theorem dX8_leastBeat_14 : decode cX8_leastBeat 14 = .ok (.iload 4, 2) := by decide +kernel
theorem dX8_leastBeat_16 : decode cX8_leastBeat 16 = .ok (.invokevirtual 47, 3) := by decide +kernel
theorem dX8_leastBeat_19 : decode cX8_leastBeat 19 = .ok (.invokestatic 33, 3) := by decide +kernel
theorem dX8_leastBeat_22 : decode cX8_leastBeat 22 = .ok (.invokestatic 33, 3) := by decide +kernel
theorem dX8_leastBeat_25 : decode cX8_leastBeat 25 = .ok (.istore 5, 2) := by decide +kernel
theorem dX8_leastBeat_27 : decode cX8_leastBeat 27 = .ok (.aload_n 0, 1) := by decide +kernel
theorem dX8_leastBeat_28 : decode cX8_leastBeat 28 = .ok (.iload_n 2, 1) := by decide +kernel
theorem dX8_leastBeat_29 : decode cX8_leastBeat 29 = .ok (.iload_n 3, 1) := by decide +kernel
theorem dX8_leastBeat_30 : decode cX8_leastBeat 30 = .ok (.invokevirtual 47, 3) := by decide +kernel
theorem dX8_leastBeat_33 : decode cX8_leastBeat 33 = .ok (.aload_n 0, 1) := by decide +kernel
theorem dX8_leastBeat_34 : decode cX8_leastBeat 34 = .ok (.iload_n 2, 1) := by decide +kernel
theorem dX8_leastBeat_35 : decode cX8_leastBeat 35 = .ok (.iload 4, 2) := by decide +kernel
theorem dX8_leastBeat_37 : decode cX8_leastBeat 37 = .ok (.invokevirtual 47, 3) := by decide +kernel
theorem dX8_leastBeat_40 : decode cX8_leastBeat 40 = .ok (.aload_n 0, 1) := by decide +kernel
theorem dX8_leastBeat_41 : decode cX8_leastBeat 41 = .ok (.iload_n 3, 1) := by decide +kernel
theorem dX8_leastBeat_42 : decode cX8_leastBeat 42 = .ok (.iload 4, 2) := by decide +kernel
theorem dX8_leastBeat_44 : decode cX8_leastBeat 44 = .ok (.invokevirtual 47, 3) := by decide +kernel
theorem dX8_leastBeat_47 : decode cX8_leastBeat 47 = .ok (.invokestatic 33, 3) := by decide +kernel
theorem dX8_leastBeat_50 : decode cX8_leastBeat 50 = .ok (.invokestatic 33, 3) := by decide +kernel
theorem dX8_leastBeat_53 : decode cX8_leastBeat 53 = .ok (.istore 6, 2) := by decide +kernel
theorem dX8_leastBeat_55 : decode cX8_leastBeat 55 = .ok (.iload 5, 2) := by decide +kernel
theorem dX8_leastBeat_57 : decode cX8_leastBeat 57 = .ok (.iload 6, 2) := by decide +kernel
theorem dX8_leastBeat_59 : decode cX8_leastBeat 59 = .ok (.invokestatic 33, 3) := by decide +kernel
theorem dX8_leastBeat_62 : decode cX8_leastBeat 62 = .ok (.ireturn, 1) := by decide +kernel
set_option maxRecDepth 20000 in
theorem sX8_leastBeat_0 {P : Option Value → AH → Prop} (h : AH) (r0 : Nat) (x1 : Int32) (x2 : Int32) (x3 : Int32) (x4 : Int32) (hf : (isO h 8 r0) ∧ (Call mX8_beatOf [.ref r0, .int x1, .int x2] h (fun v h2 => ∃ z3 : Int32, v = some (.int z3) ∧ ((isO h2 8 r0) ∧ (Call mX8_beatOf [.ref r0, .int x1, .int x3] h2 (fun v h5 => ∃ z6 : Int32, v = some (.int z6) ∧ ((isO h5 8 r0) ∧ (Call mX8_beatOf [.ref r0, .int x1, .int x4] h5 (fun v h8 => ∃ z9 : Int32, v = some (.int z9) ∧ ((isO h8 8 r0) ∧ (Call mX8_beatOf [.ref r0, .int x2, .int x3] h8 (fun v h11 => ∃ z12 : Int32, v = some (.int z12) ∧ ((isO h11 8 r0) ∧ (Call mX8_beatOf [.ref r0, .int x2, .int x4] h11 (fun v h14 => ∃ z15 : Int32, v = some (.int z15) ∧ ((isO h14 8 r0) ∧ (Call mX8_beatOf [.ref r0, .int x3, .int x4] h14 (fun v h17 => ∃ z18 : Int32, v = some (.int z18) ∧ (P (some (.int (imin (imin z3 (imin z6 z9)) (imin z12 (imin z15 z18))))) h17))))))))))))))))))) : Rr mX8_leastBeat 0 0 0 [(0, .ref r0), (1, .int x1), (2, .int x2), (3, .int x3), (4, .int x4)] [] h P := by
  refine R_aload_n dX8_leastBeat_0 rfl 0 rfl ?_
  refine R_iload_n dX8_leastBeat_1 rfl 1 rfl ?_
  refine R_iload_n dX8_leastBeat_2 rfl 2 rfl ?_
  obtain ⟨ob1, hf⟩ := hf
  refine R_callV (ci := 8) (N := mX8_beatOf) (as := [.int x1, .int x2]) (rest := []) (kc2 := 0) (ks2 := 0) dX8_leastBeat_3 lmX8_47 oX8_beatOf (Nat.le_of_ble_eq_true rfl) rfl rfl (Nat.le_of_ble_eq_true rfl) rfl rfl ob1 ok8 (Call.mono hf ?_)
  rintro _ h2 ⟨z3, rfl, hf⟩
  refine R_aload_n dX8_leastBeat_6 rfl 0 rfl ?_
  refine R_iload_n dX8_leastBeat_7 rfl 1 rfl ?_
  refine R_iload_n dX8_leastBeat_8 rfl 3 rfl ?_
  obtain ⟨ob4, hf⟩ := hf
  refine R_callV (ci := 8) (N := mX8_beatOf) (as := [.int x1, .int x3]) (rest := [.int z3]) (kc2 := 0) (ks2 := 0) dX8_leastBeat_9 lmX8_47 oX8_beatOf (Nat.le_of_ble_eq_true rfl) rfl rfl (Nat.le_of_ble_eq_true rfl) rfl rfl ob4 ok8 (Call.mono hf ?_)
  rintro _ h5 ⟨z6, rfl, hf⟩
  refine R_aload_n dX8_leastBeat_12 rfl 0 rfl ?_
  refine R_iload_n dX8_leastBeat_13 rfl 1 rfl ?_
  refine R_iload dX8_leastBeat_14 4 rfl ?_
  obtain ⟨ob7, hf⟩ := hf
  refine R_callV (ci := 8) (N := mX8_beatOf) (as := [.int x1, .int x4]) (rest := [.int z6, .int z3]) (kc2 := 0) (ks2 := 0) dX8_leastBeat_16 lmX8_47 oX8_beatOf (Nat.le_of_ble_eq_true rfl) rfl rfl (Nat.le_of_ble_eq_true rfl) rfl rfl ob7 ok8 (Call.mono hf ?_)
  rintro _ h8 ⟨z9, rfl, hf⟩
  refine R_mmin dX8_leastBeat_19 lmX8_33 (by decide) (Nat.le_of_ble_eq_true rfl) ?_
  refine R_mmin dX8_leastBeat_22 lmX8_33 (by decide) (Nat.le_of_ble_eq_true rfl) ?_
  refine R_istore dX8_leastBeat_25 (by decide) rfl ?_
  refine R_aload_n dX8_leastBeat_27 rfl 1 rfl ?_
  refine R_iload_n dX8_leastBeat_28 rfl 3 rfl ?_
  refine R_iload_n dX8_leastBeat_29 rfl 4 rfl ?_
  obtain ⟨ob10, hf⟩ := hf
  refine R_callV (ci := 8) (N := mX8_beatOf) (as := [.int x2, .int x3]) (rest := []) (kc2 := 0) (ks2 := 0) dX8_leastBeat_30 lmX8_47 oX8_beatOf (Nat.le_of_ble_eq_true rfl) rfl rfl (Nat.le_of_ble_eq_true rfl) rfl rfl ob10 ok8 (Call.mono hf ?_)
  rintro _ h11 ⟨z12, rfl, hf⟩
  refine R_aload_n dX8_leastBeat_33 rfl 1 rfl ?_
  refine R_iload_n dX8_leastBeat_34 rfl 3 rfl ?_
  refine R_iload dX8_leastBeat_35 5 rfl ?_
  obtain ⟨ob13, hf⟩ := hf
  refine R_callV (ci := 8) (N := mX8_beatOf) (as := [.int x2, .int x4]) (rest := [.int z12]) (kc2 := 0) (ks2 := 0) dX8_leastBeat_37 lmX8_47 oX8_beatOf (Nat.le_of_ble_eq_true rfl) rfl rfl (Nat.le_of_ble_eq_true rfl) rfl rfl ob13 ok8 (Call.mono hf ?_)
  rintro _ h14 ⟨z15, rfl, hf⟩
  refine R_aload_n dX8_leastBeat_40 rfl 1 rfl ?_
  refine R_iload_n dX8_leastBeat_41 rfl 4 rfl ?_
  refine R_iload dX8_leastBeat_42 5 rfl ?_
  obtain ⟨ob16, hf⟩ := hf
  refine R_callV (ci := 8) (N := mX8_beatOf) (as := [.int x3, .int x4]) (rest := [.int z15, .int z12]) (kc2 := 0) (ks2 := 0) dX8_leastBeat_44 lmX8_47 oX8_beatOf (Nat.le_of_ble_eq_true rfl) rfl rfl (Nat.le_of_ble_eq_true rfl) rfl rfl ob16 ok8 (Call.mono hf ?_)
  rintro _ h17 ⟨z18, rfl, hf⟩
  refine R_mmin dX8_leastBeat_47 lmX8_33 (by decide) (Nat.le_of_ble_eq_true rfl) ?_
  refine R_mmin dX8_leastBeat_50 lmX8_33 (by decide) (Nat.le_of_ble_eq_true rfl) ?_
  refine R_istore dX8_leastBeat_53 (by decide) rfl ?_
  refine R_iload dX8_leastBeat_55 1 rfl ?_
  refine R_iload dX8_leastBeat_57 0 rfl ?_
  refine R_mmin dX8_leastBeat_59 lmX8_33 (by decide) (Nat.le_of_ble_eq_true rfl) ?_
  exact R_iret dX8_leastBeat_62 rfl rfl hf
theorem dX9_next_0 : decode cX9_next 0 = .ok (.aload_n 0, 1) := by decide +kernel
theorem dX9_next_1 : decode cX9_next 1 = .ok (.getfield 19, 3) := by decide +kernel
theorem dX9_next_4 : decode cX9_next 4 = .ok (.aload_n 0, 1) := by decide +kernel
theorem dX9_next_5 : decode cX9_next 5 = .ok (.getfield 15, 3) := by decide +kernel
theorem dX9_next_8 : decode cX9_next 8 = .ok (.if_icmp .ge 31, 3) := by decide +kernel
theorem dX9_next_11 : decode cX9_next 11 = .ok (.aload_n 0, 1) := by decide +kernel
theorem dX9_next_12 : decode cX9_next 12 = .ok (.getfield 11, 3) := by decide +kernel
theorem dX9_next_15 : decode cX9_next 15 = .ok (.aload_n 0, 1) := by decide +kernel
theorem dX9_next_16 : decode cX9_next 16 = .ok (.getfield 19, 3) := by decide +kernel
theorem dX9_next_19 : decode cX9_next 19 = .ok (.baload, 1) := by decide +kernel
theorem dX9_next_20 : decode cX9_next 20 = .ok (.invokestatic 22, 3) := by decide +kernel
theorem dX9_next_23 : decode cX9_next 23 = .ok (.ifCond .eq 16, 3) := by decide +kernel
theorem dX9_next_26 : decode cX9_next 26 = .ok (.aload_n 0, 1) := by decide +kernel
theorem dX9_next_27 : decode cX9_next 27 = .ok (.dup, 1) := by decide +kernel
theorem dX9_next_28 : decode cX9_next 28 = .ok (.getfield 19, 3) := by decide +kernel
theorem dX9_next_31 : decode cX9_next 31 = .ok (.iconst 1, 1) := by decide +kernel
theorem dX9_next_32 : decode cX9_next 32 = .ok (.iadd, 1) := by decide +kernel
theorem dX9_next_33 : decode cX9_next 33 = .ok (.putfield 19, 3) := by decide +kernel
theorem dX9_next_36 : decode cX9_next 36 = .ok (.goto (-36), 3) := by decide +kernel
theorem dX9_next_39 : decode cX9_next 39 = .ok (.aload_n 0, 1) := by decide +kernel
theorem dX9_next_40 : decode cX9_next 40 = .ok (.aload_n 0, 1) := by decide +kernel
theorem dX9_next_41 : decode cX9_next 41 = .ok (.getfield 19, 3) := by decide +kernel
theorem dX9_next_44 : decode cX9_next 44 = .ok (.putfield 26, 3) := by decide +kernel
theorem dX9_next_47 : decode cX9_next 47 = .ok (.aload_n 0, 1) := by decide +kernel
theorem dX9_next_48 : decode cX9_next 48 = .ok (.iconst 0, 1) := by decide +kernel
theorem dX9_next_49 : decode cX9_next 49 = .ok (.putfield 29, 3) := by decide +kernel
theorem dX9_next_52 : decode cX9_next 52 = .ok (.aload_n 0, 1) := by decide +kernel
theorem dX9_next_53 : decode cX9_next 53 = .ok (.getfield 19, 3) := by decide +kernel
theorem dX9_next_56 : decode cX9_next 56 = .ok (.aload_n 0, 1) := by decide +kernel
theorem dX9_next_57 : decode cX9_next 57 = .ok (.getfield 15, 3) := by decide +kernel
theorem dX9_next_60 : decode cX9_next 60 = .ok (.if_icmp .lt 11, 3) := by decide +kernel
theorem dX9_next_63 : decode cX9_next 63 = .ok (.aload_n 0, 1) := by decide +kernel
theorem dX9_next_64 : decode cX9_next 64 = .ok (.iconst 0, 1) := by decide +kernel
theorem dX9_next_65 : decode cX9_next 65 = .ok (.putfield 32, 3) := by decide +kernel
theorem dX9_next_68 : decode cX9_next 68 = .ok (.goto 60, 3) := by decide +kernel
theorem dX9_next_71 : decode cX9_next 71 = .ok (.aload_n 0, 1) := by decide +kernel
theorem dX9_next_72 : decode cX9_next 72 = .ok (.getfield 11, 3) := by decide +kernel
theorem dX9_next_75 : decode cX9_next 75 = .ok (.aload_n 0, 1) := by decide +kernel
theorem dX9_next_76 : decode cX9_next 76 = .ok (.getfield 19, 3) := by decide +kernel
theorem dX9_next_79 : decode cX9_next 79 = .ok (.baload, 1) := by decide +kernel
theorem dX9_next_80 : decode cX9_next 80 = .ok (.invokestatic 35, 3) := by decide +kernel
theorem dX9_next_83 : decode cX9_next 83 = .ok (.ifCond .eq 10, 3) := by decide +kernel
theorem dX9_next_86 : decode cX9_next 86 = .ok (.aload_n 0, 1) := by decide +kernel
theorem dX9_next_87 : decode cX9_next 87 = .ok (.invokevirtual 38, 3) := by decide +kernel
theorem dX9_next_90 : decode cX9_next 90 = .ok (.goto 38, 3) := by decide +kernel
theorem dX9_next_93 : decode cX9_next 93 = .ok (.aload_n 0, 1) := by decide +kernel
theorem dX9_next_94 : decode cX9_next 94 = .ok (.getfield 11, 3) := by decide +kernel
theorem dX9_next_97 : decode cX9_next 97 = .ok (.aload_n 0, 1) := by decide +kernel
theorem dX9_next_98 : decode cX9_next 98 = .ok (.getfield 19, 3) := by decide +kernel
theorem dX9_next_101 : decode cX9_next 101 = .ok (.baload, 1) := by decide +kernel
theorem dX9_next_102 : decode cX9_next 102 = .ok (.invokestatic 41, 3) := by decide +kernel
theorem dX9_next_105 : decode cX9_next 105 = .ok (.ifCond .eq 10, 3) := by decide +kernel
theorem dX9_next_108 : decode cX9_next 108 = .ok (.aload_n 0, 1) := by decide +kernel
theorem dX9_next_109 : decode cX9_next 109 = .ok (.invokevirtual 44, 3) := by decide +kernel
theorem dX9_next_112 : decode cX9_next 112 = .ok (.goto 16, 3) := by decide +kernel
theorem dX9_next_115 : decode cX9_next 115 = .ok (.aload_n 0, 1) := by decide +kernel
theorem dX9_next_116 : decode cX9_next 116 = .ok (.aload_n 0, 1) := by decide +kernel
theorem dX9_next_117 : decode cX9_next 117 = .ok (.getfield 11, 3) := by decide +kernel
theorem dX9_next_120 : decode cX9_next 120 = .ok (.aload_n 0, 1) := by decide +kernel
theorem dX9_next_121 : decode cX9_next 121 = .ok (.getfield 19, 3) := by decide +kernel
theorem dX9_next_124 : decode cX9_next 124 = .ok (.baload, 1) := by decide +kernel
theorem dX9_next_125 : decode cX9_next 125 = .ok (.invokevirtual 47, 3) := by decide +kernel
theorem dX9_next_128 : decode cX9_next 128 = .ok (.return_, 1) := by decide +kernel
set_option maxRecDepth 20000 in
theorem sX9_next_0 {P : Option Value → AH → Prop} (h : AH) (r0 : Nat) (hf : (isO h 9 r0) ∧ (((gI h r0 2) ≤ (gI h r0 1) → ((gI h r0 1) < (gI h r0 2) → (isA h 2 (gF h r0 0)) ∧ ((vp_in (gI h r0 1) (ln (gF h r0 0))) ∧ ((¬ (¬ (gI h (gF h r0 0) (gI h r0 1).toNatClampNeg) < 97 ∧ ¬ 122 < (gI h (gF h r0 0) (gI h r0 1).toNatClampNeg)) → (¬ (¬ (gI h (gF h r0 0) (gI h r0 1).toNatClampNeg) < 48 ∧ ¬ 57 < (gI h (gF h r0 0) (gI h r0 1).toNatClampNeg)) → Call mX9_takeSign [.ref r0, .int (gI h (gF h r0 0) (gI h r0 1).toNatClampNeg)] (sI (sI h r0 4 (gI h r0 1)) r0 5 0) (fun v h8 => v = none ∧ (P none h8))) ∧ ((¬ (gI h (gF h r0 0) (gI h r0 1).toNatClampNeg) < 48 ∧ ¬ 57 < (gI h (gF h r0 0) (gI h r0 1).toNatClampNeg)) → Call mX9_takeNumber [.ref r0] (sI (sI h r0 4 (gI h r0 1)) r0 5 0) (fun v h9 => v = none ∧ (P none h9)))) ∧ ((¬ (gI h (gF h r0 0) (gI h r0 1).toNatClampNeg) < 97 ∧ ¬ 122 < (gI h (gF h r0 0) (gI h r0 1).toNatClampNeg)) → Call mX9_takeWord [.ref r0] (sI (sI h r0 4 (gI h r0 1)) r0 5 0) (fun v h10 => v = none ∧ (P none h10)))))) ∧ (¬ (gI h r0 1) < (gI h r0 2) → P none (sI (sI (sI h r0 4 (gI h r0 1)) r0 5 0) r0 3 0))) ∧ (¬ (gI h r0 2) ≤ (gI h r0 1) → (isA h 2 (gF h r0 0)) ∧ ((vp_in (gI h r0 1) (ln (gF h r0 0))) ∧ ((¬ ((gI h (gF h r0 0) (gI h r0 1).toNatClampNeg) = 32 ∨ ((gI h (gF h r0 0) (gI h r0 1).toNatClampNeg) = 10)) → ((gI h r0 1) < (gI h r0 2) → (¬ (¬ (gI h (gF h r0 0) (gI h r0 1).toNatClampNeg) < 97 ∧ ¬ 122 < (gI h (gF h r0 0) (gI h r0 1).toNatClampNeg)) → (¬ (¬ (gI h (gF h r0 0) (gI h r0 1).toNatClampNeg) < 48 ∧ ¬ 57 < (gI h (gF h r0 0) (gI h r0 1).toNatClampNeg)) → Call mX9_takeSign [.ref r0, .int (gI h (gF h r0 0) (gI h r0 1).toNatClampNeg)] (sI (sI h r0 4 (gI h r0 1)) r0 5 0) (fun v h17 => v = none ∧ (P none h17))) ∧ ((¬ (gI h (gF h r0 0) (gI h r0 1).toNatClampNeg) < 48 ∧ ¬ 57 < (gI h (gF h r0 0) (gI h r0 1).toNatClampNeg)) → Call mX9_takeNumber [.ref r0] (sI (sI h r0 4 (gI h r0 1)) r0 5 0) (fun v h18 => v = none ∧ (P none h18)))) ∧ ((¬ (gI h (gF h r0 0) (gI h r0 1).toNatClampNeg) < 97 ∧ ¬ 122 < (gI h (gF h r0 0) (gI h r0 1).toNatClampNeg)) → Call mX9_takeWord [.ref r0] (sI (sI h r0 4 (gI h r0 1)) r0 5 0) (fun v h19 => v = none ∧ (P none h19)))) ∧ (¬ (gI h r0 1) < (gI h r0 2) → P none (sI (sI (sI h r0 4 (gI h r0 1)) r0 5 0) r0 3 0))) ∧ (((gI h (gF h r0 0) (gI h r0 1).toNatClampNeg) = 32 ∨ ((gI h (gF h r0 0) (gI h r0 1).toNatClampNeg) = 10)) → Rr mX9_next 0 0 0 [(0, .ref r0)] [] (sI h r0 1 ((gI h r0 1) + 1)) P)))))) : Rr mX9_next 0 0 0 [(0, .ref r0)] [] h P := by
  refine R_aload_n dX9_next_0 rfl 0 rfl ?_
  obtain ⟨ob1, hf⟩ := hf
  refine G9_1 dX9_next_1 lfX9_19 ob1 ?_
  refine R_aload_n dX9_next_4 rfl 0 rfl ?_
  refine G9_2 dX9_next_5 lfX9_15 ob1 ?_
  refine R_icmp_ge (tgt := 39) dX9_next_8 (by decide) (fun b2 => ?_) (fun b2 => ?_)
  · have hf := hf.1 b2
    refine R_aload_n dX9_next_39 rfl 0 rfl ?_
    refine R_aload_n dX9_next_40 rfl 0 rfl ?_
    refine G9_1 dX9_next_41 lfX9_19 ob1 ?_
    refine S9_4 dX9_next_44 lfX9_26 ob1 ?_
    refine R_aload_n dX9_next_47 rfl 0 rfl ?_
    refine R_iconst (v := 0) dX9_next_48 (by decide) ?_
    refine S9_5 dX9_next_49 lfX9_29 ob1 ?_
    refine R_aload_n dX9_next_52 rfl 0 rfl ?_
    refine G9_1 dX9_next_53 lfX9_19 ob1 ?_
    refine R_eqI (y := gI h r0 1) ((rd_k (by decide)).trans (rd_k (by decide))) ?_
    refine R_aload_n dX9_next_56 rfl 0 rfl ?_
    refine G9_2 dX9_next_57 lfX9_15 ob1 ?_
    refine R_eqI (y := gI h r0 2) ((rd_k (by decide)).trans (rd_k (by decide))) ?_
    refine R_icmp_lt (tgt := 71) dX9_next_60 (by decide) (fun b3 => ?_) (fun b3 => ?_)
    · have hf := hf.1 b3
      refine R_aload_n dX9_next_71 rfl 0 rfl ?_
      refine G9_0 dX9_next_72 lfX9_11 ob1 ?_
      refine R_eqF (y := gF h r0 0) rfl ?_
      refine R_aload_n dX9_next_75 rfl 0 rfl ?_
      refine G9_1 dX9_next_76 lfX9_19 ob1 ?_
      refine R_eqI (y := gI h r0 1) ((rd_k (by decide)).trans (rd_k (by decide))) ?_
      obtain ⟨ob4, hf⟩ := hf
      obtain ⟨ob5, hf⟩ := hf
      refine R_baload dX9_next_79 ob4 ob5 ?_
      refine R_eqI (y := gI h (gF h r0 0) (gI h r0 1).toNatClampNeg) ((rd_r (ne_ao ob4 ob1 (by decide))).trans (rd_r (ne_ao ob4 ob1 (by decide)))) ?_
      refine R_callS (N := mX9_isLetter) (as := [.int (gI h (gF h r0 0) (gI h r0 1).toNatClampNeg)]) (rest := []) (kc2 := 0) (ks2 := 0) dX9_next_80 lmX9_35 oX9_isLetter (Nat.le_of_ble_eq_true rfl) rfl rfl (Nat.le_of_ble_eq_true rfl) rfl rfl (aX9_isLetter  ?_)
      refine R_if_eq_b (tgt := 93) dX9_next_83 (by decide) (fun b6 => ?_) (fun b6 => ?_)
      · have hf := hf.1 b6
        refine R_aload_n dX9_next_93 rfl 0 rfl ?_
        refine G9_0 dX9_next_94 lfX9_11 ob1 ?_
        refine R_eqF (y := gF h r0 0) rfl ?_
        refine R_aload_n dX9_next_97 rfl 0 rfl ?_
        refine G9_1 dX9_next_98 lfX9_19 ob1 ?_
        refine R_eqI (y := gI h r0 1) ((rd_k (by decide)).trans (rd_k (by decide))) ?_
        refine R_baload dX9_next_101 ob4 ob5 ?_
        refine R_eqI (y := gI h (gF h r0 0) (gI h r0 1).toNatClampNeg) ((rd_r (ne_ao ob4 ob1 (by decide))).trans (rd_r (ne_ao ob4 ob1 (by decide)))) ?_
        refine R_callS (N := mX9_isDigit) (as := [.int (gI h (gF h r0 0) (gI h r0 1).toNatClampNeg)]) (rest := []) (kc2 := 0) (ks2 := 0) dX9_next_102 lmX9_41 oX9_isDigit (Nat.le_of_ble_eq_true rfl) rfl rfl (Nat.le_of_ble_eq_true rfl) rfl rfl (aX9_isDigit  ?_)
        refine R_if_eq_b (tgt := 115) dX9_next_105 (by decide) (fun b7 => ?_) (fun b7 => ?_)
        · have hf := hf.1 b7
          refine R_aload_n dX9_next_115 rfl 0 rfl ?_
          refine R_aload_n dX9_next_116 rfl 0 rfl ?_
          refine G9_0 dX9_next_117 lfX9_11 ob1 ?_
          refine R_eqF (y := gF h r0 0) rfl ?_
          refine R_aload_n dX9_next_120 rfl 0 rfl ?_
          refine G9_1 dX9_next_121 lfX9_19 ob1 ?_
          refine R_eqI (y := gI h r0 1) ((rd_k (by decide)).trans (rd_k (by decide))) ?_
          refine R_baload dX9_next_124 ob4 ob5 ?_
          refine R_eqI (y := gI h (gF h r0 0) (gI h r0 1).toNatClampNeg) ((rd_r (ne_ao ob4 ob1 (by decide))).trans (rd_r (ne_ao ob4 ob1 (by decide)))) ?_
          refine R_callV (ci := 9) (N := mX9_takeSign) (as := [.int (gI h (gF h r0 0) (gI h r0 1).toNatClampNeg)]) (rest := []) (kc2 := 0) (ks2 := 0) dX9_next_125 lmX9_47 oX9_takeSign (Nat.le_of_ble_eq_true rfl) rfl rfl (Nat.le_of_ble_eq_true rfl) rfl rfl ob1 ok9 (Call.mono hf ?_)
          rintro _ h8 ⟨rfl, hf⟩
          exact R_ret dX9_next_128 rfl hf
        · have hf := hf.2 b7
          refine R_aload_n dX9_next_108 rfl 0 rfl ?_
          refine R_callV (ci := 9) (N := mX9_takeNumber) (as := []) (rest := []) (kc2 := 0) (ks2 := 0) dX9_next_109 lmX9_44 oX9_takeNumber (Nat.le_of_ble_eq_true rfl) rfl rfl (Nat.le_of_ble_eq_true rfl) rfl rfl ob1 ok9 (Call.mono hf ?_)
          rintro _ h9 ⟨rfl, hf⟩
          refine R_goto (tgt := 128) dX9_next_112 (by decide) ?_
          exact R_ret dX9_next_128 rfl hf
      · have hf := hf.2 b6
        refine R_aload_n dX9_next_86 rfl 0 rfl ?_
        refine R_callV (ci := 9) (N := mX9_takeWord) (as := []) (rest := []) (kc2 := 0) (ks2 := 0) dX9_next_87 lmX9_38 oX9_takeWord (Nat.le_of_ble_eq_true rfl) rfl rfl (Nat.le_of_ble_eq_true rfl) rfl rfl ob1 ok9 (Call.mono hf ?_)
        rintro _ h10 ⟨rfl, hf⟩
        refine R_goto (tgt := 128) dX9_next_90 (by decide) ?_
        exact R_ret dX9_next_128 rfl hf
    · have hf := hf.2 b3
      refine R_aload_n dX9_next_63 rfl 0 rfl ?_
      refine R_iconst (v := 0) dX9_next_64 (by decide) ?_
      refine S9_3 dX9_next_65 lfX9_32 ob1 ?_
      refine R_goto (tgt := 128) dX9_next_68 (by decide) ?_
      exact R_ret dX9_next_128 rfl hf
  · have hf := hf.2 b2
    refine R_aload_n dX9_next_11 rfl 0 rfl ?_
    refine G9_0 dX9_next_12 lfX9_11 ob1 ?_
    refine R_aload_n dX9_next_15 rfl 0 rfl ?_
    refine G9_1 dX9_next_16 lfX9_19 ob1 ?_
    obtain ⟨ob11, hf⟩ := hf
    obtain ⟨ob12, hf⟩ := hf
    refine R_baload dX9_next_19 ob11 ob12 ?_
    refine R_callS (N := mX9_isBlank) (as := [.int (gI h (gF h r0 0) (gI h r0 1).toNatClampNeg)]) (rest := []) (kc2 := 0) (ks2 := 0) dX9_next_20 lmX9_22 oX9_isBlank (Nat.le_of_ble_eq_true rfl) rfl rfl (Nat.le_of_ble_eq_true rfl) rfl rfl (aX9_isBlank  ?_)
    refine R_if_eq_b (tgt := 39) dX9_next_23 (by decide) (fun b13 => ?_) (fun b13 => ?_)
    · have hf := hf.1 b13
      refine R_aload_n dX9_next_39 rfl 0 rfl ?_
      refine R_aload_n dX9_next_40 rfl 0 rfl ?_
      refine G9_1 dX9_next_41 lfX9_19 ob1 ?_
      refine S9_4 dX9_next_44 lfX9_26 ob1 ?_
      refine R_aload_n dX9_next_47 rfl 0 rfl ?_
      refine R_iconst (v := 0) dX9_next_48 (by decide) ?_
      refine S9_5 dX9_next_49 lfX9_29 ob1 ?_
      refine R_aload_n dX9_next_52 rfl 0 rfl ?_
      refine G9_1 dX9_next_53 lfX9_19 ob1 ?_
      refine R_eqI (y := gI h r0 1) ((rd_k (by decide)).trans (rd_k (by decide))) ?_
      refine R_aload_n dX9_next_56 rfl 0 rfl ?_
      refine G9_2 dX9_next_57 lfX9_15 ob1 ?_
      refine R_eqI (y := gI h r0 2) ((rd_k (by decide)).trans (rd_k (by decide))) ?_
      refine R_icmp_lt (tgt := 71) dX9_next_60 (by decide) (fun b14 => ?_) (fun b14 => ?_)
      · have hf := hf.1 b14
        refine R_aload_n dX9_next_71 rfl 0 rfl ?_
        refine G9_0 dX9_next_72 lfX9_11 ob1 ?_
        refine R_eqF (y := gF h r0 0) rfl ?_
        refine R_aload_n dX9_next_75 rfl 0 rfl ?_
        refine G9_1 dX9_next_76 lfX9_19 ob1 ?_
        refine R_eqI (y := gI h r0 1) ((rd_k (by decide)).trans (rd_k (by decide))) ?_
        refine R_baload dX9_next_79 ob11 ob12 ?_
        refine R_eqI (y := gI h (gF h r0 0) (gI h r0 1).toNatClampNeg) ((rd_r (ne_ao ob11 ob1 (by decide))).trans (rd_r (ne_ao ob11 ob1 (by decide)))) ?_
        refine R_callS (N := mX9_isLetter) (as := [.int (gI h (gF h r0 0) (gI h r0 1).toNatClampNeg)]) (rest := []) (kc2 := 0) (ks2 := 0) dX9_next_80 lmX9_35 oX9_isLetter (Nat.le_of_ble_eq_true rfl) rfl rfl (Nat.le_of_ble_eq_true rfl) rfl rfl (aX9_isLetter  ?_)
        refine R_if_eq_b (tgt := 93) dX9_next_83 (by decide) (fun b15 => ?_) (fun b15 => ?_)
        · have hf := hf.1 b15
          refine R_aload_n dX9_next_93 rfl 0 rfl ?_
          refine G9_0 dX9_next_94 lfX9_11 ob1 ?_
          refine R_eqF (y := gF h r0 0) rfl ?_
          refine R_aload_n dX9_next_97 rfl 0 rfl ?_
          refine G9_1 dX9_next_98 lfX9_19 ob1 ?_
          refine R_eqI (y := gI h r0 1) ((rd_k (by decide)).trans (rd_k (by decide))) ?_
          refine R_baload dX9_next_101 ob11 ob12 ?_
          refine R_eqI (y := gI h (gF h r0 0) (gI h r0 1).toNatClampNeg) ((rd_r (ne_ao ob11 ob1 (by decide))).trans (rd_r (ne_ao ob11 ob1 (by decide)))) ?_
          refine R_callS (N := mX9_isDigit) (as := [.int (gI h (gF h r0 0) (gI h r0 1).toNatClampNeg)]) (rest := []) (kc2 := 0) (ks2 := 0) dX9_next_102 lmX9_41 oX9_isDigit (Nat.le_of_ble_eq_true rfl) rfl rfl (Nat.le_of_ble_eq_true rfl) rfl rfl (aX9_isDigit  ?_)
          refine R_if_eq_b (tgt := 115) dX9_next_105 (by decide) (fun b16 => ?_) (fun b16 => ?_)
          · have hf := hf.1 b16
            refine R_aload_n dX9_next_115 rfl 0 rfl ?_
            refine R_aload_n dX9_next_116 rfl 0 rfl ?_
            refine G9_0 dX9_next_117 lfX9_11 ob1 ?_
            refine R_eqF (y := gF h r0 0) rfl ?_
            refine R_aload_n dX9_next_120 rfl 0 rfl ?_
            refine G9_1 dX9_next_121 lfX9_19 ob1 ?_
            refine R_eqI (y := gI h r0 1) ((rd_k (by decide)).trans (rd_k (by decide))) ?_
            refine R_baload dX9_next_124 ob11 ob12 ?_
            refine R_eqI (y := gI h (gF h r0 0) (gI h r0 1).toNatClampNeg) ((rd_r (ne_ao ob11 ob1 (by decide))).trans (rd_r (ne_ao ob11 ob1 (by decide)))) ?_
            refine R_callV (ci := 9) (N := mX9_takeSign) (as := [.int (gI h (gF h r0 0) (gI h r0 1).toNatClampNeg)]) (rest := []) (kc2 := 0) (ks2 := 0) dX9_next_125 lmX9_47 oX9_takeSign (Nat.le_of_ble_eq_true rfl) rfl rfl (Nat.le_of_ble_eq_true rfl) rfl rfl ob1 ok9 (Call.mono hf ?_)
            rintro _ h17 ⟨rfl, hf⟩
            exact R_ret dX9_next_128 rfl hf
          · have hf := hf.2 b16
            refine R_aload_n dX9_next_108 rfl 0 rfl ?_
            refine R_callV (ci := 9) (N := mX9_takeNumber) (as := []) (rest := []) (kc2 := 0) (ks2 := 0) dX9_next_109 lmX9_44 oX9_takeNumber (Nat.le_of_ble_eq_true rfl) rfl rfl (Nat.le_of_ble_eq_true rfl) rfl rfl ob1 ok9 (Call.mono hf ?_)
            rintro _ h18 ⟨rfl, hf⟩
            refine R_goto (tgt := 128) dX9_next_112 (by decide) ?_
            exact R_ret dX9_next_128 rfl hf
        · have hf := hf.2 b15
          refine R_aload_n dX9_next_86 rfl 0 rfl ?_
          refine R_callV (ci := 9) (N := mX9_takeWord) (as := []) (rest := []) (kc2 := 0) (ks2 := 0) dX9_next_87 lmX9_38 oX9_takeWord (Nat.le_of_ble_eq_true rfl) rfl rfl (Nat.le_of_ble_eq_true rfl) rfl rfl ob1 ok9 (Call.mono hf ?_)
          rintro _ h19 ⟨rfl, hf⟩
          refine R_goto (tgt := 128) dX9_next_90 (by decide) ?_
          exact R_ret dX9_next_128 rfl hf
      · have hf := hf.2 b14
        refine R_aload_n dX9_next_63 rfl 0 rfl ?_
        refine R_iconst (v := 0) dX9_next_64 (by decide) ?_
        refine S9_3 dX9_next_65 lfX9_32 ob1 ?_
        refine R_goto (tgt := 128) dX9_next_68 (by decide) ?_
        exact R_ret dX9_next_128 rfl hf
    · have hf := hf.2 b13
      refine R_aload_n dX9_next_26 rfl 0 rfl ?_
      refine R_dup dX9_next_27 rfl ?_
      refine G9_1 dX9_next_28 lfX9_19 ob1 ?_
      refine R_iconst (v := 1) dX9_next_31 (by decide) ?_
      refine R_iadd dX9_next_32 ?_
      refine S9_1 dX9_next_33 lfX9_19 ob1 ?_
      refine R_goto (tgt := 0) dX9_next_36 (by decide) ?_
      exact R_sub [0] rfl hf
