/-! MAKING: the reference -/
def q_M (h : AH) : AH := (sF (nw (sF (nw (sF (nw (sF (nw (sF (nw (sF (nw (sF (nw (sF (nw (sF (nw (sF (nw (sF (nw (sF (nw (sF (nw (sF (nw (sF (nw (sF (nw (sF (nw (sF (nw (sF (nw (sF (nw (sF (nw (sF (nw (sF (nw (sF (nw (sF (nw (sF (nw (sF (nw (sF (nw (sF (nw (sF (nw (sF (nw (sF (nw (sI (sF (nw h 117) 116 0 117) 116 9 (-1)) 118) 116 11 118) 119) 116 12 119) 120) 116 13 120) 121) 116 14 121) 122) 116 15 122) 123) 116 16 123) 124) 116 17 124) 125) 116 18 125) 126) 116 19 126) 127) 116 26 127) 128) 116 27 128) 129) 116 28 129) 130) 116 29 130) 131) 116 30 131) 132) 116 31 132) 133) 116 32 133) 134) 116 33 134) 135) 116 34 135) 136) 116 36 136) 137) 116 37 137) 138) 116 38 138) 139) 116 39 139) 140) 116 41 140) 141) 116 42 141) 142) 116 44 142) 143) 116 45 143) 144) 116 52 144) 145) 116 53 145) 146) 116 54 146) 147) 116 56 147) 148) 116 57 148) 149) 116 58 149)
theorem i_X12 {h : AH} {P : Option Value → AH → Prop} (hn : h.1 = 117) (w : Wf (q_M h)) (k : ∀ h7 h9, Fr BGr (q_M h) h7 → (∀ z, z ≠ 21 → z ≠ 22 → gI h7 116 z = gI (q_M h) 116 z) → B0 h7 → SE h7 h9 → P none h9) : Call mX12_init [.ref 116] h P := by
  refine Call.ofR (by decide +kernel) (Nat.le_of_ble_eq_true rfl) ?_
  refine R_aload_n (j := 0) (i := 0) (by decide +kernel) rfl 0 rfl ?_
  refine R_objInit (i := 1) (by decide +kernel) lmX12_1 w_oi1 w_oi2 (Nat.le_of_ble_eq_true rfl) (Nat.le_of_ble_eq_true rfl) (by rw [hn]; decide) ?_
  refine R_aload_n (j := 0) (i := 0) (by decide +kernel) rfl 0 rfl ?_
  refine R_sipush (n := 900) (v := 900) (by decide +kernel) rfl ?_
  refine R_newB (n := 117) (N := 900) (kc2 := 32) (ks2 := 1029) (by decide +kernel) hn rfl rfl (by decide) rfl (by decide) rfl rfl ?_
  refine S12_0 (i := 7) (by decide +kernel) lfX12_7 ⟨rfl, rfl⟩ ⟨(by decide : 116 < 118), rfl⟩ ?_
  refine R_aload_n (j := 0) (i := 0) (by decide +kernel) rfl 0 rfl ?_
  refine R_iconst (n := -1) (v := -1) (by decide +kernel) rfl ?_
  refine S12_9 (i := 13) (by decide +kernel) lfX12_13 ⟨(by decide : 116 < 118), rfl⟩ ?_
  refine R_aload_n (j := 0) (i := 0) (by decide +kernel) rfl 0 rfl ?_
  refine R_bipush (n := 18) (v := 18) (by decide +kernel) rfl ?_
  refine R_newI (n := 118) (N := 18) (kc2 := 31) (ks2 := 1011) (by decide +kernel) rfl rfl rfl (by decide) rfl (by decide) rfl rfl ?_
  refine S12_11 (i := 17) (by decide +kernel) lfX12_17 ⟨rfl, rfl⟩ ⟨(by decide : 116 < 119), rfl⟩ ?_
  refine R_aload_n (j := 0) (i := 0) (by decide +kernel) rfl 0 rfl ?_
  refine R_bipush (n := 16) (v := 16) (by decide +kernel) rfl ?_
  refine R_newI (n := 119) (N := 16) (kc2 := 30) (ks2 := 995) (by decide +kernel) rfl rfl rfl (by decide) rfl (by decide) rfl rfl ?_
  refine S12_12 (i := 21) (by decide +kernel) lfX12_21 ⟨rfl, rfl⟩ ⟨(by decide : 116 < 120), rfl⟩ ?_
  refine R_aload_n (j := 0) (i := 0) (by decide +kernel) rfl 0 rfl ?_
  refine R_bipush (n := 16) (v := 16) (by decide +kernel) rfl ?_
  refine R_newI (n := 120) (N := 16) (kc2 := 29) (ks2 := 979) (by decide +kernel) rfl rfl rfl (by decide) rfl (by decide) rfl rfl ?_
  refine S12_13 (i := 24) (by decide +kernel) lfX12_24 ⟨rfl, rfl⟩ ⟨(by decide : 116 < 121), rfl⟩ ?_
  refine R_aload_n (j := 0) (i := 0) (by decide +kernel) rfl 0 rfl ?_
  refine R_bipush (n := 8) (v := 8) (by decide +kernel) rfl ?_
  refine R_newI (n := 121) (N := 8) (kc2 := 28) (ks2 := 971) (by decide +kernel) rfl rfl rfl (by decide) rfl (by decide) rfl rfl ?_
  refine S12_14 (i := 27) (by decide +kernel) lfX12_27 ⟨rfl, rfl⟩ ⟨(by decide : 116 < 122), rfl⟩ ?_
  refine R_aload_n (j := 0) (i := 0) (by decide +kernel) rfl 0 rfl ?_
  refine R_bipush (n := 72) (v := 72) (by decide +kernel) rfl ?_
  refine R_newI (n := 122) (N := 72) (kc2 := 27) (ks2 := 899) (by decide +kernel) rfl rfl rfl (by decide) rfl (by decide) rfl rfl ?_
  refine S12_15 (i := 30) (by decide +kernel) lfX12_30 ⟨rfl, rfl⟩ ⟨(by decide : 116 < 123), rfl⟩ ?_
  refine R_aload_n (j := 0) (i := 0) (by decide +kernel) rfl 0 rfl ?_
  refine R_sipush (n := 128) (v := 128) (by decide +kernel) rfl ?_
  refine R_newI (n := 123) (N := 128) (kc2 := 26) (ks2 := 771) (by decide +kernel) rfl rfl rfl (by decide) rfl (by decide) rfl rfl ?_
  refine S12_16 (i := 33) (by decide +kernel) lfX12_33 ⟨rfl, rfl⟩ ⟨(by decide : 116 < 124), rfl⟩ ?_
  refine R_aload_n (j := 0) (i := 0) (by decide +kernel) rfl 0 rfl ?_
  refine R_bipush (n := 16) (v := 16) (by decide +kernel) rfl ?_
  refine R_newI (n := 124) (N := 16) (kc2 := 25) (ks2 := 755) (by decide +kernel) rfl rfl rfl (by decide) rfl (by decide) rfl rfl ?_
  refine S12_17 (i := 36) (by decide +kernel) lfX12_36 ⟨rfl, rfl⟩ ⟨(by decide : 116 < 125), rfl⟩ ?_
  refine R_aload_n (j := 0) (i := 0) (by decide +kernel) rfl 0 rfl ?_
  refine R_bipush (n := 16) (v := 16) (by decide +kernel) rfl ?_
  refine R_newI (n := 125) (N := 16) (kc2 := 24) (ks2 := 739) (by decide +kernel) rfl rfl rfl (by decide) rfl (by decide) rfl rfl ?_
  refine S12_18 (i := 39) (by decide +kernel) lfX12_39 ⟨rfl, rfl⟩ ⟨(by decide : 116 < 126), rfl⟩ ?_
  refine R_aload_n (j := 0) (i := 0) (by decide +kernel) rfl 0 rfl ?_
  refine R_bipush (n := 32) (v := 32) (by decide +kernel) rfl ?_
  refine R_newI (n := 126) (N := 32) (kc2 := 23) (ks2 := 707) (by decide +kernel) rfl rfl rfl (by decide) rfl (by decide) rfl rfl ?_
  refine S12_19 (i := 42) (by decide +kernel) lfX12_42 ⟨rfl, rfl⟩ ⟨(by decide : 116 < 127), rfl⟩ ?_
  refine R_aload_n (j := 0) (i := 0) (by decide +kernel) rfl 0 rfl ?_
  refine R_bipush (n := 24) (v := 24) (by decide +kernel) rfl ?_
  refine R_newI (n := 127) (N := 24) (kc2 := 22) (ks2 := 683) (by decide +kernel) rfl rfl rfl (by decide) rfl (by decide) rfl rfl ?_
  refine S12_26 (i := 45) (by decide +kernel) lfX12_45 ⟨rfl, rfl⟩ ⟨(by decide : 116 < 128), rfl⟩ ?_
  refine R_aload_n (j := 0) (i := 0) (by decide +kernel) rfl 0 rfl ?_
  refine R_bipush (n := 24) (v := 24) (by decide +kernel) rfl ?_
  refine R_newI (n := 128) (N := 24) (kc2 := 21) (ks2 := 659) (by decide +kernel) rfl rfl rfl (by decide) rfl (by decide) rfl rfl ?_
  refine S12_27 (i := 48) (by decide +kernel) lfX12_48 ⟨rfl, rfl⟩ ⟨(by decide : 116 < 129), rfl⟩ ?_
  refine R_aload_n (j := 0) (i := 0) (by decide +kernel) rfl 0 rfl ?_
  refine R_bipush (n := 24) (v := 24) (by decide +kernel) rfl ?_
  refine R_newI (n := 129) (N := 24) (kc2 := 20) (ks2 := 635) (by decide +kernel) rfl rfl rfl (by decide) rfl (by decide) rfl rfl ?_
  refine S12_28 (i := 51) (by decide +kernel) lfX12_51 ⟨rfl, rfl⟩ ⟨(by decide : 116 < 130), rfl⟩ ?_
  refine R_aload_n (j := 0) (i := 0) (by decide +kernel) rfl 0 rfl ?_
  refine R_bipush (n := 24) (v := 24) (by decide +kernel) rfl ?_
  refine R_newI (n := 130) (N := 24) (kc2 := 19) (ks2 := 611) (by decide +kernel) rfl rfl rfl (by decide) rfl (by decide) rfl rfl ?_
  refine S12_29 (i := 54) (by decide +kernel) lfX12_54 ⟨rfl, rfl⟩ ⟨(by decide : 116 < 131), rfl⟩ ?_
  refine R_aload_n (j := 0) (i := 0) (by decide +kernel) rfl 0 rfl ?_
  refine R_bipush (n := 24) (v := 24) (by decide +kernel) rfl ?_
  refine R_newI (n := 131) (N := 24) (kc2 := 18) (ks2 := 587) (by decide +kernel) rfl rfl rfl (by decide) rfl (by decide) rfl rfl ?_
  refine S12_30 (i := 57) (by decide +kernel) lfX12_57 ⟨rfl, rfl⟩ ⟨(by decide : 116 < 132), rfl⟩ ?_
  refine R_aload_n (j := 0) (i := 0) (by decide +kernel) rfl 0 rfl ?_
  refine R_bipush (n := 20) (v := 20) (by decide +kernel) rfl ?_
  refine R_newI (n := 132) (N := 20) (kc2 := 17) (ks2 := 567) (by decide +kernel) rfl rfl rfl (by decide) rfl (by decide) rfl rfl ?_
  refine S12_31 (i := 60) (by decide +kernel) lfX12_60 ⟨rfl, rfl⟩ ⟨(by decide : 116 < 133), rfl⟩ ?_
  refine R_aload_n (j := 0) (i := 0) (by decide +kernel) rfl 0 rfl ?_
  refine R_bipush (n := 20) (v := 20) (by decide +kernel) rfl ?_
  refine R_newI (n := 133) (N := 20) (kc2 := 16) (ks2 := 547) (by decide +kernel) rfl rfl rfl (by decide) rfl (by decide) rfl rfl ?_
  refine S12_32 (i := 63) (by decide +kernel) lfX12_63 ⟨rfl, rfl⟩ ⟨(by decide : 116 < 134), rfl⟩ ?_
  refine R_aload_n (j := 0) (i := 0) (by decide +kernel) rfl 0 rfl ?_
  refine R_bipush (n := 20) (v := 20) (by decide +kernel) rfl ?_
  refine R_newI (n := 134) (N := 20) (kc2 := 15) (ks2 := 527) (by decide +kernel) rfl rfl rfl (by decide) rfl (by decide) rfl rfl ?_
  refine S12_33 (i := 66) (by decide +kernel) lfX12_66 ⟨rfl, rfl⟩ ⟨(by decide : 116 < 135), rfl⟩ ?_
  refine R_aload_n (j := 0) (i := 0) (by decide +kernel) rfl 0 rfl ?_
  refine R_bipush (n := 20) (v := 20) (by decide +kernel) rfl ?_
  refine R_newI (n := 135) (N := 20) (kc2 := 14) (ks2 := 507) (by decide +kernel) rfl rfl rfl (by decide) rfl (by decide) rfl rfl ?_
  refine S12_34 (i := 69) (by decide +kernel) lfX12_69 ⟨rfl, rfl⟩ ⟨(by decide : 116 < 136), rfl⟩ ?_
  refine R_aload_n (j := 0) (i := 0) (by decide +kernel) rfl 0 rfl ?_
  refine R_bipush (n := 24) (v := 24) (by decide +kernel) rfl ?_
  refine R_newI (n := 136) (N := 24) (kc2 := 13) (ks2 := 483) (by decide +kernel) rfl rfl rfl (by decide) rfl (by decide) rfl rfl ?_
  refine S12_36 (i := 72) (by decide +kernel) lfX12_72 ⟨rfl, rfl⟩ ⟨(by decide : 116 < 137), rfl⟩ ?_
  refine R_aload_n (j := 0) (i := 0) (by decide +kernel) rfl 0 rfl ?_
  refine R_bipush (n := 24) (v := 24) (by decide +kernel) rfl ?_
  refine R_newI (n := 137) (N := 24) (kc2 := 12) (ks2 := 459) (by decide +kernel) rfl rfl rfl (by decide) rfl (by decide) rfl rfl ?_
  refine S12_37 (i := 75) (by decide +kernel) lfX12_75 ⟨rfl, rfl⟩ ⟨(by decide : 116 < 138), rfl⟩ ?_
  refine R_aload_n (j := 0) (i := 0) (by decide +kernel) rfl 0 rfl ?_
  refine R_bipush (n := 24) (v := 24) (by decide +kernel) rfl ?_
  refine R_newI (n := 138) (N := 24) (kc2 := 11) (ks2 := 435) (by decide +kernel) rfl rfl rfl (by decide) rfl (by decide) rfl rfl ?_
  refine S12_38 (i := 78) (by decide +kernel) lfX12_78 ⟨rfl, rfl⟩ ⟨(by decide : 116 < 139), rfl⟩ ?_
  refine R_aload_n (j := 0) (i := 0) (by decide +kernel) rfl 0 rfl ?_
  refine R_bipush (n := 24) (v := 24) (by decide +kernel) rfl ?_
  refine R_newI (n := 139) (N := 24) (kc2 := 10) (ks2 := 411) (by decide +kernel) rfl rfl rfl (by decide) rfl (by decide) rfl rfl ?_
  refine S12_39 (i := 81) (by decide +kernel) lfX12_81 ⟨rfl, rfl⟩ ⟨(by decide : 116 < 140), rfl⟩ ?_
  refine R_aload_n (j := 0) (i := 0) (by decide +kernel) rfl 0 rfl ?_
  refine R_iconst (n := 4) (v := 4) (by decide +kernel) rfl ?_
  refine R_newI (n := 140) (N := 4) (kc2 := 9) (ks2 := 407) (by decide +kernel) rfl rfl rfl (by decide) rfl (by decide) rfl rfl ?_
  refine S12_41 (i := 84) (by decide +kernel) lfX12_84 ⟨rfl, rfl⟩ ⟨(by decide : 116 < 141), rfl⟩ ?_
  refine R_aload_n (j := 0) (i := 0) (by decide +kernel) rfl 0 rfl ?_
  refine R_iconst (n := 4) (v := 4) (by decide +kernel) rfl ?_
  refine R_newI (n := 141) (N := 4) (kc2 := 8) (ks2 := 403) (by decide +kernel) rfl rfl rfl (by decide) rfl (by decide) rfl rfl ?_
  refine S12_42 (i := 87) (by decide +kernel) lfX12_87 ⟨rfl, rfl⟩ ⟨(by decide : 116 < 142), rfl⟩ ?_
  refine R_aload_n (j := 0) (i := 0) (by decide +kernel) rfl 0 rfl ?_
  refine R_iconst (n := 3) (v := 3) (by decide +kernel) rfl ?_
  refine R_newI (n := 142) (N := 3) (kc2 := 7) (ks2 := 400) (by decide +kernel) rfl rfl rfl (by decide) rfl (by decide) rfl rfl ?_
  refine S12_44 (i := 90) (by decide +kernel) lfX12_90 ⟨rfl, rfl⟩ ⟨(by decide : 116 < 143), rfl⟩ ?_
  refine R_aload_n (j := 0) (i := 0) (by decide +kernel) rfl 0 rfl ?_
  refine R_bipush (n := 64) (v := 64) (by decide +kernel) rfl ?_
  refine R_newI (n := 143) (N := 64) (kc2 := 6) (ks2 := 336) (by decide +kernel) rfl rfl rfl (by decide) rfl (by decide) rfl rfl ?_
  refine S12_45 (i := 93) (by decide +kernel) lfX12_93 ⟨rfl, rfl⟩ ⟨(by decide : 116 < 144), rfl⟩ ?_
  refine R_aload_n (j := 0) (i := 0) (by decide +kernel) rfl 0 rfl ?_
  refine R_bipush (n := 64) (v := 64) (by decide +kernel) rfl ?_
  refine R_newI (n := 144) (N := 64) (kc2 := 5) (ks2 := 272) (by decide +kernel) rfl rfl rfl (by decide) rfl (by decide) rfl rfl ?_
  refine S12_52 (i := 96) (by decide +kernel) lfX12_96 ⟨rfl, rfl⟩ ⟨(by decide : 116 < 145), rfl⟩ ?_
  refine R_aload_n (j := 0) (i := 0) (by decide +kernel) rfl 0 rfl ?_
  refine R_bipush (n := 24) (v := 24) (by decide +kernel) rfl ?_
  refine R_newI (n := 145) (N := 24) (kc2 := 4) (ks2 := 248) (by decide +kernel) rfl rfl rfl (by decide) rfl (by decide) rfl rfl ?_
  refine S12_53 (i := 99) (by decide +kernel) lfX12_99 ⟨rfl, rfl⟩ ⟨(by decide : 116 < 146), rfl⟩ ?_
  refine R_aload_n (j := 0) (i := 0) (by decide +kernel) rfl 0 rfl ?_
  refine R_bipush (n := 14) (v := 14) (by decide +kernel) rfl ?_
  refine R_newL (n := 146) (N := 14) (kc2 := 3) (ks2 := 234) (by decide +kernel) rfl rfl rfl (by decide) rfl (by decide) rfl rfl ?_
  refine S12_54 (i := 102) (by decide +kernel) lfX12_102 ⟨rfl, rfl⟩ ⟨(by decide : 116 < 147), rfl⟩ ?_
  refine R_aload_n (j := 0) (i := 0) (by decide +kernel) rfl 0 rfl ?_
  refine R_bipush (n := 20) (v := 20) (by decide +kernel) rfl ?_
  refine R_newI (n := 147) (N := 20) (kc2 := 2) (ks2 := 214) (by decide +kernel) rfl rfl rfl (by decide) rfl (by decide) rfl rfl ?_
  refine S12_56 (i := 106) (by decide +kernel) lfX12_106 ⟨rfl, rfl⟩ ⟨(by decide : 116 < 148), rfl⟩ ?_
  refine R_aload_n (j := 0) (i := 0) (by decide +kernel) rfl 0 rfl ?_
  refine R_sipush (n := 210) (v := 210) (by decide +kernel) rfl ?_
  refine R_newI (n := 148) (N := 210) (kc2 := 1) (ks2 := 4) (by decide +kernel) rfl rfl rfl (by decide) rfl (by decide) rfl rfl ?_
  refine S12_57 (i := 109) (by decide +kernel) lfX12_109 ⟨rfl, rfl⟩ ⟨(by decide : 116 < 149), rfl⟩ ?_
  refine R_aload_n (j := 0) (i := 0) (by decide +kernel) rfl 0 rfl ?_
  refine R_iconst (n := 4) (v := 4) (by decide +kernel) rfl ?_
  refine R_newI (n := 149) (N := 4) (kc2 := 0) (ks2 := 0) (by decide +kernel) rfl rfl rfl (by decide) rfl (by decide) rfl rfl ?_
  refine S12_58 (i := 112) (by decide +kernel) lfX12_112 ⟨rfl, rfl⟩ ⟨(by decide : 116 < 150), rfl⟩ ?_
  refine R_aload_n (j := 0) (i := 0) (by decide +kernel) rfl 0 rfl ?_
  refine R_callV (N := mX12_begin) (i := 115) (n := 0) (r := 116) (as := []) (rest := []) (kc2 := 0) (ks2 := 0) (by decide +kernel) lmX12_115 oX12_begin (Nat.le_of_ble_eq_true rfl) rfl rfl (Nat.le_of_ble_eq_true rfl) rfl rfl ⟨(by decide : 116 < 150), rfl⟩ ok12 ?_
  refine m_begin w fun h7 F7 z7 l7 B7 => ?_
  have w7 := F7.wf w
  refine R_aload_n (j := 0) (i := 0) (by decide +kernel) rfl 0 rfl ?_
  refine R_callV (N := mX12_settle) (i := 118) (n := 0) (r := 116) (as := []) (rest := []) (kc2 := 0) (ks2 := 0) (by decide +kernel) lmX12_118 oX12_settle (Nat.le_of_ble_eq_true rfl) rfl rfl (Nat.le_of_ble_eq_true rfl) rfl rfl (w7.o (by decide) rfl) ok12 ?_
  refine m_settle w7 fun h9 S9 => ?_
  exact R_ret (by decide +kernel) rfl (k h7 h9 F7 z7 B7 S9)
