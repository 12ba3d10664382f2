def q_X9 (h : AH) : AH := (sF (nw h 3) 2 0 3)
theorem i_X9 {h : AH} {P : Option Value → AH → Prop} (hn : h.1 = 3) (k : P none (q_X9 h)) : Call mX9_init [.ref 2] h P := by
  refine Call.ofR (by decide +kernel) (Nat.le_of_ble_eq_true rfl) ?_
  refine R_aload_n (j := 0) (i := 0) (by decide +kernel) rfl 0 rfl ?_
  refine R_objInit (i := 3) (by decide +kernel) lmX9_3 w_oi1 w_oi2 (Nat.le_of_ble_eq_true rfl) (Nat.le_of_ble_eq_true rfl) (by rw [hn]; decide) ?_
  refine R_aload_n (j := 0) (i := 0) (by decide +kernel) rfl 0 rfl ?_
  refine R_sipush (n := 900) (v := 900) (by decide +kernel) rfl ?_
  refine R_newB (n := 3) (N := 900) (kc2 := 0) (ks2 := 0) (by decide +kernel) hn rfl rfl (by decide) rfl (by decide) rfl rfl ?_
  refine S9_0 (i := 11) (by decide +kernel) lfX9_11 ⟨rfl, rfl⟩ ⟨(by decide : 2 < 4), rfl⟩ ?_
  exact R_ret (by decide +kernel) rfl k
def q_X8a (h : AH) : AH := (sF (nw (sF (nw (sF (nw h 19) 18 1 19) 20) 18 2 20) 21) 18 3 21)
theorem i_X8a {h : AH} {P : Option Value → AH → Prop} (hn : h.1 = 19) (k : P none (q_X8a h)) : Call mX8_init [.ref 18] h P := by
  refine Call.ofR (by decide +kernel) (Nat.le_of_ble_eq_true rfl) ?_
  refine R_aload_n (j := 0) (i := 0) (by decide +kernel) rfl 0 rfl ?_
  refine R_objInit (i := 3) (by decide +kernel) lmX8_3 w_oi1 w_oi2 (Nat.le_of_ble_eq_true rfl) (Nat.le_of_ble_eq_true rfl) (by rw [hn]; decide) ?_
  refine R_aload_n (j := 0) (i := 0) (by decide +kernel) rfl 0 rfl ?_
  refine R_bipush (n := 8) (v := 8) (by decide +kernel) rfl ?_
  refine R_newI (n := 19) (N := 8) (kc2 := 2) (ks2 := 12) (by decide +kernel) hn rfl rfl (by decide) rfl (by decide) rfl rfl ?_
  refine S8_1 (i := 11) (by decide +kernel) lfX8_11 ⟨rfl, rfl⟩ ⟨(by decide : 18 < 20), rfl⟩ ?_
  refine R_aload_n (j := 0) (i := 0) (by decide +kernel) rfl 0 rfl ?_
  refine R_bipush (n := 8) (v := 8) (by decide +kernel) rfl ?_
  refine R_newI (n := 20) (N := 8) (kc2 := 1) (ks2 := 4) (by decide +kernel) rfl rfl rfl (by decide) rfl (by decide) rfl rfl ?_
  refine S8_2 (i := 15) (by decide +kernel) lfX8_15 ⟨rfl, rfl⟩ ⟨(by decide : 18 < 21), rfl⟩ ?_
  refine R_aload_n (j := 0) (i := 0) (by decide +kernel) rfl 0 rfl ?_
  refine R_iconst (n := 4) (v := 4) (by decide +kernel) rfl ?_
  refine R_newI (n := 21) (N := 4) (kc2 := 0) (ks2 := 0) (by decide +kernel) rfl rfl rfl (by decide) rfl (by decide) rfl rfl ?_
  refine S8_3 (i := 18) (by decide +kernel) lfX8_18 ⟨rfl, rfl⟩ ⟨(by decide : 18 < 22), rfl⟩ ?_
  exact R_ret (by decide +kernel) rfl k
def q_X8b (h : AH) : AH := (sF (nw (sF (nw (sF (nw h 38) 37 1 38) 39) 37 2 39) 40) 37 3 40)
theorem i_X8b {h : AH} {P : Option Value → AH → Prop} (hn : h.1 = 38) (k : P none (q_X8b h)) : Call mX8_init [.ref 37] h P := by
  refine Call.ofR (by decide +kernel) (Nat.le_of_ble_eq_true rfl) ?_
  refine R_aload_n (j := 0) (i := 0) (by decide +kernel) rfl 0 rfl ?_
  refine R_objInit (i := 3) (by decide +kernel) lmX8_3 w_oi1 w_oi2 (Nat.le_of_ble_eq_true rfl) (Nat.le_of_ble_eq_true rfl) (by rw [hn]; decide) ?_
  refine R_aload_n (j := 0) (i := 0) (by decide +kernel) rfl 0 rfl ?_
  refine R_bipush (n := 8) (v := 8) (by decide +kernel) rfl ?_
  refine R_newI (n := 38) (N := 8) (kc2 := 2) (ks2 := 12) (by decide +kernel) hn rfl rfl (by decide) rfl (by decide) rfl rfl ?_
  refine S8_1 (i := 11) (by decide +kernel) lfX8_11 ⟨rfl, rfl⟩ ⟨(by decide : 37 < 39), rfl⟩ ?_
  refine R_aload_n (j := 0) (i := 0) (by decide +kernel) rfl 0 rfl ?_
  refine R_bipush (n := 8) (v := 8) (by decide +kernel) rfl ?_
  refine R_newI (n := 39) (N := 8) (kc2 := 1) (ks2 := 4) (by decide +kernel) rfl rfl rfl (by decide) rfl (by decide) rfl rfl ?_
  refine S8_2 (i := 15) (by decide +kernel) lfX8_15 ⟨rfl, rfl⟩ ⟨(by decide : 37 < 40), rfl⟩ ?_
  refine R_aload_n (j := 0) (i := 0) (by decide +kernel) rfl 0 rfl ?_
  refine R_iconst (n := 4) (v := 4) (by decide +kernel) rfl ?_
  refine R_newI (n := 40) (N := 4) (kc2 := 0) (ks2 := 0) (by decide +kernel) rfl rfl rfl (by decide) rfl (by decide) rfl rfl ?_
  refine S8_3 (i := 18) (by decide +kernel) lfX8_18 ⟨rfl, rfl⟩ ⟨(by decide : 37 < 41), rfl⟩ ?_
  exact R_ret (by decide +kernel) rfl k
def q_X3a (h : AH) : AH := (fgt (sF (nw (sF (q_X8a (nw (sF (qE (sF (nw (sF (nw (sF (nw (sF (nw h 5) 4 4 5) 6) 4 5 6) 7) 4 7 7) 8) 4 8 8) 9 4) 4 11 9) 18)) 4 14 18) 22) 4 15 22) 4)
theorem i_X3a {h : AH} {P : Option Value → AH → Prop} (hn : h.1 = 5) (k : P none (q_X3a h)) : Call mX3_init [.ref 4] h P := by
  refine Call.ofR (by decide +kernel) (Nat.le_of_ble_eq_true rfl) ?_
  refine R_aload_n (j := 0) (i := 0) (by decide +kernel) rfl 0 rfl ?_
  refine R_objInit (i := 3) (by decide +kernel) lmX3_3 w_oi1 w_oi2 (Nat.le_of_ble_eq_true rfl) (Nat.le_of_ble_eq_true rfl) (by rw [hn]; decide) ?_
  refine R_aload_n (j := 0) (i := 0) (by decide +kernel) rfl 0 rfl ?_
  refine R_bipush (n := 8) (v := 8) (by decide +kernel) rfl ?_
  refine R_newI (n := 5) (N := 8) (kc2 := 17) (ks2 := 112) (by decide +kernel) hn rfl rfl (by decide) rfl (by decide) rfl rfl ?_
  refine S3_4 (i := 11) (by decide +kernel) lfX3_11 ⟨rfl, rfl⟩ ⟨(by decide : 4 < 6), rfl⟩ ?_
  refine R_aload_n (j := 0) (i := 0) (by decide +kernel) rfl 0 rfl ?_
  refine R_bipush (n := 8) (v := 8) (by decide +kernel) rfl ?_
  refine R_newI (n := 6) (N := 8) (kc2 := 16) (ks2 := 104) (by decide +kernel) rfl rfl rfl (by decide) rfl (by decide) rfl rfl ?_
  refine S3_5 (i := 15) (by decide +kernel) lfX3_15 ⟨rfl, rfl⟩ ⟨(by decide : 4 < 7), rfl⟩ ?_
  refine R_aload_n (j := 0) (i := 0) (by decide +kernel) rfl 0 rfl ?_
  refine R_iconst (n := 4) (v := 4) (by decide +kernel) rfl ?_
  refine R_newI (n := 7) (N := 4) (kc2 := 15) (ks2 := 100) (by decide +kernel) rfl rfl rfl (by decide) rfl (by decide) rfl rfl ?_
  refine S3_7 (i := 18) (by decide +kernel) lfX3_18 ⟨rfl, rfl⟩ ⟨(by decide : 4 < 8), rfl⟩ ?_
  refine R_aload_n (j := 0) (i := 0) (by decide +kernel) rfl 0 rfl ?_
  refine R_bipush (n := 36) (v := 36) (by decide +kernel) rfl ?_
  refine R_newI (n := 8) (N := 36) (kc2 := 14) (ks2 := 64) (by decide +kernel) rfl rfl rfl (by decide) rfl (by decide) rfl rfl ?_
  refine S3_8 (i := 21) (by decide +kernel) lfX3_21 ⟨rfl, rfl⟩ ⟨(by decide : 4 < 9), rfl⟩ ?_
  refine R_aload_n (j := 0) (i := 0) (by decide +kernel) rfl 0 rfl ?_
  refine R_callS (N := mX0_emptyShapes) (i := 24) (n := 0) (as := []) (rest := [.ref 4]) (kc2 := 5) (ks2 := 40) (by decide +kernel) lmX3_24 oX0_emptyShapes (Nat.le_of_ble_eq_true rfl) rfl rfl (Nat.le_of_ble_eq_true rfl) rfl rfl ?_
  refine i_E (n := 9) ek_9 rfl ?_
  refine S3_11 (i := 30) (by decide +kernel) lfX3_30 ⟨rfl, rfl⟩ ⟨(by decide : 4 < 18), rfl⟩ ?_
  refine R_aload_n (j := 0) (i := 0) (by decide +kernel) rfl 0 rfl ?_
  refine R_new (i := 34) (n := 18) (kc2 := 4) (ks2 := 36) ok8 tyX8_ok dv_X8 (by decide +kernel) (tg1 89 (by decide +kernel) rfl) (tg1 90 (by decide +kernel) rfl) (tg1 6 (by decide +kernel) rfl) rfl rfl rfl rfl ?_
  refine R_dup (by decide +kernel) rfl ?_
  refine R_callIN (N := mX8_init) (i := 36) (n := 0) (r := 18) (as := []) (rest := [.ref 18, .ref 4]) (kc2 := 1) (ks2 := 16) (by decide +kernel) lnX3_36 oX8_init (Nat.le_of_ble_eq_true rfl) rfl rfl (Nat.le_of_ble_eq_true rfl) rfl rfl (by decide : 18 < 19) ?_
  refine i_X8a rfl ?_
  refine S3_14 (i := 37) (by decide +kernel) lfX3_37 ⟨rfl, rfl⟩ ⟨(by decide : 4 < 22), rfl⟩ ?_
  refine R_aload_n (j := 0) (i := 0) (by decide +kernel) rfl 0 rfl ?_
  refine R_bipush (n := 16) (v := 16) (by decide +kernel) rfl ?_
  refine R_newI (n := 22) (N := 16) (kc2 := 0) (ks2 := 0) (by decide +kernel) rfl rfl rfl (by decide) rfl (by decide) rfl rfl ?_
  refine S3_15 (i := 41) (by decide +kernel) lfX3_41 ⟨rfl, rfl⟩ ⟨(by decide : 4 < 23), rfl⟩ ?_
  refine R_aload_n (j := 0) (i := 0) (by decide +kernel) rfl 0 rfl ?_
  refine R_callV (N := mX3_forget) (i := 44) (n := 0) (r := 4) (as := []) (rest := []) (kc2 := 0) (ks2 := 0) (by decide +kernel) lmX3_44 oX3_forget (Nat.le_of_ble_eq_true rfl) rfl rfl (Nat.le_of_ble_eq_true rfl) rfl rfl ⟨(by decide : 4 < 23), rfl⟩ ok3 ?_
  refine i_forget (Or.inl rfl) ⟨(by decide : 4 + 18 < 23), ⟨rfl, rfl, rfl, rfl⟩, fun i hi => by rcases (show i = 0 ∨ i = 1 ∨ i = 2 ∨ i = 3 by omega) with rfl | rfl | rfl | rfl <;> exact ⟨rfl, rfl⟩⟩ ?_
  exact R_ret (by decide +kernel) rfl k
def q_X3b (h : AH) : AH := (fgt (sF (nw (sF (q_X8b (nw (sF (qE (sF (nw (sF (nw (sF (nw (sF (nw h 24) 23 4 24) 25) 23 5 25) 26) 23 7 26) 27) 23 8 27) 28 4) 23 11 28) 37)) 23 14 37) 41) 23 15 41) 23)
theorem i_X3b {h : AH} {P : Option Value → AH → Prop} (hn : h.1 = 24) (k : P none (q_X3b h)) : Call mX3_init [.ref 23] h P := by
  refine Call.ofR (by decide +kernel) (Nat.le_of_ble_eq_true rfl) ?_
  refine R_aload_n (j := 0) (i := 0) (by decide +kernel) rfl 0 rfl ?_
  refine R_objInit (i := 3) (by decide +kernel) lmX3_3 w_oi1 w_oi2 (Nat.le_of_ble_eq_true rfl) (Nat.le_of_ble_eq_true rfl) (by rw [hn]; decide) ?_
  refine R_aload_n (j := 0) (i := 0) (by decide +kernel) rfl 0 rfl ?_
  refine R_bipush (n := 8) (v := 8) (by decide +kernel) rfl ?_
  refine R_newI (n := 24) (N := 8) (kc2 := 17) (ks2 := 112) (by decide +kernel) hn rfl rfl (by decide) rfl (by decide) rfl rfl ?_
  refine S3_4 (i := 11) (by decide +kernel) lfX3_11 ⟨rfl, rfl⟩ ⟨(by decide : 23 < 25), rfl⟩ ?_
  refine R_aload_n (j := 0) (i := 0) (by decide +kernel) rfl 0 rfl ?_
  refine R_bipush (n := 8) (v := 8) (by decide +kernel) rfl ?_
  refine R_newI (n := 25) (N := 8) (kc2 := 16) (ks2 := 104) (by decide +kernel) rfl rfl rfl (by decide) rfl (by decide) rfl rfl ?_
  refine S3_5 (i := 15) (by decide +kernel) lfX3_15 ⟨rfl, rfl⟩ ⟨(by decide : 23 < 26), rfl⟩ ?_
  refine R_aload_n (j := 0) (i := 0) (by decide +kernel) rfl 0 rfl ?_
  refine R_iconst (n := 4) (v := 4) (by decide +kernel) rfl ?_
  refine R_newI (n := 26) (N := 4) (kc2 := 15) (ks2 := 100) (by decide +kernel) rfl rfl rfl (by decide) rfl (by decide) rfl rfl ?_
  refine S3_7 (i := 18) (by decide +kernel) lfX3_18 ⟨rfl, rfl⟩ ⟨(by decide : 23 < 27), rfl⟩ ?_
  refine R_aload_n (j := 0) (i := 0) (by decide +kernel) rfl 0 rfl ?_
  refine R_bipush (n := 36) (v := 36) (by decide +kernel) rfl ?_
  refine R_newI (n := 27) (N := 36) (kc2 := 14) (ks2 := 64) (by decide +kernel) rfl rfl rfl (by decide) rfl (by decide) rfl rfl ?_
  refine S3_8 (i := 21) (by decide +kernel) lfX3_21 ⟨rfl, rfl⟩ ⟨(by decide : 23 < 28), rfl⟩ ?_
  refine R_aload_n (j := 0) (i := 0) (by decide +kernel) rfl 0 rfl ?_
  refine R_callS (N := mX0_emptyShapes) (i := 24) (n := 0) (as := []) (rest := [.ref 23]) (kc2 := 5) (ks2 := 40) (by decide +kernel) lmX3_24 oX0_emptyShapes (Nat.le_of_ble_eq_true rfl) rfl rfl (Nat.le_of_ble_eq_true rfl) rfl rfl ?_
  refine i_E (n := 28) ek_28 rfl ?_
  refine S3_11 (i := 30) (by decide +kernel) lfX3_30 ⟨rfl, rfl⟩ ⟨(by decide : 23 < 37), rfl⟩ ?_
  refine R_aload_n (j := 0) (i := 0) (by decide +kernel) rfl 0 rfl ?_
  refine R_new (i := 34) (n := 37) (kc2 := 4) (ks2 := 36) ok8 tyX8_ok dv_X8 (by decide +kernel) (tg1 89 (by decide +kernel) rfl) (tg1 90 (by decide +kernel) rfl) (tg1 6 (by decide +kernel) rfl) rfl rfl rfl rfl ?_
  refine R_dup (by decide +kernel) rfl ?_
  refine R_callIN (N := mX8_init) (i := 36) (n := 0) (r := 37) (as := []) (rest := [.ref 37, .ref 23]) (kc2 := 1) (ks2 := 16) (by decide +kernel) lnX3_36 oX8_init (Nat.le_of_ble_eq_true rfl) rfl rfl (Nat.le_of_ble_eq_true rfl) rfl rfl (by decide : 37 < 38) ?_
  refine i_X8b rfl ?_
  refine S3_14 (i := 37) (by decide +kernel) lfX3_37 ⟨rfl, rfl⟩ ⟨(by decide : 23 < 41), rfl⟩ ?_
  refine R_aload_n (j := 0) (i := 0) (by decide +kernel) rfl 0 rfl ?_
  refine R_bipush (n := 16) (v := 16) (by decide +kernel) rfl ?_
  refine R_newI (n := 41) (N := 16) (kc2 := 0) (ks2 := 0) (by decide +kernel) rfl rfl rfl (by decide) rfl (by decide) rfl rfl ?_
  refine S3_15 (i := 41) (by decide +kernel) lfX3_41 ⟨rfl, rfl⟩ ⟨(by decide : 23 < 42), rfl⟩ ?_
  refine R_aload_n (j := 0) (i := 0) (by decide +kernel) rfl 0 rfl ?_
  refine R_callV (N := mX3_forget) (i := 44) (n := 0) (r := 23) (as := []) (rest := []) (kc2 := 0) (ks2 := 0) (by decide +kernel) lmX3_44 oX3_forget (Nat.le_of_ble_eq_true rfl) rfl rfl (Nat.le_of_ble_eq_true rfl) rfl rfl ⟨(by decide : 23 < 42), rfl⟩ ok3 ?_
  refine i_forget (Or.inr rfl) ⟨(by decide : 23 + 18 < 42), ⟨rfl, rfl, rfl, rfl⟩, fun i hi => by rcases (show i = 0 ∨ i = 1 ∨ i = 2 ∨ i = 3 by omega) with rfl | rfl | rfl | rfl <;> exact ⟨rfl, rfl⟩⟩ ?_
  exact R_ret (by decide +kernel) rfl k
def q_X4 (h : AH) : AH := (sI (sF (q_X3a (nw (sF (q_X9 (nw h 2)) 1 0 2) 4)) 1 3 4) 1 5 (-1))
theorem i_X4 {h : AH} {P : Option Value → AH → Prop} (hn : h.1 = 2) (k : P none (q_X4 h)) : Call mX4_init [.ref 1] h P := by
  refine Call.ofR (by decide +kernel) (Nat.le_of_ble_eq_true rfl) ?_
  refine R_aload_n (j := 0) (i := 0) (by decide +kernel) rfl 0 rfl ?_
  refine R_objInit (i := 3) (by decide +kernel) lmX4_3 w_oi1 w_oi2 (Nat.le_of_ble_eq_true rfl) (Nat.le_of_ble_eq_true rfl) (by rw [hn]; decide) ?_
  refine R_aload_n (j := 0) (i := 0) (by decide +kernel) rfl 0 rfl ?_
  refine R_new (i := 9) (n := 2) (kc2 := 20) (ks2 := 1036) ok9 tyX9_ok dv_X9 (by decide +kernel) (tg1 36 (by decide +kernel) rfl) (tg1 37 (by decide +kernel) rfl) (tg1 3 (by decide +kernel) rfl) hn rfl rfl rfl ?_
  refine R_dup (by decide +kernel) rfl ?_
  refine R_callIN (N := mX9_init) (i := 11) (n := 0) (r := 2) (as := []) (rest := [.ref 2, .ref 1]) (kc2 := 19) (ks2 := 136) (by decide +kernel) lnX4_11 oX9_init (Nat.le_of_ble_eq_true rfl) rfl rfl (Nat.le_of_ble_eq_true rfl) rfl rfl (by decide : 2 < 3) ?_
  refine i_X9 rfl ?_
  refine S4_0 (i := 12) (by decide +kernel) lfX4_12 ⟨rfl, rfl⟩ ⟨(by decide : 1 < 4), rfl⟩ ?_
  refine R_aload_n (j := 0) (i := 0) (by decide +kernel) rfl 0 rfl ?_
  refine R_new (i := 18) (n := 4) (kc2 := 18) (ks2 := 120) ok3 tyX3_ok dv_X3 (by decide +kernel) (tg1 66 (by decide +kernel) rfl) (tg1 67 (by decide +kernel) rfl) (tg1 4 (by decide +kernel) rfl) rfl rfl rfl rfl ?_
  refine R_dup (by decide +kernel) rfl ?_
  refine R_callI (N := mX3_init) (i := 20) (n := 0) (r := 4) (as := []) (rest := [.ref 4, .ref 1]) (kc2 := 0) (ks2 := 0) (by decide +kernel) lmX4_20 oX3_init (Nat.le_of_ble_eq_true rfl) rfl rfl (Nat.le_of_ble_eq_true rfl) rfl rfl (by decide : 4 < 5) ?_
  refine i_X3a rfl ?_
  refine S4_3 (i := 21) (by decide +kernel) lfX4_21 ⟨(by decide : 1 < 23), rfl⟩ ?_
  refine R_aload_n (j := 0) (i := 0) (by decide +kernel) rfl 0 rfl ?_
  refine R_iconst (n := -1) (v := -1) (by decide +kernel) rfl ?_
  refine S4_5 (i := 25) (by decide +kernel) lfX4_25 ⟨(by decide : 1 < 23), rfl⟩ ?_
  exact R_ret (by decide +kernel) rfl k
def q_X7 (h : AH) : AH := (sF (nw (sF (nw (sF (nw (sF (nw (sF (nw (sF (nw (sF (nw (sF (nw (sF (nw h 43) 42 3 43) 44) 42 4 44) 45) 42 5 45) 46) 42 6 46) 47) 42 7 47) 48) 42 8 48) 49) 42 9 49) 50) 42 10 50) 51) 42 11 51)
theorem i_X7 {h : AH} {P : Option Value → AH → Prop} (hn : h.1 = 43) (k : P none (q_X7 h)) : Call mX7_init [.ref 42] h P := by
  refine Call.ofR (by decide +kernel) (Nat.le_of_ble_eq_true rfl) ?_
  refine R_aload_n (j := 0) (i := 0) (by decide +kernel) rfl 0 rfl ?_
  refine R_objInit (i := 3) (by decide +kernel) lmX7_3 w_oi1 w_oi2 (Nat.le_of_ble_eq_true rfl) (Nat.le_of_ble_eq_true rfl) (by rw [hn]; decide) ?_
  refine R_aload_n (j := 0) (i := 0) (by decide +kernel) rfl 0 rfl ?_
  refine R_bipush (n := 24) (v := 24) (by decide +kernel) rfl ?_
  refine R_newI (n := 43) (N := 24) (kc2 := 8) (ks2 := 176) (by decide +kernel) hn rfl rfl (by decide) rfl (by decide) rfl rfl ?_
  refine S7_3 (i := 11) (by decide +kernel) lfX7_11 ⟨rfl, rfl⟩ ⟨(by decide : 42 < 44), rfl⟩ ?_
  refine R_aload_n (j := 0) (i := 0) (by decide +kernel) rfl 0 rfl ?_
  refine R_bipush (n := 24) (v := 24) (by decide +kernel) rfl ?_
  refine R_newI (n := 44) (N := 24) (kc2 := 7) (ks2 := 152) (by decide +kernel) rfl rfl rfl (by decide) rfl (by decide) rfl rfl ?_
  refine S7_4 (i := 15) (by decide +kernel) lfX7_15 ⟨rfl, rfl⟩ ⟨(by decide : 42 < 45), rfl⟩ ?_
  refine R_aload_n (j := 0) (i := 0) (by decide +kernel) rfl 0 rfl ?_
  refine R_bipush (n := 24) (v := 24) (by decide +kernel) rfl ?_
  refine R_newI (n := 45) (N := 24) (kc2 := 6) (ks2 := 128) (by decide +kernel) rfl rfl rfl (by decide) rfl (by decide) rfl rfl ?_
  refine S7_5 (i := 18) (by decide +kernel) lfX7_18 ⟨rfl, rfl⟩ ⟨(by decide : 42 < 46), rfl⟩ ?_
  refine R_aload_n (j := 0) (i := 0) (by decide +kernel) rfl 0 rfl ?_
  refine R_bipush (n := 24) (v := 24) (by decide +kernel) rfl ?_
  refine R_newI (n := 46) (N := 24) (kc2 := 5) (ks2 := 104) (by decide +kernel) rfl rfl rfl (by decide) rfl (by decide) rfl rfl ?_
  refine S7_6 (i := 21) (by decide +kernel) lfX7_21 ⟨rfl, rfl⟩ ⟨(by decide : 42 < 47), rfl⟩ ?_
  refine R_aload_n (j := 0) (i := 0) (by decide +kernel) rfl 0 rfl ?_
  refine R_bipush (n := 24) (v := 24) (by decide +kernel) rfl ?_
  refine R_newI (n := 47) (N := 24) (kc2 := 4) (ks2 := 80) (by decide +kernel) rfl rfl rfl (by decide) rfl (by decide) rfl rfl ?_
  refine S7_7 (i := 24) (by decide +kernel) lfX7_24 ⟨rfl, rfl⟩ ⟨(by decide : 42 < 48), rfl⟩ ?_
  refine R_aload_n (j := 0) (i := 0) (by decide +kernel) rfl 0 rfl ?_
  refine R_bipush (n := 20) (v := 20) (by decide +kernel) rfl ?_
  refine R_newI (n := 48) (N := 20) (kc2 := 3) (ks2 := 60) (by decide +kernel) rfl rfl rfl (by decide) rfl (by decide) rfl rfl ?_
  refine S7_8 (i := 27) (by decide +kernel) lfX7_27 ⟨rfl, rfl⟩ ⟨(by decide : 42 < 49), rfl⟩ ?_
  refine R_aload_n (j := 0) (i := 0) (by decide +kernel) rfl 0 rfl ?_
  refine R_bipush (n := 20) (v := 20) (by decide +kernel) rfl ?_
  refine R_newI (n := 49) (N := 20) (kc2 := 2) (ks2 := 40) (by decide +kernel) rfl rfl rfl (by decide) rfl (by decide) rfl rfl ?_
  refine S7_9 (i := 30) (by decide +kernel) lfX7_30 ⟨rfl, rfl⟩ ⟨(by decide : 42 < 50), rfl⟩ ?_
  refine R_aload_n (j := 0) (i := 0) (by decide +kernel) rfl 0 rfl ?_
  refine R_bipush (n := 20) (v := 20) (by decide +kernel) rfl ?_
  refine R_newI (n := 50) (N := 20) (kc2 := 1) (ks2 := 20) (by decide +kernel) rfl rfl rfl (by decide) rfl (by decide) rfl rfl ?_
  refine S7_10 (i := 33) (by decide +kernel) lfX7_33 ⟨rfl, rfl⟩ ⟨(by decide : 42 < 51), rfl⟩ ?_
  refine R_aload_n (j := 0) (i := 0) (by decide +kernel) rfl 0 rfl ?_
  refine R_bipush (n := 20) (v := 20) (by decide +kernel) rfl ?_
  refine R_newI (n := 51) (N := 20) (kc2 := 0) (ks2 := 0) (by decide +kernel) rfl rfl rfl (by decide) rfl (by decide) rfl rfl ?_
  refine S7_11 (i := 36) (by decide +kernel) lfX7_36 ⟨rfl, rfl⟩ ⟨(by decide : 42 < 52), rfl⟩ ?_
  exact R_ret (by decide +kernel) rfl k
def q_X1 (h : AH) : AH := (sF (nw (sF (nw (sF (nw (sF (nw (sF (nw (sF (nw h 53) 52 1 53) 54) 52 2 54) 55) 52 3 55) 56) 52 4 56) 57) 52 10 57) 58) 52 11 58)
theorem i_X1 {h : AH} {P : Option Value → AH → Prop} (hn : h.1 = 53) (k : P none (q_X1 h)) : Call mX1_init [.ref 52] h P := by
  refine Call.ofR (by decide +kernel) (Nat.le_of_ble_eq_true rfl) ?_
  refine R_aload_n (j := 0) (i := 0) (by decide +kernel) rfl 0 rfl ?_
  refine R_objInit (i := 1) (by decide +kernel) lmX1_1 w_oi1 w_oi2 (Nat.le_of_ble_eq_true rfl) (Nat.le_of_ble_eq_true rfl) (by rw [hn]; decide) ?_
  refine R_aload_n (j := 0) (i := 0) (by decide +kernel) rfl 0 rfl ?_
  refine R_bipush (n := 24) (v := 24) (by decide +kernel) rfl ?_
  refine R_newI (n := 53) (N := 24) (kc2 := 5) (ks2 := 80) (by decide +kernel) hn rfl rfl (by decide) rfl (by decide) rfl rfl ?_
  refine S1_1 (i := 9) (by decide +kernel) lfX1_9 ⟨rfl, rfl⟩ ⟨(by decide : 52 < 54), rfl⟩ ?_
  refine R_aload_n (j := 0) (i := 0) (by decide +kernel) rfl 0 rfl ?_
  refine R_bipush (n := 24) (v := 24) (by decide +kernel) rfl ?_
  refine R_newI (n := 54) (N := 24) (kc2 := 4) (ks2 := 56) (by decide +kernel) rfl rfl rfl (by decide) rfl (by decide) rfl rfl ?_
  refine S1_2 (i := 15) (by decide +kernel) lfX1_15 ⟨rfl, rfl⟩ ⟨(by decide : 52 < 55), rfl⟩ ?_
  refine R_aload_n (j := 0) (i := 0) (by decide +kernel) rfl 0 rfl ?_
  refine R_bipush (n := 24) (v := 24) (by decide +kernel) rfl ?_
  refine R_newI (n := 55) (N := 24) (kc2 := 3) (ks2 := 32) (by decide +kernel) rfl rfl rfl (by decide) rfl (by decide) rfl rfl ?_
  refine S1_3 (i := 18) (by decide +kernel) lfX1_18 ⟨rfl, rfl⟩ ⟨(by decide : 52 < 56), rfl⟩ ?_
  refine R_aload_n (j := 0) (i := 0) (by decide +kernel) rfl 0 rfl ?_
  refine R_bipush (n := 24) (v := 24) (by decide +kernel) rfl ?_
  refine R_newI (n := 56) (N := 24) (kc2 := 2) (ks2 := 8) (by decide +kernel) rfl rfl rfl (by decide) rfl (by decide) rfl rfl ?_
  refine S1_4 (i := 21) (by decide +kernel) lfX1_21 ⟨rfl, rfl⟩ ⟨(by decide : 52 < 57), rfl⟩ ?_
  refine R_aload_n (j := 0) (i := 0) (by decide +kernel) rfl 0 rfl ?_
  refine R_iconst (n := 4) (v := 4) (by decide +kernel) rfl ?_
  refine R_newI (n := 57) (N := 4) (kc2 := 1) (ks2 := 4) (by decide +kernel) rfl rfl rfl (by decide) rfl (by decide) rfl rfl ?_
  refine S1_10 (i := 24) (by decide +kernel) lfX1_24 ⟨rfl, rfl⟩ ⟨(by decide : 52 < 58), rfl⟩ ?_
  refine R_aload_n (j := 0) (i := 0) (by decide +kernel) rfl 0 rfl ?_
  refine R_iconst (n := 4) (v := 4) (by decide +kernel) rfl ?_
  refine R_newI (n := 58) (N := 4) (kc2 := 0) (ks2 := 0) (by decide +kernel) rfl rfl rfl (by decide) rfl (by decide) rfl rfl ?_
  refine S1_11 (i := 27) (by decide +kernel) lfX1_27 ⟨rfl, rfl⟩ ⟨(by decide : 52 < 59), rfl⟩ ?_
  exact R_ret (by decide +kernel) rfl k
def q_X6 (h : AH) : AH := (sF (nw (sF (nw h 60) 59 4 60) 61) 59 6 61)
theorem i_X6 {h : AH} {P : Option Value → AH → Prop} (hn : h.1 = 60) (k : P none (q_X6 h)) : Call mX6_init [.ref 59] h P := by
  refine Call.ofR (by decide +kernel) (Nat.le_of_ble_eq_true rfl) ?_
  refine R_aload_n (j := 0) (i := 0) (by decide +kernel) rfl 0 rfl ?_
  refine R_objInit (i := 3) (by decide +kernel) lmX6_3 w_oi1 w_oi2 (Nat.le_of_ble_eq_true rfl) (Nat.le_of_ble_eq_true rfl) (by rw [hn]; decide) ?_
  refine R_aload_n (j := 0) (i := 0) (by decide +kernel) rfl 0 rfl ?_
  refine R_iconst (n := 3) (v := 3) (by decide +kernel) rfl ?_
  refine R_newI (n := 60) (N := 3) (kc2 := 1) (ks2 := 3) (by decide +kernel) hn rfl rfl (by decide) rfl (by decide) rfl rfl ?_
  refine S6_4 (i := 11) (by decide +kernel) lfX6_11 ⟨rfl, rfl⟩ ⟨(by decide : 59 < 61), rfl⟩ ?_
  refine R_aload_n (j := 0) (i := 0) (by decide +kernel) rfl 0 rfl ?_
  refine R_iconst (n := 3) (v := 3) (by decide +kernel) rfl ?_
  refine R_newI (n := 61) (N := 3) (kc2 := 0) (ks2 := 0) (by decide +kernel) rfl rfl rfl (by decide) rfl (by decide) rfl rfl ?_
  refine S6_6 (i := 17) (by decide +kernel) lfX6_17 ⟨rfl, rfl⟩ ⟨(by decide : 59 < 62), rfl⟩ ?_
  exact R_ret (by decide +kernel) rfl k
def q_X5 (h : AH) : AH := (sF (qX0 (nw (sF (qX0 (nw (sF (qX0 (nw (sF (nw (sF (nw h 63) 62 2 63) 64) 62 3 64) 65) 65 66) 62 4 65) 67) 67 68) 62 5 67) 69) 69 70) 62 6 69)
theorem i_X5 {h : AH} {P : Option Value → AH → Prop} (hn : h.1 = 63) (k : P none (q_X5 h)) : Call mX5_init [.ref 62] h P := by
  refine Call.ofR (by decide +kernel) (Nat.le_of_ble_eq_true rfl) ?_
  refine R_aload_n (j := 0) (i := 0) (by decide +kernel) rfl 0 rfl ?_
  refine R_objInit (i := 3) (by decide +kernel) lmX5_3 w_oi1 w_oi2 (Nat.le_of_ble_eq_true rfl) (Nat.le_of_ble_eq_true rfl) (by rw [hn]; decide) ?_
  refine R_aload_n (j := 0) (i := 0) (by decide +kernel) rfl 0 rfl ?_
  refine R_iconst (n := 4) (v := 4) (by decide +kernel) rfl ?_
  refine R_newL (n := 63) (N := 4) (kc2 := 7) (ks2 := 19) (by decide +kernel) hn rfl rfl (by decide) rfl (by decide) rfl rfl ?_
  refine S5_2 (i := 11) (by decide +kernel) lfX5_11 ⟨rfl, rfl⟩ ⟨(by decide : 62 < 64), rfl⟩ ?_
  refine R_aload_n (j := 0) (i := 0) (by decide +kernel) rfl 0 rfl ?_
  refine R_iconst (n := 4) (v := 4) (by decide +kernel) rfl ?_
  refine R_newL (n := 64) (N := 4) (kc2 := 6) (ks2 := 15) (by decide +kernel) rfl rfl rfl (by decide) rfl (by decide) rfl rfl ?_
  refine S5_3 (i := 17) (by decide +kernel) lfX5_17 ⟨rfl, rfl⟩ ⟨(by decide : 62 < 65), rfl⟩ ?_
  refine R_aload_n (j := 0) (i := 0) (by decide +kernel) rfl 0 rfl ?_
  refine R_new (i := 9) (n := 65) (kc2 := 5) (ks2 := 14) ok0 tyX0_ok dv_X0 (by decide +kernel) (tg2 121 (by decide +kernel) rfl) (tg1 77 (by decide +kernel) rfl) (tg1 5 (by decide +kernel) rfl) rfl rfl rfl rfl ?_
  refine R_dup (by decide +kernel) rfl ?_
  refine R_callIN (N := mX0_init) (i := 20) (n := 0) (r := 65) (as := []) (rest := [.ref 65, .ref 62]) (kc2 := 4) (ks2 := 10) (by decide +kernel) lnX5_20 oX0_init (Nat.le_of_ble_eq_true rfl) rfl rfl (Nat.le_of_ble_eq_true rfl) rfl rfl (by decide : 65 < 66) ?_
  refine i_X0 (r := 65) (n := 66) (by decide) rfl rfl rfl rfl ?_
  refine S5_4 (i := 21) (by decide +kernel) lfX5_21 ⟨rfl, rfl⟩ ⟨(by decide : 62 < 67), rfl⟩ ?_
  refine R_aload_n (j := 0) (i := 0) (by decide +kernel) rfl 0 rfl ?_
  refine R_new (i := 9) (n := 67) (kc2 := 3) (ks2 := 9) ok0 tyX0_ok dv_X0 (by decide +kernel) (tg2 121 (by decide +kernel) rfl) (tg1 77 (by decide +kernel) rfl) (tg1 5 (by decide +kernel) rfl) rfl rfl rfl rfl ?_
  refine R_dup (by decide +kernel) rfl ?_
  refine R_callIN (N := mX0_init) (i := 20) (n := 0) (r := 67) (as := []) (rest := [.ref 67, .ref 62]) (kc2 := 2) (ks2 := 5) (by decide +kernel) lnX5_20 oX0_init (Nat.le_of_ble_eq_true rfl) rfl rfl (Nat.le_of_ble_eq_true rfl) rfl rfl (by decide : 67 < 68) ?_
  refine i_X0 (r := 67) (n := 68) (by decide) rfl rfl rfl rfl ?_
  refine S5_5 (i := 25) (by decide +kernel) lfX5_25 ⟨rfl, rfl⟩ ⟨(by decide : 62 < 69), rfl⟩ ?_
  refine R_aload_n (j := 0) (i := 0) (by decide +kernel) rfl 0 rfl ?_
  refine R_new (i := 9) (n := 69) (kc2 := 1) (ks2 := 4) ok0 tyX0_ok dv_X0 (by decide +kernel) (tg2 121 (by decide +kernel) rfl) (tg1 77 (by decide +kernel) rfl) (tg1 5 (by decide +kernel) rfl) rfl rfl rfl rfl ?_
  refine R_dup (by decide +kernel) rfl ?_
  refine R_callIN (N := mX0_init) (i := 20) (n := 0) (r := 69) (as := []) (rest := [.ref 69, .ref 62]) (kc2 := 0) (ks2 := 0) (by decide +kernel) lnX5_20 oX0_init (Nat.le_of_ble_eq_true rfl) rfl rfl (Nat.le_of_ble_eq_true rfl) rfl rfl (by decide : 69 < 70) ?_
  refine i_X0 (r := 69) (n := 70) (by decide) rfl rfl rfl rfl ?_
  refine S5_6 (i := 28) (by decide +kernel) lfX5_28 ⟨rfl, rfl⟩ ⟨(by decide : 62 < 71), rfl⟩ ?_
  exact R_ret (by decide +kernel) rfl k
def q_X2 (h : AH) : AH := (sF (nw (sF (nw h 86) 85 0 86) 87) 85 1 87)
theorem i_X2 {h : AH} {P : Option Value → AH → Prop} (hn : h.1 = 86) (k : P none (q_X2 h)) : Call mX2_init [.ref 85] h P := by
  refine Call.ofR (by decide +kernel) (Nat.le_of_ble_eq_true rfl) ?_
  refine R_aload_n (j := 0) (i := 0) (by decide +kernel) rfl 0 rfl ?_
  refine R_objInit (i := 1) (by decide +kernel) lmX2_1 w_oi1 w_oi2 (Nat.le_of_ble_eq_true rfl) (Nat.le_of_ble_eq_true rfl) (by rw [hn]; decide) ?_
  refine R_aload_n (j := 0) (i := 0) (by decide +kernel) rfl 0 rfl ?_
  refine R_bipush (n := 7) (v := 7) (by decide +kernel) rfl ?_
  refine R_newL (n := 86) (N := 7) (kc2 := 1) (ks2 := 7) (by decide +kernel) hn rfl rfl (by decide) rfl (by decide) rfl rfl ?_
  refine S2_0 (i := 9) (by decide +kernel) lfX2_9 ⟨rfl, rfl⟩ ⟨(by decide : 85 < 87), rfl⟩ ?_
  refine R_aload_n (j := 0) (i := 0) (by decide +kernel) rfl 0 rfl ?_
  refine R_bipush (n := 7) (v := 7) (by decide +kernel) rfl ?_
  refine R_newL (n := 87) (N := 7) (kc2 := 0) (ks2 := 0) (by decide +kernel) rfl rfl rfl (by decide) rfl (by decide) rfl rfl ?_
  refine S2_1 (i := 13) (by decide +kernel) lfX2_13 ⟨rfl, rfl⟩ ⟨(by decide : 85 < 88), rfl⟩ ?_
  exact R_ret (by decide +kernel) rfl k
def q_X10 (h : AH) : AH := (sF (nw (sF (nwm (sF (nw (sF (nw (sF (nw h 89) 88 0 89) 90) 88 1 90) 91) 88 2 91) 92 21) 88 3 92) 114) 88 5 114)
theorem i_X10 {h : AH} {P : Option Value → AH → Prop} (hn : h.1 = 89) (k : P none (q_X10 h)) : Call mX10_init [.ref 88] h P := by
  refine Call.ofR (by decide +kernel) (Nat.le_of_ble_eq_true rfl) ?_
  refine R_aload_n (j := 0) (i := 0) (by decide +kernel) rfl 0 rfl ?_
  refine R_objInit (i := 3) (by decide +kernel) lmX10_3 w_oi1 w_oi2 (Nat.le_of_ble_eq_true rfl) (Nat.le_of_ble_eq_true rfl) (by rw [hn]; decide) ?_
  refine R_aload_n (j := 0) (i := 0) (by decide +kernel) rfl 0 rfl ?_
  refine R_bipush (n := 20) (v := 20) (by decide +kernel) rfl ?_
  refine R_newI (n := 89) (N := 20) (kc2 := 25) (ks2 := 291) (by decide +kernel) hn rfl rfl (by decide) rfl (by decide) rfl rfl ?_
  refine S10_0 (i := 11) (by decide +kernel) lfX10_11 ⟨rfl, rfl⟩ ⟨(by decide : 88 < 90), rfl⟩ ?_
  refine R_aload_n (j := 0) (i := 0) (by decide +kernel) rfl 0 rfl ?_
  refine R_bipush (n := 20) (v := 20) (by decide +kernel) rfl ?_
  refine R_newI (n := 90) (N := 20) (kc2 := 24) (ks2 := 271) (by decide +kernel) rfl rfl rfl (by decide) rfl (by decide) rfl rfl ?_
  refine S10_1 (i := 15) (by decide +kernel) lfX10_15 ⟨rfl, rfl⟩ ⟨(by decide : 88 < 91), rfl⟩ ?_
  refine R_aload_n (j := 0) (i := 0) (by decide +kernel) rfl 0 rfl ?_
  refine R_bipush (n := 20) (v := 20) (by decide +kernel) rfl ?_
  refine R_newI (n := 91) (N := 20) (kc2 := 23) (ks2 := 251) (by decide +kernel) rfl rfl rfl (by decide) rfl (by decide) rfl rfl ?_
  refine S10_2 (i := 18) (by decide +kernel) lfX10_18 ⟨rfl, rfl⟩ ⟨(by decide : 88 < 92), rfl⟩ ?_
  refine R_aload_n (j := 0) (i := 0) (by decide +kernel) rfl 0 rfl ?_
  refine R_bipush (n := 21) (v := 21) (by decide +kernel) rfl ?_
  refine R_bipush (n := 10) (v := 10) (by decide +kernel) rfl ?_
  refine R_multi (i := 21) (n := 92) (kc2 := 1) (ks2 := 20) (by decide +kernel) (tg2 195 (by decide +kernel) rfl) rfl rfl rfl sh_multi rfl rfl ?_
  refine S10_3 (i := 23) (by decide +kernel) lfX10_23 ⟨rfl, rfl⟩ ⟨(by decide : 88 < 114), rfl⟩ ?_
  refine R_aload_n (j := 0) (i := 0) (by decide +kernel) rfl 0 rfl ?_
  refine R_bipush (n := 20) (v := 20) (by decide +kernel) rfl ?_
  refine R_newI (n := 114) (N := 20) (kc2 := 0) (ks2 := 0) (by decide +kernel) rfl rfl rfl (by decide) rfl (by decide) rfl rfl ?_
  refine S10_5 (i := 26) (by decide +kernel) lfX10_26 ⟨rfl, rfl⟩ ⟨(by decide : 88 < 115), rfl⟩ ?_
  exact R_ret (by decide +kernel) rfl k
def q_X11 (h : AH) : AH := (sF (nw (sF (q_X10 (nw (sF (q_X2 (nw (sF (nw (sF (qX0 (nw (sF (qX0 (nw (sF (qE (sF (q_X5 (nw (sF (q_X6 (nw (sF (q_X1 (nw (sF (q_X7 (nw (sF (q_X3b (nw (sF (sF (q_X4 (nw h 1)) 0 0 1) 0 1 2) 23)) 0 2 23) 42)) 0 3 42) 52)) 0 4 52) 59)) 0 5 59) 62)) 0 6 62) 71 4) 0 7 71) 80) 80 81) 0 9 80) 82) 82 83) 0 10 82) 84) 0 11 84) 85)) 0 12 85) 88)) 0 13 88) 115) 0 14 115)
theorem i_X11 {h : AH} {P : Option Value → AH → Prop} (hn : h.1 = 1) (k : P none (q_X11 h)) : Call mX11_init [.ref 0] h P := by
  refine Call.ofR (by decide +kernel) (Nat.le_of_ble_eq_true rfl) ?_
  refine R_aload_n (j := 0) (i := 0) (by decide +kernel) rfl 0 rfl ?_
  refine R_objInit (i := 1) (by decide +kernel) lmX11_1 w_oi1 w_oi2 (Nat.le_of_ble_eq_true rfl) (Nat.le_of_ble_eq_true rfl) (by rw [hn]; decide) ?_
  refine R_aload_n (j := 0) (i := 0) (by decide +kernel) rfl 0 rfl ?_
  refine R_new (i := 7) (n := 1) (kc2 := 114) (ks2 := 1952) ok4 tyX4_ok dv_X4 (by decide +kernel) (tg1 30 (by decide +kernel) rfl) (tg1 31 (by decide +kernel) rfl) (tg1 2 (by decide +kernel) rfl) hn rfl rfl rfl ?_
  refine R_dup (by decide +kernel) rfl ?_
  refine R_callIN (N := mX4_init) (i := 9) (n := 0) (r := 1) (as := []) (rest := [.ref 1, .ref 0]) (kc2 := 93) (ks2 := 910) (by decide +kernel) lnX11_9 oX4_init (Nat.le_of_ble_eq_true rfl) rfl rfl (Nat.le_of_ble_eq_true rfl) rfl rfl (by decide : 1 < 2) ?_
  refine i_X4 rfl ?_
  refine S11_0 (i := 10) (by decide +kernel) lfX11_10 ⟨rfl, rfl⟩ ⟨(by decide : 0 < 23), rfl⟩ ?_
  refine R_aload_n (j := 0) (i := 0) (by decide +kernel) rfl 0 rfl ?_
  refine R_aload_n (j := 0) (i := 0) (by decide +kernel) rfl 0 rfl ?_
  refine G11_0 (i := 10) (by decide +kernel) lfX11_10 ⟨(by decide : 0 < 23), rfl⟩ ?_
  rw [show gF (sF (q_X4 (nw h 1)) 0 0 1) 0 0 = 1 from rfl]
  refine G4_0 (i := 16) (by decide +kernel) lfX11_16 ⟨(by decide : 1 < 23), rfl⟩ ?_
  rw [show gF (sF (q_X4 (nw h 1)) 0 0 1) 1 0 = 2 from rfl]
  refine S11_1 (i := 20) (by decide +kernel) lfX11_20 ⟨rfl, rfl⟩ ⟨(by decide : 0 < 23), rfl⟩ ?_
  refine R_aload_n (j := 0) (i := 0) (by decide +kernel) rfl 0 rfl ?_
  refine R_new (i := 21) (n := 23) (kc2 := 92) (ks2 := 894) ok3 tyX3_ok dv_X3 (by decide +kernel) (tg1 231 (by decide +kernel) rfl) (tg1 67 (by decide +kernel) rfl) (tg1 4 (by decide +kernel) rfl) rfl rfl rfl rfl ?_
  refine R_dup (by decide +kernel) rfl ?_
  refine R_callI (N := mX3_init) (i := 23) (n := 0) (r := 23) (as := []) (rest := [.ref 23, .ref 0]) (kc2 := 74) (ks2 := 774) (by decide +kernel) lmX11_23 oX3_init (Nat.le_of_ble_eq_true rfl) rfl rfl (Nat.le_of_ble_eq_true rfl) rfl rfl (by decide : 23 < 24) ?_
  refine i_X3b rfl ?_
  refine S11_2 (i := 24) (by decide +kernel) lfX11_24 ⟨(by decide : 0 < 42), rfl⟩ ?_
  refine R_aload_n (j := 0) (i := 0) (by decide +kernel) rfl 0 rfl ?_
  refine R_new (i := 28) (n := 42) (kc2 := 73) (ks2 := 762) ok7 tyX7_ok dv_X7 (by decide +kernel) (tg1 233 (by decide +kernel) rfl) (tg1 234 (by decide +kernel) rfl) (tg1 8 (by decide +kernel) rfl) rfl rfl rfl rfl ?_
  refine R_dup (by decide +kernel) rfl ?_
  refine R_callIN (N := mX7_init) (i := 30) (n := 0) (r := 42) (as := []) (rest := [.ref 42, .ref 0]) (kc2 := 64) (ks2 := 562) (by decide +kernel) lnX11_30 oX7_init (Nat.le_of_ble_eq_true rfl) rfl rfl (Nat.le_of_ble_eq_true rfl) rfl rfl (by decide : 42 < 43) ?_
  refine i_X7 rfl ?_
  refine S11_3 (i := 31) (by decide +kernel) lfX11_31 ⟨rfl, rfl⟩ ⟨(by decide : 0 < 52), rfl⟩ ?_
  refine R_aload_n (j := 0) (i := 0) (by decide +kernel) rfl 0 rfl ?_
  refine R_new (i := 35) (n := 52) (kc2 := 63) (ks2 := 550) ok1 tyX1_ok dv_X1 (by decide +kernel) (tg2 39 (by decide +kernel) rfl) (tg2 40 (by decide +kernel) rfl) (tg1 9 (by decide +kernel) rfl) rfl rfl rfl rfl ?_
  refine R_dup (by decide +kernel) rfl ?_
  refine R_callIN (N := mX1_init) (i := 37) (n := 0) (r := 52) (as := []) (rest := [.ref 52, .ref 0]) (kc2 := 57) (ks2 := 446) (by decide +kernel) lnX11_37 oX1_init (Nat.le_of_ble_eq_true rfl) rfl rfl (Nat.le_of_ble_eq_true rfl) rfl rfl (by decide : 52 < 53) ?_
  refine i_X1 rfl ?_
  refine S11_4 (i := 38) (by decide +kernel) lfX11_38 ⟨rfl, rfl⟩ ⟨(by decide : 0 < 59), rfl⟩ ?_
  refine R_aload_n (j := 0) (i := 0) (by decide +kernel) rfl 0 rfl ?_
  refine R_new (i := 42) (n := 59) (kc2 := 56) (ks2 := 439) ok6 tyX6_ok dv_X6 (by decide +kernel) (tg2 85 (by decide +kernel) rfl) (tg2 86 (by decide +kernel) rfl) (tg1 10 (by decide +kernel) rfl) rfl rfl rfl rfl ?_
  refine R_dup (by decide +kernel) rfl ?_
  refine R_callIN (N := mX6_init) (i := 44) (n := 0) (r := 59) (as := []) (rest := [.ref 59, .ref 0]) (kc2 := 54) (ks2 := 433) (by decide +kernel) lnX11_44 oX6_init (Nat.le_of_ble_eq_true rfl) rfl rfl (Nat.le_of_ble_eq_true rfl) rfl rfl (by decide : 59 < 60) ?_
  refine i_X6 rfl ?_
  refine S11_5 (i := 45) (by decide +kernel) lfX11_45 ⟨rfl, rfl⟩ ⟨(by decide : 0 < 62), rfl⟩ ?_
  refine R_aload_n (j := 0) (i := 0) (by decide +kernel) rfl 0 rfl ?_
  refine R_new (i := 49) (n := 62) (kc2 := 53) (ks2 := 421) ok5 tyX5_ok dv_X5 (by decide +kernel) (tg2 115 (by decide +kernel) rfl) (tg2 116 (by decide +kernel) rfl) (tg1 11 (by decide +kernel) rfl) rfl rfl rfl rfl ?_
  refine R_dup (by decide +kernel) rfl ?_
  refine R_callIN (N := mX5_init) (i := 51) (n := 0) (r := 62) (as := []) (rest := [.ref 62, .ref 0]) (kc2 := 45) (ks2 := 398) (by decide +kernel) lnX11_51 oX5_init (Nat.le_of_ble_eq_true rfl) rfl rfl (Nat.le_of_ble_eq_true rfl) rfl rfl (by decide : 62 < 63) ?_
  refine i_X5 rfl ?_
  refine S11_6 (i := 52) (by decide +kernel) lfX11_52 ⟨rfl, rfl⟩ ⟨(by decide : 0 < 71), rfl⟩ ?_
  refine R_aload_n (j := 0) (i := 0) (by decide +kernel) rfl 0 rfl ?_
  refine R_callS (N := mX0_emptyShapes) (i := 56) (n := 0) (as := []) (rest := [.ref 0]) (kc2 := 36) (ks2 := 374) (by decide +kernel) lmX11_56 oX0_emptyShapes (Nat.le_of_ble_eq_true rfl) rfl rfl (Nat.le_of_ble_eq_true rfl) rfl rfl ?_
  refine i_E (n := 71) ek_71 rfl ?_
  refine S11_7 (i := 62) (by decide +kernel) lfX11_62 ⟨rfl, rfl⟩ ⟨(by decide : 0 < 80), rfl⟩ ?_
  refine R_aload_n (j := 0) (i := 0) (by decide +kernel) rfl 0 rfl ?_
  refine R_new (i := 57) (n := 80) (kc2 := 35) (ks2 := 373) ok0 tyX0_ok dv_X0 (by decide +kernel) (tg2 166 (by decide +kernel) rfl) (tg1 77 (by decide +kernel) rfl) (tg1 5 (by decide +kernel) rfl) rfl rfl rfl rfl ?_
  refine R_dup (by decide +kernel) rfl ?_
  refine R_callIN (N := mX0_init) (i := 66) (n := 0) (r := 80) (as := []) (rest := [.ref 80, .ref 0]) (kc2 := 34) (ks2 := 369) (by decide +kernel) lnX11_66 oX0_init (Nat.le_of_ble_eq_true rfl) rfl rfl (Nat.le_of_ble_eq_true rfl) rfl rfl (by decide : 80 < 81) ?_
  refine i_X0 (r := 80) (n := 81) (by decide) rfl rfl rfl rfl ?_
  refine S11_9 (i := 67) (by decide +kernel) lfX11_67 ⟨rfl, rfl⟩ ⟨(by decide : 0 < 82), rfl⟩ ?_
  refine R_aload_n (j := 0) (i := 0) (by decide +kernel) rfl 0 rfl ?_
  refine R_new (i := 57) (n := 82) (kc2 := 33) (ks2 := 368) ok0 tyX0_ok dv_X0 (by decide +kernel) (tg2 166 (by decide +kernel) rfl) (tg1 77 (by decide +kernel) rfl) (tg1 5 (by decide +kernel) rfl) rfl rfl rfl rfl ?_
  refine R_dup (by decide +kernel) rfl ?_
  refine R_callIN (N := mX0_init) (i := 66) (n := 0) (r := 82) (as := []) (rest := [.ref 82, .ref 0]) (kc2 := 32) (ks2 := 364) (by decide +kernel) lnX11_66 oX0_init (Nat.le_of_ble_eq_true rfl) rfl rfl (Nat.le_of_ble_eq_true rfl) rfl rfl (by decide : 82 < 83) ?_
  refine i_X0 (r := 82) (n := 83) (by decide) rfl rfl rfl rfl ?_
  refine S11_10 (i := 71) (by decide +kernel) lfX11_71 ⟨rfl, rfl⟩ ⟨(by decide : 0 < 84), rfl⟩ ?_
  refine R_aload_n (j := 0) (i := 0) (by decide +kernel) rfl 0 rfl ?_
  refine R_bipush (n := 24) (v := 24) (by decide +kernel) rfl ?_
  refine R_newI (n := 84) (N := 24) (kc2 := 31) (ks2 := 340) (by decide +kernel) rfl rfl rfl (by decide) rfl (by decide) rfl rfl ?_
  refine S11_11 (i := 74) (by decide +kernel) lfX11_74 ⟨rfl, rfl⟩ ⟨(by decide : 0 < 85), rfl⟩ ?_
  refine R_aload_n (j := 0) (i := 0) (by decide +kernel) rfl 0 rfl ?_
  refine R_new (i := 78) (n := 85) (kc2 := 30) (ks2 := 336) ok2 tyX2_ok dv_X2 (by decide +kernel) (tg2 168 (by decide +kernel) rfl) (tg2 169 (by decide +kernel) rfl) (tg1 12 (by decide +kernel) rfl) rfl rfl rfl rfl ?_
  refine R_dup (by decide +kernel) rfl ?_
  refine R_callIN (N := mX2_init) (i := 80) (n := 0) (r := 85) (as := []) (rest := [.ref 85, .ref 0]) (kc2 := 28) (ks2 := 322) (by decide +kernel) lnX11_80 oX2_init (Nat.le_of_ble_eq_true rfl) rfl rfl (Nat.le_of_ble_eq_true rfl) rfl rfl (by decide : 85 < 86) ?_
  refine i_X2 rfl ?_
  refine S11_12 (i := 81) (by decide +kernel) lfX11_81 ⟨rfl, rfl⟩ ⟨(by decide : 0 < 88), rfl⟩ ?_
  refine R_aload_n (j := 0) (i := 0) (by decide +kernel) rfl 0 rfl ?_
  refine R_new (i := 85) (n := 88) (kc2 := 27) (ks2 := 315) ok10 tyX10_ok dv_X10 (by decide +kernel) (tg2 189 (by decide +kernel) rfl) (tg2 190 (by decide +kernel) rfl) (tg1 13 (by decide +kernel) rfl) rfl rfl rfl rfl ?_
  refine R_dup (by decide +kernel) rfl ?_
  refine R_callIN (N := mX10_init) (i := 87) (n := 0) (r := 88) (as := []) (rest := [.ref 88, .ref 0]) (kc2 := 1) (ks2 := 4) (by decide +kernel) lnX11_87 oX10_init (Nat.le_of_ble_eq_true rfl) rfl rfl (Nat.le_of_ble_eq_true rfl) rfl rfl (by decide : 88 < 89) ?_
  refine i_X10 rfl ?_
  refine S11_13 (i := 88) (by decide +kernel) lfX11_88 ⟨rfl, rfl⟩ ⟨(by decide : 0 < 115), rfl⟩ ?_
  refine R_aload_n (j := 0) (i := 0) (by decide +kernel) rfl 0 rfl ?_
  refine R_iconst (n := 4) (v := 4) (by decide +kernel) rfl ?_
  refine R_newI (n := 115) (N := 4) (kc2 := 0) (ks2 := 0) (by decide +kernel) rfl rfl rfl (by decide) rfl (by decide) rfl rfl ?_
  refine S11_14 (i := 92) (by decide +kernel) lfX11_92 ⟨rfl, rfl⟩ ⟨(by decide : 0 < 116), rfl⟩ ?_
  exact R_ret (by decide +kernel) rfl k
