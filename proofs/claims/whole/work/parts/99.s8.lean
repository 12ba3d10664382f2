/-! THE LAW'S CASES, printed by wip/whole/gen/law.py -/
theorem lw_c22 {G : GH} {b L : Nat} {xs : Nat → Int32} {i j : Nat} {h : AH} (hL : L ≤ 4096) (hi : i + 8 ≤ L) (I : Inv j h) (K : ∀ j2 h2, Inv j2 h2 → LW G b L xs 1448 (lwl G b i) [] h2) : LW G b L xs 1106 (lwl G b i) [] h := by
  refine LW.al (pc := 1106) (j := 1) (i := 1) (q := 2) (by decide +kernel) rfl rfl ?_
  refine LW.arg1 (pc := 1107) (i := i) (k := 1) (q0 := 3) (q3 := 0) (n := 1) hL (by omega) rfl rfl (by decide +kernel) (by decide +kernel) (by decide +kernel) rfl (by decide +kernel) (by decide +kernel) ?_
  refine LW.arg1 (pc := 1112) (i := i) (k := 2) (q0 := 3) (q3 := 0) (n := 2) hL (by omega) rfl rfl (by decide +kernel) (by decide +kernel) (by decide +kernel) rfl (by decide +kernel) (by decide +kernel) ?_
  refine LW.arg1 (pc := 1117) (i := i) (k := 3) (q0 := 3) (q3 := 0) (n := 3) hL (by omega) rfl rfl (by decide +kernel) (by decide +kernel) (by decide +kernel) rfl (by decide +kernel) (by decide +kernel) ?_
  refine LW.arg1 (pc := 1122) (i := i) (k := 4) (q0 := 3) (q3 := 0) (n := 4) hL (by omega) rfl rfl (by decide +kernel) (by decide +kernel) (by decide +kernel) rfl (by decide +kernel) (by decide +kernel) ?_
  refine LW.arg1 (pc := 1127) (i := i) (k := 5) (q0 := 3) (q3 := 0) (n := 5) hL (by omega) rfl rfl (by decide +kernel) (by decide +kernel) (by decide +kernel) rfl (by decide +kernel) (by decide +kernel) ?_
  refine LW.arg2 (pc := 1132) (i := i) (k := 6) (q0 := 3) (q3 := 0) (n := 6) hL (by omega) rfl rfl (by decide +kernel) (by decide +kernel) (by decide +kernel) rfl (by decide +kernel) (by decide +kernel) ?_
  refine LW.call (pc := 1138) (N := mX11_cost) (i := 108) (r := 0) (n := 6) (ci := 11) (as := [.int (xs (i + 1)), .int (xs (i + 2)), .int (xs (i + 3)), .int (xs (i + 4)), .int (xs (i + 5)), .int (xs (i + 6))]) (rest := []) (by decide +kernel) lmLw_108 oX11_cost (Nat.le_of_ble_eq_true rfl) rfl rfl (Nat.le_of_ble_eq_true rfl) rfl rfl (by simp) (I.1.o (by decide) rfl) ok11 ?_
  refine Call.mono (pr_cost I (xs (i + 1)) (xs (i + 2)) (xs (i + 3)) (xs (i + 4)) (xs (i + 5)) (xs (i + 6))) fun v h1 C hle => ?_
  have h15 : h.1 = 150 := I.1.1
  refine LW.al (pc := 1141) (j := 2) (i := 2) (q := 1) (by decide +kernel) rfl rfl ?_
  refine LW.arg1 (pc := 1142) (i := i) (k := 1) (q0 := 3) (q3 := 0) (n := 1) hL (by omega) rfl rfl (by decide +kernel) (by decide +kernel) (by decide +kernel) rfl (by decide +kernel) (by decide +kernel) ?_
  refine LW.arg1 (pc := 1147) (i := i) (k := 2) (q0 := 3) (q3 := 0) (n := 2) hL (by omega) rfl rfl (by decide +kernel) (by decide +kernel) (by decide +kernel) rfl (by decide +kernel) (by decide +kernel) ?_
  refine LW.arg1 (pc := 1152) (i := i) (k := 3) (q0 := 3) (q3 := 0) (n := 3) hL (by omega) rfl rfl (by decide +kernel) (by decide +kernel) (by decide +kernel) rfl (by decide +kernel) (by decide +kernel) ?_
  refine LW.arg1 (pc := 1157) (i := i) (k := 4) (q0 := 3) (q3 := 0) (n := 4) hL (by omega) rfl rfl (by decide +kernel) (by decide +kernel) (by decide +kernel) rfl (by decide +kernel) (by decide +kernel) ?_
  refine LW.arg1 (pc := 1162) (i := i) (k := 5) (q0 := 3) (q3 := 0) (n := 5) hL (by omega) rfl rfl (by decide +kernel) (by decide +kernel) (by decide +kernel) rfl (by decide +kernel) (by decide +kernel) ?_
  refine LW.arg2 (pc := 1167) (i := i) (k := 6) (q0 := 3) (q3 := 0) (n := 6) hL (by omega) rfl rfl (by decide +kernel) (by decide +kernel) (by decide +kernel) rfl (by decide +kernel) (by decide +kernel) ?_
  refine LW.call (pc := 1173) (N := mX12_cost) (i := 112) (r := 116) (n := 6) (ci := 12) (as := [.int (xs (i + 1)), .int (xs (i + 2)), .int (xs (i + 3)), .int (xs (i + 4)), .int (xs (i + 5)), .int (xs (i + 6))]) (rest := ((v.map (tv G)).toList ++ [])) (by decide +kernel) lmLw_112 oX12_cost (Nat.le_of_ble_eq_true rfl) rfl rfl (v_room v) rfl rfl (by simp) ⟨by omega, rfl⟩ ok12 ?_
  refine Call.mono C fun v2 h2 R hle2 => ?_
  obtain ⟨rfl, ⟨z, rfl⟩, j2, I2⟩ := R
  exact LW.sameL (pc := 1176) (off := 271) (by decide +kernel) (by decide +kernel) rfl (K j2 h2 I2)
theorem lw_c23 {G : GH} {b L : Nat} {xs : Nat → Int32} {i j : Nat} {h : AH} (hL : L ≤ 4096) (hi : i + 8 ≤ L) (I : Inv j h) (K : ∀ j2 h2, Inv j2 h2 → LW G b L xs 1448 (lwl G b i) [] h2) : LW G b L xs 1182 (lwl G b i) [] h := by
  refine LW.al (pc := 1182) (j := 1) (i := 1) (q := 2) (by decide +kernel) rfl rfl ?_
  refine LW.arg1 (pc := 1183) (i := i) (k := 1) (q0 := 3) (q3 := 0) (n := 1) hL (by omega) rfl rfl (by decide +kernel) (by decide +kernel) (by decide +kernel) rfl (by decide +kernel) (by decide +kernel) ?_
  refine LW.arg1 (pc := 1188) (i := i) (k := 2) (q0 := 3) (q3 := 0) (n := 2) hL (by omega) rfl rfl (by decide +kernel) (by decide +kernel) (by decide +kernel) rfl (by decide +kernel) (by decide +kernel) ?_
  refine LW.arg1 (pc := 1193) (i := i) (k := 3) (q0 := 3) (q3 := 0) (n := 3) hL (by omega) rfl rfl (by decide +kernel) (by decide +kernel) (by decide +kernel) rfl (by decide +kernel) (by decide +kernel) ?_
  refine LW.arg1 (pc := 1198) (i := i) (k := 4) (q0 := 3) (q3 := 0) (n := 4) hL (by omega) rfl rfl (by decide +kernel) (by decide +kernel) (by decide +kernel) rfl (by decide +kernel) (by decide +kernel) ?_
  refine LW.arg1 (pc := 1203) (i := i) (k := 5) (q0 := 3) (q3 := 0) (n := 5) hL (by omega) rfl rfl (by decide +kernel) (by decide +kernel) (by decide +kernel) rfl (by decide +kernel) (by decide +kernel) ?_
  refine LW.arg2 (pc := 1208) (i := i) (k := 6) (q0 := 3) (q3 := 0) (n := 6) hL (by omega) rfl rfl (by decide +kernel) (by decide +kernel) (by decide +kernel) rfl (by decide +kernel) (by decide +kernel) ?_
  refine LW.call (pc := 1214) (N := mX11_halt) (i := 113) (r := 0) (n := 6) (ci := 11) (as := [.int (xs (i + 1)), .int (xs (i + 2)), .int (xs (i + 3)), .int (xs (i + 4)), .int (xs (i + 5)), .int (xs (i + 6))]) (rest := []) (by decide +kernel) lmLw_113 oX11_halt (Nat.le_of_ble_eq_true rfl) rfl rfl (Nat.le_of_ble_eq_true rfl) rfl rfl (by simp) (I.1.o (by decide) rfl) ok11 ?_
  refine Call.mono (pr_halt I (xs (i + 1)) (xs (i + 2)) (xs (i + 3)) (xs (i + 4)) (xs (i + 5)) (xs (i + 6))) fun v h1 C hle => ?_
  have h15 : h.1 = 150 := I.1.1
  refine LW.al (pc := 1217) (j := 2) (i := 2) (q := 1) (by decide +kernel) rfl rfl ?_
  refine LW.arg1 (pc := 1218) (i := i) (k := 1) (q0 := 3) (q3 := 0) (n := 1) hL (by omega) rfl rfl (by decide +kernel) (by decide +kernel) (by decide +kernel) rfl (by decide +kernel) (by decide +kernel) ?_
  refine LW.arg1 (pc := 1223) (i := i) (k := 2) (q0 := 3) (q3 := 0) (n := 2) hL (by omega) rfl rfl (by decide +kernel) (by decide +kernel) (by decide +kernel) rfl (by decide +kernel) (by decide +kernel) ?_
  refine LW.arg1 (pc := 1228) (i := i) (k := 3) (q0 := 3) (q3 := 0) (n := 3) hL (by omega) rfl rfl (by decide +kernel) (by decide +kernel) (by decide +kernel) rfl (by decide +kernel) (by decide +kernel) ?_
  refine LW.arg1 (pc := 1233) (i := i) (k := 4) (q0 := 3) (q3 := 0) (n := 4) hL (by omega) rfl rfl (by decide +kernel) (by decide +kernel) (by decide +kernel) rfl (by decide +kernel) (by decide +kernel) ?_
  refine LW.arg1 (pc := 1238) (i := i) (k := 5) (q0 := 3) (q3 := 0) (n := 5) hL (by omega) rfl rfl (by decide +kernel) (by decide +kernel) (by decide +kernel) rfl (by decide +kernel) (by decide +kernel) ?_
  refine LW.arg2 (pc := 1243) (i := i) (k := 6) (q0 := 3) (q3 := 0) (n := 6) hL (by omega) rfl rfl (by decide +kernel) (by decide +kernel) (by decide +kernel) rfl (by decide +kernel) (by decide +kernel) ?_
  refine LW.call (pc := 1249) (N := mX12_halt) (i := 117) (r := 116) (n := 6) (ci := 12) (as := [.int (xs (i + 1)), .int (xs (i + 2)), .int (xs (i + 3)), .int (xs (i + 4)), .int (xs (i + 5)), .int (xs (i + 6))]) (rest := ((v.map (tv G)).toList ++ [])) (by decide +kernel) lmLw_117 oX12_halt (Nat.le_of_ble_eq_true rfl) rfl rfl (v_room v) rfl rfl (by simp) ⟨by omega, rfl⟩ ok12 ?_
  refine Call.mono C fun v2 h2 R hle2 => ?_
  obtain ⟨rfl, ⟨z, rfl⟩, j2, I2⟩ := R
  exact LW.same (pc := 1252) (off := 196) (by decide +kernel) rfl (K j2 h2 I2)
theorem lw_c24 {G : GH} {b L : Nat} {xs : Nat → Int32} {i j : Nat} {h : AH} (hL : L ≤ 4096) (hi : i + 8 ≤ L) (I : Inv j h) (K : ∀ j2 h2, Inv j2 h2 → LW G b L xs 1448 (lwl G b i) [] h2) : LW G b L xs 1257 (lwl G b i) [] h := by
  refine LW.al (pc := 1257) (j := 1) (i := 1) (q := 2) (by decide +kernel) rfl rfl ?_
  refine LW.arg1 (pc := 1258) (i := i) (k := 1) (q0 := 3) (q3 := 0) (n := 1) hL (by omega) rfl rfl (by decide +kernel) (by decide +kernel) (by decide +kernel) rfl (by decide +kernel) (by decide +kernel) ?_
  refine LW.arg1 (pc := 1263) (i := i) (k := 2) (q0 := 3) (q3 := 0) (n := 2) hL (by omega) rfl rfl (by decide +kernel) (by decide +kernel) (by decide +kernel) rfl (by decide +kernel) (by decide +kernel) ?_
  refine LW.arg1 (pc := 1268) (i := i) (k := 3) (q0 := 3) (q3 := 0) (n := 3) hL (by omega) rfl rfl (by decide +kernel) (by decide +kernel) (by decide +kernel) rfl (by decide +kernel) (by decide +kernel) ?_
  refine LW.call (pc := 1273) (N := mX11_tissue) (i := 118) (r := 0) (n := 3) (ci := 11) (as := [.int (xs (i + 1)), .int (xs (i + 2)), .int (xs (i + 3))]) (rest := []) (by decide +kernel) lmLw_118 oX11_tissue (Nat.le_of_ble_eq_true rfl) rfl rfl (Nat.le_of_ble_eq_true rfl) rfl rfl (by simp) (I.1.o (by decide) rfl) ok11 ?_
  refine Call.mono (pr_tissue I (xs (i + 1)) (xs (i + 2)) (xs (i + 3))) fun v h1 C hle => ?_
  have h15 : h.1 = 150 := I.1.1
  refine LW.al (pc := 1276) (j := 2) (i := 2) (q := 1) (by decide +kernel) rfl rfl ?_
  refine LW.arg1 (pc := 1277) (i := i) (k := 1) (q0 := 3) (q3 := 0) (n := 1) hL (by omega) rfl rfl (by decide +kernel) (by decide +kernel) (by decide +kernel) rfl (by decide +kernel) (by decide +kernel) ?_
  refine LW.arg1 (pc := 1282) (i := i) (k := 2) (q0 := 3) (q3 := 0) (n := 2) hL (by omega) rfl rfl (by decide +kernel) (by decide +kernel) (by decide +kernel) rfl (by decide +kernel) (by decide +kernel) ?_
  refine LW.arg1 (pc := 1287) (i := i) (k := 3) (q0 := 3) (q3 := 0) (n := 3) hL (by omega) rfl rfl (by decide +kernel) (by decide +kernel) (by decide +kernel) rfl (by decide +kernel) (by decide +kernel) ?_
  refine LW.call (pc := 1292) (N := mX12_tissue) (i := 121) (r := 116) (n := 3) (ci := 12) (as := [.int (xs (i + 1)), .int (xs (i + 2)), .int (xs (i + 3))]) (rest := ((v.map (tv G)).toList ++ [])) (by decide +kernel) lmLw_121 oX12_tissue (Nat.le_of_ble_eq_true rfl) rfl rfl (v_room v) rfl rfl (by simp) ⟨by omega, rfl⟩ ok12 ?_
  refine Call.mono C fun v2 h2 R hle2 => ?_
  obtain ⟨rfl, ⟨z, rfl⟩, j2, I2⟩ := R
  exact LW.same (pc := 1295) (off := 153) (by decide +kernel) rfl (K j2 h2 I2)
