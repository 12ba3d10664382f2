/-! THE LAW'S CASES, printed by wip/whole/gen/law.py -/
theorem lw_c25 {G : GH} {b L : Nat} {xs : Nat → Int32} {i j : Nat} {h : AH} (hL : L ≤ 4096) (hi : i + 8 ≤ L) (I : Inv j h) (K : ∀ j2 h2, Inv j2 h2 → LW G b L xs 1448 (lwl G b i) [] h2) : LW G b L xs 1300 (lwl G b i) [] h := by
  refine LW.al (pc := 1300) (j := 1) (i := 1) (q := 2) (by decide +kernel) rfl rfl ?_
  refine LW.arg1 (pc := 1301) (i := i) (k := 1) (q0 := 3) (q3 := 0) (n := 1) hL (by omega) rfl rfl (by decide +kernel) (by decide +kernel) (by decide +kernel) rfl (by decide +kernel) (by decide +kernel) ?_
  refine LW.call (pc := 1306) (N := mX11_layers) (i := 122) (r := 0) (n := 1) (ci := 11) (as := [.int (xs (i + 1))]) (rest := []) (by decide +kernel) lmLw_122 oX11_layers (Nat.le_of_ble_eq_true rfl) rfl rfl (Nat.le_of_ble_eq_true rfl) rfl rfl (by simp) (I.1.o (by decide) rfl) ok11 ?_
  refine Call.mono (pr_layers I (xs (i + 1))) fun v h1 C hle => ?_
  have h15 : h.1 = 150 := I.1.1
  refine LW.al (pc := 1309) (j := 2) (i := 2) (q := 1) (by decide +kernel) rfl rfl ?_
  refine LW.arg1 (pc := 1310) (i := i) (k := 1) (q0 := 3) (q3 := 0) (n := 1) hL (by omega) rfl rfl (by decide +kernel) (by decide +kernel) (by decide +kernel) rfl (by decide +kernel) (by decide +kernel) ?_
  refine LW.call (pc := 1315) (N := mX12_layers) (i := 125) (r := 116) (n := 1) (ci := 12) (as := [.int (xs (i + 1))]) (rest := ((v.map (tv G)).toList ++ [])) (by decide +kernel) lmLw_125 oX12_layers (Nat.le_of_ble_eq_true rfl) rfl rfl (v_room v) rfl rfl (by simp) ⟨by omega, rfl⟩ ok12 ?_
  refine Call.mono C fun v2 h2 R hle2 => ?_
  obtain ⟨rfl, ⟨z, rfl⟩, j2, I2⟩ := R
  exact LW.same (pc := 1318) (off := 130) (by decide +kernel) rfl (K j2 h2 I2)
theorem lw_c26 {G : GH} {b L : Nat} {xs : Nat → Int32} {i j : Nat} {h : AH} (hL : L ≤ 4096) (hi : i + 8 ≤ L) (I : Inv j h) (K : ∀ j2 h2, Inv j2 h2 → LW G b L xs 1448 (lwl G b i) [] h2) : LW G b L xs 1323 (lwl G b i) [] h := by
  refine LW.al (pc := 1323) (j := 1) (i := 1) (q := 2) (by decide +kernel) rfl rfl ?_
  refine LW.arg1 (pc := 1324) (i := i) (k := 1) (q0 := 3) (q3 := 0) (n := 1) hL (by omega) rfl rfl (by decide +kernel) (by decide +kernel) (by decide +kernel) rfl (by decide +kernel) (by decide +kernel) ?_
  refine LW.arg1 (pc := 1329) (i := i) (k := 2) (q0 := 3) (q3 := 0) (n := 2) hL (by omega) rfl rfl (by decide +kernel) (by decide +kernel) (by decide +kernel) rfl (by decide +kernel) (by decide +kernel) ?_
  refine LW.call (pc := 1334) (N := mX11_beat) (i := 126) (r := 0) (n := 2) (ci := 11) (as := [.int (xs (i + 1)), .int (xs (i + 2))]) (rest := []) (by decide +kernel) lmLw_126 oX11_beat (Nat.le_of_ble_eq_true rfl) rfl rfl (Nat.le_of_ble_eq_true rfl) rfl rfl (by simp) (I.1.o (by decide) rfl) ok11 ?_
  refine Call.mono (pr_beat I (xs (i + 1)) (xs (i + 2))) fun v h1 C hle => ?_
  have h15 : h.1 = 150 := I.1.1
  refine LW.al (pc := 1337) (j := 2) (i := 2) (q := 1) (by decide +kernel) rfl rfl ?_
  refine LW.arg1 (pc := 1338) (i := i) (k := 1) (q0 := 3) (q3 := 0) (n := 1) hL (by omega) rfl rfl (by decide +kernel) (by decide +kernel) (by decide +kernel) rfl (by decide +kernel) (by decide +kernel) ?_
  refine LW.arg1 (pc := 1343) (i := i) (k := 2) (q0 := 3) (q3 := 0) (n := 2) hL (by omega) rfl rfl (by decide +kernel) (by decide +kernel) (by decide +kernel) rfl (by decide +kernel) (by decide +kernel) ?_
  refine LW.call (pc := 1348) (N := mX12_beat) (i := 129) (r := 116) (n := 2) (ci := 12) (as := [.int (xs (i + 1)), .int (xs (i + 2))]) (rest := ((v.map (tv G)).toList ++ [])) (by decide +kernel) lmLw_129 oX12_beat (Nat.le_of_ble_eq_true rfl) rfl rfl (v_room v) rfl rfl (by simp) ⟨by omega, rfl⟩ ok12 ?_
  refine Call.mono C fun v2 h2 R hle2 => ?_
  obtain ⟨rfl, ⟨z, rfl⟩, j2, I2⟩ := R
  exact LW.same (pc := 1351) (off := 97) (by decide +kernel) rfl (K j2 h2 I2)
theorem lw_c27 {G : GH} {b L : Nat} {xs : Nat → Int32} {i j : Nat} {h : AH} (hL : L ≤ 4096) (hi : i + 8 ≤ L) (I : Inv j h) (K : ∀ j2 h2, Inv j2 h2 → LW G b L xs 1448 (lwl G b i) [] h2) : LW G b L xs 1356 (lwl G b i) [] h := by
  refine LW.al (pc := 1356) (j := 1) (i := 1) (q := 2) (by decide +kernel) rfl rfl ?_
  refine LW.arg1 (pc := 1357) (i := i) (k := 1) (q0 := 3) (q3 := 0) (n := 1) hL (by omega) rfl rfl (by decide +kernel) (by decide +kernel) (by decide +kernel) rfl (by decide +kernel) (by decide +kernel) ?_
  refine LW.call (pc := 1362) (N := mX11_setting) (i := 130) (r := 0) (n := 1) (ci := 11) (as := [.int (xs (i + 1))]) (rest := []) (by decide +kernel) lmLw_130 oX11_setting (Nat.le_of_ble_eq_true rfl) rfl rfl (Nat.le_of_ble_eq_true rfl) rfl rfl (by simp) (I.1.o (by decide) rfl) ok11 ?_
  refine Call.mono (pr_setting I (xs (i + 1))) fun v h1 C hle => ?_
  have h15 : h.1 = 150 := I.1.1
  refine LW.al (pc := 1365) (j := 2) (i := 2) (q := 1) (by decide +kernel) rfl rfl ?_
  refine LW.arg1 (pc := 1366) (i := i) (k := 1) (q0 := 3) (q3 := 0) (n := 1) hL (by omega) rfl rfl (by decide +kernel) (by decide +kernel) (by decide +kernel) rfl (by decide +kernel) (by decide +kernel) ?_
  refine LW.call (pc := 1371) (N := mX12_setting) (i := 133) (r := 116) (n := 1) (ci := 12) (as := [.int (xs (i + 1))]) (rest := ((v.map (tv G)).toList ++ [])) (by decide +kernel) lmLw_133 oX12_setting (Nat.le_of_ble_eq_true rfl) rfl rfl (v_room v) rfl rfl (by simp) ⟨by omega, rfl⟩ ok12 ?_
  refine Call.mono C fun v2 h2 R hle2 => ?_
  obtain ⟨rfl, ⟨z, rfl⟩, j2, I2⟩ := R
  exact LW.same (pc := 1374) (off := 74) (by decide +kernel) rfl (K j2 h2 I2)
theorem lw_c28 {G : GH} {b L : Nat} {xs : Nat → Int32} {i j : Nat} {h : AH} (hL : L ≤ 4096) (hi : i + 8 ≤ L) (I : Inv j h) (K : ∀ j2 h2, Inv j2 h2 → LW G b L xs 1448 (lwl G b i) [] h2) : LW G b L xs 1379 (lwl G b i) [] h := by
  refine LW.al (pc := 1379) (j := 1) (i := 1) (q := 2) (by decide +kernel) rfl rfl ?_
  refine LW.arg1 (pc := 1380) (i := i) (k := 1) (q0 := 3) (q3 := 0) (n := 1) hL (by omega) rfl rfl (by decide +kernel) (by decide +kernel) (by decide +kernel) rfl (by decide +kernel) (by decide +kernel) ?_
  refine LW.call (pc := 1385) (N := mX11_order) (i := 134) (r := 0) (n := 1) (ci := 11) (as := [.int (xs (i + 1))]) (rest := []) (by decide +kernel) lmLw_134 oX11_order (Nat.le_of_ble_eq_true rfl) rfl rfl (Nat.le_of_ble_eq_true rfl) rfl rfl (by simp) (I.1.o (by decide) rfl) ok11 ?_
  refine Call.mono (pr_order I (xs (i + 1))) fun v h1 C hle => ?_
  have h15 : h.1 = 150 := I.1.1
  refine LW.al (pc := 1388) (j := 2) (i := 2) (q := 1) (by decide +kernel) rfl rfl ?_
  refine LW.arg1 (pc := 1389) (i := i) (k := 1) (q0 := 3) (q3 := 0) (n := 1) hL (by omega) rfl rfl (by decide +kernel) (by decide +kernel) (by decide +kernel) rfl (by decide +kernel) (by decide +kernel) ?_
  refine LW.call (pc := 1394) (N := mX12_order) (i := 137) (r := 116) (n := 1) (ci := 12) (as := [.int (xs (i + 1))]) (rest := ((v.map (tv G)).toList ++ [])) (by decide +kernel) lmLw_137 oX12_order (Nat.le_of_ble_eq_true rfl) rfl rfl (v_room v) rfl rfl (by simp) ⟨by omega, rfl⟩ ok12 ?_
  refine Call.mono C fun v2 h2 R hle2 => ?_
  obtain ⟨rfl, ⟨z, rfl⟩, j2, I2⟩ := R
  exact LW.same (pc := 1397) (off := 51) (by decide +kernel) rfl (K j2 h2 I2)
theorem lw_c29 {G : GH} {b L : Nat} {xs : Nat → Int32} {i j : Nat} {h : AH} (hL : L ≤ 4096) (hi : i + 8 ≤ L) (I : Inv j h) (K : ∀ j2 h2, Inv j2 h2 → LW G b L xs 1448 (lwl G b i) [] h2) : LW G b L xs 1402 (lwl G b i) [] h := by
  refine LW.al (pc := 1402) (j := 1) (i := 1) (q := 2) (by decide +kernel) rfl rfl ?_
  refine LW.arg1 (pc := 1403) (i := i) (k := 1) (q0 := 3) (q3 := 0) (n := 1) hL (by omega) rfl rfl (by decide +kernel) (by decide +kernel) (by decide +kernel) rfl (by decide +kernel) (by decide +kernel) ?_
  refine LW.call (pc := 1408) (N := mX11_sum) (i := 138) (r := 0) (n := 1) (ci := 11) (as := [.int (xs (i + 1))]) (rest := []) (by decide +kernel) lmLw_138 oX11_sum (Nat.le_of_ble_eq_true rfl) rfl rfl (Nat.le_of_ble_eq_true rfl) rfl rfl (by simp) (I.1.o (by decide) rfl) ok11 ?_
  refine Call.mono (pr_sum I (xs (i + 1))) fun v h1 C hle => ?_
  have h15 : h.1 = 150 := I.1.1
  refine LW.al (pc := 1411) (j := 2) (i := 2) (q := 1) (by decide +kernel) rfl rfl ?_
  refine LW.arg1 (pc := 1412) (i := i) (k := 1) (q0 := 3) (q3 := 0) (n := 1) hL (by omega) rfl rfl (by decide +kernel) (by decide +kernel) (by decide +kernel) rfl (by decide +kernel) (by decide +kernel) ?_
  refine LW.call (pc := 1417) (N := mX12_sum) (i := 141) (r := 116) (n := 1) (ci := 12) (as := [.int (xs (i + 1))]) (rest := ((v.map (tv G)).toList ++ [])) (by decide +kernel) lmLw_141 oX12_sum (Nat.le_of_ble_eq_true rfl) rfl rfl (v_room v) rfl rfl (by simp) ⟨by omega, rfl⟩ ok12 ?_
  refine Call.mono C fun v2 h2 R hle2 => ?_
  obtain ⟨rfl, ⟨z, rfl⟩, j2, I2⟩ := R
  exact LW.same (pc := 1420) (off := 28) (by decide +kernel) rfl (K j2 h2 I2)
theorem lw_c30 {G : GH} {b L : Nat} {xs : Nat → Int32} {i j : Nat} {h : AH} (hL : L ≤ 4096) (hi : i + 8 ≤ L) (I : Inv j h) (K : ∀ j2 h2, Inv j2 h2 → LW G b L xs 1448 (lwl G b i) [] h2) : LW G b L xs 1425 (lwl G b i) [] h := by
  refine LW.al (pc := 1425) (j := 1) (i := 1) (q := 2) (by decide +kernel) rfl rfl ?_
  refine LW.arg1 (pc := 1426) (i := i) (k := 1) (q0 := 3) (q3 := 0) (n := 1) hL (by omega) rfl rfl (by decide +kernel) (by decide +kernel) (by decide +kernel) rfl (by decide +kernel) (by decide +kernel) ?_
  refine LW.call (pc := 1431) (N := mX11_count) (i := 142) (r := 0) (n := 1) (ci := 11) (as := [.int (xs (i + 1))]) (rest := []) (by decide +kernel) lmLw_142 oX11_count (Nat.le_of_ble_eq_true rfl) rfl rfl (Nat.le_of_ble_eq_true rfl) rfl rfl (by simp) (I.1.o (by decide) rfl) ok11 ?_
  refine Call.mono (pr_count I (xs (i + 1))) fun v h1 C hle => ?_
  have h15 : h.1 = 150 := I.1.1
  refine LW.al (pc := 1434) (j := 2) (i := 2) (q := 1) (by decide +kernel) rfl rfl ?_
  refine LW.arg1 (pc := 1435) (i := i) (k := 1) (q0 := 3) (q3 := 0) (n := 1) hL (by omega) rfl rfl (by decide +kernel) (by decide +kernel) (by decide +kernel) rfl (by decide +kernel) (by decide +kernel) ?_
  refine LW.call (pc := 1440) (N := mX12_count) (i := 145) (r := 116) (n := 1) (ci := 12) (as := [.int (xs (i + 1))]) (rest := ((v.map (tv G)).toList ++ [])) (by decide +kernel) lmLw_145 oX12_count (Nat.le_of_ble_eq_true rfl) rfl rfl (v_room v) rfl rfl (by simp) ⟨by omega, rfl⟩ ok12 ?_
  refine Call.mono C fun v2 h2 R hle2 => ?_
  obtain ⟨rfl, ⟨z, rfl⟩, j2, I2⟩ := R
  exact LW.same (pc := 1443) (off := 5) (by decide +kernel) rfl (K j2 h2 I2)
