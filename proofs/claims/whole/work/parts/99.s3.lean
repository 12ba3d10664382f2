/-! THE LAW'S CASES, printed by wip/whole/gen/law.py -/
theorem lw_c1 {G : GH} {b L : Nat} {xs : Nat → Int32} {i j : Nat} {h : AH} (hL : L ≤ 4096) (hi : i + 8 ≤ L) (I : Inv j h) (K : ∀ j2 h2, Inv j2 h2 → LW G b L xs 1448 (lwl G b i) [] h2) : LW G b L xs 235 (lwl G b i) [] h := by
  refine LW.al (pc := 235) (j := 1) (i := 1) (q := 2) (by decide +kernel) rfl rfl ?_
  refine LW.arg1 (pc := 236) (i := i) (k := 1) (q0 := 3) (q3 := 0) (n := 1) hL (by omega) rfl rfl (by decide +kernel) (by decide +kernel) (by decide +kernel) rfl (by decide +kernel) (by decide +kernel) ?_
  refine LW.call (pc := 241) (N := mX11_end) (i := 18) (r := 0) (n := 1) (ci := 11) (as := [.int (xs (i + 1))]) (rest := []) (by decide +kernel) lmLw_18 oX11_end (Nat.le_of_ble_eq_true rfl) rfl rfl (Nat.le_of_ble_eq_true rfl) rfl rfl (by simp) (I.1.o (by decide) rfl) ok11 ?_
  refine Call.mono (pr_end I (xs (i + 1))) fun v h1 C hle => ?_
  have h15 : h.1 = 150 := I.1.1
  refine LW.al (pc := 244) (j := 2) (i := 2) (q := 1) (by decide +kernel) rfl rfl ?_
  refine LW.arg1 (pc := 245) (i := i) (k := 1) (q0 := 3) (q3 := 0) (n := 1) hL (by omega) rfl rfl (by decide +kernel) (by decide +kernel) (by decide +kernel) rfl (by decide +kernel) (by decide +kernel) ?_
  refine LW.call (pc := 250) (N := mX12_end) (i := 22) (r := 116) (n := 1) (ci := 12) (as := [.int (xs (i + 1))]) (rest := ((v.map (tv G)).toList ++ [])) (by decide +kernel) lmLw_22 oX12_end (Nat.le_of_ble_eq_true rfl) rfl rfl (v_room v) rfl rfl (by simp) ⟨by omega, rfl⟩ ok12 ?_
  refine Call.mono C fun v2 h2 R hle2 => ?_
  obtain ⟨rfl, ⟨z, rfl⟩, j2, I2⟩ := R
  exact LW.same (pc := 253) (off := 1195) (by decide +kernel) rfl (K j2 h2 I2)
theorem lw_c2 {G : GH} {b L : Nat} {xs : Nat → Int32} {i j : Nat} {h : AH} (hL : L ≤ 4096) (hi : i + 8 ≤ L) (I : Inv j h) (K : ∀ j2 h2, Inv j2 h2 → LW G b L xs 1448 (lwl G b i) [] h2) : LW G b L xs 258 (lwl G b i) [] h := by
  refine LW.al (pc := 258) (j := 1) (i := 1) (q := 2) (by decide +kernel) rfl rfl ?_
  refine LW.call (pc := 259) (N := mX11_job) (i := 23) (r := 0) (n := 0) (ci := 11) (as := []) (rest := []) (by decide +kernel) lmLw_23 oX11_job (Nat.le_of_ble_eq_true rfl) rfl rfl (Nat.le_of_ble_eq_true rfl) rfl rfl (by simp) (I.1.o (by decide) rfl) ok11 ?_
  refine Call.mono (pr_job I) fun v h1 C hle => ?_
  have h15 : h.1 = 150 := I.1.1
  refine LW.al (pc := 262) (j := 2) (i := 2) (q := 1) (by decide +kernel) rfl rfl ?_
  refine LW.call (pc := 263) (N := mX12_job) (i := 27) (r := 116) (n := 0) (ci := 12) (as := []) (rest := ((v.map (tv G)).toList ++ [])) (by decide +kernel) lmLw_27 oX12_job (Nat.le_of_ble_eq_true rfl) rfl rfl (v_room v) rfl rfl (by simp) ⟨by omega, rfl⟩ ok12 ?_
  refine Call.mono C fun v2 h2 R hle2 => ?_
  obtain ⟨rfl, ⟨z, rfl⟩, j2, I2⟩ := R
  exact LW.same (pc := 266) (off := 1182) (by decide +kernel) rfl (K j2 h2 I2)
theorem lw_c3 {G : GH} {b L : Nat} {xs : Nat → Int32} {i j : Nat} {h : AH} (hL : L ≤ 4096) (hi : i + 8 ≤ L) (I : Inv j h) (K : ∀ j2 h2, Inv j2 h2 → LW G b L xs 1448 (lwl G b i) [] h2) : LW G b L xs 271 (lwl G b i) [] h := by
  refine LW.al (pc := 271) (j := 1) (i := 1) (q := 2) (by decide +kernel) rfl rfl ?_
  refine LW.arg1 (pc := 272) (i := i) (k := 1) (q0 := 3) (q3 := 0) (n := 1) hL (by omega) rfl rfl (by decide +kernel) (by decide +kernel) (by decide +kernel) rfl (by decide +kernel) (by decide +kernel) ?_
  refine LW.call (pc := 277) (N := mX11_fault) (i := 28) (r := 0) (n := 1) (ci := 11) (as := [.int (xs (i + 1))]) (rest := []) (by decide +kernel) lmLw_28 oX11_fault (Nat.le_of_ble_eq_true rfl) rfl rfl (Nat.le_of_ble_eq_true rfl) rfl rfl (by simp) (I.1.o (by decide) rfl) ok11 ?_
  refine Call.mono (pr_fault I (xs (i + 1))) fun v h1 C hle => ?_
  have h15 : h.1 = 150 := I.1.1
  refine LW.al (pc := 280) (j := 2) (i := 2) (q := 1) (by decide +kernel) rfl rfl ?_
  refine LW.arg1 (pc := 281) (i := i) (k := 1) (q0 := 3) (q3 := 0) (n := 1) hL (by omega) rfl rfl (by decide +kernel) (by decide +kernel) (by decide +kernel) rfl (by decide +kernel) (by decide +kernel) ?_
  refine LW.call (pc := 286) (N := mX12_fault) (i := 31) (r := 116) (n := 1) (ci := 12) (as := [.int (xs (i + 1))]) (rest := ((v.map (tv G)).toList ++ [])) (by decide +kernel) lmLw_31 oX12_fault (Nat.le_of_ble_eq_true rfl) rfl rfl (v_room v) rfl rfl (by simp) ⟨by omega, rfl⟩ ok12 ?_
  refine Call.mono C fun v2 h2 R hle2 => ?_
  obtain ⟨rfl, ⟨z, rfl⟩, j2, I2⟩ := R
  exact LW.same (pc := 289) (off := 1159) (by decide +kernel) rfl (K j2 h2 I2)
theorem lw_c4 {G : GH} {b L : Nat} {xs : Nat → Int32} {i j : Nat} {h : AH} (hL : L ≤ 4096) (hi : i + 8 ≤ L) (I : Inv j h) (K : ∀ j2 h2, Inv j2 h2 → LW G b L xs 1448 (lwl G b i) [] h2) : LW G b L xs 294 (lwl G b i) [] h := by
  refine LW.al (pc := 294) (j := 1) (i := 1) (q := 2) (by decide +kernel) rfl rfl ?_
  refine LW.arg1 (pc := 295) (i := i) (k := 1) (q0 := 3) (q3 := 0) (n := 1) hL (by omega) rfl rfl (by decide +kernel) (by decide +kernel) (by decide +kernel) rfl (by decide +kernel) (by decide +kernel) ?_
  refine LW.call (pc := 300) (N := mX11_told) (i := 32) (r := 0) (n := 1) (ci := 11) (as := [.int (xs (i + 1))]) (rest := []) (by decide +kernel) lmLw_32 oX11_told (Nat.le_of_ble_eq_true rfl) rfl rfl (Nat.le_of_ble_eq_true rfl) rfl rfl (by simp) (I.1.o (by decide) rfl) ok11 ?_
  refine Call.mono (pr_told I (xs (i + 1))) fun v h1 C hle => ?_
  have h15 : h.1 = 150 := I.1.1
  refine LW.al (pc := 303) (j := 2) (i := 2) (q := 1) (by decide +kernel) rfl rfl ?_
  refine LW.arg1 (pc := 304) (i := i) (k := 1) (q0 := 3) (q3 := 0) (n := 1) hL (by omega) rfl rfl (by decide +kernel) (by decide +kernel) (by decide +kernel) rfl (by decide +kernel) (by decide +kernel) ?_
  refine LW.call (pc := 309) (N := mX12_told) (i := 35) (r := 116) (n := 1) (ci := 12) (as := [.int (xs (i + 1))]) (rest := ((v.map (tv G)).toList ++ [])) (by decide +kernel) lmLw_35 oX12_told (Nat.le_of_ble_eq_true rfl) rfl rfl (v_room v) rfl rfl (by simp) ⟨by omega, rfl⟩ ok12 ?_
  refine Call.mono C fun v2 h2 R hle2 => ?_
  obtain ⟨rfl, ⟨z, rfl⟩, j2, I2⟩ := R
  exact LW.same (pc := 312) (off := 1136) (by decide +kernel) rfl (K j2 h2 I2)
theorem lw_c5 {G : GH} {b L : Nat} {xs : Nat → Int32} {i j : Nat} {h : AH} (hL : L ≤ 4096) (hi : i + 8 ≤ L) (I : Inv j h) (K : ∀ j2 h2, Inv j2 h2 → LW G b L xs 1448 (lwl G b i) [] h2) : LW G b L xs 317 (lwl G b i) [] h := by
  refine LW.al (pc := 317) (j := 1) (i := 1) (q := 2) (by decide +kernel) rfl rfl ?_
  refine LW.arg1 (pc := 318) (i := i) (k := 1) (q0 := 3) (q3 := 0) (n := 1) hL (by omega) rfl rfl (by decide +kernel) (by decide +kernel) (by decide +kernel) rfl (by decide +kernel) (by decide +kernel) ?_
  refine LW.arg1 (pc := 323) (i := i) (k := 2) (q0 := 3) (q3 := 0) (n := 2) hL (by omega) rfl rfl (by decide +kernel) (by decide +kernel) (by decide +kernel) rfl (by decide +kernel) (by decide +kernel) ?_
  refine LW.arg1 (pc := 328) (i := i) (k := 3) (q0 := 3) (q3 := 0) (n := 3) hL (by omega) rfl rfl (by decide +kernel) (by decide +kernel) (by decide +kernel) rfl (by decide +kernel) (by decide +kernel) ?_
  refine LW.call (pc := 333) (N := mX11_screw) (i := 36) (r := 0) (n := 3) (ci := 11) (as := [.int (xs (i + 1)), .int (xs (i + 2)), .int (xs (i + 3))]) (rest := []) (by decide +kernel) lmLw_36 oX11_screw (Nat.le_of_ble_eq_true rfl) rfl rfl (Nat.le_of_ble_eq_true rfl) rfl rfl (by simp) (I.1.o (by decide) rfl) ok11 ?_
  refine Call.mono (pr_screw I (xs (i + 1)) (xs (i + 2)) (xs (i + 3))) fun v h1 C hle => ?_
  have h15 : h.1 = 150 := I.1.1
  refine LW.al (pc := 336) (j := 2) (i := 2) (q := 1) (by decide +kernel) rfl rfl ?_
  refine LW.arg1 (pc := 337) (i := i) (k := 1) (q0 := 3) (q3 := 0) (n := 1) hL (by omega) rfl rfl (by decide +kernel) (by decide +kernel) (by decide +kernel) rfl (by decide +kernel) (by decide +kernel) ?_
  refine LW.arg1 (pc := 342) (i := i) (k := 2) (q0 := 3) (q3 := 0) (n := 2) hL (by omega) rfl rfl (by decide +kernel) (by decide +kernel) (by decide +kernel) rfl (by decide +kernel) (by decide +kernel) ?_
  refine LW.arg1 (pc := 347) (i := i) (k := 3) (q0 := 3) (q3 := 0) (n := 3) hL (by omega) rfl rfl (by decide +kernel) (by decide +kernel) (by decide +kernel) rfl (by decide +kernel) (by decide +kernel) ?_
  refine LW.call (pc := 352) (N := mX12_screw) (i := 40) (r := 116) (n := 3) (ci := 12) (as := [.int (xs (i + 1)), .int (xs (i + 2)), .int (xs (i + 3))]) (rest := ((v.map (tv G)).toList ++ [])) (by decide +kernel) lmLw_40 oX12_screw (Nat.le_of_ble_eq_true rfl) rfl rfl (v_room v) rfl rfl (by simp) ⟨by omega, rfl⟩ ok12 ?_
  refine Call.mono C fun v2 h2 R hle2 => ?_
  obtain ⟨rfl, ⟨z, rfl⟩, j2, I2⟩ := R
  exact LW.same (pc := 355) (off := 1093) (by decide +kernel) rfl (K j2 h2 I2)
