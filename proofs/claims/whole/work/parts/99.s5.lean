/-! THE LAW'S CASES, printed by wip/whole/gen/law.py -/
theorem lw_c9 {G : GH} {b L : Nat} {xs : Nat → Int32} {i j : Nat} {h : AH} (hL : L ≤ 4096) (hi : i + 8 ≤ L) (I : Inv j h) (K : ∀ j2 h2, Inv j2 h2 → LW G b L xs 1448 (lwl G b i) [] h2) : LW G b L xs 563 (lwl G b i) [] h := by
  refine LW.al (pc := 563) (j := 1) (i := 1) (q := 2) (by decide +kernel) rfl rfl ?_
  refine LW.arg1 (pc := 564) (i := i) (k := 1) (q0 := 3) (q3 := 0) (n := 1) hL (by omega) rfl rfl (by decide +kernel) (by decide +kernel) (by decide +kernel) rfl (by decide +kernel) (by decide +kernel) ?_
  refine LW.arg1 (pc := 569) (i := i) (k := 2) (q0 := 3) (q3 := 0) (n := 2) hL (by omega) rfl rfl (by decide +kernel) (by decide +kernel) (by decide +kernel) rfl (by decide +kernel) (by decide +kernel) ?_
  refine LW.arg1 (pc := 574) (i := i) (k := 3) (q0 := 3) (q3 := 0) (n := 3) hL (by omega) rfl rfl (by decide +kernel) (by decide +kernel) (by decide +kernel) rfl (by decide +kernel) (by decide +kernel) ?_
  refine LW.call (pc := 579) (N := mX11_fit) (i := 55) (r := 0) (n := 3) (ci := 11) (as := [.int (xs (i + 1)), .int (xs (i + 2)), .int (xs (i + 3))]) (rest := []) (by decide +kernel) lmLw_55 oX11_fit (Nat.le_of_ble_eq_true rfl) rfl rfl (Nat.le_of_ble_eq_true rfl) rfl rfl (by simp) (I.1.o (by decide) rfl) ok11 ?_
  refine Call.mono (pr_fit I (xs (i + 1)) (xs (i + 2)) (xs (i + 3))) fun v h1 C hle => ?_
  have h15 : h.1 = 150 := I.1.1
  refine LW.al (pc := 582) (j := 2) (i := 2) (q := 1) (by decide +kernel) rfl rfl ?_
  refine LW.arg1 (pc := 583) (i := i) (k := 1) (q0 := 3) (q3 := 0) (n := 1) hL (by omega) rfl rfl (by decide +kernel) (by decide +kernel) (by decide +kernel) rfl (by decide +kernel) (by decide +kernel) ?_
  refine LW.arg1 (pc := 588) (i := i) (k := 2) (q0 := 3) (q3 := 0) (n := 2) hL (by omega) rfl rfl (by decide +kernel) (by decide +kernel) (by decide +kernel) rfl (by decide +kernel) (by decide +kernel) ?_
  refine LW.arg1 (pc := 593) (i := i) (k := 3) (q0 := 3) (q3 := 0) (n := 3) hL (by omega) rfl rfl (by decide +kernel) (by decide +kernel) (by decide +kernel) rfl (by decide +kernel) (by decide +kernel) ?_
  refine LW.call (pc := 598) (N := mX12_fit) (i := 58) (r := 116) (n := 3) (ci := 12) (as := [.int (xs (i + 1)), .int (xs (i + 2)), .int (xs (i + 3))]) (rest := ((v.map (tv G)).toList ++ [])) (by decide +kernel) lmLw_58 oX12_fit (Nat.le_of_ble_eq_true rfl) rfl rfl (v_room v) rfl rfl (by simp) ⟨by omega, rfl⟩ ok12 ?_
  refine Call.mono C fun v2 h2 R hle2 => ?_
  obtain ⟨rfl, ⟨z, rfl⟩, j2, I2⟩ := R
  exact LW.same (pc := 601) (off := 847) (by decide +kernel) rfl (K j2 h2 I2)
theorem lw_c10 {G : GH} {b L : Nat} {xs : Nat → Int32} {i j : Nat} {h : AH} (hL : L ≤ 4096) (hi : i + 8 ≤ L) (I : Inv j h) (K : ∀ j2 h2, Inv j2 h2 → LW G b L xs 1448 (lwl G b i) [] h2) : LW G b L xs 606 (lwl G b i) [] h := by
  refine LW.al (pc := 606) (j := 1) (i := 1) (q := 2) (by decide +kernel) rfl rfl ?_
  refine LW.arg1 (pc := 607) (i := i) (k := 1) (q0 := 3) (q3 := 0) (n := 1) hL (by omega) rfl rfl (by decide +kernel) (by decide +kernel) (by decide +kernel) rfl (by decide +kernel) (by decide +kernel) ?_
  refine LW.arg1 (pc := 612) (i := i) (k := 2) (q0 := 3) (q3 := 0) (n := 2) hL (by omega) rfl rfl (by decide +kernel) (by decide +kernel) (by decide +kernel) rfl (by decide +kernel) (by decide +kernel) ?_
  refine LW.call (pc := 617) (N := mX11_sure) (i := 59) (r := 0) (n := 2) (ci := 11) (as := [.int (xs (i + 1)), .int (xs (i + 2))]) (rest := []) (by decide +kernel) lmLw_59 oX11_sure (Nat.le_of_ble_eq_true rfl) rfl rfl (Nat.le_of_ble_eq_true rfl) rfl rfl (by simp) (I.1.o (by decide) rfl) ok11 ?_
  refine Call.mono (pr_sure I (xs (i + 1)) (xs (i + 2))) fun v h1 C hle => ?_
  have h15 : h.1 = 150 := I.1.1
  refine LW.al (pc := 620) (j := 2) (i := 2) (q := 1) (by decide +kernel) rfl rfl ?_
  refine LW.arg1 (pc := 621) (i := i) (k := 1) (q0 := 3) (q3 := 0) (n := 1) hL (by omega) rfl rfl (by decide +kernel) (by decide +kernel) (by decide +kernel) rfl (by decide +kernel) (by decide +kernel) ?_
  refine LW.arg1 (pc := 626) (i := i) (k := 2) (q0 := 3) (q3 := 0) (n := 2) hL (by omega) rfl rfl (by decide +kernel) (by decide +kernel) (by decide +kernel) rfl (by decide +kernel) (by decide +kernel) ?_
  refine LW.call (pc := 631) (N := mX12_sure) (i := 63) (r := 116) (n := 2) (ci := 12) (as := [.int (xs (i + 1)), .int (xs (i + 2))]) (rest := ((v.map (tv G)).toList ++ [])) (by decide +kernel) lmLw_63 oX12_sure (Nat.le_of_ble_eq_true rfl) rfl rfl (v_room v) rfl rfl (by simp) ⟨by omega, rfl⟩ ok12 ?_
  refine Call.mono C fun v2 h2 R hle2 => ?_
  obtain ⟨rfl, ⟨z, rfl⟩, j2, I2⟩ := R
  exact LW.same (pc := 634) (off := 814) (by decide +kernel) rfl (K j2 h2 I2)
theorem lw_c11 {G : GH} {b L : Nat} {xs : Nat → Int32} {i j : Nat} {h : AH} (hL : L ≤ 4096) (hi : i + 8 ≤ L) (I : Inv j h) (K : ∀ j2 h2, Inv j2 h2 → LW G b L xs 1448 (lwl G b i) [] h2) : LW G b L xs 639 (lwl G b i) [] h := by
  refine LW.al (pc := 639) (j := 1) (i := 1) (q := 2) (by decide +kernel) rfl rfl ?_
  refine LW.arg1 (pc := 640) (i := i) (k := 1) (q0 := 3) (q3 := 0) (n := 1) hL (by omega) rfl rfl (by decide +kernel) (by decide +kernel) (by decide +kernel) rfl (by decide +kernel) (by decide +kernel) ?_
  refine LW.arg1 (pc := 645) (i := i) (k := 2) (q0 := 3) (q3 := 0) (n := 2) hL (by omega) rfl rfl (by decide +kernel) (by decide +kernel) (by decide +kernel) rfl (by decide +kernel) (by decide +kernel) ?_
  refine LW.arg1 (pc := 650) (i := i) (k := 3) (q0 := 3) (q3 := 0) (n := 3) hL (by omega) rfl rfl (by decide +kernel) (by decide +kernel) (by decide +kernel) rfl (by decide +kernel) (by decide +kernel) ?_
  refine LW.arg1 (pc := 655) (i := i) (k := 4) (q0 := 3) (q3 := 0) (n := 4) hL (by omega) rfl rfl (by decide +kernel) (by decide +kernel) (by decide +kernel) rfl (by decide +kernel) (by decide +kernel) ?_
  refine LW.arg1 (pc := 660) (i := i) (k := 5) (q0 := 3) (q3 := 0) (n := 5) hL (by omega) rfl rfl (by decide +kernel) (by decide +kernel) (by decide +kernel) rfl (by decide +kernel) (by decide +kernel) ?_
  refine LW.call (pc := 665) (N := mX11_mend) (i := 64) (r := 0) (n := 5) (ci := 11) (as := [.int (xs (i + 1)), .int (xs (i + 2)), .int (xs (i + 3)), .int (xs (i + 4)), .int (xs (i + 5))]) (rest := []) (by decide +kernel) lmLw_64 oX11_mend (Nat.le_of_ble_eq_true rfl) rfl rfl (Nat.le_of_ble_eq_true rfl) rfl rfl (by simp) (I.1.o (by decide) rfl) ok11 ?_
  refine Call.mono (pr_mend I (xs (i + 1)) (xs (i + 2)) (xs (i + 3)) (xs (i + 4)) (xs (i + 5))) fun v h1 C hle => ?_
  have h15 : h.1 = 150 := I.1.1
  refine LW.al (pc := 668) (j := 2) (i := 2) (q := 1) (by decide +kernel) rfl rfl ?_
  refine LW.arg1 (pc := 669) (i := i) (k := 1) (q0 := 3) (q3 := 0) (n := 1) hL (by omega) rfl rfl (by decide +kernel) (by decide +kernel) (by decide +kernel) rfl (by decide +kernel) (by decide +kernel) ?_
  refine LW.arg1 (pc := 674) (i := i) (k := 2) (q0 := 3) (q3 := 0) (n := 2) hL (by omega) rfl rfl (by decide +kernel) (by decide +kernel) (by decide +kernel) rfl (by decide +kernel) (by decide +kernel) ?_
  refine LW.arg1 (pc := 679) (i := i) (k := 3) (q0 := 3) (q3 := 0) (n := 3) hL (by omega) rfl rfl (by decide +kernel) (by decide +kernel) (by decide +kernel) rfl (by decide +kernel) (by decide +kernel) ?_
  refine LW.arg1 (pc := 684) (i := i) (k := 4) (q0 := 3) (q3 := 0) (n := 4) hL (by omega) rfl rfl (by decide +kernel) (by decide +kernel) (by decide +kernel) rfl (by decide +kernel) (by decide +kernel) ?_
  refine LW.arg1 (pc := 689) (i := i) (k := 5) (q0 := 3) (q3 := 0) (n := 5) hL (by omega) rfl rfl (by decide +kernel) (by decide +kernel) (by decide +kernel) rfl (by decide +kernel) (by decide +kernel) ?_
  refine LW.call (pc := 694) (N := mX12_mend) (i := 67) (r := 116) (n := 5) (ci := 12) (as := [.int (xs (i + 1)), .int (xs (i + 2)), .int (xs (i + 3)), .int (xs (i + 4)), .int (xs (i + 5))]) (rest := ((v.map (tv G)).toList ++ [])) (by decide +kernel) lmLw_67 oX12_mend (Nat.le_of_ble_eq_true rfl) rfl rfl (v_room v) rfl rfl (by simp) ⟨by omega, rfl⟩ ok12 ?_
  refine Call.mono C fun v2 h2 R hle2 => ?_
  obtain ⟨rfl, ⟨z, rfl⟩, j2, I2⟩ := R
  exact LW.same (pc := 697) (off := 751) (by decide +kernel) rfl (K j2 h2 I2)
theorem lw_c12 {G : GH} {b L : Nat} {xs : Nat → Int32} {i j : Nat} {h : AH} (hL : L ≤ 4096) (hi : i + 8 ≤ L) (I : Inv j h) (K : ∀ j2 h2, Inv j2 h2 → LW G b L xs 1448 (lwl G b i) [] h2) : LW G b L xs 702 (lwl G b i) [] h := by
  refine LW.al (pc := 702) (j := 1) (i := 1) (q := 2) (by decide +kernel) rfl rfl ?_
  refine LW.arg1 (pc := 703) (i := i) (k := 1) (q0 := 3) (q3 := 0) (n := 1) hL (by omega) rfl rfl (by decide +kernel) (by decide +kernel) (by decide +kernel) rfl (by decide +kernel) (by decide +kernel) ?_
  refine LW.call (pc := 708) (N := mX11_turned) (i := 68) (r := 0) (n := 1) (ci := 11) (as := [.int (xs (i + 1))]) (rest := []) (by decide +kernel) lmLw_68 oX11_turned (Nat.le_of_ble_eq_true rfl) rfl rfl (Nat.le_of_ble_eq_true rfl) rfl rfl (by simp) (I.1.o (by decide) rfl) ok11 ?_
  refine Call.mono (pr_turned I (xs (i + 1))) fun v h1 C hle => ?_
  have h15 : h.1 = 150 := I.1.1
  refine LW.al (pc := 711) (j := 2) (i := 2) (q := 1) (by decide +kernel) rfl rfl ?_
  refine LW.arg1 (pc := 712) (i := i) (k := 1) (q0 := 3) (q3 := 0) (n := 1) hL (by omega) rfl rfl (by decide +kernel) (by decide +kernel) (by decide +kernel) rfl (by decide +kernel) (by decide +kernel) ?_
  refine LW.call (pc := 717) (N := mX12_turned) (i := 71) (r := 116) (n := 1) (ci := 12) (as := [.int (xs (i + 1))]) (rest := ((v.map (tv G)).toList ++ [])) (by decide +kernel) lmLw_71 oX12_turned (Nat.le_of_ble_eq_true rfl) rfl rfl (v_room v) rfl rfl (by simp) ⟨by omega, rfl⟩ ok12 ?_
  refine Call.mono C fun v2 h2 R hle2 => ?_
  obtain ⟨rfl, ⟨z, rfl⟩, j2, I2⟩ := R
  exact LW.same (pc := 720) (off := 728) (by decide +kernel) rfl (K j2 h2 I2)
theorem lw_c13 {G : GH} {b L : Nat} {xs : Nat → Int32} {i j : Nat} {h : AH} (hL : L ≤ 4096) (hi : i + 8 ≤ L) (I : Inv j h) (K : ∀ j2 h2, Inv j2 h2 → LW G b L xs 1448 (lwl G b i) [] h2) : LW G b L xs 725 (lwl G b i) [] h := by
  refine LW.al (pc := 725) (j := 1) (i := 1) (q := 2) (by decide +kernel) rfl rfl ?_
  refine LW.arg1 (pc := 726) (i := i) (k := 1) (q0 := 3) (q3 := 0) (n := 1) hL (by omega) rfl rfl (by decide +kernel) (by decide +kernel) (by decide +kernel) rfl (by decide +kernel) (by decide +kernel) ?_
  refine LW.arg1 (pc := 731) (i := i) (k := 2) (q0 := 3) (q3 := 0) (n := 2) hL (by omega) rfl rfl (by decide +kernel) (by decide +kernel) (by decide +kernel) rfl (by decide +kernel) (by decide +kernel) ?_
  refine LW.call (pc := 736) (N := mX11_pulled) (i := 72) (r := 0) (n := 2) (ci := 11) (as := [.int (xs (i + 1)), .int (xs (i + 2))]) (rest := []) (by decide +kernel) lmLw_72 oX11_pulled (Nat.le_of_ble_eq_true rfl) rfl rfl (Nat.le_of_ble_eq_true rfl) rfl rfl (by simp) (I.1.o (by decide) rfl) ok11 ?_
  refine Call.mono (pr_pulled I (xs (i + 1)) (xs (i + 2))) fun v h1 C hle => ?_
  have h15 : h.1 = 150 := I.1.1
  refine LW.al (pc := 739) (j := 2) (i := 2) (q := 1) (by decide +kernel) rfl rfl ?_
  refine LW.arg1 (pc := 740) (i := i) (k := 1) (q0 := 3) (q3 := 0) (n := 1) hL (by omega) rfl rfl (by decide +kernel) (by decide +kernel) (by decide +kernel) rfl (by decide +kernel) (by decide +kernel) ?_
  refine LW.arg1 (pc := 745) (i := i) (k := 2) (q0 := 3) (q3 := 0) (n := 2) hL (by omega) rfl rfl (by decide +kernel) (by decide +kernel) (by decide +kernel) rfl (by decide +kernel) (by decide +kernel) ?_
  refine LW.call (pc := 750) (N := mX12_pulled) (i := 75) (r := 116) (n := 2) (ci := 12) (as := [.int (xs (i + 1)), .int (xs (i + 2))]) (rest := ((v.map (tv G)).toList ++ [])) (by decide +kernel) lmLw_75 oX12_pulled (Nat.le_of_ble_eq_true rfl) rfl rfl (v_room v) rfl rfl (by simp) ⟨by omega, rfl⟩ ok12 ?_
  refine Call.mono C fun v2 h2 R hle2 => ?_
  obtain ⟨rfl, ⟨z, rfl⟩, j2, I2⟩ := R
  exact LW.same (pc := 753) (off := 695) (by decide +kernel) rfl (K j2 h2 I2)
