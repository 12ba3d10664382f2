/-! THE LAW'S CASES, printed by wip/whole/gen/law.py -/
theorem lw_c14 {G : GH} {b L : Nat} {xs : Nat → Int32} {i j : Nat} {h : AH} (hL : L ≤ 4096) (hi : i + 8 ≤ L) (I : Inv j h) (K : ∀ j2 h2, Inv j2 h2 → LW G b L xs 1448 (lwl G b i) [] h2) : LW G b L xs 758 (lwl G b i) [] h := by
  refine LW.al (pc := 758) (j := 1) (i := 1) (q := 2) (by decide +kernel) rfl rfl ?_
  refine LW.arg1 (pc := 759) (i := i) (k := 1) (q0 := 3) (q3 := 0) (n := 1) hL (by omega) rfl rfl (by decide +kernel) (by decide +kernel) (by decide +kernel) rfl (by decide +kernel) (by decide +kernel) ?_
  refine LW.arg1 (pc := 764) (i := i) (k := 2) (q0 := 3) (q3 := 0) (n := 2) hL (by omega) rfl rfl (by decide +kernel) (by decide +kernel) (by decide +kernel) rfl (by decide +kernel) (by decide +kernel) ?_
  refine LW.arg1 (pc := 769) (i := i) (k := 3) (q0 := 3) (q3 := 0) (n := 3) hL (by omega) rfl rfl (by decide +kernel) (by decide +kernel) (by decide +kernel) rfl (by decide +kernel) (by decide +kernel) ?_
  refine LW.call (pc := 774) (N := mX11_shape) (i := 76) (r := 0) (n := 3) (ci := 11) (as := [.int (xs (i + 1)), .int (xs (i + 2)), .int (xs (i + 3))]) (rest := []) (by decide +kernel) lmLw_76 oX11_shape (Nat.le_of_ble_eq_true rfl) rfl rfl (Nat.le_of_ble_eq_true rfl) rfl rfl (by simp) (I.1.o (by decide) rfl) ok11 ?_
  refine Call.mono (pr_shape I (xs (i + 1)) (xs (i + 2)) (xs (i + 3))) fun v h1 C hle => ?_
  have h15 : h.1 = 150 := I.1.1
  refine LW.al (pc := 777) (j := 2) (i := 2) (q := 1) (by decide +kernel) rfl rfl ?_
  refine LW.arg1 (pc := 778) (i := i) (k := 1) (q0 := 3) (q3 := 0) (n := 1) hL (by omega) rfl rfl (by decide +kernel) (by decide +kernel) (by decide +kernel) rfl (by decide +kernel) (by decide +kernel) ?_
  refine LW.arg1 (pc := 783) (i := i) (k := 2) (q0 := 3) (q3 := 0) (n := 2) hL (by omega) rfl rfl (by decide +kernel) (by decide +kernel) (by decide +kernel) rfl (by decide +kernel) (by decide +kernel) ?_
  refine LW.arg1 (pc := 788) (i := i) (k := 3) (q0 := 3) (q3 := 0) (n := 3) hL (by omega) rfl rfl (by decide +kernel) (by decide +kernel) (by decide +kernel) rfl (by decide +kernel) (by decide +kernel) ?_
  refine LW.call (pc := 793) (N := mX12_shape) (i := 79) (r := 116) (n := 3) (ci := 12) (as := [.int (xs (i + 1)), .int (xs (i + 2)), .int (xs (i + 3))]) (rest := ((v.map (tv G)).toList ++ [])) (by decide +kernel) lmLw_79 oX12_shape (Nat.le_of_ble_eq_true rfl) rfl rfl (v_room v) rfl rfl (by simp) ⟨by omega, rfl⟩ ok12 ?_
  refine Call.mono C fun v2 h2 R hle2 => ?_
  obtain ⟨rfl, ⟨z, rfl⟩, j2, I2⟩ := R
  exact LW.same (pc := 796) (off := 652) (by decide +kernel) rfl (K j2 h2 I2)
theorem lw_c15 {G : GH} {b L : Nat} {xs : Nat → Int32} {i j : Nat} {h : AH} (hL : L ≤ 4096) (hi : i + 8 ≤ L) (I : Inv j h) (K : ∀ j2 h2, Inv j2 h2 → LW G b L xs 1448 (lwl G b i) [] h2) : LW G b L xs 801 (lwl G b i) [] h := by
  refine LW.al (pc := 801) (j := 1) (i := 1) (q := 2) (by decide +kernel) rfl rfl ?_
  refine LW.arg1 (pc := 802) (i := i) (k := 1) (q0 := 3) (q3 := 0) (n := 1) hL (by omega) rfl rfl (by decide +kernel) (by decide +kernel) (by decide +kernel) rfl (by decide +kernel) (by decide +kernel) ?_
  refine LW.arg1 (pc := 807) (i := i) (k := 2) (q0 := 3) (q3 := 0) (n := 2) hL (by omega) rfl rfl (by decide +kernel) (by decide +kernel) (by decide +kernel) rfl (by decide +kernel) (by decide +kernel) ?_
  refine LW.arg1 (pc := 812) (i := i) (k := 3) (q0 := 3) (q3 := 0) (n := 3) hL (by omega) rfl rfl (by decide +kernel) (by decide +kernel) (by decide +kernel) rfl (by decide +kernel) (by decide +kernel) ?_
  refine LW.arg1 (pc := 817) (i := i) (k := 4) (q0 := 3) (q3 := 0) (n := 4) hL (by omega) rfl rfl (by decide +kernel) (by decide +kernel) (by decide +kernel) rfl (by decide +kernel) (by decide +kernel) ?_
  refine LW.arg1 (pc := 822) (i := i) (k := 5) (q0 := 3) (q3 := 0) (n := 5) hL (by omega) rfl rfl (by decide +kernel) (by decide +kernel) (by decide +kernel) rfl (by decide +kernel) (by decide +kernel) ?_
  refine LW.arg2 (pc := 827) (i := i) (k := 6) (q0 := 3) (q3 := 0) (n := 6) hL (by omega) rfl rfl (by decide +kernel) (by decide +kernel) (by decide +kernel) rfl (by decide +kernel) (by decide +kernel) ?_
  refine LW.arg2 (pc := 833) (i := i) (k := 7) (q0 := 3) (q3 := 0) (n := 7) hL (by omega) rfl rfl (by decide +kernel) (by decide +kernel) (by decide +kernel) rfl (by decide +kernel) (by decide +kernel) ?_
  refine LW.call (pc := 839) (N := mX11_seen) (i := 80) (r := 0) (n := 7) (ci := 11) (as := [.int (xs (i + 1)), .int (xs (i + 2)), .int (xs (i + 3)), .int (xs (i + 4)), .int (xs (i + 5)), .int (xs (i + 6)), .int (xs (i + 7))]) (rest := []) (by decide +kernel) lmLw_80 oX11_seen (Nat.le_of_ble_eq_true rfl) rfl rfl (Nat.le_of_ble_eq_true rfl) rfl rfl (by simp) (I.1.o (by decide) rfl) ok11 ?_
  refine Call.mono (pr_seen I (xs (i + 1)) (xs (i + 2)) (xs (i + 3)) (xs (i + 4)) (xs (i + 5)) (xs (i + 6)) (xs (i + 7))) fun v h1 C hle => ?_
  have h15 : h.1 = 150 := I.1.1
  refine LW.al (pc := 842) (j := 2) (i := 2) (q := 1) (by decide +kernel) rfl rfl ?_
  refine LW.arg1 (pc := 843) (i := i) (k := 1) (q0 := 3) (q3 := 0) (n := 1) hL (by omega) rfl rfl (by decide +kernel) (by decide +kernel) (by decide +kernel) rfl (by decide +kernel) (by decide +kernel) ?_
  refine LW.arg1 (pc := 848) (i := i) (k := 2) (q0 := 3) (q3 := 0) (n := 2) hL (by omega) rfl rfl (by decide +kernel) (by decide +kernel) (by decide +kernel) rfl (by decide +kernel) (by decide +kernel) ?_
  refine LW.arg1 (pc := 853) (i := i) (k := 3) (q0 := 3) (q3 := 0) (n := 3) hL (by omega) rfl rfl (by decide +kernel) (by decide +kernel) (by decide +kernel) rfl (by decide +kernel) (by decide +kernel) ?_
  refine LW.arg1 (pc := 858) (i := i) (k := 4) (q0 := 3) (q3 := 0) (n := 4) hL (by omega) rfl rfl (by decide +kernel) (by decide +kernel) (by decide +kernel) rfl (by decide +kernel) (by decide +kernel) ?_
  refine LW.arg1 (pc := 863) (i := i) (k := 5) (q0 := 3) (q3 := 0) (n := 5) hL (by omega) rfl rfl (by decide +kernel) (by decide +kernel) (by decide +kernel) rfl (by decide +kernel) (by decide +kernel) ?_
  refine LW.arg2 (pc := 868) (i := i) (k := 6) (q0 := 3) (q3 := 0) (n := 6) hL (by omega) rfl rfl (by decide +kernel) (by decide +kernel) (by decide +kernel) rfl (by decide +kernel) (by decide +kernel) ?_
  refine LW.arg2 (pc := 874) (i := i) (k := 7) (q0 := 3) (q3 := 0) (n := 7) hL (by omega) rfl rfl (by decide +kernel) (by decide +kernel) (by decide +kernel) rfl (by decide +kernel) (by decide +kernel) ?_
  refine LW.call (pc := 880) (N := mX12_seen) (i := 83) (r := 116) (n := 7) (ci := 12) (as := [.int (xs (i + 1)), .int (xs (i + 2)), .int (xs (i + 3)), .int (xs (i + 4)), .int (xs (i + 5)), .int (xs (i + 6)), .int (xs (i + 7))]) (rest := ((v.map (tv G)).toList ++ [])) (by decide +kernel) lmLw_83 oX12_seen (Nat.le_of_ble_eq_true rfl) rfl rfl (v_room v) rfl rfl (by simp) ⟨by omega, rfl⟩ ok12 ?_
  refine Call.mono C fun v2 h2 R hle2 => ?_
  obtain ⟨rfl, ⟨z, rfl⟩, j2, I2⟩ := R
  exact LW.same (pc := 883) (off := 565) (by decide +kernel) rfl (K j2 h2 I2)
theorem lw_c16 {G : GH} {b L : Nat} {xs : Nat → Int32} {i j : Nat} {h : AH} (hL : L ≤ 4096) (hi : i + 8 ≤ L) (I : Inv j h) (K : ∀ j2 h2, Inv j2 h2 → LW G b L xs 1448 (lwl G b i) [] h2) : LW G b L xs 888 (lwl G b i) [] h := by
  refine LW.al (pc := 888) (j := 1) (i := 1) (q := 2) (by decide +kernel) rfl rfl ?_
  refine LW.arg1 (pc := 889) (i := i) (k := 1) (q0 := 3) (q3 := 0) (n := 1) hL (by omega) rfl rfl (by decide +kernel) (by decide +kernel) (by decide +kernel) rfl (by decide +kernel) (by decide +kernel) ?_
  refine LW.arg1 (pc := 894) (i := i) (k := 2) (q0 := 3) (q3 := 0) (n := 2) hL (by omega) rfl rfl (by decide +kernel) (by decide +kernel) (by decide +kernel) rfl (by decide +kernel) (by decide +kernel) ?_
  refine LW.arg1 (pc := 899) (i := i) (k := 3) (q0 := 3) (q3 := 0) (n := 3) hL (by omega) rfl rfl (by decide +kernel) (by decide +kernel) (by decide +kernel) rfl (by decide +kernel) (by decide +kernel) ?_
  refine LW.arg1 (pc := 904) (i := i) (k := 4) (q0 := 3) (q3 := 0) (n := 4) hL (by omega) rfl rfl (by decide +kernel) (by decide +kernel) (by decide +kernel) rfl (by decide +kernel) (by decide +kernel) ?_
  refine LW.arg1 (pc := 909) (i := i) (k := 5) (q0 := 3) (q3 := 0) (n := 5) hL (by omega) rfl rfl (by decide +kernel) (by decide +kernel) (by decide +kernel) rfl (by decide +kernel) (by decide +kernel) ?_
  refine LW.call (pc := 914) (N := mX11_worst) (i := 84) (r := 0) (n := 5) (ci := 11) (as := [.int (xs (i + 1)), .int (xs (i + 2)), .int (xs (i + 3)), .int (xs (i + 4)), .int (xs (i + 5))]) (rest := []) (by decide +kernel) lmLw_84 oX11_worst (Nat.le_of_ble_eq_true rfl) rfl rfl (Nat.le_of_ble_eq_true rfl) rfl rfl (by simp) (I.1.o (by decide) rfl) ok11 ?_
  refine Call.mono (pr_worst I (xs (i + 1)) (xs (i + 2)) (xs (i + 3)) (xs (i + 4)) (xs (i + 5))) fun v h1 C hle => ?_
  have h15 : h.1 = 150 := I.1.1
  refine LW.al (pc := 917) (j := 2) (i := 2) (q := 1) (by decide +kernel) rfl rfl ?_
  refine LW.arg1 (pc := 918) (i := i) (k := 1) (q0 := 3) (q3 := 0) (n := 1) hL (by omega) rfl rfl (by decide +kernel) (by decide +kernel) (by decide +kernel) rfl (by decide +kernel) (by decide +kernel) ?_
  refine LW.arg1 (pc := 923) (i := i) (k := 2) (q0 := 3) (q3 := 0) (n := 2) hL (by omega) rfl rfl (by decide +kernel) (by decide +kernel) (by decide +kernel) rfl (by decide +kernel) (by decide +kernel) ?_
  refine LW.arg1 (pc := 928) (i := i) (k := 3) (q0 := 3) (q3 := 0) (n := 3) hL (by omega) rfl rfl (by decide +kernel) (by decide +kernel) (by decide +kernel) rfl (by decide +kernel) (by decide +kernel) ?_
  refine LW.arg1 (pc := 933) (i := i) (k := 4) (q0 := 3) (q3 := 0) (n := 4) hL (by omega) rfl rfl (by decide +kernel) (by decide +kernel) (by decide +kernel) rfl (by decide +kernel) (by decide +kernel) ?_
  refine LW.arg1 (pc := 938) (i := i) (k := 5) (q0 := 3) (q3 := 0) (n := 5) hL (by omega) rfl rfl (by decide +kernel) (by decide +kernel) (by decide +kernel) rfl (by decide +kernel) (by decide +kernel) ?_
  refine LW.call (pc := 943) (N := mX12_worst) (i := 87) (r := 116) (n := 5) (ci := 12) (as := [.int (xs (i + 1)), .int (xs (i + 2)), .int (xs (i + 3)), .int (xs (i + 4)), .int (xs (i + 5))]) (rest := ((v.map (tv G)).toList ++ [])) (by decide +kernel) lmLw_87 oX12_worst (Nat.le_of_ble_eq_true rfl) rfl rfl (v_room v) rfl rfl (by simp) ⟨by omega, rfl⟩ ok12 ?_
  refine Call.mono C fun v2 h2 R hle2 => ?_
  obtain ⟨rfl, ⟨z, rfl⟩, j2, I2⟩ := R
  exact LW.same (pc := 946) (off := 502) (by decide +kernel) rfl (K j2 h2 I2)
