/-! THE LAW'S LOOP -/
theorem an_31 (x : Int32) : ∃ n, n < 32 ∧ x &&& 31 = nI n := by
  refine ⟨(x &&& 31).toBitVec.toNat, ?_, ?_⟩
  · rw [Int32.toBitVec_and, BitVec.toNat_and]
    exact Nat.lt_of_le_of_lt Nat.and_le_right (by decide)
  · apply Int32.toBitVec_inj.mp
    show _ = (Int32.ofNat _).toBitVec
    rw [Int32.toBitVec_ofNat', BitVec.ofNat_toNat, BitVec.setWidth_eq]
theorem lw_up {i L : Nat} (hL : L ≤ 4096) (hi : i ≤ 4104) (q : ¬ nI L - 8 < nI i) : i + 8 ≤ L := by
  rw [iI_nI, iI_nI, show (8 : Int32) = iI 8 from rfl, iI_sub, iI_lt (by omega) (by omega) (by omega) (by omega)] at q
  omega
theorem lw_case {G : GH} {b L : Nat} {xs : Nat → Int32} {i j : Nat} {h : AH} (hL : L ≤ 4096) (hi : i + 8 ≤ L) (I : Inv j h) (K : ∀ j2 h2, Inv j2 h2 → LW G b L xs 1448 (lwl G b i) [] h2) {n : Nat} (hn : n < 32) : LW G b L xs 33 (lwl G b i) [.int (nI n)] h := by
  have hd : decode code 33 = .ok (.tableswitch 1415 0 30 #[139, 202, 225, 238, 261, 284, 327, 414, 477, 530, 573, 606, 669, 692, 725, 768, 855, 918, 961, 984, 997, 1050, 1073, 1149, 1224, 1267, 1290, 1323, 1346, 1369, 1392], 139) := by decide +kernel
  rcases (show n = 0 ∨ n = 1 ∨ n = 2 ∨ n = 3 ∨ n = 4 ∨ n = 5 ∨ n = 6 ∨ n = 7 ∨ n = 8 ∨ n = 9 ∨ n = 10 ∨ n = 11 ∨ n = 12 ∨ n = 13 ∨ n = 14 ∨ n = 15 ∨ n = 16 ∨ n = 17 ∨ n = 18 ∨ n = 19 ∨ n = 20 ∨ n = 21 ∨ n = 22 ∨ n = 23 ∨ n = 24 ∨ n = 25 ∨ n = 26 ∨ n = 27 ∨ n = 28 ∨ n = 29 ∨ n = 30 ∨ n = 31 by omega) with rfl | rfl | rfl | rfl | rfl | rfl | rfl | rfl | rfl | rfl | rfl | rfl | rfl | rfl | rfl | rfl | rfl | rfl | rfl | rfl | rfl | rfl | rfl | rfl | rfl | rfl | rfl | rfl | rfl | rfl | rfl | rfl
  · exact LW.sw (off := 139) (tgt := 172) hd (by decide) (by decide) rfl rfl (lw_c0 hL hi I K)
  · exact LW.sw (off := 202) (tgt := 235) hd (by decide) (by decide) rfl rfl (lw_c1 hL hi I K)
  · exact LW.sw (off := 225) (tgt := 258) hd (by decide) (by decide) rfl rfl (lw_c2 hL hi I K)
  · exact LW.sw (off := 238) (tgt := 271) hd (by decide) (by decide) rfl rfl (lw_c3 hL hi I K)
  · exact LW.sw (off := 261) (tgt := 294) hd (by decide) (by decide) rfl rfl (lw_c4 hL hi I K)
  · exact LW.sw (off := 284) (tgt := 317) hd (by decide) (by decide) rfl rfl (lw_c5 hL hi I K)
  · exact LW.sw (off := 327) (tgt := 360) hd (by decide) (by decide) rfl rfl (lw_c6 hL hi I K)
  · exact LW.sw (off := 414) (tgt := 447) hd (by decide) (by decide) rfl rfl (lw_c7 hL hi I K)
  · exact LW.sw (off := 477) (tgt := 510) hd (by decide) (by decide) rfl rfl (lw_c8 hL hi I K)
  · exact LW.sw (off := 530) (tgt := 563) hd (by decide) (by decide) rfl rfl (lw_c9 hL hi I K)
  · exact LW.sw (off := 573) (tgt := 606) hd (by decide) (by decide) rfl rfl (lw_c10 hL hi I K)
  · exact LW.sw (off := 606) (tgt := 639) hd (by decide) (by decide) rfl rfl (lw_c11 hL hi I K)
  · exact LW.sw (off := 669) (tgt := 702) hd (by decide) (by decide) rfl rfl (lw_c12 hL hi I K)
  · exact LW.sw (off := 692) (tgt := 725) hd (by decide) (by decide) rfl rfl (lw_c13 hL hi I K)
  · exact LW.sw (off := 725) (tgt := 758) hd (by decide) (by decide) rfl rfl (lw_c14 hL hi I K)
  · exact LW.sw (off := 768) (tgt := 801) hd (by decide) (by decide) rfl rfl (lw_c15 hL hi I K)
  · exact LW.sw (off := 855) (tgt := 888) hd (by decide) (by decide) rfl rfl (lw_c16 hL hi I K)
  · exact LW.sw (off := 918) (tgt := 951) hd (by decide) (by decide) rfl rfl (lw_c17 hL hi I K)
  · exact LW.sw (off := 961) (tgt := 994) hd (by decide) (by decide) rfl rfl (lw_c18 hL hi I K)
  · exact LW.sw (off := 984) (tgt := 1017) hd (by decide) (by decide) rfl rfl (lw_c19 hL hi I K)
  · exact LW.sw (off := 997) (tgt := 1030) hd (by decide) (by decide) rfl rfl (lw_c20 hL hi I K)
  · exact LW.sw (off := 1050) (tgt := 1083) hd (by decide) (by decide) rfl rfl (lw_c21 hL hi I K)
  · exact LW.sw (off := 1073) (tgt := 1106) hd (by decide) (by decide) rfl rfl (lw_c22 hL hi I K)
  · exact LW.sw (off := 1149) (tgt := 1182) hd (by decide) (by decide) rfl rfl (lw_c23 hL hi I K)
  · exact LW.sw (off := 1224) (tgt := 1257) hd (by decide) (by decide) rfl rfl (lw_c24 hL hi I K)
  · exact LW.sw (off := 1267) (tgt := 1300) hd (by decide) (by decide) rfl rfl (lw_c25 hL hi I K)
  · exact LW.sw (off := 1290) (tgt := 1323) hd (by decide) (by decide) rfl rfl (lw_c26 hL hi I K)
  · exact LW.sw (off := 1323) (tgt := 1356) hd (by decide) (by decide) rfl rfl (lw_c27 hL hi I K)
  · exact LW.sw (off := 1346) (tgt := 1379) hd (by decide) (by decide) rfl rfl (lw_c28 hL hi I K)
  · exact LW.sw (off := 1369) (tgt := 1402) hd (by decide) (by decide) rfl rfl (lw_c29 hL hi I K)
  · exact LW.sw (off := 1392) (tgt := 1425) hd (by decide) (by decide) rfl rfl (lw_c30 hL hi I K)
  · exact LW.sw0 (tgt := 1448) hd (Or.inr (by decide)) rfl (K j h I)
theorem lw_loop {G : GH} {b L : Nat} {xs : Nat → Int32} (hL : L ≤ 4096) : ∀ (n i j : Nat) (h : AH), L < i + n → i ≤ 4104 → Inv j h → LW G b L xs 18 (lwl G b i) [] h
  | 0, i, j, h, hn, hi, I => by
    refine LW.il (pc := 18) (j := 3) (i := 3) (q := 0) (by decide +kernel) rfl rfl ?_
    refine LW.al (pc := 19) (j := 0) (i := 0) (q := 3) (by decide +kernel) rfl rfl ?_
    refine LW.len (pc := 20) (by decide +kernel) ?_
    refine LW.bp (pc := 21) (n := 8) (v := 8) (by decide +kernel) rfl ?_
    refine LW.sb (pc := 23) (by decide +kernel) ?_
    refine LW.gt (pc := 24) (off := 1430) (tgt := 1454) (by decide +kernel) rfl (fun _ => ?_) (fun q => ?_)
    · exact LW.ic (pc := 1454) (n := 1) (v := 1) (by decide +kernel) rfl (LW.end1 (pc := 1455) (by decide +kernel))
    · have := lw_up hL hi q
      omega
  | n + 1, i, j, h, hn, hi, I => by
    refine LW.il (pc := 18) (j := 3) (i := 3) (q := 0) (by decide +kernel) rfl rfl ?_
    refine LW.al (pc := 19) (j := 0) (i := 0) (q := 3) (by decide +kernel) rfl rfl ?_
    refine LW.len (pc := 20) (by decide +kernel) ?_
    refine LW.bp (pc := 21) (n := 8) (v := 8) (by decide +kernel) rfl ?_
    refine LW.sb (pc := 23) (by decide +kernel) ?_
    refine LW.gt (pc := 24) (off := 1430) (tgt := 1454) (by decide +kernel) rfl (fun _ => ?_) (fun q => ?_)
    · exact LW.ic (pc := 1454) (n := 1) (v := 1) (by decide +kernel) rfl (LW.end1 (pc := 1455) (by decide +kernel))
    · have h8 := lw_up hL hi q
      refine LW.al (pc := 27) (j := 0) (i := 0) (q := 3) (by decide +kernel) rfl rfl ?_
      refine LW.il (pc := 28) (j := 3) (i := 3) (q := 0) (by decide +kernel) rfl rfl ?_
      refine LW.ld (pc := 29) (i := i) (by omega) hL (by decide +kernel) ?_
      refine LW.bp (pc := 30) (n := 31) (v := 31) (by decide +kernel) rfl ?_
      refine LW.an (pc := 32) (by decide +kernel) ?_
      obtain ⟨k, hk, ek⟩ := an_31 (xs i)
      rw [ek]
      refine lw_case hL h8 I (fun j2 h2 I2 => ?_) hk
      refine LW.inc (pc := 1448) (i := 3) (n := 8) (x := nI i) (v := nI (i + 8)) (ls2 := lwl G b (i + 8)) (by decide +kernel) 0 rfl ?_ (by decide) rfl ?_
      · rw [← nI_add]
        rfl
      exact LW.gotoo (pc := 1451) (off := -1433) (tgt := 18) (by decide +kernel) rfl (lw_loop hL n (i + 8) j2 h2 (by omega) (by omega) I2)
