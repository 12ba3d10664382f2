theorem vB_c {mx my S0 S1 S2 mx2 my2 T0 T1 T2 : Nat → Int32} {a b r s : Int32} {t e ns n : Nat} (hm : ∀ k, k < n → mx k = mx2 k ∧ my k = my2 k) (h0 : ∀ k, k < ns → S0 k = T0 k) (h1 : ∀ k, k < ns → S1 k = T1 k) (h2 : ∀ k, k < ns → S2 k = T2 k) : vB mx my S0 S1 S2 a b r s t e ns n = vB mx2 my2 T0 T1 T2 a b r s t e ns n := by
  funext c
  unfold vB
  have q : ∀ {S T : Nat → Int32}, (∀ k, k < ns → S k = T k) → isum (rowS S t e ns c) ns = isum (rowS T t e ns c) ns := fun {S T} hh => isum_c (fun k hk => by unfold rowS; rw [hh k hk])
  rw [q h0, q h1, q h2, bdl_c hm]
theorem imin3 : ∀ n : Fin 4, imin (nI n) 3 = nI n := by decide +kernel
theorem nine {x : Int32} (c : ¬ x < -9 ∧ ¬ 9 < x) {z : Int32} (h : -240 ≤ z ∧ z ≤ 240) : inr (x + z) (-249) 249 := by
  unfold inr
  grind
theorem pr_mend {j : Nat} {h : AH} (I : Inv j h) (x1 x2 x3 x4 x5 : Int32) : Pair mX11_mend mX12_mend [.int x1, .int x2, .int x3, .int x4, .int x5] h := by
  have w := I.1
  have hj := I.2.1
  have jb := jcase w hj
  have rf : ¬ ((¬ x1 < 0 ∧ ¬ 4 ≤ x1) ∧ ((¬ x2 < (-9) ∧ ¬ 9 < x2) ∧ (¬ x3 < (-9) ∧ ¬ 9 < x3) ∧ (¬ x4 < (-9) ∧ ¬ 9 < x4) ∧ ¬ x5 < 0 ∧ ¬ 9 < x5)) → Call mX12_mend [.ref 116, .int x1, .int x2, .int x3, .int x4, .int x5] h (fun v2 h2 => v2 = some (.int (-2)) ∧ (∃ z : Int32, some (Value.int (-2)) = some (.int z)) ∧ ∃ j, Inv j h2) := fun c => by
    have fin : (some (Value.int (-2)) = some (Value.int (-2))) ∧ (∃ z : Int32, some (Value.int (-2)) = some (.int z)) ∧ ∃ j, Inv j h := ⟨rfl, ⟨_, rfl⟩, j, I⟩
    exact Call.ofR (by decide +kernel) (Nat.le_of_ble_eq_true rfl) (sX12_mend_0 h 116 _ _ _ _ _ ⟨fun _ => fin, fun c1 => ⟨fun c2 => absurd ⟨ink1.mpr c1, c2⟩ c, fun _ => fin⟩⟩)
  refine Call.ofR (by decide +kernel) (Nat.le_of_ble_eq_true rfl) (sX11_mend_0 h 0 _ _ _ _ _ ⟨fun c => rf (fun q => c q.1), fun c1 => ⟨fun c2 => ?_, fun c => rf (fun q => c q.2)⟩⟩)
  clear rf
  have c1' := ink1.mp c1
  obtain ⟨i, hi', rfl⟩ : ∃ n : Nat, n ≤ 3 ∧ x1 = nI n := nI_of2 (M := 3) rfl c1.1 (by clear I; grind)
  have hi : i < 4 := by omega
  obtain ⟨-, -, -, -, ⟨⟨-, -, -, n3', -, n9', -, -, -, -⟩, ⟨mk, sm, sn, -, -⟩, -⟩, -, -, -, -, -⟩ := id I
  obtain ⟨n, n8, en⟩ : ∃ n : Nat, n ≤ 8 ∧ gI h j 3 = nI n := nI_of2 (M := 8) rfl (by have := n3'.2; unfold inr at this; clear I mk sm sn; grind) n3'.2.2
  obtain ⟨t, t4, et⟩ : ∃ n : Nat, n ≤ 4 ∧ gI h j 9 = nI n := nI_of2 (M := 4) rfl (by have := n9'.2; unfold inr at this; clear I mk sm sn; grind) n9'.2.2
  have sm' := sm (nI i) (nI_pos' (by omega)) (nI_lt (b := 4) hi (by decide))
  rw [nI_clamp (by omega)] at sm'
  obtain ⟨ns, n3, es⟩ : ∃ n : Nat, n ≤ 3 ∧ gI h (j + 3) i = nI n := nI_of2 (M := 3) rfl (by have := sm'.2; unfold inr at this; clear I mk sm sn; grind) sm'.2.2
  have marks : ∀ k, k < n → gI h (j + 1) k = gI h 119 k ∧ inr (gI h (j + 1) k) 0 200 ∧ gI h (j + 2) k = gI h 120 k ∧ inr (gI h (j + 2) k) 0 200 := fun k hk => by
    have := mk (nI k) (nI_pos' (by omega)) (by rw [en]; exact nI_lt hk (by omega))
    rw [nI_clamp (by omega)] at this
    exact this
  have scr : ∀ k x : Nat, k < ns → x < 3 → gI h (j + 4) (9 * i + 3 * k + x) = gI h 122 (9 * i + 3 * k + x) ∧ inr (gI h (j + 4) (9 * i + 3 * k + x)) (-20) 20 := fun k x hk hx => by
    have := sn (nI i) (nI k) (nI x) (nI_pos' (by omega)) (nI_lt (b := 4) hi (by decide)) (nI_pos' (by omega)) (by rw [nI_clamp (by omega), es]; exact nI_lt hk (by omega)) (nI_pos' (by omega)) (nI_lt (b := 3) hx (by decide))
    have e : (9 : Int32) * nI i + 3 * nI k + nI x = nI (9 * i + 3 * k + x) := by
      rw [show (9 : Int32) = nI 9 from rfl, show (3 : Int32) = nI 3 from rfl, pk_mul, pk_mul, nI_add, nI_add]
    rw [e, nI_clamp (by omega)] at this
    exact this
  clear mk sm sn
  have he : 2 * t + 1 = 2 * t + 1 := rfl
  have N9 := pow729 t4 n3
  have e0 : 0 < (2 * t + 1) ^ ns := Nat.pow_pos (by omega)
  -- the numbers of the slip
  rw [w.f0_5]
  simp only [gF_sI]
  rw [hj, w.f0_5]
  refine ⟨w.o (by decide) rfl, w.o (by decide) rfl, w.o (by decide) rfl, ?_⟩
  generalize hA : sI (sI (sI (sI h 59 0 x2) 59 1 x3) 59 2 x4) 59 3 x5 = h1
  have F1 : Fr [59] h h1 := by
    rw [← hA]
    exact (((Fr.sI (by decide)).tr (Fr.sI (by decide))).tr (Fr.sI (by decide))).tr (Fr.sI (by decide))
  have g0 : gI h1 59 0 = x2 ∧ gI h1 59 1 = x3 ∧ gI h1 59 2 = x4 ∧ gI h1 59 3 = x5 := by
    rw [← hA]
    exact ⟨(rd_k (by decide)).trans ((rd_k (by decide)).trans ((rd_k (by decide)).trans rd_h)), (rd_k (by decide)).trans ((rd_k (by decide)).trans rd_h), (rd_k (by decide)).trans rd_h, rd_h⟩
  clear hA
  have w1 := F1.wf w
  have hj1 : gF h1 0 2 = j := (F1.2.1 0 2).trans hj
  obtain ⟨hO, -, -, -, f7, -, -, -, -, -, -, -⟩ := job_refs w1 hj1
  obtain ⟨-, -, ⟨a3, l3⟩, -, -, -, -, -, -⟩ := job_arrs w1 hj1
  have jr : ∀ r, r ∈ [j, j + 1, j + 2, j + 3, j + 4] → r ∉ [59, 60, 61] := by rcases jb with rfl | rfl <;> decide
  have jr1 : ∀ r, r ∈ [j, j + 1, j + 2, j + 3, j + 4] → r ∉ [59] := by rcases jb with rfl | rfl <;> decide
  refine Call.ofR (by decide +kernel) (Nat.le_of_ble_eq_true rfl) (sX6_find_0 h1 59 j _ ?_)
  rw [f7, l3, nI_clamp (by omega), F1.I (r := j + 3) (jr1 _ (by simp)), F1.I (r := j) (jr1 _ (by simp)), es, et, imin3 ⟨ns, by omega⟩]
  refine ⟨hO, a3, in4n hi, w1.o (by decide) rfl, ?_⟩
  have F2 : Fr [59] h1 (sI h1 59 5 (nI ns)) := Fr.sI (by decide)
  have w2 := F2.wf w1
  refine c6_begin (e := 2 * t + 1) w2 he rd_h n3 (fun h3 F3 R3 => ⟨_, rfl, ?_⟩)
  have G3 : Fr [59, 60, 61] h h3 := ((F1.sub (by decide)).tr (F2.sub (by decide))).tr (F3.sub (by decide))
  have w3 := G3.wf w
  have hj3 : gF h3 0 2 = j := (G3.2.1 0 2).trans hj
  have k5' : gI h3 59 5 = nI ns := (F3.I (by decide) 5).trans rd_h
  have k0 : gI h3 59 0 = x2 := by rw [F3.I (by decide), rd_k (by decide)]; exact g0.1
  have k1 : gI h3 59 1 = x3 := by rw [F3.I (by decide), rd_k (by decide)]; exact g0.2.1
  have k2 : gI h3 59 2 = x4 := by rw [F3.I (by decide), rd_k (by decide)]; exact g0.2.2.1
  have k3 : gI h3 59 3 = x5 := by rw [F3.I (by decide), rd_k (by decide)]; exact g0.2.2.2
  have r1 : gI h3 (j + 1) = gI h (j + 1) := (G3.2.2 _ (jr _ (by simp))).1
  have r2 : gI h3 (j + 2) = gI h (j + 2) := (G3.2.2 _ (jr _ (by simp))).1
  have r4 : gI h3 (j + 4) = gI h (j + 4) := (G3.2.2 _ (jr _ (by simp))).1
  have go := fun P' => fm34 (P := P') (e := 2 * t + 1) (t := t) (ns := ns) (i := i) (n := n) w3 hj3 he t4 hi k5' n3 ((G3.I (jr _ (by simp)) 3).trans en) n8 ((G3.I (jr _ (by simp)) 9).trans et) N9
  rw [k0, k1, k2, k3, r1, r2, r4] at go
  have eV : vB (gI h (j + 1)) (gI h (j + 2)) (fun k => gI h (j + 4) (9 * i + 3 * k)) (fun k => gI h (j + 4) (9 * i + 3 * k + 1)) (fun k => gI h (j + 4) (9 * i + 3 * k + 2)) x2 x3 x4 x5 t (2 * t + 1) ns n = vB (gI h 119) (gI h 120) (fun k => gI h 122 (9 * i + 3 * k)) (fun k => gI h 122 (9 * i + 3 * k + 1)) (fun k => gI h 122 (9 * i + 3 * k + 2)) x2 x3 x4 x5 t (2 * t + 1) ns n := vB_c (fun k hk => ⟨(marks k hk).1, (marks k hk).2.2.1⟩) (fun k hk => (scr k 0 hk (by decide)).1) (fun k hk => (scr k 1 hk (by decide)).1) (fun k hk => (scr k 2 hk (by decide)).1)
  have Vr : ∀ c, 0 ≤ vB (gI h (j + 1)) (gI h (j + 2)) (fun k => gI h (j + 4) (9 * i + 3 * k)) (fun k => gI h (j + 4) (9 * i + 3 * k + 1)) (fun k => gI h (j + 4) (9 * i + 3 * k + 2)) x2 x3 x4 x5 t (2 * t + 1) ns n c ∧ vB (gI h (j + 1)) (gI h (j + 2)) (fun k => gI h (j + 4) (9 * i + 3 * k)) (fun k => gI h (j + 4) (9 * i + 3 * k + 1)) (fun k => gI h (j + 4) (9 * i + 3 * k + 2)) x2 x3 x4 x5 t (2 * t + 1) ns n c ≤ 849 := fun c => by
    refine bdl_rng (nine c2.1 (sum_rng he t4 n3 (fun k hk => (scr k 0 hk (by decide)).2))) (nine c2.2.1 (sum_rng he t4 n3 (fun k hk => (scr k 1 hk (by decide)).2))) (nine c2.2.2.1 (sum_rng he t4 n3 (fun k hk => (scr k 2 hk (by decide)).2))) ?_ (fun k hk => ⟨(marks k hk).2.1, (marks k hk).2.2.2⟩)
    have := c2.2.2.2
    unfold inr
    clear I go marks scr
    grind
  generalize vB (gI h (j + 1)) (gI h (j + 2)) (fun k => gI h (j + 4) (9 * i + 3 * k)) (fun k => gI h (j + 4) (9 * i + 3 * k + 1)) (fun k => gI h (j + 4) (9 * i + 3 * k + 2)) x2 x3 x4 x5 t (2 * t + 1) ns n = V at go eV Vr
  have m0 : mst V (vT t (2 * t + 1) ns) 0 = (1000000000, 1000000000, 0) := rfl
  refine go _ (fun h4 F4 B4 => ?_) ((2 * t + 1) ^ ns) 0 h3 (Nat.zero_add _) Fr.rf (fun _ => R3) (Or.inl rfl)
  obtain ⟨c', hc'⟩ : ∃ c', (2 * t + 1) ^ ns = c' + 1 := ⟨(2 * t + 1) ^ ns - 1, by omega⟩
  have fr := mst_first (vt := vT t (2 * t + 1) ns) Vr c'
  rw [← hc'] at fr
  have B4' : ∀ k, k < ns → gI h4 61 k = tn t (2 * t + 1) ns (mst V (vT t (2 * t + 1) ns) ((2 * t + 1) ^ ns)).2.2 k := by
    rcases B4 with B4 | B4
    · exfalso
      rw [B4] at fr
      exact absurd fr.1 (by decide)
    · exact B4
  refine ⟨_, rfl, ?_⟩
  -- the reference
  have G4 : Fr [59, 60, 61] h h4 := G3.tr (F4.sub (by decide))
  have w4 := G4.wf w
  have m118 : ∀ x, gI h4 118 x = gI h 118 x := fun x => G4.I (by decide) x
  refine Call.ofR (by decide +kernel) (Nat.le_of_ble_eq_true rfl) (sX12_mend_0 h4 116 _ _ _ _ _ ⟨fun q => absurd c1' q, fun _ => ⟨fun _ => ?_, fun q => absurd c2 q⟩⟩)
  have ht4 : gI h4 118 4 = nI t := (m118 4).trans (n9'.1.symm.trans et)
  have ee : (2 : Int32) * nI t + 1 = nI (2 * t + 1) := by
    rw [show (2 : Int32) = nI 2 from rfl, pk_mul, nI_1]
  rw [w4.f116_11, cl4, ht4, ee]
  refine ⟨w4.o (by decide) rfl, w4.a (by decide) rfl, by show vp_in 4 18; rw [vin_18]; decide, ?_⟩
  have hs4 : gI h4 121 i = nI ns := (G4.I (by decide) i).trans (sm'.1.symm.trans es)
  have hV4 : V = vB (gI h4 119) (gI h4 120) (fun k => gI h4 122 (9 * i + 3 * k)) (fun k => gI h4 122 (9 * i + 3 * k + 1)) (fun k => gI h4 122 (9 * i + 3 * k + 2)) x2 x3 x4 x5 t (2 * t + 1) ns n := by
    rw [eV, (G4.2.2 119 (by decide)).1, (G4.2.2 120 (by decide)).1, (G4.2.2 122 (by decide)).1]
  refine m40 w4 hi hs4 n3 ?_ ns 0 (Nat.zero_add ns)
  refine m76 w4 he t4 hi hs4 n3 ((m118 2).trans (n3'.1.symm.trans en)) n8 ht4 N9 hV4 Vr ?_ ((2 * t + 1) ^ ns) 0 (-1) 0 0 (Nat.zero_add _) (Or.inl ⟨rfl, rfl⟩)
  have F5 : Fr [116] h4 (sI h4 116 43 (nI ns)) := Fr.sI (by decide)
  have w5 := F5.wf w4
  have st := m302 (P := fun v2 h2 => v2 = some (.int (mst V (vT t (2 * t + 1) ns) ((2 * t + 1) ^ ns)).1) ∧ (∃ z : Int32, some (Value.int (mst V (vT t (2 * t + 1) ns) ((2 * t + 1) ^ ns)).1) = some (.int z)) ∧ ∃ j, Inv j h2) (c := (mst V (vT t (2 * t + 1) ns) ((2 * t + 1) ^ ns)).2.2) (x9 := (mst V (vT t (2 * t + 1) ns) ((2 * t + 1) ^ ns)).1) w5 he t4 n3 ((F5.I (by decide) 4).trans ht4) (by omega) (fun h6 F6 e6 => ?_) ns _ (Nat.le_refl ns) Fr.rf (fun k h1 h2 => absurd h2 (by omega))
  · have p0 : (mst V (vT t (2 * t + 1) ns) ((2 * t + 1) ^ ns)).2.2 / (2 * t + 1) ^ (ns - ns) = (mst V (vT t (2 * t + 1) ns) ((2 * t + 1) ^ ns)).2.2 := by rw [Nat.sub_self, Nat.pow_zero, Nat.div_one]
    rw [p0] at st
    exact st
  · refine ⟨rfl, ⟨_, rfl⟩, j, ?_⟩
    have FA : Fr [59, 60, 61, 116, 142] h h6 := ((G4.sub (by decide)).tr (F5.sub (by decide))).tr (F6.sub (by decide))
    have p116 : ∀ q, q ≠ 43 → gI h6 116 q = gI h 116 q := fun q hq => by
      rw [F6.I (by decide), rd_k hq, G4.I (by decide)]
    obtain ⟨-, -, ti, fi, ji, ri, -, si, pi, li⟩ := I
    refine ⟨FA.wf w, (FA.2.1 0 2).trans hj, ti.keep (FA.I (by decide) 2) (FA.ag (by decide)) (p116 1 (by decide)) (FA.ag (by decide)), fi.keep (FA.I (by decide) 4) (FA.I (by decide) 5) (p116 8 (by decide)) (p116 9 (by decide)), ji.keep (fun r hr => FA.ag (by clear go; rcases jb with rfl | rfl <;> revert r <;> decide)) (p116 20 (by decide)), ri.keep (fun r hr => FA.ag (by clear ji ri si pi li go; revert r; decide)) (FA.I (by clear go; rcases jb with rfl | rfl <;> decide) 3) (p116 23 (by decide)) (p116 24 (by decide)) (p116 25 (by decide)), ?_, si.keep (FA.I (by decide) 9) (FA.I (by decide) 10) (FA.I (by decide) 11) (p116 48 (by decide)) (p116 49 (by decide)) (p116 50 (by decide)), pi.keep (FA.I (by decide) 8) (p116 51 (by decide)) (fun r hr => FA.ag (by clear ji ri si pi li go; revert r; decide)), li.keep (FA.I (by decide) 4) (FA.I (by decide) 6) (FA.ag (by decide)) (p116 55 (by decide)) (FA.ag (by decide))⟩
    have v5 : gI h6 59 5 = nI ns := by
      rw [F6.I (by decide), rd_r (by decide), F4.I (by decide)]
      exact k5'
    have v43 : gI h6 116 43 = nI ns := by
      rw [F6.I (by decide)]
      exact rd_h
    refine ⟨v5.trans v43.symm, ?_, fun x x1 x2 => ?_⟩
    · rw [v5]
      exact ⟨nI_pos' (by omega), nI_le (a := ns) (b := 3) n3 (by decide)⟩
    · rw [v5] at x2
      have hx : x = nI x.toNatClampNeg := (cl_nI x1).symm
      have hk : x.toNatClampNeg < ns := by
        rw [hx, nI_ltI (by have := (ti_rng x).2; show x.toInt.toNat < 2 ^ 31; omega) (by omega)] at x2
        exact x2
      rw [e6 _ hk, F6.I (by decide), rd_r (by decide)]
      exact B4' _ hk
