theorem job_refs {j : Nat} {h : AH} (w : Wf h) (hj : gF h 0 2 = j) : isO h 3 j ∧ isO h 8 (j + 14) ∧ gF h j 4 = j + 1 ∧ gF h j 5 = j + 2 ∧ gF h j 7 = j + 3 ∧ gF h j 8 = j + 4 ∧ gF h j 11 = j + 5 ∧ gF h j 14 = j + 14 ∧ gF h j 15 = j + 18 ∧ gF h (j + 14) 1 = j + 15 ∧ gF h (j + 14) 2 = j + 16 ∧ gF h (j + 14) 3 = j + 17 := by
  rcases jcase w hj with rfl | rfl
  · exact ⟨w.o (by decide) rfl, w.o (by decide) rfl, w.f4_4, w.f4_5, w.f4_7, w.f4_8, w.f4_11, w.f4_14, w.f4_15, w.f18_1, w.f18_2, w.f18_3⟩
  · exact ⟨w.o (by decide) rfl, w.o (by decide) rfl, w.f23_4, w.f23_5, w.f23_7, w.f23_8, w.f23_11, w.f23_14, w.f23_15, w.f37_1, w.f37_2, w.f37_3⟩
theorem job_arrs {j : Nat} {h : AH} (w : Wf h) (hj : gF h 0 2 = j) : (isA h 0 (j + 1) ∧ ln (j + 1) = 8) ∧ (isA h 0 (j + 2) ∧ ln (j + 2) = 8) ∧ (isA h 0 (j + 3) ∧ ln (j + 3) = 4) ∧ (isA h 0 (j + 4) ∧ ln (j + 4) = 36) ∧ (isA h 3 (j + 5) ∧ ln (j + 5) = 4) ∧ (isA h 0 (j + 15) ∧ ln (j + 15) = 8) ∧ (isA h 0 (j + 16) ∧ ln (j + 16) = 8) ∧ (isA h 0 (j + 17) ∧ ln (j + 17) = 4) ∧ (isA h 0 (j + 18) ∧ ln (j + 18) = 16) := by
  rcases jcase w hj with rfl | rfl <;> exact ⟨⟨w.a (by decide) rfl, rfl⟩, ⟨w.a (by decide) rfl, rfl⟩, ⟨w.a (by decide) rfl, rfl⟩, ⟨w.a (by decide) rfl, rfl⟩, ⟨w.a (by decide) rfl, rfl⟩, ⟨w.a (by decide) rfl, rfl⟩, ⟨w.a (by decide) rfl, rfl⟩, ⟨w.a (by decide) rfl, rfl⟩, ⟨w.a (by decide) rfl, rfl⟩⟩
theorem pr_screw {j : Nat} {h : AH} (I : Inv j h) (x y z : Int32) : Pair mX11_screw mX12_screw [.int x, .int y, .int z] h := by
  have w := I.1
  obtain ⟨-, hj, -, -, ⟨-, ⟨-, js, jn, -, -⟩, -⟩, -, -, -, -, -⟩ := id I
  obtain ⟨hO, -, -, -, f7, f8, -⟩ := job_refs w hj
  obtain ⟨-, -, ⟨hA3, l3⟩, ⟨hA4, l4⟩, -⟩ := job_arrs w hj
  have ref : ∀ v : Int32, (v = if (¬ x < 0 ∧ ¬ 4 ≤ x) then (if y < 0 then -99 else if gI h (j + 3) x.toNatClampNeg ≤ y then -99 else if z < 0 then -99 else if z < 3 then gI h (j + 4) (9 * x + 3 * y + z).toNatClampNeg else -99) else -99) →
      Call mX12_screw [.ref 116, .int x, .int y, .int z] h (fun v2 h2 => v2 = some (.int v) ∧ (∃ z : Int32, some (Value.int v) = some (.int z)) ∧ ∃ j, Inv j h2) := by
    intro v hv
    refine aX12_screw (w.o (by decide) rfl) (by rw [w.f116_14]; exact w.a (by decide) rfl) (by rw [w.f116_14]; show _ → vp_in x 8; rw [vin_8]; grind) (by rw [w.f116_15]; exact w.a (by decide) rfl) (by rw [w.f116_14, w.f116_15]; show _ → _ → _ → vp_in _ 72; rw [vin_72]; grind [inr]) ?_
    refine ⟨?_, ⟨_, rfl⟩, j, I⟩
    rw [hv, w.f116_14, w.f116_15]
    congr 2
    clear hv I
    by_cases c : 0 ≤ x ∧ x < 4
    · have q1 := js x c.1 c.2
      have q2 := jn x y z c.1 c.2
      grind [inr]
    · clear js jn
      have e1 : ¬ (¬ x < 0 ∧ ¬ 3 < x) := by grind
      have e2 : ¬ (¬ x < 0 ∧ ¬ 4 ≤ x) := by grind
      rw [if_neg e1, if_neg e2]
  refine Call.ofR (by decide +kernel) (Nat.le_of_ble_eq_true rfl) (sX11_screw_0 h 0 x y z ?_)
  rw [hj, f7]
  refine ⟨fun c => ref _ (by grind), fun c => ?_⟩
  have q1 := js x (by grind) (by grind)
  refine ⟨fun c1 => ref _ (by grind), fun c1 => ⟨w.o (by decide) rfl, hO, hA3, by rw [l3, vin_4]; grind, fun c2 => ref _ (by grind), fun c2 => ⟨fun c3 => ref _ (by grind), fun c3 => ⟨fun c4 => ?_, fun c4 => ref _ (by grind)⟩⟩⟩⟩
  have e : ((x * 3 + y) * 3) + z = 9 * x + 3 * y + z := by grind
  have q3 : ¬ (9 * x + 3 * y + z) < 0 ∧ ¬ 36 ≤ (9 * x + 3 * y + z) := by grind [inr]
  refine aX3_screwNumber hO (by rw [f8]; exact hA4) (by rw [f8, l4, e, vin_36]; grind) ?_
  refine ⟨_, rfl, ref _ ?_⟩
  rw [f8, l4, e, show Int32.ofNat 36 = 36 from rfl, if_neg q3.1, if_neg q3.2]
  grind
theorem isum_layers {h : AH} {P : Option Value → AH → Prop} (w : Wf h) (N : Nat) (hN : N ≤ 20) (he : gI h 116 55 = nI N) : ∀ (n i : Nat), i + n = N → P (some (.int (isum (gI h 147) N))) h → Rr mX12_layers 0 0 43 [(0, .ref 116), (2, .int (isum (gI h 147) i)), (3, .int (nI i))] [] h P
  | 0, i, hn, hP => by
    refine sX12_layers_43 h 116 _ _ ⟨w.o (by decide) rfl, fun c => ?_, fun c => ?_⟩
    · have e : i = N := by omega
      rw [e]
      exact hP
    · exfalso
      rw [he] at c
      exact c (nI_le (by omega) (by omega))
  | n + 1, i, hn, hP => by
    refine sX12_layers_43 h 116 _ _ ⟨w.o (by decide) rfl, fun c => ?_, fun c => ?_⟩
    · exfalso
      rw [he] at c
      exact nI_ge (a := i) (b := N) (by omega) (by omega) c
    · rw [w.f116_56]
      refine ⟨w.a (by decide) rfl, vp_in_nI (N := 20) (by omega) (by omega), ?_⟩
      rw [nI_clamp (by omega), nI_1]
      exact isum_layers w N hN he n (i + 1) (by omega) hP
theorem pr_layers {j : Nat} {h : AH} (I : Inv j h) (x : Int32) : Pair mX11_layers mX12_layers [.int x] h := by
  have w := I.1
  obtain ⟨-, -, -, -, -, -, -, -, -, ⟨l1, l2, l3, l4⟩⟩ := id I
  unfold inr at l1
  have hN : (gI h 88 4).toNatClampNeg ≤ 20 := by
    have q := l1
    rw [ti_le, ti_le] at q
    show (gI h 88 4).toInt.toNat ≤ 20
    have e0 : (0 : Int32).toInt = 0 := rfl
    have e20 : (20 : Int32).toInt = 20 := rfl
    omega
  have ref : ∀ v : Int32, v = (if gI h 88 4 = 0 then -1 else if x = -1 then gI h 88 6 else if x < 0 then -1 else if x < gI h 88 4 then gI h 114 x.toNatClampNeg else -1) →
      Call mX12_layers [.ref 116, .int x] h (fun v2 h2 => v2 = some (.int v) ∧ (∃ z : Int32, some (Value.int v) = some (.int z)) ∧ ∃ j, Inv j h2) := by
    intro v hv
    refine Call.ofR (by decide +kernel) (Nat.le_of_ble_eq_true rfl) (sX12_layers_0 h 116 x ⟨fun c => ⟨w.o (by decide) rfl, fun c2 => ?_, fun c2 => ?_⟩, fun c => ⟨w.o (by decide) rfl, ?_, ?_, ?_⟩⟩)
    · refine isum_layers w (gI h 88 4).toNatClampNeg hN (by rw [l2, cl_nI l1.1]) _ 0 (Nat.zero_add _) ?_
      refine ⟨?_, ⟨_, rfl⟩, j, I⟩
      rw [hv, if_neg (by rw [← l2]; exact c2), if_pos c, l4 (by grind)]
    · refine ⟨?_, ⟨_, rfl⟩, j, I⟩
      rw [hv, if_pos (by rw [← l2]; exact c2)]
    · rw [w.f116_56]
      exact w.a (by decide) rfl
    · rw [w.f116_56]
      show _ → vp_in x 20
      rw [vin_20]
      grind
    · rintro z rfl
      refine ⟨?_, ⟨_, rfl⟩, j, I⟩
      rw [hv, w.f116_56]
      clear I hv
      grind
  refine Call.ofR (by decide +kernel) (Nat.le_of_ble_eq_true rfl) (sX11_layers_0 h 0 x ?_)
  rw [w.f0_13, w.f88_5]
  refine ⟨w.o (by decide) rfl, w.o (by decide) rfl, fun c => ⟨fun c2 => ⟨w.a (by decide) rfl, by show _ → _ → vp_in x 20; rw [vin_20]; grind, ?_⟩, fun c2 => ref _ (by grind)⟩, fun c => ref _ (by grind)⟩
  rintro z rfl
  exact ref _ (by grind)
theorem pr_end {j : Nat} {h : AH} (I : Inv j h) (x : Int32) : Pair mX11_end mX12_end [.int x] h := by
  have w := I.1
  obtain ⟨-, hj, ⟨t1, t2, t3⟩, fi, ji, ri, mi, si, pi, li⟩ := id I
  unfold inr at t1
  have hjj := jcase w hj
  refine Call.ofR (by decide +kernel) (Nat.le_of_ble_eq_true rfl) (sX11_end_0 h 0 x ?_)
  rw [w.f0_1]
  have bad : x < 0 ∨ ¬ x ≤ gI h 2 2 → Call mX12_end [.ref 116, .int x] h (fun v2 h2 => v2 = some (.int (-1)) ∧ (∃ z : Int32, some (Value.int (-1)) = some (.int z)) ∧ ∃ j, Inv j h2) := by
    intro c
    refine Call.ofR (by decide +kernel) (Nat.le_of_ble_eq_true rfl) (sX12_end_0 h 116 x ⟨fun _ => ⟨rfl, ⟨_, rfl⟩, j, I⟩, fun c2 => ⟨w.o (by decide) rfl, fun c3 => ?_, fun _ => ⟨rfl, ⟨_, rfl⟩, j, I⟩⟩⟩)
    exfalso
    rw [t2] at c3
    exact c.elim c2 (fun q => q c3)
  refine ⟨fun c => bad (Or.inl c), fun c => ⟨w.o (by decide) rfl, w.o (by decide) rfl, fun c2 => ?_, fun c2 => bad (Or.inr c2)⟩⟩
  refine Call.ofR (by decide +kernel) (Nat.le_of_ble_eq_true rfl) (sX12_end_0 _ 116 x ⟨fun c3 => absurd c3 c, fun c3 => ⟨w.o (by decide) rfl, fun c4 => ?_, fun c4 => ?_⟩⟩)
  · refine ⟨rfl, ⟨_, rfl⟩, j, ?_⟩
    have F : Fr [2, 116] h (sI (sI h 2 2 x) 116 1 x) := (Fr.sI (by decide)).tr (Fr.sI (by decide))
    refine ⟨F.wf w, hj, ⟨⟨by grind [gI_sI'], by grind [gI_sI', inr]⟩, by simp [gI_sI'], fun y y1 y2 => ?_⟩, ?_, ?_, ?_, ?_, ?_, ?_, ?_⟩
    · simp [gI_sI'] at y2 ⊢
      exact t3 y y1 (by grind)
    · exact fi.keep rfl rfl (by simp [gI_sI']) (by simp [gI_sI'])
    · exact ji.keep (fun r hr => F.ag (by rcases hjj with rfl | rfl <;> revert r <;> decide)) (by simp [gI_sI'])
    · exact ri.keep (fun r hr => F.ag (by revert r; decide)) (by rcases hjj with rfl | rfl <;> simp [gI_sI']) (by simp [gI_sI']) (by simp [gI_sI']) (by simp [gI_sI'])
    · exact mi.keep (by simp [gI_sI']) (F.ag (by decide)) (by simp [gI_sI']) (F.ag (by decide))
    · exact si.keep (by simp [gI_sI']) (by simp [gI_sI']) (by simp [gI_sI']) (by simp [gI_sI']) (by simp [gI_sI']) (by simp [gI_sI'])
    · exact pi.keep (by simp [gI_sI']) (by simp [gI_sI']) (fun r hr => F.ag (by revert r; decide))
    · exact li.keep (by simp [gI_sI']) (by simp [gI_sI']) (F.ag (by decide)) (by simp [gI_sI']) (F.ag (by decide))
  · exfalso
    apply c4
    show x ≤ gI (sI h 2 2 x) 116 1
    rw [gI_sI', if_neg (by decide), t2]
    exact c2
