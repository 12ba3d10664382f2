/-! loops that fill a row -/
def FL (r off n : Nat) (val : Nat → Int32) (h0 h : AH) : Prop := Fr [r] h0 h ∧ (∀ k, k < n → gI h r (off + k) = val k) ∧ (∀ k, k < off → gI h r k = gI h0 r k) ∧ (∀ k, off + n ≤ k → gI h r k = gI h0 r k)
theorem FL.z {r off : Nat} {val : Nat → Int32} {h : AH} : FL r off 0 val h h := ⟨Fr.rf, fun k hk => absurd hk (Nat.not_lt_zero k), fun _ _ => rfl, fun _ _ => rfl⟩
theorem FL.s {r off n : Nat} {val : Nat → Int32} {h0 h : AH} (a : FL r off n val h0 h) : FL r off (n + 1) val h0 (sI h r (off + n) (val n)) := by
  refine ⟨a.1.tr (Fr.sI (by simp)), fun k hk => ?_, fun k hk => ?_, fun k hk => ?_⟩
  · by_cases c : k = n
    · rw [c, rd_h]
    · rw [rd_k (by omega)]
      exact a.2.1 k (by omega)
  · rw [rd_k (by omega)]
    exact a.2.2.1 k hk
  · rw [rd_k (by omega)]
    exact a.2.2.2 k (by omega)
theorem lp_fill {M : MI} {pc r off N : Nat} {val : Nat → Int32} {h0 : AH} {P : Option Value → AH → Prop} {ls : Int32 → List (Nat × Value)}
    (sg : ∀ (h : AH) (i : Nat), i < N → Wf h → FL r off i val h0 h → Rr M 0 0 pc (ls (nI (i + 1))) [] (sI h r (off + i) (val i)) P → Rr M 0 0 pc (ls (nI i)) [] h P)
    (fin : ∀ h, Wf h → FL r off N val h0 h → Rr M 0 0 pc (ls (nI N)) [] h P) : ∀ (m i : Nat) (h : AH), i + m = N → Wf h → FL r off i val h0 h → Rr M 0 0 pc (ls (nI i)) [] h P
  | 0, i, h, e, w, f => by
    have : i = N := by omega
    subst this
    exact fin h w f
  | m + 1, i, h, e, w, f => sg h i (by omega) w f (lp_fill sg fin m (i + 1) _ (by omega) ((Fr.sI (S := [r]) (by simp)).wf w) f.s)
theorem c_comes {h : AH} {P : Option Value → AH → Prop} (w : Wf h) {r N : Nat} (h0 : 0 < N) (hN : N ≤ 64) (hA : ∀ h2, Wf h2 → isA h2 0 r) (hl : ln r = 2 * N) (k : ∀ h3, FL r 0 N (fun k => gI h r (N + k)) h h3 → P none h3) : Call mX12_comes [.ref r, .int (nI N)] h P := by
  refine Call.ofR (by decide +kernel) (Nat.le_of_ble_eq_true rfl) (sX12_comes_0 h r (nI N) ?_)
  refine lp_fill (M := mX12_comes) (pc := 2) (r := r) (off := 0) (N := N) (val := fun k => gI h r (N + k)) (h0 := h) (P := P) (ls := fun z => [(0, .ref r), (1, .int (nI N)), (2, .int z)]) (fun h2 i hi w2 f hR => ?_) (fun h2 w2 f => ?_) N 0 h (by omega) w FL.z
  · refine sX12_comes_2 h2 r _ _ ⟨fun q => absurd q ?_, fun _ => ⟨hA h2 w2, ?_, ?_, ?_⟩⟩
    · rw [nI_leI (by omega) (by omega)]
      omega
    · rw [nI_add, hl]
      exact vp_in_nI (by omega) (by omega)
    · rw [hl]
      exact vp_in_nI (by omega) (by omega)
    · rw [nI_add, nI_clamp (by omega), nI_clamp (by omega), nI_1, f.2.2.2 (N + i) (by omega)]
      rw [Nat.zero_add] at hR
      exact hR
  · exact sX12_comes_2 h2 r _ _ ⟨fun _ => k h2 f, fun q => absurd ((nI_leI (by omega) (by omega)).2 (Nat.le_refl N)) q⟩
/-- what the reference's begin leaves -/
def B0 (h : AH) : Prop := (gI h 118 9 = 100 ∧ gI h 118 10 = 100 ∧ gI h 118 11 = 0 ∧ gI h 118 12 = 1 ∧ gI h 118 13 = 2 ∧ gI h 118 14 = 0 ∧ gI h 118 15 = 3 ∧ gI h 118 16 = 1 ∧ gI h 118 17 = 0) ∧ (∀ k, k < 4 → gI h 121 (4 + k) = 0) ∧ (∀ k, k < 64 → gI h 123 (64 + k) = 0) ∧ (∀ k, k < 16 → gI h 126 (16 + k) = if k / 4 = k % 4 then -1 else 100) ∧ gI h 116 21 = 0 ∧ gI h 116 22 = 0
theorem B0.dm {h : AH} {D : DD} (B : B0 h) (J : J0 D) (e1 : D 200 1 = 0) (e2 : D 200 2 = 0) : DM h D := by
  obtain ⟨⟨b1, b2, b3, b4, b5, b6, b7, b8, b9⟩, c1, c2, c3, c4, c5⟩ := B
  obtain ⟨⟨j0, j1, j2, j3, j4, j5, j6, j7, j8, j9⟩, d1, d2, d3⟩ := J
  refine ⟨⟨b1.trans j1.symm, b2.trans j2.symm, b3.trans j3.symm, b4.trans j4.symm, b5.trans j5.symm, b6.trans j6.symm, b7.trans j7.symm, b8.trans j8.symm, b9.trans j9.symm⟩, fun x x0 xm => ?_, fun i hi => (c1 i hi).trans (d1 i hi).symm, fun i k w p1 p2 p3 p4 p5 p6 => ?_, fun i y hi hy => ?_, fun x x0 xm => ?_, fun a c a0 a4 c0 c4 => ?_, ?_, ?_, ?_⟩
  · rw [j3] at xm
    exact absurd x0 (nle.2 xm)
  · obtain ⟨n, n3, rfl⟩ := to4 ⟨p1, p2⟩
    rw [nI_clamp (by omega), d1 n (by omega)] at p4
    exact absurd p3 (nle.2 p4)
  · rw [show 16 * (4 + i) + y = 64 + (16 * i + y) by omega, c2 _ (by omega), d2 i y hi hy]
  · rw [j9] at xm
    exact absurd x0 (nle.2 xm)
  · obtain ⟨n, n3, rfl⟩ := to4 ⟨a0, a4⟩
    obtain ⟨m, m3, rfl⟩ := to4 ⟨c0, c4⟩
    have A := li_ix ⟨n, by omega⟩ ⟨m, by omega⟩ 0 0
    simp only at A
    rw [A.1, A.2.1, show 16 + 4 * n + m = 16 + (4 * n + m) by omega, c3 _ (by omega), d3 _ (by omega)]
    refine ⟨fun q => if_neg (fun t => q ?_), fun q => if_pos ?_⟩
    · rw [show n = m by omega]
    · have := (nI_eq (by omega) (by omega)).1 q
      omega
  · rw [c4, e1]
    rfl
  · rw [e1]
    exact ⟨by decide, by decide⟩
  · rw [c5, e2]
def BGr : List Nat := [116, 118, 121, 123, 126]
theorem k16t : ∀ k : Fin 16, ((nI k.val) / 4 = (nI k.val) % 4 ↔ k.val / 4 = k.val % 4) := by decide +kernel
theorem m_begin {h : AH} {P : Option Value → AH → Prop} (w : Wf h) (k : ∀ h3, Fr BGr h h3 → (∀ z, z ≠ 21 → z ≠ 22 → gI h3 116 z = gI h 116 z) → (∀ r k, r ≠ 116 → k < lo2 r → gI h3 r k = gI h r k) → B0 h3 → P none h3) : Call mX12_begin [.ref 116] h P := by
  refine Call.ofR (by decide +kernel) (Nat.le_of_ble_eq_true rfl) (sX12_begin_0 h 116 ?_)
  refine lp_fill (M := mX12_begin) (pc := 2) (r := 118) (off := 9) (N := 9) (val := fun _ => 0) (h0 := h) (P := P) (ls := fun z => [(0, .ref 116), (1, .int z)]) (fun h2 i hi w2 f hR => ?_) (fun h2 w2 f => ?_) 9 0 h (by omega) w FL.z
  · refine sX12_begin_2 h2 116 _ ⟨fun q => absurd q ?_, fun _ => ?_⟩
    · show ¬ nI 9 ≤ nI i
      rw [nI_leI (by omega) (by omega)]
      omega
    · rw [w2.f116_11, show (9 : Int32) + nI i = nI (9 + i) from nI_add 9 i, nI_clamp (by omega), nI_1]
      exact ⟨w2.o (by decide) rfl, w2.a (by decide) rfl, vp_in_nI (show 9 + i < 18 by omega) (by decide), hR⟩
  refine sX12_begin_2 h2 116 _ ⟨fun _ => ?_, fun q => absurd (by decide) q⟩
  rw [w2.f116_11]
  have i18 : ∀ n : Nat, n < 18 → vp_in (nI n) (ln 118) := fun n hn => vp_in_nI (show n < 18 from hn) (by decide)
  refine ⟨w2.o (by decide) rfl, w2.a (by decide) rfl, i18 9 (by decide), i18 10 (by decide), i18 12 (by decide), i18 13 (by decide), i18 15 (by decide), i18 16 (by decide), ?_⟩
  rw [show Int32.toNatClampNeg 9 = 9 from rfl, show Int32.toNatClampNeg 10 = 10 from rfl, show Int32.toNatClampNeg 12 = 12 from rfl, show Int32.toNatClampNeg 13 = 13 from rfl, show Int32.toNatClampNeg 15 = 15 from rfl, show Int32.toNatClampNeg 16 = 16 from rfl]
  generalize e3 : sI (sI (sI (sI (sI (sI h2 118 9 100) 118 10 100) 118 12 1) 118 13 2) 118 15 3) 118 16 1 = h3
  have F23 : Fr [118] h2 h3 := by
    rw [← e3]
    exact (((((Fr.sI (by simp)).tr (Fr.sI (by simp))).tr (Fr.sI (by simp))).tr (Fr.sI (by simp))).tr (Fr.sI (by simp))).tr (Fr.sI (by simp))
  have b118 : gI h3 118 9 = 100 ∧ gI h3 118 10 = 100 ∧ gI h3 118 11 = 0 ∧ gI h3 118 12 = 1 ∧ gI h3 118 13 = 2 ∧ gI h3 118 14 = 0 ∧ gI h3 118 15 = 3 ∧ gI h3 118 16 = 1 ∧ gI h3 118 17 = 0 := by
    rw [← e3]
    exact ⟨rfl, rfl, f.2.1 2 (by decide), rfl, rfl, f.2.1 5 (by decide), rfl, rfl, f.2.1 8 (by decide)⟩
  have l118 : ∀ k, k < 9 → gI h3 118 k = gI h 118 k := fun k hk => by
    rw [← e3, rd_k (show k ≠ 16 by omega), rd_k (show k ≠ 15 by omega), rd_k (show k ≠ 13 by omega), rd_k (show k ≠ 12 by omega), rd_k (show k ≠ 10 by omega), rd_k (show k ≠ 9 by omega)]
    exact f.2.2.1 k hk
  have F3 : Fr [118] h h3 := f.1.tr F23
  have w3 := F23.wf w2
  clear e3 f
  refine lp_fill (M := mX12_begin) (pc := 76) (r := 121) (off := 4) (N := 4) (val := fun _ => 0) (h0 := h3) (P := P) (ls := fun z => [(0, .ref 116), (1, .int z)]) (fun h2 i hi w2 f hR => ?_) (fun h4 w4 f4 => ?_) 4 0 h3 (by omega) w3 FL.z
  · refine sX12_begin_76 h2 116 _ ⟨fun q => absurd q ?_, fun _ => ?_⟩
    · show ¬ nI 4 ≤ nI i
      rw [nI_leI (by omega) (by omega)]
      omega
    · rw [w2.f116_14, show (4 : Int32) + nI i = nI (4 + i) from nI_add 4 i, nI_clamp (by omega), nI_1]
      exact ⟨w2.o (by decide) rfl, w2.a (by decide) rfl, vp_in_nI (show 4 + i < 8 by omega) (by decide), hR⟩
  refine sX12_begin_76 h4 116 _ ⟨fun _ => ?_, fun q => absurd (by decide) q⟩
  refine lp_fill (M := mX12_begin) (pc := 98) (r := 123) (off := 64) (N := 64) (val := fun _ => 0) (h0 := h4) (P := P) (ls := fun z => [(0, .ref 116), (1, .int z)]) (fun h2 i hi w2 f hR => ?_) (fun h5 w5 f5 => ?_) 64 0 h4 (by omega) w4 FL.z
  · refine sX12_begin_98 h2 116 _ ⟨fun q => absurd q ?_, fun _ => ?_⟩
    · show ¬ nI 64 ≤ nI i
      rw [nI_leI (by omega) (by omega)]
      omega
    · rw [w2.f116_16, show (64 : Int32) + nI i = nI (64 + i) from nI_add 64 i, nI_clamp (by omega), nI_1]
      exact ⟨w2.o (by decide) rfl, w2.a (by decide) rfl, vp_in_nI (show 64 + i < 128 by omega) (by decide), hR⟩
  refine sX12_begin_98 h5 116 _ ⟨fun _ => ?_, fun q => absurd (by decide) q⟩
  refine lp_fill (M := mX12_begin) (pc := 122) (r := 126) (off := 16) (N := 16) (val := fun k => if k / 4 = k % 4 then -1 else 100) (h0 := h5) (P := P) (ls := fun z => [(0, .ref 116), (1, .int z)]) (fun h2 i hi w2 f hR => ?_) (fun h6 w6 f6 => ?_) 16 0 h5 (by omega) w5 FL.z
  · refine sX12_begin_122 h2 116 _ ⟨fun q => absurd q ?_, fun _ => ?_⟩
    · show ¬ nI 16 ≤ nI i
      rw [nI_leI (by omega) (by omega)]
      omega
    · rw [w2.f116_19, show (16 : Int32) + nI i = nI (16 + i) from nI_add 16 i, nI_clamp (by omega), nI_1]
      refine ⟨w2.o (by decide) rfl, fun z hz => ?_⟩
      have e : z = if i / 4 = i % 4 then -1 else 100 := by
        rw [hz]
        have t := k16t ⟨i, hi⟩
        simp only at t
        by_cases c : i / 4 = i % 4
        · rw [if_pos c, if_pos (t.2 c)]
        · rw [if_neg c, if_neg (fun q => c (t.1 q))]
      rw [e]
      exact ⟨w2.a (by decide) rfl, vp_in_nI (show 16 + i < 32 by omega) (by decide), hR⟩
  refine sX12_begin_122 h6 116 _ ⟨fun _ => ⟨w6.o (by decide) rfl, ?_⟩, fun q => absurd (by decide) q⟩
  have F6 : Fr BGr h h6 := ((F3.sub (by decide)).tr ((f4.1.sub (by decide)).tr ((f5.1.sub (by decide)).tr (f6.1.sub (by decide)))))
  have ho : ∀ r, r ≠ 118 → r ≠ 121 → r ≠ 123 → r ≠ 126 → gI h6 r = gI h r := fun r q1 q2 q3 q4 => by
    rw [(f6.1.2.2 r (by simp; exact q4)).1, (f5.1.2.2 r (by simp; exact q3)).1, (f4.1.2.2 r (by simp; exact q2)).1, (F3.2.2 r (by simp; exact q1)).1]
  have h118 : gI h6 118 = gI h3 118 := by
    rw [(f6.1.2.2 118 (by decide)).1, (f5.1.2.2 118 (by decide)).1, (f4.1.2.2 118 (by decide)).1]
  have h121 : gI h6 121 = gI h4 121 := by
    rw [(f6.1.2.2 121 (by decide)).1, (f5.1.2.2 121 (by decide)).1]
  have h123 : gI h6 123 = gI h5 123 := (f6.1.2.2 123 (by decide)).1
  refine k _ ((F6.tr (Fr.sI (by decide))).tr (Fr.sI (by decide))) (fun z z1 z2 => ?_) (fun r k hr hk => ?_) ⟨?_, ?_, ?_, ?_, ?_, ?_⟩
  · rw [rd_k z2, rd_k z1, ho 116 (by decide) (by decide) (by decide) (by decide)]
  · rw [rd_r hr, rd_r hr]
    by_cases q1 : r = 118
    · subst q1
      rw [h118]
      exact l118 k hk
    by_cases q2 : r = 121
    · subst q2
      rw [h121, f4.2.2.1 k hk]
      exact F3.I (by decide) k
    by_cases q3 : r = 123
    · subst q3
      rw [h123, f5.2.2.1 k hk]
      exact (f4.1.I (by decide) k).trans (F3.I (by decide) k)
    by_cases q4 : r = 126
    · subst q4
      rw [f6.2.2.1 k hk]
      exact (f5.1.I (by decide) k).trans ((f4.1.I (by decide) k).trans (F3.I (by decide) k))
    rw [ho r q1 q2 q3 q4]
  · show gI h6 118 9 = 100 ∧ gI h6 118 10 = 100 ∧ gI h6 118 11 = 0 ∧ gI h6 118 12 = 1 ∧ gI h6 118 13 = 2 ∧ gI h6 118 14 = 0 ∧ gI h6 118 15 = 3 ∧ gI h6 118 16 = 1 ∧ gI h6 118 17 = 0
    rw [h118]
    exact b118
  · intro k hk
    rw [rd_r (by decide), rd_r (by decide), h121]
    exact f4.2.1 k hk
  · intro k hk
    rw [rd_r (by decide), rd_r (by decide), h123]
    exact f5.2.1 k hk
  · intro k hk
    rw [rd_r (by decide), rd_r (by decide)]
    exact f6.2.1 k hk
  · rfl
  · rfl
