/-! settle: the draft becomes the job -/
def SE (h h3 : AH) : Prop := Fr mrw h h3 ∧ (∀ z, z ≠ 23 → z ≠ 24 → z ≠ 25 → z ≠ 43 → z ≠ 48 → z ≠ 55 → gI h3 116 z = gI h 116 z) ∧ (gI h3 116 23 = 0 ∧ gI h3 116 24 = 0 ∧ gI h3 116 25 = 0 ∧ gI h3 116 43 = 0 ∧ gI h3 116 48 = 0 ∧ gI h3 116 55 = 0) ∧ (∀ k, k < 9 → gI h3 118 k = gI h 118 (9 + k)) ∧ (∀ k, k < 8 → gI h3 119 k = gI h 119 (8 + k)) ∧ (∀ k, k < 8 → gI h3 120 k = gI h 120 (8 + k)) ∧ (∀ k, k < 4 → gI h3 121 k = gI h 121 (4 + k)) ∧ (∀ k, k < 36 → gI h3 122 k = gI h 122 (36 + k)) ∧ (∀ k, k < 64 → gI h3 123 k = gI h 123 (64 + k)) ∧ (∀ k, k < 8 → gI h3 124 k = gI h 124 (8 + k)) ∧ (∀ k, k < 8 → gI h3 125 k = gI h 125 (8 + k)) ∧ (∀ k, k < 16 → gI h3 126 k = gI h 126 (16 + k))
theorem m_settle {h : AH} {P : Option Value → AH → Prop} (w : Wf h) (k : ∀ h3, SE h h3 → P none h3) : Call mX12_settle [.ref 116] h P := by
  refine Call.ofR (by decide +kernel) (Nat.le_of_ble_eq_true rfl) (sX12_settle_0 h 116 ?_)
  rw [w.f116_11]
  refine ⟨w.o (by decide) rfl, c_comes w (r := 118) (N := 9) (by decide) (by decide) (fun h2 w2 => w2.a (by decide) rfl) rfl fun h1 f1 => ?_⟩
  have w1 := f1.1.wf w
  refine ⟨rfl, ?_⟩
  rw [w1.f116_12]
  refine ⟨w1.o (by decide) rfl, c_comes w1 (r := 119) (N := 8) (by decide) (by decide) (fun h2 w2 => w2.a (by decide) rfl) rfl fun h2 f2 => ?_⟩
  have w2 := f2.1.wf w1
  refine ⟨rfl, ?_⟩
  rw [w2.f116_13]
  refine ⟨w2.o (by decide) rfl, c_comes w2 (r := 120) (N := 8) (by decide) (by decide) (fun h2 w2 => w2.a (by decide) rfl) rfl fun h3 f3 => ?_⟩
  have w3 := f3.1.wf w2
  refine ⟨rfl, ?_⟩
  rw [w3.f116_14]
  refine ⟨w3.o (by decide) rfl, c_comes w3 (r := 121) (N := 4) (by decide) (by decide) (fun h2 w2 => w2.a (by decide) rfl) rfl fun h4 f4 => ?_⟩
  have w4 := f4.1.wf w3
  refine ⟨rfl, ?_⟩
  rw [w4.f116_15]
  refine ⟨w4.o (by decide) rfl, c_comes w4 (r := 122) (N := 36) (by decide) (by decide) (fun h2 w2 => w2.a (by decide) rfl) rfl fun h5 f5 => ?_⟩
  have w5 := f5.1.wf w4
  refine ⟨rfl, ?_⟩
  rw [w5.f116_16]
  refine ⟨w5.o (by decide) rfl, c_comes w5 (r := 123) (N := 64) (by decide) (by decide) (fun h2 w2 => w2.a (by decide) rfl) rfl fun h6 f6 => ?_⟩
  have w6 := f6.1.wf w5
  refine ⟨rfl, ?_⟩
  rw [w6.f116_17]
  refine ⟨w6.o (by decide) rfl, c_comes w6 (r := 124) (N := 8) (by decide) (by decide) (fun h2 w2 => w2.a (by decide) rfl) rfl fun h7 f7 => ?_⟩
  have w7 := f7.1.wf w6
  refine ⟨rfl, ?_⟩
  rw [w7.f116_18]
  refine ⟨w7.o (by decide) rfl, c_comes w7 (r := 125) (N := 8) (by decide) (by decide) (fun h2 w2 => w2.a (by decide) rfl) rfl fun h8 f8 => ?_⟩
  have w8 := f8.1.wf w7
  refine ⟨rfl, ?_⟩
  rw [w8.f116_19]
  refine ⟨w8.o (by decide) rfl, c_comes w8 (r := 126) (N := 16) (by decide) (by decide) (fun h2 w2 => w2.a (by decide) rfl) rfl fun h9 f9 => ?_⟩
  have w9 := f9.1.wf w8
  refine ⟨rfl, ?_⟩
  refine ⟨w9.o (by decide) rfl, k _ ⟨?_, ?_, ⟨rfl, rfl, rfl, rfl, rfl, rfl⟩, ?_⟩⟩
  · refine ((((((Fr.tr ?_ (Fr.sI (by decide))).tr (Fr.sI (by decide))).tr (Fr.sI (by decide))).tr (Fr.sI (by decide))).tr (Fr.sI (by decide))).tr (Fr.sI (by decide)))
    exact (f1.1.sub (by decide)).tr ((f2.1.sub (by decide)).tr ((f3.1.sub (by decide)).tr ((f4.1.sub (by decide)).tr ((f5.1.sub (by decide)).tr ((f6.1.sub (by decide)).tr ((f7.1.sub (by decide)).tr ((f8.1.sub (by decide)).tr (f9.1.sub (by decide)))))))))
  · intro z z1 z2 z3 z4 z5 z6
    rw [rd_k z6, rd_k z5, rd_k z4, rd_k z3, rd_k z2, rd_k z1]
    rw [f9.1.I (by decide), f8.1.I (by decide), f7.1.I (by decide), f6.1.I (by decide), f5.1.I (by decide), f4.1.I (by decide), f3.1.I (by decide), f2.1.I (by decide), f1.1.I (by decide)]
  · refine ⟨?_, ?_, ?_, ?_, ?_, ?_, ?_, ?_, ?_⟩
    · intro k hk
      rw [rd_r (by decide), rd_r (by decide), rd_r (by decide), rd_r (by decide), rd_r (by decide), rd_r (by decide)]
      rw [f9.1.I (by decide), f8.1.I (by decide), f7.1.I (by decide), f6.1.I (by decide), f5.1.I (by decide), f4.1.I (by decide), f3.1.I (by decide), f2.1.I (by decide)]
      refine ((congrArg (gI h1 118) (Nat.zero_add k)).symm.trans (f1.2.1 k hk)).trans ?_
      rfl
    · intro k hk
      rw [rd_r (by decide), rd_r (by decide), rd_r (by decide), rd_r (by decide), rd_r (by decide), rd_r (by decide)]
      rw [f9.1.I (by decide), f8.1.I (by decide), f7.1.I (by decide), f6.1.I (by decide), f5.1.I (by decide), f4.1.I (by decide), f3.1.I (by decide)]
      refine ((congrArg (gI h2 119) (Nat.zero_add k)).symm.trans (f2.2.1 k hk)).trans ?_
      dsimp only
      rw [f1.1.I (by decide)]
    · intro k hk
      rw [rd_r (by decide), rd_r (by decide), rd_r (by decide), rd_r (by decide), rd_r (by decide), rd_r (by decide)]
      rw [f9.1.I (by decide), f8.1.I (by decide), f7.1.I (by decide), f6.1.I (by decide), f5.1.I (by decide), f4.1.I (by decide)]
      refine ((congrArg (gI h3 120) (Nat.zero_add k)).symm.trans (f3.2.1 k hk)).trans ?_
      dsimp only
      rw [f2.1.I (by decide), f1.1.I (by decide)]
    · intro k hk
      rw [rd_r (by decide), rd_r (by decide), rd_r (by decide), rd_r (by decide), rd_r (by decide), rd_r (by decide)]
      rw [f9.1.I (by decide), f8.1.I (by decide), f7.1.I (by decide), f6.1.I (by decide), f5.1.I (by decide)]
      refine ((congrArg (gI h4 121) (Nat.zero_add k)).symm.trans (f4.2.1 k hk)).trans ?_
      dsimp only
      rw [f3.1.I (by decide), f2.1.I (by decide), f1.1.I (by decide)]
    · intro k hk
      rw [rd_r (by decide), rd_r (by decide), rd_r (by decide), rd_r (by decide), rd_r (by decide), rd_r (by decide)]
      rw [f9.1.I (by decide), f8.1.I (by decide), f7.1.I (by decide), f6.1.I (by decide)]
      refine ((congrArg (gI h5 122) (Nat.zero_add k)).symm.trans (f5.2.1 k hk)).trans ?_
      dsimp only
      rw [f4.1.I (by decide), f3.1.I (by decide), f2.1.I (by decide), f1.1.I (by decide)]
    · intro k hk
      rw [rd_r (by decide), rd_r (by decide), rd_r (by decide), rd_r (by decide), rd_r (by decide), rd_r (by decide)]
      rw [f9.1.I (by decide), f8.1.I (by decide), f7.1.I (by decide)]
      refine ((congrArg (gI h6 123) (Nat.zero_add k)).symm.trans (f6.2.1 k hk)).trans ?_
      dsimp only
      rw [f5.1.I (by decide), f4.1.I (by decide), f3.1.I (by decide), f2.1.I (by decide), f1.1.I (by decide)]
    · intro k hk
      rw [rd_r (by decide), rd_r (by decide), rd_r (by decide), rd_r (by decide), rd_r (by decide), rd_r (by decide)]
      rw [f9.1.I (by decide), f8.1.I (by decide)]
      refine ((congrArg (gI h7 124) (Nat.zero_add k)).symm.trans (f7.2.1 k hk)).trans ?_
      dsimp only
      rw [f6.1.I (by decide), f5.1.I (by decide), f4.1.I (by decide), f3.1.I (by decide), f2.1.I (by decide), f1.1.I (by decide)]
    · intro k hk
      rw [rd_r (by decide), rd_r (by decide), rd_r (by decide), rd_r (by decide), rd_r (by decide), rd_r (by decide)]
      rw [f9.1.I (by decide)]
      refine ((congrArg (gI h8 125) (Nat.zero_add k)).symm.trans (f8.2.1 k hk)).trans ?_
      dsimp only
      rw [f7.1.I (by decide), f6.1.I (by decide), f5.1.I (by decide), f4.1.I (by decide), f3.1.I (by decide), f2.1.I (by decide), f1.1.I (by decide)]
    · intro k hk
      rw [rd_r (by decide), rd_r (by decide), rd_r (by decide), rd_r (by decide), rd_r (by decide), rd_r (by decide)]
      refine ((congrArg (gI h9 126) (Nat.zero_add k)).symm.trans (f9.2.1 k hk)).trans ?_
      dsimp only
      rw [f8.1.I (by decide), f7.1.I (by decide), f6.1.I (by decide), f5.1.I (by decide), f4.1.I (by decide), f3.1.I (by decide), f2.1.I (by decide), f1.1.I (by decide)]
