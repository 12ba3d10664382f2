/-! THE START: both objects made, the invariant holds -/
def h00 : AH := (0, fun _ _ => 0, fun _ _ => 0, fun _ _ => 5000)
def HA : AH := q_X11 (nw h00 0)
def HB : AH := q_M (nw HA 116)
theorem HB_wf : Wf HB := by
  refine ⟨rfl, ?_, Or.inr ⟨?_, ?_⟩⟩
  · decide +kernel
  · decide +kernel
  · decide +kernel
theorem HB_J : J0 (dof HB 23) := by
  refine ⟨?_, fun i hi => ?_, fun i y hi hy => ?_, fun q hq => ?_⟩
  · have t : gI HB 23 0 = 0 ∧ gI HB 23 1 = 100 ∧ gI HB 23 2 = 100 ∧ gI HB 23 3 = 0 ∧ gI HB 23 6 = 1 ∧ gI HB 23 9 = 2 ∧ gI HB 23 10 = 0 ∧ gI HB 23 12 = 3 ∧ gI HB 23 13 = 1 ∧ gI HB 37 0 = 0 := by decide +kernel
    exact t
  · have t : ∀ i : Fin 4, gI HB 26 i.val = 0 := by decide +kernel
    exact t ⟨i, hi⟩
  · have t : ∀ i q : Fin 4, gL HB (30 + 2 * i.val) q.val = 0 := by decide +kernel
    rw [dof, if_neg (by omega), if_neg (by omega), show 100 + i - 100 = i by omega]
    exact brow_0 hy fun q hq => t ⟨i, hi⟩ ⟨q, hq⟩
  · have t : ∀ q : Fin 16, gI HB 41 q.val = 100 := by decide +kernel
    exact t ⟨q, hq⟩
theorem HB_v : gI HB 2 2 = 0 ∧ gI HB 1 4 = 0 ∧ gI HB 1 5 = -1 ∧ gI HB 42 0 = 0 ∧ gI HB 42 1 = 0 ∧ gI HB 42 2 = 0 ∧ gI HB 59 5 = 0 ∧ gI HB 62 9 = 0 ∧ gI HB 0 8 = 0 ∧ gI HB 88 4 = 0 ∧ gI HB 1 1 = 0 ∧ gI HB 1 2 = 0 ∧ gI HB 116 1 = 0 ∧ gI HB 116 8 = 0 ∧ gI HB 116 9 = -1 ∧ gI HB 116 20 = 0 ∧ gI HB 116 51 = 0 ∧ gI HB 23 0 = 0 := by decide +kernel
theorem HB_p : (∀ i q : Fin 4, gL HB (73 + 2 * i.val) q.val = 0) ∧ ∀ k : Fin 64, gI HB 144 k.val = 0 := by
  constructor
  · decide +kernel
  · decide +kernel
theorem inv_start {h7 h9 : AH} (F7 : Fr BGr HB h7) (z7 : ∀ z, z ≠ 21 → z ≠ 22 → gI h7 116 z = gI HB 116 z) (B7 : B0 h7) (S9 : SE h7 h9) : Inv 23 h9 := by
  obtain ⟨v1, v2, v3, v4, v5, v6, v7, v8, v9, v10, v11, v12, v13, v14, v15, v16, v17, v18⟩ := HB_v
  have w7 := F7.wf HB_wf
  have w9 := S9.1.wf w7
  have n : ∀ r, r < 116 ∨ 126 < r → r ∉ mrw ∧ r ∉ BGr := fun r hr => ⟨by unfold mrw; simp; omega, by unfold BGr; simp; omega⟩
  have lo : ∀ r, r < 116 ∨ 126 < r → gI h9 r = gI HB r := fun r hr => (S9.1.2.2 r (n r hr).1).1.trans (F7.2.2 r (n r hr).2).1
  have loL : ∀ r, r < 116 ∨ 126 < r → gL h9 r = gL HB r := fun r hr => (S9.1.2.2 r (n r hr).1).2.trans (F7.2.2 r (n r hr).2).2
  have zz : ∀ z, z ≠ 21 → z ≠ 22 → z ≠ 23 → z ≠ 24 → z ≠ 25 → z ≠ 43 → z ≠ 48 → z ≠ 55 → gI h9 116 z = gI HB 116 z := fun z a1 a2 a3 a4 a5 a6 a7 a8 => (S9.2.1 z a3 a4 a5 a6 a7 a8).trans (z7 z a1 a2)
  have tz := S9.2.2.1
  refine ⟨w9, (S9.1.2.1 0 2).trans ((F7.2.1 0 2).trans (by decide +kernel)), ⟨?_, ?_, ?_⟩, ⟨?_, ?_⟩, jobI_new (h7 := h7) (D := dof HB 23) (fun r k hr => ?_) (fun i y hi hy => ?_) (mrw_lo S9) (B7.dm HB_J v11 v12) HB_J.ok ?_, ⟨?_, ?_, ?_, ?_, ?_, ?_, ?_, ?_⟩, ⟨?_, ?_, ?_⟩, ⟨?_, Or.inl ?_⟩, ⟨?_, Or.inl ?_, fun i y hi hy => ?_⟩, ⟨?_, ?_, ?_, ?_⟩⟩
  · rw [lo 2 (by decide), v1]; exact in_00 (by decide)
  · rw [lo 2 (by decide), v1, zz 1 (by decide) (by decide) (by decide) (by decide) (by decide) (by decide) (by decide) (by decide), v13]
  · intro x x0 xm
    rw [lo 2 (by decide), v1] at xm
    exact (v_0 x0 xm).elim
  · rw [lo 1 (by decide), v2, zz 8 (by decide) (by decide) (by decide) (by decide) (by decide) (by decide) (by decide) (by decide), v14]
  · rw [lo 1 (by decide), v3, zz 9 (by decide) (by decide) (by decide) (by decide) (by decide) (by decide) (by decide) (by decide), v15]
  · rw [dof, if_pos hr, lo _ (by omega)]
  · rw [dof, if_neg (by omega), if_neg (by omega), show 100 + i - 100 = i by omega, brow, brow, loL _ (by omega)]
  · rw [zz 20 (by decide) (by decide) (by decide) (by decide) (by decide) (by decide) (by decide) (by decide), v16]
    exact v18.symm
  · rw [lo 42 (by decide), v4]; exact in_00 (by decide)
  · rw [lo 42 (by decide), v5]; exact in_00 (by decide)
  · rw [lo 42 (by decide), v4]; exact tz.1
  · rw [lo 42 (by decide), v5]; exact tz.2.1
  · rw [lo 42 (by decide), v6]; exact tz.2.2.1.symm
  · rw [lo 42 (by decide), v6]; exact in_00 (by decide)
  · intro x x0 xm
    rw [lo 42 (by decide), v4] at xm
    exact (v_0 x0 xm).elim
  · intro x x0 xm
    rw [lo 42 (by decide), v5] at xm
    exact (v_0 x0 xm).elim
  · rw [lo 59 (by decide), v7]; exact tz.2.2.2.1.symm
  · rw [lo 59 (by decide), v7]; exact in_00 (by decide)
  · intro x x0 xm
    rw [lo 59 (by decide), v7] at xm
    exact (v_0 x0 xm).elim
  · rw [lo 62 (by decide), v8]; exact tz.2.2.2.2.1.symm
  · rw [lo 62 (by decide), v8]
  · rw [lo 0 (by decide), v9, zz 51 (by decide) (by decide) (by decide) (by decide) (by decide) (by decide) (by decide) (by decide), v17]
  · rw [lo 0 (by decide), v9]
  · rw [lo 144 (by decide), HB_p.2 ⟨16 * i + y, by omega⟩]
    refine brow_0 hy fun q hq => ?_
    rw [loL _ (by omega)]
    exact HB_p.1 ⟨i, hi⟩ ⟨q, hq⟩
  · rw [lo 88 (by decide), v10]; exact in_00 (by decide)
  · rw [lo 88 (by decide), v10]; exact tz.2.2.2.2.2
  · intro x x0 xm
    rw [lo 88 (by decide), v10] at xm
    exact (v_0 x0 xm).elim
  · intro q
    rw [lo 88 (by decide), v10] at q
    exact absurd q (by decide)
