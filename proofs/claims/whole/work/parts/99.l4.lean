/-- a plain number of the draft -/
theorem DM.num {h : AH} {D : DD} (H : DM h D) {k q : Nat} (hq : (q = 6 ∧ k = 12) ∨ (q = 9 ∧ k = 13) ∨ (q = 12 ∧ k = 15) ∨ (q = 13 ∧ k = 16) ∨ (q = 1 ∧ k = 9) ∨ (q = 2 ∧ k = 10)) (v : Int32) : DM (sI h 118 k v) (u D 0 q v) := by
  obtain ⟨⟨b1, b2, b3, b4, b5, b6, b7, b8, b9⟩, a2, a3, a4, a5, a6, a7, a8, a9, a10⟩ := H
  have h5 : ∀ i y : Nat, i < 4 → y < 16 → gI (sI h 118 k v) 123 (16 * (4 + i) + y) = u D 0 q v (100 + i) y := fun i y hi hy => by
    rw [rd_r (by decide), u, if_neg (fun q => by omega)]
    exact a5 i y hi hy
  rcases hq with ⟨rfl, rfl⟩ | ⟨rfl, rfl⟩ | ⟨rfl, rfl⟩ | ⟨rfl, rfl⟩ | ⟨rfl, rfl⟩ | ⟨rfl, rfl⟩
  · exact ⟨⟨b1, b2, b3, rfl, b5, b6, b7, b8, b9⟩, a2, a3, a4, h5, a6, a7, a8, a9, a10⟩
  · exact ⟨⟨b1, b2, b3, b4, rfl, b6, b7, b8, b9⟩, a2, a3, a4, h5, a6, a7, a8, a9, a10⟩
  · exact ⟨⟨b1, b2, b3, b4, b5, b6, rfl, b8, b9⟩, a2, a3, a4, h5, a6, a7, a8, a9, a10⟩
  · exact ⟨⟨b1, b2, b3, b4, b5, b6, b7, rfl, b9⟩, a2, a3, a4, h5, a6, a7, a8, a9, a10⟩
  · exact ⟨⟨rfl, b2, b3, b4, b5, b6, b7, b8, b9⟩, a2, a3, a4, h5, a6, a7, a8, a9, a10⟩
  · exact ⟨⟨b1, rfl, b3, b4, b5, b6, b7, b8, b9⟩, a2, a3, a4, h5, a6, a7, a8, a9, a10⟩
