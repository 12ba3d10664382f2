theorem lt_sc {x k : Int32} (c : ¬ x = k) (h : x < k + 1) (m : k ≤ 7) : x < k := by grind
theorem lt_8 {k : Int32} (h : k ≤ 8) (g : ¬ k = 8) : k < 8 := by grind
theorem le_7 {k : Int32} (h : k < 8) : k ≤ 7 := by grind
theorem in_8 {k : Int32} (h : 0 ≤ k) (g : k < 8) : 0 ≤ 8 + k ∧ 8 + k < 16 := by grind
theorem cl_ne {x y : Int32} (hx : 0 ≤ x) (hy : 0 ≤ y) (h : x < y) : x.toNatClampNeg ≠ y.toNatClampNeg := fun q => by
  have := cl_nI hx
  rw [q, cl_nI hy] at this
  rw [this] at h
  exact absurd h (by grind)
theorem cl8_ne {x y : Int32} (hx : 0 ≤ x) (h : x < y) (hy : y ≤ 8) : (8 + x).toNatClampNeg ≠ (8 + y).toNatClampNeg := cl_ne (by grind) (by grind) (by grind)
theorem DM.m1 {h : AH} {D : DD} (H : DM h D) {k : Int32} (ek : D 0 3 = k) (m : inr k 0 8) (v : Int32) : DM (sI h 119 (8 + k).toNatClampNeg v) (u D 1 k.toNatClampNeg v) ∧ DM (sI h 120 (8 + k).toNatClampNeg v) (u D 2 k.toNatClampNeg v) := by
  obtain ⟨⟨b1, b2, b3, b4, b5, b6, b7, b8, b9⟩, a2, a3, a4, a5, a6, a7, a8, a9, a10⟩ := H
  have f5 : ∀ {r q : Nat} {w : Int32}, ∀ i y : Nat, i < 4 → y < 16 → r < 19 → gI h 123 (16 * (4 + i) + y) = u D r q w (100 + i) y := fun i y hi hy hr => by
    rw [u, if_neg (fun q => by omega)]
    exact a5 i y hi hy
  refine ⟨⟨⟨b1, b2, b3, b4, b5, b6, b7, b8, b9⟩, fun x x0 xm => ?_, a3, a4, fun i y hi hy => ?_, a6, a7, a8, a9, a10⟩, ⟨⟨b1, b2, b3, b4, b5, b6, b7, b8, b9⟩, fun x x0 xm => ?_, a3, a4, fun i y hi hy => ?_, a6, a7, a8, a9, a10⟩⟩
  · have xm2 : x < k := ek ▸ xm
    have t := a2 x x0 (ek.symm ▸ xm2)
    rw [rd_k (cl8_ne x0 xm2 m.2), rd_r (by decide), u, if_neg (fun q => cl_ne x0 m.1 xm2 q.2), u, if_neg (fun q => by omega)]
    exact t
  · rw [rd_r (by decide)]
    exact f5 i y hi hy (by decide)
  · have xm2 : x < k := ek ▸ xm
    have t := a2 x x0 (ek.symm ▸ xm2)
    rw [rd_r (by decide), rd_k (cl8_ne x0 xm2 m.2), u, if_neg (fun q => by omega), u, if_neg (fun q => cl_ne x0 m.1 xm2 q.2)]
    exact t
  · rw [rd_r (by decide)]
    exact f5 i y hi hy (by decide)
theorem DM.m3 {h : AH} {D : DD} (H : DM h D) {k : Int32} (ek : D 0 3 = k) (m : inr k 0 7) (e1 : gI h 119 (8 + k).toNatClampNeg = D 1 k.toNatClampNeg) (e2 : gI h 120 (8 + k).toNatClampNeg = D 2 k.toNatClampNeg) : DM (sI h 118 11 (k + 1)) (u D 0 3 (k + 1)) := by
  obtain ⟨⟨b1, b2, b3, b4, b5, b6, b7, b8, b9⟩, a2, a3, a4, a5, a6, a7, a8, a9, a10⟩ := H
  have m2 := m.2
  have h5 : ∀ i y : Nat, i < 4 → y < 16 → gI (sI h 118 11 (k + 1)) 123 (16 * (4 + i) + y) = u D 0 3 (k + 1) (100 + i) y := fun i y hi hy => by
    rw [rd_r (by decide), u, if_neg (fun q => by omega)]
    exact a5 i y hi hy
  refine ⟨⟨b1, b2, rfl, b4, b5, b6, b7, b8, b9⟩, fun x x0 xm => ?_, a3, a4, h5, a6, a7, a8, a9, a10⟩
  have xm2 : x < k + 1 := xm
  rw [rd_r (by decide), rd_r (by decide), u, if_neg (fun q => by omega), u, if_neg (fun q => by omega)]
  by_cases c : x = k
  · rw [c]
    exact ⟨e1, e2⟩
  · exact a2 x x0 (by rw [ek]; exact lt_sc c xm2 m2)
theorem DM.s1 {h : AH} {D : DD} (H : DM h D) {k : Int32} (ek : D 14 0 = k) (m : inr k 0 8) (v : Int32) : DM (sI h 124 (8 + k).toNatClampNeg v) (u D 15 k.toNatClampNeg v) ∧ DM (sI h 125 (8 + k).toNatClampNeg v) (u D 16 k.toNatClampNeg v) := by
  obtain ⟨⟨b1, b2, b3, b4, b5, b6, b7, b8, b9⟩, a2, a3, a4, a5, a6, a7, a8, a9, a10⟩ := H
  have f5 : ∀ {r q : Nat} {w : Int32}, ∀ i y : Nat, i < 4 → y < 16 → r < 19 → gI h 123 (16 * (4 + i) + y) = u D r q w (100 + i) y := fun i y hi hy hr => by
    rw [u, if_neg (fun q => by omega)]
    exact a5 i y hi hy
  refine ⟨⟨⟨b1, b2, b3, b4, b5, b6, b7, b8, b9⟩, a2, a3, a4, fun i y hi hy => ?_, fun x x0 xm => ?_, a7, a8, a9, a10⟩, ⟨⟨b1, b2, b3, b4, b5, b6, b7, b8, b9⟩, a2, a3, a4, fun i y hi hy => ?_, fun x x0 xm => ?_, a7, a8, a9, a10⟩⟩
  · rw [rd_r (by decide)]
    exact f5 i y hi hy (by decide)
  · have xm2 : x < k := ek ▸ xm
    have t := a6 x x0 (ek.symm ▸ xm2)
    rw [rd_k (cl8_ne x0 xm2 m.2), rd_r (by decide), u, if_neg (fun q => cl_ne x0 m.1 xm2 q.2), u, if_neg (fun q => by omega)]
    exact t
  · rw [rd_r (by decide)]
    exact f5 i y hi hy (by decide)
  · have xm2 : x < k := ek ▸ xm
    have t := a6 x x0 (ek.symm ▸ xm2)
    rw [rd_r (by decide), rd_k (cl8_ne x0 xm2 m.2), u, if_neg (fun q => by omega), u, if_neg (fun q => cl_ne x0 m.1 xm2 q.2)]
    exact t
theorem DM.s3 {h : AH} {D : DD} (H : DM h D) {k : Int32} (ek : D 14 0 = k) (m : inr k 0 7) (e1 : gI h 124 (8 + k).toNatClampNeg = D 15 k.toNatClampNeg) (e2 : gI h 125 (8 + k).toNatClampNeg = D 16 k.toNatClampNeg) : DM (sI h 118 17 (k + 1)) (u D 14 0 (k + 1)) := by
  obtain ⟨⟨b1, b2, b3, b4, b5, b6, b7, b8, b9⟩, a2, a3, a4, a5, a6, a7, a8, a9, a10⟩ := H
  have m2 := m.2
  have h5 : ∀ i y : Nat, i < 4 → y < 16 → gI (sI h 118 17 (k + 1)) 123 (16 * (4 + i) + y) = u D 14 0 (k + 1) (100 + i) y := fun i y hi hy => by
    rw [rd_r (by decide), u, if_neg (fun q => by omega)]
    exact a5 i y hi hy
  refine ⟨⟨b1, b2, b3, b4, b5, b6, b7, b8, rfl⟩, a2, a3, a4, h5, fun x x0 xm => ?_, a7, a8, a9, a10⟩
  have xm2 : x < k + 1 := xm
  rw [rd_r (by decide), rd_r (by decide), u, if_neg (fun q => by omega), u, if_neg (fun q => by omega)]
  by_cases c : x = k
  · rw [c]
    exact ⟨e1, e2⟩
  · exact a6 x x0 (by rw [ek]; exact lt_sc c xm2 m2)
