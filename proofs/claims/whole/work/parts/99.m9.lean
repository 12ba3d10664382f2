/-! JOB: the invariant behind it -/
theorem to8 {i : Int32} (h : 0 ≤ i) (g : i < 8) : ∃ q : Nat, q ≤ 7 ∧ i = nI q := nI_of2 (M := 7) rfl (by grind) (by grind)
theorem lt_tr8 {k d : Int32} (h : k < d) (g : d ≤ 8) : k < 8 := by grind
theorem sj_ix : ∀ i : Fin 4, ∀ k w : Fin 3, ((9 : Int32) * nI i.val + 3 * nI k.val + nI w.val).toNatClampNeg = 9 * i.val + 3 * k.val + w.val := by decide +kernel
theorem lj_ix : ∀ a c : Fin 4, ((4 : Int32) * nI a.val + nI c.val).toNatClampNeg = 4 * a.val + c.val := by decide +kernel
theorem JobI.lo {j : Nat} {h h2 : AH} (I : JobI j h) (a : ∀ r ∈ [j, j + 1, j + 2, j + 3, j + 4, j + 7, j + 9, j + 11, j + 13, j + 14, j + 15, j + 16, j + 18], Ag h h2 r) (a2 : gI h2 116 20 = gI h 116 20) (lo : ∀ r k, 118 ≤ r → r ≤ 126 → k < lo2 r → gI h2 r k = gI h r k) : JobI j h2 := by
  have e0 := (a j (List.mem_of_getElem? (i := 0) rfl)).1
  have e1 := (a (j + 1) (List.mem_of_getElem? (i := 1) rfl)).1
  have e2 := (a (j + 2) (List.mem_of_getElem? (i := 2) rfl)).1
  have e3 := (a (j + 3) (List.mem_of_getElem? (i := 3) rfl)).1
  have e4 := (a (j + 4) (List.mem_of_getElem? (i := 4) rfl)).1
  have e9 := (a (j + 14) (List.mem_of_getElem? (i := 9) rfl)).1
  have e10 := (a (j + 15) (List.mem_of_getElem? (i := 10) rfl)).1
  have e11 := (a (j + 16) (List.mem_of_getElem? (i := 11) rfl)).1
  have e12 := (a (j + 18) (List.mem_of_getElem? (i := 12) rfl)).1
  obtain ⟨N, ⟨r1, r2, r3, r4, r5⟩, S⟩ := I
  refine ⟨?_, ⟨?_, ?_, ?_, ?_, ?_⟩, ?_⟩
  · unfold JobNum at N ⊢
    rw [e0, e9, a2, lo 118 0 (by decide) (by decide) (by decide), lo 118 1 (by decide) (by decide) (by decide), lo 118 2 (by decide) (by decide) (by decide), lo 118 3 (by decide) (by decide) (by decide), lo 118 4 (by decide) (by decide) (by decide), lo 118 5 (by decide) (by decide) (by decide), lo 118 6 (by decide) (by decide) (by decide), lo 118 7 (by decide) (by decide) (by decide), lo 118 8 (by decide) (by decide) (by decide)]
    exact N
  · intro x x0 xm
    rw [e0] at xm
    have T := r1 x x0 xm
    obtain ⟨n, n7, rfl⟩ := to8 x0 (lt_tr8 xm N.2.2.2.1.2.2)
    rw [nI_clamp (by omega)] at T ⊢
    rw [e1, e2, lo 119 n (by decide) (by decide) (show n < 8 by omega), lo 120 n (by decide) (by decide) (show n < 8 by omega)]
    exact T
  · intro x x0 xm
    have T := r2 x x0 xm
    obtain ⟨n, n7, rfl⟩ := to4 ⟨x0, xm⟩
    rw [nI_clamp (by omega)] at T ⊢
    rw [e3, lo 121 n (by decide) (by decide) (show n < 4 by omega)]
    exact T
  · intro i k w p1 p2 p3 p4 p5 p6
    rw [e3] at p4
    have T := r3 i k w p1 p2 p3 p4 p5 p6
    have U := r2 i p1 p2
    obtain ⟨n, n3, rfl⟩ := to4 ⟨p1, p2⟩
    obtain ⟨k', k2', rfl⟩ := to3 ⟨p3, lt_tr3 p4 U.2.2⟩
    obtain ⟨z', z2', rfl⟩ := to3 ⟨p5, p6⟩
    have B := sj_ix ⟨n, by omega⟩ ⟨k', by omega⟩ ⟨z', by omega⟩
    simp only at B
    rw [B] at T ⊢
    rw [e4, lo 122 _ (by decide) (by decide) (show 9 * n + 3 * k' + z' < 36 by omega)]
    exact T
  · intro x x0 xm
    rw [e9] at xm
    have T := r4 x x0 xm
    obtain ⟨n, n7, rfl⟩ := to8 x0 (lt_tr8 xm N.2.2.2.2.2.2.2.2.2.2.2)
    rw [nI_clamp (by omega)] at T ⊢
    rw [e10, e11, lo 124 n (by decide) (by decide) (show n < 8 by omega), lo 125 n (by decide) (by decide) (show n < 8 by omega)]
    exact T
  · intro x y p1 p2 p3 p4
    have T := r5 x y p1 p2 p3 p4
    obtain ⟨n, n3, rfl⟩ := to4 ⟨p1, p2⟩
    obtain ⟨m, m3, rfl⟩ := to4 ⟨p3, p4⟩
    have B := lj_ix ⟨n, by omega⟩ ⟨m, by omega⟩
    simp only at B
    rw [B] at T ⊢
    rw [e12, lo 126 _ (by decide) (by decide) (show 4 * n + m < 16 by omega)]
    exact T
  · intro i y hi hy
    have e5 : Ag h h2 (j + 7 + 2 * i) := a _ (by
      rcases (show i = 0 ∨ i = 1 ∨ i = 2 ∨ i = 3 by omega) with rfl | rfl | rfl | rfl <;> simp)
    rw [brow_ag e5, lo 123 _ (by decide) (by decide) (show 16 * i + y < 64 by omega)]
    exact S i y hi hy
theorem jobI_new {h9 h7 : AH} {d : Nat} {D : DD} (C : ∀ r k, r < 19 → gI h9 (d + r) k = D r k) (B : ∀ i y, i < 4 → y < 16 → brow h9 (d + 7 + 2 * i) y = D (100 + i) y) (S : ∀ r k, 118 ≤ r → r ≤ 126 → k < lo2 r → gI h9 r k = gI h7 r (lo2 r + k)) (H : DM h7 D) (K : DOK D) (e20 : gI h9 116 20 = D 0 0) : JobI d h9 := by
  obtain ⟨⟨b1, b2, b3, b4, b5, b6, b7, b8, b9⟩, a2, a3, a4, a5, a6, a7, a8, a9, a10⟩ := H
  obtain ⟨⟨c1, c2, c3, c4, c5, c6, c7, c8, c9⟩, k2, k3, k4, k5, k6⟩ := K
  have C0 : ∀ k, gI h9 d k = D 0 k := fun k => C 0 k (by decide)
  refine ⟨?_, ⟨?_, ?_, ?_, ?_, ?_⟩, ?_⟩
  · unfold JobNum
    rw [C0, C0, C0, C0, C0, C0, C0, C0, C0, C 14 0 (by decide), e20, S 118 0 (by decide) (by decide) (by decide), S 118 1 (by decide) (by decide) (by decide), S 118 2 (by decide) (by decide) (by decide), S 118 3 (by decide) (by decide) (by decide), S 118 4 (by decide) (by decide) (by decide), S 118 5 (by decide) (by decide) (by decide), S 118 6 (by decide) (by decide) (by decide), S 118 7 (by decide) (by decide) (by decide), S 118 8 (by decide) (by decide) (by decide)]
    exact ⟨rfl, ⟨b1.symm, c1⟩, ⟨b2.symm, c2⟩, ⟨b3.symm, c3⟩, ⟨b4.symm, c4⟩, ⟨b5.symm, c5⟩, ⟨b6.symm, c6⟩, ⟨b7.symm, c7⟩, ⟨b8.symm, c8⟩, ⟨b9.symm, c9⟩⟩
  · intro x x0 xm
    rw [C0] at xm
    have T := a2 x x0 xm
    have U := k2 x x0 xm
    obtain ⟨n, n7, rfl⟩ := to8 x0 (lt_tr8 xm c3.2)
    rw [show (8 : Int32) + nI n = nI (8 + n) from nI_add 8 n, nI_clamp (by omega), nI_clamp (by omega)] at T
    rw [nI_clamp (by omega)] at U ⊢
    rw [C 1 n (by decide), C 2 n (by decide), S 119 n (by decide) (by decide) (show n < 8 by omega), S 120 n (by decide) (by decide) (show n < 8 by omega)]
    exact ⟨T.1.symm, U.1, T.2.symm, U.2⟩
  · intro x x0 xm
    obtain ⟨n, n7, rfl⟩ := to4 ⟨x0, xm⟩
    rw [nI_clamp (by omega), C 3 n (by decide), S 121 n (by decide) (by decide) (show n < 4 by omega)]
    exact ⟨(a3 n (by omega)).symm, k3 n (by omega)⟩
  · intro i k w p1 p2 p3 p4 p5 p6
    rw [C 3 _ (by decide)] at p4
    have T := a4 i k w p1 p2 p3 p4 p5 p6
    have U := k4 i k w p1 p2 p3 p4 p5 p6
    obtain ⟨n, n3, rfl⟩ := to4 ⟨p1, p2⟩
    rw [nI_clamp (by omega)] at p4
    obtain ⟨k', k2', rfl⟩ := to3 ⟨p3, lt_tr3 p4 (k3 n (by omega)).2⟩
    obtain ⟨z', z2', rfl⟩ := to3 ⟨p5, p6⟩
    have B := sj_ix ⟨n, by omega⟩ ⟨k', by omega⟩ ⟨z', by omega⟩
    have A := sc_ix ⟨n, by omega⟩ ⟨k', by omega⟩ ⟨z', by omega⟩
    simp only at A B
    rw [A.1, A.2.1] at T
    rw [A.2.1] at U
    rw [B, C 4 _ (by decide), S 122 _ (by decide) (by decide) (show 9 * n + 3 * k' + z' < 36 by omega)]
    refine ⟨?_, U⟩
    rw [← T]
    show gI h7 122 _ = gI h7 122 (36 + (9 * n + 3 * k' + z'))
    rw [show 36 + (9 * n + 3 * k' + z') = 36 + 9 * n + 3 * k' + z' by omega]
  · intro x x0 xm
    rw [C 14 0 (by decide)] at xm
    have T := a6 x x0 xm
    have U := k5 x x0 xm
    obtain ⟨n, n7, rfl⟩ := to8 x0 (lt_tr8 xm c9.2)
    rw [show (8 : Int32) + nI n = nI (8 + n) from nI_add 8 n, nI_clamp (by omega), nI_clamp (by omega)] at T
    rw [nI_clamp (by omega)] at U ⊢
    rw [C 15 n (by decide), C 16 n (by decide), S 124 n (by decide) (by decide) (show n < 8 by omega), S 125 n (by decide) (by decide) (show n < 8 by omega)]
    exact ⟨T.1.symm, U.1, T.2.symm, U.2⟩
  · intro x y p1 p2 p3 p4
    have T := a7 x y p1 p2 p3 p4
    obtain ⟨n, n3, rfl⟩ := to4 ⟨p1, p2⟩
    obtain ⟨m, m3, rfl⟩ := to4 ⟨p3, p4⟩
    have B := lj_ix ⟨n, by omega⟩ ⟨m, by omega⟩
    have A := li_ix ⟨n, by omega⟩ ⟨m, by omega⟩ 0 0
    simp only at A B
    rw [A.1, A.2.1] at T
    rw [B, C 18 _ (by decide), S 126 _ (by decide) (by decide) (show 4 * n + m < 16 by omega)]
    show (_ → _ = gI h7 126 (16 + (4 * n + m)) ∧ _) ∧ (_ → gI h7 126 (16 + (4 * n + m)) = _)
    rw [show 16 + (4 * n + m) = 16 + 4 * n + m by omega]
    exact ⟨fun q => ⟨(T.1 q).symm, k6 _ (by omega)⟩, T.2⟩
  · intro i y hi hy
    rw [B i y hi hy, S 123 _ (by decide) (by decide) (show 16 * i + y < 64 by omega)]
    show _ = gI h7 123 (64 + (16 * i + y))
    rw [show 64 + (16 * i + y) = 16 * (4 + i) + y by omega]
    exact (a5 i y hi hy).symm
