theorem cl_inj {x y : Int32} (hx : 0 ≤ x) (hy : 0 ≤ y) (e : x.toNatClampNeg = y.toNatClampNeg) : x = y := by rw [← cl_nI hx, ← cl_nI hy, e]
def readOk (L m x1 x2 x3 x4 x5 : Int32) : Prop := (0 ≤ x1 ∧ L ≤ x1 ∧ x1 ≤ 999) ∧ (0 ≤ x2 ∧ x2 < 4) ∧ (0 ≤ x3 ∧ x3 < m) ∧ ((-99) ≤ x4 ∧ x4 ≤ 99) ∧ ((-99) ≤ x5 ∧ x5 ≤ 99)
theorem c12_read {g : AH} {P : Option Value → AH → Prop} {x1 x2 x3 x4 x5 : Int32} (w : Wf g) (hL : 0 ≤ gI g 116 25) (hm : inr (gI g 118 2) 0 8) (hn : inr (gI g 116 23) 0 24) (k1 : ¬ readOk (gI g 116 25) (gI g 118 2) x1 x2 x3 x4 x5 → P (some (.int (-2))) g) (k2 : readOk (gI g 116 25) (gI g 118 2) x1 x2 x3 x4 x5 → gI g 116 23 = 24 → P (some (.int (-3))) g)
    (k3 : readOk (gI g 116 25) (gI g 118 2) x1 x2 x3 x4 x5 → ¬ gI g 116 23 = 24 → P (some (.int (gI g 116 23))) (sI (sI (sI (sI (sI (sI (sI g 116 25 x1) 127 (gI g 116 23).toNatClampNeg x1) 128 (gI g 116 23).toNatClampNeg x2) 129 (gI g 116 23).toNatClampNeg x3) 130 (gI g 116 23).toNatClampNeg x4) 131 (gI g 116 23).toNatClampNeg x5) 116 23 (gI g 116 23 + 1))) :
    Call mX12_read [.ref 116, .int x1, .int x2, .int x3, .int x4, .int x5] g P := by
  unfold inr at hm hn
  unfold readOk at k1 k2 k3
  refine Call.ofR (by decide +kernel) (Nat.le_of_ble_eq_true rfl) (sX12_read_0 g 116 x1 x2 x3 x4 x5 ?_)
  rw [w.f116_11, w.f116_26, w.f116_27, w.f116_28, w.f116_29, w.f116_30, show (Int32.toNatClampNeg 2) = 2 from rfl]
  have wa : ∀ n, (127 ≤ n ∧ n ≤ 131) → isA g 0 n ∧ ln n = 24 := fun n hn => by
    rcases (show n = 127 ∨ n = 128 ∨ n = 129 ∨ n = 130 ∨ n = 131 by omega) with rfl | rfl | rfl | rfl | rfl <;> exact ⟨w.a (by decide) rfl, rfl⟩
  refine ⟨w.o (by decide) rfl, fun c => k1 (by grind), fun c => ⟨fun c2 => k1 (by grind), fun c2 => ⟨w.a (by decide) rfl, by show vp_in 2 18; rw [vin_18]; decide, fun c3 => k1 (by grind), fun c3 => ⟨fun c4 => k1 (by grind), fun c4 => ⟨fun c5 => ⟨fun c6 => ?_, fun c6 => k2 (by grind) c6⟩, fun c5 => k1 (by grind)⟩⟩⟩⟩⟩
  have v24 : vp_in (gI g 116 23) 24 := by rw [vin_24]; grind
  refine ⟨(wa 127 (by decide)).1, v24, (wa 128 (by decide)).1, v24, (wa 129 (by decide)).1, v24, (wa 130 (by decide)).1, v24, (wa 131 (by decide)).1, v24, ?_⟩
  have e : gI g 116 23 + 1 - 1 = gI g 116 23 := by grind
  rw [e]
  exact k3 (by grind) c6
theorem c11_read {j : Nat} {g : AH} {P : Option Value → AH → Prop} {x1 x2 x3 x4 x5 : Int32} (w : Wf g) (hj : gF g 0 2 = j) (hL : 0 ≤ gI g 42 2) (hn : inr (gI g 42 0) 0 24) (k1 : ¬ readOk (gI g 42 2) (gI g j 3) x1 x2 x3 x4 x5 → P (some (.int (-2))) g) (k2 : readOk (gI g 42 2) (gI g j 3) x1 x2 x3 x4 x5 → gI g 42 0 = 24 → P (some (.int (-3))) g)
    (k3 : readOk (gI g 42 2) (gI g j 3) x1 x2 x3 x4 x5 → ¬ gI g 42 0 = 24 → P (some (.int (gI g 42 0))) (sI (sI (sI (sI (sI (sI (sI g 43 (gI g 42 0).toNatClampNeg x1) 44 (gI g 42 0).toNatClampNeg x2) 45 (gI g 42 0).toNatClampNeg x3) 46 (gI g 42 0).toNatClampNeg x4) 47 (gI g 42 0).toNatClampNeg x5) 42 2 x1) 42 0 (gI g 42 0 + 1))) :
    Call mX11_read [.ref 0, .int x1, .int x2, .int x3, .int x4, .int x5] g P := by
  unfold inr at hn
  unfold readOk at k1 k2 k3
  obtain ⟨hO, -⟩ := job_refs w hj
  refine Call.ofR (by decide +kernel) (Nat.le_of_ble_eq_true rfl) (sX11_read_0 g 0 x1 x2 x3 x4 x5 ?_)
  rw [w.f0_3, hj]
  refine ⟨w.o (by decide) rfl, w.o (by decide) rfl, fun c => k1 (by grind), fun c => ⟨fun c2 => k1 (by grind), fun c2 => ⟨fun c3 => k1 (by grind), fun c3 => ⟨hO, fun c4 => ?_, fun c4 => k1 (by grind)⟩⟩⟩⟩
  refine Call.ofR (by decide +kernel) (Nat.le_of_ble_eq_true rfl) (sX7_put_0 g 42 x1 x2 x3 x4 x5 ?_)
  rw [w.f42_3, w.f42_4, w.f42_5, w.f42_6, w.f42_7]
  refine ⟨w.o (by decide) rfl, fun c5 => ?_, fun c5 => ⟨_, rfl, k2 (by grind) (by grind)⟩⟩
  have v24 : vp_in (gI g 42 0) 24 := by rw [vin_24]; grind
  refine ⟨w.a (by decide) rfl, v24, w.a (by decide) rfl, v24, w.a (by decide) rfl, v24, w.a (by decide) rfl, v24, w.a (by decide) rfl, v24, _, rfl, ?_⟩
  have e : gI g 42 0 + 1 - 1 = gI g 42 0 := by grind
  rw [e]
  exact k3 (by grind) (by grind)
theorem read_s2 (h : AH) (n : Int32) (N : Nat) (x1 x2 x3 x4 x5 : Int32) (r k : Nat) : gI (sI (sI (sI (sI (sI (sI (sI (sI (sI (sI (sI (sI (sI (sI h 43 N x1) 44 N x2) 45 N x3) 46 N x4) 47 N x5) 42 2 x1) 42 0 (n + 1)) 116 25 x1) 127 N x1) 128 N x2) 129 N x3) 130 N x4) 131 N x5) 116 23 (n + 1)) r k = if r = 116 then (if k = 23 then n + 1 else if k = 25 then x1 else gI h 116 k) else if r = 42 then (if k = 0 then n + 1 else if k = 2 then x1 else gI h 42 k) else if k = N then (if r = 43 ∨ r = 127 then x1 else if r = 44 ∨ r = 128 then x2 else if r = 45 ∨ r = 129 then x3 else if r = 46 ∨ r = 130 then x4 else if r = 47 ∨ r = 131 then x5 else gI h r k) else gI h r k := by
  simp only [gI_sI']
  by_cases a1 : r = 116
  · subst a1
    simp
  · by_cases a2 : r = 42
    · subst a2
      simp
    · by_cases a3 : k = N
      · subst a3
        simp only [a1, a2, false_and, and_true, if_false, if_true]
        generalize gI h r k = g0
        grind (splits := 24)
      · simp [a1, a2, a3]
theorem pr_read {j : Nat} {h : AH} (I : Inv j h) (x1 x2 x3 x4 x5 : Int32) : Pair mX11_read mX12_read [.int x1, .int x2, .int x3, .int x4, .int x5] h := by
  have w := I.1
  obtain ⟨-, hj, ti, fi, ji, ⟨r1, r2, r3, r4, r5, r6, r7, r8⟩, mi, si, pi, li⟩ := id I
  have hm := ji.1.2.2.2.1
  have hL : 0 ≤ gI h 42 2 := r6.1
  refine c11_read w hj hL r1 (fun c => ?_) (fun c c2 => ?_) (fun c c2 => ?_)
  · exact c12_read w (by rw [← r5]; exact hL) (by rw [← hm.1]; exact hm.2) (by rw [r3]; exact r1) (fun _ => ⟨rfl, ⟨_, rfl⟩, j, I⟩) (fun q => absurd (by rw [r5, hm.1]; exact q) c) (fun q => absurd (by rw [r5, hm.1]; exact q) c)
  · exact c12_read w (by rw [← r5]; exact hL) (by rw [← hm.1]; exact hm.2) (by rw [r3]; exact r1) (fun q => absurd (by rw [← r5, ← hm.1]; exact c) q) (fun _ _ => ⟨rfl, ⟨_, rfl⟩, j, I⟩) (fun _ q => absurd (by rw [r3]; exact c2) q)
  · generalize hn : gI h 42 0 = n at *
    generalize hN : n.toNatClampNeg = N at *
    generalize hh1 : (sI (sI (sI (sI (sI (sI (sI h 43 N x1) 44 N x2) 45 N x3) 46 N x4) 47 N x5) 42 2 x1) 42 0 (n + 1)) = h1
    have F1 : Fr [42, 43, 44, 45, 46, 47] h h1 := by
      rw [← hh1]
      exact ((((((Fr.sI (by decide)).tr (Fr.sI (by decide))).tr (Fr.sI (by decide))).tr (Fr.sI (by decide))).tr (Fr.sI (by decide))).tr (Fr.sI (by decide))).tr (Fr.sI (by decide))
    have w1 := F1.wf w
    have e116 : ∀ k, gI h1 116 k = gI h 116 k := F1.I (by decide)
    have e118 : ∀ k, gI h1 118 k = gI h 118 k := F1.I (by decide)
    refine c12_read w1 (by rw [e116, ← r5]; exact hL) (by rw [e118, ← hm.1]; exact hm.2) (by rw [e116, r3]; exact r1) (fun q => absurd (by rw [e116, e118, ← r5, ← hm.1]; exact c) q) (fun _ q => absurd (by rw [e116, r3] at q; exact q) c2) (fun _ _ => ?_)
    rw [e116, r3, hN]
    refine ⟨rfl, ⟨_, rfl⟩, j, ?_⟩
    generalize hh2 : (sI (sI (sI (sI (sI (sI (sI h1 116 25 x1) 127 N x1) 128 N x2) 129 N x3) 130 N x4) 131 N x5) 116 23 (n + 1)) = h2
    have F2 : Fr [116, 127, 128, 129, 130, 131] h1 h2 := by
      rw [← hh2]
      exact ((((((Fr.sI (by decide)).tr (Fr.sI (by decide))).tr (Fr.sI (by decide))).tr (Fr.sI (by decide))).tr (Fr.sI (by decide))).tr (Fr.sI (by decide))).tr (Fr.sI (by decide))
    have F : Fr [42, 43, 44, 45, 46, 47, 116, 127, 128, 129, 130, 131] h h2 := (F1.up (by decide)).tr (F2.up (by decide))
    have s116 : ∀ k, k ≠ 23 → k ≠ 25 → gI h2 116 k = gI h 116 k := fun k q1 q2 => by
      rw [← hh2]
      simp [gI_sI', q1, q2, e116]
    have s2 : ∀ r k, gI h2 r k = if r = 116 then (if k = 23 then n + 1 else if k = 25 then x1 else gI h 116 k) else if r = 42 then (if k = 0 then n + 1 else if k = 2 then x1 else gI h 42 k) else if k = N then (if r = 43 ∨ r = 127 then x1 else if r = 44 ∨ r = 128 then x2 else if r = 45 ∨ r = 129 then x3 else if r = 46 ∨ r = 130 then x4 else if r = 47 ∨ r = 131 then x5 else gI h r k) else gI h r k := fun r k => by
      rw [← hh2, ← hh1]
      exact read_s2 h n N x1 x2 x3 x4 x5 r k
    have hjj := jcase w hj
    unfold readOk at c
    unfold inr at r1
    refine ⟨F.wf w, (F.2.1 0 2).trans hj, ti.keep (F.I (by decide) _) (F.ag (by decide)) (s116 _ (by decide) (by decide)) (F.ag (by decide)), fi.keep (F.I (by decide) _) (F.I (by decide) _) (s116 _ (by decide) (by decide)) (s116 _ (by decide) (by decide)), ji.keep (fun r hr => F.ag (by rcases hjj with rfl | rfl <;> revert r <;> decide)) (s116 _ (by decide) (by decide)), ⟨?_, ?_, ?_, ?_, ?_, ?_, ?_, ?_⟩, mi.keep (F.I (by decide) _) (F.ag (by decide)) (s116 _ (by decide) (by decide)) (F.ag (by decide)), si.keep (F.I (by decide) _) (F.I (by decide) _) (F.I (by decide) _) (s116 _ (by decide) (by decide)) (s116 _ (by decide) (by decide)) (s116 _ (by decide) (by decide)), pi.keep (F.I (by decide) _) (s116 _ (by decide) (by decide)) (fun r hr => F.ag (by revert r; decide)), li.keep (F.I (by decide) _) (F.I (by decide) _) (F.ag (by decide)) (s116 _ (by decide) (by decide)) (F.ag (by decide))⟩
    · simp only [s2]
      simp only [reduceIte]
      unfold inr
      grind
    · simp [s2]
      exact r2
    · simp [s2]
    · simp [s2]
      exact r4
    · simp [s2]
    · simp [s2]
      unfold inr
      grind
    · intro x p1 p2
      have p3 : x < n ∨ x = n := by simp [s2] at p2; grind
      have hj3 : gI h2 j 3 = gI h j 3 := F.I (by rcases hjj with rfl | rfl <;> decide) 3
      rw [hj3]
      rcases p3 with p3 | p3
      · have q := r7 x p1 p3
        have ne : x.toNatClampNeg ≠ N := fun e => by
          have := cl_inj p1 r1.1 (e.trans hN.symm)
          grind
        simp only [s2, ne, reduceIte, Nat.reduceEqDiff]
        exact q
      · rw [p3, hN]
        simp [s2]
        unfold inr
        grind
    · intro x p1 p2
      have p3 : x < gI h 42 1 := by simp [s2] at p2; exact p2
      have q := r8 x p1 p3
      have a1 : gI h2 48 = gI h 48 := (F.ag (by decide)).1
      have a2 : gI h2 49 = gI h 49 := (F.ag (by decide)).1
      have a3 : gI h2 50 = gI h 50 := (F.ag (by decide)).1
      have a4 : gI h2 51 = gI h 51 := (F.ag (by decide)).1
      have b1 : gI h2 132 = gI h 132 := (F.ag (by decide)).1
      have b2 : gI h2 133 = gI h 133 := (F.ag (by decide)).1
      have b3 : gI h2 134 = gI h 134 := (F.ag (by decide)).1
      have b4 : gI h2 135 = gI h 135 := (F.ag (by decide)).1
      have e42 : gI h2 42 0 = n + 1 := by simp [s2]
      rw [a1, a2, a3, a4, b1, b2, b3, b4, e42]
      unfold inr at q ⊢
      grind
