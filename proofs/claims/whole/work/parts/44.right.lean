def icnt (f : Nat → Int32) (v : Int32) : Nat → Int32
  | 0 => 0
  | n + 1 => icnt f v n + bi (f n = v)
theorem icnt_congr {f g : Nat → Int32} {v : Int32} : ∀ {n : Nat}, (∀ i, i < n → f i = g i) → icnt f v n = icnt g v n
  | 0, _ => rfl
  | n + 1, e => by
    show icnt f v n + bi (f n = v) = icnt g v n + bi (g n = v)
    rw [icnt_congr (fun i hi => e i (by omega)), e n (by omega)]
theorem times_loop {h : AH} {P : Option Value → AH → Prop} (w : Wf h) (v : Int32) (N : Nat) (hN : N ≤ 20) (he : gI h 42 1 = nI N) : ∀ (n i : Nat), i + n = N → P (some (.int (icnt (gI h 48) v N))) h → Rr mX7_timesRight 0 0 4 [(0, .ref 42), (1, .int v), (2, .int (icnt (gI h 48) v i)), (3, .int (nI i))] [] h P
  | 0, i, hn, hP => by
    refine sX7_timesRight_4 h 42 _ _ _ ⟨w.o (by decide) rfl, fun c => ?_, fun c => ?_⟩
    · rw [show i = N by omega]
      exact hP
    · exfalso
      rw [he] at c
      exact c (nI_le (by omega) (by omega))
  | n + 1, i, hn, hP => by
    refine sX7_timesRight_4 h 42 _ _ _ ⟨w.o (by decide) rfl, fun c => ?_, fun c => ?_⟩
    · exfalso
      rw [he] at c
      exact nI_ge (a := i) (b := N) (by omega) (by omega) c
    · rw [w.f42_8]
      refine ⟨w.a (by decide) rfl, vp_in_nI (N := 20) (by omega) (by omega), ?_⟩
      rintro z rfl
      rw [nI_clamp (by omega), nI_1]
      have e : (if gI h 48 i = v then icnt (gI h 48) v i + 1 else icnt (gI h 48) v i) = icnt (gI h 48) v (i + 1) := by
        show _ = icnt (gI h 48) v i + bi (gI h 48 i = v)
        unfold bi
        grind
      rw [e]
      exact times_loop w v N hN he n (i + 1) (by omega) hP
theorem right_loop {h : AH} {P : Option Value → AH → Prop} (w : Wf h) (v : Int32) (N : Nat) (hN : N ≤ 20) (he : gI h 116 24 = nI N) : ∀ (n i : Nat), i + n = N → P (some (.int (icnt (gI h 133) v N))) h → Rr mX12_right 0 0 128 [(0, .ref 116), (2, .int v), (5, .int (icnt (gI h 133) v i)), (6, .int (nI i))] [] h P
  | 0, i, hn, hP => by
    refine sX12_right_128 h 116 _ _ _ ⟨w.o (by decide) rfl, fun c => ?_, fun c => ?_⟩
    · rw [show i = N by omega]
      exact hP
    · exfalso
      rw [he] at c
      exact c (nI_le (by omega) (by omega))
  | n + 1, i, hn, hP => by
    refine sX12_right_128 h 116 _ _ _ ⟨w.o (by decide) rfl, fun c => ?_, fun c => ?_⟩
    · exfalso
      rw [he] at c
      exact nI_ge (a := i) (b := N) (by omega) (by omega) c
    · rw [w.f116_32]
      refine ⟨w.a (by decide) rfl, vp_in_nI (N := 20) (by omega) (by omega), ?_⟩
      rw [nI_clamp (by omega), nI_1]
      exact right_loop w v N hN he n (i + 1) (by omega) hP
def rightOk (L m x1 x2 x4 x5 : Int32) : Prop := (0 ≤ x1 ∧ L ≤ x1 ∧ x1 ≤ 999) ∧ (0 ≤ x2 ∧ x2 < m) ∧ ((-99) ≤ x4 ∧ x4 ≤ 99) ∧ ((-99) ≤ x5 ∧ x5 ≤ 99)
theorem cl_le {x : Int32} {n : Nat} (h : 0 ≤ x) (h2 : x ≤ nI n) (hn : n < 1000) : x.toNatClampNeg ≤ n := by
  rw [ti_le] at h h2
  rw [nI_toInt (by omega)] at h2
  show x.toInt.toNat ≤ n
  have e0 : (0 : Int32).toInt = 0 := rfl
  omega
theorem cl_succ {x : Int32} (h : 0 ≤ x) (h2 : x < 1000) : x + 1 = nI (x.toNatClampNeg + 1) := by
  rw [← nI_1, cl_nI h]
theorem c12_right {g : AH} {P : Option Value → AH → Prop} {x1 x2 x3 x4 : Int32} (w : Wf g) (hL : 0 ≤ gI g 116 25) (hn : inr (gI g 116 23) 0 24) (hm : inr (gI g 116 24) 0 20) (k1 : ¬ rightOk (gI g 116 25) (gI g 116 23) x1 x2 x3 x4 → P (some (.int (-2))) g) (k2 : rightOk (gI g 116 25) (gI g 116 23) x1 x2 x3 x4 → gI g 116 24 = 20 → P (some (.int (-3))) g)
    (k3 : rightOk (gI g 116 25) (gI g 116 23) x1 x2 x3 x4 → ¬ gI g 116 24 = 20 → ∀ g2, g2 = (sI (sI (sI (sI (sI (sI g 116 25 x1) 132 (gI g 116 24).toNatClampNeg x1) 133 (gI g 116 24).toNatClampNeg x2) 134 (gI g 116 24).toNatClampNeg x3) 135 (gI g 116 24).toNatClampNeg x4) 116 24 (gI g 116 24 + 1)) → P (some (.int (icnt (gI g2 133) x2 ((gI g 116 24).toNatClampNeg + 1)))) g2) :
    Call mX12_right [.ref 116, .int x1, .int x2, .int x3, .int x4] g P := by
  unfold inr at hm hn
  unfold rightOk at k1 k2 k3
  refine Call.ofR (by decide +kernel) (Nat.le_of_ble_eq_true rfl) (sX12_right_0 g 116 x1 x2 x3 x4 ?_)
  rw [w.f116_31, w.f116_32, w.f116_33, w.f116_34]
  refine ⟨w.o (by decide) rfl, fun c => k1 (by grind), fun c => ⟨fun c2 => k1 (by grind), fun c2 => ⟨fun c4 => k1 (by grind), fun c4 => ⟨fun c5 => ⟨fun c6 => ?_, fun c6 => k2 (by grind) c6⟩, fun c5 => k1 (by grind)⟩⟩⟩⟩
  have v20 : vp_in (gI g 116 24) 20 := by rw [vin_20]; grind
  refine ⟨w.a (by decide) rfl, v20, w.a (by decide) rfl, v20, w.a (by decide) rfl, v20, w.a (by decide) rfl, v20, ?_⟩
  have k4 := k3 (by grind) c6
  have hle : (gI g 116 24).toNatClampNeg + 1 ≤ 20 := by
    have := cl_le (x := gI g 116 24) (n := 19) hm.1 (by show _ ≤ (19 : Int32); grind) (by decide)
    omega
  have hsu := cl_succ hm.1 (by grind)
  generalize hg2 : (sI (sI (sI (sI (sI (sI g 116 25 x1) 132 (gI g 116 24).toNatClampNeg x1) 133 (gI g 116 24).toNatClampNeg x2) 134 (gI g 116 24).toNatClampNeg x3) 135 (gI g 116 24).toNatClampNeg x4) 116 24 (gI g 116 24 + 1)) = g2 at k4 ⊢
  have F2 : Fr [116, 132, 133, 134, 135] g g2 := by
    rw [← hg2]
    exact (((((Fr.sI (by decide)).tr (Fr.sI (by decide))).tr (Fr.sI (by decide))).tr (Fr.sI (by decide))).tr (Fr.sI (by decide))).tr (Fr.sI (by decide))
  exact right_loop (F2.wf w) x2 _ hle (by rw [← hg2, ← hsu]; exact rd_h) _ 0 (Nat.zero_add _) (k4 _ rfl)
theorem c11_right {g : AH} {P : Option Value → AH → Prop} {x1 x2 x3 x4 : Int32} (w : Wf g) (hL : 0 ≤ gI g 42 2) (hn : inr (gI g 42 0) 0 24) (hm : inr (gI g 42 1) 0 20) (k1 : ¬ rightOk (gI g 42 2) (gI g 42 0) x1 x2 x3 x4 → P (some (.int (-2))) g) (k2 : rightOk (gI g 42 2) (gI g 42 0) x1 x2 x3 x4 → gI g 42 1 = 20 → P (some (.int (-3))) g)
    (k3 : rightOk (gI g 42 2) (gI g 42 0) x1 x2 x3 x4 → ¬ gI g 42 1 = 20 → ∀ g2, g2 = (sI (sI (sI (sI (sI (sI g 48 (gI g 42 1).toNatClampNeg x2) 49 (gI g 42 1).toNatClampNeg x1) 50 (gI g 42 1).toNatClampNeg x3) 51 (gI g 42 1).toNatClampNeg x4) 42 2 x1) 42 1 (gI g 42 1 + 1)) → P (some (.int (icnt (gI g2 48) x2 ((gI g 42 1).toNatClampNeg + 1)))) g2) :
    Call mX11_right [.ref 0, .int x1, .int x2, .int x3, .int x4] g P := by
  unfold inr at hm hn
  unfold rightOk at k1 k2 k3
  refine Call.ofR (by decide +kernel) (Nat.le_of_ble_eq_true rfl) (sX11_right_0 g 0 x1 x2 x3 x4 ?_)
  rw [w.f0_3]
  refine ⟨w.o (by decide) rfl, w.o (by decide) rfl, fun c => k1 (by grind), fun c => ⟨fun c2 => k1 (by grind), fun c2 => ⟨fun c4 => ?_, fun c4 => k1 (by grind)⟩⟩⟩
  refine Call.ofR (by decide +kernel) (Nat.le_of_ble_eq_true rfl) (sX7_putRight_0 g 42 x1 x2 x3 x4 ?_)
  rw [w.f42_8, w.f42_9, w.f42_10, w.f42_11]
  refine ⟨w.o (by decide) rfl, fun c5 => ?_, fun c5 => ⟨_, rfl, k2 (by grind) (by grind)⟩⟩
  have v20 : vp_in (gI g 42 1) 20 := by rw [vin_20]; grind
  refine ⟨w.a (by decide) rfl, v20, w.a (by decide) rfl, v20, w.a (by decide) rfl, v20, w.a (by decide) rfl, v20, ?_⟩
  have k4 := k3 (by grind) (by grind)
  have hle : (gI g 42 1).toNatClampNeg + 1 ≤ 20 := by
    have := cl_le (x := gI g 42 1) (n := 19) hm.1 (by show _ ≤ (19 : Int32); grind) (by decide)
    omega
  have hsu := cl_succ hm.1 (by grind)
  generalize hg2 : (sI (sI (sI (sI (sI (sI g 48 (gI g 42 1).toNatClampNeg x2) 49 (gI g 42 1).toNatClampNeg x1) 50 (gI g 42 1).toNatClampNeg x3) 51 (gI g 42 1).toNatClampNeg x4) 42 2 x1) 42 1 (gI g 42 1 + 1)) = g2 at k4 ⊢
  have F2 : Fr [42, 48, 49, 50, 51] g g2 := by
    rw [← hg2]
    exact (((((Fr.sI (by decide)).tr (Fr.sI (by decide))).tr (Fr.sI (by decide))).tr (Fr.sI (by decide))).tr (Fr.sI (by decide))).tr (Fr.sI (by decide))
  refine Call.ofR (by decide +kernel) (Nat.le_of_ble_eq_true rfl) (sX7_timesRight_0 g2 42 x2 ?_)
  exact times_loop (F2.wf w) x2 _ hle (by rw [← hg2, ← hsu]; exact rd_h) _ 0 (Nat.zero_add _) ⟨_, rfl, _, rfl, k4 _ rfl⟩
theorem right_s2 (h : AH) (m : Int32) (N : Nat) (x1 x2 x3 x4 : Int32) (r k : Nat) : gI (sI (sI (sI (sI (sI (sI (sI (sI (sI (sI (sI (sI h 48 N x2) 49 N x1) 50 N x3) 51 N x4) 42 2 x1) 42 1 (m + 1)) 116 25 x1) 132 N x1) 133 N x2) 134 N x3) 135 N x4) 116 24 (m + 1)) r k = if r = 116 then (if k = 24 then m + 1 else if k = 25 then x1 else gI h 116 k) else if r = 42 then (if k = 1 then m + 1 else if k = 2 then x1 else gI h 42 k) else if k = N then (if r = 48 ∨ r = 133 then x2 else if r = 49 ∨ r = 132 then x1 else if r = 50 ∨ r = 134 then x3 else if r = 51 ∨ r = 135 then x4 else gI h r k) else gI h r k := by
  simp only [gI_sI']
  by_cases a1 : r = 116
  · subst a1
    simp
  · by_cases a2 : r = 42
    · subst a2
      simp
    · by_cases a3 : k = N
      · subst a3
        simp only [a1, a2, false_and, and_true, if_false, if_true]
        generalize gI h r k = g0
        grind (splits := 24)
      · simp [a1, a2, a3]
theorem pr_right {j : Nat} {h : AH} (I : Inv j h) (x1 x2 x3 x4 : Int32) : Pair mX11_right mX12_right [.int x1, .int x2, .int x3, .int x4] h := by
  have w := I.1
  obtain ⟨-, hj, ti, fi, ji, ⟨r1, r2, r3, r4, r5, r6, r7, r8⟩, mi, si, pi, li⟩ := id I
  have hL : 0 ≤ gI h 42 2 := r6.1
  refine c11_right w hL r1 r2 (fun c => ?_) (fun c c2 => ?_) (fun c c2 h1 hh1 => ?_)
  · exact c12_right w (by rw [← r5]; exact hL) (by rw [r3]; exact r1) (by rw [r4]; exact r2) (fun _ => ⟨rfl, ⟨_, rfl⟩, j, I⟩) (fun q => absurd (by rw [r5, ← r3]; exact q) c) (fun q => absurd (by rw [r5, ← r3]; exact q) c)
  · exact c12_right w (by rw [← r5]; exact hL) (by rw [r3]; exact r1) (by rw [r4]; exact r2) (fun q => absurd (by rw [← r5, r3]; exact c) q) (fun _ _ => ⟨rfl, ⟨_, rfl⟩, j, I⟩) (fun _ q => absurd (by rw [r4]; exact c2) q)
  · have hh1 := hh1.symm
    generalize hm : gI h 42 1 = m at *
    generalize hN : m.toNatClampNeg = N at *
    have F1 : Fr [42, 48, 49, 50, 51] h h1 := by
      rw [← hh1]
      exact (((((Fr.sI (by decide)).tr (Fr.sI (by decide))).tr (Fr.sI (by decide))).tr (Fr.sI (by decide))).tr (Fr.sI (by decide))).tr (Fr.sI (by decide))
    have w1 := F1.wf w
    have e116 : ∀ k, gI h1 116 k = gI h 116 k := F1.I (by decide)
    refine c12_right w1 (by rw [e116, ← r5]; exact hL) (by rw [e116, r3]; exact r1) (by rw [e116, r4]; exact r2) (fun q => absurd (by rw [e116, e116, ← r5, r3]; exact c) q) (fun _ q => absurd (by rw [e116, r4] at q; exact q) c2) (fun _ _ h2 hh2 => ?_)
    rw [e116, r4, hN] at hh2 ⊢
    have hh2 := hh2.symm
    have F2 : Fr [116, 132, 133, 134, 135] h1 h2 := by
      rw [← hh2]
      exact (((((Fr.sI (by decide)).tr (Fr.sI (by decide))).tr (Fr.sI (by decide))).tr (Fr.sI (by decide))).tr (Fr.sI (by decide))).tr (Fr.sI (by decide))
    have F : Fr [42, 48, 49, 50, 51, 116, 132, 133, 134, 135] h h2 := (F1.up (by decide)).tr (F2.up (by decide))
    have s116 : ∀ k, k ≠ 24 → k ≠ 25 → gI h2 116 k = gI h 116 k := fun k q1 q2 => by
      rw [← hh2]
      simp [gI_sI', q1, q2, e116]
    have s2 : ∀ r k, gI h2 r k = if r = 116 then (if k = 24 then m + 1 else if k = 25 then x1 else gI h 116 k) else if r = 42 then (if k = 1 then m + 1 else if k = 2 then x1 else gI h 42 k) else if k = N then (if r = 48 ∨ r = 133 then x2 else if r = 49 ∨ r = 132 then x1 else if r = 50 ∨ r = 134 then x3 else if r = 51 ∨ r = 135 then x4 else gI h r k) else gI h r k := fun r k => by
      rw [← hh2, ← hh1]
      exact right_s2 h m N x1 x2 x3 x4 r k
    have hjj := jcase w hj
    unfold rightOk at c
    unfold inr at r1 r2
    have e48 : gI h1 48 = gI h2 48 := (F2.ag (by decide)).1.symm
    have hNx : ∀ i, i < N → (0 ≤ nI i ∧ nI i < m) ∧ (nI i).toNatClampNeg = i := fun i hi => by
      have hN20 : N ≤ 20 := by rw [← hN]; exact cl_le r2.1 r2.2 (by decide)
      have e : m = nI N := by rw [← hN, cl_nI r2.1]
      exact ⟨⟨nI_pos' (by omega), by rw [e]; exact nI_lt hi (by omega)⟩, nI_clamp (by omega)⟩
    refine ⟨?_, ⟨_, rfl⟩, j, ?_⟩
    · rw [e48]
      congr 2
      refine icnt_congr (fun i hi => ?_)
      by_cases e : i = N
      · simp [s2, e]
      · simp only [s2, e, reduceIte, Nat.reduceEqDiff]
        have q := hNx i (by omega)
        have q2 := (r8 (nI i) q.1.1 q.1.2).1
        rw [q.2] at q2
        exact q2.symm
    · refine ⟨F.wf w, (F.2.1 0 2).trans hj, ti.keep (F.I (by decide) _) (F.ag (by decide)) (s116 _ (by decide) (by decide)) (F.ag (by decide)), fi.keep (F.I (by decide) _) (F.I (by decide) _) (s116 _ (by decide) (by decide)) (s116 _ (by decide) (by decide)), ji.keep (fun r hr => F.ag (by rcases hjj with rfl | rfl <;> revert r <;> decide)) (s116 _ (by decide) (by decide)), ⟨?_, ?_, ?_, ?_, ?_, ?_, ?_, ?_⟩, mi.keep (F.I (by decide) _) (F.ag (by decide)) (s116 _ (by decide) (by decide)) (F.ag (by decide)), si.keep (F.I (by decide) _) (F.I (by decide) _) (F.I (by decide) _) (s116 _ (by decide) (by decide)) (s116 _ (by decide) (by decide)) (s116 _ (by decide) (by decide)), pi.keep (F.I (by decide) _) (s116 _ (by decide) (by decide)) (fun r hr => F.ag (by revert r; decide)), li.keep (F.I (by decide) _) (F.I (by decide) _) (F.ag (by decide)) (s116 _ (by decide) (by decide)) (F.ag (by decide))⟩
      · simp [s2]
        exact r1
      · simp [s2]
        unfold inr
        grind
      · simp [s2]
        exact r3
      · simp [s2]
      · simp [s2]
      · simp [s2]
        unfold inr
        grind
      · intro x p1 p2
        have p3 : x < gI h 42 0 := by simp [s2] at p2; exact p2
        have q := r7 x p1 p3
        have hj3 : gI h2 j 3 = gI h j 3 := F.I (by rcases hjj with rfl | rfl <;> decide) 3
        have a1 : gI h2 43 = gI h 43 := (F.ag (by decide)).1
        have a2 : gI h2 44 = gI h 44 := (F.ag (by decide)).1
        have a3 : gI h2 45 = gI h 45 := (F.ag (by decide)).1
        have a4 : gI h2 46 = gI h 46 := (F.ag (by decide)).1
        have a5 : gI h2 47 = gI h 47 := (F.ag (by decide)).1
        have b1 : gI h2 127 = gI h 127 := (F.ag (by decide)).1
        have b2 : gI h2 128 = gI h 128 := (F.ag (by decide)).1
        have b3 : gI h2 129 = gI h 129 := (F.ag (by decide)).1
        have b4 : gI h2 130 = gI h 130 := (F.ag (by decide)).1
        have b5 : gI h2 131 = gI h 131 := (F.ag (by decide)).1
        rw [hj3, a1, a2, a3, a4, a5, b1, b2, b3, b4, b5]
        exact q
      · intro x p1 p2
        have p3 : x < m ∨ x = m := by simp [s2] at p2; grind
        have e42 : gI h2 42 0 = gI h 42 0 := by simp [s2]
        rw [e42]
        rcases p3 with p3 | p3
        · have q := r8 x p1 p3
          have ne : x.toNatClampNeg ≠ N := fun e => by
            have := cl_inj p1 r2.1 (e.trans hN.symm)
            grind
          simp only [s2, ne, reduceIte, Nat.reduceEqDiff]
          exact q
        · rw [p3, hN]
          simp [s2]
          unfold inr
          grind
