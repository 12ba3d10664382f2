/-! the press: bounds for each turn and stretch -/
theorem getq {L : List Qd} {i : Nat} (hi : i < L.length) : ∃ q, L[i]? = some q ∧ q ∈ L ∧ L.take (i + 1) = L.take i ++ [q] := by
  refine ⟨L[i], List.getElem?_eq_getElem hi, List.getElem_mem hi, ?_⟩
  rw [List.take_succ, List.getElem?_eq_getElem hi]
  rfl
theorem bo_loop {h : AH} {P : Option Value → AH → Prop} (w : Wf h) {r s sl : Int32} {L : List Qd} (Q : QR h 53 L) (hl : gI h 52 0 = nI L.length) (l24 : L.length ≤ 24) (kk : ∀ h3, Fr [52] h h3 → (∀ z, z ≠ 5 → z ≠ 6 → z ≠ 7 → z ≠ 8 → gI h3 52 z = gI h 52 z) → gI h3 52 5 = (bsh r s sl L).1 → gI h3 52 6 = (bsh r s sl L).2.1 → gI h3 52 7 = (bsh r s sl L).2.2.1 → gI h3 52 8 = (bsh r s sl L).2.2.2 → P none h3) : ∀ (m i : Nat) (h2 : AH), i + m = L.length → Fr [52] h h2 → (∀ z, z ≠ 5 → z ≠ 6 → z ≠ 7 → z ≠ 8 → gI h2 52 z = gI h 52 z) → gI h2 52 5 = (bsh r s sl (L.take i)).1 → gI h2 52 6 = (bsh r s sl (L.take i)).2.1 → gI h2 52 7 = (bsh r s sl (L.take i)).2.2.1 → gI h2 52 8 = (bsh r s sl (L.take i)).2.2.2 → Rr mX1_boundShifts 0 0 27 [(0, .ref 52), (1, .int r), (2, .int s), (3, .int sl), (4, .int (nI i))] [] h2 P
  | 0, i, h2, hi, F, ez, e5, e6, e7, e8 => by
    have e : i = L.length := by omega
    subst e
    have w2 := F.wf w
    rw [List.take_length] at e5 e6 e7 e8
    refine sX1_boundShifts_27 h2 52 _ _ _ _ ⟨w2.o (by decide) rfl, fun _ => kk h2 F ez e5 e6 e7 e8, fun q => absurd ?_ q⟩
    rw [ez 0 (by decide) (by decide) (by decide) (by decide), hl]
    exact Int32.le_refl _
  | m + 1, i, h2, hi, F, ez, e5, e6, e7, e8 => by
    have w2 := F.wf w
    obtain ⟨q, hq, -, tk⟩ := getq (L := L) (i := i) (by omega)
    obtain ⟨q1, q2, q3, q4⟩ := Q i q hq
    have v : vp_in (nI i) 24 := vp_in_nI (by omega) (by decide)
    refine sX1_boundShifts_27 h2 52 _ _ _ _ ⟨w2.o (by decide) rfl, fun q => absurd q ?_, fun _ => ?_⟩
    · rw [ez 0 (by decide) (by decide) (by decide) (by decide), hl, nI_leI (by omega) (by omega)]
      omega
    rw [w2.f52_1, w2.f52_2, w2.f52_3, w2.f52_4, nI_clamp (by omega), F.I (r := 53) (by decide), F.I (r := 54) (by decide), F.I (r := 55) (by decide), F.I (r := 56) (by decide), q1, q2, q3, q4, nI_1]
    refine ⟨w2.a (by decide) rfl, v, w2.a (by decide) rfl, v, w2.a (by decide) rfl, v, fun v9 h9 => ⟨w2.a (by decide) rfl, v, fun v12 h12 => ?_⟩⟩
    have st : bsh r s sl (L.take (i + 1)) = bs1 r s sl (bsh r s sl (L.take i)) q := by
      unfold bsh
      rw [tk, List.foldl_append]
      rfl
    have u9 : v9 = q.2.2.1 - tA r s q := h9
    have u12 : v12 = q.2.2.2 - tU r s q := h12
    rw [e5, e6, e7, e8, u9, u12]
    refine bo_loop w Q hl l24 kk m (i + 1) _ (by omega) ((((F.tr (Fr.sI (by decide))).tr (Fr.sI (by decide))).tr (Fr.sI (by decide))).tr (Fr.sI (by decide))) (fun z z5 z6 z7 z8 => (rd_k z8).trans ((rd_k z7).trans ((rd_k z6).trans ((rd_k z5).trans (ez z z5 z6 z7 z8))))) ?_ ?_ ?_ ?_
    · rw [st]
      exact (rd_k (by decide)).trans ((rd_k (by decide)).trans ((rd_k (by decide)).trans rd_h))
    · rw [st]
      exact (rd_k (by decide)).trans ((rd_k (by decide)).trans rd_h)
    · rw [st]
      exact (rd_k (by decide)).trans rd_h
    · rw [st]
      exact rd_h
theorem c1_bound {h : AH} {P : Option Value → AH → Prop} (w : Wf h) {r s sl : Int32} {L : List Qd} (Q : QR h 53 L) (hl : gI h 52 0 = nI L.length) (l24 : L.length ≤ 24) (kk : ∀ h3, Fr [52] h h3 → (∀ z, z ≠ 5 → z ≠ 6 → z ≠ 7 → z ≠ 8 → gI h3 52 z = gI h 52 z) → gI h3 52 5 = (bsh r s sl L).1 → gI h3 52 6 = (bsh r s sl L).2.1 → gI h3 52 7 = (bsh r s sl L).2.2.1 → gI h3 52 8 = (bsh r s sl L).2.2.2 → P none h3) : Call mX1_boundShifts [.ref 52, .int r, .int s, .int sl] h P := by
  refine Call.ofR (by decide +kernel) (Nat.le_of_ble_eq_true rfl) (sX1_boundShifts_0 h 52 _ _ _ ⟨w.o (by decide) rfl, ?_⟩)
  refine bo_loop (h := h) w Q hl l24 kk L.length 0 _ (Nat.zero_add _) ((((Fr.sI (by decide)).tr (Fr.sI (by decide))).tr (Fr.sI (by decide))).tr (Fr.sI (by decide))) (fun z z5 z6 z7 z8 => (rd_k z8).trans ((rd_k z7).trans ((rd_k z6).trans (rd_k z5)))) ((rd_k (by decide)).trans ((rd_k (by decide)).trans ((rd_k (by decide)).trans rd_h))) ((rd_k (by decide)).trans ((rd_k (by decide)).trans rd_h)) ((rd_k (by decide)).trans rd_h) rd_h
theorem c1_widen {h : AH} {P : Option Value → AH → Prop} (w : Wf h) {c : Nat} (hc : c < 4) {x y : Int32} (kk : ∀ h3, Fr [57, 58] h h3 → (∀ p, p ≠ c → gI h3 57 p = gI h 57 p ∧ gI h3 58 p = gI h 58 p) → gI h3 57 c = (if gI h 52 9 = 0 then x else imin (gI h 57 c) x) → gI h3 58 c = (if gI h 52 9 = 0 then y else imax (gI h 58 c) y) → P none h3) : Call mX1_widen [.ref 52, .int (nI c), .int x, .int y] h P := by
  have w10 := w.f52_10
  have w11 := w.f52_11
  refine aX1_widen (w.o (by decide) rfl) (by rw [w10]; exact w.a (by decide) rfl) (fun _ => by rw [w10]; exact in4n hc) (by rw [w10]; exact in4n hc) (by rw [w11]; exact w.a (by decide) rfl) (fun _ => by rw [w11]; exact in4n hc) (by rw [w11]; exact in4n hc) ?_
  rw [w10, w11, nI_clamp (by omega), rd_r (r2 := 58) (by decide)]
  exact kk _ ((Fr.sI (by decide)).tr (Fr.sI (by decide))) (fun p hp => ⟨(rd_r (by decide)).trans (rd_k hp), (rd_k hp).trans (rd_r (by decide))⟩) ((rd_r (by decide)).trans rd_h) rd_h
def fr4 (a b r s : Int32) (c : Nat) : Int32 := if c = 0 then a else if c = 1 then b else if c = 2 then r else s
theorem c1_takeIn {h : AH} {P : Option Value → AH → Prop} (w : Wf h) {r s : Int32} (kk : ∀ h3, Fr [52, 57, 58] h h3 → (∀ z, z ≠ 9 → gI h3 52 z = gI h 52 z) → gI h3 52 9 = gI h 52 9 + ((gI h 52 6 - gI h 52 5) + 1) * ((gI h 52 8 - gI h 52 7) + 1) → (∀ c, c < 4 → gI h3 57 c = (if gI h 52 9 = 0 then fr4 (gI h 52 5) (gI h 52 7) r s c else imin (gI h 57 c) (fr4 (gI h 52 5) (gI h 52 7) r s c))) → (∀ c, c < 4 → gI h3 58 c = (if gI h 52 9 = 0 then fr4 (gI h 52 6) (gI h 52 8) r s c else imax (gI h 58 c) (fr4 (gI h 52 6) (gI h 52 8) r s c))) → P none h3) : Call mX1_takeIn [.ref 52, .int r, .int s] h P := by
  refine Call.ofR (by decide +kernel) (Nat.le_of_ble_eq_true rfl) (sX1_takeIn_0 h 52 _ _ ⟨w.o (by decide) rfl, ?_⟩)
  refine c1_widen (c := 0) w (by decide) (fun h1 F1 o1 a1 b1 => ⟨rfl, (F1.wf w).o (by decide) rfl, ?_⟩)
  have w1 := F1.wf w
  rw [F1.I (r := 52) (by decide), F1.I (r := 52) (by decide)]
  refine c1_widen (c := 1) w1 (by decide) (fun h2 F2 o2 a2 b2 => ⟨rfl, (F2.wf w1).o (by decide) rfl, ?_⟩)
  have w2 := F2.wf w1
  refine c1_widen (c := 2) w2 (by decide) (fun h3 F3 o3 a3 b3 => ⟨rfl, (F3.wf w2).o (by decide) rfl, ?_⟩)
  have w3 := F3.wf w2
  refine c1_widen (c := 3) w3 (by decide) (fun h4 F4 o4 a4 b4 => ⟨rfl, (F4.wf w3).o (by decide) rfl, ?_⟩)
  have G2 := F1.tr F2
  have G3 := G2.tr F3
  have G4 := G3.tr F4
  rw [G4.I (r := 52) (by decide), G4.I (r := 52) (by decide), G4.I (r := 52) (by decide), G4.I (r := 52) (by decide), G4.I (r := 52) (by decide)]
  rw [F1.I (r := 52) (by decide), (o1 1 (by decide)).1] at a2
  rw [F1.I (r := 52) (by decide), (o1 1 (by decide)).2] at b2
  rw [G2.I (r := 52) (by decide), (o2 2 (by decide)).1, (o1 2 (by decide)).1] at a3
  rw [G2.I (r := 52) (by decide), (o2 2 (by decide)).2, (o1 2 (by decide)).2] at b3
  rw [G3.I (r := 52) (by decide), (o3 3 (by decide)).1, (o2 3 (by decide)).1, (o1 3 (by decide)).1] at a4
  rw [G3.I (r := 52) (by decide), (o3 3 (by decide)).2, (o2 3 (by decide)).2, (o1 3 (by decide)).2] at b4
  refine kk _ ((G4.sub (by decide)).tr (Fr.sI (by decide))) (fun z hz => (rd_k hz).trans (G4.I (by decide) z)) rd_h (four ?_ ?_ ?_ ?_) (four ?_ ?_ ?_ ?_)
  · rw [rd_r (by decide), (o4 0 (by decide)).1, (o3 0 (by decide)).1, (o2 0 (by decide)).1, a1]
    rfl
  · rw [rd_r (by decide), (o4 1 (by decide)).1, (o3 1 (by decide)).1, a2]
    rfl
  · rw [rd_r (by decide), (o4 2 (by decide)).1, a3]
    rfl
  · rw [rd_r (by decide), a4]
    rfl
  · rw [rd_r (by decide), (o4 0 (by decide)).2, (o3 0 (by decide)).2, (o2 0 (by decide)).2, b1]
    rfl
  · rw [rd_r (by decide), (o4 1 (by decide)).2, (o3 1 (by decide)).2, b2]
    rfl
  · rw [rd_r (by decide), (o4 2 (by decide)).2, b3]
    rfl
  · rw [rd_r (by decide), b4]
    rfl
/-- the slips that fit -/
def DT (T : Nat → Nat → T4) (u v i k : Nat) : Prop := u < 19 ∧ v < 19 ∧ i < 19 ∧ k < 10 ∧ inT (T i k) (nI u - 9) (nI v - 9)
def cw (T : Nat → Nat → T4) (n : Nat) : Nat := nsum (fun m => nsum (gA (T (m / 10) (m % 10))) 19 * nsum (gB (T (m / 10) (m % 10))) 19) n
theorem g_le (t : T4) : (∀ u, gA t u ≤ 1) ∧ (∀ v, gB t v ≤ 1) := ⟨fun u => by unfold gA; exact Bool.toNat_le _, fun u => by unfold gB; exact Bool.toNat_le _⟩
theorem cw_le (T : Nat → Nat → T4) (n : Nat) : cw T n ≤ n * 361 := by
  refine nsum_le (fun m => ?_) n
  have a := nsum_le (g_le (T (m / 10) (m % 10))).1 19
  have b := nsum_le (g_le (T (m / 10) (m % 10))).2 19
  exact Nat.mul_le_mul a b
/-- all slips of one turn and stretch -/
theorem ac_rect {t : T4} (ot : okT t) (ha : t.1 ≤ t.2.1) (hb : t.2.2.1 ≤ t.2.2.2) {i k : Nat} : Ac (fun u v i' k' => u < 19 ∧ v < 19 ∧ i' = i ∧ k' = k ∧ inT t (nI u - 9) (nI v - 9)) (fr4 t.1 t.2.2.1 (nI i - 9) (nI k)) (fr4 t.2.1 t.2.2.2 (nI i - 9) (nI k)) := by
  obtain ⟨o1, o2, o3, o4⟩ := ot
  obtain ⟨p1, hp1, e1⟩ := idx9 o1 (Int32.le_trans ha o2)
  obtain ⟨p2, hp2, e2⟩ := idx9 (Int32.le_trans o1 ha) o2
  obtain ⟨p3, hp3, e3⟩ := idx9 o3 (Int32.le_trans hb o4)
  obtain ⟨p4, hp4, e4⟩ := idx9 (Int32.le_trans o3 hb) o4
  have d1 : p1 < 19 ∧ p3 < 19 ∧ i = i ∧ k = k ∧ inT t (nI p1 - 9) (nI p3 - 9) := ⟨hp1, hp3, rfl, rfl, by rw [← e1, ← e3]; exact ⟨⟨Int32.le_refl _, ha⟩, Int32.le_refl _, hb⟩⟩
  have d2 : p2 < 19 ∧ p4 < 19 ∧ i = i ∧ k = k ∧ inT t (nI p2 - 9) (nI p4 - 9) := ⟨hp2, hp4, rfl, rfl, by rw [← e2, ← e4]; exact ⟨⟨ha, Int32.le_refl _⟩, hb, Int32.le_refl _⟩⟩
  refine four ⟨?_, ⟨p1, p3, i, k, d1, e1.symm⟩, ⟨p2, p4, i, k, d2, e2.symm⟩⟩ ⟨?_, ⟨p1, p3, i, k, d1, e3.symm⟩, ⟨p2, p4, i, k, d2, e4.symm⟩⟩ ⟨?_, ⟨p1, p3, i, k, d1, rfl⟩, ⟨p2, p4, i, k, d2, rfl⟩⟩ ⟨?_, ⟨p1, p3, i, k, d1, rfl⟩, ⟨p2, p4, i, k, d2, rfl⟩⟩
  · rintro u v i' k' ⟨-, -, rfl, rfl, q⟩
    exact q.1
  · rintro u v i' k' ⟨-, -, rfl, rfl, q⟩
    exact q.2
  · rintro u v i' k' ⟨-, -, rfl, rfl, -⟩
    exact ⟨Int32.le_refl _, Int32.le_refl _⟩
  · rintro u v i' k' ⟨-, -, rfl, rfl, -⟩
    exact ⟨Int32.le_refl _, Int32.le_refl _⟩
theorem f190 : ∀ n : Fin 190, (nI (n.val / 10) - 9 + 1 = nI (n.val / 10 + 1) - 9) ∧ (9 < nI (n.val % 10) + 1 ↔ n.val % 10 = 9) ∧ (¬ 9 < nI (n.val % 10)) ∧ (9 < nI (n.val / 10 + 1) - 9 ↔ n.val / 10 = 18) := by decide +kernel
theorem in_rs {n : Nat} (hn : n < 190) : inr (nI (n / 10) - 9) (-9) 9 ∧ inr (nI (n % 10)) 0 9 := by
  refine ⟨rng9 ⟨n / 10, by omega⟩, nI_pos' (by omega), ?_⟩
  exact nI_le (a := n % 10) (b := 9) (by omega) (by decide)
theorem fi_loop {j : Nat} {h : AH} {P : Option Value → AH → Prop} (w : Wf h) (hj : gF h 0 2 = j) {sl : Int32} {L : List Qd} (Q : QR h 53 L) (hl : gI h 52 0 = nI L.length) (l24 : L.length ≤ 24) (hsl : gI h j 6 = sl) (kk : ∀ h3, Fr [52, 57, 58] h h3 → gI h3 52 9 = nI (cw (fun i k => bsh (nI i - 9) (nI k) sl L) 190) → Kn (fun u v i k => DT (fun i k => bsh (nI i - 9) (nI k) sl L) u v i k ∧ 10 * i + k < 190) (cw (fun i k => bsh (nI i - 9) (nI k) sl L) 190) (gI h3 57) (gI h3 58) → P none h3) : ∀ (m n : Nat) (h2 : AH), n + m = 190 → 0 < m → Fr [52, 57, 58] h h2 → gI h2 52 0 = nI L.length → gI h2 52 9 = nI (cw (fun i k => bsh (nI i - 9) (nI k) sl L) n) → Kn (fun u v i k => DT (fun i k => bsh (nI i - 9) (nI k) sl L) u v i k ∧ 10 * i + k < n) (cw (fun i k => bsh (nI i - 9) (nI k) sl L) n) (gI h2 57) (gI h2 58) → Rr mX1_find 0 0 28 [(0, .ref 52), (1, .ref j), (5, .int (nI (n / 10) - 9)), (6, .int (nI (n % 10)))] [] h2 P
  | 0, n, h2, hn, hm, F, e0, e9, K => absurd hm (by decide)
  | m + 1, n, h2, hn, hm, F, e0, e9, K => by
    have w2 := F.wf w
    have jb := jcase w hj
    have hj2 : gF h2 0 2 = j := (F.2.1 0 2).trans hj
    obtain ⟨hO, -, -, -, -, -, -, -, -, -, -, -⟩ := job_refs w2 hj2
    obtain ⟨c1, c2, c3, c4⟩ := f190 ⟨n, by omega⟩
    simp only at c1 c2 c3 c4
    have Q2 : QR h2 53 L := Q.ag ⟨(F.2.2 53 (by decide)).1, (F.2.2 54 (by decide)).1, (F.2.2 55 (by decide)).1, (F.2.2 56 (by decide)).1⟩
    refine sX1_find_28 h2 52 j _ _ ⟨fun q => absurd q c3, fun _ => ⟨hO, w2.o (by decide) rfl, ?_⟩⟩
    rw [F.I (r := j) (by rcases jb with rfl | rfl <;> decide), hsl]
    refine c1_bound w2 Q2 e0 l24 (fun h3 F3 ez e5 e6 e7 e8 => ⟨rfl, (F3.wf w2).o (by decide) rfl, ?_⟩)
    have w3 := F3.wf w2
    -- what comes next
    have nx : ∀ h4, Fr [52, 57, 58] h h4 → gI h4 52 0 = nI L.length → gI h4 52 9 = nI (cw (fun i k => bsh (nI i - 9) (nI k) sl L) (n + 1)) → Kn (fun u v i k => DT (fun i k => bsh (nI i - 9) (nI k) sl L) u v i k ∧ 10 * i + k < n + 1) (cw (fun i k => bsh (nI i - 9) (nI k) sl L) (n + 1)) (gI h4 57) (gI h4 58) → Rr mX1_find 0 0 28 [(0, .ref 52), (1, .ref j), (5, .int (nI (n / 10) - 9)), (6, .int (nI (n % 10) + 1))] [] h4 P := fun h4 F4 z0 z9 K4 => by
      by_cases c : n % 10 = 9
      · refine sX1_find_28 h4 52 j _ _ ⟨fun _ => ?_, fun q => absurd (c2.mpr c) q⟩
        rw [c1]
        by_cases d : n / 10 = 18
        · have e : n + 1 = 190 := by omega
          rw [e] at z9 K4
          exact sX1_find_18 h4 52 j _ ⟨fun _ => kk h4 F4 z9 K4, fun q => absurd (c4.mpr d) q⟩
        · refine sX1_find_18 h4 52 j _ ⟨fun q => absurd (c4.mp q) d, fun _ => ?_⟩
          have := fi_loop w hj Q hl l24 hsl kk m (n + 1) h4 (by omega) (by omega) F4 z0 z9 K4
          rw [show (n + 1) / 10 = n / 10 + 1 by omega, show (n + 1) % 10 = 0 by omega] at this
          exact this
      · have := fi_loop w hj Q hl l24 hsl kk m (n + 1) h4 (by omega) (by omega) F4 z0 z9 K4
        rw [show (n + 1) / 10 = n / 10 by omega, show (n + 1) % 10 = n % 10 + 1 by omega, nI_succ] at this
        exact this
    have G3 : Fr [52, 57, 58] h h3 := F.tr (F3.sub (by decide))
    have k0 : gI h3 52 0 = nI L.length := (ez 0 (by decide) (by decide) (by decide) (by decide)).trans e0
    have k9 : gI h3 52 9 = nI (cw (fun i k => bsh (nI i - 9) (nI k) sl L) n) := (ez 9 (by decide) (by decide) (by decide) (by decide)).trans e9
    have cs : cw (fun i k => bsh (nI i - 9) (nI k) sl L) (n + 1) = cw (fun i k => bsh (nI i - 9) (nI k) sl L) n + nsum (gA (bsh (nI (n / 10) - 9) (nI (n % 10)) sl L)) 19 * nsum (gB (bsh (nI (n / 10) - 9) (nI (n % 10)) sl L)) 19 := rfl
    have ot := bsh_ok (nI (n / 10) - 9) (nI (n % 10)) sl L
    have sp : ∀ u v i k, (DT (fun i k => bsh (nI i - 9) (nI k) sl L) u v i k ∧ 10 * i + k < n + 1) ↔ (DT (fun i k => bsh (nI i - 9) (nI k) sl L) u v i k ∧ 10 * i + k < n) ∨ (u < 19 ∧ v < 19 ∧ i = n / 10 ∧ k = n % 10 ∧ inT (bsh (nI (n / 10) - 9) (nI (n % 10)) sl L) (nI u - 9) (nI v - 9)) := fun u v i k => by
      constructor
      · rintro ⟨d, l⟩
        rcases Nat.lt_or_ge (10 * i + k) n with q | q
        · exact Or.inl ⟨d, q⟩
        · obtain ⟨d1, d2, d3, d4, d5⟩ := d
          have ei : i = n / 10 := by omega
          have ek : k = n % 10 := by omega
          subst ei
          subst ek
          exact Or.inr ⟨d1, d2, rfl, rfl, d5⟩
      · rintro (⟨d, l⟩ | ⟨d1, d2, rfl, rfl, d5⟩)
        · exact ⟨d, by omega⟩
        · exact ⟨⟨d1, d2, by omega, by omega, d5⟩, by omega⟩
    have no : (¬ (bsh (nI (n / 10) - 9) (nI (n % 10)) sl L).1 ≤ (bsh (nI (n / 10) - 9) (nI (n % 10)) sl L).2.1 ∨ ¬ (bsh (nI (n / 10) - 9) (nI (n % 10)) sl L).2.2.1 ≤ (bsh (nI (n / 10) - 9) (nI (n % 10)) sl L).2.2.2) → Rr mX1_find 0 0 28 [(0, .ref 52), (1, .ref j), (5, .int (nI (n / 10) - 9)), (6, .int (nI (n % 10) + 1))] [] h3 P := fun q => by
      have z : nsum (gA (bsh (nI (n / 10) - 9) (nI (n % 10)) sl L)) 19 * nsum (gB (bsh (nI (n / 10) - 9) (nI (n % 10)) sl L)) 19 = 0 := by
        rcases q with q | q
        · have : nsum (gA (bsh (nI (n / 10) - 9) (nI (n % 10)) sl L)) 19 = 0 := cnt_out q 19
          rw [this, Nat.zero_mul]
        · have : nsum (gB (bsh (nI (n / 10) - 9) (nI (n % 10)) sl L)) 19 = 0 := cnt_out q 19
          rw [this, Nat.mul_zero]
      rw [z, Nat.add_zero] at cs
      refine nx h3 G3 k0 (by rw [cs]; exact k9) ?_
      rw [cs]
      refine K.same (fun u v i k => ?_) (fun c _ => F3.I (by decide) c) (fun c _ => F3.I (by decide) c)
      rw [sp]
      constructor
      · rintro (d | ⟨-, -, -, -, d5⟩)
        · exact d
        · rcases q with q | q
          · exact absurd (Int32.le_trans d5.1.1 d5.1.2) q
          · exact absurd (Int32.le_trans d5.2.1 d5.2.2) q
      · exact Or.inl
    refine ⟨fun q => no (Or.inl ?_), fun qa => ⟨fun q => no (Or.inr ?_), fun qb => ?_⟩⟩
    · rw [e5, e6] at q
      exact Int32.not_le.mpr q
    · rw [e7, e8] at q
      exact Int32.not_le.mpr q
    rw [e5, e6] at qa
    rw [e7, e8] at qb
    have la := Int32.not_lt.mp qa
    have lb' := Int32.not_lt.mp qb
    clear no
    refine c1_takeIn w3 (fun h4 F4 z4 s4 a4 b4 => ⟨rfl, ?_⟩)
    rw [e5, e6, e7, e8, k9] at s4
    rw [k9, e5, e7] at a4
    rw [k9, e6, e8] at b4
    obtain ⟨p1, p2, p3⟩ := cnt_in ot.1 ot.2.1 la
    obtain ⟨p4, p5, p6⟩ := cnt_in ot.2.2.1 ot.2.2.2 lb'
    have cl := cw_le (fun i k => bsh (nI i - 9) (nI k) sl L) n
    refine nx h4 (G3.tr F4) ((z4 0 (by decide)).trans k0) ?_ ?_
    · rw [s4, p3, p6, pk_mul, nI_add]
      rfl
    · rw [cs]
      refine Kn.add (K.same (fun _ _ _ _ => Iff.rfl) (lo3 := gI h3 57) (hi3 := gI h3 58) (fun c _ => F3.I (by decide) c) (fun c _ => F3.I (by decide) c)) (ac_rect ot la lb' (i := n / 10) (k := n % 10)) (Nat.mul_pos p1 p4) (by omega) sp a4 b4
theorem c1_find {j : Nat} {h : AH} {P : Option Value → AH → Prop} (w : Wf h) (hj : gF h 0 2 = j) {ink known sl : Int32} {R n : Nat} (hR : gI h 42 1 = nI R) (R20 : R ≤ 20) (hn : gI h 42 0 = nI n) (n24 : n ≤ 24) (hm : ∀ k, k < n → 0 ≤ gI h 45 k ∧ gI h 45 k < gI h j 3) (m8 : gI h j 3 ≤ 8) (hsl : gI h j 6 = sl) (kk : ∀ h3, Fr [52, 53, 54, 55, 56, 57, 58] h h3 → gI h3 52 9 = nI (cw (fun i k => bsh (nI i - 9) (nI k) sl (qC h j ink known R n)) 190) → Kn (fun u v i k => DT (fun i k => bsh (nI i - 9) (nI k) sl (qC h j ink known R n)) u v i k ∧ 10 * i + k < 190) (cw (fun i k => bsh (nI i - 9) (nI k) sl (qC h j ink known R n)) 190) (gI h3 57) (gI h3 58) → P none h3) : Call mX1_find [.ref 52, .ref j, .ref 42, .int ink, .int known] h P := by
  have jb := jcase w hj
  refine Call.ofR (by decide +kernel) (Nat.le_of_ble_eq_true rfl) (sX1_find_0 h 52 j 42 _ _ ⟨w.o (by decide) rfl, ?_⟩)
  refine Call.ofR (by decide +kernel) (Nat.le_of_ble_eq_true rfl) (sX1_gather_0 h 52 j 42 _ _ ⟨w.o (by decide) rfl, ?_⟩)
  refine ga_loop w hj hR R20 hn n24 hm m8 (fun h2 F2 e0 Q => ⟨rfl, (F2.wf w).o (by decide) rfl, ?_⟩) n 0 _ (Nat.zero_add n) (Fr.sI (by decide)) rd_h (fun i q hq => absurd hq (by simp [qC, qsl]))
  have w2 := F2.wf w
  have F3 : Fr [52] h2 (sI h2 52 9 0) := Fr.sI (by decide)
  have w3 := F3.wf w2
  have hj3 : gF (sI h2 52 9 0) 0 2 = j := (F2.2.1 0 2).trans hj
  refine sX1_find_18 _ 52 j _ ⟨fun q => absurd q (by decide), fun _ => ?_⟩
  have len : (qC h j ink known R n).length ≤ n := qsl_len _ _ _ _ _ _ _ _ _ _ _ ink known R n
  have Q3 : QR (sI h2 52 9 0) 53 (qC h j ink known R n) := Q.ag ⟨(F3.2.2 53 (by decide)).1, (F3.2.2 54 (by decide)).1, (F3.2.2 55 (by decide)).1, (F3.2.2 56 (by decide)).1⟩
  refine fi_loop w3 hj3 Q3 ((rd_k (by decide)).trans e0) (by omega) ?_ (fun h4 F4 e9 K => kk h4 (((F2.sub (by decide)).tr (F3.sub (by decide))).tr (F4.sub (by decide))) e9 K) 190 0 _ rfl (by decide) Fr.rf ((rd_k (by decide)).trans e0) rd_h (Or.inl ⟨rfl, fun u v i k d => absurd d.2 (Nat.not_lt_zero _)⟩)
  rw [F3.I (by rcases jb with rfl | rfl <;> decide), F2.I (by rcases jb with rfl | rfl <;> decide)]
  exact hsl
