def TS : List Nat := [88, 93, 94, 95, 96, 97, 98, 99, 100, 101, 102, 103, 104, 105, 106, 107, 108, 109, 110, 111, 112, 113, 114]
theorem ts_in {k : Nat} (hk : k < 22) : 93 + k ∈ TS := (by decide +kernel : ∀ k : Fin 22, 93 + k.val ∈ TS) ⟨k, hk⟩
/-- what the press knows of the zones -/
def ZL (h : AH) (lo hi : Nat → Nat) (n : Nat) : Prop := ∀ z, z < n → gI h 90 z = nI (lo z) ∧ gI h 91 z = nI (hi z)
theorem ZL.ag {h h2 : AH} {lo hi : Nat → Nat} {n : Nat} (Z : ZL h lo hi n) (F : Fr TS h h2) : ZL h2 lo hi n := fun z hz => by
  rw [F.I (by decide), F.I (by decide)]
  exact Z z hz
/-- the rows of weights from zone z on -/
def WR (h : AH) (lo hi : Nat → Nat) (n z : Nat) : Prop := ∀ q, z ≤ q → q ≤ n → ∀ l, l < 10 → gI h (93 + q) l = nI (Vw lo hi n (n - q) l)
theorem Vw_b {lo hi : Nat → Nat} {n m : Nat} (hz : FZ lo hi n) (n20 : n ≤ 20) (hm : m ≤ n) (l : Nat) : Vw lo hi n m l ≤ 180180 := by
  have := Vw_le hz m l hm
  omega
theorem fd36 {h : AH} {P : Option Value → AH → Prop} (w : Wf h) {lo hi : Nat → Nat} {n m : Nat} (hz : FZ lo hi n) (n20 : n ≤ 20) (hm : m < n) (Z : ZL h lo hi n) (kk : ∀ h3, Fr TS h h3 → gI h3 88 4 = nI n → WR h3 lo hi n (n - 1 - m) → Rr mX10_find 0 0 30 [(0, .ref 88), (2, .int (nI (n - 1 - m) - 1))] [] h3 P) : ∀ (r a : Nat) (h2 : AH), a + r = 10 → Fr TS h h2 → gI h2 88 4 = nI n → WR h2 lo hi n (n - m) → (∀ l, l < a → gI h2 (93 + (n - 1 - m)) l = nI (Vw lo hi n (m + 1) l)) → Rr mX10_find 0 0 36 [(0, .ref 88), (2, .int (nI (n - 1 - m))), (3, .int (nI a))] [] h2 P := by
  intro r
  induction r with
  | zero =>
    intro a h2 ha F e4 W e
    have e10 : a = 10 := by omega
    subst e10
    refine sX10_find_36 h2 88 _ _ ⟨fun _ => ?_, fun q => absurd (by decide) q⟩
    rw [← Int32.sub_eq_add_neg]
    refine kk h2 F e4 (fun q h1 h2' l hl => ?_)
    by_cases c : q = n - 1 - m
    · rw [c, show n - (n - 1 - m) = m + 1 by omega]
      exact e l hl
    · exact W q (by omega) h2' l hl
  | succ r ih =>
    intro a h2 ha F e4 W e
    have w2 := F.wf w
    have a10 : a < 10 := by omega
    have zl := (Z.ag F) (n - 1 - m) (by omega)
    have fz := hz (n - 1 - m) (by omega)
    have br := bly_r (a := a) hz hm
    obtain ⟨g1, g2, g3⟩ := f92 w2 (show n - 1 - m < 21 by omega)
    obtain ⟨g4, g5, g6⟩ := f92 w2 (show n - 1 - m + 1 < 21 by omega)
    have rowV : ∀ l, l < 10 → gI h2 (94 + (n - 1 - m)) l = nI (Vw lo hi n m l) := fun l hl => by
      have := W (n - m) (Nat.le_refl _) (by omega) l hl
      rw [show n - (n - m) = m by omega, show 93 + (n - m) = 94 + (n - 1 - m) by omega] at this
      exact this
    have o : isO h2 10 88 := w2.o (by decide) rfl
    refine sX10_find_36 h2 88 _ _ ⟨fun q => absurd q ?_, fun _ => ⟨o, ?_⟩⟩
    · rw [show (10 : Int32) = nI 10 from rfl, nI_leI (by decide) (by omega)]
      omega
    refine c10_light w2 (by omega) a10 fz.1 fz.2 zl.1 zl.2 rowV (Vw_b hz n20 (by omega)) ⟨_, rfl, o, ?_⟩
    have eb : lt1 (fw (Vw lo hi n m) a) (lo (n - 1 - m)) (hi (n - 1 - m) - lo (n - 1 - m)) = bly lo hi n m a := rfl
    rw [eb]
    have zc : (nI (n - 1 - m) + 1).toNatClampNeg = n - 1 - m + 1 := by rw [nI_1, nI_clamp (by omega)]
    have e94 : gI h2 (93 + (n - 1 - m + 1)) (bly lo hi n m a) = nI (Vw lo hi n m (bly lo hi n m a)) := by
      rw [show 93 + (n - 1 - m + 1) = 94 + (n - 1 - m) by omega]
      exact rowV _ (by omega)
    simp only [w2.f88_3, zc, nI_clamp (show n - 1 - m < 2 ^ 31 by omega), g1, g4, g3, g6, nI_clamp (show bly lo hi n m a < 2 ^ 31 by omega), nI_clamp (show a < 2 ^ 31 by omega), e94, wsum (V := Vw lo hi n m) (show bly lo hi n m a < 10 by omega) a10]
    refine ⟨w2.a (by decide) rfl, vp_in_nI (show n - 1 - m < 21 by omega) (by decide), by rw [nI_1]; exact vp_in_nI (show n - 1 - m + 1 < 21 by omega) (by decide), g5, in10n (by omega), g2, in10n a10, ?_⟩
    rw [← Vw_s, nI_1]
    have ne88 : (88 : Nat) ≠ 93 + (n - 1 - m) := by omega
    refine ih (a + 1) _ (by omega) (F.tr (Fr.sI (ts_in (by omega)))) ((rd_r ne88).trans e4) (fun q h1 h2' l hl => ?_) (fun l hl => ?_)
    · rw [rd_r (by omega)]
      exact W q h1 h2' l hl
    · by_cases c : l = a
      · subst c
        exact rd_h
      · exact (rd_k c).trans (e l (by omega))
theorem fd30 {h : AH} {P : Option Value → AH → Prop} (w : Wf h) {lo hi : Nat → Nat} {n : Nat} (hz : FZ lo hi n) (n20 : n ≤ 20) (Z : ZL h lo hi n) (kk : ∀ h3, Fr TS h h3 → gI h3 88 4 = nI n → WR h3 lo hi n 0 → Rr mX10_find 0 0 30 [(0, .ref 88), (2, .int (-1))] [] h3 P) : ∀ (r m : Nat) (h2 : AH), m + r = n → Fr TS h h2 → gI h2 88 4 = nI n → WR h2 lo hi n (n - m) → Rr mX10_find 0 0 30 [(0, .ref 88), (2, .int (nI (n - m) - 1))] [] h2 P := by
  intro r
  induction r with
  | zero =>
    intro m h2 hm F e4 W
    have e : n - m = 0 := by omega
    rw [e] at W ⊢
    exact kk h2 F e4 W
  | succ r ih =>
    intro m h2 hm F e4 W
    have e : n - m = (n - 1 - m) + 1 := by omega
    rw [e, nI_pred]
    refine sX10_find_30 h2 88 _ ⟨fun q => absurd q (nI_pos (by omega)), fun _ => ?_⟩
    refine fd36 w hz n20 (by omega) Z (fun h3 F3 e3 W3 => ?_) 10 0 h2 rfl F e4 W (fun l hl => absurd hl (Nat.not_lt_zero l))
    have := ih (m + 1) h3 (by omega) F3 e3 (by rw [show n - (m + 1) = n - 1 - m by omega]; exact W3)
    rw [show n - (m + 1) = n - 1 - m by omega] at this
    exact this
/-- the layers that are taken -/
def chs (lo hi : Nat → Nat) (n : Nat) : Nat → Nat
  | 0 => 0
  | z + 1 => bly lo hi n (n - 1 - z) (chs lo hi n z)
theorem chs_lt {lo hi : Nat → Nat} {n : Nat} (hz : FZ lo hi n) : ∀ z, z ≤ n → chs lo hi n z < 10
  | 0, _ => by show (0 : Nat) < 10; decide
  | z + 1, h => by
    have r := bly_r (m := n - 1 - z) (a := chs lo hi n z) hz (by omega)
    have f := hz (n - 1 - (n - 1 - z)) (by omega)
    show bly lo hi n (n - 1 - z) (chs lo hi n z) < 10
    omega
theorem tl9 {h : AH} {P : Option Value → AH → Prop} (w : Wf h) {lo hi : Nat → Nat} {n : Nat} (hz : FZ lo hi n) (n20 : n ≤ 20) (Z : ZL h lo hi n) (W : WR h lo hi n 0) (e4 : gI h 88 4 = nI n) (kk : ∀ h3, Fr [88, 114] h h3 → gI h3 88 4 = nI n → gI h3 88 6 = isum (fun z => nI (chs lo hi n (z + 1))) n → (∀ z, z < n → gI h3 114 z = nI (chs lo hi n (z + 1))) → P none h3) : ∀ (r z : Nat) (h2 : AH), z + r = n → Fr [88, 114] h h2 → gI h2 88 4 = nI n → gI h2 88 6 = isum (fun z => nI (chs lo hi n (z + 1))) z → (∀ q, q < z → gI h2 114 q = nI (chs lo hi n (q + 1))) → Rr mX10_takeLayers 0 0 9 [(0, .ref 88), (1, .int (nI (chs lo hi n z))), (2, .int (nI z))] [] h2 P := by
  intro r
  induction r with
  | zero =>
    intro z h2 hr F e4 e6 e
    have en : z = n := by omega
    subst en
    refine sX10_takeLayers_9 h2 88 _ _ ⟨(F.wf w).o (by decide) rfl, fun _ => kk h2 F e4 e6 e, fun q => absurd ?_ q⟩
    rw [e4]
    exact Int32.le_refl _
  | succ r ih =>
    intro z h2 hr F e4 e6 e
    have w2 := F.wf w
    have o : isO h2 10 88 := w2.o (by decide) rfl
    have fz := hz z (by omega)
    have zl := Z z (by omega)
    have c10 := chs_lt hz z (by omega)
    refine sX10_takeLayers_9 h2 88 _ _ ⟨o, fun q => absurd q ?_, fun _ => ?_⟩
    · rw [e4, nI_leI (by omega) (by omega)]
      omega
    have rowV : ∀ l, l < 10 → gI h2 (94 + z) l = nI (Vw lo hi n (n - 1 - z) l) := fun l hl => by
      have := W (z + 1) (Nat.zero_le _) (by omega) l hl
      rw [show n - (z + 1) = n - 1 - z by omega, show 93 + (z + 1) = 94 + z by omega] at this
      rw [F.I (by simp; omega)]
      exact this
    refine c10_light w2 (by omega) c10 fz.1 fz.2 ((F.I (by decide) z).trans zl.1) ((F.I (by decide) z).trans zl.2) rowV (Vw_b hz n20 (by omega)) ⟨_, rfl, o, ?_⟩
    have eb : lt1 (fw (Vw lo hi n (n - 1 - z)) (chs lo hi n z)) (lo z) (hi z - lo z) = chs lo hi n (z + 1) := by
      show _ = lt1 (fw (Vw lo hi n (n - 1 - z)) (chs lo hi n z)) (lo (n - 1 - (n - 1 - z))) (hi (n - 1 - (n - 1 - z)) - lo (n - 1 - (n - 1 - z)))
      rw [show n - 1 - (n - 1 - z) = z by omega]
    rw [eb, w2.f88_5, nI_clamp (by omega), nI_1, e6]
    refine ⟨w2.a (by decide) rfl, vp_in_nI (show z < 20 by omega) (by decide), ?_⟩
    refine ih (z + 1) _ (by omega) ((F.tr (Fr.sI (by decide))).tr (Fr.sI (by decide))) ((rd_k (by decide)).trans ((rd_r (by decide)).trans e4)) rd_h (fun q hq => ?_)
    rw [rd_r (by decide)]
    by_cases c : q = z
    · subst c
      exact rd_h
    · exact (rd_k c).trans (e q (by omega))
theorem imin20 : ∀ n : Fin 21, imin (nI n) 20 = nI n := by decide +kernel
theorem c10_find {h : AH} {P : Option Value → AH → Prop} (w : Wf h) {lo hi : Nat → Nat} {n : Nat} (hz : FZ lo hi n) (n20 : n ≤ 20) (Z : ZL h lo hi n) (kk : ∀ h3, Fr TS h h3 → gI h3 88 4 = nI n → gI h3 88 6 = isum (fun z => nI (chs lo hi n (z + 1))) n → (∀ z, z < n → gI h3 114 z = nI (chs lo hi n (z + 1))) → P (some (.int (nI (Vw lo hi n n 0) / 1000))) h3) : Call mX10_find [.ref 88, .int (nI n)] h P := by
  have o : isO h 10 88 := w.o (by decide) rfl
  obtain ⟨g1, g2, g3⟩ := f92 w (show n < 21 by omega)
  refine Call.ofR (by decide +kernel) (Nat.le_of_ble_eq_true rfl) (sX10_find_0 h 88 _ ?_)
  rw [imin20 ⟨n, by omega⟩]
  simp only
  rw [w.f88_3, nI_clamp (by omega), g1]
  refine ⟨o, w.a (by decide) rfl, vp_in_nI (show n < 21 by omega) (by decide), ?_⟩
  have F1 : Fr TS h (sI h 88 4 (nI n)) := Fr.sI (by decide)
  have w1 := F1.wf w
  refine c_fillI (f92 w1 (show n < 21 by omega)).2.1 ⟨rfl, ?_⟩
  have F2 : Fr TS h (fillI (sI h 88 4 (nI n)) (93 + n) 0 0) := F1.tr (Fr.rI (ts_in (by omega)))
  have w2 := F2.wf w
  have e4 : gI (fillI (sI h 88 4 (nI n)) (93 + n) 0 0) 88 4 = nI n := by
    unfold fillI
    rw [gI_rI, if_neg (by omega)]
    exact rd_h
  refine ⟨w2.o (by decide) rfl, ?_⟩
  rw [e4]
  have W0 : WR (fillI (sI h 88 4 (nI n)) (93 + n) 0 0) lo hi n (n - 0) := fun q h1 h2 l hl => by
    have e : q = n := by omega
    subst e
    unfold fillI
    rw [gI_rI, if_pos rfl, if_pos ⟨Nat.zero_le _, by rw [g3]; exact hl⟩, Nat.sub_self]
    rfl
  refine fd30 w hz n20 Z (fun h3 F3 e3 W3 => ?_) n 0 _ (Nat.zero_add n) F2 e4 W0
  have w3 := F3.wf w
  refine sX10_find_30 h3 88 _ ⟨fun _ => ⟨w3.o (by decide) rfl, ?_⟩, fun q => absurd (by decide) q⟩
  have F5 : Fr [88, 114] h3 (sI h3 88 6 0) := Fr.sI (by decide)
  have w5 := F5.wf w3
  refine Call.ofR (by decide +kernel) (Nat.le_of_ble_eq_true rfl) (sX10_takeLayers_0 h3 88 ⟨w3.o (by decide) rfl, ?_⟩)
  refine tl9 w3 hz n20 (Z.ag F3) W3 e3 (fun h6 F6 z4 z6 zl => ?_) n 0 _ (Nat.zero_add n) F5 ((rd_k (by decide)).trans e3) rd_h (fun q hq => absurd hq (Nat.not_lt_zero q))
  have G6 : Fr TS h h6 := F3.tr (F6.sub (by decide))
  have w6 := F6.wf w3
  obtain ⟨y1, y2, y3⟩ := f92 w6 (show 0 < 21 by decide)
  refine ⟨rfl, w6.o (by decide) rfl, ?_⟩
  have r0 : gI h6 93 0 = nI (Vw lo hi n n 0) := by
    rw [F6.I (by decide)]
    have := W3 0 (Nat.le_refl 0) (Nat.zero_le n) 0 (by decide)
    rw [Nat.sub_zero] at this
    exact this
  rw [w6.f88_3, cl0, y1, Nat.add_zero, r0]
  rw [Nat.add_zero] at y2 y3
  exact ⟨w6.a (by decide) rfl, vp_in_nI (n := 0) (N := 21) (by decide) (by decide), y2, by rw [y3]; exact in10n (w := 0) (by decide), kk h6 G6 z4 z6 zl⟩
