theorem sp_mul : ∀ (o : Fin 7) (s : Fin 1000), (nI s * nI o).toInt64 = (nI s).toInt64 * (nI o).toInt64 := by decide +kernel
theorem sp_mul2 {sp : Int32} {o : Nat} (h1 : 0 ≤ sp) (h2 : sp ≤ 999) (ho : o < 7) : (sp * nI o).toInt64 = sp.toInt64 * (nI o).toInt64 := by
  obtain ⟨s, hs, rfl⟩ : ∃ s : Nat, s ≤ 999 ∧ sp = nI s := nI_of2 (M := 999) rfl (by grind) h2
  exact sp_mul ⟨o, ho⟩ ⟨s, by omega⟩
theorem lmin_cmp (a b : Int64) : (if 0 ≤ lg_cmp b a then a else b) = lmin a b := by
  unfold lmin
  by_cases c : 0 ≤ lg_cmp b a
  · rw [if_pos c, if_neg]
    rw [lg_cmp_ge] at c
    exact Int64.not_lt.mpr c
  · rw [if_neg c, if_pos]
    rw [lg_cmp_ge] at c
    exact Int64.not_le.mp c
theorem go_i : ∀ o : Fin 7, (0 ≤ (if (6 : Int32) ≤ nI o then 6 else nI o + 1) ∧ (if (6 : Int32) ≤ nI o then 6 else nI o + 1) < 14 ∧ (if (6 : Int32) ≤ nI o then 6 else nI o + 1).toNatClampNeg = (if o.val < 6 then o.val + 1 else 6)) ∧ (0 ≤ (if nI o ≤ 0 then 0 else nI o - 1) ∧ (if nI o ≤ 0 then 0 else nI o - 1) < 14 ∧ (if nI o ≤ 0 then 0 else nI o - 1).toNatClampNeg = o.val - 1) := by decide +kernel
theorem c12_goOn {h : AH} {P : Option Value → AH → Prop} {u d sp : Int32} {y : Int64} {f : Nat → Int64} (w : Wf h) (s1 : 0 ≤ sp) (s2 : sp ≤ 999) {o : Nat} (ho : o < 7) (e : ∀ p, p < 7 → gL h 146 p = f p) (k : P (some (.long (gon u d sp y f o))) h) : Call mX12_goOn [.ref 116, .int (nI o), .long y, .int sp, .int u, .int d] h P := by
  obtain ⟨⟨a1, a2, a3⟩, b1, b2, b3⟩ := go_i ⟨o, ho⟩
  have w0 := w.f116_54
  refine aX12_goOn (w.o (by decide) rfl) (by rw [w0]; exact w.a (by decide) rfl) ?_ ?_ ?_ ?_
  · rw [w0]; exact vin_14.mpr ⟨a1, a2⟩
  · rw [w0]; exact vin_14.mpr ⟨b1, b2⟩
  · rw [w0]; exact vin_14.mpr ⟨nI_pos' (by omega), nI_lt (b := 14) (by omega) (by decide)⟩
  · rw [w0, a3, b3, nI_clamp (by omega)]
    have ev : y * sp.toInt64 * (nI o).toInt64 + u.toInt64 * gL h 146 (if o < 6 then o + 1 else 6) + d.toInt64 * gL h 146 (o - 1) + (10 - u - d).toInt64 * gL h 146 o = gon u d sp y f o := by
      unfold gon
      rw [sp_mul2 s1 s2 ho, ← gb_c ho e]
      unfold gb
      generalize u.toInt64 * gL h 146 (if o < 6 then o + 1 else 6) = A
      generalize d.toInt64 * gL h 146 (o - 1) = B
      generalize (10 - u - d).toInt64 * gL h 146 o = C
      generalize sp.toInt64 = s
      generalize (nI o).toInt64 = t
      grind
    show P (some (.long (y * sp.toInt64 * (nI o).toInt64 + u.toInt64 * gL h 146 (if o < 6 then o + 1 else 6) + d.toInt64 * gL h 146 (o - 1) + (10 - u - d).toInt64 * gL h 146 o))) h
    rw [ev]
    exact k
theorem hal_e (u d sp pr : Int32) (y : Int64) (f : Nat → Int64) : y * pr.toInt64 + gon u d sp y f 0 = hal u d pr y f := by
  unfold gon hal
  have e : (sp * nI 0).toInt64 = 0 := by rw [nI_0, Int32.mul_zero]; rfl
  rw [e]
  grind
theorem mm67 {h : AH} {P : Option Value → AH → Prop} (w : Wf h) {u d sp pr x1 x8 : Int32} {y : Int64} {f : Nat → Int64} (s1 : 0 ≤ sp) (s2 : sp ≤ 999) : ∀ (m o : Nat) (h2 : AH), o + m = 7 → Fr [146] h h2 → (∀ p, p < 7 → gL h2 146 p = f p) → (∀ p, p < o → gL h2 146 (7 + p) = mnx u d sp pr y f p) →
    (∀ h3, Fr [146] h h3 → (∀ p, p < 7 → gL h3 146 (7 + p) = mnx u d sp pr y f p) → Rr mX12_makeMeans 0 0 123 [(0, .ref 116), (1, .int x1), (2, .int sp), (3, .int pr), (4, .int u), (5, .int d), (6, .long y), (8, .int x8), (11, .int 0)] [] h3 P) →
    Rr mX12_makeMeans 0 0 67 [(0, .ref 116), (1, .int x1), (2, .int sp), (3, .int pr), (4, .int u), (5, .int d), (6, .long y), (8, .int x8), (9, .long (hal u d pr y f)), (11, .int (nI o))] [] h2 P
  | 0, o, h2, ho, F, e1, e2, k => by
    have e : o = 7 := by omega
    subst e
    exact sX12_makeMeans_67 h2 116 _ _ _ _ _ _ _ _ _ ⟨fun _ => k h2 F e2, fun q => absurd (by decide) q⟩
  | m + 1, o, h2, ho, F, e1, e2, k => by
    have w2 := F.wf w
    refine sX12_makeMeans_67 h2 116 _ _ _ _ _ _ _ _ _ ⟨fun q => absurd q ?_, fun _ => ⟨w2.o (by decide) rfl, ?_⟩⟩
    · rw [show (7 : Int32) = nI 7 from rfl, nI_leI (by decide) (by omega)]
      omega
    refine c12_goOn w2 s1 s2 (by omega) e1 ⟨_, rfl, w2.o (by decide) rfl, fun w7 hw7 => ?_⟩
    rw [lmin_cmp] at hw7
    rw [w2.f116_54, nI_1, show (7 : Int32) = nI 7 from rfl, nI_add, nI_clamp (by omega)]
    refine ⟨w2.a (by decide) rfl, vin_14.mpr ⟨nI_pos' (by omega), nI_lt (b := 14) (by omega) (by decide)⟩, ?_⟩
    refine mm67 w s1 s2 m (o + 1) _ (by omega) (F.tr (Fr.sL (by decide))) (fun p hp => (ld_k (by omega)).trans (e1 p hp)) (fun p hp => ?_) k
    by_cases c : p = o
    · subst c
      exact ld_h.trans hw7
    · exact (ld_k (by omega)).trans (e2 p (by omega))
theorem mm123 {h : AH} {P : Option Value → AH → Prop} (w : Wf h) {u d sp pr x1 x8 : Int32} {y : Int64} {f : Nat → Int64} : ∀ (m o : Nat) (h2 : AH), o + m = 7 → Fr [146] h h2 → (∀ p, p < 7 → gL h2 146 (7 + p) = f p) → (∀ p, p < o → gL h2 146 p = f p) →
    (∀ h3, Fr [146] h h3 → (∀ p, p < 7 → gL h3 146 p = f p) → Rr mX12_makeMeans 0 0 30 [(0, .ref 116), (1, .int x1), (2, .int sp), (3, .int pr), (4, .int u), (5, .int d), (6, .long y), (8, .int (x8 + 1))] [] h3 P) →
    Rr mX12_makeMeans 0 0 123 [(0, .ref 116), (1, .int x1), (2, .int sp), (3, .int pr), (4, .int u), (5, .int d), (6, .long y), (8, .int x8), (11, .int (nI o))] [] h2 P
  | 0, o, h2, ho, F, e1, e2, k => by
    have e : o = 7 := by omega
    subst e
    exact sX12_makeMeans_123 h2 116 _ _ _ _ _ _ _ _ ⟨fun _ => k h2 F e2, fun q => absurd (by decide) q⟩
  | m + 1, o, h2, ho, F, e1, e2, k => by
    have w2 := F.wf w
    refine sX12_makeMeans_123 h2 116 _ _ _ _ _ _ _ _ ⟨fun q => absurd q ?_, fun _ => ⟨w2.o (by decide) rfl, ?_⟩⟩
    · rw [show (7 : Int32) = nI 7 from rfl, nI_leI (by decide) (by omega)]
      omega
    rw [w2.f116_54, nI_1, show (7 : Int32) = nI 7 from rfl, nI_add, nI_clamp (by omega), nI_clamp (by omega), e1 o (by omega)]
    refine ⟨w2.a (by decide) rfl, vin_14.mpr ⟨nI_pos' (by omega), nI_lt (b := 14) (by omega) (by decide)⟩, vin_14.mpr ⟨nI_pos' (by omega), nI_lt (b := 14) (by omega) (by decide)⟩, ?_⟩
    refine mm123 w m (o + 1) _ (by omega) (F.tr (Fr.sL (by decide))) (fun p hp => (ld_k (by omega)).trans (e1 p hp)) (fun p hp => ?_) k
    by_cases c : p = o
    · subst c
      exact ld_h
    · exact (ld_k (by omega)).trans (e2 p (by omega))
theorem mean_1 (u d sp pr : Int32) (k : Nat) : 10 * (mean u d sp pr k).1 = (mean u d sp pr (k + 1)).1 := Int64.mul_comm _ _
theorem mm30 {h : AH} {P : Option Value → AH → Prop} (w : Wf h) {u d sp pr : Int32} (s1 : 0 ≤ sp) (s2 : sp ≤ 999) {n : Nat} (hn : n ≤ 8) (k : ∀ h3, Fr [146] h h3 → (∀ p, p < 7 → gL h3 146 p = (mean u d sp pr (n - 1)).2 p) → P (some (.long (mean u d sp pr (n - 1 + 1)).1)) h3) : ∀ (m b : Nat) (h2 : AH), b + 1 + m = n → Fr [146] h h2 → (∀ p, p < 7 → gL h2 146 p = (mean u d sp pr b).2 p) →
    Rr mX12_makeMeans 0 0 30 [(0, .ref 116), (1, .int (nI n)), (2, .int sp), (3, .int pr), (4, .int u), (5, .int d), (6, .long (mean u d sp pr b).1), (8, .int (nI (b + 1)))] [] h2 P
  | 0, b, h2, hb, F, e1 => by
    have e : b = n - 1 := by omega
    subst e
    refine sX12_makeMeans_30 h2 116 _ _ _ _ _ _ _ ⟨fun _ => ?_, fun q => absurd ?_ q⟩
    · rw [mean_1]
      exact k h2 F e1
    · rw [nI_leI (by omega) (by omega)]
      omega
  | m + 1, b, h2, hb, F, e1 => by
    have w2 := F.wf w
    refine sX12_makeMeans_30 h2 116 _ _ _ _ _ _ _ ⟨fun q => absurd q ?_, fun _ => ⟨w2.o (by decide) rfl, ?_⟩⟩
    · rw [nI_leI (by omega) (by omega)]
      omega
    refine c12_goOn (o := 0) w2 s1 s2 (by decide) e1 ⟨_, rfl, ?_⟩
    rw [hal_e]
    refine mm67 w s1 s2 7 0 h2 rfl F e1 (fun p hp => absurd hp (Nat.not_lt_zero p)) (fun h3 F3 e3 => ?_)
    refine mm123 w 7 0 h3 rfl F3 e3 (fun p hp => absurd hp (Nat.not_lt_zero p)) (fun h4 F4 e4 => ?_)
    rw [mean_1] at e4 ⊢
    rw [nI_1]
    exact mm30 w s1 s2 hn k m (b + 1) h4 (by omega) F4 e4
theorem mm3 {h : AH} {P : Option Value → AH → Prop} (w : Wf h) {u d sp pr x1 : Int32} : ∀ (m o : Nat) (h2 : AH), o + m = 7 → Fr [146] h h2 → (∀ p, p < o → gL h2 146 p = 0) →
    (∀ h3, Fr [146] h h3 → (∀ p, p < 7 → gL h3 146 p = 0) → Rr mX12_makeMeans 0 0 30 [(0, .ref 116), (1, .int x1), (2, .int sp), (3, .int pr), (4, .int u), (5, .int d), (6, .long 1), (8, .int 1)] [] h3 P) →
    Rr mX12_makeMeans 0 0 3 [(0, .ref 116), (1, .int x1), (2, .int sp), (3, .int pr), (4, .int u), (5, .int d), (6, .int (nI o))] [] h2 P
  | 0, o, h2, ho, F, e2, k => by
    have e : o = 7 := by omega
    subst e
    exact sX12_makeMeans_3 h2 116 _ _ _ _ _ _ ⟨fun _ => k h2 F e2, fun q => absurd (by decide) q⟩
  | m + 1, o, h2, ho, F, e2, k => by
    have w2 := F.wf w
    refine sX12_makeMeans_3 h2 116 _ _ _ _ _ _ ⟨fun q => absurd q ?_, fun _ => ⟨w2.o (by decide) rfl, ?_⟩⟩
    · rw [show (7 : Int32) = nI 7 from rfl, nI_leI (by decide) (by omega)]
      omega
    rw [w2.f116_54, nI_1, nI_clamp (by omega)]
    refine ⟨w2.a (by decide) rfl, vin_14.mpr ⟨nI_pos' (by omega), nI_lt (b := 14) (by omega) (by decide)⟩, ?_⟩
    refine mm3 w m (o + 1) _ (by omega) (F.tr (Fr.sL (by decide))) (fun p hp => ?_) k
    by_cases c : p = o
    · subst c
      exact ld_h
    · exact (ld_k (by omega)).trans (e2 p (by omega))
theorem c12_means {h : AH} {P : Option Value → AH → Prop} (w : Wf h) {u d sp pr : Int32} (s1 : 0 ≤ sp) (s2 : sp ≤ 999) {n : Nat} (hn0 : 0 < n) (hn : n ≤ 8) (k : ∀ h3, Fr [146] h h3 → (∀ p, p < 7 → gL h3 146 p = (mean u d sp pr (n - 1)).2 p) → P (some (.long (mean u d sp pr n).1)) h3) : Call mX12_makeMeans [.ref 116, .int (nI n), .int sp, .int pr, .int u, .int d] h P := by
  refine Call.ofR (by decide +kernel) (Nat.le_of_ble_eq_true rfl) (sX12_makeMeans_0 h 116 _ _ _ _ _ ?_)
  refine mm3 w 7 0 h rfl Fr.rf (fun p hp => absurd hp (Nat.not_lt_zero p)) (fun h3 F3 e3 => ?_)
  refine mm30 w s1 s2 hn (fun h4 F4 e4 => ?_) (n - 1) 0 h3 (by omega) F3 (fun p hp => by rw [e3 p hp]; rfl)
  rw [show n - 1 + 1 = n by omega]
  exact k h4 F4 e4
theorem ch_ok {x1 x2 x3 x4 : Int32} (c1 : ¬ x1 < 1 ∧ ¬ 8 < x1 ∧ ¬ x2 < 0 ∧ ¬ 6 < x2 ∧ (¬ x3 < 0 ∧ ¬ 999 < x3) ∧ (¬ x4 < 0 ∧ ¬ 999 < x4)) : ∃ n o : Nat, 0 < n ∧ n ≤ 8 ∧ o < 7 ∧ x1 = nI n ∧ x2 = nI o ∧ 0 ≤ x3 ∧ x3 ≤ 999 := by
  obtain ⟨n, hn, e1⟩ : ∃ n : Nat, n ≤ 8 ∧ x1 = nI n := nI_of2 (M := 8) rfl (by grind) (by grind)
  obtain ⟨o, ho, e2⟩ : ∃ n : Nat, n ≤ 6 ∧ x2 = nI n := nI_of2 (M := 6) rfl (by grind) (by grind)
  refine ⟨n, o, ?_, hn, by omega, e1, e2, by grind, by grind⟩
  rcases Nat.eq_zero_or_pos n with q | q
  · exfalso
    apply c1.1
    rw [e1, q]
    decide
  · exact q
theorem hl_keep {j : Nat} {h h2 h3 : AH} (I : Inv j h) (F : Fr [85, 86, 87] h h2) (F3 : Fr [146] h2 h3) : Inv j h3 := by
  have jb := jcase I.1 I.2.1
  have I2 : Inv j h2 := inv_keep I F (by rcases jb with rfl | rfl <;> decide) (fun q hq => F.I (by clear I; revert q; decide) _)
  exact inv_keep I2 F3 (by rcases jb with rfl | rfl <;> decide) (fun q hq => F3.I (by clear I I2; revert q; decide) _)
theorem pr_cost {j : Nat} {h : AH} (I : Inv j h) (x1 x2 x3 x4 x5 x6 : Int32) : PairL mX11_cost mX12_cost [.int x1, .int x2, .int x3, .int x4, .int x5, .int x6] h := by
  have w := I.1
  have rf : ¬ ((¬ x1 < 1 ∧ ¬ 8 < x1) ∧ (¬ x2 < 0 ∧ ¬ 6 < x2) ∧ (¬ x3 < 0 ∧ ¬ 999 < x3) ∧ (¬ x4 < 0 ∧ ¬ 999 < x4) ∧ (¬ x5 < 0 ∧ ¬ 10 < x5) ∧ (¬ x6 < 0 ∧ ¬ 10 < x6) ∧ ¬ 10 < (x5 + x6)) → Call mX12_cost [.ref 116, .int x1, .int x2, .int x3, .int x4, .int x5, .int x6] h (fun v2 h2 => v2 = some (.long (-2)) ∧ (∃ z : Int64, some (Value.long (-2)) = some (.long z)) ∧ ∃ j, Inv j h2) := fun c => by
    refine Call.ofR (by decide +kernel) (Nat.le_of_ble_eq_true rfl) (sX12_cost_0 h 116 _ _ _ _ _ _ (aX12_isHalting ⟨_, rfl, fun q => absurd (bi_0.mpr c) q, fun _ => ⟨rfl, ⟨_, rfl⟩, j, I⟩⟩))
  refine Call.ofR (by decide +kernel) (Nat.le_of_ble_eq_true rfl) (sX11_cost_0 h 0 _ _ _ _ _ _ ⟨fun c => rf (fun q => c ⟨q.1.1, q.1.2, q.2.1.1, q.2.1.2, q.2.2.1, q.2.2.2.1⟩), fun c1 => ⟨fun c2 => ?_, fun c2 => rf (fun q => c2 q.2.2.2.2)⟩⟩)
  have ca : (¬ x1 < 1 ∧ ¬ 8 < x1) ∧ (¬ x2 < 0 ∧ ¬ 6 < x2) ∧ (¬ x3 < 0 ∧ ¬ 999 < x3) ∧ (¬ x4 < 0 ∧ ¬ 999 < x4) ∧ (¬ x5 < 0 ∧ ¬ 10 < x5) ∧ (¬ x6 < 0 ∧ ¬ 10 < x6) ∧ ¬ 10 < (x5 + x6) := ⟨⟨c1.1, c1.2.1⟩, ⟨c1.2.2.1, c1.2.2.2.1⟩, c1.2.2.2.2.1, c1.2.2.2.2.2, c2⟩
  obtain ⟨n, o, hn0, hn, ho, rfl, rfl, s1, s2⟩ := ch_ok c1
  rw [w.f0_12]
  refine ⟨w.o (by decide) rfl, w.o (by decide) rfl, c2_weigh w ho hn hn0 (fun h2 F e3 e2 => ?_)⟩
  have w2 := F.wf w
  refine ⟨rfl, w2.o (by decide) rfl, ?_⟩
  rw [w2.f0_12, e2, e3]
  refine ⟨w2.o (by decide) rfl, ?_⟩
  refine Call.ofR (by decide +kernel) (Nat.le_of_ble_eq_true rfl) (sX12_cost_0 h2 116 _ _ _ _ _ _ (aX12_isHalting ⟨_, rfl, fun _ => ⟨w2.o (by decide) rfl, ?_⟩, fun q => absurd ca (bi_0.mp q)⟩))
  refine c12_means w2 s1 s2 hn0 hn (fun h3 F3 e4 => ⟨_, rfl, ?_⟩)
  have w3 := F3.wf w2
  have o3 : isO h3 12 116 := w3.o (by decide) rfl
  refine ⟨o3, c12_goOn (o := 0) w3 s1 s2 (by decide) e4 ⟨_, rfl, o3, c12_goOn w3 s1 s2 ho e4 ⟨_, rfl, fun w14 h14 => ⟨?_, ⟨_, rfl⟩, j, hl_keep I F F3⟩⟩⟩⟩
  rw [h14, hal_e, lmin_cmp]
theorem pr_halt {j : Nat} {h : AH} (I : Inv j h) (x1 x2 x3 x4 x5 x6 : Int32) : Pair mX11_halt mX12_halt [.int x1, .int x2, .int x3, .int x4, .int x5, .int x6] h := by
  have w := I.1
  have rf : ¬ ((¬ x1 < 1 ∧ ¬ 8 < x1) ∧ (¬ x2 < 0 ∧ ¬ 6 < x2) ∧ (¬ x3 < 0 ∧ ¬ 999 < x3) ∧ (¬ x4 < 0 ∧ ¬ 999 < x4) ∧ (¬ x5 < 0 ∧ ¬ 10 < x5) ∧ (¬ x6 < 0 ∧ ¬ 10 < x6) ∧ ¬ 10 < (x5 + x6)) → Call mX12_halt [.ref 116, .int x1, .int x2, .int x3, .int x4, .int x5, .int x6] h (fun v2 h2 => v2 = some (.int (-2)) ∧ (∃ z : Int32, some (Value.int (-2)) = some (.int z)) ∧ ∃ j, Inv j h2) := fun c => by
    refine Call.ofR (by decide +kernel) (Nat.le_of_ble_eq_true rfl) (sX12_halt_0 h 116 _ _ _ _ _ _ (aX12_isHalting ⟨_, rfl, fun q => absurd (bi_0.mpr c) q, fun _ => ⟨rfl, ⟨_, rfl⟩, j, I⟩⟩))
  refine Call.ofR (by decide +kernel) (Nat.le_of_ble_eq_true rfl) (sX11_halt_0 h 0 _ _ _ _ _ _ ⟨fun c => rf (fun q => c ⟨q.1.1, q.1.2, q.2.1.1, q.2.1.2, q.2.2.1, q.2.2.2.1⟩), fun c1 => ⟨fun c2 => ?_, fun c2 => rf (fun q => c2 q.2.2.2.2)⟩⟩)
  have ca : (¬ x1 < 1 ∧ ¬ 8 < x1) ∧ (¬ x2 < 0 ∧ ¬ 6 < x2) ∧ (¬ x3 < 0 ∧ ¬ 999 < x3) ∧ (¬ x4 < 0 ∧ ¬ 999 < x4) ∧ (¬ x5 < 0 ∧ ¬ 10 < x5) ∧ (¬ x6 < 0 ∧ ¬ 10 < x6) ∧ ¬ 10 < (x5 + x6) := ⟨⟨c1.1, c1.2.1⟩, ⟨c1.2.2.1, c1.2.2.2.1⟩, c1.2.2.2.2.1, c1.2.2.2.2.2, c2⟩
  obtain ⟨n, o, hn0, hn, ho, rfl, rfl, s1, s2⟩ := ch_ok c1
  rw [w.f0_12]
  refine ⟨w.o (by decide) rfl, w.o (by decide) rfl, c2_weigh w ho hn hn0 (fun h2 F e3 e2 => ?_)⟩
  have w2 := F.wf w
  refine ⟨rfl, w2.o (by decide) rfl, ?_⟩
  rw [w2.f0_12, e2, e3]
  refine ⟨w2.o (by decide) rfl, ?_⟩
  refine Call.ofR (by decide +kernel) (Nat.le_of_ble_eq_true rfl) (sX12_halt_0 h2 116 _ _ _ _ _ _ (aX12_isHalting ⟨_, rfl, fun _ => ⟨w2.o (by decide) rfl, ?_⟩, fun q => absurd ca (bi_0.mp q)⟩))
  refine c12_means w2 s1 s2 hn0 hn (fun h3 F3 e4 => ⟨_, rfl, ?_⟩)
  have w3 := F3.wf w2
  have o3 : isO h3 12 116 := w3.o (by decide) rfl
  refine ⟨o3, c12_goOn (o := 0) w3 s1 s2 (by decide) e4 ⟨_, rfl, o3, c12_goOn w3 s1 s2 ho e4 ⟨_, rfl, ?_, ⟨_, rfl⟩, j, hl_keep I F F3⟩⟩⟩
  rw [hal_e]
