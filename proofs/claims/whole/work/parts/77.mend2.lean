theorem isum_c {f g : Nat → Int32} : ∀ {n : Nat}, (∀ k, k < n → f k = g k) → isum f n = isum g n
  | 0, _ => rfl
  | n + 1, e => by
    show isum f n + f n = isum g n + g n
    rw [isum_c (fun k hk => e k (by omega)), e n (by omega)]
/-- the turn of screw k in row c -/
def tn (t e ns c k : Nat) : Int32 := nI (dgt e ns c k) - nI t
def rowS (S : Nat → Int32) (t e ns c k : Nat) : Int32 := tn t e ns c k * S k
theorem Int32_add_assoc (a b c : Int32) : a + b + c = a + (b + c) := Int32.add_assoc a b c
theorem c3_screw {j : Nat} {h : AH} {P : Option Value → AH → Prop} (w : Wf h) (hj : gF h 0 2 = j) {i k x : Nat} (hi : i < 4) (hk : k < 3) (hx : x < 3) (kk : P (some (.int (gI h (j + 4) (9 * i + 3 * k + x)))) h) : Call mX3_screwNumber [.ref j, .int (nI i), .int (nI k), .int (nI x)] h P := by
  obtain ⟨hO, -, -, -, -, f8, -, -, -, -, -, -⟩ := job_refs w hj
  obtain ⟨-, -, -, ⟨a4, l4⟩, -, -, -, -, -⟩ := job_arrs w hj
  have e : ((nI i * 3 + nI k) * 3 + nI x) = nI (9 * i + 3 * k + x) := by
    rw [show (3 : Int32) = nI 3 from rfl, pk_mul, nI_add, pk_mul, nI_add]
    congr 1
    omega
  refine aX3_screwNumber hO (by rw [f8]; exact a4) (fun _ _ => ?_) ?_
  · rw [e, f8, l4]
    exact vp_in_nI (by omega) (by decide)
  · rw [e, f8, l4, if_neg (nI_pos (by omega)), if_neg, nI_clamp (by omega)]
    · exact kk
    · show ¬ nI 36 ≤ nI (9 * i + 3 * k + x)
      rw [nI_leI (by decide) (by omega)]
      omega
/-- the row of the press is row c -/
def RwC (h : AH) (t e ns c : Nat) : Prop := ∀ k, k < ns → gI h 60 k = tn t e ns c k
theorem c6_turns {h : AH} {P : Option Value → AH → Prop} (w : Wf h) {t e ns c : Nat} (hs : gI h 59 5 = nI ns) (n3 : ns ≤ 3) (R : RwC h t e ns c) (k : P (some (.int (isum (fun k => iabs (tn t e ns c k)) ns))) h) : Call mX6_turnsOfRow [.ref 59] h P := by
  have lp : ∀ (m i : Nat), i + m = ns → Rr mX6_turnsOfRow 0 0 4 [(0, .ref 59), (1, .int (isum (fun k => iabs (tn t e ns c k)) i)), (2, .int (nI i))] [] h P := by
    intro m
    induction m with
    | zero =>
      intro i hi
      have e : i = ns := by omega
      subst e
      refine sX6_turnsOfRow_4 h 59 _ _ ⟨w.o (by decide) rfl, fun _ => k, fun q => absurd ?_ q⟩
      rw [hs]
      exact Int32.le_refl _
    | succ m ih =>
      intro i hi
      refine sX6_turnsOfRow_4 h 59 _ _ ⟨w.o (by decide) rfl, fun q => absurd q ?_, fun _ => ?_⟩
      · rw [hs, nI_leI (by omega) (by omega)]
        omega
      rw [w.f59_4, nI_clamp (by omega), nI_1, R i (by omega)]
      exact ⟨w.a (by decide) rfl, vp_in_nI (show i < 3 by omega) (by decide), ih (i + 1) (by omega)⟩
  exact Call.ofR (by decide +kernel) (Nat.le_of_ble_eq_true rfl) (sX6_turnsOfRow_0 h 59 (lp ns 0 (Nat.zero_add ns)))
theorem c6_badRow {j : Nat} {h : AH} {P : Option Value → AH → Prop} (w : Wf h) (hj : gF h 0 2 = j) {t e ns c i n : Nat} (hi : i < 4) (hs : gI h 59 5 = nI ns) (n3 : ns ≤ 3) (hn : gI h j 3 = nI n) (n8 : n ≤ 8) (R : RwC h t e ns c) (k : P (some (.int (bdl (gI h (j + 1)) (gI h (j + 2)) (gI h 59 0 + isum (rowS (fun k => gI h (j + 4) (9 * i + 3 * k)) t e ns c) ns) (gI h 59 1 + isum (rowS (fun k => gI h (j + 4) (9 * i + 3 * k + 1)) t e ns c) ns) (gI h 59 2 + isum (rowS (fun k => gI h (j + 4) (9 * i + 3 * k + 2)) t e ns c) ns) (gI h 59 3) n))) h) : Call mX6_badOfRow [.ref 59, .ref j, .int (nI i)] h P := by
  obtain ⟨hO, -, -, -, -, -, -, -, -, -, -, -⟩ := job_refs w hj
  have o6 : isO h 6 59 := w.o (by decide) rfl
  have a60 : isA h 0 60 := w.a (by decide) rfl
  have lp : ∀ (m x : Nat), x + m = ns → Rr mX6_badOfRow 0 0 20 [(0, .ref 59), (1, .ref j), (2, .int (nI i)), (3, .int (gI h 59 0 + isum (rowS (fun k => gI h (j + 4) (9 * i + 3 * k)) t e ns c) x)), (4, .int (gI h 59 1 + isum (rowS (fun k => gI h (j + 4) (9 * i + 3 * k + 1)) t e ns c) x)), (5, .int (gI h 59 2 + isum (rowS (fun k => gI h (j + 4) (9 * i + 3 * k + 2)) t e ns c) x)), (6, .int (nI x))] [] h P := by
    intro m
    induction m with
    | zero =>
      intro x hx
      have e : x = ns := by omega
      subst e
      refine sX6_badOfRow_20 h 59 j _ _ _ _ _ ⟨o6, fun _ => c6_bad w hj hn n8 ⟨_, rfl, k⟩, fun q => absurd ?_ q⟩
      rw [hs]
      exact Int32.le_refl _
    | succ m ih =>
      intro x hx
      have v : vp_in (nI x) 3 := vp_in_nI (by omega) (by decide)
      refine sX6_badOfRow_20 h 59 j _ _ _ _ _ ⟨o6, fun q => absurd q ?_, fun _ => ?_⟩
      · rw [hs, nI_leI (by omega) (by omega)]
        omega
      rw [w.f59_4, nI_clamp (by omega), nI_1, R x (by omega)]
      refine ⟨a60, v, hO, c3_screw (x := 0) w hj hi (by omega) (by decide) ⟨_, rfl, o6, ?_⟩⟩
      rw [w.f59_4, R x (by omega)]
      refine ⟨a60, v, hO, c3_screw (x := 1) w hj hi (by omega) (by decide) ⟨_, rfl, o6, ?_⟩⟩
      rw [w.f59_4, R x (by omega)]
      refine ⟨a60, v, hO, c3_screw (x := 2) w hj hi (by omega) (by decide) ⟨_, rfl, ?_⟩⟩
      rw [Int32_add_assoc, Int32_add_assoc, Int32_add_assoc]
      exact ih (x + 1) (by omega)
  have s0 : ∀ z : Int32, z + isum (rowS (fun k => gI h (j + 4) (9 * i + 3 * k)) t e ns c) 0 = z := fun z => Int32.add_zero z
  have l0 := lp ns 0 (Nat.zero_add ns)
  refine Call.ofR (by decide +kernel) (Nat.le_of_ble_eq_true rfl) (sX6_badOfRow_0 h 59 j _ ⟨o6, ?_⟩)
  have z0 : ∀ (z : Int32) (f : Nat → Int32), z + isum f 0 = z := fun z f => Int32.add_zero z
  rw [z0, z0, z0] at l0
  exact l0
theorem tn_max {t e ns c k : Nat} (he : e = 2 * t + 1) (t4 : t ≤ 4) : (nI t ≤ tn t e ns c k ↔ dgt e ns c k = e - 1) ∧ (tn t e ns c k + 1 = nI (dgt e ns c k + 1) - nI t) := by
  have l := dgt_lt (e := e) (by omega) ns c k
  unfold tn
  generalize dgt e ns c k = d at l
  have := (by decide +kernel : ∀ (t : Fin 5) (d : Fin 9), d.val < 2 * t.val + 1 → (nI t ≤ nI d - nI t ↔ d.val = 2 * t.val) ∧ (nI d - nI t + 1 = nI (d.val + 1) - nI t)) ⟨t, by omega⟩ ⟨d, by omega⟩ (by show d < 2 * t + 1; omega)
  simp only at this
  refine ⟨?_, this.2⟩
  rw [this.1]
  omega
theorem tn_0 (t e ns c k : Nat) (h : dgt e ns c k = 0) : tn t e ns c k = -(nI t) := by
  unfold tn
  rw [h, nI_0, Int32.zero_sub]
/-- on to the next row -/
theorem c6_next {h : AH} {P : Option Value → AH → Prop} (w : Wf h) {t e ns c : Nat} (he : e = 2 * t + 1) (t4 : t ≤ 4) (hs : gI h 59 5 = nI ns) (n3 : ns ≤ 3) (R : RwC h t e ns c) (kk : ∀ h3, Fr [60] h h3 → (c + 1 < e ^ ns → RwC h3 t e ns (c + 1)) → P none h3) : Call mX6_nextRow [.ref 59, .int (nI t)] h P := by
  have e0 : 0 < e := by omega
  have lp : ∀ (m : Nat) (h2 : AH), m ≤ ns → Fr [60] h h2 → c % e ^ (ns - m) = e ^ (ns - m) - 1 → (∀ k, k < m → gI h2 60 k = tn t e ns c k) → (∀ k, m ≤ k → k < ns → gI h2 60 k = -(nI t)) → Rr mX6_nextRow 0 0 7 [(0, .ref 59), (1, .int (nI t)), (2, .int (nI m - 1))] [] h2 P := by
    intro m
    induction m with
    | zero =>
      intro h2 hm F hc e1 e2
      refine sX6_nextRow_7 h2 59 _ _ ⟨fun _ => kk h2 F (fun z => ?_), fun q => absurd (by decide) q⟩
      exfalso
      rw [Nat.sub_zero] at hc
      rw [Nat.mod_eq_of_lt (by omega)] at hc
      omega
    | succ m ih =>
      intro h2 hm F hc e1 e2
      have w2 := F.wf w
      have v : vp_in (nI m) 3 := vp_in_nI (by omega) (by decide)
      have tm := tn_max (ns := ns) (c := c) (k := m) he t4
      refine sX6_nextRow_7 h2 59 _ _ ?_
      rw [nI_pred, w2.f59_4, nI_clamp (by omega), e1 m (by omega), ← Int32.sub_eq_add_neg]
      refine ⟨fun q => absurd q (nI_pos (by omega)), fun _ => ⟨w2.o (by decide) rfl, w2.a (by decide) rfl, v, fun q => ?_, fun q => ?_⟩⟩
      · refine ih _ (by omega) (F.tr (Fr.sI (by decide))) (dgt_carry e0 (by omega) hc (tm.1.mp q)) (fun k hk => (rd_k (by omega)).trans (e1 k (by omega))) (fun k h1 h2 => ?_)
        by_cases z : k = m
        · subst z
          exact rd_h
        · exact (rd_k z).trans (e2 k (by omega) h2)
      · obtain ⟨d1, d2, d3⟩ := dgt_next e0 (show m < ns by omega) hc (fun z => q (tm.1.mpr z))
        refine kk _ (F.tr (Fr.sI (by decide))) (fun _ k hk => ?_)
        rcases Nat.lt_trichotomy k m with z | z | z
        · rw [rd_k (by omega), e1 k (by omega)]
          unfold tn
          rw [d3 k z]
        · subst z
          rw [rd_h, tm.2]
          unfold tn
          rw [d1]
        · rw [rd_k (by omega), e2 k (by omega) hk]
          exact (tn_0 t e ns (c + 1) k (d2 k z hk)).symm
  refine Call.ofR (by decide +kernel) (Nat.le_of_ble_eq_true rfl) (sX6_nextRow_0 h 59 _ ⟨w.o (by decide) rfl, ?_⟩)
  rw [hs]
  refine lp ns h (Nat.le_refl ns) Fr.rf ?_ R (fun k h1 h2 => absurd h2 (by omega))
  rw [Nat.sub_self, Nat.pow_zero, Nat.mod_one]
theorem c6_begin {h : AH} {P : Option Value → AH → Prop} (w : Wf h) {t e ns : Nat} (he : e = 2 * t + 1) (hs : gI h 59 5 = nI ns) (n3 : ns ≤ 3) (kk : ∀ h3, Fr [60] h h3 → RwC h3 t e ns 0 → P (some (.int (nI (e ^ ns)))) h3) : Call mX6_beginRows [.ref 59, .int (nI t)] h P := by
  have lp : ∀ (m i : Nat) (h2 : AH), i + m = ns → Fr [60] h h2 → (∀ k, k < i → gI h2 60 k = -(nI t)) → Rr mX6_beginRows 0 0 4 [(0, .ref 59), (1, .int (nI t)), (2, .int (nI (e ^ i))), (3, .int (nI i))] [] h2 P := by
    intro m
    induction m with
    | zero =>
      intro i h2 hi F e1
      have e : i = ns := by omega
      subst e
      refine sX6_beginRows_4 h2 59 _ _ _ ⟨(F.wf w).o (by decide) rfl, fun _ => kk h2 F (fun k hk => ?_), fun q => absurd ?_ q⟩
      · rw [e1 k hk]
        exact (tn_0 _ _ _ _ _ (dgt_0 _ _)).symm
      · rw [F.I (by decide), hs]
        exact Int32.le_refl _
    | succ m ih =>
      intro i h2 hi F e1
      have w2 := F.wf w
      refine sX6_beginRows_4 h2 59 _ _ _ ⟨w2.o (by decide) rfl, fun q => absurd q ?_, fun _ => ?_⟩
      · rw [F.I (by decide), hs, nI_leI (by omega) (by omega)]
        omega
      have ee : (2 : Int32) * nI t + 1 = nI e := by
        rw [show (2 : Int32) = nI 2 from rfl, pk_mul, nI_1, he]
      rw [w2.f59_4, nI_clamp (by omega), nI_1, ee, pk_mul, ← Nat.pow_succ]
      refine ⟨w2.a (by decide) rfl, vp_in_nI (show i < 3 by omega) (by decide), ih (i + 1) _ (by omega) (F.tr (Fr.sI (by decide))) (fun k hk => ?_)⟩
      by_cases z : k = i
      · subst z
        exact rd_h
      · exact (rd_k z).trans (e1 k (by omega))
  exact Call.ofR (by decide +kernel) (Nat.le_of_ble_eq_true rfl) (sX6_beginRows_0 h 59 _ (lp ns 0 h (Nat.zero_add ns) Fr.rf (fun k hk => absurd hk (Nat.not_lt_zero k))))
