def may (g : Nat → Int32) (st fr to : Int32) (z l : Nat) : Bool := decide (¬ (g z + nI l * st) < fr ∧ ¬ to < (g z + nI l * st))
def ZS (m : Nat → Nat → Bool) (z k : Nat) (F M : Int32) : Prop := (F = 10 ∧ M = -1 ∧ ∀ l, l < k → ¬ m z l = true) ∨ ∃ lo hi : Nat, lo ≤ hi ∧ hi < k ∧ m z lo = true ∧ m z hi = true ∧ (∀ l, l < lo → ¬ m z l = true) ∧ (∀ l, hi < l → l < k → ¬ m z l = true) ∧ F = nI lo ∧ M = nI hi
theorem imin10 : ∀ k : Fin 10, imin 10 (nI k) = nI k ∧ ∀ l : Fin 10, l.val < k.val → imin (nI l) (nI k) = nI l := by decide +kernel
theorem ZS_no {m : Nat → Nat → Bool} {z k : Nat} {F M : Int32} (s : ZS m z k F M) (h : ¬ m z k = true) : ZS m z (k + 1) F M := by
  rcases s with ⟨a, b, c⟩ | ⟨lo, hi, a1, a2, a3, a4, a5, a6, a7, a8⟩
  · refine Or.inl ⟨a, b, fun l hl => ?_⟩
    by_cases e : l = k
    · rw [e]; exact h
    · exact c l (by omega)
  · refine Or.inr ⟨lo, hi, a1, by omega, a3, a4, a5, fun l h1 h2 => ?_, a7, a8⟩
    by_cases e : l = k
    · rw [e]; exact h
    · exact a6 l h1 (by omega)
theorem ZS_yes {m : Nat → Nat → Bool} {z k : Nat} {F M : Int32} (s : ZS m z k F M) (hk : k < 10) (h : m z k = true) : ZS m z (k + 1) (imin F (nI k)) (nI k) := by
  have i := imin10 ⟨k, hk⟩
  simp only at i
  rcases s with ⟨a, b, c⟩ | ⟨lo, hi, a1, a2, a3, a4, a5, a6, a7, a8⟩
  · refine Or.inr ⟨k, k, Nat.le_refl k, by omega, h, h, c, fun l h1 h2 => by omega, ?_, rfl⟩
    rw [a]
    exact i.1
  · refine Or.inr ⟨lo, k, by omega, by omega, a3, h, a5, fun l h1 h2 => by omega, ?_, rfl⟩
    rw [a7]
    exact i.2 ⟨lo, by omega⟩ (by show lo < k; omega)
theorem bd_loop {h : AH} {P : Option Value → AH → Prop} (w : Wf h) {n : Nat} (n20 : n ≤ 20) {st fr to : Int32} (k1 : ∀ h3, Fr [90, 91] h h3 → (∀ z, z < n → ZS (may (gI h 89) st fr to) z 10 (gI h3 90 z) (gI h3 91 z)) → (∀ z, z < n → ¬ gI h3 91 z = -1) → P (some (.int 1)) h3) (k0 : ∀ h3, Fr [90, 91] h h3 → (∃ z, z < n ∧ ∀ l, l < 10 → ¬ may (gI h 89) st fr to z l = true) → P (some (.int 0)) h3) : ∀ (m z : Nat) (x5 : Int32) (h2 : AH), z + m = n → Fr [90, 91] h h2 → (∀ q, q < z → ZS (may (gI h 89) st fr to) q 10 (gI h2 90 q) (gI h2 91 q)) → ((x5 = 1 ∧ ∀ q, q < z → ¬ gI h2 91 q = -1) ∨ (x5 = 0 ∧ ∃ q, q < z ∧ ∀ l, l < 10 → ¬ may (gI h 89) st fr to q l = true)) → Rr mX10_bound 0 0 6 [(0, .ref 88), (1, .int (nI n)), (2, .int st), (3, .int fr), (4, .int to), (5, .int x5), (6, .int (nI z))] [] h2 P := by
  intro m
  induction m with
  | zero =>
    intro z x5 h2 hz F zs g
    have e : z = n := by omega
    subst e
    refine sX10_bound_6 h2 88 _ _ _ _ _ _ ⟨fun _ => ?_, fun q => absurd (Int32.le_refl _) q⟩
    rcases g with ⟨rfl, g⟩ | ⟨rfl, q, q1, q2⟩
    · exact ⟨Or.inr rfl, k1 h2 F zs g⟩
    · exact ⟨Or.inl rfl, k0 h2 F ⟨q, q1, q2⟩⟩
  | succ m ih =>
    intro z x5 h2 hz F zs g
    have w2 := F.wf w
    have v : vp_in (nI z) 20 := vp_in_nI (by omega) (by decide)
    refine sX10_bound_6 h2 88 _ _ _ _ _ _ ⟨fun q => absurd q ?_, fun _ => ⟨fun q => absurd q ?_, fun _ => ?_⟩⟩
    · rw [nI_leI (by omega) (by omega)]
      omega
    · rw [show (20 : Int32) = nI 20 from rfl, nI_leI (by decide) (by omega)]
      omega
    rw [w2.f88_1, w2.f88_2, nI_clamp (by omega)]
    refine ⟨w2.o (by decide) rfl, w2.a (by decide) rfl, v, w2.a (by decide) rfl, v, ?_⟩
    have lp : ∀ (r k : Nat) (h3 : AH), k + r = 10 → Fr [90, 91] h h3 → (∀ q, q < z → ZS (may (gI h 89) st fr to) q 10 (gI h3 90 q) (gI h3 91 q)) → (∀ q, q < z → gI h3 91 q = gI h2 91 q) → ZS (may (gI h 89) st fr to) z k (gI h3 90 z) (gI h3 91 z) → Rr mX10_bound 0 0 39 [(0, .ref 88), (1, .int (nI n)), (2, .int st), (3, .int fr), (4, .int to), (5, .int x5), (6, .int (nI z)), (7, .int (nI k))] [] h3 P := by
      intro r
      induction r with
      | zero =>
        intro k h3 hk F3 zs3 e91 s
        have e : k = 10 := by omega
        subst e
        have w3 := F3.wf w
        refine sX10_bound_39 h3 88 _ _ _ _ _ _ _ ⟨fun _ => ?_, fun q => absurd (by decide) q⟩
        rw [w3.f88_2, nI_clamp (by omega), nI_1]
        refine ⟨w3.o (by decide) rfl, w3.a (by decide) rfl, fun _ => v, ?_⟩
        refine ih (z + 1) _ h3 (by omega) F3 (fun q hq => ?_) ?_
        · by_cases e : q = z
          · rw [e]; exact s
          · exact zs3 q (by omega)
        · have cs : gI h3 91 z = -1 → ∀ l, l < 10 → ¬ may (gI h 89) st fr to z l = true := fun hm => by
            rcases s with ⟨-, -, c⟩ | ⟨lo, hi, -, b2, -, -, -, -, -, b8⟩
            · exact c
            · exfalso
              rw [hm] at b8
              exact nI_ne1 (show hi < 2 ^ 31 by omega) b8.symm
          rcases g with ⟨rfl, g⟩ | ⟨rfl, q, q1, q2⟩
          · by_cases c : gI h3 91 z = -1
            · right
              refine ⟨if_neg (fun z => z.2 c), z, by omega, cs c⟩
            · left
              refine ⟨if_pos ⟨by decide, c⟩, fun q hq => ?_⟩
              by_cases e : q = z
              · rw [e]; exact c
              · rw [e91 q (by omega)]
                exact g q (by omega)
          · right
            exact ⟨if_neg (fun z => z.1 rfl), q, by omega, q2⟩
      | succ r ih2 =>
        intro k h3 hk F3 zs3 e91 s
        have w3 := F3.wf w
        have k10 : k < 10 := by omega
        refine sX10_bound_39 h3 88 _ _ _ _ _ _ _ ⟨fun q => absurd q ?_, fun _ => ?_⟩
        · rw [show (10 : Int32) = nI 10 from rfl, nI_leI (by decide) (by omega)]
          omega
        rw [w3.f88_0, w3.f88_1, w3.f88_2, nI_clamp (by omega), nI_1, F3.I (r := 89) (by decide)]
        have no : ¬ may (gI h 89) st fr to z k = true → Rr mX10_bound 0 0 39 [(0, .ref 88), (1, .int (nI n)), (2, .int st), (3, .int fr), (4, .int to), (5, .int x5), (6, .int (nI z)), (7, .int (nI (k + 1)))] [] h3 P := fun c => ih2 (k + 1) h3 (by omega) F3 zs3 e91 (ZS_no s c)
        refine ⟨w3.o (by decide) rfl, w3.a (by decide) rfl, v, fun c => no ?_, fun c => ⟨fun c2 => no ?_, fun c2 => ⟨w3.a (by decide) rfl, v, w3.a (by decide) rfl, v, ?_⟩⟩⟩
        · unfold may
          rw [decide_eq_true_eq]
          exact fun z => z.1 c
        · unfold may
          rw [decide_eq_true_eq]
          exact fun z => z.2 c2
        · have yes : may (gI h 89) st fr to z k = true := by
            unfold may
            rw [decide_eq_true_eq]
            exact ⟨c, c2⟩
          have s' := ZS_yes s k10 yes
          refine ih2 (k + 1) _ (by omega) ((F3.tr (Fr.sI (by decide))).tr (Fr.sI (by decide))) (fun q hq => ?_) (fun q hq => ?_) ?_
          · rw [rd_r (by decide), rd_k (by omega), rd_k (by omega), rd_r (by decide)]
            exact zs3 q hq
          · rw [rd_k (by omega), rd_r (by decide)]
            exact e91 q hq
          · rw [rd_r (by decide), rd_h, rd_h]
            exact s'
    refine lp 10 0 _ rfl ((F.tr (Fr.sI (by decide))).tr (Fr.sI (by decide))) (fun q hq => ?_) (fun q hq => ?_) (Or.inl ⟨?_, ?_, fun l hl => absurd hl (Nat.not_lt_zero l)⟩)
    · rw [rd_r (by decide), rd_k (by omega), rd_k (by omega), rd_r (by decide)]
      exact zs q hq
    · rw [rd_k (by omega), rd_r (by decide)]
    · rw [rd_r (by decide), rd_h]
    · rw [rd_h]
theorem c10_bound {h : AH} {P : Option Value → AH → Prop} (w : Wf h) {n : Nat} (n20 : n ≤ 20) {st fr to : Int32} (k1 : ∀ h3, Fr [90, 91] h h3 → (∀ z, z < n → ZS (may (gI h 89) st fr to) z 10 (gI h3 90 z) (gI h3 91 z)) → (∀ z, z < n → ¬ gI h3 91 z = -1) → P (some (.int 1)) h3) (k0 : ∀ h3, Fr [90, 91] h h3 → (∃ z, z < n ∧ ∀ l, l < 10 → ¬ may (gI h 89) st fr to z l = true) → P (some (.int 0)) h3) : Call mX10_bound [.ref 88, .int (nI n), .int st, .int fr, .int to] h P :=
  Call.ofR (by decide +kernel) (Nat.le_of_ble_eq_true rfl) (sX10_bound_0 h 88 _ _ _ _ (bd_loop w n20 k1 k0 n 0 1 h (Nat.zero_add n) Fr.rf (fun q hq => absurd hq (Nat.not_lt_zero q)) (Or.inl ⟨rfl, fun q hq => absurd hq (Nat.not_lt_zero q)⟩)))
/-! the press's weights -/
theorem f92 {h : AH} (w : Wf h) {k : Nat} (hk : k < 21) : gF h 92 k = 93 + k ∧ isA h 0 (93 + k) ∧ ln (93 + k) = 10 := by
  have t := (by decide +kernel : ∀ k : Fin 21, RFL[93 + k.val]? = some (92, k.val, 93 + k.val) ∧ kd (93 + k.val) = 100 ∧ ln (93 + k.val) = 10) ⟨k, hk⟩
  exact ⟨w.rf (93 + k) t.1, w.a (by omega) t.2.1, t.2.2⟩
theorem wexp : ∀ (x a : Fin 10), 1000 * imax (nI x - nI a) 0 = nI (1000 * (x.val - a.val)) := by decide +kernel
theorem wsum {V : Nat → Nat} {x a : Nat} (hx : x < 10) (ha : a < 10) : 1000 * imax (nI x - nI a) 0 + nI x + nI (V x) = nI (fw V a x) := by
  have e := wexp ⟨x, hx⟩ ⟨a, ha⟩
  simp only at e
  rw [e, nI_add, nI_add]
  rfl
theorem in10n {w : Nat} (hw : w < 10) : vp_in (nI w) 10 := vp_in_nI hw (by decide)
theorem c10_light {h : AH} {P : Option Value → AH → Prop} (w : Wf h) {z a lo hi : Nat} {V : Nat → Nat} (hz : z < 20) (ha : a < 10) (hl : lo ≤ hi) (h9 : hi ≤ 9) (e90 : gI h 90 z = nI lo) (e91 : gI h 91 z = nI hi) (hV : ∀ l, l < 10 → gI h (94 + z) l = nI (V l)) (Vb : ∀ l, V l ≤ 180180) (k : P (some (.int (nI (lt1 (fw V a) lo (hi - lo))))) h) : Call mX10_lightest [.ref 88, .int (nI z), .int (nI a)] h P := by
  obtain ⟨g1, g2, g3⟩ := f92 w (show z + 1 < 21 by omega)
  rw [show 93 + (z + 1) = 94 + z by omega] at g1 g2 g3
  have o : isO h 10 88 := w.o (by decide) rfl
  have v : vp_in (nI z) 20 := vp_in_nI (by omega) (by decide)
  have fb : ∀ x, x < 10 → fw V a x < 2 ^ 31 := fun x hx => by
    have := Vb x
    unfold fw cst
    omega
  have lp : ∀ (r m : Nat), lo + m + r = hi → Rr mX10_lightest 0 0 17 [(0, .ref 88), (1, .int (nI z)), (2, .int (nI a)), (3, .int (nI (lt1 (fw V a) lo m))), (4, .int (nI (lo + m + 1)))] [] h P := by
    intro r
    induction r with
    | zero =>
      intro m hm
      refine sX10_lightest_17 h 88 _ _ _ _ ?_
      rw [w.f88_2, nI_clamp (by omega), e91]
      refine ⟨o, w.a (by decide) rfl, v, fun _ => ?_, fun q => absurd ?_ q⟩
      · rw [show hi - lo = m by omega] at k
        exact k
      · rw [nI_ltI (by omega) (by omega)]
        omega
    | succ r ih =>
      intro m hm
      have s := lt1_s (fw V a) lo m
      refine sX10_lightest_17 h 88 _ _ _ _ ?_
      have zc : (nI z + 1).toNatClampNeg = z + 1 := by rw [nI_1, nI_clamp (by omega)]
      simp only [w.f88_2, w.f88_3, zc, g1, nI_clamp (show z < 2 ^ 31 by omega), e91, g3, nI_clamp (show lt1 (fw V a) lo m < 2 ^ 31 by omega), nI_clamp (show lo + m + 1 < 2 ^ 31 by omega), hV _ (show lt1 (fw V a) lo m < 10 by omega), hV _ (show lo + m + 1 < 10 by omega), wsum (show lt1 (fw V a) lo m < 10 by omega) ha, wsum (show lo + m + 1 < 10 by omega) ha, nI_leI (fb _ (show lt1 (fw V a) lo m < 10 by omega)) (fb _ (show lo + m + 1 < 10 by omega))]
      refine ⟨o, w.a (by decide) rfl, v, fun q => absurd q ?_, fun _ => ⟨w.a (by decide) rfl, by rw [nI_1]; exact vp_in_nI (show z + 1 < 21 by omega) (by decide), g2, in10n (by omega), in10n (by omega), fun z11 h11 => ?_⟩⟩
      · rw [nI_ltI (by omega) (by omega)]
        omega
      have e : z11 = nI (lt1 (fw V a) lo (m + 1)) := by
        rw [h11]
        show (if fw V a (lt1 (fw V a) lo m) ≤ fw V a (lo + m + 1) then nI (lt1 (fw V a) lo m) else nI (lo + m + 1)) = nI (if fw V a (lt1 (fw V a) lo m) ≤ fw V a (lo + m + 1) then lt1 (fw V a) lo m else lo + m + 1)
        split <;> rfl
      rw [e, nI_1]
      exact ih (m + 1) (by omega)
  refine Call.ofR (by decide +kernel) (Nat.le_of_ble_eq_true rfl) (sX10_lightest_0 h 88 _ _ ?_)
  rw [w.f88_1, nI_clamp (by omega), e90, nI_1]
  exact ⟨o, w.a (by decide) rfl, v, lp (hi - lo) 0 (by omega)⟩
