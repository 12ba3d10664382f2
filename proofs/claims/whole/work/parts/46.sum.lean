theorem nI_div {a d : Nat} (ha : a < 2 ^ 31) (h0 : 0 < d) (hd : d < 2 ^ 31) : nI a / nI d = nI (a / d) := pk_div ha h0 hd
theorem nI_mod {a d : Nat} (ha : a < 2 ^ 31) (h0 : 0 < d) (hd : d < 2 ^ 31) : nI a % nI d = nI (a % d) := by
  rw [← irem_eq_mod]
  exact pk_rem ha h0 hd
/-- four figures are all four inks -/
def prm (a b c d : Nat) : Prop := a < 4 ∧ b < 4 ∧ c < 4 ∧ d < 4 ∧ a ≠ b ∧ a ≠ c ∧ a ≠ d ∧ b ≠ c ∧ b ≠ d ∧ c ≠ d
theorem prm_dec (a b c d : Nat) : prm a b c d ∨ ¬ prm a b c d := Classical.em _
theorem mask15 : ∀ a b c d : Fin 4, a ≠ b → c ≠ d → (((((((1 : Int32) <<< (nI a &&& 31)) ||| ((1 : Int32) <<< (nI b &&& 31))) ||| ((1 : Int32) <<< (nI c &&& 31))) ||| ((1 : Int32) <<< (nI d &&& 31))) = 15) ↔ (a ≠ c ∧ a ≠ d ∧ b ≠ c ∧ b ≠ d)) := by decide +kernel
theorem met1 : ∀ d c : Fin 4, (((0 ||| ((1 : Int32) <<< (nI d &&& 31))) >>> (nI c &&& 31)) &&& 1 = 1) ↔ c = d := by decide +kernel
theorem met2 : ∀ d c b : Fin 4, ((((0 ||| ((1 : Int32) <<< (nI d &&& 31))) ||| ((1 : Int32) <<< (nI c &&& 31))) >>> (nI b &&& 31)) &&& 1 = 1) ↔ (b = d ∨ b = c) := by decide +kernel
theorem met3 : ∀ d c b a : Fin 4, (((((0 ||| ((1 : Int32) <<< (nI d &&& 31))) ||| ((1 : Int32) <<< (nI c &&& 31))) ||| ((1 : Int32) <<< (nI b &&& 31))) >>> (nI a &&& 31)) &&& 1 = 1) ↔ (a = d ∨ a = c ∨ a = b) := by decide +kernel
theorem met0 : ∀ d : Fin 4, ¬ (((0 : Int32) >>> (nI d &&& 31)) &&& 1 = 1) := by decide +kernel
theorem dig_lt {n : Nat} (hn : n < 10) : (3 < nI n) ↔ ¬ n < 4 := by
  have e : (3 : Int32) = nI 3 := rfl
  rw [e, nI_ltI (by decide) (by omega)]
  omega
theorem c12_sumOf {h : AH} {P : Option Value → AH → Prop} (w : Wf h) {n : Nat} (hn : n ≤ 3333)
    (k1 : prm (n / 1000) (n / 100 % 10) (n / 10 % 10) (n % 10) → P (some (.int (gI h 126 (4 * (n / 10 % 10) + n % 10) + gI h 126 (4 * (n / 100 % 10) + n / 10 % 10) + gI h 126 (4 * (n / 1000) + n / 100 % 10)))) h)
    (k2 : ¬ prm (n / 1000) (n / 100 % 10) (n / 10 % 10) (n % 10) → P (some (.int (-1))) h) : Call mX12_sumOf [.ref 116, .int (nI n)] h P := by
  have wo : isO h 12 116 := w.o (by decide) rfl
  have wa : isA h 0 126 := w.a (by decide) rfl
  have e10 : (10 : Int32) = nI 10 := rfl
  have e4 : (4 : Int32) = nI 4 := rfl
  have ne1 : ∀ m : Nat, m < 10 → ¬ nI m = -1 := fun m hm q => by
    have : ∀ m : Fin 10, ¬ nI m = -1 := by decide +kernel
    exact this ⟨m, hm⟩ q
  have vi : ∀ p q : Nat, p < 4 → q < 4 → 4 * nI p + nI q = nI (4 * p + q) ∧ vp_in (nI (4 * p + q)) 32 ∧ (nI (4 * p + q)).toNatClampNeg = 4 * p + q := fun p q hp hq => by
    refine ⟨by rw [e4, pk_mul, nI_add], vp_in_nI (by omega) (by omega), nI_clamp (by omega)⟩
  have hv0 : ¬ nI n < 0 ∧ ¬ 3333 < nI n := by
    refine ⟨nI_pos (by omega), ?_⟩
    have e : (3333 : Int32) = nI 3333 := rfl
    rw [e, nI_ltI (by decide) (by omega)]
    omega
  unfold prm at k1 k2
  refine Call.ofR (by decide +kernel) (Nat.le_of_ble_eq_true rfl) (sX12_sumOf_0 h 116 (nI n) ⟨fun _ => ?_, fun c => absurd hv0 c⟩)
  -- the last figure
  refine sX12_sumOf_26 h 116 _ _ _ _ _ ⟨fun c => absurd c (by decide), fun _ => ?_⟩
  rw [e10, nI_mod (by omega) (by decide) (by decide), nI_div (by omega) (by decide) (by decide), dig_lt (by omega)]
  refine ⟨fun c => k2 (by omega), fun c => ⟨fun _ => ?_, fun c2 => absurd c2 (met0 ⟨n % 10, by omega⟩)⟩⟩
  refine ⟨wo, by rw [w.f116_19]; exact wa, fun q => absurd rfl q, ?_⟩
  rintro z rfl
  rw [if_pos rfl]
  -- the third
  refine sX12_sumOf_26 h 116 _ _ _ _ _ ⟨fun c => absurd c (by decide), fun _ => ?_⟩
  rw [e10, nI_mod (by omega) (by decide) (by decide), nI_div (by omega) (by decide) (by decide), dig_lt (by omega)]
  refine ⟨fun c2 => k2 (by omega), fun c2 => ⟨fun c3 => ?_, fun c3 => k2 (fun q => ?_)⟩⟩
  rotate_left
  · have := (met1 ⟨n % 10, by omega⟩ ⟨n / 10 % 10, by omega⟩).mp c3
    simp only [Fin.mk.injEq] at this
    omega
  have d1 : n / 10 % 10 ≠ n % 10 := fun q => c3 ((met1 ⟨n % 10, by omega⟩ ⟨n / 10 % 10, by omega⟩).mpr (Fin.ext q))
  have i1 := vi (n / 10 % 10) (n % 10) (by omega) (by omega)
  rw [w.f116_19, i1.1, i1.2.2]
  refine ⟨wo, wa, fun _ => i1.2.1, ?_⟩
  rintro z rfl
  rw [if_neg (ne1 _ (by omega))]
  -- the second
  refine sX12_sumOf_26 h 116 _ _ _ _ _ ⟨fun c => absurd c (by decide), fun _ => ?_⟩
  rw [e10, nI_mod (by omega) (by decide) (by decide), nI_div (by omega) (by decide) (by decide), dig_lt (by omega), show n / 10 / 10 = n / 100 by omega]
  refine ⟨fun c4 => k2 (by omega), fun c4 => ⟨fun c5 => ?_, fun c5 => k2 (fun q => ?_)⟩⟩
  rotate_left
  · have := (met2 ⟨n % 10, by omega⟩ ⟨n / 10 % 10, by omega⟩ ⟨n / 100 % 10, by omega⟩).mp c5
    simp only [Fin.mk.injEq] at this
    omega
  have d2 : n / 100 % 10 ≠ n % 10 ∧ n / 100 % 10 ≠ n / 10 % 10 := ⟨fun q => c5 ((met2 ⟨n % 10, by omega⟩ ⟨n / 10 % 10, by omega⟩ ⟨n / 100 % 10, by omega⟩).mpr (Or.inl (Fin.ext q))), fun q => c5 ((met2 ⟨n % 10, by omega⟩ ⟨n / 10 % 10, by omega⟩ ⟨n / 100 % 10, by omega⟩).mpr (Or.inr (Fin.ext q)))⟩
  have i2 := vi (n / 100 % 10) (n / 10 % 10) (by omega) (by omega)
  rw [w.f116_19, i2.1, i2.2.2]
  refine ⟨wo, wa, fun _ => i2.2.1, ?_⟩
  rintro z rfl
  rw [if_neg (ne1 _ (by omega))]
  -- the first
  refine sX12_sumOf_26 h 116 _ _ _ _ _ ⟨fun c => absurd c (by decide), fun _ => ?_⟩
  rw [e10, nI_mod (by omega) (by decide) (by decide), nI_div (by omega) (by decide) (by decide), dig_lt (by omega), show n / 100 / 10 = n / 1000 by omega, show n / 1000 % 10 = n / 1000 by omega]
  refine ⟨fun c6 => k2 (by omega), fun c6 => ⟨fun c7 => ?_, fun c7 => k2 (fun q => ?_)⟩⟩
  rotate_left
  · have := (met3 ⟨n % 10, by omega⟩ ⟨n / 10 % 10, by omega⟩ ⟨n / 100 % 10, by omega⟩ ⟨n / 1000, by omega⟩).mp c7
    simp only [Fin.mk.injEq] at this
    omega
  have d3 : n / 1000 ≠ n % 10 ∧ n / 1000 ≠ n / 10 % 10 ∧ n / 1000 ≠ n / 100 % 10 := ⟨fun q => c7 ((met3 ⟨n % 10, by omega⟩ ⟨n / 10 % 10, by omega⟩ ⟨n / 100 % 10, by omega⟩ ⟨n / 1000, by omega⟩).mpr (Or.inl (Fin.ext q))), fun q => c7 ((met3 ⟨n % 10, by omega⟩ ⟨n / 10 % 10, by omega⟩ ⟨n / 100 % 10, by omega⟩ ⟨n / 1000, by omega⟩).mpr (Or.inr (Or.inl (Fin.ext q)))), fun q => c7 ((met3 ⟨n % 10, by omega⟩ ⟨n / 10 % 10, by omega⟩ ⟨n / 100 % 10, by omega⟩ ⟨n / 1000, by omega⟩).mpr (Or.inr (Or.inr (Fin.ext q))))⟩
  have i3 := vi (n / 1000) (n / 100 % 10) (by omega) (by omega)
  rw [w.f116_19, i3.1, i3.2.2]
  refine ⟨wo, wa, fun _ => i3.2.1, ?_⟩
  rintro z rfl
  rw [if_neg (ne1 _ (by omega))]
  refine sX12_sumOf_26 h 116 _ _ _ _ _ ⟨fun _ => ?_, fun c => absurd (by decide) c⟩
  have k3 := k1 (by omega)
  have e0 : ∀ z : Int32, 0 + z = z := by intro z; grind
  rw [e0]
  exact k3
theorem c11_sumOf {j : Nat} {h : AH} {P : Option Value → AH → Prop} (w : Wf h) (hj : gF h 0 2 = j) {a b c d : Nat} (ha : a < 10) (hb : b < 10) (hc : c < 10) (hd : d < 10)
    (k1 : prm a b c d → P (some (.int (gI h (j + 18) (4 * a + b) + gI h (j + 18) (4 * b + c) + gI h (j + 18) (4 * c + d)))) h) (k2 : ¬ prm a b c d → P (some (.int (-2))) h) : Call mX11_sumOf [.ref 0, .int (nI a), .int (nI b), .int (nI c), .int (nI d)] h P := by
  obtain ⟨hO, -, -, -, -, -, -, -, f15, -, -, -⟩ := job_refs w hj
  obtain ⟨-, -, -, -, -, -, -, -, ⟨a18, l18⟩⟩ := job_arrs w hj
  have e4 : (4 : Int32) = nI 4 := rfl
  have rng : ∀ m : Nat, m < 10 → ((¬ nI m < 0 ∧ ¬ 4 ≤ nI m) ↔ m < 4) := fun m hm => by
    rw [e4, nI_leI (by decide) (by omega)]
    have := nI_pos (n := m) (by omega)
    constructor
    · rintro ⟨-, q⟩; omega
    · intro q; exact ⟨this, by omega⟩
  have eqn : ∀ m n : Nat, m < 10 → n < 10 → (nI m = nI n ↔ m = n) := fun m n hm hn => nI_eq (by omega) (by omega)
  have vi : ∀ p q : Nat, p < 4 → q < 4 → nI p * 4 + nI q = nI (4 * p + q) ∧ vp_in (nI (4 * p + q)) 16 ∧ (nI (4 * p + q)).toNatClampNeg = 4 * p + q := fun p q hp hq => by
    refine ⟨by rw [e4, pk_mul, nI_add, Nat.mul_comm], vp_in_nI (by omega) (by omega), nI_clamp (by omega)⟩
  unfold prm at k1 k2
  refine Call.ofR (by decide +kernel) (Nat.le_of_ble_eq_true rfl) (sX11_sumOf_0 h 0 _ _ _ _ ?_)
  simp only [rng a ha, rng b hb, rng c hc, rng d hd, eqn a b ha hb, eqn c d hc hd]
  refine ⟨fun q => k2 (by omega), fun q => ⟨fun q2 => ⟨fun q3 => ?_, fun q3 => k2 (fun q4 => q3 ((mask15 ⟨a, by omega⟩ ⟨b, by omega⟩ ⟨c, by omega⟩ ⟨d, by omega⟩ (fun z => q.2.2 (Fin.mk.inj z)) (fun z => q2.2.2 (Fin.mk.inj z))).mpr ?_))⟩, fun q2 => k2 (by omega)⟩⟩
  · have m := (mask15 ⟨a, by omega⟩ ⟨b, by omega⟩ ⟨c, by omega⟩ ⟨d, by omega⟩ (fun z => q.2.2 (Fin.mk.inj z)) (fun z => q2.2.2 (Fin.mk.inj z))).mp q3
    simp only [ne_eq, Fin.mk.injEq] at m
    have i1 := vi a b (by omega) (by omega)
    have i2 := vi b c (by omega) (by omega)
    have i3 := vi c d (by omega) (by omega)
    rw [hj, f15, l18, i1.1, i2.1, i3.1, i1.2.2, i2.2.2, i3.2.2]
    exact ⟨w.o (by decide) rfl, hO, a18, i1.2.1, i2.2.1, i3.2.1, k1 (by omega)⟩
  · simp only [ne_eq, Fin.mk.injEq]
    omega
theorem cl_le2 {x : Int32} (h : 0 ≤ x) (h2 : x ≤ 9999) : x.toNatClampNeg ≤ 9999 := by
  rw [ti_le] at h h2
  have e0 : (0 : Int32).toInt = 0 := rfl
  have e1 : (9999 : Int32).toInt = 9999 := rfl
  show x.toInt.toNat ≤ 9999
  omega
theorem pr_sum {j : Nat} {h : AH} (I : Inv j h) (x : Int32) : Pair mX11_sum mX12_sum [.int x] h := by
  have w := I.1
  obtain ⟨-, hj, -, -, ⟨-, ⟨-, -, -, -, jl⟩, -⟩, -, -, -, -, -⟩ := id I
  have hl : ∀ p q : Nat, p < 4 → q < 4 → p ≠ q → gI h (j + 18) (4 * p + q) = gI h 126 (4 * p + q) ∧ inr (gI h (j + 18) (4 * p + q)) 0 100 := fun p q hp hq hne => by
    have e := (jl (nI p) (nI q) (nI_pos' (by omega)) (nI_lt (b := 4) (by omega) (by decide)) (nI_pos' (by omega)) (nI_lt (b := 4) (by omega) (by decide))).1 (fun z => hne ((nI_eq (by omega) (by omega)).mp z))
    have e4 : (4 : Int32) = nI 4 := rfl
    rw [e4, pk_mul, nI_add, nI_clamp (by omega)] at e
    exact e
  have bad : (x < 0 ∨ ¬ x ≤ 3333) → Call mX12_sum [.ref 116, .int x] h (fun v2 h2 => v2 = some (.int (-2)) ∧ (∃ z : Int32, some (Value.int (-2)) = some (.int z)) ∧ ∃ j, Inv j h2) := fun c => by
    refine Call.ofR (by decide +kernel) (Nat.le_of_ble_eq_true rfl) (sX12_sum_0 h 116 x ⟨w.o (by decide) rfl, ?_⟩)
    refine Call.ofR (by decide +kernel) (Nat.le_of_ble_eq_true rfl) (sX12_sumOf_0 h 116 x ⟨fun c2 => absurd c (by clear jl hl I; grind), fun _ => ⟨_, rfl, ?_⟩⟩)
    rintro z rfl
    exact ⟨rfl, ⟨_, rfl⟩, j, I⟩
  by_cases c1 : x < 0
  · exact Call.ofR (by decide +kernel) (Nat.le_of_ble_eq_true rfl) (sX11_sum_0 h 0 x ⟨fun _ => bad (Or.inl c1), fun c => absurd c1 c⟩)
  by_cases c2 : x ≤ 9999
  rotate_left
  · exact Call.ofR (by decide +kernel) (Nat.le_of_ble_eq_true rfl) (sX11_sum_0 h 0 x ⟨fun c => absurd c c1, fun _ => ⟨fun c => absurd c c2, fun _ => bad (Or.inr (by clear jl hl I; grind))⟩⟩)
  obtain ⟨n, hn, rfl⟩ : ∃ n : Nat, n ≤ 9999 ∧ x = nI n := ⟨x.toNatClampNeg, cl_le2 (nlt.mp c1) c2, (cl_nI (nlt.mp c1)).symm⟩
  refine Call.ofR (by decide +kernel) (Nat.le_of_ble_eq_true rfl) (sX11_sum_0 h 0 (nI n) ⟨fun c => absurd c c1, fun _ => ⟨fun _ => ⟨w.o (by decide) rfl, ?_⟩, fun c => absurd c2 c⟩⟩)
  have e10 : (10 : Int32) = nI 10 := rfl
  have e100 : (100 : Int32) = nI 100 := rfl
  have e1000 : (1000 : Int32) = nI 1000 := rfl
  rw [e10, e100, e1000, nI_div (by omega) (by decide) (by decide), nI_div (by omega) (by decide) (by decide), nI_div (by omega) (by decide) (by decide), nI_mod (by omega) (by decide) (by decide), nI_mod (by omega) (by decide) (by decide), nI_mod (by omega) (by decide) (by decide)]
  refine c11_sumOf w hj (by omega) (by omega) (by omega) (by omega) (fun q => ⟨_, rfl, ?_⟩) (fun q => ⟨_, rfl, ?_⟩)
  · have q2 := q
    unfold prm at q2
    refine Call.ofR (by decide +kernel) (Nat.le_of_ble_eq_true rfl) (sX12_sum_0 h 116 _ ⟨w.o (by decide) rfl, ?_⟩)
    refine c12_sumOf w (by omega) (fun _ => ⟨_, rfl, ?_⟩) (fun q3 => absurd q q3)
    rintro z rfl
    refine ⟨?_, ⟨_, rfl⟩, j, I⟩
    have a1 := hl (n / 1000) (n / 100 % 10) (by omega) (by omega) (by omega)
    have a2 := hl (n / 100 % 10) (n / 10 % 10) (by omega) (by omega) (by omega)
    have a3 := hl (n / 10 % 10) (n % 10) (by omega) (by omega) (by omega)
    rw [← a1.1, ← a2.1, ← a3.1]
    have b1 := a1.2
    have b2 := a2.2
    have b3 := a3.2
    unfold inr at b1 b2 b3
    generalize gI h (j + 18) (4 * (n / 1000) + n / 100 % 10) = A at b1 ⊢
    generalize gI h (j + 18) (4 * (n / 100 % 10) + n / 10 % 10) = B at b2 ⊢
    generalize gI h (j + 18) (4 * (n / 10 % 10) + n % 10) = C at b3 ⊢
    clear hl jl I bad
    congr 2
    grind
  · by_cases c3 : n ≤ 3333
    · refine Call.ofR (by decide +kernel) (Nat.le_of_ble_eq_true rfl) (sX12_sum_0 h 116 _ ⟨w.o (by decide) rfl, ?_⟩)
      refine c12_sumOf w c3 (fun q2 => absurd q2 q) (fun _ => ⟨_, rfl, ?_⟩)
      rintro z rfl
      exact ⟨rfl, ⟨_, rfl⟩, j, I⟩
    · refine bad (Or.inr ?_)
      have e : (3333 : Int32) = nI 3333 := rfl
      rw [e, nI_leI (by omega) (by decide)]
      omega
