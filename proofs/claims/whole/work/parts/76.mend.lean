/-! MENDING: rows of turns are the figures of a number -/
def dgt (e ns c k : Nat) : Nat := c / e ^ (ns - 1 - k) % e
theorem dgt_lt {e : Nat} (he : 0 < e) (ns c k : Nat) : dgt e ns c k < e := Nat.mod_lt _ he
theorem dgt_next {e ns c m : Nat} (he : 0 < e) (hm : m < ns) (hc : c % e ^ (ns - (m + 1)) = e ^ (ns - (m + 1)) - 1) (hd : dgt e ns c m ≠ e - 1) : dgt e ns (c + 1) m = dgt e ns c m + 1 ∧ (∀ k, m < k → k < ns → dgt e ns (c + 1) k = 0) ∧ (∀ k, k < m → dgt e ns (c + 1) k = dgt e ns c k) := by
  have E0 : 0 < e ^ (ns - (m + 1)) := Nat.pow_pos he
  have hq : c + 1 = (c / e ^ (ns - (m + 1)) + 1) * e ^ (ns - (m + 1)) := by
    have := Nat.div_add_mod c (e ^ (ns - (m + 1)))
    rw [Nat.add_mul, Nat.one_mul, Nat.mul_comm]
    omega
  have dm : dgt e ns c m = c / e ^ (ns - (m + 1)) % e := by
    unfold dgt
    rw [show ns - 1 - m = ns - (m + 1) by omega]
  rw [dm] at hd
  refine ⟨?_, fun k h1 h2 => ?_, fun k hk => ?_⟩
  · rw [dm]
    unfold dgt
    rw [show ns - 1 - m = ns - (m + 1) by omega, hq, Nat.mul_div_cancel _ E0]
    have l := Nat.mod_lt (c / e ^ (ns - (m + 1))) he
    rw [Nat.add_mod]
    by_cases c1 : e = 1
    · subst c1
      omega
    · rw [Nat.mod_eq_of_lt (show 1 < e by omega), Nat.mod_eq_of_lt (by omega)]
  · unfold dgt
    rw [hq, show ns - (m + 1) = (ns - 1 - k) + ((ns - (m + 1) - (ns - 1 - k) - 1) + 1) by omega, Nat.pow_add, Nat.pow_succ, show (c / (e ^ (ns - 1 - k) * (e ^ (ns - (m + 1) - (ns - 1 - k) - 1) * e)) + 1) * (e ^ (ns - 1 - k) * (e ^ (ns - (m + 1) - (ns - 1 - k) - 1) * e)) = ((c / (e ^ (ns - 1 - k) * (e ^ (ns - (m + 1) - (ns - 1 - k) - 1) * e)) + 1) * e ^ (ns - (m + 1) - (ns - 1 - k) - 1) * e) * e ^ (ns - 1 - k) by
      generalize (c / (e ^ (ns - 1 - k) * (e ^ (ns - (m + 1) - (ns - 1 - k) - 1) * e)) + 1) = A
      generalize e ^ (ns - 1 - k) = B
      generalize e ^ (ns - (m + 1) - (ns - 1 - k) - 1) = C
      rw [Nat.mul_comm B, Nat.mul_assoc, Nat.mul_assoc, Nat.mul_assoc], Nat.mul_div_cancel _ (Nat.pow_pos he), Nat.mul_mod_left]
  · unfold dgt
    have p : e ^ (ns - 1 - k) = e ^ (ns - (m + 1)) * (e * e ^ (m - k - 1)) := by
      rw [← Nat.pow_succ', ← Nat.pow_add]
      congr 1
      omega
    rw [p, ← Nat.div_div_eq_div_mul, ← Nat.div_div_eq_div_mul, ← Nat.div_div_eq_div_mul, ← Nat.div_div_eq_div_mul]
    have e1 : (c + 1) / e ^ (ns - (m + 1)) = c / e ^ (ns - (m + 1)) + 1 := by
      have h2 : (c / e ^ (ns - (m + 1)) + 1) * e ^ (ns - (m + 1)) / e ^ (ns - (m + 1)) = c / e ^ (ns - (m + 1)) + 1 := Nat.mul_div_cancel _ E0
      rw [← hq] at h2
      exact h2
    have e2 : (c / e ^ (ns - (m + 1)) + 1) / e = c / e ^ (ns - (m + 1)) / e := by
      have l := Nat.mod_lt (c / e ^ (ns - (m + 1))) he
      have q := Nat.div_add_mod (c / e ^ (ns - (m + 1))) e
      generalize c / e ^ (ns - (m + 1)) = Z at *
      have : Z + 1 = e * (Z / e) + (Z % e + 1) := by omega
      rw [this, Nat.mul_add_div he, Nat.div_eq_of_lt (show Z % e + 1 < e by omega), Nat.add_zero]
    rw [e1, e2]
theorem dgt_carry {e ns c m : Nat} (he : 0 < e) (hm : m < ns) (hc : c % e ^ (ns - (m + 1)) = e ^ (ns - (m + 1)) - 1) (hd : dgt e ns c m = e - 1) : c % e ^ (ns - m) = e ^ (ns - m) - 1 := by
  have dm : dgt e ns c m = c / e ^ (ns - (m + 1)) % e := by
    unfold dgt
    rw [show ns - 1 - m = ns - (m + 1) by omega]
  rw [dm] at hd
  have p : e ^ (ns - m) = e ^ (ns - (m + 1)) * e := by
    rw [← Nat.pow_succ]
    congr 1
    omega
  rw [p, Nat.mod_mul, hc, hd]
  have E0 : 0 < e ^ (ns - (m + 1)) := Nat.pow_pos he
  rw [Nat.mul_sub, Nat.mul_one]
  have : e ^ (ns - (m + 1)) ≤ e ^ (ns - (m + 1)) * e := Nat.le_mul_of_pos_right _ he
  omega
theorem dgt_0 {e : Nat} (ns k : Nat) : dgt e ns 0 k = 0 := by
  unfold dgt
  rw [Nat.zero_div, Nat.zero_mod]
/-- what a slip's marks are off -/
def bdl (mx my : Nat → Int32) (a b r s : Int32) : Nat → Int32
  | 0 => 0
  | k + 1 => imax (imax (bdl mx my a b r s k) (iabs (a + (((s * mx k) - (r * my k)) / 100)))) (iabs (b + (((r * mx k) + (s * my k)) / 100)))
theorem bdl_c {mx my mx2 my2 : Nat → Int32} {a b r s : Int32} : ∀ {n : Nat}, (∀ k, k < n → mx k = mx2 k ∧ my k = my2 k) → bdl mx my a b r s n = bdl mx2 my2 a b r s n
  | 0, _ => rfl
  | n + 1, e => by
    show imax (imax (bdl mx my a b r s n) (iabs (a + (((s * mx n) - (r * my n)) / 100)))) (iabs (b + (((r * mx n) + (s * my n)) / 100))) = _
    rw [bdl_c (fun k hk => e k (by omega)), (e n (by omega)).1, (e n (by omega)).2]
    rfl
theorem c6_bad {j : Nat} {h : AH} {P : Option Value → AH → Prop} (w : Wf h) (hj : gF h 0 2 = j) {n : Nat} (hn : gI h j 3 = nI n) (n8 : n ≤ 8) {a b r : Int32} (k : P (some (.int (bdl (gI h (j + 1)) (gI h (j + 2)) a b r (gI h 59 3) n))) h) : Call mX6_badOf [.ref 59, .ref j, .int a, .int b, .int r] h P := by
  obtain ⟨hO, -, f4, f5, -, -, -, -, -, -, -, -⟩ := job_refs w hj
  obtain ⟨⟨a1, l1⟩, ⟨a2, l2⟩, -, -, -, -, -, -, -⟩ := job_arrs w hj
  have lp : ∀ (m i : Nat), i + m = n → Rr mX6_badOf 0 0 6 [(0, .ref 59), (1, .ref j), (2, .int a), (3, .int b), (4, .int r), (5, .int (bdl (gI h (j + 1)) (gI h (j + 2)) a b r (gI h 59 3) i)), (6, .int (nI i))] [] h P := by
    intro m
    induction m with
    | zero =>
      intro i hi
      have e : i = n := by omega
      subst e
      refine sX6_badOf_6 h 59 j _ _ _ _ _ ⟨hO, fun _ => k, fun q => absurd ?_ q⟩
      rw [hn]
      exact Int32.le_refl _
    | succ m ih =>
      intro i hi
      refine sX6_badOf_6 h 59 j _ _ _ _ _ ⟨hO, fun q => absurd q ?_, fun _ => ?_⟩
      · rw [hn, nI_leI (by omega) (by omega)]
        omega
      have v : vp_in (nI i) 8 := vp_in_nI (by omega) (by decide)
      rw [f4, f5, l1, l2, nI_clamp (by omega), nI_1]
      refine ⟨a1, v, a2, v, w.o (by decide) rfl, fun v8 h8 => ?_⟩
      have e : v8 = bdl (gI h (j + 1)) (gI h (j + 2)) a b r (gI h 59 3) (i + 1) := h8
      rw [e]
      exact ih (i + 1) (by omega)
  exact Call.ofR (by decide +kernel) (Nat.le_of_ble_eq_true rfl) (sX6_badOf_0 h 59 j _ _ _ (lp n 0 (Nat.zero_add n)))
theorem c12_bad {h : AH} {P : Option Value → AH → Prop} (w : Wf h) {n : Nat} (hn : gI h 118 2 = nI n) (n8 : n ≤ 8) {a b r s : Int32} (k : P (some (.int (bdl (gI h 119) (gI h 120) a b r s n))) h) : Call mX12_badOf [.ref 116, .int a, .int b, .int r, .int s] h P := by
  have lp : ∀ (m i : Nat), i + m = n → Rr mX12_badOf 0 0 6 [(0, .ref 116), (1, .int a), (2, .int b), (3, .int r), (4, .int s), (5, .int (bdl (gI h 119) (gI h 120) a b r s i)), (6, .int (nI i))] [] h P := by
    intro m
    induction m with
    | zero =>
      intro i hi
      have e : i = n := by omega
      subst e
      refine sX12_badOf_6 h 116 _ _ _ _ _ _ ?_
      simp only [w.f116_11, cl2, hn]
      exact ⟨w.o (by decide) rfl, w.a (by decide) rfl, by show vp_in 2 18; rw [vin_18]; decide, fun _ => k, fun q => absurd (Int32.le_refl _) q⟩
    | succ m ih =>
      intro i hi
      refine sX12_badOf_6 h 116 _ _ _ _ _ _ ?_
      have v : vp_in (nI i) 16 := vp_in_nI (by omega) (by decide)
      simp only [w.f116_11, w.f116_12, w.f116_13, cl2, hn, nI_clamp (show i < 2 ^ 31 by omega), nI_1, iabs_p]
      refine ⟨w.o (by decide) rfl, w.a (by decide) rfl, by show vp_in 2 18; rw [vin_18]; decide, fun q => absurd q ?_, fun _ => ⟨w.a (by decide) rfl, v, w.a (by decide) rfl, v, fun z10 h10 z12 h12 => ?_⟩⟩
      · rw [nI_leI (by omega) (by omega)]
        omega
      rw [← imax_le] at h10 h12
      rw [h10] at h12
      have e : z12 = bdl (gI h 119) (gI h 120) a b r s (i + 1) := h12
      rw [e]
      exact ih (i + 1) (by omega)
  exact Call.ofR (by decide +kernel) (Nat.le_of_ble_eq_true rfl) (sX12_badOf_0 h 116 _ _ _ _ (lp n 0 (Nat.zero_add n)))
