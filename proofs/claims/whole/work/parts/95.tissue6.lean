theorem may_mono {g : Nat → Int32} {st fr to : Int32} {z gn sn : Nat} (hg : g z = nI gn) (g99 : gn ≤ 99) (hs : st = nI sn) (s20 : sn ≤ 20) {a b c : Nat} (hab : a ≤ b) (hbc : b ≤ c) (c9 : c ≤ 9) (ma : may g st fr to z a = true) (mc : may g st fr to z c = true) : may g st fr to z b = true := by
  have e : ∀ l, g z + nI l * st = nI (gn + l * sn) := fun l => by rw [hg, hs, pk_mul, nI_add]
  unfold may at ma mc ⊢
  rw [decide_eq_true_eq] at ma mc ⊢
  rw [e] at ma mc ⊢
  have b1 : b * sn ≤ 9 * 20 := Nat.mul_le_mul (by omega) s20
  have c1 : c * sn ≤ 9 * 20 := Nat.mul_le_mul (by omega) s20
  have m1 : a * sn ≤ b * sn := Nat.mul_le_mul_right sn hab
  have m2 : b * sn ≤ c * sn := Nat.mul_le_mul_right sn hbc
  have l1 : nI (gn + a * sn) ≤ nI (gn + b * sn) := nI_le (by omega) (by omega)
  have l2 : nI (gn + b * sn) ≤ nI (gn + c * sn) := nI_le (by omega) (by omega)
  refine ⟨fun q => ma.1 ?_, fun q => mc.2 ?_⟩
  · exact Int32.not_le.mp (fun z => absurd (Int32.le_trans z l1) (Int32.not_le.mpr q))
  · exact Int32.not_le.mp (fun z => absurd (Int32.le_trans l2 z) (Int32.not_le.mpr q))
theorem dv_rng {b : Nat → Int32} {s : Nat} : ∀ {n : Nat}, n ≤ 4 → (∀ i, i < n → digi (b (s + i)) = true) → ∃ v : Nat, v < 10 ^ n ∧ dv b s n = nI v
  | 0, _, _ => ⟨0, by decide, rfl⟩
  | n + 1, hn, e => by
    obtain ⟨v, hv, ev⟩ := dv_rng (n := n) (by omega) (fun i hi => e i (by omega))
    have d := e n (by omega)
    unfold digi at d
    rw [decide_eq_true_eq] at d
    have h0 : ¬ b (s + n) < 0 := by
      have := d.1
      clear ev
      grind
    obtain ⟨y, hy, ey⟩ : ∃ m : Nat, m ≤ 57 ∧ b (s + n) = nI m := nI_of2 (M := 57) rfl h0 (by have := d.2; clear ev; grind)
    have y48 : 48 ≤ y := by
      have := d.1
      rw [ey, show (48 : Int32) = nI 48 from rfl, nI_ltI (by omega) (by decide)] at this
      omega
    refine ⟨10 * v + (y - 48), ?_, ?_⟩
    · rw [Nat.pow_succ]
      omega
    · show (dv b s n * 10 + b (s + n)) - 48 = _
      rw [ev, ey, show (10 : Int32) = nI 10 from rfl, show (48 : Int32) = nI 48 from rfl, pk_mul, nI_add, nsub (by omega)]
      congr 1
      omega
theorem tk2 {b : Nat → Int32} {L p : Nat} (h : tk b L p = 2) : te b L p - ts b L p ≤ 4 ∧ ∀ i, i < te b L p - ts b L p → digi (b (ts b L p + i)) = true := by
  unfold tk at h
  by_cases c0 : ts b L p = L
  · rw [if_pos c0] at h
    exact absurd h (by decide)
  rw [if_neg c0] at h
  by_cases c1 : lett (b (ts b L p)) = true
  · rw [if_pos c1] at h
    by_cases c2 : 8 < te b L p - ts b L p
    · rw [if_pos c2] at h
      exact absurd h (by decide)
    · rw [if_neg c2] at h
      exact absurd h (by decide)
  rw [if_neg c1] at h
  by_cases c2 : digi (b (ts b L p)) = true
  · rw [if_pos c2] at h
    have t : te b L p = rn digi b (L - ts b L p) (ts b L p) := by
      unfold te
      rw [if_neg c0, if_neg c1, if_pos c2]
    by_cases c3 : 4 < te b L p - ts b L p
    · rw [if_pos c3] at h
      exact absurd h (by decide)
    · refine ⟨by omega, fun i hi => rn_in (n := L - ts b L p) (p := ts b L p) (by omega) ?_⟩
      rw [← t]
      omega
  · rw [if_neg c2] at h
    by_cases c3 : b (ts b L p) = 45
    · rw [if_pos c3] at h
      exact absurd h (by decide)
    · rw [if_neg c3] at h
      by_cases c4 : b (ts b L p) = 59
      · rw [if_pos c4] at h
        exact absurd h (by decide)
      · rw [if_neg c4] at h
        exact absurd h (by decide)
theorem val_rng {b : Nat → Int32} {L p : Nat} (h : tk b L p = 2) : ∃ v : Nat, v < 10000 ∧ val b L p = nI v := by
  obtain ⟨t1, t2⟩ := tk2 h
  obtain ⟨v, hv, e⟩ := dv_rng t1 t2
  refine ⟨v, Nat.lt_of_lt_of_le hv ?_, e⟩
  have := Nat.pow_le_pow_right (show 0 < 10 by decide) t1
  exact this
theorem rowf_rng {b : Nat → Int32} {L : Nat} : ∀ {c p : Nat} {l : List Int32}, rowf b L 0 99 c p = some l → ∀ v ∈ l, ∃ n : Nat, n ≤ 99 ∧ v = nI n
  | 0, p, l, h => by
    unfold rowf at h
    split at h
    · have e : [] = l := Option.some.inj h
      rw [← e]
      intro v hv
      exact absurd hv (List.not_mem_nil)
    · exact absurd h (by simp)
  | c + 1, p, l, h => by
    unfold rowf at h
    by_cases c0 : tk b L p = 0
    · rw [if_pos c0] at h
      have e : [] = l := Option.some.inj h
      rw [← e]
      intro v hv
      exact absurd hv (List.not_mem_nil)
    rw [if_neg c0, if_neg (fun z => z.1 rfl)] at h
    by_cases c2 : tk b L p = 2 ∧ ¬ 99 < val b L p
    · rw [if_pos c2] at h
      obtain ⟨l2, h2, h3⟩ := Option.map_eq_some_iff.mp h
      rw [← h3]
      intro v hv
      rcases List.mem_cons.mp hv with rfl | hv
      · obtain ⟨n, hn, e⟩ := val_rng c2.1
        refine ⟨n, ?_, e⟩
        have := c2.2
        rw [e, show (99 : Int32) = nI 99 from rfl, nI_ltI (by decide) (by omega)] at this
        omega
      · exact rowf_rng h2 v hv
    · rw [if_neg c2] at h
      exact absurd h (by simp)
theorem may_c {g g2 : Nat → Int32} {st fr to : Int32} {z l : Nat} (e : g z = g2 z) : may g st fr to z l = may g2 st fr to z l := by
  unfold may
  rw [e]
/-- the numbers of the reference depend on the zones alone -/
theorem Gt_c {m1 m2 : Nat → Nat → Bool} {n : Nat} (n0 : 0 < n) (e : ∀ z l, z < n → m1 z l = m2 z l) : ∀ m l, m < n → Gt m1 n m l = Gt m2 n m l
  | 0, l, _ => by
    unfold Gt
    rw [e (n - 1) l (by omega)]
  | m + 1, l, h => by
    have ih : (fun q => cst l q + Gt m1 n m q) = (fun q => cst l q + Gt m2 n m q) := by
      funext q
      rw [Gt_c n0 e m q (by omega)]
    unfold Gt
    rw [e (n - 1 - (m + 1)) l (by omega), ih]
