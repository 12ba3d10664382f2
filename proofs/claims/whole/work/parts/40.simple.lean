theorem lt_pred {S x : Int32} (h : -2147483648 < S.toInt) : (S - 1 < x) ↔ S ≤ x := by
  have hr := ti_rng S
  have e : (S - 1).toInt = S.toInt - 1 := ti_sub (by show -2147483648 ≤ S.toInt - 1; omega) (by show S.toInt - 1 < 2147483648; omega)
  rw [ti_lt, ti_le, e]
  omega
theorem nlt {a b : Int32} : ¬ a < b ↔ b ≤ a := by rw [ti_lt, ti_le]; omega
theorem nle {a b : Int32} : ¬ a ≤ b ↔ b < a := by rw [ti_lt, ti_le]; omega
theorem pr_fault {j : Nat} {h : AH} (I : Inv j h) (x : Int32) : Pair mX11_fault mX12_fault [.int x] h := by
  have w := I.1
  obtain ⟨f1, f2⟩ := I.2.2.2.1
  refine aX11_fault (w.o (by decide) rfl) (by rw [w.f0_0]; exact w.o (by decide) rfl) ?_
  refine aX12_fault (w.o (by decide) rfl) ?_
  refine ⟨?_, ⟨_, rfl⟩, j, I⟩
  rw [w.f0_0, f1, f2]
theorem pr_count {j : Nat} {h : AH} (I : Inv j h) (x : Int32) : Pair mX11_count mX12_count [.int x] h := by
  have w := I.1
  obtain ⟨-, hj, ⟨L, -, t1, t2, -⟩, -, ⟨⟨jn, -⟩, -⟩, ⟨n, m, -, -, r1, r2, r3, r4, -⟩, -, -, ⟨p1, -⟩, -⟩ := id I
  have hjj := jcase w hj
  refine aX11_count (w.o (by decide) rfl) (by rw [hj]; rcases hjj with rfl | rfl <;> exact w.o (by decide) rfl) (by rw [w.f0_3]; exact w.o (by decide) rfl) (by rw [w.f0_1]; exact w.o (by decide) rfl) ?_
  refine aX12_count (w.o (by decide) rfl) ?_
  refine ⟨?_, ⟨_, rfl⟩, j, I⟩
  rw [hj, w.f0_3, w.f0_1, jn, r1, r2, r3, r4, t1, t2, p1]
theorem pr_spread {j : Nat} {h : AH} (I : Inv j h) (x : Int32) : Pair mX11_spread mX12_spread [.int x] h := by
  have w := I.1
  obtain ⟨-, -, -, -, -, -, -, ⟨s1, s2⟩, -, -⟩ := id I
  refine aX11_spread (w.o (by decide) rfl) (by rw [w.f0_6]; exact w.o (by decide) rfl) ?_
  refine aX12_spread (w.o (by decide) rfl) ?_
  refine ⟨?_, ⟨_, rfl⟩, j, I⟩
  rw [w.f0_6, ← s1]
  rcases s2 with s2 | ⟨s2, s3, s4⟩
  · rw [if_pos s2, if_pos s2]
  · rw [s3, s4]
theorem pr_turned {j : Nat} {h : AH} (I : Inv j h) (x : Int32) : Pair mX11_turned mX12_turned [.int x] h := by
  have w := I.1
  obtain ⟨-, -, -, -, -, -, ⟨s1, s2, s3⟩, -, -, -⟩ := id I
  have hS : -2147483648 < (gI h 59 5).toInt := by have := s2.1; omega
  have hin : ∀ n, ln n = 3 → ¬ x < 0 → x < gI h 59 5 → vp_in x (ln n) := fun n hn c1 c2 => by
    rw [hn, vp_in_iff]
    rw [ti_lt] at c1 c2
    have := s2.2
    have e0 : (0 : Int32).toInt = 0 := rfl
    omega
  refine aX11_turned (w.o (by decide) rfl) (by rw [w.f0_5]; exact w.o (by decide) rfl) (by rw [w.f0_5, w.f59_6]; exact w.a (by decide) rfl) (by rw [w.f0_5, w.f59_6]; exact hin 61 rfl) ?_
  refine aX12_turned (w.o (by decide) rfl) (by rw [w.f116_44]; exact w.a (by decide) rfl) (fun c => by rw [w.f116_44]; rw [← s1, lt_pred hS, nle] at c; exact hin 142 rfl c.1 c.2) ?_
  refine ⟨?_, ⟨_, rfl⟩, j, I⟩
  rw [w.f0_5, w.f59_6, w.f116_44, ← s1, lt_pred hS]
  congr 2
  by_cases c1 : x < 0
  · rw [if_pos c1, if_neg (fun q => q.1 c1)]
  · rw [if_neg c1]
    by_cases c2 : x < gI h 59 5
    · rw [if_pos c2, if_pos ⟨c1, nle.mpr c2⟩]
      have e := s3 x.toNatClampNeg (by
        rw [ti_lt] at c1 c2
        have e0 : (0 : Int32).toInt = 0 := rfl
        show ((x.toInt.toNat : Nat) : Int) < _
        omega)
      rw [e]
    · rw [if_neg c2, if_neg (fun q => c2 (nle.mp q.2))]
theorem pr_pulled {j : Nat} {h : AH} (I : Inv j h) (x y : Int32) : Pair mX11_pulled mX12_pulled [.int x, .int y] h := by
  refine aX11_pulled ?_
  refine aX12_pulled ?_
  refine ⟨?_, ⟨_, rfl⟩, j, I⟩
  have e : (3 < x) ↔ 4 ≤ x := by
    rw [ti_lt, ti_le]
    have e3 : (3 : Int32).toInt = 3 := rfl
    have e4 : (4 : Int32).toInt = 4 := rfl
    omega
  rw [e]
  congr 2
  by_cases c1 : x < 1
  · rw [if_pos c1, if_neg (fun q => q.1 c1)]
  · rw [if_neg c1]
    by_cases c2 : 4 ≤ x
    · rw [if_pos c2, if_neg (fun q => q.2 c2)]
    · rw [if_neg c2, if_pos ⟨c1, c2⟩]
theorem pr_shift {j : Nat} {h : AH} (I : Inv j h) (a b r s x y z : Int32) : Pair mX11_shift mX12_shift [.int a, .int b, .int r, .int s, .int x, .int y, .int z] h := by
  refine aX11_shift ?_
  refine aX12_shift ?_
  refine ⟨?_, ⟨_, rfl⟩, j, I⟩
  have e : (¬ z < 0 ∧ ¬ 1 < z) ↔ (z = 0 ∨ z = 1) := by
    rw [ti_lt, ti_lt, ti_eq, ti_eq]
    have e0 : (0 : Int32).toInt = 0 := rfl
    have e1 : (1 : Int32).toInt = 1 := rfl
    omega
  rw [e]
  congr 2
  by_cases c0 : z = 0
  · rw [if_pos c0, if_pos c0, if_pos (Or.inl c0)]
  · rw [if_neg c0, if_neg c0]
    by_cases c1 : z = 1
    · rw [if_pos c1, if_pos (Or.inr c1)]
    · rw [if_neg c1, if_neg (fun q => q.elim c0 c1)]
