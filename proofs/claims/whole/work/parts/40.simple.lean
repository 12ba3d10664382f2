theorem lt_pred {S x : Int32} (h : -2147483648 < S.toInt) : (S - 1 < x) ↔ S ≤ x := by
  have hr := ti_rng S
  have e : (S - 1).toInt = S.toInt - 1 := ti_sub (by show -2147483648 ≤ S.toInt - 1; omega) (by show S.toInt - 1 < 2147483648; omega)
  rw [ti_lt, ti_le, e]
  omega
theorem nlt {a b : Int32} : ¬ a < b ↔ b ≤ a := by rw [ti_lt, ti_le]; omega
theorem nle {a b : Int32} : ¬ a ≤ b ↔ b < a := by rw [ti_lt, ti_le]; omega
theorem pr_fault {j : Nat} {h : AH} (I : Inv j h) (x : Int32) : Pair mX11_fault mX12_fault [.int x] h := by
  have w := I.1
  obtain ⟨f1, f2⟩ := I.2.2.2.1
  refine aX11_fault (w.o (by decide) rfl) (by rw [w.f0_0]; exact w.o (by decide) rfl) ?_
  refine aX12_fault (w.o (by decide) rfl) ?_
  refine ⟨?_, ⟨_, rfl⟩, j, I⟩
  rw [w.f0_0, f1, f2]
theorem pr_count {j : Nat} {h : AH} (I : Inv j h) (x : Int32) : Pair mX11_count mX12_count [.int x] h := by
  have w := I.1
  obtain ⟨-, hj, ⟨-, t1, -⟩, -, ⟨⟨jn, -⟩, -⟩, ⟨-, -, r1, r2, -⟩, -, -, ⟨p1, -⟩, -⟩ := id I
  have hjj := jcase w hj
  refine aX11_count (w.o (by decide) rfl) (by rw [hj]; rcases hjj with rfl | rfl <;> exact w.o (by decide) rfl) (by rw [w.f0_3]; exact w.o (by decide) rfl) (by rw [w.f0_1]; exact w.o (by decide) rfl) ?_
  refine aX12_count (w.o (by decide) rfl) ?_
  refine ⟨?_, ⟨_, rfl⟩, j, I⟩
  rw [hj, w.f0_3, w.f0_1, jn, r1, r2, t1, p1]
theorem pr_spread {j : Nat} {h : AH} (I : Inv j h) (x : Int32) : Pair mX11_spread mX12_spread [.int x] h := by
  have w := I.1
  obtain ⟨-, -, -, -, -, -, -, ⟨s1, s2⟩, -, -⟩ := id I
  refine aX11_spread (w.o (by decide) rfl) (by rw [w.f0_6]; exact w.o (by decide) rfl) ?_
  refine aX12_spread (w.o (by decide) rfl) ?_
  refine ⟨?_, ⟨_, rfl⟩, j, I⟩
  rw [w.f0_6]
  grind
theorem pr_turned {j : Nat} {h : AH} (I : Inv j h) (x : Int32) : Pair mX11_turned mX12_turned [.int x] h := by
  have w := I.1
  obtain ⟨-, -, -, -, -, -, ⟨s1, s2, s3⟩, -, -, -⟩ := id I
  unfold inr at s2
  refine aX11_turned (w.o (by decide) rfl) (by rw [w.f0_5]; exact w.o (by decide) rfl) (by rw [w.f0_5, w.f59_6]; exact w.a (by decide) rfl) (by rw [w.f0_5, w.f59_6]; show _ → _ → vp_in x 3; rw [vin_3]; grind) ?_
  refine aX12_turned (w.o (by decide) rfl) (by rw [w.f116_44]; exact w.a (by decide) rfl) (by rw [w.f116_44]; show _ → vp_in x 3; rw [vin_3]; grind) ?_
  refine ⟨?_, ⟨_, rfl⟩, j, I⟩
  rw [w.f0_5, w.f59_6, w.f116_44]
  grind
theorem pr_pulled {j : Nat} {h : AH} (I : Inv j h) (x y : Int32) : Pair mX11_pulled mX12_pulled [.int x, .int y] h := by
  refine aX11_pulled ?_
  refine aX12_pulled ?_
  refine ⟨?_, ⟨_, rfl⟩, j, I⟩
  grind
theorem pr_shift {j : Nat} {h : AH} (I : Inv j h) (a b r s x y z : Int32) : Pair mX11_shift mX12_shift [.int a, .int b, .int r, .int s, .int x, .int y, .int z] h := by
  refine aX11_shift ?_
  refine aX12_shift ?_
  refine ⟨?_, ⟨_, rfl⟩, j, I⟩
  congr 2
  generalize a + (s * x - r * y) / 100 = A
  generalize b + (r * x + s * y) / 100 = B
  have e : (¬ z < 0 ∧ ¬ 1 < z) ↔ (z = 0 ∨ z = 1) := by grind
  simp only [e]
  grind
