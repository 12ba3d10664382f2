def sq2 (a b : Int32) : Int32 := a * a + b * b
def b4 (p q P Q : Int32) : Int32 := imin (imin (sq2 (p - P) (q - Q)) (sq2 (p - -P) (q - -Q))) (imin (sq2 (p - -Q) (q - P)) (sq2 (p - Q) (q - -P)))
theorem imin_le (a b : Int32) : imin a b = if a ≤ b then a else b := by
  unfold imin
  by_cases c : b < a
  · rw [if_pos c, if_neg (by grind)]
  · rw [if_neg c, if_pos (by grind)]
theorem imin_t (a b : Int32) : (imin a b).toInt = min a.toInt b.toInt := by
  rw [imin_le]
  by_cases c : a ≤ b
  · rw [if_pos c]
    rw [ti_le] at c
    omega
  · rw [if_neg c]
    rw [ti_le] at c
    omega
theorem min4 (A B C D : Int32) : (if (if (if A ≤ B then A else B) ≤ C then (if A ≤ B then A else B) else C) ≤ D then (if (if A ≤ B then A else B) ≤ C then (if A ≤ B then A else B) else C) else D) = imin (imin A C) (imin B D) := by
  rw [← imin_le, ← imin_le, ← imin_le, ti_eq]
  simp only [imin_t]
  omega
theorem c8_beat {j : Nat} {h : AH} {P : Option Value → AH → Prop} {x y : Int32} (w : Wf h) (hj : gF h 0 2 = j) (hx : 0 ≤ x ∧ x < 8) (hy : 0 ≤ y ∧ y < 8) (k : P (some (.int (b4 (gI h (j + 15) x.toNatClampNeg) (gI h (j + 16) x.toNatClampNeg) (gI h (j + 15) y.toNatClampNeg) (gI h (j + 16) y.toNatClampNeg)))) h) : Call mX8_beatOf [.ref (j + 14), .int x, .int y] h P := by
  obtain ⟨-, hO8, -, -, -, -, -, -, -, g1, g2, -⟩ := job_refs w hj
  obtain ⟨-, -, -, -, -, ⟨a15, l15⟩, ⟨a16, l16⟩, -, -⟩ := job_arrs w hj
  have vx : vp_in x 8 := vin_8.mpr hx
  have vy : vp_in y 8 := vin_8.mpr hy
  have sqf : ∀ {Q : Option Value → AH → Prop} (p q : Int32), Q (some (.int (sq2 (gI h (j + 15) x.toNatClampNeg - p) (gI h (j + 16) x.toNatClampNeg - q)))) h → Call mX8_squaresFrom [.ref (j + 14), .int x, .int p, .int q] h Q := fun p q hq =>
    aX8_squaresFrom hO8 (by rw [g1]; exact a15) (by rw [g1, l15]; exact vx) (by rw [g2]; exact a16) (by rw [g2, l16]; exact vx) (by rw [g1, g2]; exact hq)
  refine Call.ofR (by decide +kernel) (Nat.le_of_ble_eq_true rfl) (sX8_beatOf_0 h (j + 14) x y ?_)
  rw [g1, g2, l15, l16]
  refine ⟨hO8, a15, vy, a16, vy, sqf _ _ ⟨_, rfl, ?_⟩⟩
  rw [g1, g2, l15, l16]
  refine ⟨hO8, a15, vy, a16, vy, sqf _ _ ⟨_, rfl, ?_⟩⟩
  rw [g1, g2, l15, l16]
  refine ⟨hO8, a16, vy, a15, vy, sqf _ _ ⟨_, rfl, ?_⟩⟩
  rw [g1, g2, l15, l16]
  exact ⟨hO8, a16, vy, a15, vy, sqf _ _ ⟨_, rfl, k⟩⟩
theorem c12_beat {h : AH} {P : Option Value → AH → Prop} {x y : Int32} (w : Wf h) (hx : 0 ≤ x ∧ x < 8) (hy : 0 ≤ y ∧ y < 8) (k : P (some (.int (b4 (gI h 124 x.toNatClampNeg) (gI h 125 x.toNatClampNeg) (gI h 124 y.toNatClampNeg) (gI h 125 y.toNatClampNeg)))) h) : Call mX12_beatOf [.ref 116, .int x, .int y] h P := by
  have vx : vp_in x 16 := vin_16.mpr (by grind)
  have vy : vp_in y 16 := vin_16.mpr (by grind)
  have wo : isO h 12 116 := w.o (by decide) rfl
  have a1 : isA h 0 124 := w.a (by decide) rfl
  have a2 : isA h 0 125 := w.a (by decide) rfl
  refine Call.ofR (by decide +kernel) (Nat.le_of_ble_eq_true rfl) (sX12_beatOf_0 h 116 x y ?_)
  rw [w.f116_17, w.f116_18]
  refine ⟨wo, a1, vx, vy, a2, vx, vy, ?_⟩
  generalize gI h 124 y.toNatClampNeg = P0 at k ⊢
  generalize gI h 125 y.toNatClampNeg = Q0 at k ⊢
  refine sX12_beatOf_49 h 116 x _ _ _ _ ⟨fun c => absurd c (by decide), fun _ => ?_⟩
  rw [w.f116_17, w.f116_18]
  refine ⟨wo, a1, vx, a2, vx, ?_⟩
  intro z1 hz1
  refine sX12_beatOf_49 h 116 x _ _ _ _ ⟨fun c => absurd c (by decide), fun _ => ?_⟩
  rw [w.f116_17, w.f116_18]
  refine ⟨wo, a1, vx, a2, vx, ?_⟩
  intro z2 hz2
  refine sX12_beatOf_49 h 116 x _ _ _ _ ⟨fun c => absurd c (by decide), fun _ => ?_⟩
  rw [w.f116_17, w.f116_18]
  refine ⟨wo, a1, vx, a2, vx, ?_⟩
  intro z3 hz3
  refine sX12_beatOf_49 h 116 x _ _ _ _ ⟨fun _ => ?_, fun c => absurd (by decide) c⟩
  have e : z3 = b4 (gI h 124 x.toNatClampNeg) (gI h 125 x.toNatClampNeg) P0 Q0 := by
    rw [hz3, hz2, hz1]
    unfold b4
    generalize gI h 124 x.toNatClampNeg = p
    generalize gI h 125 x.toNatClampNeg = q
    rw [Int32.neg_neg]
    exact min4 (sq2 (p - P0) (q - Q0)) (sq2 (p - -Q0) (q - P0)) (sq2 (p - -P0) (q - -Q0)) (sq2 (p - Q0) (q - -P0))
  rw [e]
  exact k
theorem pr_beat {j : Nat} {h : AH} (I : Inv j h) (x y : Int32) : Pair mX11_beat mX12_beat [.int x, .int y] h := by
  have w := I.1
  obtain ⟨-, hj, -, -, ⟨⟨-, -, -, -, -, -, -, -, -, n8, n9⟩, ⟨-, -, -, jp, -⟩, -⟩, -, -, -, -, -⟩ := id I
  obtain ⟨hO, hO8, f4, f5, f7, f8, f11, f14, f15, g1, g2, g3⟩ := job_refs w hj
  unfold inr at n9
  have ref : ∀ v : Int32, v = (if (0 ≤ x ∧ x < gI h (j + 14) 0) ∧ (0 ≤ y ∧ y < gI h (j + 14) 0) then b4 (gI h (j + 15) x.toNatClampNeg) (gI h (j + 16) x.toNatClampNeg) (gI h (j + 15) y.toNatClampNeg) (gI h (j + 16) y.toNatClampNeg) else -2) → Call mX12_beat [.ref 116, .int x, .int y] h (fun v2 h2 => v2 = some (.int v) ∧ (∃ z : Int32, some (Value.int v) = some (.int z)) ∧ ∃ j, Inv j h2) := by
    intro v hv
    refine Call.ofR (by decide +kernel) (Nat.le_of_ble_eq_true rfl) (sX12_beat_0 h 116 x y ?_)
    rw [w.f116_11, show (Int32.toNatClampNeg 8) = 8 from rfl, ← n8]
    refine ⟨w.o (by decide) rfl, w.a (by decide) rfl, by show vp_in 8 18; rw [vin_18]; decide, fun c => ⟨?_, ⟨_, rfl⟩, j, I⟩, fun c => ⟨fun c2 => ⟨?_, ⟨_, rfl⟩, j, I⟩, fun c2 => ?_⟩⟩
    · rw [hv, if_neg (by clear I hv jp; grind)]
    · rw [hv, if_neg (by clear I hv jp; grind)]
    · have hx : 0 ≤ x ∧ x < gI h (j + 14) 0 := by clear I hv jp; grind
      have hy : 0 ≤ y ∧ y < gI h (j + 14) 0 := by clear I hv jp; grind
      refine c12_beat w (by clear I hv jp; grind) (by clear I hv jp; grind) ⟨_, rfl, ?_, ⟨_, rfl⟩, j, I⟩
      rw [hv, if_pos ⟨hx, hy⟩, (jp x hx.1 hx.2).1, (jp x hx.1 hx.2).2.2.1, (jp y hy.1 hy.2).1, (jp y hy.1 hy.2).2.2.1]
  refine Call.ofR (by decide +kernel) (Nat.le_of_ble_eq_true rfl) (sX11_beat_0 h 0 x y ?_)
  rw [hj, f14]
  refine ⟨w.o (by decide) rfl, hO, hO8, fun c => ref _ (by rw [if_neg (by clear I ref jp; grind)]), fun c => ⟨fun c2 => ref _ (by rw [if_neg (by clear I ref jp; grind)]), fun c2 => ?_⟩⟩
  refine c8_beat w hj (by clear I ref jp; grind) (by clear I ref jp; grind) ⟨_, rfl, ref _ ?_⟩
  rw [if_pos (by clear I ref jp; grind)]
