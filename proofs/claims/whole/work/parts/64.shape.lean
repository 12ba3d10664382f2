theorem job_sh {j : Nat} {h : AH} (w : Wf h) (hj : gF h 0 2 = j) {i : Nat} (hi : i < 4) : gF h (j + 5) i = j + 6 + 2 * i ∧ Bo h (j + 6 + 2 * i) (j + 7 + 2 * i) := by
  rcases jcase w hj with rfl | rfl
  · rcases (show i = 0 ∨ i = 1 ∨ i = 2 ∨ i = 3 by omega) with rfl | rfl | rfl | rfl
    · exact ⟨w.f9_0, w.o (by decide) rfl, w.f10_0, w.a (by decide) rfl, rfl⟩
    · exact ⟨w.f9_1, w.o (by decide) rfl, w.f12_0, w.a (by decide) rfl, rfl⟩
    · exact ⟨w.f9_2, w.o (by decide) rfl, w.f14_0, w.a (by decide) rfl, rfl⟩
    · exact ⟨w.f9_3, w.o (by decide) rfl, w.f16_0, w.a (by decide) rfl, rfl⟩
  · rcases (show i = 0 ∨ i = 1 ∨ i = 2 ∨ i = 3 by omega) with rfl | rfl | rfl | rfl
    · exact ⟨w.f28_0, w.o (by decide) rfl, w.f29_0, w.a (by decide) rfl, rfl⟩
    · exact ⟨w.f28_1, w.o (by decide) rfl, w.f31_0, w.a (by decide) rfl, rfl⟩
    · exact ⟨w.f28_2, w.o (by decide) rfl, w.f33_0, w.a (by decide) rfl, rfl⟩
    · exact ⟨w.f28_3, w.o (by decide) rfl, w.f35_0, w.a (by decide) rfl, rfl⟩
theorem prf_sh {h : AH} (w : Wf h) {i : Nat} (hi : i < 4) : gF h 71 i = 72 + 2 * i ∧ Bo h (72 + 2 * i) (73 + 2 * i) := by
  rcases (show i = 0 ∨ i = 1 ∨ i = 2 ∨ i = 3 by omega) with rfl | rfl | rfl | rfl
  · exact ⟨w.f71_0, w.o (by decide) rfl, w.f72_0, w.a (by decide) rfl, rfl⟩
  · exact ⟨w.f71_1, w.o (by decide) rfl, w.f74_0, w.a (by decide) rfl, rfl⟩
  · exact ⟨w.f71_2, w.o (by decide) rfl, w.f76_0, w.a (by decide) rfl, rfl⟩
  · exact ⟨w.f71_3, w.o (by decide) rfl, w.f78_0, w.a (by decide) rfl, rfl⟩
/-- the board at cell r, as a function -/
def bf (h : AH) (r : Nat) : Nat → Nat → Bool := fun y x => lb (gL h r (y / 4)) (16 * (y % 4) + x)
theorem bf_Bd (h : AH) (r : Nat) : Bd h r (bf h r) := fun _ _ _ _ => rfl
theorem bf_Rw {h : AH} {r s o : Nat} (e : ∀ y, y < 16 → brow h r y = gI h s (o + y)) : Rw h s o (bf h r) := fun y hy i => by
  rw [← e y hy, brow_bt]
  rfl
theorem job_rw {j : Nat} {h : AH} (I : Inv j h) {i : Nat} (hi : i < 4) : Rw h 123 (16 * i) (bf h (j + 7 + 2 * i)) := bf_Rw (fun y hy => I.2.2.2.2.1.2.2 i y hi hy)
theorem prf_rw {j : Nat} {h : AH} (I : Inv j h) {i : Nat} (hi : i < 4) : Rw h 144 (16 * i) (bf h (73 + 2 * i)) := bf_Rw (fun y hy => I.2.2.2.2.2.2.2.2.1.2.2 i y hi hy)
theorem bf_c {h h2 : AH} {r : Nat} (e : gL h2 r = gL h r) : bf h2 r = bf h r := by unfold bf; rw [e]
theorem brow_n (h : AH) (r : Nat) {y : Nat} (hy : y < 16) : ((lushr (gL h r (nI y / 4).toNatClampNeg) ((nI y % 4) * 16)).toInt32 &&& 65535) = brow h r y := by
  unfold brow
  have e : iI (16 * (y % 4 : Nat)) = nI (16 * (y % 4)) := by rw [iI_nI]; congr 1
  rw [show (4 : Int32) = nI 4 from rfl, show (16 : Int32) = nI 16 from rfl, nI_div (by omega) (by decide) (by decide), nI_mod (by omega) (by decide) (by decide), pk_mul, nI_clamp (by omega), e, Nat.mul_comm]
theorem bo80 {h : AH} (w : Wf h) : Bo h 80 81 := ⟨w.o (by decide) rfl, w.f80_0, w.a (by decide) rfl, rfl⟩
theorem bo82 {h : AH} (w : Wf h) : Bo h 82 83 := ⟨w.o (by decide) rfl, w.f82_0, w.a (by decide) rfl, rfl⟩
theorem pr_shape {j : Nat} {h : AH} (I : Inv j h) (x k y : Int32) : Pair mX11_shape mX12_shape [.int x, .int k, .int y] h := by
  have w := I.1
  have hj := I.2.1
  have jb := jcase w hj
  obtain ⟨hO, -, -, -, -, -, f11, -, -, -, -, -⟩ := job_refs w hj
  obtain ⟨-, -, -, -, ⟨a5, l5⟩, -, -, -, -⟩ := job_arrs w hj
  have rf : ∀ h2, Inv j h2 → ¬ ((¬ x < 0 ∧ ¬ 4 ≤ x) ∧ (¬ k < -2 ∧ ¬ 2 < k) ∧ (¬ y < 0 ∧ y < 16)) → Call mX12_shape [.ref 116, .int x, .int k, .int y] h2 (fun v2 h2 => v2 = some (.int (-2)) ∧ (∃ z : Int32, some (Value.int (-2)) = some (.int z)) ∧ ∃ j, Inv j h2) := fun h2 I2 c => by
    have fin : (some (Value.int (-2)) = some (Value.int (-2))) ∧ (∃ z : Int32, some (Value.int (-2)) = some (.int z)) ∧ ∃ j, Inv j h2 := ⟨rfl, ⟨_, rfl⟩, j, I2⟩
    refine Call.ofR (by decide +kernel) (Nat.le_of_ble_eq_true rfl) (sX12_shape_0 h2 116 x k y ⟨fun _ => fin, fun c1 => ⟨fun _ => fin, fun c2 => ⟨fun c3 => absurd ⟨?_, c2, ?_⟩ c, fun _ => fin⟩⟩⟩)
    · clear I I2 c fin; grind
    · clear I I2 c fin; grind
  refine Call.ofR (by decide +kernel) (Nat.le_of_ble_eq_true rfl) (sX11_shape_0 h 0 x k y ⟨fun c => rf h I (fun q => c q.1), fun c1 => ⟨fun c => rf h I (fun q => c q.2.1), fun c2 => ⟨fun c => rf h I (fun q => q.2.2.1 c), fun c3 => ⟨fun c4 => ?_, fun c => rf h I (fun q => c q.2.2.2)⟩⟩⟩⟩)
  obtain ⟨i, hi, rfl⟩ : ∃ n : Nat, n ≤ 3 ∧ x = nI n := nI_of2 (M := 3) rfl c1.1 (by clear rf I; grind)
  obtain ⟨v, hv, rfl⟩ : ∃ n : Nat, n ≤ 15 ∧ y = nI n := nI_of2 (M := 15) rfl c3 (by clear rf I; grind)
  obtain ⟨s1, s2⟩ := job_sh w hj (show i < 4 by omega)
  have c80 := bo80 w
  simp only [gF_rL]
  rw [hj, f11, w.f0_9, w.f80_0, nI_clamp (n := i) (by omega), s1, s2.2.1, l5, s2.2.2.2, cl0, cl4]
  refine ⟨w.o (by decide) rfl, hO, a5, in4n (by omega), c80.1, s2.1, s2.2.2.1, c80.2.2.1, by decide, by decide, c80.1, ?_⟩
  have F1 : Fr [81] h (rL h 81 (va_cpy (gL h (j + 7 + 2 * i)) (gL h 81) 0 0 4)) := Fr.rL (by decide)
  refine c0_grow (c80.fr F1) (cpy_b (bf_Bd h _)) c2 (fun h2 F2 e2 => ⟨rfl, ?_⟩)
  have F := F1.tr F2
  have w2 := F.wf w
  have I2 : Inv j h2 := inv_keep I F (by rcases jb with rfl | rfl <;> decide) (fun q hq => F.I (by clear I rf; revert q; decide) _)
  rw [w2.f0_9, w2.f80_0, brow_n h2 81 (by omega), show (4 : Int32) = nI 4 from rfl, nI_div (by omega) (by decide) (by decide)]
  refine ⟨w2.o (by decide) rfl, (bo80 w2).1, (bo80 w2).2.2.1, in4n (w := v / 4) (by omega), ?_⟩
  have hr : Rw h2 123 (16 * i) (bf h (j + 7 + 2 * i)) := (job_rw I (by omega)).ag (F.2.2 123 (by decide)).1
  refine Call.ofR (by decide +kernel) (Nat.le_of_ble_eq_true rfl) (sX12_shape_0 h2 116 _ k _ ⟨fun c => absurd ?_ c, fun _ => ⟨fun c => absurd c2 c, fun _ => ⟨fun _ => ⟨w2.o (by decide) rfl, ?_⟩, fun c => absurd ?_ c⟩⟩⟩)
  · clear I I2 rf; grind
  · refine c12_spread (to := 0) w2 c2 (by omega) (by decide) hr (fun h3 F3 e3 _ => ⟨rfl, ?_⟩)
    have w3 := F3.wf w2
    have I3 : Inv j h3 := inv_keep I2 F3 (by rcases jb with rfl | rfl <;> decide) (fun q hq => F3.I (by clear I I2 rf; revert q; decide) _)
    rw [w3.f116_45, Int32.zero_add, nI_clamp (by omega)]
    refine ⟨w3.o (by decide) rfl, w3.a (by decide) rfl, in64 (by omega), ?_, ⟨_, rfl⟩, j, I3⟩
    have := e3.rb (y := v) (by omega)
    rw [Nat.zero_add] at this
    rw [rb_ext this (e2.row (by omega))]
  · clear I I2 rf; grind
