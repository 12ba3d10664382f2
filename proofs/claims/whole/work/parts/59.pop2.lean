theorem u_sh (y : Int64) (n : Nat) (hn : n < 64) : (lushr y (nI n)).toBitVec.toNat = y.toBitVec.toNat / 2 ^ n := by
  unfold lushr
  show (y.toUInt64 >>> ((nI n).toInt64.toUInt64 &&& Int64.toUInt64 63)).toBitVec.toNat = y.toUInt64.toBitVec.toNat / 2 ^ n
  rw [UInt64.toBitVec_shiftRight]
  show (y.toUInt64.toBitVec >>> (((nI n).toInt64.toUInt64 &&& Int64.toUInt64 63).toBitVec % 64).toNat).toNat = _
  rw [ls_u n hn, BitVec.toNat_ushiftRight, Nat.shiftRight_eq_div_pow]
theorem u_and (x y : Int64) : (x &&& y).toBitVec.toNat = x.toBitVec.toNat &&& y.toBitVec.toNat := by rw [Int64.toBitVec_and, BitVec.toNat_and]
theorem u_add {x y : Int64} (h : x.toBitVec.toNat + y.toBitVec.toNat < 2 ^ 64) : (x + y).toBitVec.toNat = x.toBitVec.toNat + y.toBitVec.toNat := by
  rw [Int64.toBitVec_add, BitVec.toNat_add, Nat.mod_eq_of_lt h]
theorem u_sub {x y : Int64} (h : y.toBitVec.toNat ≤ x.toBitVec.toNat) : (x - y).toBitVec.toNat = x.toBitVec.toNat - y.toBitVec.toNat := by
  rw [Int64.toBitVec_sub, BitVec.toNat_sub_of_le]
  exact h
theorem c_bitCount {h : AH} {P : Option Value → AH → Prop} {y : Int64} (k : P (some (.int (nI (bsum (lb y) 64)))) h) : Call mJ13_bitCount_95d88 [.long y] h P := by
  refine Call.ofR (by decide +kernel) (Nat.le_of_ble_eq_true rfl) (sJ13_bitCount_95d88_0 h y ?_)
  intro v1 h1 v2 h2
  have hx : y.toBitVec.toNat < 256 ^ 8 := y.toBitVec.isLt
  obtain ⟨w1, w2, w3⟩ := swar 8 y.toBitVec.toNat hx
  have m5 : (6148914691236517205 : Int64).toBitVec.toNat = rep 85 8 := by decide +kernel
  have m3 : (3689348814741910323 : Int64).toBitVec.toNat = rep 51 8 := by decide +kernel
  have mf : (1085102592571150095 : Int64).toBitVec.toNat = rep 15 8 := by decide +kernel
  have a1 : ((lushr y 1) &&& 6148914691236517205).toBitVec.toNat = (y.toBitVec.toNat / 2) &&& rep 85 8 := by
    rw [u_and, m5]
    have := u_sh y 1 (by decide)
    rw [show (nI 1 : Int32) = 1 from rfl] at this
    rw [this]
  have a2 : (y - ((lushr y 1) &&& 6148914691236517205)).toBitVec.toNat = s1 (rep 85 8) y.toBitVec.toNat := by
    rw [u_sub, a1]
    · rfl
    · rw [a1]
      exact Nat.le_trans Nat.and_le_left (Nat.div_le_self _ _)
  generalize (y - ((lushr y 1) &&& 6148914691236517205)) = t1 at h1 a2
  have r51 : rep 51 8 < 2 ^ 63 := by decide +kernel
  have r15 : rep 15 8 < 2 ^ 60 := by decide +kernel
  have a3 : v1.toBitVec.toNat = s2 (rep 51 8) (s1 (rep 85 8) y.toBitVec.toNat) := by
    have q := u_sh t1 2 (by decide)
    rw [show (nI 2 : Int32) = 2 from rfl] at q
    have z1 : t1.toBitVec.toNat &&& rep 51 8 ≤ rep 51 8 := Nat.and_le_right
    have z2 : (t1.toBitVec.toNat / 2 ^ 2) &&& rep 51 8 ≤ rep 51 8 := Nat.and_le_right
    rw [h1, u_add, u_and, u_and, m3, q, a2]
    · rfl
    · rw [u_and, u_and, m3, q]
      omega
  have a4 : v1.toBitVec.toNat ≤ 2 * rep 51 8 := by
    rw [a3]
    have z1 : (s1 (rep 85 8) y.toBitVec.toNat) &&& rep 51 8 ≤ rep 51 8 := Nat.and_le_right
    have z2 : ((s1 (rep 85 8) y.toBitVec.toNat) / 4) &&& rep 51 8 ≤ rep 51 8 := Nat.and_le_right
    unfold s2
    omega
  have r51b : 2 * rep 51 8 + 2 * rep 51 8 / 16 < 2 ^ 64 := by decide +kernel
  have a5 : ((v1 + (lushr v1 4)) &&& 1085102592571150095).toBitVec.toNat = dsum 8 y.toBitVec.toNat := by
    have q := u_sh v1 4 (by decide)
    rw [show (nI 4 : Int32) = 4 from rfl, show (2 : Nat) ^ 4 = 16 from rfl] at q
    rw [u_and, mf, u_add, q, a3]
    · exact w1
    · rw [q]
      omega
  obtain ⟨f1, f2, f3, f4⟩ := fold8 (x := y.toBitVec.toNat) _ rfl
  rw [← a5] at f1 f2 f3 f4
  generalize ((v1 + (lushr v1 4)) &&& 1085102592571150095) = t3 at h2 f1 f2 f3 f4
  have q8 := u_sh t3 8 (by decide)
  rw [show (nI 8 : Int32) = 8 from rfl, show (2 : Nat) ^ 8 = 256 from rfl] at q8
  have a6 : v2.toBitVec.toNat = t3.toBitVec.toNat + t3.toBitVec.toNat / 256 := by
    rw [h2, u_add, q8]
    rw [q8]
    exact f1
  rw [← a6] at f2 f3 f4
  have q16 := u_sh v2 16 (by decide)
  rw [show (nI 16 : Int32) = 16 from rfl, show (2 : Nat) ^ 16 = 65536 from rfl] at q16
  have a7 : (v2 + lushr v2 16).toBitVec.toNat = v2.toBitVec.toNat + v2.toBitVec.toNat / 65536 := by
    rw [u_add, q16]
    rw [q16]
    exact f2
  rw [← a7] at f3 f4
  generalize v2 + lushr v2 16 = t5 at f3 f4 ⊢
  have q32 := u_sh t5 32 (by decide)
  rw [show (nI 32 : Int32) = 32 from rfl, show (2 : Nat) ^ 32 = 4294967296 from rfl] at q32
  have a8 : (t5 + lushr t5 32).toBitVec.toNat = t5.toBitVec.toNat + t5.toBitVec.toNat / 4294967296 := by
    rw [u_add, q32]
    rw [q32]
    exact f4
  rw [← a8] at f3
  generalize t5 + lushr t5 32 = t6 at f3 ⊢
  have e : t6.toInt32 &&& 127 = nI (bsum (lb y) 64) := by
    apply b_ext
    intro i hi
    have hb : bsum (lb y) 64 = t6.toBitVec.toNat % 128 := f3.symm
    have e7 : ∀ i, i < 32 → bt 127 i = decide (i < 7) := by decide +kernel
    have e8 : ∀ n, n < 128 → ∀ i, i < 32 → bt (nI n) i = n.testBit i := by
      intro n hn i hi
      show (BitVec.ofNat 32 n).getLsbD i = _
      rw [BitVec.getLsbD_ofNat]
      simp [hi]
    rw [b_and, bt_toI _ hi, e7 i hi, hb, e8 _ (Nat.mod_lt _ (by decide)) i hi, show (128 : Nat) = 2 ^ 7 from rfl, Nat.testBit_mod_two_pow, Bool.and_comm]
    rfl
  rw [e]
  exact k
/-! left &= left - 1 -/
theorem kern : ∀ (k n : Nat), n < 2 ^ k → 0 < n → bsum (fun i => (n &&& (n - 1)).testBit i) k + 1 = bsum (fun i => n.testBit i) k
  | 0, n, h, h0 => by
    rw [Nat.pow_zero] at h
    omega
  | k + 1, n, h, h0 => by
    have sp : ∀ m : Nat, bsum (fun i => m.testBit i) (k + 1) = m % 2 + bsum (fun i => (m / 2).testBit i) k := fun m => by
      rw [show k + 1 = 1 + k by omega, bsum_add]
      congr 1
      · show 0 + (m.testBit 0).toNat = _
        rw [Nat.testBit_zero, Nat.zero_add]
        rcases Nat.mod_two_eq_zero_or_one m with q | q <;> simp [q]
      · refine bsum_c (fun i hi => ?_)
        rw [Nat.add_comm 1 i, Nat.testBit_succ]
    rw [sp, sp n, Nat.and_div_two]
    rcases Nat.mod_two_eq_zero_or_one n with q | q
    · have e1 : (n - 1) / 2 = n / 2 - 1 := by omega
      have e2 : (n &&& (n - 1)) % 2 = 0 := by
        have t : (n &&& (n - 1)).testBit 0 = false := by
          rw [Nat.testBit_and, Nat.testBit_zero, decide_eq_false (by omega)]
          rfl
        rw [Nat.testBit_zero, decide_eq_false_iff_not] at t
        omega
      rw [e1, e2, q]
      have := kern k (n / 2) (by rw [Nat.pow_succ] at h; omega) (by omega)
      omega
    · have e1 : (n - 1) / 2 = n / 2 := by omega
      have e2 : (n &&& (n - 1)) % 2 = 0 := by
        have t : (n &&& (n - 1)).testBit 0 = false := by
          rw [Nat.testBit_and, Nat.testBit_zero (n - 1), decide_eq_false (show ¬ (n - 1) % 2 = 1 by omega), Bool.and_false]
        rw [Nat.testBit_zero, decide_eq_false_iff_not] at t
        omega
      rw [e1, e2, q, Nat.and_self]
      omega
theorem bits_step {x : Int32} (hx : ¬ x = 0) : bsum (bt (x &&& (x - 1))) 32 + 1 = bsum (bt x) 32 := by
  have h0 : 0 < x.toBitVec.toNat := by
    rcases Nat.eq_zero_or_pos x.toBitVec.toNat with q | q
    · exfalso
      apply hx
      apply Int32.toBitVec_inj.mp
      exact BitVec.eq_of_toNat_eq (q.trans rfl)
    · exact q
  have e : (x &&& (x - 1)).toBitVec.toNat = x.toBitVec.toNat &&& (x.toBitVec.toNat - 1) := by
    rw [Int32.toBitVec_and, BitVec.toNat_and, Int32.toBitVec_sub, BitVec.toNat_sub_of_le]
    · rfl
    · exact h0
  have := kern 32 x.toBitVec.toNat x.toBitVec.isLt h0
  rw [← e] at this
  exact this
theorem bits_loop {h : AH} {P : Option Value → AH → Prop} : ∀ (n m : Nat) (x : Int32), bsum (bt x) 32 = n → P (some (.int (nI (m + n)))) h → Rr mX12_bits 0 0 4 [(1, .int (nI m)), (2, .int x)] [] h P
  | 0, m, x, hn, k => by
    have e : x = 0 := by
      rcases Classical.em (x = 0) with q | q
      · exact q
      · have := bits_step q
        omega
    exact sX12_bits_4 h _ _ ⟨fun _ => k, fun q => absurd e q⟩
  | n + 1, m, x, hn, k => by
    have e : ¬ x = 0 := fun q => by
      rw [q] at hn
      have z : bsum (bt 0) 32 = 0 := by decide +kernel
      omega
    have st := bits_step e
    refine sX12_bits_4 h _ _ ⟨fun q => absurd q e, fun _ => ?_⟩
    rw [nI_1]
    exact bits_loop n (m + 1) _ (by omega) (by rw [show m + 1 + n = m + (n + 1) by omega]; exact k)
theorem c_bits {h : AH} {P : Option Value → AH → Prop} {x : Int32} {f : Nat → Bool} (hx : ∀ i, bt x i = (decide (i < 16) && f i)) (k : P (some (.int (nI (bsum f 16)))) h) : Call mX12_bits [.int x] h P := by
  refine Call.ofR (by decide +kernel) (Nat.le_of_ble_eq_true rfl) (sX12_bits_0 h x ?_)
  have e : bsum (bt x) 32 = bsum f 16 := by
    rw [show (32 : Nat) = 16 + 16 from rfl, bsum_add, bsum_c (p := bt x) (q := f) (fun i hi => by rw [hx i, decide_eq_true hi, Bool.true_and]), bsum_c (p := fun i => bt x (16 + i)) (q := fun _ => false) (fun i hi => by show bt x (16 + i) = false; rw [hx, decide_eq_false (by omega), Bool.false_and])]
    have z : ∀ n, bsum (fun _ => false) n = 0 := fun n => by
      induction n with
      | zero => rfl
      | succ n ih => exact ih
    rw [z]
    rfl
  refine bits_loop (bsum f 16) 0 x e ?_
  rw [Nat.zero_add]
  exact k
