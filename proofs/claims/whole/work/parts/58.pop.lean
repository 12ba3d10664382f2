/-! COUNTING BITS: Long.bitCount, and left &= left - 1 -/
theorem land_split {s a m : Nat} (b c : Nat) (ha : a < 2 ^ s) (hm : m < 2 ^ s) : (2 ^ s * b + a) &&& (2 ^ s * c + m) = 2 ^ s * (b &&& c) + (a &&& m) := by
  apply Nat.eq_of_testBit_eq
  intro i
  rw [Nat.testBit_and, Nat.testBit_two_pow_mul_add _ ha, Nat.testBit_two_pow_mul_add _ hm, Nat.testBit_two_pow_mul_add _ (Nat.lt_of_le_of_lt Nat.and_le_left ha)]
  by_cases c : i < s
  · simp only [c, if_true, Nat.testBit_and]
  · simp only [c, if_false, Nat.testBit_and]
def pb8 (a : Nat) : Nat := bsum (fun i => a.testBit i) 8
def s1 (M x : Nat) : Nat := x - ((x / 2) &&& M)
def s2 (M x : Nat) : Nat := (x &&& M) + ((x / 4) &&& M)
def s3 (M x : Nat) : Nat := (x + x / 16) &&& M
def rep (m : Nat) : Nat → Nat
  | 0 => 0
  | k + 1 => 256 * rep m k + m
theorem c_s1 : ∀ (a : Fin 256) (q : Fin 2), (a.val / 2 + 128 * q.val) &&& 85 = (a.val / 2) &&& 85 := by decide +kernel
theorem c_s1b : ∀ (a : Fin 256), (a.val / 2) &&& 85 ≤ a.val := by decide +kernel
theorem c_s2 : ∀ (a : Fin 256) (q : Fin 4), (a.val / 4 + 64 * q.val) &&& 51 = (a.val / 4) &&& 51 := by decide +kernel
theorem c_s3 : ∀ (a : Fin 69) (q : Fin 16), (a.val + a.val / 16 + 16 * q.val) &&& 15 = (a.val + a.val / 16) &&& 15 := by decide +kernel
theorem c_pop : ∀ a : Fin 256, s3 15 (s2 51 (s1 85 a.val)) = pb8 a.val ∧ s2 51 (s1 85 a.val) ≤ 68 ∧ s2 51 (s1 85 a.val) % 16 ≤ 4 ∧ s1 85 a.val < 256 := by decide +kernel
theorem s1_step {a : Nat} (b M : Nat) (ha : a < 256) : s1 (256 * M + 85) (256 * b + a) = 256 * s1 M b + s1 85 a := by
  unfold s1
  have e : (256 * b + a) / 2 = 2 ^ 8 * (b / 2) + (a / 2 + 128 * (b % 2)) := by omega
  have l := land_split (s := 8) (b / 2) M (a := a / 2 + 128 * (b % 2)) (m := 85) (by omega) (by decide)
  rw [e, show (256 * M + 85) = 2 ^ 8 * M + 85 from rfl, l, c_s1 ⟨a, ha⟩ ⟨b % 2, by omega⟩]
  have h1 := c_s1b ⟨a, ha⟩
  have h2 : (b / 2) &&& M ≤ b / 2 := Nat.and_le_left
  simp only at h1 ⊢
  omega
theorem s2_step {a : Nat} (b M : Nat) (ha : a < 256) : s2 (256 * M + 51) (256 * b + a) = 256 * s2 M b + s2 51 a := by
  unfold s2
  have e : (256 * b + a) / 4 = 2 ^ 8 * (b / 4) + (a / 4 + 64 * (b % 4)) := by omega
  have l := land_split (s := 8) (b / 4) M (a := a / 4 + 64 * (b % 4)) (m := 51) (by omega) (by decide)
  have l2 := land_split (s := 8) b M (a := a) (m := 51) (by omega) (by decide)
  rw [e, show (256 * M + 51) = 2 ^ 8 * M + 51 from rfl, l, show 256 * b + a = 2 ^ 8 * b + a from rfl, l2, c_s2 ⟨a, ha⟩ ⟨b % 4, by omega⟩]
  simp only
  omega
theorem s3_step {a : Nat} (b M : Nat) (ha : a ≤ 68) (hb : b % 16 ≤ 4) : s3 (256 * M + 15) (256 * b + a) = 256 * s3 M b + s3 15 a := by
  unfold s3
  have e : 256 * b + a + (256 * b + a) / 16 = 2 ^ 8 * (b + b / 16) + (a + a / 16 + 16 * (b % 16)) := by omega
  have l := land_split (s := 8) (b + b / 16) M (a := a + a / 16 + 16 * (b % 16)) (m := 15) (by omega) (by decide)
  rw [e, show (256 * M + 15) = 2 ^ 8 * M + 15 from rfl, l, c_s3 ⟨a, by omega⟩ ⟨b % 16, by omega⟩]
def dsum : Nat → Nat → Nat
  | 0, _ => 0
  | k + 1, x => 256 * dsum k (x / 256) + pb8 (x % 256)
theorem swar : ∀ (k x : Nat), x < 256 ^ k → s3 (rep 15 k) (s2 (rep 51 k) (s1 (rep 85 k) x)) = dsum k x ∧ s2 (rep 51 k) (s1 (rep 85 k) x) % 16 ≤ 4 ∧ s1 (rep 85 k) x < 256 ^ k
  | 0, x, h => by
    have e : x = 0 := by simpa using h
    subst e
    exact ⟨rfl, by decide, by decide⟩
  | k + 1, x, h => by
    have hx : x / 256 < 256 ^ k := by
      rw [Nat.div_lt_iff_lt_mul (by decide)]
      rw [Nat.pow_succ] at h
      exact h
    obtain ⟨i1, i2, i3⟩ := swar k (x / 256) hx
    have e : x = 256 * (x / 256) + x % 256 := by omega
    have ha : x % 256 < 256 := Nat.mod_lt _ (by decide)
    obtain ⟨p1, p2, p3, p4⟩ := c_pop ⟨x % 256, ha⟩
    simp only at p1 p2 p3 p4
    have q1 : s1 (rep 85 (k + 1)) x = 256 * s1 (rep 85 k) (x / 256) + s1 85 (x % 256) := by
      rw [e, show (256 * (x / 256) + x % 256) / 256 = x / 256 by omega, show (256 * (x / 256) + x % 256) % 256 = x % 256 by omega]
      exact s1_step _ _ ha
    have q2 : s2 (rep 51 (k + 1)) (s1 (rep 85 (k + 1)) x) = 256 * s2 (rep 51 k) (s1 (rep 85 k) (x / 256)) + s2 51 (s1 85 (x % 256)) := by
      rw [q1]
      exact s2_step _ _ p4
    refine ⟨?_, ?_, ?_⟩
    · rw [q2]
      show s3 (256 * rep 15 k + 15) _ = _
      rw [s3_step _ _ p2 i2, i1, p1]
      rfl
    · rw [q2]
      omega
    · rw [q1, Nat.pow_succ]
      omega
theorem pb8_le (a : Nat) : pb8 a ≤ 8 := bsum_le _ 8
theorem dsum_bs : ∀ (k x : Nat), bsum (fun i => x.testBit i) (8 * (k + 1)) = pb8 (x % 256) + bsum (fun i => (x / 256).testBit i) (8 * k) := by
  intro k x
  rw [show 8 * (k + 1) = 8 + 8 * k by omega, bsum_add]
  congr 1
  · unfold pb8
    refine bsum_c (fun i hi => ?_)
    rw [show (256 : Nat) = 2 ^ 8 from rfl, Nat.testBit_mod_two_pow]
    simp [hi]
  · refine bsum_c (fun i hi => ?_)
    rw [show (256 : Nat) = 2 ^ 8 from rfl, Nat.testBit_div_two_pow, Nat.add_comm]
theorem fold8 {x : Nat} (e : Nat) (he : e = dsum 8 x) : e + e / 256 < 2 ^ 64 ∧ (e + e / 256) + (e + e / 256) / 65536 < 2 ^ 64 ∧ (((e + e / 256) + (e + e / 256) / 65536) + ((e + e / 256) + (e + e / 256) / 65536) / 4294967296) % 128 = bsum (fun i => x.testBit i) 64 ∧ ((e + e / 256) + (e + e / 256) / 65536) + ((e + e / 256) + (e + e / 256) / 65536) / 4294967296 < 2 ^ 64 := by
  have b : bsum (fun i => x.testBit i) 64 = pb8 (x % 256) + (pb8 (x / 256 % 256) + (pb8 (x / 256 / 256 % 256) + (pb8 (x / 256 / 256 / 256 % 256) + (pb8 (x / 256 / 256 / 256 / 256 % 256) + (pb8 (x / 256 / 256 / 256 / 256 / 256 % 256) + (pb8 (x / 256 / 256 / 256 / 256 / 256 / 256 % 256) + pb8 (x / 256 / 256 / 256 / 256 / 256 / 256 / 256 % 256))))))) := by
    have := dsum_bs 7 x
    rw [dsum_bs 6, dsum_bs 5, dsum_bs 4, dsum_bs 3, dsum_bs 2, dsum_bs 1, dsum_bs 0] at this
    exact this
  have d : dsum 8 x = 256 * (256 * (256 * (256 * (256 * (256 * (256 * (256 * 0 + pb8 (x / 256 / 256 / 256 / 256 / 256 / 256 / 256 % 256)) + pb8 (x / 256 / 256 / 256 / 256 / 256 / 256 % 256)) + pb8 (x / 256 / 256 / 256 / 256 / 256 % 256)) + pb8 (x / 256 / 256 / 256 / 256 % 256)) + pb8 (x / 256 / 256 / 256 % 256)) + pb8 (x / 256 / 256 % 256)) + pb8 (x / 256 % 256)) + pb8 (x % 256) := rfl
  have l0 := pb8_le (x % 256)
  have l1 := pb8_le (x / 256 % 256)
  have l2 := pb8_le (x / 256 / 256 % 256)
  have l3 := pb8_le (x / 256 / 256 / 256 % 256)
  have l4 := pb8_le (x / 256 / 256 / 256 / 256 % 256)
  have l5 := pb8_le (x / 256 / 256 / 256 / 256 / 256 % 256)
  have l6 := pb8_le (x / 256 / 256 / 256 / 256 / 256 / 256 % 256)
  have l7 := pb8_le (x / 256 / 256 / 256 / 256 / 256 / 256 / 256 % 256)
  rw [b]
  rw [d] at he
  clear b d
  generalize pb8 (x % 256) = p0 at *
  generalize pb8 (x / 256 % 256) = p1 at *
  generalize pb8 (x / 256 / 256 % 256) = p2 at *
  generalize pb8 (x / 256 / 256 / 256 % 256) = p3 at *
  generalize pb8 (x / 256 / 256 / 256 / 256 % 256) = p4 at *
  generalize pb8 (x / 256 / 256 / 256 / 256 / 256 % 256) = p5 at *
  generalize pb8 (x / 256 / 256 / 256 / 256 / 256 / 256 % 256) = p6 at *
  generalize pb8 (x / 256 / 256 / 256 / 256 / 256 / 256 / 256 % 256) = p7 at *
  have e1 : e + e / 256 = 256 * (256 * (256 * (256 * (256 * (256 * (256 * p7 + (p6 + p7)) + (p5 + p6)) + (p4 + p5)) + (p3 + p4)) + (p2 + p3)) + (p1 + p2)) + (p0 + p1) := by omega
  have e2 : (e + e / 256) + (e + e / 256) / 65536 = 256 * (256 * (256 * (256 * (256 * (256 * (256 * p7 + (p6 + p7)) + (p5 + p6 + p7)) + (p4 + p5 + p6 + p7)) + (p3 + p4 + p5 + p6)) + (p2 + p3 + p4 + p5)) + (p1 + p2 + p3 + p4)) + (p0 + p1 + p2 + p3) := by
    rw [e1]
    omega
  rw [e2, e1]
  clear e1 e2 he
  have e3 : (256 * (256 * (256 * (256 * (256 * (256 * (256 * p7 + (p6 + p7)) + (p5 + p6 + p7)) + (p4 + p5 + p6 + p7)) + (p3 + p4 + p5 + p6)) + (p2 + p3 + p4 + p5)) + (p1 + p2 + p3 + p4)) + (p0 + p1 + p2 + p3)) / 4294967296 = 256 * (256 * (256 * p7 + (p6 + p7)) + (p5 + p6 + p7)) + (p4 + p5 + p6 + p7) := by omega
  rw [e3]
  clear e3
  refine ⟨by omega, by omega, by omega, by omega⟩
