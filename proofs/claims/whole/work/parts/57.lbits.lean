/-! BITS of words, boards as functions of row and place, how many cells -/
def lb (x : Int64) (i : Nat) : Bool := x.toBitVec.getLsbD i
theorem l_ext {x y : Int64} (h : ∀ i, i < 64 → lb x i = lb y i) : x = y := Int64.toBitVec_inj.mp (BitVec.eq_of_getLsbD_eq (fun i hi => h i hi))
theorem lb_or (x y : Int64) (i : Nat) : lb (x ||| y) i = (lb x i || lb y i) := by unfold lb; rw [Int64.toBitVec_or, BitVec.getLsbD_or]
theorem lb_and (x y : Int64) (i : Nat) : lb (x &&& y) i = (lb x i && lb y i) := by unfold lb; rw [Int64.toBitVec_and, BitVec.getLsbD_and]
theorem lb_xor (x y : Int64) (i : Nat) : lb (x ^^^ y) i = (lb x i ^^ lb y i) := by unfold lb; rw [Int64.toBitVec_xor, BitVec.getLsbD_xor]
theorem lb_big {x : Int64} {i : Nat} (h : 64 ≤ i) : lb x i = false := BitVec.getLsbD_of_ge _ _ h
theorem lb_0 (i : Nat) : lb 0 i = false := BitVec.getLsbD_zero
theorem lb_m1 {i : Nat} (h : i < 64) : lb (-1) i = true := (by decide +kernel : ∀ i : Fin 64, lb (-1) i = true) ⟨i, h⟩
theorem lb_bf {i : Nat} (h : i < 64) : lb (-281479271743490) i = decide (i % 16 ≠ 0) := (by decide +kernel : ∀ i : Fin 64, lb (-281479271743490) i = decide (i.val % 16 ≠ 0)) ⟨i, h⟩
theorem lb_bl {i : Nat} (h : i < 64) : lb 9223231297218904063 i = decide (i % 16 ≠ 15) := (by decide +kernel : ∀ i : Fin 64, lb 9223231297218904063 i = decide (i.val % 16 ≠ 15)) ⟨i, h⟩
theorem ls_l : ∀ n, n < 64 → (((nI n).toInt64 &&& 63).toBitVec.smod 64).toNat = n := by decide +kernel
theorem ls_u : ∀ n, n < 64 → (((nI n).toInt64.toUInt64 &&& Int64.toUInt64 63).toBitVec % 64).toNat = n := by decide +kernel
theorem lb_shl (n : Nat) (hn : n < 64) (x : Int64) {i : Nat} (hi : i < 64) : lb (lshl x (nI n)) i = (decide (n ≤ i) && lb x (i - n)) := by
  unfold lb lshl
  rw [Int64.toBitVec_shiftLeft]
  show (x.toBitVec <<< (((nI n).toInt64 &&& 63).toBitVec.smod 64).toNat).getLsbD i = _
  rw [ls_l n hn, BitVec.getLsbD_shiftLeft]
  rcases Nat.lt_or_ge i n with h | h
  · simp [h, Nat.not_le.mpr h]
  · simp [hi, h, Nat.not_lt.mpr h]
theorem lb_ushr (n : Nat) (hn : n < 64) (x : Int64) (i : Nat) : lb (lushr x (nI n)) i = lb x (n + i) := by
  unfold lushr
  show (x.toUInt64 >>> ((nI n).toInt64.toUInt64 &&& Int64.toUInt64 63)).toBitVec.getLsbD i = x.toUInt64.toBitVec.getLsbD (n + i)
  rw [UInt64.toBitVec_shiftRight]
  show (x.toUInt64.toBitVec >>> (((nI n).toInt64.toUInt64 &&& Int64.toUInt64 63).toBitVec % 64).toNat).getLsbD i = _
  rw [ls_u n hn, BitVec.getLsbD_ushiftRight]
theorem bt_toI (x : Int64) {i : Nat} (hi : i < 32) : bt x.toInt32 i = lb x i := by
  unfold bt lb
  show (x.toBitVec.signExtend 32).getLsbD i = x.toBitVec.getLsbD i
  rw [BitVec.getLsbD_signExtend]
  simp only [hi, decide_true, Bool.true_and, show i < 64 by omega, if_true]
/-- the board at cell r is f -/
def Bd (h : AH) (r : Nat) (f : Nat → Nat → Bool) : Prop := ∀ y x, y < 16 → x < 16 → lb (gL h r (y / 4)) (16 * (y % 4) + x) = f y x
/-- sixteen rows from place o on of cell r are f -/
def Rw (h : AH) (r o : Nat) (f : Nat → Nat → Bool) : Prop := ∀ y, y < 16 → ∀ i, bt (gI h r (o + y)) i = (decide (i < 16) && f y i)
theorem brow_bt (h : AH) (w y i : Nat) : bt (brow h w y) i = (decide (i < 16) && lb (gL h w (y / 4)) (16 * (y % 4) + i)) := by
  unfold brow
  rw [b_and, b_65535, Bool.and_comm]
  rcases Nat.lt_or_ge i 16 with hi | hi
  · have e : iI (16 * (y % 4 : Nat)) = nI (16 * (y % 4)) := by rw [iI_nI]; congr 1
    rw [bt_toI _ (by omega), e, lb_ushr _ (by omega)]
  · rw [decide_eq_false (by omega)]
    rfl
theorem Bd.word {h : AH} {r : Nat} {f : Nat → Nat → Bool} (hb : Bd h r f) {w i : Nat} (hw : w < 4) (hi : i < 64) : lb (gL h r w) i = f (4 * w + i / 16) (i % 16) := by
  have := hb (4 * w + i / 16) (i % 16) (by omega) (by omega)
  rw [show (4 * w + i / 16) / 4 = w by omega, show 16 * ((4 * w + i / 16) % 4) + i % 16 = i by omega] at this
  exact this
theorem Bd.of {h : AH} {r : Nat} {f : Nat → Nat → Bool} (hb : ∀ w i, w < 4 → i < 64 → lb (gL h r w) i = f (4 * w + i / 16) (i % 16)) : Bd h r f := by
  intro y x hy hx
  have := hb (y / 4) (16 * (y % 4) + x) (by omega) (by omega)
  rw [show 4 * (y / 4) + (16 * (y % 4) + x) / 16 = y by omega, show (16 * (y % 4) + x) % 16 = x by omega] at this
  exact this
theorem Bd.row {h : AH} {r : Nat} {f : Nat → Nat → Bool} (hb : Bd h r f) {y : Nat} (hy : y < 16) (i : Nat) : bt (brow h r y) i = (decide (i < 16) && f y i) := by
  rw [brow_bt]
  rcases Nat.lt_or_ge i 16 with hi | hi
  · rw [hb y i hy hi]
  · rw [decide_eq_false (by omega)]
    rfl
theorem Bd.ag {h h2 : AH} {r : Nat} {f : Nat → Nat → Bool} (hb : Bd h r f) (e : gL h2 r = gL h r) : Bd h2 r f := by
  intro y x hy hx
  rw [e]
  exact hb y x hy hx
theorem Rw.ag {h h2 : AH} {r o : Nat} {f : Nat → Nat → Bool} (hb : Rw h r o f) (e : gI h2 r = gI h r) : Rw h2 r o f := by
  intro y hy i
  rw [e]
  exact hb y hy i
/-- how many of the first n -/
def bsum (p : Nat → Bool) : Nat → Nat
  | 0 => 0
  | n + 1 => bsum p n + (p n).toNat
theorem bsum_c {p q : Nat → Bool} : ∀ {n : Nat}, (∀ i, i < n → p i = q i) → bsum p n = bsum q n
  | 0, _ => rfl
  | n + 1, e => by
    show bsum p n + (p n).toNat = bsum q n + (q n).toNat
    rw [bsum_c (fun i hi => e i (by omega)), e n (by omega)]
theorem bsum_add (p : Nat → Bool) (a : Nat) : ∀ b : Nat, bsum p (a + b) = bsum p a + bsum (fun i => p (a + i)) b
  | 0 => rfl
  | b + 1 => by
    show bsum p (a + b) + (p (a + b)).toNat = bsum p a + (bsum (fun i => p (a + i)) b + (p (a + b)).toNat)
    rw [bsum_add p a b, Nat.add_assoc]
theorem bsum_le (p : Nat → Bool) : ∀ n, bsum p n ≤ n
  | 0 => Nat.le_refl _
  | n + 1 => by
    have := bsum_le p n
    have h2 : (p n).toNat ≤ 1 := by cases p n <;> decide
    show bsum p n + (p n).toNat ≤ n + 1
    omega
/-- cells of the first n rows -/
def tot (f : Nat → Nat → Bool) : Nat → Nat
  | 0 => 0
  | n + 1 => tot f n + bsum (f n) 16
theorem tot_c {f g : Nat → Nat → Bool} : ∀ {n : Nat}, (∀ y x, y < n → x < 16 → f y x = g y x) → tot f n = tot g n
  | 0, _ => rfl
  | n + 1, e => by
    show tot f n + bsum (f n) 16 = tot g n + bsum (g n) 16
    rw [tot_c (fun y x hy hx => e y x (by omega) hx), bsum_c (fun i hi => e n i (by omega) hi)]
theorem tot_le (f : Nat → Nat → Bool) : ∀ n, tot f n ≤ 16 * n
  | 0 => Nat.le_refl _
  | n + 1 => by
    have := tot_le f n
    have := bsum_le (f n) 16
    show tot f n + bsum (f n) 16 ≤ 16 * (n + 1)
    omega
theorem tot_word {f : Nat → Nat → Bool} {p : Nat → Bool} {w : Nat} (e : ∀ i, i < 64 → p i = f (4 * w + i / 16) (i % 16)) : tot f (4 * (w + 1)) = tot f (4 * w) + bsum p 64 := by
  have s : bsum p 64 = bsum p 16 + bsum (fun i => p (16 + i)) 16 + bsum (fun i => p (32 + i)) 16 + bsum (fun i => p (48 + i)) 16 := by
    rw [show (64 : Nat) = 48 + 16 from rfl, bsum_add, show (48 : Nat) = 32 + 16 from rfl, bsum_add, show (32 : Nat) = 16 + 16 from rfl, bsum_add]
  rw [s, bsum_c (q := f (4 * w)) (n := 16) (fun i hi => ?_), bsum_c (p := fun i => p (16 + i)) (q := f (4 * w + 1)) (fun i hi => ?_), bsum_c (p := fun i => p (32 + i)) (q := f (4 * w + 2)) (fun i hi => ?_), bsum_c (p := fun i => p (48 + i)) (q := f (4 * w + 3)) (fun i hi => ?_)]
  · show tot f (4 * w) + bsum (f (4 * w)) 16 + bsum (f (4 * w + 1)) 16 + bsum (f (4 * w + 2)) 16 + bsum (f (4 * w + 3)) 16 = _
    omega
  · show p (48 + i) = _
    rw [e _ (by omega), show (48 + i) / 16 = 3 by omega, show (48 + i) % 16 = i by omega]
  · show p (32 + i) = _
    rw [e _ (by omega), show (32 + i) / 16 = 2 by omega, show (32 + i) % 16 = i by omega]
  · show p (16 + i) = _
    rw [e _ (by omega), show (16 + i) / 16 = 1 by omega, show (16 + i) % 16 = i by omega]
  · rw [e _ (by omega), show i / 16 = 0 by omega, show i % 16 = i by omega, Nat.add_zero]
