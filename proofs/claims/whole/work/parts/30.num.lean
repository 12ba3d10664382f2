/-! NUMBERS: an Int32 told by its Int -/
def iI (z : Int) : Int32 := Int32.ofInt z
theorem iI_of (x : Int32) : x = iI x.toInt := (Int32.ofInt_toInt x).symm
theorem iI_nI (n : Nat) : nI n = iI n := Int32.ofInt_eq_ofNat.symm
theorem iI_t {z : Int} (h1 : -2147483648 ≤ z) (h2 : z < 2147483648) : (iI z).toInt = z := Int32.toInt_ofInt_of_le h1 h2
theorem iI_lit (n : Nat) : (OfNat.ofNat n : Int32) = iI (OfNat.ofNat n : Nat) := Int32.ofInt_eq_ofNat.symm
theorem iI_inj32 {x y : Int32} (h : x.toInt = y.toInt) : x = y := Int32.toInt_inj.mp h
theorem bm (z : Int) : ∃ q : Int, z.bmod 4294967296 = z + 4294967296 * q := by
  refine ⟨-((z - z.bmod 4294967296) / 4294967296), ?_⟩
  have h : (4294967296 : Int) ∣ z - z.bmod 4294967296 := by
    have := Int.dvd_self_sub_bmod (x := z) (m := 4294967296)
    exact this
  have := Int.mul_ediv_cancel' h
  omega
theorem iI_add (a b : Int) : iI a + iI b = iI (a + b) := by
  apply iI_inj32
  rw [Int32.toInt_add]
  show (Int32.toInt (Int32.ofInt a) + Int32.toInt (Int32.ofInt b)).bmod (2 ^ 32) = Int32.toInt (Int32.ofInt (a + b))
  rw [Int32.toInt_ofInt, Int32.toInt_ofInt, Int32.toInt_ofInt]
  show (a.bmod 4294967296 + b.bmod 4294967296).bmod 4294967296 = (a + b).bmod 4294967296
  simp
theorem iI_mul (a b : Int) : iI a * iI b = iI (a * b) := by
  apply iI_inj32
  rw [Int32.toInt_mul]
  show (Int32.toInt (Int32.ofInt a) * Int32.toInt (Int32.ofInt b)).bmod (2 ^ 32) = Int32.toInt (Int32.ofInt (a * b))
  rw [Int32.toInt_ofInt, Int32.toInt_ofInt, Int32.toInt_ofInt]
  show (a.bmod 4294967296 * b.bmod 4294967296).bmod 4294967296 = (a * b).bmod 4294967296
  simp
theorem iI_neg (a : Int) : -iI a = iI (-a) := by
  apply iI_inj32
  rw [Int32.toInt_neg]
  show (-Int32.toInt (Int32.ofInt a)).bmod (2 ^ 32) = Int32.toInt (Int32.ofInt (-a))
  rw [Int32.toInt_ofInt, Int32.toInt_ofInt]
  show (-(a.bmod 4294967296)).bmod 4294967296 = (-a).bmod 4294967296
  simp
theorem iI_sub (a b : Int) : iI a - iI b = iI (a - b) := by
  rw [Int32.sub_eq_add_neg, iI_neg, iI_add]
  rfl
theorem iI_lt {a b : Int} (ha : -2147483648 ≤ a) (ha2 : a < 2147483648) (hb : -2147483648 ≤ b) (hb2 : b < 2147483648) : iI a < iI b ↔ a < b := by
  rw [Int32.lt_iff_toInt_lt, iI_t ha ha2, iI_t hb hb2]
theorem iI_le {a b : Int} (ha : -2147483648 ≤ a) (ha2 : a < 2147483648) (hb : -2147483648 ≤ b) (hb2 : b < 2147483648) : iI a ≤ iI b ↔ a ≤ b := by
  rw [Int32.le_iff_toInt_le, iI_t ha ha2, iI_t hb hb2]
theorem iI_eq {a b : Int} (ha : -2147483648 ≤ a) (ha2 : a < 2147483648) (hb : -2147483648 ≤ b) (hb2 : b < 2147483648) : iI a = iI b ↔ a = b := by
  rw [← Int32.toInt_inj, iI_t ha ha2, iI_t hb hb2]
theorem iI_div {a b : Int} (ha : -2147483648 < a) (ha2 : a < 2147483648) (hb : -2147483648 ≤ b) (hb2 : b < 2147483648) : iI a / iI b = iI (a.tdiv b) := by
  apply iI_inj32
  have hq : (a.tdiv b).natAbs ≤ a.natAbs := by
    rw [Int.natAbs_tdiv]
    exact Nat.div_le_self _ _
  rw [Int32.toInt_div, iI_t (by omega) ha2, iI_t hb hb2, iI_t (by omega) (by omega)]
  show (a.tdiv b).bmod 4294967296 = _
  exact Int.bmod_eq_of_le (by omega) (by omega)
theorem iI_mod {a b : Int} (ha : -2147483648 < a) (ha2 : a < 2147483648) (hb : -2147483648 ≤ b) (hb2 : b < 2147483648) : iI a % iI b = iI (a.tmod b) := by
  apply iI_inj32
  have hq : (a.tmod b).natAbs ≤ a.natAbs := by
    rw [Int.natAbs_tmod]
    exact Nat.mod_le _ _
  rw [Int32.toInt_mod, iI_t (by omega) ha2, iI_t hb hb2, iI_t (by omega) (by omega)]
theorem iI_ix {a : Int} (h1 : 0 ≤ a) (h2 : a < 2147483648) : (iI a).toNatClampNeg = a.toNat := by
  show (iI a).toInt.toNat = a.toNat
  rw [iI_t (by omega) h2]
theorem iI_in {a : Int} {n : Nat} (h1 : 0 ≤ a) (h2 : a < n) (hn : n < 2147483648) : vp_in (iI a) n := by
  rw [vp_in_iff, iI_t (by omega) (by omega)]
  exact ⟨h1, h2⟩
theorem ti_lt (a b : Int32) : a < b ↔ a.toInt < b.toInt := Int32.lt_iff_toInt_lt
theorem ti_le (a b : Int32) : a ≤ b ↔ a.toInt ≤ b.toInt := Int32.le_iff_toInt_le
theorem ti_eq (a b : Int32) : a = b ↔ a.toInt = b.toInt := Int32.toInt_inj.symm
theorem ti_rng (a : Int32) : -2147483648 ≤ a.toInt ∧ a.toInt < 2147483648 := ⟨Int32.le_toInt a, Int32.toInt_lt a⟩
theorem ti_add {a b : Int32} (h1 : -2147483648 ≤ a.toInt + b.toInt) (h2 : a.toInt + b.toInt < 2147483648) : (a + b).toInt = a.toInt + b.toInt := by
  rw [Int32.toInt_add]
  exact Int.bmod_eq_of_le h1 h2
theorem ti_sub {a b : Int32} (h1 : -2147483648 ≤ a.toInt - b.toInt) (h2 : a.toInt - b.toInt < 2147483648) : (a - b).toInt = a.toInt - b.toInt := by
  rw [Int32.toInt_sub]
  exact Int.bmod_eq_of_le h1 h2
theorem ti_mul {a b : Int32} (h1 : -2147483648 ≤ a.toInt * b.toInt) (h2 : a.toInt * b.toInt < 2147483648) : (a * b).toInt = a.toInt * b.toInt := by
  rw [Int32.toInt_mul]
  exact Int.bmod_eq_of_le h1 h2
theorem ti_neg {a : Int32} (h1 : -2147483648 < a.toInt) : (-a).toInt = -a.toInt := by
  have := Int32.toInt_lt a
  rw [Int32.toInt_neg]
  exact Int.bmod_eq_of_le (by omega) (by omega)
