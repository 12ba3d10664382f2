/-! a fault stays -/
theorem jrf_f {b : Nat → Int32} {L : Nat} {x : Int32} {s : JS} (h : ¬ s.1 = 0) : jrf b L x s = s := if_neg h
theorem jnb_f {b : Nat → Int32} {L : Nat} {lo hi : Int32} {s : JS} (h : ¬ s.1 = 0) : jnb b L lo hi s = (lo, s) := if_neg h
theorem jsg_f {b : Nat → Int32} {L : Nat} {hi : Int32} {s : JS} (h : ¬ s.1 = 0) : jsg b L hi s = (0, s) := if_neg h
theorem jnk_f {b : Nat → Int32} {L : Nat} {s : JS} (h : ¬ s.1 = 0) : jnk b L s = (0, s) := if_neg h
theorem jrf_0 {b : Nat → Int32} {L : Nat} {x : Int32} {s : JS} (h : s.1 = 0) : jrf b L x s = (x, nI (ts b L s.2.2), s.2.2) := if_pos h
/-- the draft of the reference -/
def mbt (m : Int32) : Int32 := ((m &&& 1) <<< 4) ||| (((m >>> 1) &&& 1) <<< 6) ||| (((m >>> 2) &&& 1) <<< 8) ||| (((m >>> 3) &&& 1) <<< 10) ||| (((m >>> 4) &&& 1) <<< 11)
def mc (c : Int32) : Int32 := if c = 0 then 4 else if c = 1 then 6 else if c = 2 then 8 else if c = 3 then 10 else 11
theorem mbt_tab : ∀ m : Fin 32, ∀ c : Fin 5, (((mbt (nI m.val)) >>> (mc (nI c.val) &&& 31)) &&& 1 = 1 ↔ ¬ ((nI m.val) >>> (nI c.val &&& 31)) &&& 1 = 0) ∧ mbt (nI m.val) ||| ((1 : Int32) <<< (mc (nI c.val) &&& 31)) = mbt (nI m.val ||| ((1 : Int32) <<< (nI c.val &&& 31))) ∧ 0 ≤ (nI m.val ||| ((1 : Int32) <<< (nI c.val &&& 31))) ∧ (nI m.val ||| ((1 : Int32) <<< (nI c.val &&& 31))) ≤ 31 := by decide +kernel
def DM (h : AH) (D : DD) : Prop :=
  (gI h 118 9 = D 0 1 ∧ gI h 118 10 = D 0 2 ∧ gI h 118 11 = D 0 3 ∧ gI h 118 12 = D 0 6 ∧ gI h 118 13 = D 0 9 ∧ gI h 118 14 = D 0 10 ∧ gI h 118 15 = D 0 12 ∧ gI h 118 16 = D 0 13 ∧ gI h 118 17 = D 14 0) ∧
  (∀ x : Int32, 0 ≤ x → x < D 0 3 → gI h 119 (8 + x).toNatClampNeg = D 1 x.toNatClampNeg ∧ gI h 120 (8 + x).toNatClampNeg = D 2 x.toNatClampNeg) ∧
  (∀ i : Nat, i < 4 → gI h 121 (4 + i) = D 3 i) ∧
  (∀ i k w : Int32, 0 ≤ i → i < 4 → 0 ≤ k → k < D 3 i.toNatClampNeg → 0 ≤ w → w < 3 → gI h 122 (36 + 9 * i + 3 * k + w).toNatClampNeg = D 4 ((i * 3 + k) * 3 + w).toNatClampNeg) ∧
  (∀ i y : Nat, i < 4 → y < 16 → gI h 123 (16 * (4 + i) + y) = D (100 + i) y) ∧
  (∀ x : Int32, 0 ≤ x → x < D 14 0 → gI h 124 (8 + x).toNatClampNeg = D 15 x.toNatClampNeg ∧ gI h 125 (8 + x).toNatClampNeg = D 16 x.toNatClampNeg) ∧
  (∀ a c : Int32, 0 ≤ a → a < 4 → 0 ≤ c → c < 4 → (a ≠ c → gI h 126 (16 + (4 * a + c)).toNatClampNeg = D 18 (a * 4 + c).toNatClampNeg) ∧ (a = c → gI h 126 (16 + (4 * a + c)).toNatClampNeg = -1)) ∧
  gI h 116 21 = mbt (D 200 1) ∧ inr (D 200 1) 0 31 ∧ gI h 116 22 = D 200 2
