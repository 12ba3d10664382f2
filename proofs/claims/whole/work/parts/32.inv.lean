/-! THE INVARIANT between the press (cells 0 .. 115) and the reference (cells 116 .. 149) -/
theorem cl_nI {x : Int32} (h : 0 ≤ x) : nI x.toNatClampNeg = x := by
  rw [ti_le] at h
  rw [ti_eq, nI_toInt (by have := ti_rng x; show x.toInt.toNat < _; have e0 : (0 : Int32).toInt = 0 := rfl; omega)]
  show ((x.toInt.toNat : Nat) : Int) = x.toInt
  have e0 : (0 : Int32).toInt = 0 := rfl
  omega
theorem vin_3 {x : Int32} : vp_in x 3 ↔ 0 ≤ x ∧ x < 3 := by rw [vp_in_iff, ti_le, ti_lt]; exact Iff.rfl
theorem vin_4 {x : Int32} : vp_in x 4 ↔ 0 ≤ x ∧ x < 4 := by rw [vp_in_iff, ti_le, ti_lt]; exact Iff.rfl
theorem vin_7 {x : Int32} : vp_in x 7 ↔ 0 ≤ x ∧ x < 7 := by rw [vp_in_iff, ti_le, ti_lt]; exact Iff.rfl
theorem vin_8 {x : Int32} : vp_in x 8 ↔ 0 ≤ x ∧ x < 8 := by rw [vp_in_iff, ti_le, ti_lt]; exact Iff.rfl
theorem vin_10 {x : Int32} : vp_in x 10 ↔ 0 ≤ x ∧ x < 10 := by rw [vp_in_iff, ti_le, ti_lt]; exact Iff.rfl
theorem vin_14 {x : Int32} : vp_in x 14 ↔ 0 ≤ x ∧ x < 14 := by rw [vp_in_iff, ti_le, ti_lt]; exact Iff.rfl
theorem vin_16 {x : Int32} : vp_in x 16 ↔ 0 ≤ x ∧ x < 16 := by rw [vp_in_iff, ti_le, ti_lt]; exact Iff.rfl
theorem vin_18 {x : Int32} : vp_in x 18 ↔ 0 ≤ x ∧ x < 18 := by rw [vp_in_iff, ti_le, ti_lt]; exact Iff.rfl
theorem vin_20 {x : Int32} : vp_in x 20 ↔ 0 ≤ x ∧ x < 20 := by rw [vp_in_iff, ti_le, ti_lt]; exact Iff.rfl
theorem vin_21 {x : Int32} : vp_in x 21 ↔ 0 ≤ x ∧ x < 21 := by rw [vp_in_iff, ti_le, ti_lt]; exact Iff.rfl
theorem vin_24 {x : Int32} : vp_in x 24 ↔ 0 ≤ x ∧ x < 24 := by rw [vp_in_iff, ti_le, ti_lt]; exact Iff.rfl
theorem vin_32 {x : Int32} : vp_in x 32 ↔ 0 ≤ x ∧ x < 32 := by rw [vp_in_iff, ti_le, ti_lt]; exact Iff.rfl
theorem vin_36 {x : Int32} : vp_in x 36 ↔ 0 ≤ x ∧ x < 36 := by rw [vp_in_iff, ti_le, ti_lt]; exact Iff.rfl
theorem vin_64 {x : Int32} : vp_in x 64 ↔ 0 ≤ x ∧ x < 64 := by rw [vp_in_iff, ti_le, ti_lt]; exact Iff.rfl
theorem vin_72 {x : Int32} : vp_in x 72 ↔ 0 ≤ x ∧ x < 72 := by rw [vp_in_iff, ti_le, ti_lt]; exact Iff.rfl
theorem vin_128 {x : Int32} : vp_in x 128 ↔ 0 ≤ x ∧ x < 128 := by rw [vp_in_iff, ti_le, ti_lt]; exact Iff.rfl
theorem vin_210 {x : Int32} : vp_in x 210 ↔ 0 ≤ x ∧ x < 210 := by rw [vp_in_iff, ti_le, ti_lt]; exact Iff.rfl
theorem vin_900 {x : Int32} : vp_in x 900 ↔ 0 ≤ x ∧ x < 900 := by rw [vp_in_iff, ti_le, ti_lt]; exact Iff.rfl
def inr (x a b : Int32) : Prop := a ≤ x ∧ x ≤ b
/-- row y of the board whose words are at cell w -/
def brow (h : AH) (w y : Nat) : Int32 := (lushr (gL h w (y / 4)) (iI (16 * (y % 4 : Nat)))).toInt32 &&& 65535
def TapeI (h : AH) : Prop := inr (gI h 2 2) 0 900 ∧ gI h 116 1 = gI h 2 2 ∧ ∀ x : Int32, 0 ≤ x → x < gI h 2 2 → gI h 3 x.toNatClampNeg = gI h 117 x.toNatClampNeg ∧ inr (gI h 3 x.toNatClampNeg) (-128) 127
def FaultI (h : AH) : Prop := gI h 1 4 = gI h 116 8 ∧ gI h 1 5 = gI h 116 9
def JobNum (j : Nat) (h : AH) : Prop :=
  gI h j 0 = gI h 116 20 ∧ (gI h j 1 = gI h 118 0 ∧ inr (gI h j 1) 10 200) ∧ (gI h j 2 = gI h 118 1 ∧ inr (gI h j 2) 10 200) ∧ (gI h j 3 = gI h 118 2 ∧ inr (gI h j 3) 0 8) ∧ (gI h j 6 = gI h 118 3 ∧ inr (gI h j 6) 0 9) ∧
  (gI h j 9 = gI h 118 4 ∧ inr (gI h j 9) 0 4) ∧ (gI h j 10 = gI h 118 5 ∧ inr (gI h j 10) 0 8) ∧ (gI h j 12 = gI h 118 6 ∧ inr (gI h j 12) 0 99) ∧ (gI h j 13 = gI h 118 7 ∧ inr (gI h j 13) 0 99) ∧ (gI h (j + 14) 0 = gI h 118 8 ∧ inr (gI h (j + 14) 0) 0 8)
def JobRow (j : Nat) (h : AH) : Prop :=
  (∀ x : Int32, 0 ≤ x → x < gI h j 3 → gI h (j + 1) x.toNatClampNeg = gI h 119 x.toNatClampNeg ∧ inr (gI h (j + 1) x.toNatClampNeg) 0 200 ∧ gI h (j + 2) x.toNatClampNeg = gI h 120 x.toNatClampNeg ∧ inr (gI h (j + 2) x.toNatClampNeg) 0 200) ∧
  (∀ x : Int32, 0 ≤ x → x < 4 → gI h (j + 3) x.toNatClampNeg = gI h 121 x.toNatClampNeg ∧ inr (gI h (j + 3) x.toNatClampNeg) 0 3) ∧
  (∀ i k w : Int32, 0 ≤ i → i < 4 → 0 ≤ k → k < gI h (j + 3) i.toNatClampNeg → 0 ≤ w → w < 3 → gI h (j + 4) (9 * i + 3 * k + w).toNatClampNeg = gI h 122 (9 * i + 3 * k + w).toNatClampNeg ∧ inr (gI h (j + 4) (9 * i + 3 * k + w).toNatClampNeg) (-20) 20) ∧
  (∀ x : Int32, 0 ≤ x → x < gI h (j + 14) 0 → gI h (j + 15) x.toNatClampNeg = gI h 124 x.toNatClampNeg ∧ inr (gI h (j + 15) x.toNatClampNeg) 1 30 ∧ gI h (j + 16) x.toNatClampNeg = gI h 125 x.toNatClampNeg ∧ inr (gI h (j + 16) x.toNatClampNeg) 1 30) ∧
  (∀ a b : Int32, 0 ≤ a → a < 4 → 0 ≤ b → b < 4 → (a ≠ b → gI h (j + 18) (4 * a + b).toNatClampNeg = gI h 126 (4 * a + b).toNatClampNeg ∧ inr (gI h (j + 18) (4 * a + b).toNatClampNeg) 0 100) ∧ (a = b → gI h 126 (4 * a + b).toNatClampNeg = -1))
def JobShape (j : Nat) (h : AH) : Prop := ∀ i y : Nat, i < 4 → y < 16 → brow h (j + 7 + 2 * i) y = gI h 123 (16 * i + y)
def JobI (j : Nat) (h : AH) : Prop := JobNum j h ∧ JobRow j h ∧ JobShape j h
def ReadI (j : Nat) (h : AH) : Prop := inr (gI h 42 0) 0 24 ∧ inr (gI h 42 1) 0 20 ∧ gI h 116 23 = gI h 42 0 ∧ gI h 116 24 = gI h 42 1 ∧ gI h 42 2 = gI h 116 25 ∧ inr (gI h 42 2) 0 999 ∧
  (∀ x : Int32, 0 ≤ x → x < gI h 42 0 → gI h 43 x.toNatClampNeg = gI h 127 x.toNatClampNeg ∧ gI h 44 x.toNatClampNeg = gI h 128 x.toNatClampNeg ∧ gI h 45 x.toNatClampNeg = gI h 129 x.toNatClampNeg ∧ gI h 46 x.toNatClampNeg = gI h 130 x.toNatClampNeg ∧ gI h 47 x.toNatClampNeg = gI h 131 x.toNatClampNeg ∧ inr (gI h 43 x.toNatClampNeg) 0 999 ∧ inr (gI h 44 x.toNatClampNeg) 0 3 ∧ (0 ≤ gI h 45 x.toNatClampNeg ∧ gI h 45 x.toNatClampNeg < gI h j 3) ∧ inr (gI h 46 x.toNatClampNeg) (-99) 99 ∧ inr (gI h 47 x.toNatClampNeg) (-99) 99) ∧
  (∀ x : Int32, 0 ≤ x → x < gI h 42 1 → gI h 48 x.toNatClampNeg = gI h 133 x.toNatClampNeg ∧ gI h 49 x.toNatClampNeg = gI h 132 x.toNatClampNeg ∧ gI h 50 x.toNatClampNeg = gI h 134 x.toNatClampNeg ∧ gI h 51 x.toNatClampNeg = gI h 135 x.toNatClampNeg ∧ (0 ≤ gI h 48 x.toNatClampNeg ∧ gI h 48 x.toNatClampNeg < gI h 42 0) ∧ inr (gI h 49 x.toNatClampNeg) 0 999 ∧ inr (gI h 50 x.toNatClampNeg) (-99) 99 ∧ inr (gI h 51 x.toNatClampNeg) (-99) 99)
def MendI (h : AH) : Prop := gI h 59 5 = gI h 116 43 ∧ inr (gI h 59 5) 0 3 ∧ ∀ x : Int32, 0 ≤ x → x < gI h 59 5 → gI h 61 x.toNatClampNeg = gI h 142 x.toNatClampNeg
def SpreadI (h : AH) : Prop := gI h 62 9 = gI h 116 48 ∧ (gI h 62 9 = 0 ∨ (gI h 62 9 = 1 ∧ gI h 62 10 = gI h 116 49 ∧ gI h 62 11 = gI h 116 50))
def ProofI (h : AH) : Prop := gI h 0 8 = gI h 116 51 ∧ (gI h 0 8 = 0 ∨ gI h 0 8 = 1) ∧ ∀ i y : Nat, i < 4 → y < 16 → brow h (73 + 2 * i) y = gI h 144 (16 * i + y)
def isum (f : Nat → Int32) : Nat → Int32
  | 0 => 0
  | n + 1 => isum f n + f n
def LayerI (h : AH) : Prop := inr (gI h 88 4) 0 20 ∧ gI h 116 55 = gI h 88 4 ∧ (∀ x : Int32, 0 ≤ x → x < gI h 88 4 → gI h 114 x.toNatClampNeg = gI h 147 x.toNatClampNeg) ∧ (0 < gI h 88 4 → gI h 88 6 = isum (gI h 147) (gI h 88 4).toNatClampNeg)
def Inv (j : Nat) (h : AH) : Prop := Wf h ∧ gF h 0 2 = j ∧ TapeI h ∧ FaultI h ∧ JobI j h ∧ ReadI j h ∧ MendI h ∧ SpreadI h ∧ ProofI h ∧ LayerI h
/-- a call on both sides: the answers are one, and the invariant holds behind it -/
def Pair (M N : MI) (as : List Value) (h : AH) : Prop :=
  Call M (.ref 0 :: as) h (fun v h1 => Call N (.ref 116 :: as) h1 (fun v2 h2 => v2 = v ∧ (∃ z : Int32, v = some (.int z)) ∧ ∃ j, Inv j h2))
def PairL (M N : MI) (as : List Value) (h : AH) : Prop :=
  Call M (.ref 0 :: as) h (fun v h1 => Call N (.ref 116 :: as) h1 (fun v2 h2 => v2 = v ∧ (∃ z : Int64, v = some (.long z)) ∧ ∃ j, Inv j h2))
theorem jcase {j : Nat} {h : AH} (w : Wf h) (hj : gF h 0 2 = j) : j = 4 ∨ j = 23 := by
  rcases w.2.2 with q | q
  · exact Or.inl (hj.symm.trans q.1)
  · exact Or.inr (hj.symm.trans q.1)
/-- h2 agrees with h in these rows -/
def Ag (h h2 : AH) (r : Nat) : Prop := gI h2 r = gI h r ∧ gL h2 r = gL h r
theorem Fr.ag {S : List Nat} {h h2 : AH} (a : Fr S h h2) {r : Nat} (hr : r ∉ S) : Ag h h2 r := a.2.2 r hr
theorem Ag.i {h h2 : AH} {r : Nat} (a : Ag h h2 r) (k : Nat) : gI h2 r k = gI h r k := congrFun a.1 k
theorem Ag.l {h h2 : AH} {r : Nat} (a : Ag h h2 r) (k : Nat) : gL h2 r k = gL h r k := congrFun a.2 k
theorem brow_ag {h h2 : AH} {w : Nat} (a : Ag h h2 w) (y : Nat) : brow h2 w y = brow h w y := by unfold brow; rw [a.2]
theorem TapeI.keep {h h2 : AH} (I : TapeI h) (a1 : gI h2 2 2 = gI h 2 2) (a3 : Ag h h2 3) (a4 : gI h2 116 1 = gI h 116 1) (a5 : Ag h h2 117) : TapeI h2 := by
  unfold TapeI
  rw [a1, a3.1, a4, a5.1]
  exact I
theorem FaultI.keep {h h2 : AH} (I : FaultI h) (a1 : gI h2 1 4 = gI h 1 4) (a2 : gI h2 1 5 = gI h 1 5) (a3 : gI h2 116 8 = gI h 116 8) (a4 : gI h2 116 9 = gI h 116 9) : FaultI h2 := by
  unfold FaultI
  rw [a1, a2, a3, a4]
  exact I
def jrows (j : Nat) : List Nat := [j, j + 1, j + 2, j + 3, j + 4, j + 7, j + 9, j + 11, j + 13, j + 14, j + 15, j + 16, j + 18, 118, 119, 120, 121, 122, 123, 124, 125, 126]
theorem JobI.keep {j : Nat} {h h2 : AH} (I : JobI j h) (a : ∀ r ∈ jrows j, Ag h h2 r) (a2 : gI h2 116 20 = gI h 116 20) : JobI j h2 := by
  have e0 := (a j (List.mem_of_getElem? (i := 0) rfl)).1
  have e1 := (a (j + 1) (List.mem_of_getElem? (i := 1) rfl)).1
  have e2 := (a (j + 2) (List.mem_of_getElem? (i := 2) rfl)).1
  have e3 := (a (j + 3) (List.mem_of_getElem? (i := 3) rfl)).1
  have e4 := (a (j + 4) (List.mem_of_getElem? (i := 4) rfl)).1
  have e9 := (a (j + 14) (List.mem_of_getElem? (i := 9) rfl)).1
  have e10 := (a (j + 15) (List.mem_of_getElem? (i := 10) rfl)).1
  have e11 := (a (j + 16) (List.mem_of_getElem? (i := 11) rfl)).1
  have e12 := (a (j + 18) (List.mem_of_getElem? (i := 12) rfl)).1
  have f0 := (a 118 (List.mem_of_getElem? (i := 13) rfl)).1
  have f1 := (a 119 (List.mem_of_getElem? (i := 14) rfl)).1
  have f2 := (a 120 (List.mem_of_getElem? (i := 15) rfl)).1
  have f3 := (a 121 (List.mem_of_getElem? (i := 16) rfl)).1
  have f4 := (a 122 (List.mem_of_getElem? (i := 17) rfl)).1
  have f5 := (a 123 (List.mem_of_getElem? (i := 18) rfl)).1
  have f6 := (a 124 (List.mem_of_getElem? (i := 19) rfl)).1
  have f7 := (a 125 (List.mem_of_getElem? (i := 20) rfl)).1
  have f8 := (a 126 (List.mem_of_getElem? (i := 21) rfl)).1
  refine ⟨?_, ?_, ?_⟩
  · unfold JobNum
    rw [e0, e9, f0, a2]
    exact I.1
  · unfold JobRow
    rw [e0, e1, e2, e3, e4, e9, e10, e11, e12, f1, f2, f3, f4, f6, f7, f8]
    exact I.2.1
  · intro i y hi hy
    have e5 : Ag h h2 (j + 7 + 2 * i) := a _ (by
      rcases (show i = 0 ∨ i = 1 ∨ i = 2 ∨ i = 3 by omega) with rfl | rfl | rfl | rfl <;> simp [jrows])
    rw [brow_ag e5, f5]
    exact I.2.2 i y hi hy
theorem ReadI.keep {j : Nat} {h h2 : AH} (I : ReadI j h) (a : ∀ r ∈ [42, 43, 44, 45, 46, 47, 48, 49, 50, 51, 127, 128, 129, 130, 131, 132, 133, 134, 135], Ag h h2 r) (a1 : gI h2 j 3 = gI h j 3) (b1 : gI h2 116 23 = gI h 116 23) (b2 : gI h2 116 24 = gI h 116 24) (b3 : gI h2 116 25 = gI h 116 25) : ReadI j h2 := by
  unfold ReadI
  rw [a1, b1, b2, b3, (a 42 (by decide)).1, (a 43 (by decide)).1, (a 44 (by decide)).1, (a 45 (by decide)).1, (a 46 (by decide)).1, (a 47 (by decide)).1, (a 48 (by decide)).1, (a 49 (by decide)).1, (a 50 (by decide)).1, (a 51 (by decide)).1, (a 127 (by decide)).1, (a 128 (by decide)).1, (a 129 (by decide)).1, (a 130 (by decide)).1, (a 131 (by decide)).1, (a 132 (by decide)).1, (a 133 (by decide)).1, (a 134 (by decide)).1, (a 135 (by decide)).1]
  exact I
theorem MendI.keep {h h2 : AH} (I : MendI h) (a1 : gI h2 59 5 = gI h 59 5) (a2 : Ag h h2 61) (a3 : gI h2 116 43 = gI h 116 43) (a4 : Ag h h2 142) : MendI h2 := by
  unfold MendI
  rw [a1, a2.1, a3, a4.1]
  exact I
theorem SpreadI.keep {h h2 : AH} (I : SpreadI h) (a1 : gI h2 62 9 = gI h 62 9) (a2 : gI h2 62 10 = gI h 62 10) (a3 : gI h2 62 11 = gI h 62 11) (b1 : gI h2 116 48 = gI h 116 48) (b2 : gI h2 116 49 = gI h 116 49) (b3 : gI h2 116 50 = gI h 116 50) : SpreadI h2 := by
  unfold SpreadI
  rw [a1, a2, a3, b1, b2, b3]
  exact I
theorem ProofI.keep {h h2 : AH} (I : ProofI h) (a1 : gI h2 0 8 = gI h 0 8) (a2 : gI h2 116 51 = gI h 116 51) (a3 : ∀ r ∈ [73, 75, 77, 79, 144], Ag h h2 r) : ProofI h2 := by
  unfold ProofI
  rw [a1, a2, (a3 144 (by decide)).1]
  refine ⟨I.1, I.2.1, fun i y hi hy => ?_⟩
  have e5 : Ag h h2 (73 + 2 * i) := a3 _ (by
    rcases (show i = 0 ∨ i = 1 ∨ i = 2 ∨ i = 3 by omega) with rfl | rfl | rfl | rfl <;> decide)
  rw [brow_ag e5]
  exact I.2.2 i y hi hy
theorem LayerI.keep {h h2 : AH} (I : LayerI h) (a1 : gI h2 88 4 = gI h 88 4) (a2 : gI h2 88 6 = gI h 88 6) (a3 : Ag h h2 114) (b1 : gI h2 116 55 = gI h 116 55) (b2 : Ag h h2 147) : LayerI h2 := by
  unfold LayerI
  rw [a1, a2, a3.1, b1, b2.1]
  exact I
