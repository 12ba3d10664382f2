/-! TEXTS -/
def sln (j : Nat) : Nat := [80, 32, 78].getD j 0
def sch (j k : Nat) : Int32 := (strBL.getD j []).getD k 0
theorem c_len {h : AH} {P : Option Value → AH → Prop} {j : Nat} (hj : j < 3) (k : P (some (.int (nI (sln j)))) h) : Call mJ0_length_8abf5 [.ref (1000 + j)] h P := sorry
theorem c_chr {h : AH} {P : Option Value → AH → Prop} {j k : Nat} (hj : j < 3) (hk : k < sln j) (kk : P (some (.int (sch j k))) h) : Call mJ0_charAt_5068e [.ref (1000 + j), .int (nI k)] h P := sorry
