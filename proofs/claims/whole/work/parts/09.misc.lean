section MRULES
variable {M : MI} {kc ks pc : Nat} {ls : List (Nat × Value)} {st : List Value} {h : AH} {P : Option Value → AH → Prop}
theorem R_topi {x : Int32} (k : ∀ y : Int32, y = x → Rr M kc ks pc ls (.int y :: st) h P) : Rr M kc ks pc ls (.int x :: st) h P := k x rfl
theorem R_topl {x : Int64} (k : ∀ y : Int64, y = x → Rr M kc ks pc ls (.long y :: st) h P) : Rr M kc ks pc ls (.long x :: st) h P := k x rfl
end MRULES
theorem nb_n {x : Int32} (h : x = 0 ∨ x = 1) : narrow .boolean (.int x) = .int x := by rcases h with rfl | rfl <;> rfl
theorem nb_f {x : Int32} (h : x = 0 ∨ x = 1) : fits .boolean (.int x) = true := by rcases h with rfl | rfl <;> rfl
