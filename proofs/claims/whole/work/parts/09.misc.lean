section MRULES
variable {M : MI} {kc ks pc : Nat} {ls : List (Nat × Value)} {st : List Value} {h : AH} {P : Option Value → AH → Prop}
theorem R_topi {x : Int32} (k : ∀ y : Int32, y = x → Rr M kc ks pc ls (.int y :: st) h P) : Rr M kc ks pc ls (.int x :: st) h P := k x rfl
theorem R_topl {x : Int64} (k : ∀ y : Int64, y = x → Rr M kc ks pc ls (.long y :: st) h P) : Rr M kc ks pc ls (.long x :: st) h P := k x rfl
end MRULES
theorem nb_n {x : Int32} (h : x = 0 ∨ x = 1) : narrow .boolean (.int x) = .int x := by rcases h with rfl | rfl <;> rfl
theorem nb_f {x : Int32} (h : x = 0 ∨ x = 1) : fits .boolean (.int x) = true := by rcases h with rfl | rfl <;> rfl
def bi (p : Prop) [Decidable p] : Int32 := if p then 1 else 0
theorem bi_01 (p : Prop) [Decidable p] : bi p = 0 ∨ bi p = 1 := by
  unfold bi
  by_cases h : p
  · right; rw [if_pos h]
  · left; rw [if_neg h]
theorem bi_0 {p : Prop} [Decidable p] : bi p = 0 ↔ ¬ p := by
  unfold bi
  by_cases h : p
  · rw [if_pos h]; exact ⟨fun q => absurd q (by decide), fun q => absurd h q⟩
  · rw [if_neg h]; exact ⟨fun _ => h, fun _ => rfl⟩
theorem R_if_eq_b {M : MI} {kc ks pc : Nat} {ls : List (Nat × Value)} {st : List Value} {h : AH} {P : Option Value → AH → Prop} {p : Prop} [Decidable p] {off : Int} {tgt : Nat} (hd : decode M.2.1 pc = .ok (.ifCond .eq off, 3)) (ht : (pc : Int) + off = (tgt : Int)) (kt : ¬ p → Rr M kc ks tgt ls st h P) (kf : p → Rr M kc ks (pc + 3) ls st h P) : Rr M kc ks pc ls (.int (bi p) :: st) h P :=
  R_if_eq hd ht (fun q => kt (bi_0.mp q)) (fun q => kf (Classical.byContradiction fun z => q (bi_0.mpr z)))
theorem R_if_ne_b {M : MI} {kc ks pc : Nat} {ls : List (Nat × Value)} {st : List Value} {h : AH} {P : Option Value → AH → Prop} {p : Prop} [Decidable p] {off : Int} {tgt : Nat} (hd : decode M.2.1 pc = .ok (.ifCond .ne off, 3)) (ht : (pc : Int) + off = (tgt : Int)) (kt : p → Rr M kc ks tgt ls st h P) (kf : ¬ p → Rr M kc ks (pc + 3) ls st h P) : Rr M kc ks pc ls (.int (bi p) :: st) h P :=
  R_if_ne hd ht (fun q => kt (Classical.byContradiction fun z => q (bi_0.mpr z))) (fun q => kf (bi_0.mp q))
