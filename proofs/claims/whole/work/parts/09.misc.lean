section MRULES
variable {M : MI} {kc ks pc : Nat} {ls : List (Nat × Value)} {st : List Value} {h : AH} {P : Option Value → AH → Prop}
theorem R_topi {x : Int32} (k : ∀ y : Int32, y = x → Rr M kc ks pc ls (.int y :: st) h P) : Rr M kc ks pc ls (.int x :: st) h P := k x rfl
theorem R_topl {x : Int64} (k : ∀ y : Int64, y = x → Rr M kc ks pc ls (.long y :: st) h P) : Rr M kc ks pc ls (.long x :: st) h P := k x rfl
end MRULES
theorem nb_n {x : Int32} (h : x = 0 ∨ x = 1) : narrow .boolean (.int x) = .int x := by rcases h with rfl | rfl <;> rfl
theorem nb_f {x : Int32} (h : x = 0 ∨ x = 1) : fits .boolean (.int x) = true := by rcases h with rfl | rfl <;> rfl
def bi (p : Prop) [Decidable p] : Int32 := if p then 1 else 0
theorem bi_01 (p : Prop) [Decidable p] : bi p = 0 ∨ bi p = 1 := by
  unfold bi
  by_cases h : p
  · right; rw [if_pos h]
  · left; rw [if_neg h]
theorem bi_0 {p : Prop} [Decidable p] : bi p = 0 ↔ ¬ p := by
  unfold bi
  by_cases h : p
  · rw [if_pos h]; exact ⟨fun q => absurd q (by decide), fun q => absurd h q⟩
  · rw [if_neg h]; exact ⟨fun _ => h, fun _ => rfl⟩
theorem R_if_eq_b {M : MI} {kc ks pc : Nat} {ls : List (Nat × Value)} {st : List Value} {h : AH} {P : Option Value → AH → Prop} {p : Prop} [Decidable p] {off : Int} {tgt : Nat} (hd : decode M.2.1 pc = .ok (.ifCond .eq off, 3)) (ht : (pc : Int) + off = (tgt : Int)) (kt : ¬ p → Rr M kc ks tgt ls st h P) (kf : p → Rr M kc ks (pc + 3) ls st h P) : Rr M kc ks pc ls (.int (bi p) :: st) h P :=
  R_if_eq hd ht (fun q => kt (bi_0.mp q)) (fun q => kf (Classical.byContradiction fun z => q (bi_0.mpr z)))
theorem R_if_ne_b {M : MI} {kc ks pc : Nat} {ls : List (Nat × Value)} {st : List Value} {h : AH} {P : Option Value → AH → Prop} {p : Prop} [Decidable p] {off : Int} {tgt : Nat} (hd : decode M.2.1 pc = .ok (.ifCond .ne off, 3)) (ht : (pc : Int) + off = (tgt : Int)) (kt : p → Rr M kc ks tgt ls st h P) (kf : ¬ p → Rr M kc ks (pc + 3) ls st h P) : Rr M kc ks pc ls (.int (bi p) :: st) h P :=
  R_if_ne hd ht (fun q => kt (Classical.byContradiction fun z => q (bi_0.mpr z))) (fun q => kf (bi_0.mp q))
theorem R_eqI {M : MI} {kc ks pc : Nat} {ls : List (Nat × Value)} {st : List Value} {h : AH} {P : Option Value → AH → Prop} {x y : Int32} (e : x = y) (k : Rr M kc ks pc ls (.int y :: st) h P) : Rr M kc ks pc ls (.int x :: st) h P := e ▸ k
theorem R_eqL {M : MI} {kc ks pc : Nat} {ls : List (Nat × Value)} {st : List Value} {h : AH} {P : Option Value → AH → Prop} {x y : Int64} (e : x = y) (k : Rr M kc ks pc ls (.long y :: st) h P) : Rr M kc ks pc ls (.long x :: st) h P := e ▸ k
theorem rd_r {h : AH} {r k r2 k2 : Nat} {x : Int32} (hr : r2 ≠ r) : gI (sI h r k x) r2 k2 = gI h r2 k2 := if_neg (fun q => hr q.1)
theorem rd_k {h : AH} {r k k2 : Nat} {x : Int32} (hk : k2 ≠ k) : gI (sI h r k x) r k2 = gI h r k2 := if_neg (fun q => hk q.2)
theorem rd_h {h : AH} {r k : Nat} {x : Int32} : gI (sI h r k x) r k = x := if_pos ⟨rfl, rfl⟩
theorem rd_L {h : AH} {r k r2 k2 : Nat} {x : Int64} : gI (sL h r k x) r2 k2 = gI h r2 k2 := rfl
theorem rd_F {h : AH} {r k r2 k2 x : Nat} : gI (sF h r k x) r2 k2 = gI h r2 k2 := rfl
theorem ld_r {h : AH} {r k r2 k2 : Nat} {x : Int64} (hr : r2 ≠ r) : gL (sL h r k x) r2 k2 = gL h r2 k2 := if_neg (fun q => hr q.1)
theorem ld_k {h : AH} {r k k2 : Nat} {x : Int64} (hk : k2 ≠ k) : gL (sL h r k x) r k2 = gL h r k2 := if_neg (fun q => hk q.2)
theorem ld_h {h : AH} {r k : Nat} {x : Int64} : gL (sL h r k x) r k = x := if_pos ⟨rfl, rfl⟩
theorem ld_I {h : AH} {r k r2 k2 : Nat} {x : Int32} : gL (sI h r k x) r2 k2 = gL h r2 k2 := rfl
theorem ld_F {h : AH} {r k r2 k2 x : Nat} : gL (sF h r k x) r2 k2 = gL h r2 k2 := rfl
theorem ne_oa {h h2 : AH} {ci t r r2 : Nat} (o : isO h ci r) (a : isA h2 t r2) (hc : ci < 100) : r ≠ r2 := fun e => by
  have h1 := o.2
  have h3 := a.2
  rw [← e, h1] at h3
  omega
theorem ne_ao {h h2 : AH} {ci t r r2 : Nat} (a : isA h t r) (o : isO h2 ci r2) (hc : ci < 100) : r ≠ r2 := fun e => ne_oa o a hc e.symm
theorem ne_oo {h h2 : AH} {ci cj r r2 : Nat} (o : isO h ci r) (o2 : isO h2 cj r2) (hc : ci ≠ cj) : r ≠ r2 := fun e => hc (by rw [← o.2, e, o2.2])
theorem ne_aa {h h2 : AH} {t u r r2 : Nat} (o : isA h t r) (o2 : isA h2 u r2) (hc : t ≠ u) : r ≠ r2 := fun e => by
  have h1 := o.2
  have h3 := o2.2
  rw [← e, h1] at h3
  omega
theorem R_eqF {M : MI} {kc ks pc : Nat} {ls : List (Nat × Value)} {st : List Value} {h : AH} {P : Option Value → AH → Prop} {x y : Nat} (e : x = y) (k : Rr M kc ks pc ls (.ref y :: st) h P) : Rr M kc ks pc ls (.ref x :: st) h P := e ▸ k
