/-- rows of a row: its cells n + 1 .. -/
def nwm (h : AH) (n : Nat) : Nat → AH
  | 0 => nw h n
  | j + 1 => sF (nw (nwm h n j) (n + 1 + j)) n j (n + 1 + j)
def MK (n : Nat) : Prop := ∀ j, j < 21 → kd (n + 1 + j) = 100 ∧ ln (n + 1 + j) = 10
theorem sh_multi : MK 92 := by
  have t : ∀ j : Fin 21, kd (92 + 1 + j.val) = 100 ∧ ln (92 + 1 + j.val) = 10 := by decide +kernel
  exact fun j hj => t ⟨j, hj⟩
theorem R_multi {M : MI} {kc ks pc : Nat} {ls : List (Nat × Value)} {st : List Value} {h : AH} {P : Option Value → AH → Prop} {i n kc2 ks2 : Nat} (hd : decode M.2.1 pc = .ok (.multianewarray i 2, 4)) (hw : Cond.classLink M.1.cls i "[[I" ∈ TBG) (hn : h.1 = n) (hk : kd n = 104) (hl : ln n = 21) (hm : MK n) (hkc : 22 + kc2 = kc) (hks : 231 + ks2 = ks) (kk : Rr M kc2 ks2 (pc + 4) ls (.ref n :: st) (nwm h n 21) P) : Rr M kc ks pc ls (.int 10 :: .int 21 :: st) h P := sorry
