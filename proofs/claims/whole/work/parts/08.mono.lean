theorem Call.mono {N : MI} {as : List Value} {h : AH} {P P2 : Option Value → AH → Prop} (hc : Call N as h P) (hm : ∀ v h2, P v h2 → P2 v h2) : Call N as h P2 := by
  intro l G
  refine MetFree.mono (hc l G) (fun _ _ q => q) (fun _ _ _ _ _ q => q) ?_
  intro a s o t _ q
  obtain ⟨⟨⟨v, h2, h3, h4, h5⟩, h6⟩, h7⟩ := q
  exact ⟨⟨⟨v, h2, h3, hm v h2 h4, h5⟩, h6⟩, h7⟩
theorem Rr.mono {M : MI} {kc ks pc : Nat} {ls : List (Nat × Value)} {st : List Value} {h : AH} {P P2 : Option Value → AH → Prop} (hc : Rr M kc ks pc ls st h P) (hm : ∀ v h2, P v h2 → P2 v h2) : Rr M kc ks pc ls st h P2 :=
  fun G p l e Rm s m args below meth c H locs cells slots Q la X hp h1 h2 hr hl => hc G p l e Rm s m args below meth c H locs cells slots Q la X hp h1 h2 (fun v h9 H2 locs2 la2 pc2 hv => hr v h9 H2 locs2 la2 pc2 (hm v h9 hv)) hl
