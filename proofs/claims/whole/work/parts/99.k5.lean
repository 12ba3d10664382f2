theorem tk1 {b : Nat → Int32} {L p : Nat} (h : tk b L p = 1) : te b L p - ts b L p ≤ 8 ∧ ∀ i, i < te b L p - ts b L p → lett (b (ts b L p + i)) = true := by
  have h0 := h
  unfold tk at h
  by_cases a : ts b L p = L
  · rw [if_pos a] at h
    exact absurd h (by decide)
  · rw [if_neg a] at h
    by_cases c : lett (b (ts b L p)) = true
    · rw [if_pos c] at h
      by_cases e : 8 < te b L p - ts b L p
      · rw [if_pos e] at h
        exact absurd h (by decide)
      · refine ⟨by omega, fun i hi => ?_⟩
        have t : te b L p = rn lett b (L - ts b L p) (ts b L p) := by rw [te, if_neg a, if_pos c]
        exact rn_in (n := L - ts b L p) (p := ts b L p) (by omega) (by rw [← t]; omega)
    · rw [if_neg c] at h
      exfalso
      revert h
      repeat' split
      all_goals decide
theorem wrd_key {b : Nat → Int32} {L p j : Nat} (hj : j < 2) (h1 : tk b L p = 1) {z : Int32} (K : kyf (fun i => b (ts b L p + i)) (te b L p - ts b L p) 14 0 z) : (∃ c, c < sln j / 8 ∧ z = nI (kc j c) ∧ wrd b L j p = nI c) ∨ ((∀ c, c < sln j / 8 → z ≠ nI (kc j c)) ∧ wrd b L j p = -1) := by
  obtain ⟨n8, hl⟩ := tk1 h1
  have s10 : sln j / 8 ≤ 10 ∧ 8 * (sln j / 8) = sln j := by
    have : ∀ x : Fin 2, sln x.val / 8 ≤ 10 ∧ 8 * (sln x.val / 8) = sln x.val := by decide
    exact this ⟨j, hj⟩
  have sp : ∀ c, c < sln j / 8 → (spl b L j p c ↔ mt (fun i => b (ts b L p + i)) (te b L p - ts b L p) (kc j c)) := fun c hc => spl_mt hj (by omega) (by omega) n8 hl
  have k14 : ∀ c, c < sln j / 8 → kc j c < 14 := fun c hc => (kc_tab ⟨j, hj⟩ ⟨c, by omega⟩ (by show 8 * c < sln j; omega)).1
  have ew : wfi b L j p (sln j / 8) 0 (wrd b L j p) := by
    rw [wrd, if_pos h1]
    exact (wfi_ex b L j p (sln j / 8) 0).choose_spec
  rcases wfi_c ew with ⟨c, _, c2, c3, c4⟩ | ⟨c1, c2⟩
  · refine Or.inl ⟨c, by omega, ?_, c4⟩
    have m := (sp c (by omega)).1 c3
    rcases kyf_c K with ⟨q, _, q2, q3, q4⟩ | ⟨_, q2⟩
    · rw [q4, mt_uni (by omega) (k14 c (by omega)) q3 m]
    · exact absurd m (q2 _ (Nat.zero_le _) (by have := k14 c (by omega); omega))
  · refine Or.inr ⟨fun c hc e => ?_, c1⟩
    rcases kyf_c K with ⟨q, _, q2, q3, q4⟩ | ⟨q1, _⟩
    · have : q = kc j c := (nI_eq (by omega) (by have := k14 c hc; omega)).1 (q4.symm.trans e)
      rw [this] at q3
      exact c2 c (Nat.zero_le _) (by omega) ((sp c hc).2 q3)
    · exact nI_ne1 (o := kc j c) (by have := k14 c hc; omega) (e.symm.trans q1)
