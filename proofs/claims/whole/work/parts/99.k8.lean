theorem key_rng {B : Nat → Int32} {n : Nat} {z : Int32} (K : kyf B n 14 0 z) : z = -1 ∨ ∃ q, q < 14 ∧ z = nI q := by
  rcases kyf_c K with ⟨q, _, q2, _, q4⟩ | ⟨q1, _⟩
  · exact Or.inr ⟨q, by omega, q4⟩
  · exact Or.inl q1
theorem nI_14 : ∀ q : Fin 14, ¬ nI q.val < 0 ∧ (¬ 3 < nI q.val ↔ q.val < 4) ∧ (¬ 4 ≤ nI q.val ↔ q.val < 4) := by decide +kernel
theorem m_ink {h : AH} {b : Nat → Int32} {L q : Nat} (X : MX h b L q) : ((gI h 116 3 = 1 ∧ (¬ gI h 116 4 < 0 ∧ ¬ 3 < gI h 116 4)) ↔ (¬ wrd b L 1 q < 0 ∧ ¬ 4 ≤ wrd b L 1 q)) ∧ ((¬ wrd b L 1 q < 0 ∧ ¬ 4 ≤ wrd b L 1 q) → gI h 116 4 = wrd b L 1 q) := by
  have A := X.2.2.2.2.2
  rw [A.2.1, (ms_2 b L q).2.2.2.1]
  by_cases h1 : tk b L q = 1
  · have K := A.2.2.2.2.1 h1
    have s4 : sln 1 / 8 = 4 := by decide
    rcases wrd_key (j := 1) (by decide) h1 K with ⟨c, c1, c2, c3⟩ | ⟨c1, c2⟩
    · have ek : kc 1 c = c := rfl
      rw [s4] at c1
      have T := nI_14 ⟨c, by omega⟩
      simp only at T
      rw [c2, c3, ek]
      exact ⟨⟨fun _ => ⟨T.1, T.2.2.2 c1⟩, fun _ => ⟨h1, T.1, T.2.1.2 c1⟩⟩, fun _ => rfl⟩
    · rw [c2]
      refine ⟨⟨fun a => ?_, fun a => absurd (by decide) a.1⟩, fun a => absurd (by decide) a.1⟩
      rcases key_rng K with e | ⟨r, r1, r2⟩
      · exact absurd (show gI h 116 4 < 0 by rw [e]; decide) a.2.1
      · have T := nI_14 ⟨r, r1⟩
        simp only at T
        have r4 : r < 4 := T.2.1.1 (by rw [← r2]; exact a.2.2)
        exact absurd r2 (c1 r (by rw [s4]; exact r4))
  · have e : wrd b L 1 q = -1 := by rw [wrd, if_neg h1]
    rw [e]
    exact ⟨⟨fun a => absurd a.1 h1, fun a => absurd (by decide) a.1⟩, fun a => absurd (by decide) a.1⟩
