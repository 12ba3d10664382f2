/-! words: the class's tables against the reference's -/
def kc (j c : Nat) : Nat := if j = 0 then [4, 6, 8, 10, 11, 5, 7, 9, 12, 13].getD c 0 else c
theorem kc_tab : ∀ j : Fin 2, ∀ c : Fin 10, 8 * c.val < sln j.val → kc j.val c.val < 14 ∧ wln (kc j.val c.val) < 8 ∧ ∀ i : Fin 8, sch j.val (8 * c.val + i.val) = if i.val < wln (kc j.val c.val) then sch 2 (wo (kc j.val c.val) + i.val) else 32 := by decide +kernel
theorem w_uni : ∀ v w : Fin 14, v ≠ w → wln v.val ≠ wln w.val ∨ ∃ i : Fin 8, i.val < wln v.val ∧ sch 2 (wo v.val + i.val) ≠ sch 2 (wo w.val + i.val) := by decide +kernel
theorem mt_uni {B : Nat → Int32} {n v w : Nat} (hv : v < 14) (hw : w < 14) (a : mt B n v) (b : mt B n w) : v = w := by
  rcases Nat.decEq v w with h | h
  · rcases w_uni ⟨v, hv⟩ ⟨w, hw⟩ (fun q => h (Fin.mk.inj q)) with q | ⟨i, q1, q2⟩
    · exact absurd (a.1.symm.trans b.1) q
    · exact absurd ((a.2 i.val (a.1 ▸ q1)).trans (b.2 i.val (a.1 ▸ q1)).symm) q2
  · exact h
theorem kyf_c {B : Nat → Int32} {n : Nat} : ∀ {m v : Nat} {z : Int32}, kyf B n m v z → (∃ q, v ≤ q ∧ q < v + m ∧ mt B n q ∧ z = nI q) ∨ (z = -1 ∧ ∀ q, v ≤ q → q < v + m → ¬ mt B n q)
  | 0, v, z, h => Or.inr ⟨h, fun q a b => by omega⟩
  | m + 1, v, z, h => by
    rcases h with ⟨a, b⟩ | ⟨a, b⟩
    · exact Or.inl ⟨v, Nat.le_refl _, by omega, a, b⟩
    · rcases kyf_c b with ⟨q, c1, c2, c3, c4⟩ | ⟨c1, c2⟩
      · exact Or.inl ⟨q, by omega, by omega, c3, c4⟩
      · refine Or.inr ⟨c1, fun q d1 d2 => ?_⟩
        rcases Nat.decEq q v with e | e
        · exact c2 q (by omega) (by omega)
        · subst e
          exact a
theorem wfi_c {b : Nat → Int32} {L j p : Nat} : ∀ {m c : Nat} {z : Int32}, wfi b L j p m c z → (∃ q, c ≤ q ∧ q < c + m ∧ spl b L j p q ∧ z = nI q) ∨ (z = -1 ∧ ∀ q, c ≤ q → q < c + m → ¬ spl b L j p q)
  | 0, v, z, h => Or.inr ⟨h, fun q a b => by omega⟩
  | m + 1, v, z, h => by
    rcases h with ⟨a, b⟩ | ⟨a, b⟩
    · exact Or.inl ⟨v, Nat.le_refl _, by omega, a, b⟩
    · rcases wfi_c b with ⟨q, c1, c2, c3, c4⟩ | ⟨c1, c2⟩
      · exact Or.inl ⟨q, by omega, by omega, c3, c4⟩
      · refine Or.inr ⟨c1, fun q d1 d2 => ?_⟩
        rcases Nat.decEq q v with e | e
        · exact c2 q (by omega) (by omega)
        · subst e
          exact a
theorem spl_mt {b : Nat → Int32} {L j p c : Nat} (hj : j < 2) (hc : 8 * c < sln j) (c10 : c < 10) (n8 : te b L p - ts b L p ≤ 8) (hl : ∀ i, i < te b L p - ts b L p → lett (b (ts b L p + i)) = true) : spl b L j p c ↔ mt (fun i => b (ts b L p + i)) (te b L p - ts b L p) (kc j c) := by
  obtain ⟨k14, w8, T⟩ := kc_tab ⟨j, hj⟩ ⟨c, c10⟩ hc
  simp only at k14 w8 T
  have W := (w_tab ⟨kc j c, k14⟩).1
  simp only at W
  have l32 : ∀ i, i < te b L p - ts b L p → b (ts b L p + i) ≠ 32 := fun i hi q => by
    have := hl i hi
    rw [q] at this
    exact absurd this (by decide)
  have t : ∀ i, i < 8 → sch j (8 * c + i) = if i < wln (kc j c) then sch 2 (wo (kc j c) + i) else 32 := fun i hi => T ⟨i, hi⟩
  have g : ∀ i, ltr b L p i = if i < te b L p - ts b L p then b (ts b L p + i) else 32 := fun i => by
    rw [ltr]
    by_cases q : te b L p ≤ ts b L p + i
    · rw [if_pos q, if_neg (by omega)]
    · rw [if_neg q, if_pos (by omega)]
  generalize te b L p - ts b L p = n at *
  constructor
  · intro S
    have en : n = wln (kc j c) := by
      rcases Nat.lt_trichotomy n (wln (kc j c)) with q | q | q
      · have := S n (by omega)
        rw [t n (by omega), if_pos q, g n, if_neg (by omega)] at this
        exact absurd this (W ⟨n, by omega⟩ q).1
      · exact q
      · have := S (wln (kc j c)) w8
        rw [t _ w8, if_neg (by omega), g, if_pos q] at this
        exact absurd this.symm (l32 _ q)
    refine ⟨en, fun i hi => ?_⟩
    have := S i (by omega)
    rw [t i (by omega), if_pos (by omega), g i, if_pos hi] at this
    exact this
  · intro M i hi
    rw [t i hi, g i]
    by_cases q : i < n
    · rw [if_pos (by rw [← M.1]; exact q), if_pos q]
      exact M.2 i q
    · rw [if_neg (by rw [← M.1]; exact q), if_neg q]
