/-! JOB: the pure reading, mirror of the class. A state is (fault, place, position of the token that was read last). -/
abbrev JS := Int32 × Int32 × Nat
def jnx (b : Nat → Int32) (L : Nat) (s : JS) : JS := (s.1, s.2.1, te b L s.2.2)
def jrf (b : Nat → Int32) (L : Nat) (k : Int32) (s : JS) : JS := if s.1 = 0 then (k, nI (ts b L s.2.2), s.2.2) else s
def jnh (b : Nat → Int32) (L : Nat) (lo hi : Int32) (s : JS) : Int32 × JS := if tk b L s.2.2 = 2 then (if val b L s.2.2 < lo then (lo, jrf b L 2 s) else if val b L s.2.2 ≤ hi then (val b L s.2.2, s) else (lo, jrf b L 2 s)) else (lo, jrf b L 1 s)
def jnb (b : Nat → Int32) (L : Nat) (lo hi : Int32) (s : JS) : Int32 × JS := if s.1 = 0 then jnh b L lo hi (jnx b L s) else (lo, s)
def jsg (b : Nat → Int32) (L : Nat) (hi : Int32) (s : JS) : Int32 × JS := if s.1 = 0 then (if tk b L (te b L s.2.2) = 4 then (- (jnh b L 0 hi (jnx b L (jnx b L s))).1, (jnh b L 0 hi (jnx b L (jnx b L s))).2) else jnh b L 0 hi (jnx b L s)) else (0, s)
/-- letter i of the token at p, with blanks behind it -/
def ltr (b : Nat → Int32) (L p i : Nat) : Int32 := if te b L p ≤ ts b L p + i then 32 else b (ts b L p + i)
def spl (b : Nat → Int32) (L j p c : Nat) : Prop := ∀ i, i < 8 → sch j (8 * c + i) = ltr b L p i
def wfi (b : Nat → Int32) (L j p : Nat) : Nat → Nat → Int32 → Prop
  | 0, _, z => z = -1
  | m + 1, c, z => (spl b L j p c ∧ z = nI c) ∨ (¬ spl b L j p c ∧ wfi b L j p m (c + 1) z)
theorem wfi_fn {b : Nat → Int32} {L j p : Nat} : ∀ {m c : Nat} {z z2 : Int32}, wfi b L j p m c z → wfi b L j p m c z2 → z = z2
  | 0, _, _, _, a, e => a.trans e.symm
  | _ + 1, _, _, _, a, e => by
    rcases a with a | a <;> rcases e with e | e
    · exact a.2.trans e.2.symm
    · exact absurd a.1 e.1
    · exact absurd e.1 a.1
    · exact wfi_fn a.2 e.2
theorem wfi_ex (b : Nat → Int32) (L j p : Nat) : ∀ (m c : Nat), ∃ z, wfi b L j p m c z
  | 0, _ => ⟨-1, rfl⟩
  | m + 1, c => by
    by_cases hs : spl b L j p c
    · exact ⟨nI c, Or.inl ⟨hs, rfl⟩⟩
    · obtain ⟨z, hz⟩ := wfi_ex b L j p m (c + 1)
      exact ⟨z, Or.inr ⟨hs, hz⟩⟩
/-- which word of table j stands there: -1 if none -/
noncomputable def wrd (b : Nat → Int32) (L j p : Nat) : Int32 := if tk b L p = 1 then (wfi_ex b L j p (sln j / 8) 0).choose else -1
noncomputable def jnk (b : Nat → Int32) (L : Nat) (s : JS) : Int32 × JS := if s.1 = 0 then (if ¬ wrd b L 1 (te b L s.2.2) < 0 ∧ ¬ 4 ≤ wrd b L 1 (te b L s.2.2) then (wrd b L 1 (te b L s.2.2), jnx b L s) else (0, jrf b L 1 (jnx b L s))) else (0, s)
/-- the class is in that state -/
def CS (h : AH) (L : Nat) (s : JS) : Prop := gI h 1 4 = s.1 ∧ gI h 1 5 = s.2.1 ∧ At h L s.2.2 (gI h 3) ∧ s.2.2 ≤ L
theorem c4_ref {h : AH} {P : Option Value → AH → Prop} (w : Wf h) {L : Nat} {s : JS} (C : CS h L s) {x : Int32} (k : ∀ h3, Fr [1] h h3 → gI h3 1 1 = gI h 1 1 → gI h3 1 2 = gI h 1 2 → CS h3 L (jrf (gI h 3) L x s) → P none h3) : Call mX4_refuse [.ref 1, .int x] h P := by
  obtain ⟨c1, c2, c3, c4⟩ := C
  refine Call.ofR (by decide +kernel) (Nat.le_of_ble_eq_true rfl) (sX4_refuse_0 h 1 x ?_)
  rw [w.f1_0]
  refine ⟨w.o (by decide) rfl, fun e => ?_, fun e => ⟨w.o (by decide) rfl, ?_⟩⟩
  · refine k _ Fr.rf rfl rfl ?_
    rw [jrf, if_neg (by rw [← c1]; exact e)]
    exact ⟨c1, c2, c3, c4⟩
  · refine k _ ((Fr.sI (by decide)).tr (Fr.sI (by decide))) (by rfl) (by rfl) ?_
    rw [jrf, if_pos (by rw [← c1]; exact e)]
    exact ⟨rfl, c3.2.2.2.1, c3.ag rfl, c4⟩
