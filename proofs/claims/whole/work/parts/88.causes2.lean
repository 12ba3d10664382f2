def lohi (f : Nat → Int32) (a : Nat) : Nat → Int32 × Int32
  | 0 => (f a, f a)
  | m + 1 => (imin (lohi f a m).1 (f (a + m + 1)), imax (lohi f a m).2 (f (a + m + 1)))
theorem lohi_c {f g : Nat → Int32} {a : Nat} : ∀ {m : Nat}, (∀ k, a ≤ k → k ≤ a + m → f k = g k) → lohi f a m = lohi g a m
  | 0, e => by
    show (f a, f a) = (g a, g a)
    rw [e a (Nat.le_refl a) (Nat.le_add_right a 0)]
  | m + 1, e => by
    show (imin (lohi f a m).1 (f (a + m + 1)), imax (lohi f a m).2 (f (a + m + 1))) = (imin (lohi g a m).1 (g (a + m + 1)), imax (lohi g a m).2 (g (a + m + 1)))
    rw [lohi_c (fun k h1 h2 => e k h1 (by omega)), e (a + m + 1) (by omega) (by omega)]
/-- how broad the numbers from a to ahead of b lie, less so many steps -/
def brd (r : Nat → Int32) (st : Int32) (a b : Nat) : Int32 := (lohi (fun k => r k - nI k * st) a (b - a - 1)).2 - (lohi (fun k => r k - nI k * st) a (b - a - 1)).1
theorem brd_c {r r2 : Nat → Int32} {st : Int32} {a b : Nat} (hab : a < b) (e : ∀ k, k < b → r k = r2 k) : brd r st a b = brd r2 st a b := by
  unfold brd
  rw [lohi_c (g := fun k => r2 k - nI k * st) (fun k h1 h2 => by show r k - nI k * st = r2 k - nI k * st; rw [e k (by omega)])]
theorem c11_brd {h : AH} {P : Option Value → AH → Prop} (w : Wf h) {a b : Nat} (hab : a < b) (b24 : b ≤ 24) {st : Int32} (k : P (some (.int (brd (gI h 84) st a b))) h) : Call mX11_breadthOf [.ref 0, .int (nI a), .int (nI b), .int st] h P := by
  have o : isO h 11 0 := w.o (by decide) rfl
  have aa : isA h 0 84 := w.a (by decide) rfl
  have lp : ∀ (n m : Nat), a + m + 1 + n = b → Rr mX11_breadthOf 0 0 41 [(0, .ref 0), (2, .int (nI b)), (3, .int st), (4, .int (lohi (fun k => gI h 84 k - nI k * st) a m).1), (5, .int (lohi (fun k => gI h 84 k - nI k * st) a m).2), (6, .int (nI (a + m + 1)))] [] h P := by
    intro n
    induction n with
    | zero =>
      intro m hm
      refine sX11_breadthOf_41 h 0 _ _ _ _ _ ⟨fun _ => ?_, fun q => absurd ?_ q⟩
      · have e : m = b - a - 1 := by omega
        rw [e]
        exact k
      · rw [show a + m + 1 = b by omega]
        exact Int32.le_refl _
    | succ n ih =>
      intro m hm
      refine sX11_breadthOf_41 h 0 _ _ _ _ _ ⟨fun q => absurd q ?_, fun _ => ?_⟩
      · rw [nI_leI (by omega) (by omega)]
        omega
      rw [w.f0_11, nI_clamp (by omega), nI_1]
      exact ⟨o, aa, vp_in_nI (show a + m + 1 < 24 by omega) (by decide), ih (m + 1) (by omega)⟩
  refine Call.ofR (by decide +kernel) (Nat.le_of_ble_eq_true rfl) (sX11_breadthOf_0 h 0 _ _ _ ⟨fun q => absurd q (nI_pos (by omega)), fun _ => ⟨fun q => absurd q ?_, fun _ => ⟨o, ?_⟩⟩⟩)
  · rw [nI_leI (by omega) (by omega)]
    omega
  rw [w.f0_11, nI_clamp (by omega), nI_1]
  refine ⟨aa, fun _ => ⟨vp_in_nI (show a < 24 by omega) (by decide), lp (b - a - 1) 0 (by omega)⟩, fun q => absurd ?_ q⟩
  show nI b ≤ nI 24
  rw [nI_leI (by omega) (by decide)]
  exact b24
theorem c12_lev {h : AH} {P : Option Value → AH → Prop} (w : Wf h) {a b : Nat} (hab : a < b) (b24 : b ≤ 24) {st e : Int32} (k : P (some (.int (bi (¬ (2 * e) < brd (gI h 145) st a b)))) h) : Call mX12_isLevel [.ref 116, .int (nI a), .int (nI b), .int st, .int e] h P := by
  have o : isO h 12 116 := w.o (by decide) rfl
  have aa : isA h 0 145 := w.a (by decide) rfl
  have lp : ∀ (n m : Nat), a + m + 1 + n = b → Rr mX12_isLevel 0 0 9 [(0, .ref 116), (1, .int (nI a)), (2, .int (nI b)), (3, .int st), (4, .int e), (5, .int (lohi (fun k => gI h 145 k - nI k * st) a m).1), (6, .int (lohi (fun k => gI h 145 k - nI k * st) a m).2), (7, .int (nI (a + m + 1)))] [] h P := by
    intro n
    induction n with
    | zero =>
      intro m hm
      refine sX12_isLevel_9 h 116 _ _ _ _ _ _ _ ⟨fun _ => ?_, fun q => absurd ?_ q⟩
      · have e : m = b - a - 1 := by omega
        rw [e]
        exact k
      · rw [show a + m + 1 = b by omega]
        exact Int32.le_refl _
    | succ n ih =>
      intro m hm
      refine sX12_isLevel_9 h 116 _ _ _ _ _ _ _ ⟨fun q => absurd q ?_, fun _ => ?_⟩
      · rw [nI_leI (by omega) (by omega)]
        omega
      have ne : ¬ nI (a + m + 1) = nI a := by
        rw [nI_eq (by omega) (by omega)]
        omega
      simp only [w.f116_53, nI_clamp (show a + m + 1 < 2 ^ 31 by omega), nI_1, if_neg ne]
      refine ⟨o, aa, vp_in_nI (show a + m + 1 < 24 by omega) (by decide), fun z8 h8 z11 h11 => ?_⟩
      rw [← imin_le] at h8
      rw [← imax_le] at h11
      rw [h8, h11]
      exact ih (m + 1) (by omega)
  refine Call.ofR (by decide +kernel) (Nat.le_of_ble_eq_true rfl) (sX12_isLevel_0 h 116 _ _ _ _ ?_)
  refine sX12_isLevel_9 h 116 _ _ _ _ _ _ _ ⟨fun q => absurd q ?_, fun _ => ?_⟩
  · rw [nI_leI (by omega) (by omega)]
    omega
  simp only [w.f116_53, nI_clamp (show a < 2 ^ 31 by omega), nI_1, if_pos]
  refine ⟨o, aa, vp_in_nI (show a < 24 by omega) (by decide), fun z8 h8 z11 h11 => ?_⟩
  rw [h8, h11]
  exact lp (b - a - 1) 0 (by omega)
/-- a jump; a drift -/
def jmp (r : Nat → Int32) (br : Int32) (n k : Nat) : Prop := ¬ br < brd r 0 0 k ∧ ¬ br < brd r 0 k n
def dft (r : Nat → Int32) (br : Int32) (n i : Nat) : Prop := ¬ nI i - 50 = 0 ∧ ¬ br < brd r (nI i - 50) 0 n
theorem c11_jump {h : AH} {P : Option Value → AH → Prop} (w : Wf h) {n : Nat} (n24 : n ≤ 24) {br : Int32} (k1 : (∃ k, 1 ≤ k ∧ k < n ∧ jmp (gI h 84) br n k) → P (some (.int 1)) h) (k0 : (¬ ∃ k, 1 ≤ k ∧ k < n ∧ jmp (gI h 84) br n k) → P (some (.int 0)) h) : Call mX11_isJump [.ref 0, .int (nI n), .int br] h P := by
  have o : isO h 11 0 := w.o (by decide) rfl
  have lp : ∀ (m k : Nat), (n ≤ k ∨ k + m = n) → 1 ≤ k → k ≤ 25 → (∀ q, 1 ≤ q → q < k → ¬ jmp (gI h 84) br n q) → Rr mX11_isJump 0 0 2 [(0, .ref 0), (1, .int (nI n)), (2, .int br), (3, .int (nI k))] [] h P := by
    intro m
    induction m with
    | zero =>
      intro k hk h1 h25 g
      refine sX11_isJump_2 h 0 _ _ _ ⟨fun _ => k0 (fun ⟨q, q1, q2, q3⟩ => g q q1 (by omega) q3), fun q => absurd ?_ q⟩
      rw [nI_leI (by omega) (by omega)]
      omega
    | succ m ih =>
      intro k hk h1 h25 g
      by_cases c : n ≤ k
      · refine sX11_isJump_2 h 0 _ _ _ ⟨fun _ => k0 (fun ⟨q, q1, q2, q3⟩ => g q q1 (by omega) q3), fun q => absurd ?_ q⟩
        rw [nI_leI (by omega) (by omega)]
        exact c
      have nx : ¬ jmp (gI h 84) br n k → Rr mX11_isJump 0 0 2 [(0, .ref 0), (1, .int (nI n)), (2, .int br), (3, .int (nI k + 1))] [] h P := fun z => by
        rw [nI_1]
        refine ih (k + 1) (by omega) (by omega) (by omega) (fun q q1 q2 => ?_)
        by_cases e : q = k
        · rw [e]; exact z
        · exact g q q1 (by omega)
      refine sX11_isJump_2 h 0 _ _ _ ⟨fun q => absurd q ?_, fun _ => ⟨o, ?_⟩⟩
      · rw [nI_leI (by omega) (by omega)]
        exact c
      refine c11_brd (a := 0) w (by omega) (by omega) ⟨_, rfl, fun q => nx (fun z => z.1 q), fun q => ⟨o, ?_⟩⟩
      exact c11_brd w (by omega) n24 ⟨_, rfl, fun q2 => nx (fun z => z.2 q2), fun q2 => k1 ⟨k, h1, by omega, q, q2⟩⟩
  refine Call.ofR (by decide +kernel) (Nat.le_of_ble_eq_true rfl) (sX11_isJump_0 h 0 _ _ (lp (n - 1) 1 (by omega) (Nat.le_refl 1) (by decide) (fun q h1 h2 => absurd h2 (by omega))))
theorem d101 : ∀ i : Fin 102, (50 < nI i - 50 ↔ i.val = 101) ∧ (51 ≤ nI i - 50 ↔ i.val = 101) ∧ (nI i - 50 + 1 = nI (i.val + 1) - 50) := by decide +kernel
theorem c11_drift {h : AH} {P : Option Value → AH → Prop} (w : Wf h) {n : Nat} (n0 : 0 < n) (n24 : n ≤ 24) {br : Int32} (k1 : (∃ i, i < 101 ∧ dft (gI h 84) br n i) → P (some (.int 1)) h) (k0 : (¬ ∃ i, i < 101 ∧ dft (gI h 84) br n i) → P (some (.int 0)) h) : Call mX11_isDrift [.ref 0, .int (nI n), .int br] h P := by
  have o : isO h 11 0 := w.o (by decide) rfl
  have lp : ∀ (m i : Nat), i + m = 101 → (∀ q, q < i → ¬ dft (gI h 84) br n q) → Rr mX11_isDrift 0 0 3 [(0, .ref 0), (1, .int (nI n)), (2, .int br), (3, .int (nI i - 50))] [] h P := by
    intro m
    induction m with
    | zero =>
      intro i hi g
      refine sX11_isDrift_3 h 0 _ _ _ ⟨fun _ => k0 (fun ⟨q, q1, q2⟩ => g q (by omega) q2), fun q => absurd ?_ q⟩
      exact (d101 ⟨i, by omega⟩).1.mpr (by show i = 101; omega)
    | succ m ih =>
      intro i hi g
      obtain ⟨d1, -, d3⟩ := d101 ⟨i, by omega⟩
      simp only at d1 d3
      have nx : ¬ dft (gI h 84) br n i → Rr mX11_isDrift 0 0 3 [(0, .ref 0), (1, .int (nI n)), (2, .int br), (3, .int (nI i - 50 + 1))] [] h P := fun z => by
        rw [d3]
        refine ih (i + 1) (by omega) (fun q hq => ?_)
        by_cases e : q = i
        · rw [e]; exact z
        · exact g q (by omega)
      refine sX11_isDrift_3 h 0 _ _ _ ⟨fun q => ?_, fun _ => ⟨fun q => nx (fun z => z.1 q), fun q => ⟨o, ?_⟩⟩⟩
      · have := d1.mp q
        omega
      exact c11_brd (a := 0) w n0 n24 ⟨_, rfl, fun q2 => nx (fun z => z.2 q2), fun q2 => k1 ⟨i, by omega, q, q2⟩⟩
  exact Call.ofR (by decide +kernel) (Nat.le_of_ble_eq_true rfl) (sX11_isDrift_0 h 0 _ _ (lp 101 0 rfl (fun q hq => absurd hq (Nat.not_lt_zero q))))
theorem m191 {h : AH} {P : Option Value → AH → Prop} (w : Wf h) {n : Nat} (n0 : 0 < n) (n24 : n ≤ 24) {e s : Int32} (hs : s ||| 4 ||| 4 = s ||| 4) (k1 : (∃ i, i < 101 ∧ dft (gI h 145) (2 * e) n i) → P (some (.int (s ||| 4))) h) (k0 : (¬ ∃ i, i < 101 ∧ dft (gI h 145) (2 * e) n i) → P (some (.int s)) h) : ∀ (m i : Nat) (x : Int32), i + m = 101 → ((x = s ∧ ∀ q, q < i → ¬ dft (gI h 145) (2 * e) n q) ∨ (x = s ||| 4 ∧ ∃ q, q < i ∧ dft (gI h 145) (2 * e) n q)) → Rr mX12_causes 0 0 191 [(0, .ref 116), (1, .int e), (2, .int (nI n)), (3, .int x), (4, .int (nI i - 50))] [] h P := by
  have o : isO h 12 116 := w.o (by decide) rfl
  intro m
  induction m with
  | zero =>
    intro i x hi g
    refine sX12_causes_191 h 116 _ _ _ _ ⟨fun _ => ?_, fun q => absurd ?_ q⟩
    · rcases g with ⟨rfl, g⟩ | ⟨rfl, q, q1, q2⟩
      · exact k0 (fun ⟨q, q1, q2⟩ => g q (by omega) q2)
      · exact k1 ⟨q, by omega, q2⟩
    · exact (d101 ⟨i, by omega⟩).2.1.mpr (by show i = 101; omega)
  | succ m ih =>
    intro i x hi g
    obtain ⟨-, d2, d3⟩ := d101 ⟨i, by omega⟩
    simp only at d2 d3
    have same : ¬ dft (gI h 145) (2 * e) n i → Rr mX12_causes 0 0 191 [(0, .ref 116), (1, .int e), (2, .int (nI n)), (3, .int x), (4, .int (nI i - 50 + 1))] [] h P := fun z => by
      rw [d3]
      refine ih (i + 1) x (by omega) ?_
      rcases g with ⟨rfl, g⟩ | ⟨rfl, q, q1, q2⟩
      · refine Or.inl ⟨rfl, fun q hq => ?_⟩
        by_cases e : q = i
        · rw [e]; exact z
        · exact g q (by omega)
      · exact Or.inr ⟨rfl, q, by omega, q2⟩
    refine sX12_causes_191 h 116 _ _ _ _ ⟨fun q => ?_, fun _ => ⟨fun q => same (fun z => z.1 q), fun q => ⟨o, ?_⟩⟩⟩
    · have := d2.mp q
      omega
    refine c12_lev (a := 0) w n0 n24 ⟨_, rfl, fun z7 h7 => ?_⟩
    by_cases c : ¬ (2 * e) < brd (gI h 145) (nI i - 50) 0 n
    · have eb : bi (¬ (2 * e) < brd (gI h 145) (nI i - 50) 0 n) = 1 := if_pos c
      rw [eb, if_neg (by decide)] at h7
      rw [h7, d3]
      refine ih (i + 1) _ (by omega) (Or.inr ⟨?_, i, by omega, q, c⟩)
      rcases g with ⟨rfl, -⟩ | ⟨rfl, -⟩
      · rfl
      · exact hs
    · have eb : bi (¬ (2 * e) < brd (gI h 145) (nI i - 50) 0 n) = 0 := if_neg c
      rw [eb, if_pos rfl] at h7
      rw [h7]
      exact same (fun z => c z.2)
theorem m147 {h : AH} {P : Option Value → AH → Prop} (w : Wf h) {n : Nat} (n24 : n ≤ 24) {e : Int32} (kk : ∀ x : Int32, ((x = 0 ∧ ¬ ∃ k, 1 ≤ k ∧ k < n ∧ jmp (gI h 145) (2 * e) n k) ∨ (x = 2 ∧ ∃ k, 1 ≤ k ∧ k < n ∧ jmp (gI h 145) (2 * e) n k)) → Rr mX12_causes 0 0 191 [(0, .ref 116), (1, .int e), (2, .int (nI n)), (3, .int x), (4, .int (-50))] [] h P) : ∀ (m k : Nat) (x : Int32), (n ≤ k ∨ k + m = n) → 1 ≤ k → k ≤ 25 → ((x = 0 ∧ ∀ q, 1 ≤ q → q < k → ¬ jmp (gI h 145) (2 * e) n q) ∨ (x = 2 ∧ ∃ q, 1 ≤ q ∧ q < n ∧ jmp (gI h 145) (2 * e) n q)) → Rr mX12_causes 0 0 147 [(0, .ref 116), (1, .int e), (2, .int (nI n)), (3, .int x), (4, .int (nI k))] [] h P := by
  have o : isO h 12 116 := w.o (by decide) rfl
  have fin : ∀ (k : Nat) (x : Int32), n ≤ k → k ≤ 25 → ((x = 0 ∧ ∀ q, 1 ≤ q → q < k → ¬ jmp (gI h 145) (2 * e) n q) ∨ (x = 2 ∧ ∃ q, 1 ≤ q ∧ q < n ∧ jmp (gI h 145) (2 * e) n q)) → Rr mX12_causes 0 0 147 [(0, .ref 116), (1, .int e), (2, .int (nI n)), (3, .int x), (4, .int (nI k))] [] h P := fun k x hk h25 g => by
    refine sX12_causes_147 h 116 _ _ _ _ ⟨fun _ => kk x ?_, fun q => absurd ?_ q⟩
    · rcases g with ⟨rfl, g⟩ | g
      · exact Or.inl ⟨rfl, fun ⟨q, q1, q2, q3⟩ => g q q1 (by omega) q3⟩
      · exact Or.inr g
    · rw [nI_leI (by omega) (by omega)]
      exact hk
  intro m
  induction m with
  | zero =>
    intro k x hk h1 h25 g
    exact fin k x (by omega) h25 g
  | succ m ih =>
    intro k x hk h1 h25 g
    by_cases c : n ≤ k
    · exact fin k x c h25 g
    have same : ¬ jmp (gI h 145) (2 * e) n k → Rr mX12_causes 0 0 147 [(0, .ref 116), (1, .int e), (2, .int (nI n)), (3, .int x), (4, .int (nI k + 1))] [] h P := fun z => by
      rw [nI_1]
      refine ih (k + 1) x (by omega) (by omega) (by omega) ?_
      rcases g with ⟨rfl, g⟩ | g
      · refine Or.inl ⟨rfl, fun q q1 q2 => ?_⟩
        by_cases e : q = k
        · rw [e]; exact z
        · exact g q q1 (by omega)
      · exact Or.inr g
    refine sX12_causes_147 h 116 _ _ _ _ ⟨fun q => absurd q ?_, fun _ => ⟨o, ?_⟩⟩
    · rw [nI_leI (by omega) (by omega)]
      exact c
    refine c12_lev (a := 0) w (by omega) (by omega) ⟨_, rfl, fun q => same (fun z => absurd z.1 (bi_0.mp q)), fun q => ⟨o, ?_⟩⟩
    have q' : ¬ (2 * e) < brd (gI h 145) 0 0 k := Classical.byContradiction (fun z => q (bi_0.mpr z))
    refine c12_lev w (by omega) n24 ⟨_, rfl, fun z10 h10 => ?_⟩
    by_cases c2 : ¬ (2 * e) < brd (gI h 145) 0 k n
    · have eb : bi (¬ (2 * e) < brd (gI h 145) 0 k n) = 1 := if_pos c2
      rw [eb, if_neg (by decide)] at h10
      have e2 : z10 = 2 := by
        rw [h10]
        rcases g with ⟨rfl, -⟩ | ⟨rfl, -⟩ <;> decide
      rw [e2, nI_1]
      exact ih (k + 1) 2 (by omega) (by omega) (by omega) (Or.inr ⟨rfl, k, h1, by omega, q', c2⟩)
    · have eb : bi (¬ (2 * e) < brd (gI h 145) 0 k n) = 0 := if_neg c2
      rw [eb, if_pos rfl] at h10
      rw [h10]
      exact same (fun z => c2 z.2)
