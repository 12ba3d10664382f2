/-! WORDS -/
def wo (w : Nat) : Nat := [0, 5, 9, 16, 22, 28, 33, 39, 45, 51, 55, 61, 66, 73].getD w 78
def wln (w : Nat) : Nat := [4, 3, 6, 5, 5, 4, 5, 5, 5, 3, 5, 4, 6, 4].getD w 0
theorem w_tab : ∀ w : Fin 14, (∀ i : Fin 8, i.val < wln w.val → ¬ sch 2 (wo w.val + i.val) = 32 ∧ wo w.val + i.val < 78) ∧ sch 2 (wo w.val + wln w.val) = 32 ∧ wo w.val + wln w.val < 78 ∧ wo w.val + wln w.val + 1 = wo (w.val + 1) ∧ wln w.val ≤ 8 := by decide +kernel
def mt (B : Nat → Int32) (n w : Nat) : Prop := n = wln w ∧ ∀ i, i < n → sch 2 (wo w + i) = B i
theorem b_256 : ∀ k : Fin 256, ((nI k - 128) &&& 255 = 32 ↔ nI k - 128 = 32) ∧ ((nI k - 128) &&& 255 = 10 ↔ nI k - 128 = 10) ∧ ((¬ (nI k - 128) &&& 255 < 97 ∧ ¬ 122 < (nI k - 128) &&& 255) ↔ (¬ (nI k - 128) < 97 ∧ ¬ 122 < (nI k - 128))) ∧ ((¬ (nI k - 128) &&& 255 < 48 ∧ ¬ 57 < (nI k - 128) &&& 255) ↔ (¬ (nI k - 128) < 48 ∧ ¬ 57 < (nI k - 128))) ∧ ((nI k - 128) &&& 255 = 59 ↔ nI k - 128 = 59) ∧ ((nI k - 128) &&& 255 = 45 ↔ nI k - 128 = 45) ∧ (¬ (nI k - 128) &&& 255 = -1) ∧ ((¬ (nI k - 128) < 97 ∧ ¬ 122 < (nI k - 128)) → (nI k - 128) &&& 255 = nI k - 128) ∧ ((¬ (nI k - 128) < 48 ∧ ¬ 57 < (nI k - 128)) → (nI k - 128) &&& 255 = nI k - 128) := by decide +kernel
theorem b_by {x : Int32} (h : inr x (-128) 127) : (x &&& 255 = 32 ↔ x = 32) ∧ (x &&& 255 = 10 ↔ x = 10) ∧ ((¬ x &&& 255 < 97 ∧ ¬ 122 < x &&& 255) ↔ (¬ x < 97 ∧ ¬ 122 < x)) ∧ ((¬ x &&& 255 < 48 ∧ ¬ 57 < x &&& 255) ↔ (¬ x < 48 ∧ ¬ 57 < x)) ∧ (x &&& 255 = 59 ↔ x = 59) ∧ (x &&& 255 = 45 ↔ x = 45) ∧ (¬ x &&& 255 = -1) ∧ ((¬ x < 97 ∧ ¬ 122 < x) → x &&& 255 = x) ∧ ((¬ x < 48 ∧ ¬ 57 < x) → x &&& 255 = x) := by
  obtain ⟨k, hk, e⟩ : ∃ n : Nat, n ≤ 255 ∧ x + 128 = nI n := nI_of2 (M := 255) rfl (by unfold inr at h; grind) (by unfold inr at h; grind)
  have ex : x = nI k - 128 := by rw [← e]; grind
  rw [ex]
  exact b_256 ⟨k, by omega⟩
/-- letters of a word that stands on the tape -/
def onT (h : AH) (L s n : Nat) : Prop := s + n ≤ L ∧ ∀ i, i < n → inr (gI h 117 (s + i)) (-128) 127 ∧ lett (gI h 117 (s + i)) = true
theorem ky52 {h : AH} {P : Option Value → AH → Prop} (w : Wf h) {L s n v : Nat} (hL : L ≤ 900) (h2L : gI h 116 2 = nI L) (T : onT h L s n) (n8 : n ≤ 8) (hv : v < 14) (hn : n = wln v) (k1 : mt (fun i => gI h 117 (s + i)) n v → P (some (.int (nI v))) h) (k0 : ¬ mt (fun i => gI h 117 (s + i)) n v → Rr mX12_keyAt 0 0 8 [(0, .ref 116), (1, .int (nI s)), (2, .int (nI n)), (3, .int (nI (v + 1))), (4, .int (nI (wo (v + 1)))), (5, .int (nI (wo (v + 1))))] [] h P) : ∀ (m i : Nat), i + m = n → (∀ q, q < i → sch 2 (wo v + q) = gI h 117 (s + q)) → Rr mX12_keyAt 0 0 52 [(0, .ref 116), (1, .int (nI s)), (2, .int (nI n)), (3, .int (nI v)), (4, .int (nI (wo v))), (5, .int (nI (wo v + wln v))), (6, .int 1), (7, .int (nI i))] [] h P
  | 0, i, hi, g => by
    have e : i = n := by omega
    subst e
    refine sX12_keyAt_52 h 116 _ _ _ _ _ _ _ ⟨fun _ => ⟨fun q => absurd q (by decide), fun _ => k1 ⟨hn, g⟩⟩, fun q => absurd (Int32.le_refl _) q⟩
  | m + 1, i, hi, g => by
    obtain ⟨t1, t2, t3, t4, t5⟩ := w_tab ⟨v, hv⟩
    simp only at t1 t2 t3 t4 t5
    refine sX12_keyAt_52 h 116 _ _ _ _ _ _ _ ⟨fun q => absurd q ?_, fun _ => ⟨fun q => absurd q (by decide), fun _ => ?_⟩⟩
    · rw [nI_leI (by omega) (by omega)]
      omega
    rw [nI_add, nI_add]
    refine c_chr (j := 2) (by decide) (t1 ⟨i, by omega⟩ (by show i < wln v; omega)).2 ⟨_, rfl, w.o (by decide) rfl, ?_⟩
    have T1 := T.1
    have ge : ¬ nI L ≤ nI (s + i) := by
      rw [nI_leI (by omega) (by omega)]
      omega
    have lt := (T.2 i (by omega))
    have le : gI h 117 (s + i) &&& 255 = gI h 117 (s + i) := (b_by lt.1).2.2.2.2.2.2.2.1 (by have := lt.2; unfold lett at this; rw [decide_eq_true_eq] at this; exact this)
    rw [w.f116_0, h2L, if_neg ge, nI_clamp (by omega), le, nI_1]
    refine ⟨w.a (by decide) rfl, fun _ => in900 hL (by omega), ?_⟩
    by_cases c : sch 2 (wo v + i) = gI h 117 (s + i)
    · have e : bi (sch 2 (wo v + i) = gI h 117 (s + i)) = 1 := if_pos c
      rw [e]
      refine ky52 w hL h2L T n8 hv hn k1 k0 m (i + 1) (by omega) (fun q hq => ?_)
      by_cases z : q = i
      · rw [z]; exact c
      · exact g q (by omega)
    · have e : bi (sch 2 (wo v + i) = gI h 117 (s + i)) = 0 := if_neg c
      rw [e]
      have go := k0 (fun z => c (z.2 i (by omega)))
      rw [← t4, ← nI_1, ← nI_1] at go
      refine sX12_keyAt_52 h 116 _ _ _ _ _ _ _ ⟨fun _ => ⟨fun _ => go, fun q => absurd rfl q⟩, fun _ => ⟨fun _ => ⟨fun _ => go, fun q => absurd rfl q⟩, fun q => absurd rfl q⟩⟩
/-- the first word that is it -/
def kyf (B : Nat → Int32) (n : Nat) : Nat → Nat → Int32 → Prop
  | 0, _, z => z = -1
  | m + 1, v, z => (mt B n v ∧ z = nI v) ∨ (¬ mt B n v ∧ kyf B n m (v + 1) z)
theorem ky8 {h : AH} {P : Option Value → AH → Prop} (w : Wf h) {L s n : Nat} (hL : L ≤ 900) (h2L : gI h 116 2 = nI L) (T : onT h L s n) (n8 : n ≤ 8) : ∀ (m v : Nat), v + m = 14 → (∀ z, kyf (fun i => gI h 117 (s + i)) n m v z → P (some (.int z)) h) → Rr mX12_keyAt 0 0 8 [(0, .ref 116), (1, .int (nI s)), (2, .int (nI n)), (3, .int (nI v)), (4, .int (nI (wo v))), (5, .int (nI (wo v)))] [] h P := by
  intro m
  induction m with
  | zero =>
    intro v hv k
    have e : v = 14 := by omega
    subst e
    exact sX12_keyAt_8 h 116 _ _ _ _ _ (c_len (j := 2) (by decide) ⟨_, rfl, fun _ => k _ rfl, fun q => absurd (by decide) q⟩)
  | succ m ih =>
    intro v hv k
    have hv14 : v < 14 := by omega
    obtain ⟨t1, t2, t3, t4, t5⟩ := w_tab ⟨v, hv14⟩
    simp only at t1 t2 t3 t4 t5
    have T1 := T.1
    have lp : ∀ (r i : Nat), i + r = wln v → Rr mX12_keyAt 0 0 8 [(0, .ref 116), (1, .int (nI s)), (2, .int (nI n)), (3, .int (nI v)), (4, .int (nI (wo v))), (5, .int (nI (wo v + i)))] [] h P := by
      intro r
      induction r with
      | zero =>
        intro i hi
        have e : i = wln v := by omega
        subst e
        refine sX12_keyAt_8 h 116 _ _ _ _ _ (c_len (j := 2) (by decide) ⟨_, rfl, fun q => absurd q ?_, fun _ => c_chr (j := 2) (by decide) t3 ⟨_, rfl, fun _ => ?_, fun q => absurd t2 q⟩⟩)
        · show ¬ nI 78 ≤ nI (wo v + wln v)
          rw [nI_leI (by decide) (by omega)]
          omega
        have es : nI (wo v + wln v) - nI (wo v) = nI (wln v) := by
          rw [← nI_add]
          grind
        rw [es]
        have k0 : ¬ mt (fun i => gI h 117 (s + i)) n v → Rr mX12_keyAt 0 0 8 [(0, .ref 116), (1, .int (nI s)), (2, .int (nI n)), (3, .int (nI (v + 1))), (4, .int (nI (wo (v + 1)))), (5, .int (nI (wo (v + 1))))] [] h P := fun c => ih (v + 1) (by omega) (fun z hz => k z (Or.inr ⟨c, hz⟩))
        by_cases c : n = wln v
        · have e : bi (nI (wln v) = nI n) = 1 := if_pos (by rw [c])
          rw [e]
          exact ky52 w hL h2L T n8 hv14 c (fun q => k _ (Or.inl ⟨q, rfl⟩)) k0 n 0 (Nat.zero_add n) (fun q hq => absurd hq (Nat.not_lt_zero q))
        · have e : bi (nI (wln v) = nI n) = 0 := if_neg (fun z => c ((nI_eq (by omega) (by omega)).mp z).symm)
          rw [e]
          have go := k0 (fun z => c z.1)
          rw [← t4, ← nI_1, ← nI_1] at go
          exact sX12_keyAt_52 h 116 _ _ _ _ _ _ _ ⟨fun _ => ⟨fun _ => go, fun q => absurd rfl q⟩, fun _ => ⟨fun _ => ⟨fun _ => go, fun q => absurd rfl q⟩, fun q => absurd rfl q⟩⟩
      | succ r ih2 =>
        intro i hi
        have ti := t1 ⟨i, by omega⟩ (by show i < wln v; omega)
        simp only at ti
        refine sX12_keyAt_8 h 116 _ _ _ _ _ (c_len (j := 2) (by decide) ⟨_, rfl, fun q => absurd q ?_, fun _ => c_chr (j := 2) (by decide) ti.2 ⟨_, rfl, fun q => absurd q ti.1, fun _ => ?_⟩⟩)
        · show ¬ nI 78 ≤ nI (wo v + i)
          rw [nI_leI (by decide) (by omega)]
          omega
        rw [nI_1]
        exact ih2 (i + 1) (by omega)
    exact lp (wln v) 0 (Nat.zero_add _)
theorem c12_key {h : AH} {P : Option Value → AH → Prop} (w : Wf h) {L s n : Nat} (hL : L ≤ 900) (h2L : gI h 116 2 = nI L) (T : onT h L s n) (n8 : n ≤ 8) (k : ∀ z, kyf (fun i => gI h 117 (s + i)) n 14 0 z → P (some (.int z)) h) : Call mX12_keyAt [.ref 116, .int (nI s), .int (nI n)] h P :=
  Call.ofR (by decide +kernel) (Nat.le_of_ble_eq_true rfl) (sX12_keyAt_0 h 116 _ _ (ky8 w hL h2L T n8 14 0 rfl k))
