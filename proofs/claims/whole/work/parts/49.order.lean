def prb (n : Nat) : Bool := decide (n / 1000 < 4) && decide (n / 100 % 10 < 4) && decide (n / 10 % 10 < 4) && decide (n % 10 < 4) && decide (n / 1000 ≠ n / 100 % 10) && decide (n / 1000 ≠ n / 10 % 10) && decide (n / 1000 ≠ n % 10) && decide (n / 100 % 10 ≠ n / 10 % 10) && decide (n / 100 % 10 ≠ n % 10) && decide (n / 10 % 10 ≠ n % 10)
theorem prb_iff (n : Nat) : prb n = true ↔ prm (n / 1000) (n / 100 % 10) (n / 10 % 10) (n % 10) := by
  unfold prb prm
  simp only [Bool.and_eq_true, decide_eq_true_eq, and_assoc]
def sval (l : Nat → Int32) (n : Nat) : Int32 := l (4 * (n / 10 % 10) + n % 10) + l (4 * (n / 100 % 10) + n / 10 % 10) + l (4 * (n / 1000) + n / 100 % 10)
def oup (l : Nat → Int32) (s : Int32 × Int32) (n : Nat) : Int32 × Int32 := if s.2 < sval l n then (nI n, sval l n) else s
theorem order_loop {h : AH} {P : Option Value → AH → Prop} (w : Wf h) (x : Int32) : ∀ (k o : Nat) (s : Int32 × Int32), o + k = 3334 → -1 ≤ s.2 →
    (∀ s2, s2 = ((List.range' o k).filter prb).foldl (oup (gI h 126)) s → (¬ x = 0 → Rr mX12_order 0 0 65 [(1, .int x), (2, .int s2.1), (4, .int 4)] [] h P) ∧ (x = 0 → P (some (.int s2.2)) h)) →
    Rr mX12_order 0 0 19 [(0, .ref 116), (1, .int x), (2, .int s.1), (3, .int s.2), (4, .int (nI o))] [] h P
  | 0, o, s, ho, hs, k => by
    have e : o = 3334 := by omega
    subst e
    have e2 : (3334 : Int32) = nI 3334 := by decide
    refine sX12_order_19 h 116 x _ _ _ ⟨fun _ => k s rfl, fun c => absurd (by rw [e2]; exact Int32.le_refl _) c⟩
  | n + 1, o, s, ho, hs, k => by
    have e2 : (3334 : Int32) = nI 3334 := by decide
    have hlt : ¬ 3334 ≤ nI o := by
      rw [e2, nI_leI (by decide) (by omega)]
      omega
    refine sX12_order_19 h 116 x _ _ _ ⟨fun c => absurd c hlt, fun _ => ⟨w.o (by decide) rfl, ?_⟩⟩
    have hr : List.range' o (n + 1) = o :: List.range' (o + 1) n := rfl
    rw [hr] at k
    refine c12_sumOf w (by omega) (fun q => ⟨_, rfl, ?_⟩) (fun q => ⟨_, rfl, ?_⟩)
    · intro z7 h7 z8 h8
      rw [nI_1]
      have hp : prb o = true := (prb_iff o).mpr q
      rw [List.filter_cons_of_pos hp] at k
      have h7' : z7 = if s.2 < sval (gI h 126) o then nI o else s.1 := h7
      have h8' : z8 = if s.2 < sval (gI h 126) o then sval (gI h 126) o else s.2 := h8
      have es : (z7, z8) = oup (gI h 126) s o := by
        unfold oup
        rw [h7', h8']
        by_cases c : s.2 < sval (gI h 126) o
        · rw [if_pos c, if_pos c, if_pos c]
        · rw [if_neg c, if_neg c, if_neg c]
      have h2 : -1 ≤ z8 := by
        rw [h8]
        split
        · rename_i c
          grind
        · exact hs
      have := order_loop w x n (o + 1) (z7, z8) (by omega) h2 (fun s2 hs2 => k s2 (by rw [hs2, es]; rfl))
      exact this
    · intro z7 h7 z8 h8
      rw [nI_1]
      have hp : ¬ prb o = true := fun z => q ((prb_iff o).mp z)
      rw [List.filter_cons_of_neg hp] at k
      have c : ¬ s.2 < -1 := by grind
      rw [if_neg c] at h7 h8
      rw [h7, h8]
      exact order_loop w x n (o + 1) s (by omega) hs k
def PL : List Nat := [123, 132, 213, 231, 312, 321, 1023, 1032, 1203, 1230, 1302, 1320, 2013, 2031, 2103, 2130, 2301, 2310, 3012, 3021, 3102, 3120, 3201, 3210]
theorem PL_eq : (List.range' 0 3334).filter prb = PL := by decide +kernel
theorem c12_order {h : AH} {P : Option Value → AH → Prop} {x : Int32} (w : Wf h) (k1 : ¬ (0 ≤ x ∧ x ≤ 4) → P (some (.int (-2))) h) (k2 : 0 ≤ x ∧ x ≤ 4 → ∀ s, s = PL.foldl (oup (gI h 126)) (-1, -1) → P (some (.int (if x = 0 then s.2 else if x = 1 then s.1 / 10 / 10 / 10 % 10 else if x = 2 then s.1 / 10 / 10 % 10 else if x = 3 then s.1 / 10 % 10 else s.1 % 10))) h) : Call mX12_order [.ref 116, .int x] h P := by
  refine Call.ofR (by decide +kernel) (Nat.le_of_ble_eq_true rfl) (sX12_order_0 h 116 x ⟨fun c => ?_, fun c => k1 (by grind)⟩)
  have hx : 0 ≤ x ∧ x ≤ 4 := by grind
  have k3 := k2 hx
  refine order_loop w x 3334 0 (-1, -1) rfl (by decide) (fun s2 hs2 => ?_)
  rw [PL_eq] at hs2
  have k4 := k3 s2 hs2
  clear k1 k2 k3 hs2
  refine ⟨fun c0 => ?_, fun c0 => by rw [if_pos c0] at k4; exact k4⟩
  have hq : x = 1 ∨ x = 2 ∨ x = 3 ∨ x = 4 := by grind
  have e3 : (4 : Int32) + (-1) = 3 := by decide
  have e2 : (3 : Int32) + (-1) = 2 := by decide
  have e1 : (2 : Int32) + (-1) = 1 := by decide
  rcases hq with rfl | rfl | rfl | rfl
  · refine sX12_order_65 h 1 _ _ ⟨fun c => absurd c (by decide), fun _ => ?_⟩
    rw [e3]
    refine sX12_order_65 h 1 _ _ ⟨fun c => absurd c (by decide), fun _ => ?_⟩
    rw [e2]
    refine sX12_order_65 h 1 _ _ ⟨fun c => absurd c (by decide), fun _ => ?_⟩
    rw [e1]
    exact sX12_order_65 h 1 _ _ ⟨fun _ => k4, fun c => absurd (by decide) c⟩
  · refine sX12_order_65 h 2 _ _ ⟨fun c => absurd c (by decide), fun _ => ?_⟩
    rw [e3]
    refine sX12_order_65 h 2 _ _ ⟨fun c => absurd c (by decide), fun _ => ?_⟩
    rw [e2]
    exact sX12_order_65 h 2 _ _ ⟨fun _ => k4, fun c => absurd (by decide) c⟩
  · refine sX12_order_65 h 3 _ _ ⟨fun c => absurd c (by decide), fun _ => ?_⟩
    rw [e3]
    exact sX12_order_65 h 3 _ _ ⟨fun _ => k4, fun c => absurd (by decide) c⟩
  · exact sX12_order_65 h 4 _ _ ⟨fun _ => k4, fun c => absurd (by decide) c⟩
