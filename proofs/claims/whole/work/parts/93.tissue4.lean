/-! the reference's numbers -/
theorem lst_b (v : Nat → Nat) (k : Nat) : lst v k < 2 ^ 31 := by
  have := (lst_le v k).1
  omega
/-- the rows of the zones from z on -/
def BR (h : AH) (my : Nat → Nat → Bool) (n z : Nat) : Prop := ∀ q, z ≤ q → q < n → ∀ l, l < 10 → gI h 148 (10 * q + l) = nI (Gt my n (n - 1 - q) l)
def vq (my : Nat → Nat → Bool) (n m l q : Nat) : Nat := if m = 0 then 0 else cst l q + Gt my n (m - 1) q
theorem Gt_vq (my : Nat → Nat → Bool) (n m l : Nat) : Gt my n m l = if my (n - 1 - m) l = true then (if lst (vq my n m l) 10 < 1000000 then l + lst (vq my n m l) 10 else 1000000) else 1000000 := by
  cases m with
  | zero =>
    have e : lst (vq my n 0 l) 10 = 0 := rfl
    rw [e]
    show (if my (n - 1) l = true then l else 1000000) = _
    rfl
  | succ m => rfl
theorem vq_b (my : Nat → Nat → Bool) (n m l : Nat) {q : Nat} (hq : q < 10) : vq my n m l q < 2 ^ 31 := by
  have := Gt_hi (may := my) (n := n) (m := m - 1) (l := q)
  unfold vq cst
  split <;> omega
theorem i10 (z l : Nat) : (10 : Int32) * nI z + nI l = nI (10 * z + l) := by rw [show (10 : Int32) = nI 10 from rfl, pk_mul, nI_add]
theorem in210 {p : Nat} (hp : p < 210) : vp_in (nI p) 210 := vp_in_nI hp (by decide)
theorem t184 {h : AH} {P : Option Value → AH → Prop} (w : Wf h) {my : Nat → Nat → Bool} {n m l : Nat} (n20 : n ≤ 20) (hm : m < n) (hl : l < 10) (B : BR h my n (n - m)) {x1 x2 x3 x7 : Int32} (h7 : (x7 = 1 ∧ my (n - 1 - m) l = true) ∨ (x7 = 0 ∧ ¬ my (n - 1 - m) l = true)) (kk : Rr mX12_tissue 0 0 146 [(0, .ref 116), (1, .int x1), (2, .int x2), (3, .int x3), (4, .int (nI n)), (5, .int (nI (n - 1 - m))), (6, .int (nI (l + 1)))] [] (sI h 148 (10 * (n - 1 - m) + l) (nI (Gt my n m l))) P) : ∀ (r q : Nat), q + r = 10 → Rr mX12_tissue 0 0 184 [(0, .ref 116), (1, .int x1), (2, .int x2), (3, .int x3), (4, .int (nI n)), (5, .int (nI (n - 1 - m))), (6, .int (nI l)), (7, .int x7), (8, .int (nI (if my (n - 1 - m) l = true then lst (vq my n m l) q else 1000000))), (9, .int (nI q))] [] h P := by
  have o : isO h 12 116 := w.o (by decide) rfl
  have a8 : isA h 0 148 := w.a (by decide) rfl
  have fin : ∀ z4 : Int32, z4 = (if nI (if my (n - 1 - m) l = true then lst (vq my n m l) 10 else 1000000) < 1000000 then (nI l + nI (if my (n - 1 - m) l = true then lst (vq my n m l) 10 else 1000000)) else 1000000) → ((isA h 0 (gF h 116 57)) ∧ ((vp_in ((10 * nI (n - 1 - m)) + nI l) (ln (gF h 116 57))) ∧ (Rr mX12_tissue 0 0 146 [(0, .ref 116), (1, .int x1), (2, .int x2), (3, .int x3), (4, .int (nI n)), (5, .int (nI (n - 1 - m))), (6, .int (nI l + 1))] [] (sI h (gF h 116 57) ((10 * nI (n - 1 - m)) + nI l).toNatClampNeg z4) P))) := fun z4 h4 => by
    rw [w.f116_57, i10, nI_clamp (by omega), nI_1]
    have e : z4 = nI (Gt my n m l) := by
      rw [h4, Gt_vq, show (1000000 : Int32) = nI 1000000 from rfl]
      by_cases c : my (n - 1 - m) l = true
      · rw [if_pos c, if_pos c]
        by_cases d : lst (vq my n m l) 10 < 1000000
        · rw [if_pos d, if_pos (by rw [nI_ltI (lst_b _ _) (by decide)]; exact d), nI_add]
        · rw [if_neg d, if_neg (by rw [nI_ltI (lst_b _ _) (by decide)]; exact d)]
      · rw [if_neg c, if_neg c, if_neg (by rw [nI_ltI (by decide) (by decide)]; omega)]
    rw [e]
    exact ⟨a8, in210 (by omega), kk⟩
  intro r
  induction r with
  | zero =>
    intro q hq
    have e : q = 10 := by omega
    subst e
    exact sX12_tissue_184 h 116 _ _ _ _ _ _ _ _ _ ⟨fun _ => ⟨o, fin⟩, fun q => absurd (by decide) q⟩
  | succ r ih =>
    intro q hq
    refine sX12_tissue_184 h 116 _ _ _ _ _ _ _ _ _ ⟨fun z => absurd z ?_, fun _ => ⟨fun z => ⟨o, ?_⟩, fun z => ⟨o, ?_⟩⟩⟩
    · rw [show (9 : Int32) = nI 9 from rfl, nI_ltI (by decide) (by omega)]
      omega
    · rcases h7 with ⟨h7, -⟩ | ⟨-, h7⟩
      · rw [h7] at z; exact absurd z (by decide)
      · have e1 : (if my (n - 1 - m) l = true then lst (vq my n m l) q else 1000000) = (if my (n - 1 - m) l = true then lst (vq my n m l) 10 else 1000000) := by rw [if_neg h7, if_neg h7]
        rw [e1]
        exact fin
    · have c : my (n - 1 - m) l = true := by
        rcases h7 with ⟨-, h7⟩ | ⟨h7, -⟩
        · exact h7
        · exact absurd h7 z
      have n1 : nI n - 1 = nI (n - 1) := by
        have := nI_pred (n - 1)
        rw [show n - 1 + 1 = n by omega] at this
        exact this
      have zc : nI (n - 1 - m) = nI (n - 1) ↔ m = 0 := by
        rw [nI_eq (by omega) (by omega)]
        omega
      have ql : nI q ≤ nI l ↔ q ≤ l := nI_leI (by omega) (by omega)
      have ix : (10 : Int32) * nI (n - 1 - m + 1) + nI q = nI (10 * (n - 1 - m + 1) + q) := i10 _ _
      simp only [w.f116_57, n1, zc, ql, ix, if_pos c, nI_1]
      have vv : ¬ m = 0 → vp_in (nI (10 * (n - 1 - m + 1) + q)) 210 := fun _ => in210 (by omega)
      refine ⟨a8, fun c0 _ => vv c0, fun c0 _ => vv c0, fun z19 h19 z21 h21 => ?_⟩
      have e19 : z19 = nI (vq my n m l q) := by
        rw [h19]
        unfold vq
        by_cases c0 : m = 0
        · rw [if_pos c0, if_pos c0]
          rfl
        · rw [if_neg c0, if_neg c0, nI_clamp (by omega)]
          have br := B (n - m) (Nat.le_refl _) (by omega) q (by omega)
          rw [show n - 1 - (n - m) = m - 1 by omega] at br
          rw [show 10 * (n - 1 - m + 1) + q = 10 * (n - m) + q by omega, br]
          by_cases c2 : q ≤ l
          · rw [if_pos c2, Int32.zero_add]
            unfold cst
            rw [show q - l = 0 by omega, Nat.mul_zero, Nat.zero_add]
          · rw [if_neg c2, nsub (by omega), show (1000 : Int32) = nI 1000 from rfl, pk_mul, nI_add]
            rfl
      have e21 : z21 = nI (lst (vq my n m l) (q + 1)) := by
        rw [h21, e19]
        show _ = nI (if lst (vq my n m l) q ≤ vq my n m l q then lst (vq my n m l) q else vq my n m l q)
        by_cases d : lst (vq my n m l) q ≤ vq my n m l q
        · rw [if_pos d, if_pos (by rw [nI_leI (lst_b _ _) (vq_b my n m l (by omega))]; exact d)]
        · rw [if_neg d, if_neg (by rw [nI_leI (lst_b _ _) (vq_b my n m l (by omega))]; exact d)]
      have go := ih (q + 1) (by omega)
      rw [if_pos c] at go
      rw [e21]
      exact go
theorem t146 {h : AH} {P : Option Value → AH → Prop} (w : Wf h) {n m : Nat} (n20 : n ≤ 20) (hm : m < n) {x1 x2 x3 : Int32} (kk : ∀ h3, Fr [148] h h3 → BR h3 (may (gI h 145) x1 (x2 - x3) (x2 + x3)) n (n - 1 - m) → Rr mX12_tissue 0 0 138 [(0, .ref 116), (1, .int x1), (2, .int x2), (3, .int x3), (4, .int (nI n)), (5, .int (nI (n - 1 - m) - 1))] [] h3 P) : ∀ (r l : Nat) (h2 : AH), l + r = 10 → Fr [148] h h2 → BR h2 (may (gI h 145) x1 (x2 - x3) (x2 + x3)) n (n - m) → (∀ q, q < l → gI h2 148 (10 * (n - 1 - m) + q) = nI (Gt (may (gI h 145) x1 (x2 - x3) (x2 + x3)) n m q)) → Rr mX12_tissue 0 0 146 [(0, .ref 116), (1, .int x1), (2, .int x2), (3, .int x3), (4, .int (nI n)), (5, .int (nI (n - 1 - m))), (6, .int (nI l))] [] h2 P := by
  intro r
  induction r with
  | zero =>
    intro l h2 hr F B e
    have e10 : l = 10 := by omega
    subst e10
    refine sX12_tissue_146 h2 116 _ _ _ _ _ _ ⟨fun _ => ?_, fun q => absurd (by decide) q⟩
    rw [← Int32.sub_eq_add_neg]
    refine kk h2 F (fun q h1 h2' l hl => ?_)
    by_cases c : q = n - 1 - m
    · rw [c, show n - 1 - (n - 1 - m) = m by omega]
      exact e l hl
    · exact B q (by omega) h2' l hl
  | succ r ih =>
    intro l h2 hr F B e
    have w2 := F.wf w
    refine sX12_tissue_146 h2 116 _ _ _ _ _ _ ⟨fun q => absurd q ?_, fun _ => ?_⟩
    · rw [show (9 : Int32) = nI 9 from rfl, nI_ltI (by decide) (by omega)]
      omega
    simp only [w2.f116_53, nI_clamp (show n - 1 - m < 2 ^ 31 by omega), F.I (r := 145) (by decide)]
    refine ⟨w2.o (by decide) rfl, w2.a (by decide) rfl, vp_in_nI (show n - 1 - m < 24 by omega) (by decide), ?_⟩
    have go := t184 (P := P) (l := l) (x1 := x1) (x2 := x2) (x3 := x3) (x7 := bi (¬ (gI h 145 (n - 1 - m) + (nI l * x1)) < (x2 - x3) ∧ ¬ (x2 + x3) < (gI h 145 (n - 1 - m) + (nI l * x1)))) w2 n20 hm (by omega) B ?_ ?_ 10 0 rfl
    · have e0 : (if may (gI h 145) x1 (x2 - x3) (x2 + x3) (n - 1 - m) l = true then lst (vq (may (gI h 145) x1 (x2 - x3) (x2 + x3)) n m l) 0 else 1000000) = 1000000 := by
        split <;> rfl
      rw [e0] at go
      exact go
    · by_cases c : ¬ (gI h 145 (n - 1 - m) + (nI l * x1)) < (x2 - x3) ∧ ¬ (x2 + x3) < (gI h 145 (n - 1 - m) + (nI l * x1))
      · left
        refine ⟨if_pos c, ?_⟩
        unfold may
        rw [decide_eq_true_eq]
        exact c
      · right
        refine ⟨if_neg c, ?_⟩
        unfold may
        rw [decide_eq_true_eq]
        exact c
    · refine ih (l + 1) _ (by omega) (F.tr (Fr.sI (by decide))) (fun q h1 h2' l' hl' => ?_) (fun q hq => ?_)
      · rw [rd_k (by omega)]
        exact B q h1 h2' l' hl'
      · by_cases c : q = l
        · subst c
          exact rd_h
        · rw [rd_k (by omega)]
          exact e q (by omega)
theorem t138 {h : AH} {P : Option Value → AH → Prop} (w : Wf h) {n : Nat} (n20 : n ≤ 20) {x1 x2 x3 : Int32} (kk : ∀ h3, Fr [148] h h3 → BR h3 (may (gI h 145) x1 (x2 - x3) (x2 + x3)) n 0 → Rr mX12_tissue 0 0 324 [(0, .ref 116), (4, .int (nI n)), (5, .int 0), (6, .int 1000000), (7, .int 0)] [] h3 P) : ∀ (r m : Nat) (h2 : AH), m + r = n → Fr [148] h h2 → BR h2 (may (gI h 145) x1 (x2 - x3) (x2 + x3)) n (n - m) → Rr mX12_tissue 0 0 138 [(0, .ref 116), (1, .int x1), (2, .int x2), (3, .int x3), (4, .int (nI n)), (5, .int (nI (n - m) - 1))] [] h2 P := by
  intro r
  induction r with
  | zero =>
    intro m h2 hm F B
    have e : n - m = 0 := by omega
    rw [e] at B ⊢
    exact sX12_tissue_138 h2 116 _ _ _ _ _ ⟨fun _ => kk h2 F B, fun q => absurd (by decide) q⟩
  | succ r ih =>
    intro m h2 hm F B
    have e : n - m = (n - 1 - m) + 1 := by omega
    rw [e, nI_pred]
    refine sX12_tissue_138 h2 116 _ _ _ _ _ ⟨fun q => absurd q (nI_pos (by omega)), fun _ => ?_⟩
    have w2 := F.wf w
    have e145 : gI h2 145 = gI h 145 := (F.2.2 145 (by decide)).1
    rw [← e145] at B
    refine t146 (h := h2) w2 n20 (by omega) (fun h3 F3 B3 => ?_) 10 0 h2 rfl Fr.rf B (fun q hq => absurd hq (Nat.not_lt_zero q))
    rw [e145] at B3
    have := ih (m + 1) h3 (by omega) (F.tr F3) (by rw [show n - (m + 1) = n - 1 - m by omega]; exact B3)
    rw [show n - (m + 1) = n - 1 - m by omega] at this
    exact this
theorem t105 {h : AH} {P : Option Value → AH → Prop} (w : Wf h) {n : Nat} (n20 : n ≤ 20) {x1 x2 x3 : Int32} (kk : ∀ h3, Fr [148] h h3 → Rr mX12_tissue 0 0 138 [(0, .ref 116), (1, .int x1), (2, .int x2), (3, .int x3), (4, .int (nI n)), (5, .int (nI n - 1))] [] h3 P) : ∀ (r l : Nat) (h2 : AH), l + r = 10 → Fr [148] h h2 → Rr mX12_tissue 0 0 105 [(0, .ref 116), (1, .int x1), (2, .int x2), (3, .int x3), (4, .int (nI n)), (5, .int (nI l))] [] h2 P := by
  intro r
  induction r with
  | zero =>
    intro l h2 hr F
    have e10 : l = 10 := by omega
    subst e10
    exact sX12_tissue_105 h2 116 _ _ _ _ _ ⟨fun _ => kk h2 F, fun q => absurd (by decide) q⟩
  | succ r ih =>
    intro l h2 hr F
    have w2 := F.wf w
    refine sX12_tissue_105 h2 116 _ _ _ _ _ ⟨fun q => absurd q ?_, fun _ => ?_⟩
    · rw [show (9 : Int32) = nI 9 from rfl, nI_ltI (by decide) (by omega)]
      omega
    rw [w2.f116_57, i10, nI_clamp (by omega), nI_1]
    exact ⟨w2.o (by decide) rfl, w2.a (by decide) rfl, in210 (by omega), ih (l + 1) _ (by omega) (F.tr (Fr.sI (by decide)))⟩
theorem t324 {h : AH} {P : Option Value → AH → Prop} (w : Wf h) {my : Nat → Nat → Bool} {n : Nat} (n20 : n ≤ 20) (n0 : 0 < n) (B : BR h my n 0) (k1 : lst (fun q => cst 0 q + Gt my n (n - 1) q) 10 < 1000000 → Rr mX12_tissue 0 0 394 [(0, .ref 116), (4, .int (nI n)), (5, .int 0), (6, .int (nI (lst (fun q => cst 0 q + Gt my n (n - 1) q) 10))), (7, .int (nI (lst (fun q => cst 0 q + Gt my n (n - 1) q) 10))), (8, .int 0)] [] h P) (k0 : ¬ lst (fun q => cst 0 q + Gt my n (n - 1) q) 10 < 1000000 → P (some (.int (-1))) h) : ∀ (r l : Nat), l + r = 10 → Rr mX12_tissue 0 0 324 [(0, .ref 116), (4, .int (nI n)), (5, .int 0), (6, .int (nI (lst (fun q => cst 0 q + Gt my n (n - 1) q) l))), (7, .int (nI l))] [] h P := by
  intro r
  induction r with
  | zero =>
    intro l hr
    have e10 : l = 10 := by omega
    subst e10
    have i : nI (lst (fun q => cst 0 q + Gt my n (n - 1) q) 10) < 1000000 ↔ lst (fun q => cst 0 q + Gt my n (n - 1) q) 10 < 1000000 := by
      rw [show (1000000 : Int32) = nI 1000000 from rfl, nI_ltI (lst_b _ _) (by decide)]
    exact sX12_tissue_324 h 116 _ _ _ _ ⟨fun _ => ⟨fun q => k1 (i.mp q), fun q => k0 (fun z => q (i.mpr z))⟩, fun q => absurd (by decide) q⟩
  | succ r ih =>
    intro l hr
    have l10 : l < 10 := by omega
    have br := B 0 (Nat.le_refl 0) n0 l l10
    rw [Nat.mul_zero, Nat.zero_add, Nat.sub_zero] at br
    have gh := Gt_hi (may := my) (n := n) (m := n - 1) (l := l)
    have ev : (1000 : Int32) * nI l + nI (Gt my n (n - 1) l) = nI (cst 0 l + Gt my n (n - 1) l) := by
      rw [show (1000 : Int32) = nI 1000 from rfl, pk_mul, nI_add]
      rfl
    have i : nI (lst (fun q => cst 0 q + Gt my n (n - 1) q) l) ≤ nI (cst 0 l + Gt my n (n - 1) l) ↔ lst (fun q => cst 0 q + Gt my n (n - 1) q) l ≤ cst 0 l + Gt my n (n - 1) l := nI_leI (lst_b _ _) (by unfold cst; omega)
    refine sX12_tissue_324 h 116 _ _ _ _ ⟨fun q => absurd q ?_, fun _ => ?_⟩
    · rw [show (9 : Int32) = nI 9 from rfl, nI_ltI (by decide) (by omega)]
      omega
    simp only [w.f116_57, nI_clamp (show l < 2 ^ 31 by omega), br, ev, i, nI_1]
    refine ⟨w.o (by decide) rfl, w.a (by decide) rfl, in210 (by omega), fun z7 h7 => ?_⟩
    have e : z7 = nI (lst (fun q => cst 0 q + Gt my n (n - 1) q) (l + 1)) := by
      rw [h7]
      show _ = nI (if lst (fun q => cst 0 q + Gt my n (n - 1) q) l ≤ cst 0 l + Gt my n (n - 1) l then lst (fun q => cst 0 q + Gt my n (n - 1) q) l else cst 0 l + Gt my n (n - 1) l)
      split <;> rfl
    rw [e]
    exact ih (l + 1) (by omega)
