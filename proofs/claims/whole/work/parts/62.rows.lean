theorem cl4 : Int32.toNatClampNeg 4 = 4 := rfl
theorem cpy_b {h : AH} {r s : Nat} {f : Nat → Nat → Bool} (hf : Bd h s f) : Bd (rL h r (va_cpy (gL h s) (gL h r) 0 0 4)) r f := by
  refine Bd.of (fun w i hw hi => ?_)
  rw [gL_rL, if_pos rfl, pk_cpy_in (by omega) (by omega), show 0 + (w - 0) = w by omega]
  exact hf.word hw hi
theorem cpy_w {h : AH} {r s : Nat} {w : Nat} (hw : w < 4) : gL (rL h r (va_cpy (gL h s) (gL h r) 0 0 4)) r w = gL h s w := by
  rw [gL_rL, if_pos rfl, pk_cpy_in (by omega) (by omega), show 0 + (w - 0) = w by omega]
theorem add_loop {h : AH} {P : Option Value → AH → Prop} {b r b1 r1 : Nat} (B : Bo h b r) (B1 : Bo h b1 r1) (hne : r1 ≠ r) (k : ∀ h3, Fr [r] h h3 → (∀ v, v < 4 → gL h3 r v = gL h r v ||| gL h r1 v) → P none h3) : ∀ (m w : Nat) (h2 : AH), w + m = 4 → Fr [r] h h2 → (∀ v, v < w → gL h2 r v = gL h r v ||| gL h r1 v) → (∀ v, w ≤ v → gL h2 r v = gL h r v) → Rr mX0_add 0 0 2 [(0, .ref b), (1, .ref b1), (2, .int (nI w))] [] h2 P
  | 0, w, h2, hw, F, e1, e2 => by
    have e : w = 4 := by omega
    subst e
    exact sX0_add_2 h2 b b1 _ ⟨fun _ => k h2 F e1, fun q => absurd (by decide) q⟩
  | m + 1, w, h2, hw, F, e1, e2 => by
    have B2 := B.fr F
    have B3 := B1.fr F
    refine sX0_add_2 h2 b b1 _ ⟨fun q => absurd q (n4le (by omega)), fun _ => ?_⟩
    rw [B2.2.1, B2.2.2.2, B3.2.1, B3.2.2.2, nI_clamp (by omega), nI_1, e2 w (Nat.le_refl w), F.L (r := r1) (by simpa using hne) w]
    refine ⟨B2.1, B2.2.2.1, in4n (by omega), B3.1, B3.2.2.1, in4n (by omega), ?_⟩
    refine add_loop B B1 hne k m (w + 1) _ (by omega) (F.tr (Fr.sL (List.mem_cons_self ..))) (fun v hv => ?_) (fun v hv => (ld_k (by omega)).trans (e2 v (by omega)))
    by_cases c : v = w
    · subst c
      exact ld_h
    · exact (ld_k c).trans (e1 v (by omega))
def orf (f g : Nat → Nat → Bool) : Nat → Nat → Bool := fun y x => f y x || g y x
def xof (f g : Nat → Nat → Bool) : Nat → Nat → Bool := fun y x => f y x ^^ g y x
theorem c0_add {h : AH} {P : Option Value → AH → Prop} {b r b1 r1 : Nat} {f g : Nat → Nat → Bool} (B : Bo h b r) (B1 : Bo h b1 r1) (hne : r1 ≠ r) (hf : Bd h r f) (hg : Bd h r1 g) (k : ∀ h3, Fr [r] h h3 → Bd h3 r (orf f g) → P none h3) : Call mX0_add [.ref b, .ref b1] h P := by
  refine Call.ofR (by decide +kernel) (Nat.le_of_ble_eq_true rfl) (sX0_add_0 h b b1 ?_)
  refine add_loop B B1 hne (fun h3 F e => k h3 F (Bd.of (fun w i hw hi => ?_))) 4 0 h rfl Fr.rf (fun v hv => absurd hv (Nat.not_lt_zero v)) (fun v _ => rfl)
  rw [e w hw, lb_or, hf.word hw hi, hg.word hw hi]
  rfl
theorem unl_loop {h : AH} {P : Option Value → AH → Prop} {b r b1 r1 b2 r2 : Nat} (B : Bo h b r) (B1 : Bo h b1 r1) (Bb : Bo h b2 r2) (hne : r1 ≠ r) (hne2 : r2 ≠ r) (k : ∀ h3, Fr [r] h h3 → (∀ v, v < 4 → gL h3 r v = gL h r v ||| (gL h r1 v ^^^ gL h r2 v)) → P none h3) : ∀ (m w : Nat) (h2 : AH), w + m = 4 → Fr [r] h h2 → (∀ v, v < w → gL h2 r v = gL h r v ||| (gL h r1 v ^^^ gL h r2 v)) → (∀ v, w ≤ v → gL h2 r v = gL h r v) → Rr mX0_addUnlike 0 0 2 [(0, .ref b), (1, .ref b1), (2, .ref b2), (3, .int (nI w))] [] h2 P
  | 0, w, h2, hw, F, e1, e2 => by
    have e : w = 4 := by omega
    subst e
    exact sX0_addUnlike_2 h2 b b1 b2 _ ⟨fun _ => k h2 F e1, fun q => absurd (by decide) q⟩
  | m + 1, w, h2, hw, F, e1, e2 => by
    have B2 := B.fr F
    have B3 := B1.fr F
    have B4 := Bb.fr F
    refine sX0_addUnlike_2 h2 b b1 b2 _ ⟨fun q => absurd q (n4le (by omega)), fun _ => ?_⟩
    rw [B2.2.1, B2.2.2.2, B3.2.1, B3.2.2.2, B4.2.1, B4.2.2.2, nI_clamp (by omega), nI_1, e2 w (Nat.le_refl w), F.L (r := r1) (by simpa using hne) w, F.L (r := r2) (by simpa using hne2) w]
    refine ⟨B2.1, B2.2.2.1, in4n (by omega), B3.1, B3.2.2.1, in4n (by omega), B4.1, B4.2.2.1, in4n (by omega), ?_⟩
    refine unl_loop B B1 Bb hne hne2 k m (w + 1) _ (by omega) (F.tr (Fr.sL (List.mem_cons_self ..))) (fun v hv => ?_) (fun v hv => (ld_k (by omega)).trans (e2 v (by omega)))
    by_cases c : v = w
    · subst c
      exact ld_h
    · exact (ld_k c).trans (e1 v (by omega))
theorem c0_unl {h : AH} {P : Option Value → AH → Prop} {b r b1 r1 b2 r2 : Nat} {f g g2 : Nat → Nat → Bool} (B : Bo h b r) (B1 : Bo h b1 r1) (B2 : Bo h b2 r2) (hne : r1 ≠ r) (hne2 : r2 ≠ r) (hf : Bd h r f) (hg : Bd h r1 g) (hg2 : Bd h r2 g2) (k : ∀ h3, Fr [r] h h3 → Bd h3 r (orf f (xof g g2)) → P none h3) : Call mX0_addUnlike [.ref b, .ref b1, .ref b2] h P := by
  refine Call.ofR (by decide +kernel) (Nat.le_of_ble_eq_true rfl) (sX0_addUnlike_0 h b b1 b2 ?_)
  refine unl_loop B B1 B2 hne hne2 (fun h3 F e => k h3 F (Bd.of (fun w i hw hi => ?_))) 4 0 h rfl Fr.rf (fun v hv => absurd hv (Nat.not_lt_zero v)) (fun v _ => rfl)
  rw [e w hw, lb_or, lb_xor, hf.word hw hi, hg.word hw hi, hg2.word hw hi]
  rfl
theorem cells_loop {h : AH} {P : Option Value → AH → Prop} {b r : Nat} {f : Nat → Nat → Bool} (B : Bo h b r) (hf : Bd h r f) (k : P (some (.int (nI (tot f 16)))) h) : ∀ (m w : Nat), w + m = 4 → Rr mX0_cells 0 0 4 [(0, .ref b), (1, .int (nI (tot f (4 * w)))), (2, .int (nI w))] [] h P
  | 0, w, hw => by
    have e : w = 4 := by omega
    subst e
    exact sX0_cells_4 h b _ _ ⟨fun _ => k, fun q => absurd (by decide) q⟩
  | m + 1, w, hw => by
    refine sX0_cells_4 h b _ _ ⟨fun q => absurd q (n4le (by omega)), fun _ => ?_⟩
    rw [B.2.1, B.2.2.2, nI_clamp (by omega), nI_1]
    refine ⟨B.1, B.2.2.1, in4n (by omega), c_bitCount ⟨_, rfl, ?_⟩⟩
    rw [nI_add, ← tot_word (f := f) (p := lb (gL h r w)) (w := w) (fun i hi => hf.word (by omega) hi)]
    exact cells_loop B hf k m (w + 1) (by omega)
theorem c0_cells {h : AH} {P : Option Value → AH → Prop} {b r : Nat} {f : Nat → Nat → Bool} (B : Bo h b r) (hf : Bd h r f) (k : P (some (.int (nI (tot f 16)))) h) : Call mX0_cells [.ref b] h P :=
  Call.ofR (by decide +kernel) (Nat.le_of_ble_eq_true rfl) (sX0_cells_0 h b (cells_loop B hf k 4 0 rfl))
/-! the reference's rows -/
def rb (x : Int32) (g : Nat → Bool) : Prop := ∀ i, bt x i = (decide (i < 16) && g i)
theorem b_r1 (x : Int32) {i : Nat} (hi : i < 32) : bt (x >>> ((1 : Int32) &&& 31)) i = if 1 + i < 32 then bt x (1 + i) else bt x 31 := b_sshr 1 (by decide) x hi
theorem b_l1 (x : Int32) {i : Nat} (hi : i < 32) : bt (x <<< ((1 : Int32) &&& 31)) i = (decide (1 ≤ i) && bt x (i - 1)) := b_shl 1 (by decide) x hi
theorem b_r2 (x : Int32) {i : Nat} (hi : i < 32) : bt (x >>> ((2 : Int32) &&& 31)) i = if 2 + i < 32 then bt x (2 + i) else bt x 31 := b_sshr 2 (by decide) x hi
theorem b_l2 (x : Int32) {i : Nat} (hi : i < 32) : bt (x <<< ((2 : Int32) &&& 31)) i = (decide (2 ≤ i) && bt x (i - 2)) := b_shl 2 (by decide) x hi
theorem b_l0 (x : Int32) {i : Nat} (hi : i < 32) : bt (x <<< ((0 : Int32) &&& 31)) i = (decide (0 ≤ i) && bt x (i - 0)) := b_shl 0 (by decide) x hi
theorem rb_big {x : Int32} {g : Nat → Bool} (h : ∀ i, i < 32 → bt x i = (decide (i < 16) && g i)) : rb x g := fun i => by
  rcases Nat.lt_or_ge i 32 with q | q
  · exact h i q
  · rw [b_big q, decide_eq_false (by omega), Bool.false_and]
theorem rb_0 : rb 0 (fun _ => false) := fun i => by rw [b_0, Bool.and_false]
theorem rb_c {x : Int32} {g g2 : Nat → Bool} (h : rb x g) (e : ∀ i, i < 16 → g i = g2 i) : rb x g2 := fun i => by
  rw [h i]
  rcases Nat.lt_or_ge i 16 with q | q
  · rw [e i q]
  · rw [decide_eq_false (by omega), Bool.false_and, Bool.false_and]
theorem rb_ext {x y : Int32} {g : Nat → Bool} (h : rb x g) (h2 : rb y g) : x = y := b_ext (fun i _ => by rw [h i, h2 i])
/-- a row shifted across -/
theorem shrow {x : Int32} {f : Nat → Nat → Bool} {y : Nat} {s : Int32} (hs : ¬ s < -2 ∧ ¬ 2 < s) (hx : rb x (f y)) : rb (if 0 ≤ s then ((x <<< (s &&& 31)) &&& 65535) else (x >>> ((-s) &&& 31))) (mvx s f y) := by
  rcases k5 hs.1 hs.2 with rfl | rfl | rfl | rfl | rfl
  · rw [if_neg (by decide), show -(-2 : Int32) = 2 from rfl]
    refine rb_big (fun i hi => ?_)
    rw [b_r2 x hi]
    show _ = (decide (i < 16) && (decide (i < 15) && (decide (i + 1 < 15) && f y (i + 1 + 1))))
    by_cases c : i < 14
    · rw [if_pos (by omega), hx, decide_eq_true (by omega), decide_eq_true (p := i < 16) (by omega), decide_eq_true (p := i < 15) (by omega), decide_eq_true (p := i + 1 < 15) (by omega), show 2 + i = i + 1 + 1 by omega]
      rfl
    · rw [decide_eq_false (p := i + 1 < 15) (by omega), Bool.false_and, Bool.and_false, Bool.and_false]
      split
      · rw [hx, decide_eq_false (by omega), Bool.false_and]
      · rw [hx, decide_eq_false (by omega), Bool.false_and]
  · rw [if_neg (by decide), show -(-1 : Int32) = 1 from rfl]
    refine rb_big (fun i hi => ?_)
    rw [b_r1 x hi]
    show _ = (decide (i < 16) && (decide (i < 15) && f y (i + 1)))
    by_cases c : i < 15
    · rw [if_pos (by omega), hx, decide_eq_true (by omega), decide_eq_true (p := i < 16) (by omega), decide_eq_true c, show 1 + i = i + 1 by omega]
      rfl
    · rw [decide_eq_false c, Bool.false_and, Bool.and_false]
      split
      · rw [hx, decide_eq_false (by omega), Bool.false_and]
      · rw [hx, decide_eq_false (by omega), Bool.false_and]
  · rw [if_pos (by decide)]
    refine rb_big (fun i hi => ?_)
    rw [b_and, b_l0 x hi, b_65535, hx]
    show _ = (decide (i < 16) && f y i)
    simp
    exact fun a _ => a
  · rw [if_pos (by decide)]
    refine rb_big (fun i hi => ?_)
    rw [b_and, b_l1 x hi, b_65535, hx]
    show _ = (decide (i < 16) && (decide (0 < i) && f y (i - 1)))
    by_cases c : i < 16
    · rw [decide_eq_true c, decide_eq_true (p := i - 1 < 16) (by omega), Bool.and_true, Bool.true_and, Bool.true_and]
      rfl
    · rw [decide_eq_false c, Bool.and_false, Bool.false_and]
  · rw [if_pos (by decide)]
    refine rb_big (fun i hi => ?_)
    rw [b_and, b_l2 x hi, b_65535, hx]
    show _ = (decide (i < 16) && (decide (0 < i) && (decide (0 < i - 1) && f y (i - 1 - 1))))
    by_cases c : i < 16
    · rw [decide_eq_true c, decide_eq_true (p := i - 2 < 16) (by omega), Bool.and_true, Bool.true_and, Bool.true_and]
      by_cases c2 : 2 ≤ i
      · rw [decide_eq_true c2, decide_eq_true (p := 0 < i) (by omega), decide_eq_true (p := 0 < i - 1) (by omega), show i - 1 - 1 = i - 2 by omega]
        rfl
      · rw [decide_eq_false c2, decide_eq_false (p := 0 < i - 1) (by omega), Bool.false_and, Bool.false_and, Bool.and_false]
    · rw [decide_eq_false c, Bool.and_false, Bool.false_and]
/-- one step of spreading or choking -/
def gst (k : Int32) (f : Nat → Nat → Bool) : Nat → Nat → Bool := if k ≤ 0 then ng (gr (ng f)) else gr f
theorem b_32768 {i : Nat} (hi : i < 32) : bt 32768 i = decide (i = 15) := (by decide +kernel : ∀ i : Fin 32, bt 32768 i = decide (i.val = 15)) ⟨i, hi⟩
theorem b_1 {i : Nat} (hi : i < 32) : bt 1 i = decide (i = 0) := (by decide +kernel : ∀ i : Fin 32, bt 1 i = decide (i.val = 0)) ⟨i, hi⟩
theorem grow_up {x ab be : Int32} {f : Nat → Nat → Bool} {y : Nat} (hx : rb x (f y)) (ha : rb ab (fun i => decide (y < 15) && f (y + 1) i)) (hb : rb be (fun i => decide (0 < y) && f (y - 1) i)) : rb ((((x ||| ab) ||| be) ||| ((x >>> ((1 : Int32) &&& 31)) ||| 0)) ||| (((x <<< ((1 : Int32) &&& 31)) &&& 65535) ||| 0)) (gr f y) := by
  refine rb_big (fun i hi => ?_)
  simp only [b_or, b_and, b_r1 x hi, b_l1 x hi, b_0, b_65535, Bool.or_false, hx i, ha i, hb i, hx (i - 1), hx (1 + i), hx 31]
  unfold gr
  by_cases c : i < 16
  · rw [decide_eq_true c, if_pos (by omega), decide_eq_true (p := i - 1 < 16) (by omega), show 1 + i = i + 1 by omega]
    by_cases c2 : i < 15
    · rw [decide_eq_true c2, decide_eq_true (p := i + 1 < 16) (by omega)]
      show _ = (true && (f y i || (decide (1 ≤ i) && f y (i - 1)) || (true && f y (i + 1)) || (decide (0 < y) && f (y - 1) i) || (decide (y < 15) && f (y + 1) i)))
      simp only [Bool.true_and, Bool.and_true]
      cases f y i <;> cases (decide (1 ≤ i) && f y (i - 1)) <;> cases f y (i + 1) <;> cases (decide (0 < y) && f (y - 1) i) <;> cases (decide (y < 15) && f (y + 1) i) <;> rfl
    · rw [decide_eq_false c2, decide_eq_false (p := i + 1 < 16) (by omega)]
      show _ = (true && (f y i || (decide (1 ≤ i) && f y (i - 1)) || (false && f y (i + 1)) || (decide (0 < y) && f (y - 1) i) || (decide (y < 15) && f (y + 1) i)))
      simp only [Bool.true_and, Bool.and_true, Bool.false_and]
      cases f y i <;> cases (decide (1 ≤ i) && f y (i - 1)) <;> cases (decide (0 < y) && f (y - 1) i) <;> cases (decide (y < 15) && f (y + 1) i) <;> rfl
  · rw [decide_eq_false c, decide_eq_false (p := 1 + i < 16) (by omega), decide_eq_false (p := 31 < 16) (by decide)]
    simp
theorem grow_dn {x ab be : Int32} {f : Nat → Nat → Bool} {y : Nat} (hx : rb x (f y)) (ha : rb ab (fun i => !decide (y < 15) || f (y + 1) i)) (hb : rb be (fun i => !decide (0 < y) || f (y - 1) i)) : rb ((((x &&& ab) &&& be) &&& ((x >>> ((1 : Int32) &&& 31)) ||| 32768)) &&& (((x <<< ((1 : Int32) &&& 31)) &&& 65535) ||| 1)) (ng (gr (ng f)) y) := by
  refine rb_big (fun i hi => ?_)
  simp only [b_or, b_and, b_r1 x hi, b_l1 x hi, b_32768 hi, b_1 hi, b_65535, hx i, ha i, hb i, hx (i - 1), hx (1 + i), hx 31]
  unfold ng gr
  by_cases c : i < 16
  · rw [decide_eq_true c, if_pos (by omega), decide_eq_true (p := i - 1 < 16) (by omega), show 1 + i = i + 1 by omega]
    have d0 : decide (i = 0) = !decide (0 < i) := by
      by_cases q : i = 0
      · rw [decide_eq_true q, decide_eq_false (by omega)]; rfl
      · rw [decide_eq_false q, decide_eq_true (by omega)]; rfl
    have d1 : decide (1 ≤ i) = decide (0 < i) := rfl
    have d2 : decide (i = 15) = !decide (i < 15) := by
      by_cases q : i = 15
      · rw [decide_eq_true q, decide_eq_false (by omega)]; rfl
      · rw [decide_eq_false q, decide_eq_true (by omega)]; rfl
    have d3 : decide (i + 1 < 16) = decide (i < 15) := by
      by_cases q : i < 15
      · rw [decide_eq_true q, decide_eq_true (by omega)]
      · rw [decide_eq_false q, decide_eq_false (by omega)]
    rw [d0, d1, d2, d3]
    simp only [Bool.true_and, Bool.and_true]
    cases f y i <;> cases decide (0 < i) <;> cases f y (i - 1) <;> cases decide (i < 15) <;> cases f y (i + 1) <;> cases decide (0 < y) <;> cases f (y - 1) i <;> cases decide (y < 15) <;> cases f (y + 1) i <;> rfl
  · rw [decide_eq_false c]
    simp
