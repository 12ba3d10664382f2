theorem n16le {w : Nat} (hw : w < 16) : ¬ 16 ≤ nI w := by
  rw [show (16 : Int32) = nI 16 from rfl, nI_leI (by decide) (by omega)]
  omega
theorem in64 {w : Nat} (hw : w < 64) : vp_in (nI w) 64 := vp_in_nI (by omega) (by omega)
theorem Rw.rb {h : AH} {r o : Nat} {f : Nat → Nat → Bool} (hw : Rw h r o f) {y : Nat} (hy : y < 16) : rb (gI h r (o + y)) (f y) := hw y hy
/-- the help rows copied back -/
theorem sp227 {h : AH} {P : Option Value → AH → Prop} (w : Wf h) {x2 x4 : Int32} {to : Nat} (ht : to + 16 ≤ 32) {g : Nat → Nat → Bool} (hg : Rw h 143 32 g) (k : ∀ h3, Fr [143] h h3 → Rw h3 143 to g → (∀ p, (p < to ∨ to + 16 ≤ p) → gI h3 143 p = gI h 143 p) → Rr mX12_spreadTo 0 0 40 [(0, .ref 116), (2, .int x2), (3, .int (nI to)), (4, .int (x4 + 1))] [] h3 P) : ∀ (m y : Nat) (h2 : AH), y + m = 16 → Fr [143] h h2 → (∀ v, v < y → rb (gI h2 143 (to + v)) (g v)) → (∀ p, (p < to ∨ to + 16 ≤ p) → gI h2 143 p = gI h 143 p) → Rr mX12_spreadTo 0 0 227 [(0, .ref 116), (2, .int x2), (3, .int (nI to)), (4, .int x4), (5, .int (nI y))] [] h2 P
  | 0, y, h2, hy, F, e1, e2 => by
    have e : y = 16 := by omega
    subst e
    exact sX12_spreadTo_227 h2 116 _ _ _ _ ⟨fun _ => k h2 F (fun y hy => e1 y hy) e2, fun q => absurd (by decide) q⟩
  | m + 1, y, h2, hy, F, e1, e2 => by
    have w2 := F.wf w
    refine sX12_spreadTo_227 h2 116 _ _ _ _ ⟨fun q => absurd q (n16le (by omega)), fun _ => ?_⟩
    rw [w2.f116_45, show (32 : Int32) = nI 32 from rfl, nI_add, nI_add, nI_clamp (by omega), nI_clamp (by omega), nI_1, e2 (32 + y) (by omega)]
    refine ⟨w2.o (by decide) rfl, w2.a (by decide) rfl, in64 (by omega), in64 (by omega), ?_⟩
    refine sp227 w ht hg k m (y + 1) _ (by omega) (F.tr (Fr.sI (by decide))) (fun v hv => ?_) (fun p hp => (rd_k (by omega)).trans (e2 p hp))
    by_cases c : v = y
    · subst c
      rw [rd_h]
      exact hg.rb (by omega)
    · rw [rd_k (by omega)]
      exact e1 v (by omega)
theorem sp52 {h : AH} {P : Option Value → AH → Prop} (w : Wf h) {x2 x4 : Int32} {to : Nat} (ht : to + 16 ≤ 32) {f : Nat → Nat → Bool} (hf : Rw h 143 to f) (k : ∀ h3, Fr [143] h h3 → Rw h3 143 32 (gst x2 f) → (∀ p, (p < 32 ∨ 48 ≤ p) → gI h3 143 p = gI h 143 p) → Rr mX12_spreadTo 0 0 227 [(0, .ref 116), (2, .int x2), (3, .int (nI to)), (4, .int x4), (5, .int 0)] [] h3 P) : ∀ (m y : Nat) (h2 : AH), y + m = 16 → Fr [143] h h2 → (∀ v, v < y → rb (gI h2 143 (32 + v)) (gst x2 f v)) → (∀ p, (p < 32 ∨ 48 ≤ p) → gI h2 143 p = gI h 143 p) → Rr mX12_spreadTo 0 0 52 [(0, .ref 116), (2, .int x2), (3, .int (nI to)), (4, .int x4), (5, .int (nI y))] [] h2 P
  | 0, y, h2, hy, F, e1, e2 => by
    have e : y = 16 := by omega
    subst e
    exact sX12_spreadTo_52 h2 116 _ _ _ _ ⟨fun _ => k h2 F (fun y hy => e1 y hy) e2, fun q => absurd (by decide) q⟩
  | m + 1, y, h2, hy, F, e1, e2 => by
    have w2 := F.wf w
    refine sX12_spreadTo_52 h2 116 _ _ _ _ ⟨fun q => absurd q (n16le (by omega)), fun _ => ?_⟩
    rw [w2.f116_45, show (32 : Int32) = nI 32 from rfl, nI_add, nI_add, nI_1, nI_1, nI_clamp (by omega), nI_clamp (by omega), nI_clamp (by omega), e2 (to + y) (by omega)]
    have c16 : (16 : Int32) ≤ nI (y + 1) ↔ y = 15 := by
      rw [show (16 : Int32) = nI 16 from rfl, nI_leI (by decide) (by omega)]
      omega
    have c0 : nI y ≤ 0 ↔ y = 0 := by
      rw [show (0 : Int32) = nI 0 from rfl, nI_leI (by omega) (by decide)]
      omega
    have m1 : ∀ q : ¬ y = 0, nI (to + y) - 1 = nI (to + (y - 1)) := fun q => by
      have := nI_pred (to + (y - 1))
      rw [show to + (y - 1) + 1 = to + y by omega] at this
      exact this
    refine ⟨w2.o (by decide) rfl, w2.a (by decide) rfl, in64 (by omega), fun q => in64 (by rw [c16] at q; omega), fun z8 h8 => ⟨fun q => ?_, fun z12 h12 z14 h14 v16 h16 z18 h18 => ⟨in64 (by omega), ?_⟩⟩⟩
    · rw [c0] at q
      rw [m1 q]
      exact in64 (by omega)
    have hx := hf.rb (y := y) (by omega)
    have big : rb z18 (gst x2 f y) := by
      unfold gst
      by_cases c : x2 ≤ 0
      · rw [if_pos c]
        rw [if_pos c] at h14 h18
        have hbi : bi (x2 ≤ 0) = 1 := if_pos c
        rw [hbi] at h16
        rw [h18, h16, h14]
        refine grow_dn hx ?_ ?_
        · rw [h8]
          by_cases c2 : y = 15
          · rw [if_pos (c16.mpr c2), if_pos c]
            intro i
            rw [b_65535, decide_eq_false (p := y < 15) (by omega)]
            simp
          · rw [if_neg (fun q => c2 (c16.mp q)), e2 _ (by omega)]
            refine rb_c (hf.rb (y := y + 1) (by omega)) (fun i hi => ?_)
            rw [decide_eq_true (p := y < 15) (by omega)]
            rfl
        · rw [h12]
          by_cases c2 : y = 0
          · rw [if_pos (c0.mpr c2), if_pos c]
            intro i
            rw [b_65535, decide_eq_false (p := 0 < y) (by omega)]
            simp
          · rw [if_neg (fun q => c2 (c0.mp q)), m1 c2, nI_clamp (by omega), e2 _ (by omega)]
            refine rb_c (hf.rb (y := y - 1) (by omega)) (fun i hi => ?_)
            rw [decide_eq_true (p := 0 < y) (by omega)]
            rfl
      · rw [if_neg c]
        rw [if_neg c] at h14 h18
        have hbi : bi (x2 ≤ 0) = 0 := if_neg c
        rw [hbi] at h16
        rw [h18, h16, h14]
        refine grow_up hx ?_ ?_
        · rw [h8]
          by_cases c2 : y = 15
          · rw [if_pos (c16.mpr c2), if_neg c]
            refine rb_c rb_0 (fun i hi => ?_)
            rw [decide_eq_false (p := y < 15) (by omega)]
            rfl
          · rw [if_neg (fun q => c2 (c16.mp q)), e2 _ (by omega)]
            refine rb_c (hf.rb (y := y + 1) (by omega)) (fun i hi => ?_)
            rw [decide_eq_true (p := y < 15) (by omega)]
            rfl
        · rw [h12]
          by_cases c2 : y = 0
          · rw [if_pos (c0.mpr c2), if_neg c]
            refine rb_c rb_0 (fun i hi => ?_)
            rw [decide_eq_false (p := 0 < y) (by omega)]
            rfl
          · rw [if_neg (fun q => c2 (c0.mp q)), m1 c2, nI_clamp (by omega), e2 _ (by omega)]
            refine rb_c (hf.rb (y := y - 1) (by omega)) (fun i hi => ?_)
            rw [decide_eq_true (p := 0 < y) (by omega)]
            rfl
    refine sp52 w ht hf k m (y + 1) _ (by omega) (F.tr (Fr.sI (by decide))) (fun v hv => ?_) (fun p hp => (rd_k (by omega)).trans (e2 p hp))
    by_cases c : v = y
    · subst c
      rw [rd_h]
      exact big
    · rw [rd_k (by omega)]
      exact e1 v (by omega)
theorem sp_once {h : AH} {P : Option Value → AH → Prop} (w : Wf h) {x2 x4 : Int32} {to : Nat} (ht : to + 16 ≤ 32) {f : Nat → Nat → Bool} (hf : Rw h 143 to f) (k : ∀ h3, Fr [143] h h3 → Rw h3 143 to (gst x2 f) → (∀ p, p < 32 → (p < to ∨ to + 16 ≤ p) → gI h3 143 p = gI h 143 p) → Rr mX12_spreadTo 0 0 40 [(0, .ref 116), (2, .int x2), (3, .int (nI to)), (4, .int (x4 + 1))] [] h3 P) : Rr mX12_spreadTo 0 0 52 [(0, .ref 116), (2, .int x2), (3, .int (nI to)), (4, .int x4), (5, .int 0)] [] h P := by
  refine sp52 w ht hf (fun h2 F2 e2 u2 => ?_) 16 0 h rfl Fr.rf (fun v hv => absurd hv (Nat.not_lt_zero v)) (fun _ _ => rfl)
  refine sp227 (F2.wf w) ht e2 (fun h3 F3 e3 u3 => ?_) 16 0 h2 rfl Fr.rf (fun v hv => absurd hv (Nat.not_lt_zero v)) (fun _ _ => rfl)
  exact k h3 (F2.tr F3) e3 (fun p hp hq => (u3 p hq).trans (u2 p (by omega)))
theorem sp3 {h : AH} {P : Option Value → AH → Prop} (w : Wf h) {x2 : Int32} {ink to : Nat} (hi : ink < 4) (ht : to + 16 ≤ 32) {f : Nat → Nat → Bool} (hf : Rw h 123 (16 * ink) f) (k : ∀ h3, Fr [143] h h3 → Rw h3 143 to f → (∀ p, (p < to ∨ to + 16 ≤ p) → gI h3 143 p = gI h 143 p) → Rr mX12_spreadTo 0 0 40 [(0, .ref 116), (2, .int x2), (3, .int (nI to)), (4, .int 0)] [] h3 P) : ∀ (m y : Nat) (h2 : AH), y + m = 16 → Fr [143] h h2 → (∀ v, v < y → rb (gI h2 143 (to + v)) (f v)) → (∀ p, (p < to ∨ to + 16 ≤ p) → gI h2 143 p = gI h 143 p) → Rr mX12_spreadTo 0 0 3 [(0, .ref 116), (1, .int (nI ink)), (2, .int x2), (3, .int (nI to)), (4, .int (nI y))] [] h2 P
  | 0, y, h2, hy, F, e1, e2 => by
    have e : y = 16 := by omega
    subst e
    exact sX12_spreadTo_3 h2 116 _ _ _ _ ⟨fun _ => k h2 F (fun y hy => e1 y hy) e2, fun q => absurd (by decide) q⟩
  | m + 1, y, h2, hy, F, e1, e2 => by
    have w2 := F.wf w
    refine sX12_spreadTo_3 h2 116 _ _ _ _ ⟨fun q => absurd q (n16le (by omega)), fun _ => ?_⟩
    rw [w2.f116_45, w2.f116_16, show (16 : Int32) = nI 16 from rfl, pk_mul, nI_add, nI_add, nI_clamp (by omega), nI_clamp (by omega), nI_1, F.I (r := 123) (by decide)]
    refine ⟨w2.o (by decide) rfl, w2.a (by decide) rfl, vp_in_nI (show 16 * ink + y < 128 by omega) (by decide), w2.a (by decide) rfl, in64 (by omega), ?_⟩
    refine sp3 w hi ht hf k m (y + 1) _ (by omega) (F.tr (Fr.sI (by decide))) (fun v hv => ?_) (fun p hp => (rd_k (by omega)).trans (e2 p hp))
    by_cases c : v = y
    · subst c
      rw [rd_h]
      exact hf.rb (by omega)
    · rw [rd_k (by omega)]
      exact e1 v (by omega)
theorem ng_ng (f : Nat → Nat → Bool) : ng (ng f) = f := by
  funext y x
  unfold ng
  exact Bool.not_not _
theorem c12_spread {h : AH} {P : Option Value → AH → Prop} (w : Wf h) {x2 : Int32} (hx : ¬ x2 < -2 ∧ ¬ 2 < x2) {ink to : Nat} (hi : ink < 4) (ht : to + 16 ≤ 32) {f : Nat → Nat → Bool} (hf : Rw h 123 (16 * ink) f) (k : ∀ h3, Fr [143] h h3 → Rw h3 143 to (spr x2 f) → (∀ p, p < 32 → (p < to ∨ to + 16 ≤ p) → gI h3 143 p = gI h 143 p) → P none h3) : Call mX12_spreadTo [.ref 116, .int (nI ink), .int x2, .int (nI to)] h P := by
  refine Call.ofR (by decide +kernel) (Nat.le_of_ble_eq_true rfl) (sX12_spreadTo_0 h 116 _ _ _ ?_)
  refine sp3 w hi ht hf (fun h1 F1 e1 u1 => ?_) 16 0 h rfl Fr.rf (fun v hv => absurd hv (Nat.not_lt_zero v)) (fun _ _ => rfl)
  have w1 := F1.wf w
  have a1 : (0 : Int32) + 1 = 1 := rfl
  have a2 : (1 : Int32) + 1 = 2 := rfl
  rcases k5 hx.1 hx.2 with rfl | rfl | rfl | rfl | rfl
  · refine sX12_spreadTo_40 h1 116 _ _ _ ⟨fun q => absurd q (by decide), fun _ => ?_⟩
    refine sp_once w1 ht e1 (fun h2 F2 e2 u2 => ?_)
    rw [a1]
    refine sX12_spreadTo_40 h2 116 _ _ _ ⟨fun q => absurd q (by decide), fun _ => ?_⟩
    refine sp_once (F2.wf w1) ht e2 (fun h3 F3 e3 u3 => ?_)
    rw [a2]
    refine sX12_spreadTo_40 h3 116 _ _ _ ⟨fun _ => k h3 ((F1.tr F2).tr F3) ?_ (fun p hp hq => (u3 p hp hq).trans ((u2 p hp hq).trans (u1 p hq))), fun q => absurd (by decide) q⟩
    have e : gst (-2) (gst (-2) f) = spr (-2) f := by
      show ng (gr (ng (ng (gr (ng f))))) = ng (gr (gr (ng f)))
      rw [ng_ng]
    rw [← e]
    exact e3
  · refine sX12_spreadTo_40 h1 116 _ _ _ ⟨fun q => absurd q (by decide), fun _ => ?_⟩
    refine sp_once w1 ht e1 (fun h2 F2 e2 u2 => ?_)
    rw [a1]
    exact sX12_spreadTo_40 h2 116 _ _ _ ⟨fun _ => k h2 (F1.tr F2) e2 (fun p hp hq => (u2 p hp hq).trans (u1 p hq)), fun q => absurd (by decide) q⟩
  · exact sX12_spreadTo_40 h1 116 _ _ _ ⟨fun _ => k h1 F1 e1 (fun p hp hq => u1 p hq), fun q => absurd (by decide) q⟩
  · refine sX12_spreadTo_40 h1 116 _ _ _ ⟨fun q => absurd q (by decide), fun _ => ?_⟩
    refine sp_once w1 ht e1 (fun h2 F2 e2 u2 => ?_)
    rw [a1]
    exact sX12_spreadTo_40 h2 116 _ _ _ ⟨fun _ => k h2 (F1.tr F2) e2 (fun p hp hq => (u2 p hp hq).trans (u1 p hq)), fun q => absurd (by decide) q⟩
  · refine sX12_spreadTo_40 h1 116 _ _ _ ⟨fun q => absurd q (by decide), fun _ => ?_⟩
    refine sp_once w1 ht e1 (fun h2 F2 e2 u2 => ?_)
    rw [a1]
    refine sX12_spreadTo_40 h2 116 _ _ _ ⟨fun q => absurd q (by decide), fun _ => ?_⟩
    refine sp_once (F2.wf w1) ht e2 (fun h3 F3 e3 u3 => ?_)
    rw [a2]
    exact sX12_spreadTo_40 h3 116 _ _ _ ⟨fun _ => k h3 ((F1.tr F2).tr F3) e3 (fun p hp hq => (u3 p hp hq).trans ((u2 p hp hq).trans (u1 p hq))), fun q => absurd (by decide) q⟩
/-! carry -/
theorem ca61 {h : AH} {P : Option Value → AH → Prop} (w : Wf h) {g : Nat → Nat → Bool} (hg : Rw h 143 32 g) (k : ∀ h3, Fr [143] h h3 → Rw h3 143 16 g → (∀ p, p < 16 → gI h3 143 p = gI h 143 p) → P none h3) : ∀ (m y : Nat) (h2 : AH), y + m = 16 → Fr [143] h h2 → (∀ v, v < y → rb (gI h2 143 (16 + v)) (g v)) → (∀ p, (p < 16 ∨ 32 ≤ p) → gI h2 143 p = gI h 143 p) → Rr mX12_carry 0 0 61 [(0, .ref 116), (1, .int 16), (4, .int (nI y))] [] h2 P
  | 0, y, h2, hy, F, e1, e2 => by
    have e : y = 16 := by omega
    subst e
    exact sX12_carry_61 h2 116 _ _ ⟨fun _ => k h2 F (fun y hy => e1 y hy) (fun p hp => e2 p (Or.inl hp)), fun q => absurd (by decide) q⟩
  | m + 1, y, h2, hy, F, e1, e2 => by
    have w2 := F.wf w
    refine sX12_carry_61 h2 116 _ _ ⟨fun q => absurd q (n16le (by omega)), fun _ => ?_⟩
    have e16 : (16 : Int32) + nI y = nI (16 + y) := nI_add 16 y
    have e32 : (32 : Int32) + nI y = nI (32 + y) := nI_add 32 y
    rw [w2.f116_45, e16, e32, nI_clamp (by omega), nI_clamp (by omega), nI_1, e2 (32 + y) (by omega)]
    refine ⟨w2.o (by decide) rfl, w2.a (by decide) rfl, in64 (by omega), in64 (by omega), ?_⟩
    refine ca61 w hg k m (y + 1) _ (by omega) (F.tr (Fr.sI (by decide))) (fun v hv => ?_) (fun p hp => (rd_k (by omega)).trans (e2 p hp))
    by_cases c : v = y
    · subst c
      rw [rd_h]
      exact hg.rb (by omega)
    · rw [rd_k (by omega)]
      exact e1 v (by omega)
/-- where row y comes from -/
def frm (j : Int32) (y : Nat) : Option Nat := if j = 1 then (if 0 < y then some (y - 1) else none) else if j = 2 then (if 1 < y then some (y - 2) else none) else if j = -1 then (if y < 15 then some (y + 1) else none) else if j = -2 then (if y < 14 then some (y + 2) else none) else some y
theorem frm_n : ∀ (y : Fin 16), (∀ j ∈ [(-2 : Int32), -1, 0, 1, 2], ((¬ (nI y - j) < 0 ∧ ¬ 15 < (nI y - j)) ↔ (frm j y.val).isSome = true) ∧ ∀ v ∈ frm j y.val, v < 16 ∧ nI y - j = nI v ∧ (16 + nI y) - j = nI (16 + v)) := by decide +kernel
theorem frm_f {f : Nat → Nat → Bool} {j : Int32} (hj : ¬ j < -2 ∧ ¬ 2 < j) {y : Nat} (hy : y < 16) (x : Nat) : mvy j f y x = (match frm j y with | some v => f v x | none => false) := by
  rcases k5 hj.1 hj.2 with rfl | rfl | rfl | rfl | rfl
  · show (decide (y < 15) && (decide (y + 1 < 15) && f (y + 1 + 1) x)) = (match (if y < 14 then some (y + 2) else none) with | some v => f v x | none => false)
    by_cases c : y < 14
    · rw [if_pos c, decide_eq_true (p := y < 15) (by omega), decide_eq_true (p := y + 1 < 15) (by omega)]
      rfl
    · rw [if_neg c, decide_eq_false (p := y + 1 < 15) (by omega), Bool.false_and, Bool.and_false]
  · show (decide (y < 15) && f (y + 1) x) = (match (if y < 15 then some (y + 1) else none) with | some v => f v x | none => false)
    by_cases c : y < 15
    · rw [if_pos c, decide_eq_true c]
      rfl
    · rw [if_neg c, decide_eq_false c, Bool.false_and]
  · rfl
  · show (decide (0 < y) && f (y - 1) x) = (match (if 0 < y then some (y - 1) else none) with | some v => f v x | none => false)
    by_cases c : 0 < y
    · rw [if_pos c, decide_eq_true c]
      rfl
    · rw [if_neg c, decide_eq_false c, Bool.false_and]
  · show (decide (0 < y) && (decide (0 < y - 1) && f (y - 1 - 1) x)) = (match (if 1 < y then some (y - 2) else none) with | some v => f v x | none => false)
    by_cases c : 1 < y
    · rw [if_pos c, decide_eq_true (p := 0 < y) (by omega), decide_eq_true (p := 0 < y - 1) (by omega)]
      rfl
    · rw [if_neg c, decide_eq_false (p := 0 < y - 1) (by omega), Bool.false_and, Bool.and_false]
theorem k5m {k : Int32} (h : ¬ k < -2 ∧ ¬ 2 < k) : k ∈ [(-2 : Int32), -1, 0, 1, 2] := by
  rcases k5 h.1 h.2 with rfl | rfl | rfl | rfl | rfl <;> decide
/-- a row that comes from another, shifted -/
theorem carry_row {f : Nat → Nat → Bool} {i j : Int32} (hi : ¬ i < -2 ∧ ¬ 2 < i) (hj : ¬ j < -2 ∧ ¬ 2 < j) {y : Nat} (hy : y < 16) {row z : Int32} (hr : ∀ v, frm j y = some v → rb row (f v)) (hz : z = (if (¬ (nI y - j) < 0 ∧ ¬ 15 < (nI y - j)) then (if 0 ≤ i then ((row <<< (i &&& 31)) &&& 65535) else (row >>> ((-i) &&& 31))) else 0)) : rb z (mvy j (mvx i f) y) := by
  obtain ⟨q1, q2⟩ := frm_n ⟨y, hy⟩ j (k5m hj)
  simp only at q1 q2
  have ff := fun x => frm_f (f := mvx i f) hj hy x
  cases c : frm j y with
  | none =>
    rw [c] at q1
    rw [hz, if_neg (fun z => absurd (q1.mp z) (by decide))]
    refine rb_c rb_0 (fun x hx => ?_)
    rw [ff x, c]
  | some v =>
    rw [c] at q1
    rw [hz, if_pos (q1.mpr rfl)]
    refine rb_c (shrow hi (hr v c)) (fun x hx => ?_)
    rw [ff x, c]
theorem ca3 {h : AH} {P : Option Value → AH → Prop} (w : Wf h) {i j : Int32} (hi : ¬ i < -2 ∧ ¬ 2 < i) (hj : ¬ j < -2 ∧ ¬ 2 < j) {f : Nat → Nat → Bool} (hf : Rw h 143 16 f) (k : ∀ h3, Fr [143] h h3 → Rw h3 143 32 (mvy j (mvx i f)) → (∀ p, p < 32 → gI h3 143 p = gI h 143 p) → Rr mX12_carry 0 0 61 [(0, .ref 116), (1, .int 16), (4, .int 0)] [] h3 P) : ∀ (m y : Nat) (h2 : AH), y + m = 16 → Fr [143] h h2 → (∀ v, v < y → rb (gI h2 143 (32 + v)) (mvy j (mvx i f) v)) → (∀ p, p < 32 → gI h2 143 p = gI h 143 p) → Rr mX12_carry 0 0 3 [(0, .ref 116), (1, .int 16), (2, .int i), (3, .int j), (4, .int (nI y))] [] h2 P
  | 0, y, h2, hy, F, e1, e2 => by
    have e : y = 16 := by omega
    subst e
    exact sX12_carry_3 h2 116 _ _ _ _ ⟨fun _ => k h2 F (fun y hy => e1 y hy) e2, fun q => absurd (by decide) q⟩
  | m + 1, y, h2, hy, F, e1, e2 => by
    have w2 := F.wf w
    have hy16 : y < 16 := by omega
    obtain ⟨q1, q2⟩ := frm_n ⟨y, hy16⟩ j (k5m hj)
    simp only at q1 q2
    refine sX12_carry_3 h2 116 _ _ _ _ ⟨fun q => absurd q (n16le (by omega)), fun _ => ?_⟩
    have e32 : (32 : Int32) + nI y = nI (32 + y) := nI_add 32 y
    rw [w2.f116_45, e32, nI_clamp (n := 32 + y) (by omega), nI_1]
    refine ⟨w2.o (by decide) rfl, w2.a (by decide) rfl, fun q => ?_, fun z6 h6 => ⟨in64 (by omega), ?_⟩⟩
    · have s := q1.mp q
      cases c : frm j y with
      | none => rw [c] at s; exact absurd s (by decide)
      | some v =>
        obtain ⟨v1, v2, v3⟩ := q2 v c
        rw [v3]
        exact in64 (by omega)
    have big : rb z6 (mvy j (mvx i f) y) := by
      refine carry_row hi hj hy16 (fun v hv => ?_) h6
      obtain ⟨v1, v2, v3⟩ := q2 v hv
      rw [v3, nI_clamp (by omega), e2 _ (by omega)]
      exact hf.rb v1
    refine ca3 w hi hj hf k m (y + 1) _ (by omega) (F.tr (Fr.sI (by decide))) (fun v hv => ?_) (fun p hp => (rd_k (by omega)).trans (e2 p hp))
    by_cases c : v = y
    · subst c
      rw [rd_h]
      exact big
    · rw [rd_k (by omega)]
      exact e1 v (by omega)
theorem c12_carry {h : AH} {P : Option Value → AH → Prop} (w : Wf h) {i j : Int32} (hi : ¬ i < -2 ∧ ¬ 2 < i) (hj : ¬ j < -2 ∧ ¬ 2 < j) {f : Nat → Nat → Bool} (hf : Rw h 143 16 f) (k : ∀ h3, Fr [143] h h3 → Rw h3 143 16 (mvy j (mvx i f)) → (∀ p, p < 16 → gI h3 143 p = gI h 143 p) → P none h3) : Call mX12_carry [.ref 116, .int 16, .int i, .int j] h P := by
  refine Call.ofR (by decide +kernel) (Nat.le_of_ble_eq_true rfl) (sX12_carry_0 h 116 _ _ _ ?_)
  refine ca3 w hi hj hf (fun h2 F2 e2 u2 => ?_) 16 0 h rfl Fr.rf (fun v hv => absurd hv (Nat.not_lt_zero v)) (fun _ _ => rfl)
  refine ca61 (F2.wf w) e2 (fun h3 F3 e3 u3 => ?_) 16 0 h2 rfl Fr.rf (fun v hv => absurd hv (Nat.not_lt_zero v)) (fun _ _ => rfl)
  exact k h3 (F2.tr F3) e3 (fun p hp => (u3 p hp).trans (u2 p (by omega)))
