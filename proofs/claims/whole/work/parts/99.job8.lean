theorem lb_i32 {m : Int32} (h : bt m 31 = false) {i : Nat} (hi : i < 64) : lb m.toInt64 i = bt m i := by
  unfold lb bt
  show (m.toBitVec.signExtend 64).getLsbD i = m.toBitVec.getLsbD i
  rw [BitVec.getLsbD_signExtend]
  rcases Nat.lt_or_ge i 32 with c | c
  · simp only [hi, decide_true, Bool.true_and, c, if_true]
  · have e : m.toBitVec.msb = false := by rw [BitVec.msb_eq_getLsbD_last]; exact h
    simp only [hi, decide_true, Bool.true_and, Nat.not_lt.mpr c, if_false, e]
    exact (BitVec.getLsbD_of_ge _ _ c).symm
theorem brow_or {h : AH} {W y z : Nat} {e : Int32} : brow (sL h W (z / 4) (gL h W (z / 4) ||| lshl (e &&& 65535).toInt64 (nI (16 * (z % 4))))) W y = if y = z then brow h W y ||| (e &&& 65535) else brow h W y := by
  have e31 : bt (e &&& 65535) 31 = false := by rw [b_and, b_65535]; simp
  have eb : ∀ j, bt (e &&& 65535) j = (decide (j < 16) && bt e j) := fun j => by rw [b_and, b_65535, Bool.and_comm]
  refine b_ext fun i hi => ?_
  rw [brow_bt]
  rcases Nat.lt_or_ge i 16 with c | c
  · by_cases q : y / 4 = z / 4
    · rw [q, ld_h, lb_or, lb_shl _ (by omega) _ (by omega)]
      by_cases q2 : y = z
      · subst q2
        rw [if_pos rfl, b_or, brow_bt, lb_i32 e31 (by omega), eb, eb, show 16 * (y % 4) + i - 16 * (y % 4) = i by omega]
        simp [c]
      · rw [if_neg q2, brow_bt, q]
        rcases Nat.lt_or_ge (16 * (y % 4) + i) (16 * (z % 4)) with t | t
        · simp [Nat.not_le.mpr t]
        · rw [lb_i32 e31 (by omega), eb, decide_eq_false (p := 16 * (y % 4) + i - 16 * (z % 4) < 16) (by omega)]
          simp
    · rw [ld_k q, if_neg (fun t => q (by rw [t])), brow_bt]
  · rw [decide_eq_false (by omega)]
    by_cases q2 : y = z
    · rw [if_pos q2, b_or, brow_bt, eb, decide_eq_false (by omega)]
      simp
    · rw [if_neg q2, brow_bt, decide_eq_false (by omega)]
      rfl
def jbx (D : DD) (i y n : Nat) (m : Int32) : DD := fun r k => if r = 100 + i ∧ y ≤ k ∧ k < y + n then D r k ||| m else D r k
theorem jbx_0 (D : DD) (i y : Nat) (m : Int32) : jbx D i y 0 m = D := by
  funext r k
  rw [jbx, if_neg (fun q => by omega)]
theorem CX.box {h : AH} {b : Nat → Int32} {L d i y z : Nat} {s : JS} {D : DD} {e : Int32} (X : CX h b L d (s, jbx D i y (z - y) (e &&& 65535))) (hi : i < 4) (hyz : y ≤ z) : CX (sL h (d + 7 + 2 * i) (z / 4) (gL h (d + 7 + 2 * i) (z / 4) ||| lshl (e &&& 65535).toInt64 (nI (16 * (z % 4))))) b L d (s, jbx D i y (z + 1 - y) (e &&& 65535)) := by
  have d4 := X.d4
  have H := X.2.2.2.2.2.2
  have F : Fr (dr d) h (sL h (d + 7 + 2 * i) (z / 4) (gL h (d + 7 + 2 * i) (z / 4) ||| lshl (e &&& 65535).toInt64 (nI (16 * (z % 4))))) := Fr.sL (by simp [dr]; omega)
  refine ⟨F.wf X.1, X.2.1, X.2.2.1, X.2.2.2.1, X.2.2.2.2.1, X.2.2.2.2.2.1, fun r k hr => ?_, fun j q hj hq => ?_, ?_, ?_⟩
  · have := H.1 r k hr
    show gI h (d + r) k = jbx D i y (z + 1 - y) (e &&& 65535) r k
    rw [this]
    show jbx D i y (z - y) (e &&& 65535) r k = _
    rw [jbx, jbx, if_neg (fun q => by omega), if_neg (fun q => by omega)]
  · have := H.2.1 j q hj hq
    show brow _ (d + 7 + 2 * j) q = jbx D i y (z + 1 - y) (e &&& 65535) (100 + j) q
    change brow h (d + 7 + 2 * j) q = jbx D i y (z - y) (e &&& 65535) (100 + j) q at this
    rw [jbx] at this ⊢
    by_cases c : j = i
    · subst c
      rw [brow_or, this]
      by_cases c2 : q = z
      · subst c2
        rw [if_pos rfl, if_neg (fun q => by omega), if_pos ⟨rfl, hyz, by omega⟩]
      · rw [if_neg c2]
        by_cases c3 : y ≤ q ∧ q < z
        · rw [if_pos ⟨rfl, by omega, by omega⟩, if_pos ⟨rfl, by omega, by omega⟩]
        · rw [if_neg (fun q => by omega), if_neg (fun q => by omega)]
    · rw [if_neg (fun q => by omega)] at this ⊢
      rw [← this, brow, brow, ld_r (by omega)]
  · have := H.2.2.1
    show gI h 1 1 = jbx D i y (z + 1 - y) (e &&& 65535) 200 1
    rw [this]
    show jbx D i y (z - y) (e &&& 65535) 200 1 = _
    rw [jbx, jbx, if_neg (fun q => by omega), if_neg (fun q => by omega)]
  · have := H.2.2.2
    show gI h 1 2 = jbx D i y (z + 1 - y) (e &&& 65535) 200 2
    rw [this]
    show jbx D i y (z - y) (e &&& 65535) 200 2 = _
    rw [jbx, jbx, if_neg (fun q => by omega), if_neg (fun q => by omega)]
theorem y_16a : ∀ y : Fin 16, (nI y.val % 4) * 16 = nI (16 * (y.val % 4)) ∧ (nI y.val / 4).toNatClampNeg = y.val / 4 ∧ 0 ≤ nI y.val / 4 ∧ nI y.val / 4 < 4 := by decide +kernel
theorem y_16 (y : Fin 16) : (nI y.val % 4) * 16 = nI (16 * (y.val % 4)) ∧ (nI y.val / 4).toNatClampNeg = y.val / 4 ∧ vp_in (nI y.val / 4) 4 := ⟨(y_16a y).1, (y_16a y).2.1, vin_4.2 (y_16a y).2.2⟩
theorem k_ab {h0 : AH} {P : Option Value → AH → Prop} {b : Nat → Int32} {L d i y n : Nat} {s : JS} {D : DD} {e : Int32} (hi : i < 4) (n16 : n ≤ 16) (y16 : y < 16) (k : ∀ h3, Fr (dr d) h0 h3 → CX h3 b L d (s, jbx D i y (min n (16 - y)) (e &&& 65535)) → P none h3) : ∀ (m z : Nat) (h : AH), z + m = 16 → y ≤ z → z ≤ y + n → Fr (dr d) h0 h → CX h b L d (s, jbx D i y (z - y) (e &&& 65535)) → Rr mX0_addBox 0 0 15 [(0, .ref (d + 6 + 2 * i)), (2, .int (nI y)), (4, .int (nI n)), (5, .int (e &&& 65535)), (6, .int (nI z))] [] h P
  | m, z, h, hz, hyz, hzn, F, X => by
    refine sX0_addBox_15 h _ _ _ _ _ ?_
    have B := jb X.1 X.2.1 hi
    rw [nI_add, nI_leI (by omega) (by omega), show (16 : Int32) = nI 16 from rfl, nI_leI (by omega) (by omega)]
    refine ⟨fun q => ?_, fun q => ⟨fun q2 => ?_, fun q2 => ?_⟩⟩
    · have e1 : z - y = min n (16 - y) := by omega
      rw [e1] at X
      exact k h F X
    · have e1 : z - y = min n (16 - y) := by omega
      rw [e1] at X
      exact k h F X
    · have Y := y_16 ⟨z, by omega⟩
      rw [show nI 16 = (16 : Int32) from rfl, B.2.1, B.2.2.2.2, Y.1, Y.2.1]
      cases m with
      | zero => omega
      | succ m =>
        refine ⟨B.2.2.1, B.2.2.2.1, Y.2.2, ?_⟩
        rw [nI_1]
        exact k_ab hi n16 y16 k m (z + 1) _ (by omega) (by omega) (by omega) (F.tr (Fr.sL (by simp [dr]; omega))) (X.box hi hyz)
