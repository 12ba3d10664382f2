def jone (b : Nat → Int32) (L : Nat) (c hi : Int32) (k : Nat) (x : JS × DD) : JS × DD := ((jnb b L 0 hi (jtw b L c x).1).2, u (jtw b L c x).2 0 k (jnb b L 0 hi (jtw b L c x).1).1)
theorem k_one {h : AH} {P : Option Value → AH → Prop} {b : Nat → Int32} {L d : Nat} {x : JS × DD} (X : CX h b L d x) {c hi : Int32} (k : ∀ h3, Fr (dr d) h h3 → CX h3 b L d ((jnb b L 0 hi (jtw b L c x).1).2, (jtw b L c x).2) → P (some (.int (jnb b L 0 hi (jtw b L c x).1).1)) h3) : Call mX4_onlyNumber [.ref 1, .int c, .int hi] h P := by
  refine Call.ofR (by decide +kernel) (Nat.le_of_ble_eq_true rfl) (sX4_onlyNumber_0 h 1 c hi ?_)
  refine ⟨X.1.o (by decide) rfl, k_tw X fun h3 F Y => ⟨rfl, Y.1.o (by decide) rfl, k_nb Y fun h4 F4 Z => ⟨_, rfl, k h4 (F.tr F4) Z⟩⟩⟩
def jsh2 (b : Nat → Int32) (L : Nat) (x : JS × DD) : JS × DD := ((jnb b L 10 200 (jnb b L 10 200 x.1).2).2, u (u x.2 0 1 (jnb b L 10 200 x.1).1) 0 2 (jnb b L 10 200 (jnb b L 10 200 x.1).2).1)
def jsheet (b : Nat → Int32) (L : Nat) (x : JS × DD) : JS × DD := jsh2 b L (if (jtw b L 0 x).2 0 3 ≤ 0 then (jtw b L 0 x).1 else jrf b L 5 (jtw b L 0 x).1, (jtw b L 0 x).2)
theorem k_sheet {h : AH} {P : Option Value → AH → Prop} {b : Nat → Int32} {L d : Nat} {x : JS × DD} (X : CX h b L d x) (k : ∀ h3, Fr (dr d) h h3 → CX h3 b L d (jsheet b L x) → P none h3) : Call mX4_takeSheet [.ref 1] h P := by
  refine Call.ofR (by decide +kernel) (Nat.le_of_ble_eq_true rfl) (sX4_takeSheet_0 h 1 ?_)
  refine ⟨X.1.o (by decide) rfl, k_tw X fun h2 F2 Y => ⟨rfl, Y.1.o (by decide) rfl, ?_⟩⟩
  have e3 : gI h2 d 3 = (jtw b L 0 x).2 0 3 := Y.2.2.2.2.2.2.1 0 3 (by decide)
  rw [Y.2.2.1, e3]
  refine ⟨(jo Y.1 Y.2.1).1, fun e => ?_, fun e => ?_⟩
  · rw [jsheet, if_pos e] at k
    refine k_nb Y fun h6 F6 Z => ⟨_, rfl, (jo Z.1 Z.2.1).1, Z.1.o (by decide) rfl, ?_⟩
    refine k_nb (Z.set (r := 0) (k := 1) (by decide) (by simp [dr]) _) fun h7 F7 V => ⟨_, rfl, ?_⟩
    rw [Z.2.2.1]
    exact ⟨(jo V.1 V.2.1).1, k _ ((F2.tr (F6.tr ((Fr.sI (by simp [dr])).tr F7))).tr (Fr.sI (by simp [dr]))) (V.set (r := 0) (k := 2) (by decide) (by simp [dr]) _)⟩
  · rw [jsheet, if_neg e] at k
    refine k_ref Y fun h5 F5 U => ⟨rfl, U.1.o (by decide) rfl, ?_⟩
    refine k_nb U fun h6 F6 Z => ⟨_, rfl, ?_⟩
    rw [U.2.2.1]
    refine ⟨(jo Z.1 Z.2.1).1, Z.1.o (by decide) rfl, ?_⟩
    refine k_nb (Z.set (r := 0) (k := 1) (by decide) (by simp [dr]) _) fun h7 F7 V => ⟨_, rfl, ?_⟩
    rw [Z.2.2.1]
    exact ⟨(jo V.1 V.2.1).1, k _ ((F2.tr (F5.tr (F6.tr ((Fr.sI (by simp [dr])).tr F7)))).tr (Fr.sI (by simp [dr]))) (V.set (r := 0) (k := 2) (by decide) (by simp [dr]) _)⟩
def jmark (b : Nat → Int32) (L : Nat) (x : JS × DD) : JS × DD := if x.2 0 3 < 8 then ((jnb b L 0 (x.2 0 2) (jnb b L 0 (x.2 0 1) x.1).2).2, u (u (u x.2 1 (x.2 0 3).toNatClampNeg (jnb b L 0 (x.2 0 1) x.1).1) 2 (x.2 0 3).toNatClampNeg (jnb b L 0 (x.2 0 2) (jnb b L 0 (x.2 0 1) x.1).2).1) 0 3 (x.2 0 3 + 1)) else (jrf b L 4 x.1, x.2)
theorem k_mark {h : AH} {P : Option Value → AH → Prop} {b : Nat → Int32} {L d : Nat} {x : JS × DD} (X : CX h b L d x) (m0 : 0 ≤ x.2 0 3) (k : ∀ h3, Fr (dr d) h h3 → CX h3 b L d (jmark b L x) → P none h3) : Call mX4_takeMark [.ref 1] h P := by
  refine Call.ofR (by decide +kernel) (Nat.le_of_ble_eq_true rfl) (sX4_takeMark_0 h 1 ?_)
  have e3 : gI h d 3 = x.2 0 3 := X.2.2.2.2.2.2.1 0 3 (by decide)
  have e1 : gI h d 1 = x.2 0 1 := X.2.2.2.2.2.2.1 0 1 (by decide)
  rw [X.2.2.1, e3, e1, (jf X.1 X.2.1).1, (jl X.2.1).1]
  refine ⟨X.1.o (by decide) rfl, (jo X.1 X.2.1).1, fun e => ?_, fun e => ?_⟩
  · rw [jmark, if_pos e] at k
    refine k_nb X fun h6 F6 Z => ⟨_, rfl, ?_⟩
    have z3 : gI h6 d 3 = x.2 0 3 := Z.2.2.2.2.2.2.1 0 3 (by decide)
    have z2 : gI h6 d 2 = x.2 0 2 := Z.2.2.2.2.2.2.1 0 2 (by decide)
    rw [Z.2.2.1, z3, z2, (jf Z.1 Z.2.1).2.1, (jl X.2.1).2.1]
    have v8 : vp_in (x.2 0 3) 8 := vin_8.2 ⟨m0, e⟩
    refine ⟨(jo Z.1 Z.2.1).2.2.1, v8, Z.1.o (by decide) rfl, (jo Z.1 Z.2.1).1, ?_⟩
    refine k_nb (Z.set (r := 1) (k := (x.2 0 3).toNatClampNeg) (by decide) (by simp [dr]) _) fun h7 F7 V => ⟨_, rfl, ?_⟩
    have y3 : gI h7 d 3 = x.2 0 3 := V.2.2.2.2.2.2.1 0 3 (by decide)
    rw [V.2.2.1, y3]
    refine ⟨(jo V.1 V.2.1).2.2.2.1, v8, V.1.o (by decide) rfl, (jo V.1 V.2.1).1, k _ (((F6.tr ((Fr.sI (by simp [dr])).tr F7)).tr (Fr.sI (by simp [dr]))).tr (Fr.sI (by simp [dr]))) ?_⟩
    exact (V.set (r := 2) (k := (x.2 0 3).toNatClampNeg) (by decide) (by simp [dr]) _).set (r := 0) (k := 3) (by decide) (by simp [dr]) _
  · rw [jmark, if_neg e] at k
    exact k_ref X fun h5 F5 U => ⟨rfl, k h5 F5 U⟩
def jscreen (b : Nat → Int32) (L : Nat) (x : JS × DD) : JS × DD := if x.2 14 0 < 8 then ((jnb b L 1 30 (jnb b L 1 30 x.1).2).2, u (u (u x.2 15 (x.2 14 0).toNatClampNeg (jnb b L 1 30 x.1).1) 16 (x.2 14 0).toNatClampNeg (jnb b L 1 30 (jnb b L 1 30 x.1).2).1) 14 0 (x.2 14 0 + 1)) else (jrf b L 4 x.1, x.2)
theorem k_screen {h : AH} {P : Option Value → AH → Prop} {b : Nat → Int32} {L d : Nat} {x : JS × DD} (X : CX h b L d x) (m0 : 0 ≤ x.2 14 0) (k : ∀ h3, Fr (dr d) h h3 → CX h3 b L d (jscreen b L x) → P none h3) : Call mX4_takeScreen [.ref 1] h P := by
  refine Call.ofR (by decide +kernel) (Nat.le_of_ble_eq_true rfl) (sX4_takeScreen_0 h 1 ?_)
  have e3 : gI h (d + 14) 0 = x.2 14 0 := X.2.2.2.2.2.2.1 14 0 (by decide)
  rw [X.2.2.1, (jf X.1 X.2.1).2.2.2.2.2.1, e3]
  refine ⟨X.1.o (by decide) rfl, (jo X.1 X.2.1).1, (jo X.1 X.2.1).2.1, fun e => ?_, fun e => ?_⟩
  · rw [jscreen, if_pos e] at k
    refine k_nb X fun h6 F6 Z => ⟨_, rfl, Z.1.o (by decide) rfl, k_nb Z fun h7 F7 V => ⟨_, rfl, ?_⟩⟩
    rw [V.2.2.1, (jf V.1 V.2.1).2.2.2.2.2.1]
    refine ⟨V.1.o (by decide) rfl, (jo V.1 V.2.1).1, (jo V.1 V.2.1).2.1, ?_⟩
    refine Call.ofR (by decide +kernel) (Nat.le_of_ble_eq_true rfl) (sX8_put_0 h7 (d + 14) _ _ ?_)
    have y3 : gI h7 (d + 14) 0 = x.2 14 0 := V.2.2.2.2.2.2.1 14 0 (by decide)
    rw [y3, (jf V.1 V.2.1).2.2.2.2.2.2.2.1, (jf V.1 V.2.1).2.2.2.2.2.2.2.2, (jl X.2.1).2.2.2.2.2.1, (jl X.2.1).2.2.2.2.2.2.1]
    have v8 : vp_in (x.2 14 0) 8 := vin_8.2 ⟨m0, e⟩
    refine ⟨(jo V.1 V.2.1).2.1, fun q => absurd q (nle.2 e), fun _ => ⟨(jo V.1 V.2.1).2.2.2.2.2.2.2.1, v8, (jo V.1 V.2.1).2.2.2.2.2.2.2.2.1, v8, rfl, k _ ((((F6.tr F7).tr (Fr.sI (by simp [dr]))).tr (Fr.sI (by simp [dr]))).tr (Fr.sI (by simp [dr]))) ?_⟩⟩
    exact ((V.set (r := 15) (k := (x.2 14 0).toNatClampNeg) (by decide) (by simp [dr]) _).set (r := 16) (k := (x.2 14 0).toNatClampNeg) (by decide) (by simp [dr]) _).set (r := 14) (k := 0) (by decide) (by simp [dr]) _
  · rw [jscreen, if_neg e] at k
    exact k_ref X fun h5 F5 U => ⟨rfl, k h5 F5 U⟩
