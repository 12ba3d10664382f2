theorem jnb_rng (b : Nat → Int32) (L : Nat) {lo hi : Int32} (hl : lo ≤ hi) (s : JS) : lo ≤ (jnb b L lo hi s).1 ∧ (jnb b L lo hi s).1 ≤ hi := by
  have ll : lo ≤ lo ∧ lo ≤ hi := ⟨by grind, hl⟩
  rw [jnb]
  by_cases e : s.1 = 0
  · rw [if_pos e, jnh]
    by_cases q : tk b L (jnx b L s).2.2 = 2
    · rw [if_pos q]
      by_cases q2 : val b L (jnx b L s).2.2 < lo
      · rw [if_pos q2]
        exact ll
      · rw [if_neg q2]
        by_cases q3 : val b L (jnx b L s).2.2 ≤ hi
        · rw [if_pos q3]
          exact ⟨by grind, q3⟩
        · rw [if_neg q3]
          exact ll
    · rw [if_neg q]
      exact ll
  · rw [if_neg e]
    exact ll
theorem k_add {h : AH} {P : Option Value → AH → Prop} {b : Nat → Int32} {L d : Nat} {s : JS} {D : DD} (X : CX h b L d (s, D)) {i : Nat} (hi : i < 4) {x y v n : Int32} (hy : 0 ≤ y ∧ y ≤ 15) (hn : 1 ≤ n ∧ n ≤ 16) (k : ∀ h3, Fr (dr d) h h3 → CX h3 b L d (s, jbx D i y.toNatClampNeg (min n.toNatClampNeg (16 - y.toNatClampNeg)) (((((1 : Int32) <<< (v &&& 31)) - 1) <<< (x &&& 31)) &&& 65535)) → P none h3) : Call mX0_addBox [.ref (d + 6 + 2 * i), .int x, .int y, .int v, .int n] h P := by
  obtain ⟨yn, hyn, e1⟩ : ∃ m : Nat, m ≤ 15 ∧ y = nI m := nI_of2 (M := 15) rfl (by have := hy.1; grind) (by have := hy.2; grind)
  obtain ⟨nn, hnn, e2⟩ : ∃ m : Nat, m ≤ 16 ∧ n = nI m := nI_of2 (M := 16) rfl (by have := hn.1; grind) (by have := hn.2; grind)
  subst e1 e2
  rw [nI_clamp (by omega), nI_clamp (by omega)] at k
  refine Call.ofR (by decide +kernel) (Nat.le_of_ble_eq_true rfl) (sX0_addBox_0 h _ _ _ _ _ ?_)
  refine k_ab hi hnn (by omega) k (16 - yn) yn h (by omega) (Nat.le_refl _) (by omega) Fr.rf ?_
  rw [Nat.sub_self, jbx_0]
  exact X
noncomputable def jbox2 (b : Nat → Int32) (L : Nat) (i : Int32) (x : JS × DD) : JS × DD :=
  ((jnb b L 1 16 (jnb b L 1 16 (jnb b L 0 15 (jnb b L 0 15 x.1).2).2).2).2, u (jbx x.2 i.toNatClampNeg (jnb b L 0 15 (jnb b L 0 15 x.1).2).1.toNatClampNeg (min (jnb b L 1 16 (jnb b L 1 16 (jnb b L 0 15 (jnb b L 0 15 x.1).2).2).2).1.toNatClampNeg (16 - (jnb b L 0 15 (jnb b L 0 15 x.1).2).1.toNatClampNeg)) (((((1 : Int32) <<< ((jnb b L 1 16 (jnb b L 0 15 (jnb b L 0 15 x.1).2).2).1 &&& 31)) - 1) <<< ((jnb b L 0 15 x.1).1 &&& 31)) &&& 65535)) 0 10 (x.2 0 10 + 1))
noncomputable def jbox (b : Nat → Int32) (L : Nat) (x : JS × DD) : JS × DD := if x.2 0 10 < 8 then jbox2 b L (jnk b L x.1).1 ((jnk b L x.1).2, x.2) else (jrf b L 4 x.1, x.2)
theorem k_box {h : AH} {P : Option Value → AH → Prop} {b : Nat → Int32} {L d : Nat} {x : JS × DD} (X : CX h b L d x) (k : ∀ h3, Fr (dr d) h h3 → CX h3 b L d (jbox b L x) → P none h3) : Call mX4_takeBox [.ref 1] h P := by
  refine Call.ofR (by decide +kernel) (Nat.le_of_ble_eq_true rfl) (sX4_takeBox_0 h 1 ?_)
  have e3 : gI h d 10 = x.2 0 10 := X.2.2.2.2.2.2.1 0 10 (by decide)
  rw [X.2.2.1, e3]
  refine ⟨X.1.o (by decide) rfl, (jo X.1 X.2.1).1, fun e => ?_, fun e => ?_⟩
  · rw [jbox, if_pos e] at k
    refine k_nk X fun h4 F4 X4 => ⟨_, rfl, X4.1.o (by decide) rfl, k_nb X4 fun h7 F7 X7 => ⟨_, rfl, X7.1.o (by decide) rfl, k_nb X7 fun h10 F10 X10 => ⟨_, rfl, X10.1.o (by decide) rfl, k_nb X10 fun h13 F13 X13 => ⟨_, rfl, X13.1.o (by decide) rfl, k_nb X13 fun h16 F16 Y => ⟨_, rfl, Y.1.o (by decide) rfl, ?_⟩⟩⟩⟩⟩
    have hi := jnk_rng b L x.1
    have i4 : (jnk b L x.1).1.toNatClampNeg < 4 := by
      have := vp_in_iff.1 (vin_4.2 hi)
      show (jnk b L x.1).1.toInt.toNat < 4
      omega
    have B := jb Y.1 Y.2.1 i4
    rw [Y.2.2.1, (jf Y.1 Y.2.1).2.2.2.2.1, (jl X.2.1).2.2.2.2.1, B.1]
    refine ⟨(jo Y.1 Y.2.1).1, (jo Y.1 Y.2.1).2.2.2.2.2.2.1, vin_4.2 hi, B.2.2.1, ?_⟩
    refine k_add Y i4 (jnb_rng b L (by decide) _) (jnb_rng b L (by decide) _) fun h23 F23 Z => ⟨rfl, Z.1.o (by decide) rfl, ?_⟩
    have z3 : gI h23 d 10 = x.2 0 10 := by
      refine (Z.2.2.2.2.2.2.1 0 10 (by decide)).trans ?_
      exact if_neg (fun q => by omega)
    rw [Z.2.2.1, z3]
    exact ⟨(jo Z.1 Z.2.1).1, k _ ((F4.tr (F7.tr (F10.tr (F13.tr (F16.tr F23))))).tr (Fr.sI (by simp [dr]))) (Z.set (r := 0) (k := 10) (by decide) (by simp [dr]) _)⟩
  · rw [jbox, if_neg e] at k
    exact k_ref X fun h5 F5 U => ⟨rfl, k h5 F5 U⟩
/-- a clause whose first word is read -/
noncomputable def jcl (b : Nat → Int32) (L : Nat) (z : Int32) (x : JS × DD) : JS × DD := if z = 0 then jsheet b L x else if z = 1 then jone b L 1 9 6 x else if z = 2 then jone b L 2 4 9 x else if z = 3 then jone b L 3 99 12 x else if z = 4 then jone b L 4 99 13 x else if z = 5 then jmark b L x else if z = 6 then jscrew b L x else if z = 7 then jbox b L x else if z = 8 then jscreen b L x else if z = 9 then jlies b L x else (jrf b L 1 x.1, x.2)
def DK (D : DD) : Prop := inr (D 0 3) 0 8 ∧ inr (D 14 0) 0 8 ∧ ∀ i, i < 4 → inr (D 3 i) 0 3
theorem k_cl {h : AH} {P : Option Value → AH → Prop} {b : Nat → Int32} {L d : Nat} {x : JS × DD} (X : CX h b L d x) (K : DK x.2) (k : ∀ h3, Fr (dr d) h h3 → CX h3 b L d (jcl b L (wrd b L 0 x.1.2.2) x) → P none h3) : Call mX4_takeClause [.ref 1] h P := by
  refine Call.ofR (by decide +kernel) (Nat.le_of_ble_eq_true rfl) (sX4_takeClause_0 h 1 ?_)
  have o : isO h 4 1 := X.1.o (by decide) rfl
  rw [X.1.f1_0]
  refine ⟨o, X.1.o (by decide) rfl, c9_wrd X.1 X.2.2.2.2.1 X.2.2.2.2.2.1.2.2.2 X.2.2.2.2.2.1.2.2.1 (by decide) ⟨_, rfl, ?_⟩⟩
  rw [X.2.2.2.1]
  have one : ∀ {c hi : Int32} {q : Nat}, (∀ h3, Fr (dr d) h h3 → CX h3 b L d (jone b L c hi q x) → P none h3) → Call mX4_onlyNumber [.ref 1, .int c, .int hi] h (fun v h10 => ∃ z11 : Int32, v = some (.int z11) ∧ ((isO h10 3 (gF h 1 3)) ∧ (P none (sI h10 (gF h 1 3) q z11)))) := fun {c hi q} k1 => by
    rw [X.2.2.1]
    exact k_one X fun h3 F Y => ⟨_, rfl, (jo Y.1 Y.2.1).1, k1 _ (F.tr (Fr.sI (by simp [dr]))) (Y.set (r := 0) (k := q) (by decide) (by simp [dr]) _)⟩
  generalize wrd b L 0 x.1.2.2 = z at *
  unfold jcl at k
  refine ⟨fun e => ?_, fun e => ?_⟩
  · rw [if_pos e] at k
    exact ⟨o, k_sheet X fun h3 F Y => ⟨rfl, k h3 F Y⟩⟩
  rw [if_neg e] at k
  clear e
  refine ⟨fun e => ?_, fun e => ?_⟩
  · rw [if_pos e] at k
    exact ⟨o, one k⟩
  rw [if_neg e] at k
  clear e
  refine ⟨fun e => ?_, fun e => ?_⟩
  · rw [if_pos e] at k
    exact ⟨o, one k⟩
  rw [if_neg e] at k
  clear e
  refine ⟨fun e => ?_, fun e => ?_⟩
  · rw [if_pos e] at k
    exact ⟨o, one k⟩
  rw [if_neg e] at k
  clear e
  refine ⟨fun e => ?_, fun e => ?_⟩
  · rw [if_pos e] at k
    exact ⟨o, one k⟩
  rw [if_neg e] at k
  clear e
  refine ⟨fun e => ?_, fun e => ?_⟩
  · rw [if_pos e] at k
    exact ⟨o, k_mark X K.1.1 fun h3 F Y => ⟨rfl, k h3 F Y⟩⟩
  rw [if_neg e] at k
  clear e
  refine ⟨fun e => ?_, fun e => ?_⟩
  · rw [if_pos e] at k
    exact ⟨o, k_screw X (fun i hi => (K.2.2 i hi).1) fun h3 F Y => ⟨rfl, k h3 F Y⟩⟩
  rw [if_neg e] at k
  clear e
  refine ⟨fun e => ?_, fun e => ?_⟩
  · rw [if_pos e] at k
    exact ⟨o, k_box X fun h3 F Y => ⟨rfl, k h3 F Y⟩⟩
  rw [if_neg e] at k
  clear e
  refine ⟨fun e => ?_, fun e => ?_⟩
  · rw [if_pos e] at k
    exact ⟨o, k_screen X K.2.1.1 fun h3 F Y => ⟨rfl, k h3 F Y⟩⟩
  rw [if_neg e] at k
  clear e
  refine ⟨fun e => ?_, fun e => ?_⟩
  · rw [if_pos e] at k
    exact ⟨o, k_lies X fun h3 F Y => ⟨rfl, k h3 F Y⟩⟩
  · rw [if_neg e] at k
    exact ⟨o, k_ref X fun h3 F Y => ⟨rfl, k h3 F Y⟩⟩
/-- the semicolon behind it -/
def jse (b : Nat → Int32) (L : Nat) (x : JS × DD) : JS × DD := if x.1.1 = 0 then (if tk b L (te b L x.1.2.2) = 3 then (jnx b L x.1, u x.2 0 0 (x.2 0 0 + 1)) else (jrf b L 1 (jnx b L x.1), x.2)) else x
theorem k_nx {h : AH} {P : Option Value → AH → Prop} {b : Nat → Int32} {L d : Nat} {s : JS} {D : DD} (X : CX h b L d (s, D)) (k : ∀ h3, Fr (dr d) h h3 → CX h3 b L d (jnx b L s, D) → P none h3) : Call mX9_next [.ref 2] h P := by
  obtain ⟨w, hd, g, hb, hL, C, H⟩ := id X
  subst hb
  exact c4_nx w hL C fun h3 F A => k h3 (KT.two F).jd (X.kt (KT.two F) A)
theorem k_se {h : AH} {P : Option Value → AH → Prop} {b : Nat → Int32} {L d : Nat} {x : JS × DD} (X : CX h b L d x) (k : ∀ h3, Fr (dr d) h h3 → CX h3 b L d (jse b L x) → P none h3) : Call mX4_takeSemicolon [.ref 1] h P := by
  refine Call.ofR (by decide +kernel) (Nat.le_of_ble_eq_true rfl) (sX4_takeSemicolon_0 h 1 ?_)
  rw [X.2.2.2.2.2.1.1, X.1.f1_0]
  refine ⟨X.1.o (by decide) rfl, fun e => ⟨X.1.o (by decide) rfl, k_nx X fun h4 F4 Y => ⟨rfl, Y.1.o (by decide) rfl, ?_⟩⟩, fun e => ?_⟩
  · rw [jse, if_pos e] at k
    have e3 : gI h4 2 3 = tk b L (te b L x.1.2.2) := by
      have := Y.2.2.2.2.2.1.2.2.1.2.2.1
      rw [Y.2.2.2.1] at this
      exact this
    have e0 : gI h4 d 0 = x.2 0 0 := Y.2.2.2.2.2.2.1 0 0 (by decide)
    rw [Y.1.f1_0, Y.2.2.1, e3, e0]
    refine ⟨Y.1.o (by decide) rfl, fun q => ?_, fun q => ?_⟩
    · rw [if_neg q] at k
      exact k_ref Y fun h5 F5 Z => ⟨rfl, k h5 (F4.tr F5) Z⟩
    · rw [if_pos q] at k
      exact ⟨(jo Y.1 Y.2.1).1, k _ (F4.tr (Fr.sI (by simp [dr]))) (Y.set (r := 0) (k := 0) (by decide) (by simp [dr]) _)⟩
  · rw [jse, if_neg e] at k
    exact k h Fr.rf X
