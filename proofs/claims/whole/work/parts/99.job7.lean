theorem jnk_rng (b : Nat → Int32) (L : Nat) (s : JS) : 0 ≤ (jnk b L s).1 ∧ (jnk b L s).1 < 4 := by
  rw [jnk]
  by_cases e : s.1 = 0
  · rw [if_pos e]
    by_cases q : ¬ wrd b L 1 (te b L s.2.2) < 0 ∧ ¬ 4 ≤ wrd b L 1 (te b L s.2.2)
    · rw [if_pos q]
      exact ⟨by have := q.1; grind, by have := q.2; grind⟩
    · rw [if_neg q]
      exact (by decide : (0 : Int32) ≤ 0 ∧ (0 : Int32) < 4)
  · rw [if_neg e]
    exact (by decide : (0 : Int32) ≤ 0 ∧ (0 : Int32) < 4)
noncomputable def jpr (b : Nat → Int32) (L : Nat) (s : JS) : Int32 := (jnk b L s).1 * 4 + (jnk b L (jnk b L s).2).1
theorem jpr_in (b : Nat → Int32) (L : Nat) (s : JS) : vp_in (jpr b L s) 16 := by
  rw [vin_16, jpr]
  have a := jnk_rng b L s
  have c := jnk_rng b L (jnk b L s).2
  grind
def jli2 (b : Nat → Int32) (L : Nat) (p : Int32) (x : JS × DD) : JS × DD := ((jnb b L 0 100 x.1).2, u (u x.2 200 2 (x.2 200 2 ||| ((1 : Int32) <<< (p &&& 31)))) 18 p.toNatClampNeg (jnb b L 0 100 x.1).1)
noncomputable def jlies (b : Nat → Int32) (L : Nat) (x : JS × DD) : JS × DD := jli2 b L (jpr b L x.1) (if (jnk b L x.1).1 = (jnk b L (jnk b L x.1).2).1 then jrf b L 3 (jnk b L (jnk b L x.1).2).2 else if ((x.2 200 2) >>> (jpr b L x.1 &&& 31)) &&& 1 = 0 then (jnk b L (jnk b L x.1).2).2 else jrf b L 3 (jnk b L (jnk b L x.1).2).2, x.2)
theorem k_li2 {h h0 : AH} {P : Option Value → AH → Prop} {b : Nat → Int32} {L d : Nat} {x : JS × DD} (X : CX h b L d x) {p : Int32} (hp : vp_in p 16) (F : Fr (dr d) h0 h) {g : Nat} (hg : g = d + 18) (k : ∀ h3, Fr (dr d) h0 h3 → CX h3 b L d (jli2 b L p x) → P none h3) : Call mX4_number [.ref 1, .int 0, .int 100] (sI h 1 2 ((gI h 1 2) ||| ((1 : Int32) <<< (p &&& 31)))) (fun v h12 => ∃ z13 : Int32, v = some (.int z13) ∧ ((isA h12 0 g) ∧ ((vp_in p (ln g)) ∧ (P none (sI h12 g p.toNatClampNeg z13))))) := by
  have e : gI h 1 2 = x.2 200 2 := X.2.2.2.2.2.2.2.2.2
  rw [e]
  refine k_nb (X.msk (Or.inr rfl) _) fun h3 F3 Y => ⟨_, rfl, ?_⟩
  rw [hg, (jl X.2.1).2.2.2.2.2.2.2]
  exact ⟨(jo Y.1 Y.2.1).2.2.2.2.2.2.2.2.2, hp, k _ ((F.tr ((Fr.sI (by simp [dr])).tr F3)).tr (Fr.sI (by simp [dr]))) (Y.set (r := 18) (k := p.toNatClampNeg) (by decide) (by simp [dr]) _)⟩
theorem k_lies {h : AH} {P : Option Value → AH → Prop} {b : Nat → Int32} {L d : Nat} {x : JS × DD} (X : CX h b L d x) (k : ∀ h3, Fr (dr d) h h3 → CX h3 b L d (jlies b L x) → P none h3) : Call mX4_takeLies [.ref 1] h P := by
  refine Call.ofR (by decide +kernel) (Nat.le_of_ble_eq_true rfl) (sX4_takeLies_0 h 1 ?_)
  refine ⟨X.1.o (by decide) rfl, k_nk X fun h2 F2 Y => ⟨_, rfl, Y.1.o (by decide) rfl, k_nk Y fun h5 F5 Z => ⟨_, rfl, fun e => ?_, fun e => ?_⟩⟩⟩
  · rw [jlies, if_pos e] at k
    refine ⟨Z.1.o (by decide) rfl, k_ref Z fun h9 F9 V => ⟨rfl, V.1.o (by decide) rfl, ?_⟩⟩
    have hg : gF h9 (gF h9 1 3) 15 = d + 18 := by rw [V.2.2.1]; exact (jf V.1 V.2.1).2.2.2.2.2.2.1
    refine ⟨by rw [V.2.2.1]; exact (jo V.1 V.2.1).1, ?_⟩
    exact k_li2 V (jpr_in b L x.1) (F2.tr (F5.tr F9)) hg k
  · rw [jlies, if_neg e] at k
    have e2 : gI h5 1 2 = x.2 200 2 := Z.2.2.2.2.2.2.2.2.2
    rw [e2]
    refine ⟨Z.1.o (by decide) rfl, fun q => ?_, fun q => ?_⟩
    · change ((x.2 200 2) >>> (jpr b L x.1 &&& 31)) &&& 1 = 0 at q
      rw [if_pos q] at k
      have hg : gF h5 (gF h5 1 3) 15 = d + 18 := by rw [Z.2.2.1]; exact (jf Z.1 Z.2.1).2.2.2.2.2.2.1
      refine ⟨by rw [Z.2.2.1]; exact (jo Z.1 Z.2.1).1, ?_⟩
      rw [← e2]
      exact k_li2 Z (jpr_in b L x.1) (F2.tr F5) hg k
    · change ¬ ((x.2 200 2) >>> (jpr b L x.1 &&& 31)) &&& 1 = 0 at q
      rw [if_neg q] at k
      refine k_ref Z fun h9 F9 V => ⟨rfl, V.1.o (by decide) rfl, ?_⟩
      have hg : gF h9 (gF h9 1 3) 15 = d + 18 := by rw [V.2.2.1]; exact (jf V.1 V.2.1).2.2.2.2.2.2.1
      refine ⟨by rw [V.2.2.1]; exact (jo V.1 V.2.1).1, ?_⟩
      exact k_li2 V (jpr_in b L x.1) (F2.tr (F5.tr F9)) hg k
/-- one number of a screw -/
def jsc1 (b : Nat → Int32) (L : Nat) (i c w : Int32) (x : JS × DD) : JS × DD := ((jsg b L 20 x.1).2, u x.2 4 ((i * 3 + c) * 3 + w).toNatClampNeg (jsg b L 20 x.1).1)
def jsc3 (b : Nat → Int32) (L : Nat) (i c : Int32) (x : JS × DD) : JS × DD := ((jsc1 b L i c 2 (jsc1 b L i c 1 (jsc1 b L i c 0 x))).1, u (jsc1 b L i c 2 (jsc1 b L i c 1 (jsc1 b L i c 0 x))).2 3 i.toNatClampNeg (c + 1))
noncomputable def jscrew (b : Nat → Int32) (L : Nat) (x : JS × DD) : JS × DD := if x.2 3 (jnk b L x.1).1.toNatClampNeg < 3 then jsc3 b L (jnk b L x.1).1 (x.2 3 (jnk b L x.1).1.toNatClampNeg) ((jnk b L x.1).2, x.2) else (jrf b L 4 (jnk b L x.1).2, x.2)
theorem k_sc1 {h h0 : AH} {P : Option Value → AH → Prop} {b : Nat → Int32} {L d : Nat} {x : JS × DD} (X : CX h b L d x) (F : Fr (dr d) h0 h) {i c w : Int32} (hi : 0 ≤ i ∧ i < 4) (ec : x.2 3 i.toNatClampNeg = c) (hc : 0 ≤ c ∧ c < 3) (hw : 0 ≤ w ∧ w < 3) (k : ∀ h3, Fr (dr d) h0 h3 → CX h3 b L d (jsc1 b L i c w x) → Rr mX4_takeScrew 0 0 26 [(0, .ref 1), (1, .int i), (2, .int (w + 1))] [] h3 P) : Rr mX4_takeScrew 0 0 26 [(0, .ref 1), (1, .int i), (2, .int w)] [] h P := by
  refine sX4_takeScrew_26 h 1 i w ⟨fun q => absurd q (nle.2 hw.2), fun _ => ?_⟩
  have e3 : gI h (d + 3) i.toNatClampNeg = c := (X.2.2.2.2.2.2.1 3 _ (by decide)).trans ec
  rw [X.2.2.1, (jf X.1 X.2.1).2.2.1, (jl X.2.1).2.2.1, e3]
  refine ⟨X.1.o (by decide) rfl, (jo X.1 X.2.1).1, (jo X.1 X.2.1).2.2.2.2.1, vin_4.2 hi, k_sg X fun h3 F3 Y => ⟨_, rfl, (jo Y.1 Y.2.1).1, ?_⟩⟩
  refine Call.ofR (by decide +kernel) (Nat.le_of_ble_eq_true rfl) (sX3_putScrewNumber_0 h3 d _ _ _ _ ?_)
  rw [(jf Y.1 Y.2.1).2.2.2.1, (jl X.2.1).2.2.2.1]
  have r : 0 ≤ (i * 3 + c) * 3 + w ∧ (i * 3 + c) * 3 + w < 36 := by grind
  refine ⟨fun q => absurd r.1 (by grind), fun _ => ⟨(jo Y.1 Y.2.1).1, (jo Y.1 Y.2.1).2.2.2.2.2.1, fun q => absurd q (nle.2 r.2), fun _ => ⟨vin_36.2 r, rfl, k _ ((F.tr F3).tr (Fr.sI (by simp [dr]))) ?_⟩⟩⟩
  exact Y.set (r := 4) (k := ((i * 3 + c) * 3 + w).toNatClampNeg) (by decide) (by simp [dr]) _
theorem k_screw {h : AH} {P : Option Value → AH → Prop} {b : Nat → Int32} {L d : Nat} {x : JS × DD} (X : CX h b L d x) (m0 : ∀ i, i < 4 → 0 ≤ x.2 3 i) (k : ∀ h3, Fr (dr d) h h3 → CX h3 b L d (jscrew b L x) → P none h3) : Call mX4_takeScrew [.ref 1] h P := by
  refine Call.ofR (by decide +kernel) (Nat.le_of_ble_eq_true rfl) (sX4_takeScrew_0 h 1 ?_)
  refine ⟨X.1.o (by decide) rfl, k_nk X fun h2 F2 Y => ⟨_, rfl, Y.1.o (by decide) rfl, ?_⟩⟩
  have hi := jnk_rng b L x.1
  have e3 : gI h2 (d + 3) (jnk b L x.1).1.toNatClampNeg = x.2 3 (jnk b L x.1).1.toNatClampNeg := Y.2.2.2.2.2.2.1 3 _ (by decide)
  rw [Y.2.2.1, (jf Y.1 Y.2.1).2.2.1, (jl X.2.1).2.2.1, e3]
  have i4 : (jnk b L x.1).1.toNatClampNeg < 4 := by
    have := vp_in_iff.1 (vin_4.2 hi)
    show (jnk b L x.1).1.toInt.toNat < 4
    omega
  refine ⟨(jo Y.1 Y.2.1).1, (jo Y.1 Y.2.1).2.2.2.2.1, vin_4.2 hi, fun e => ?_, fun e => ?_⟩
  · rw [jscrew, if_pos e] at k
    have hc := And.intro (m0 _ i4) e
    generalize (jnk b L x.1).1 = i at *
    generalize ec : x.2 3 i.toNatClampNeg = c at *
    refine k_sc1 Y F2 hi ec hc ⟨by decide, by decide⟩ fun h3 F3 Z => ?_
    refine k_sc1 Z F3 hi ec hc ⟨by decide, by decide⟩ fun h4 F4 V => ?_
    refine k_sc1 V F4 hi ec hc ⟨by decide, by decide⟩ fun h5 F5 U => ?_
    refine sX4_takeScrew_26 h5 1 i _ ⟨fun _ => ?_, fun q => absurd (by decide) q⟩
    have e5 : gI h5 (d + 3) i.toNatClampNeg = c := (U.2.2.2.2.2.2.1 3 _ (by decide)).trans ec
    rw [U.2.2.1, (jf U.1 U.2.1).2.2.1, (jl X.2.1).2.2.1, e5]
    exact ⟨U.1.o (by decide) rfl, (jo U.1 U.2.1).1, (jo U.1 U.2.1).2.2.2.2.1, vin_4.2 hi, k _ (F5.tr (Fr.sI (by simp [dr]))) (U.set (r := 3) (k := i.toNatClampNeg) (by decide) (by simp [dr]) _)⟩
  · rw [jscrew, if_neg e] at k
    exact k_ref Y fun h5 F5 U => ⟨rfl, k h5 (F2.tr F5) U⟩
