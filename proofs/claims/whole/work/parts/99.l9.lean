/-! a pair that lies -/
theorem and_1 (a : Int32) : a &&& 1 = 0 ∨ a &&& 1 = 1 := by
  have o : ∀ i, i < 32 → bt 1 i = decide (i = 0) := by decide +kernel
  by_cases c : bt a 0 = true
  · refine Or.inr (b_ext fun i hi => ?_)
    rw [b_and, o i hi]
    by_cases q : i = 0
    · rw [q, c]
      rfl
    · rw [decide_eq_false q, Bool.and_false]
  · refine Or.inl (b_ext fun i hi => ?_)
    rw [b_and, o i hi, b_0]
    by_cases q : i = 0
    · rw [q, Bool.eq_false_iff.2 c]
      rfl
    · rw [decide_eq_false q, Bool.and_false]
theorem and_1n {a : Int32} : a &&& 1 = 1 ↔ ¬ a &&& 1 = 0 := by
  rcases and_1 a with e | e <;> rw [e] <;> decide
def ikc (b : Nat → Int32) (L q : Nat) : Prop := ¬ wrd b L 1 q < 0 ∧ ¬ 4 ≤ wrd b L 1 q
theorem jnk_y {b : Nat → Int32} {L : Nat} {s : JS} (s0 : s.1 = 0) (c : ikc b L (te b L s.2.2)) : jnk b L s = (wrd b L 1 (te b L s.2.2), jnx b L s) := by
  unfold ikc at c
  rw [jnk, if_pos s0, if_pos c]
theorem jnk_n {b : Nat → Int32} {L : Nat} {s : JS} (s0 : s.1 = 0) (c : ¬ ikc b L (te b L s.2.2)) : jnk b L s = (0, (1, nI (ts b L (te b L s.2.2)), te b L s.2.2)) := by
  unfold ikc at c
  rw [jnk, if_pos s0, if_neg c, jrf_0 (show (jnx b L s).1 = 0 from s0)]
  rfl
theorem ikc_r {b : Nat → Int32} {L q : Nat} (c : ikc b L q) : 0 ≤ wrd b L 1 q ∧ wrd b L 1 q < 4 := ⟨by have := c.1; grind, by have := c.2; grind⟩
theorem jli_f {b : Nat → Int32} {L : Nat} {p : Int32} {s : JS} {D : DD} (f : ¬ s.1 = 0) : (jli2 b L p (s, D)).1 = s := by
  show (jnb b L 0 100 s).2 = s
  rw [jnb_f f]
section
variable {b : Nat → Int32} {L : Nat} {x : JS × DD}
theorem jlies_n1 (s0 : x.1.1 = 0) (c : ¬ ikc b L (te b L x.1.2.2)) : (jlies b L x).1 = (1, nI (ts b L (te b L x.1.2.2)), te b L x.1.2.2) := by
  rw [jlies, jnk_n s0 c, jnk_f (by decide : ¬ (1 : Int32) = 0), if_pos rfl, jrf_f (by decide : ¬ (1 : Int32) = 0)]
  exact jli_f (by decide : ¬ (1 : Int32) = 0)
theorem jlies_n2 (s0 : x.1.1 = 0) (c : ikc b L (te b L x.1.2.2)) (c2 : ¬ ikc b L (te b L (te b L x.1.2.2))) : (jlies b L x).1 = (1, nI (ts b L (te b L (te b L x.1.2.2))), te b L (te b L x.1.2.2)) := by
  rw [jlies, jnk_y s0 c, jnk_n (s := jnx b L x.1) s0 c2, jrf_f (by decide : ¬ (1 : Int32) = 0), ite_self, ite_self]
  exact jli_f (by decide : ¬ (1 : Int32) = 0)
theorem jlies_eq (s0 : x.1.1 = 0) (c : ikc b L (te b L x.1.2.2)) (c2 : ikc b L (te b L (te b L x.1.2.2))) (g : wrd b L 1 (te b L x.1.2.2) = wrd b L 1 (te b L (te b L x.1.2.2))) : (jlies b L x).1 = (3, nI (ts b L (te b L (te b L x.1.2.2))), te b L (te b L x.1.2.2)) := by
  rw [jlies, jnk_y s0 c, jnk_y (s := jnx b L x.1) s0 c2, if_pos (show (wrd b L 1 (te b L x.1.2.2), jnx b L x.1).1 = (wrd b L 1 (te b L (jnx b L x.1).2.2), jnx b L (jnx b L x.1)).1 from g), jrf_0 (s := jnx b L (jnx b L x.1)) s0]
  exact jli_f (by decide : ¬ (3 : Int32) = 0)
theorem jpr_y (s0 : x.1.1 = 0) (c : ikc b L (te b L x.1.2.2)) (c2 : ikc b L (te b L (te b L x.1.2.2))) : jpr b L x.1 = wrd b L 1 (te b L x.1.2.2) * 4 + wrd b L 1 (te b L (te b L x.1.2.2)) := by
  rw [jpr, jnk_y s0 c, jnk_y (s := jnx b L x.1) s0 c2]
  rfl
theorem jlies_tw (s0 : x.1.1 = 0) (c : ikc b L (te b L x.1.2.2)) (c2 : ikc b L (te b L (te b L x.1.2.2))) (g : ¬ wrd b L 1 (te b L x.1.2.2) = wrd b L 1 (te b L (te b L x.1.2.2))) (t : ¬ ((x.2 200 2) >>> ((wrd b L 1 (te b L x.1.2.2) * 4 + wrd b L 1 (te b L (te b L x.1.2.2))) &&& 31)) &&& 1 = 0) : (jlies b L x).1 = (3, nI (ts b L (te b L (te b L x.1.2.2))), te b L (te b L x.1.2.2)) := by
  rw [jlies, jpr_y s0 c c2, jnk_y s0 c, jnk_y (s := jnx b L x.1) s0 c2, if_neg (show ¬ (wrd b L 1 (te b L x.1.2.2), jnx b L x.1).1 = (wrd b L 1 (te b L (jnx b L x.1).2.2), jnx b L (jnx b L x.1)).1 from g), if_neg t, jrf_0 (s := jnx b L (jnx b L x.1)) s0]
  exact jli_f (by decide : ¬ (3 : Int32) = 0)
theorem jlies_ok (s0 : x.1.1 = 0) (c : ikc b L (te b L x.1.2.2)) (c2 : ikc b L (te b L (te b L x.1.2.2))) (g : ¬ wrd b L 1 (te b L x.1.2.2) = wrd b L 1 (te b L (te b L x.1.2.2))) (t : ((x.2 200 2) >>> ((wrd b L 1 (te b L x.1.2.2) * 4 + wrd b L 1 (te b L (te b L x.1.2.2))) &&& 31)) &&& 1 = 0) : jlies b L x = jli2 b L (wrd b L 1 (te b L x.1.2.2) * 4 + wrd b L 1 (te b L (te b L x.1.2.2))) (jnx b L (jnx b L x.1), x.2) := by
  rw [jlies, jpr_y s0 c c2, jnk_y s0 c, jnk_y (s := jnx b L x.1) s0 c2, if_neg (show ¬ (wrd b L 1 (te b L x.1.2.2), jnx b L x.1).1 = (wrd b L 1 (te b L (jnx b L x.1).2.2), jnx b L (jnx b L x.1)).1 from g), if_pos t]
end
/-- a refusal of the reference, at a state that the class has too -/
theorem m_fl {h0 h : AH} {P : Option Value → AH → Prop} {b : Nat → Int32} {L p : Nat} {J : JS} {z : Int32} (X : MX h b L p) (l : LH h0 h) (hz : ¬ z = 0) (hJ : J = (z, nI (ts b L p), p)) (k0 : ∀ h3, LH h0 h3 → ¬ J.1 = 0 → gI h3 116 8 = J.1 → gI h3 116 9 = J.2.1 → P (some (.int 0)) h3) : Call mX12_fails [.ref 116, .int z] h (fun v h5 => ∃ z10 : Int32, v = some (.int z10) ∧ ((z10 = 0 ∨ z10 = 1) ∧ (P (some (.int z10)) h5))) := by
  subst hJ
  exact m_fails X ⟨_, rfl, Or.inl rfl, k0 _ (l.tr ((LH.own (by decide)).tr (LH.own (by decide)))) hz (by rw [rd_k (by decide), rd_h]) (by rw [rd_h])⟩
theorem li_ix : ∀ a c e f : Fin 4, ((16 : Int32) + (4 * nI a.val + nI c.val)).toNatClampNeg = 16 + 4 * a.val + c.val ∧ (nI a.val * 4 + nI c.val).toNatClampNeg = 4 * a.val + c.val ∧ 0 ≤ (16 : Int32) + (4 * nI a.val + nI c.val) ∧ (16 : Int32) + (4 * nI a.val + nI c.val) < 32 := by decide +kernel
theorem DM.lp {h : AH} {D : DD} (H : DM h D) (v : Int32) : DM (sI h 116 22 v) (u D 200 2 v) := by
  obtain ⟨a1, a2, a3, a4, a5, a6, a7, a8, a9, a10⟩ := H
  refine ⟨a1, a2, a3, a4, fun i y hi hy => ?_, a6, a7, a8, a9, rfl⟩
  rw [rd_r (by decide), u, if_neg (fun q => by omega)]
  exact a5 i y hi hy
theorem DM.li {h : AH} {D : DD} (H : DM h D) {a c : Int32} (ha : 0 ≤ a ∧ a < 4) (hc : 0 ≤ c ∧ c < 4) (n : ¬ a = c) (v : Int32) : DM (sI h 126 (16 + (4 * a + c)).toNatClampNeg v) (u D 18 (a * 4 + c).toNatClampNeg v) := by
  obtain ⟨a1, a2, a3, a4, a5, a6, a7, a8, a9, a10⟩ := H
  refine ⟨a1, a2, a3, a4, fun i y hi hy => ?_, a6, fun e f he he2 hf hf2 => ?_, a8, a9, a10⟩
  · rw [rd_r (by decide), u, if_neg (fun q => by omega)]
    exact a5 i y hi hy
  · have T := a7 e f he he2 hf hf2
    obtain ⟨an, h1, rfl⟩ : ∃ q : Nat, q ≤ 3 ∧ a = nI q := nI_of2 (M := 3) rfl (by have := ha.1; grind) (by have := ha.2; grind)
    obtain ⟨cn, h2, rfl⟩ : ∃ q : Nat, q ≤ 3 ∧ c = nI q := nI_of2 (M := 3) rfl (by have := hc.1; grind) (by have := hc.2; grind)
    obtain ⟨en, h3, rfl⟩ : ∃ q : Nat, q ≤ 3 ∧ e = nI q := nI_of2 (M := 3) rfl (by grind) (by grind)
    obtain ⟨fn, h4, rfl⟩ : ∃ q : Nat, q ≤ 3 ∧ f = nI q := nI_of2 (M := 3) rfl (by grind) (by grind)
    have A := li_ix ⟨an, by omega⟩ ⟨cn, by omega⟩ 0 0
    have B := li_ix ⟨en, by omega⟩ ⟨fn, by omega⟩ 0 0
    simp only at A B
    rw [gI_sI', u, A.1, A.2.1, B.1, B.2.1]
    rw [B.1, B.2.1] at T
    by_cases q : an = en ∧ cn = fn
    · obtain ⟨rfl, rfl⟩ := q
      rw [if_pos ⟨rfl, rfl⟩, if_pos ⟨rfl, rfl⟩]
      exact ⟨fun _ => rfl, fun t => absurd t n⟩
    · rw [if_neg (fun t => q (by omega)), if_neg (fun t => q (by omega))]
      exact T
theorem m_lies {h : AH} {P : Option Value → AH → Prop} {b : Nat → Int32} {L : Nat} {x : JS × DD} (s0 : x.1.1 = 0) (X : MX h b L x.1.2.2) (H : DM h x.2)
    (k1 : ∀ h3, LH h h3 → (jlies b L x).1.1 = 0 → MX h3 b L (te b L (jlies b L x).1.2.2) → DM h3 (jlies b L x).2 → P (some (.int 1)) h3)
    (k0 : ∀ h3, LH h h3 → ¬ (jlies b L x).1.1 = 0 → gI h3 116 8 = (jlies b L x).1.1 → gI h3 116 9 = (jlies b L x).1.2.1 → P (some (.int 0)) h3) : Call mX12_readLies [.ref 116] h P := by
  refine Call.ofR (by decide +kernel) (Nat.le_of_ble_eq_true rfl) (sX12_readLies_0 h 116 ?_)
  refine ⟨X.1.o (by decide) rfl, m_on X fun h2 S2 X2 => ⟨rfl, X2.1.o (by decide) rfl, fun e => ?_, fun e => ?_⟩⟩
  · have M2 := m_ink X2
    have c : ikc b L (te b L x.1.2.2) := M2.1.1 e
    rw [M2.2 c]
    refine m_on X2 fun h5 S5 X5 => ⟨rfl, X5.1.o (by decide) rfl, fun e5 => ?_, fun e5 => ?_⟩
    · have M5 := m_ink X5
      have c5 : ikc b L (te b L (te b L x.1.2.2)) := M5.1.1 e5
      have L5 : LH h h5 := (LH.sn S2.sn).tr (LH.sn S5.sn)
      have H5 : DM h5 x.2 := (H.sn S2.sn).sn S5.sn
      have e22 : gI h5 116 22 = x.2 200 2 := H5.2.2.2.2.2.2.2.2.2
      rw [M5.2 c5, e22]
      refine ⟨fun g => ?_, fun g => ⟨fun t => ?_, fun t => ?_⟩⟩
      · exact m_fl X5 L5 (by decide) (jlies_eq s0 c c5 g) k0
      · rw [and_1n, Classical.not_not, Int32.mul_comm] at t
        rw [jlies_ok s0 c c5 g t] at k1 k0
        unfold jli2 at k1 k0
        have ra := ikc_r c
        have rc := ikc_r c5
        have X6 := X5.own (k := 22) (v := (x.2 200 2) ||| ((1 : Int32) <<< ((wrd b L 1 (te b L x.1.2.2) * 4 + wrd b L 1 (te b L (te b L x.1.2.2))) &&& 31))) (by decide)
        have H6 := H5.lp ((x.2 200 2) ||| ((1 : Int32) <<< ((wrd b L 1 (te b L x.1.2.2) * 4 + wrd b L 1 (te b L (te b L x.1.2.2))) &&& 31)))
        rw [show 4 * wrd b L 1 (te b L x.1.2.2) = wrd b L 1 (te b L x.1.2.2) * 4 from Int32.mul_comm _ _]
        have L6 := L5.tr (LH.own (h := h5) (k := 22) (v := (x.2 200 2) ||| ((1 : Int32) <<< ((wrd b L 1 (te b L x.1.2.2) * 4 + wrd b L 1 (te b L (te b L x.1.2.2))) &&& 31))) (by decide))
        refine m_on X6 fun h7 S7 X7 => ⟨rfl, X7.1.o (by decide) rfl, m_nb (s := jnx b L (jnx b L x.1)) s0 X7 (fun h8 F8 S8 a v Y => ⟨_, rfl, fun _ => ⟨Y.1.o (by decide) rfl, ?_⟩, fun q => absurd q (by decide)⟩) (fun z a n => ⟨_, rfl, fun q => absurd rfl q, fun _ => ?_⟩)⟩
        · rw [Y.1.f116_19, v]
          obtain ⟨an, h1, ea⟩ : ∃ q : Nat, q ≤ 3 ∧ wrd b L 1 (te b L x.1.2.2) = nI q := nI_of2 (M := 3) rfl (by have := ra.1; grind) (by have := ra.2; grind)
          obtain ⟨cn, h2, ec⟩ : ∃ q : Nat, q ≤ 3 ∧ wrd b L 1 (te b L (te b L x.1.2.2)) = nI q := nI_of2 (M := 3) rfl (by have := rc.1; grind) (by have := rc.2; grind)
          have A := li_ix ⟨an, by omega⟩ ⟨cn, by omega⟩ 0 0
          simp only at A
          have H8 := ((H6.sn S7.sn).sn ⟨F8, S8⟩).li ra rc g (jnb b L 0 100 (jnx b L (jnx b L x.1))).1
          have cm : 4 * wrd b L 1 (te b L x.1.2.2) = wrd b L 1 (te b L x.1.2.2) * 4 := Int32.mul_comm _ _
          rw [cm] at H8
          refine ⟨Y.1.a (by decide) rfl, ?_, k1 _ (((L6.tr (LH.sn S7.sn)).tr (LH.sn ⟨F8, S8⟩)).tr (LH.up (r := 126) (by decide) (by decide) ?_)) a (Y.row (by decide)) H8⟩
          · refine vin_32.2 ?_
            rw [← cm, ea, ec]
            exact A.2.2
          · show 16 ≤ _
            rw [← cm, ea, ec, A.1]
            omega
        · refine k0 _ ((L6.tr (LH.sn S7.sn)).tr ((LH.own (by decide)).tr (LH.own (by decide)))) (by rw [a]; exact n) ?_ ?_
          · rw [rd_k (by decide), rd_h, a]
          · rw [rd_h]
      · rw [and_1n, Int32.mul_comm] at t
        exact m_fl X5 L5 (by decide) (jlies_tw s0 c c5 g t) k0
    · have M5 := m_ink X5
      exact m_fl X5 ((LH.sn S2.sn).tr (LH.sn S5.sn)) (by decide) (jlies_n2 s0 c (fun q => e5 (M5.1.2 q))) k0
  · have M2 := m_ink X2
    exact m_fl X2 (LH.sn S2.sn) (by decide) (jlies_n1 s0 (fun q => e (M2.1.2 q))) k0
