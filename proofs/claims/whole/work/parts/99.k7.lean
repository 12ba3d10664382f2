/-- what reading a number may change of the reference -/
def SN (h h3 : AH) : Prop := Fr [116] h h3 ∧ ∀ z, z ≠ 3 → z ≠ 4 → z ≠ 5 → z ≠ 6 → z ≠ 7 → z ≠ 10 → gI h3 116 z = gI h 116 z
theorem SN.tr {h h2 h3 : AH} (a : SN h h2) (b : SN h2 h3) : SN h h3 := ⟨a.1.tr b.1, fun z a3 a4 a5 a6 a7 a10 => (b.2 z a3 a4 a5 a6 a7 a10).trans (a.2 z a3 a4 a5 a6 a7 a10)⟩
theorem SC.sn {h h3 : AH} (a : SC h h3) : SN h h3 := ⟨a.1, fun z a3 a4 a5 a6 a7 _ => a.2 z a3 a4 a5 a6 a7⟩
theorem jsg_nb {b : Nat → Int32} {L : Nat} {hi : Int32} {s : JS} (s0 : s.1 = 0) : jsg b L hi s = if tk b L (te b L s.2.2) = 4 then (- (jnb b L 0 hi (jnx b L s)).1, (jnb b L 0 hi (jnx b L s)).2) else jnb b L 0 hi s := by
  rw [jsg, if_pos s0, jnb, jnb, if_pos s0, if_pos (show (jnx b L s).1 = 0 from s0)]
theorem m_sg {h : AH} {P : Option Value → AH → Prop} {b : Nat → Int32} {L : Nat} {s : JS} (s0 : s.1 = 0) (X : MX h b L (te b L s.2.2)) {hi : Int32} (k1 : ∀ h3, SN h h3 → (jsg b L hi s).2.1 = 0 → gI h3 116 10 = (jsg b L hi s).1 → MX h3 b L (te b L (jsg b L hi s).2.2.2) → P (some (.int 1)) h3) (k0 : ∀ (x : Int32) (h2 : AH), SN h h2 → (jsg b L hi s).2.1 = x → ¬ x = 0 → P (some (.int 0)) (sI (sI h2 116 8 x) 116 9 (jsg b L hi s).2.2.1)) : Call mX12_readSigned [.ref 116, .int hi] h P := by
  refine Call.ofR (by decide +kernel) (Nat.le_of_ble_eq_true rfl) (sX12_readSigned_0 h 116 hi ?_)
  have A := X.2.2.2.2.2
  have st : ∀ {h4 : AH} {p : Nat} {v : Int32}, MX h4 b L p → MX (sI h4 116 10 v) b L p := fun {h4 p v} Y => ⟨(Fr.sI (S := [116]) (by decide)).wf Y.1, Y.2.1, Y.2.2.1, Y.2.2.2.1, Y.2.2.2.2.1, ⟨Y.2.2.2.2.2.1, Y.2.2.2.2.2.2.1, Y.2.2.2.2.2.2.2.1, Y.2.2.2.2.2.2.2.2.1, Y.2.2.2.2.2.2.2.2.2.1, Y.2.2.2.2.2.2.2.2.2.2⟩⟩
  have sn : ∀ {h4 : AH} {v : Int32}, SN h4 (sI h4 116 10 v) := fun {h4 v} => ⟨Fr.sI (by decide), fun z _ _ _ _ _ z10 => rd_k z10⟩
  rw [jsg_nb s0] at k1 k0
  rw [A.2.1]
  refine ⟨X.1.o (by decide) rfl, fun e => ?_, fun e => ?_⟩
  · have e2 : ¬ tk b L (te b L s.2.2) = 4 := fun q => e ((ms_2 b L _).2.1.2 q)
    rw [if_neg e2] at k1 k0
    refine m_nb s0 X (fun h3 F S a c Y => ⟨_, rfl, fun _ => ⟨Y.1.o (by decide) rfl, fun z hz => ?_⟩, fun q => absurd q (by decide)⟩) (fun x a c => ⟨_, rfl, fun q => absurd rfl q, fun _ => k0 x h ⟨Fr.rf, fun _ _ _ _ _ _ _ => rfl⟩ a c⟩)
    rw [if_neg e] at hz
    rw [hz]
    exact k1 _ (SN.tr ⟨F, S⟩ sn) a (rd_h.trans c) (st Y)
  · have e2 : tk b L (te b L s.2.2) = 4 := (ms_2 b L _).2.1.1 e
    rw [if_pos e2] at k1 k0
    refine m_on X fun h5 S5 X5 => ⟨rfl, X5.1.o (by decide) rfl, ?_⟩
    refine m_nb (s := jnx b L s) s0 X5 (fun h3 F S a c Y => ⟨_, rfl, fun _ => ⟨Y.1.o (by decide) rfl, fun z hz => ?_⟩, fun q => absurd q (by decide)⟩) (fun x a c => ⟨_, rfl, fun q => absurd rfl q, fun _ => k0 x h5 S5.sn a c⟩)
    rw [if_pos e] at hz
    rw [hz]
    refine k1 _ ((S5.sn.tr ⟨F, S⟩).tr sn) a ?_ (st Y)
    rw [rd_h, c]
