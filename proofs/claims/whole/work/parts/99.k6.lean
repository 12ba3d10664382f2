/-! JOB, the reference: tokens over the class's bytes -/
theorem mt_cg {B B2 : Nat → Int32} {n w : Nat} (e : ∀ i, i < n → B i = B2 i) : mt B n w ↔ mt B2 n w :=
  ⟨fun m => ⟨m.1, fun i hi => (m.2 i hi).trans (e i hi)⟩, fun m => ⟨m.1, fun i hi => (m.2 i hi).trans (e i hi).symm⟩⟩
theorem kyf_cg {B B2 : Nat → Int32} {n : Nat} (e : ∀ i, i < n → B i = B2 i) : ∀ {m v : Nat} {z : Int32}, kyf B n m v z → kyf B2 n m v z
  | 0, _, _, h => h
  | _ + 1, _, _, h => by
    rcases h with ⟨a, c⟩ | ⟨a, c⟩
    · exact Or.inl ⟨(mt_cg e).1 a, c⟩
    · exact Or.inr ⟨fun q => a ((mt_cg e).2 q), kyf_cg e c⟩
theorem MAt.cg {h : AH} {L p : Nat} {b b2 : Nat → Int32} (hp : p ≤ L) (e : ∀ x, x < L → b x = b2 x) (A : MAt h L p b) : MAt h L p b2 := by
  obtain ⟨t1, t2, t3, t4⟩ := tok_c hp e
  obtain ⟨a1, a2, a3, a4, a5, a6⟩ := A
  have r := te_rng (b := b2) hp
  refine ⟨a1, by rw [← t3]; exact a2, by rw [← t1]; exact a3, by rw [← t2]; exact a4, fun q => ?_, fun q => ?_⟩
  · have := a5 (by rw [t3]; exact q)
    rw [t1, t2] at this
    exact kyf_cg (fun i hi => e _ (by omega)) this
  · rw [← t4]
    exact a6 (by rw [t3]; exact q)
/-- the reference stands at the token behind p -/
def MX (h : AH) (b : Nat → Int32) (L p : Nat) : Prop := Wf h ∧ L ≤ 900 ∧ p ≤ L ∧ (ByOK h L ∧ gI h 116 8 = 0 ∧ gI h 116 9 = -1) ∧ (∀ x, x < L → gI h 117 x = b x) ∧ MAt h L p b
/-- what a scan keeps -/
def SC (h h3 : AH) : Prop := Fr [116] h h3 ∧ ∀ z, z ≠ 3 → z ≠ 4 → z ≠ 5 → z ≠ 6 → z ≠ 7 → gI h3 116 z = gI h 116 z
theorem m_on {h : AH} {P : Option Value → AH → Prop} {b : Nat → Int32} {L p : Nat} (X : MX h b L p) (k : ∀ h3, SC h h3 → MX h3 b L (te b L p) → P none h3) : Call mX12_scan [.ref 116] h P := by
  obtain ⟨w, hL, hp, hb, e, A⟩ := X
  have A1 : MAt h L p (gI h 117) := A.cg hp (fun x hx => (e x hx).symm)
  refine c12_on w hL hp A1 hb.1 fun h3 F z A3 => k h3 ⟨F, z⟩ ?_
  have e7 : gI h3 117 = gI h 117 := (F.2.2 117 (by decide)).1
  have t := tok_c (b := gI h 117) (b2 := b) hp e
  refine ⟨F.wf w, hL, te_le hp, ⟨fun x hx => by rw [e7]; exact hb.1 x hx, (z 8 (by decide) (by decide) (by decide) (by decide) (by decide)).trans hb.2.1, (z 9 (by decide) (by decide) (by decide) (by decide) (by decide)).trans hb.2.2⟩, fun x hx => by rw [e7]; exact e x hx, ?_⟩
  rw [t.2.1] at A3
  exact A3.cg (te_le hp) e
theorem m_fails {h : AH} {P : Option Value → AH → Prop} {b : Nat → Int32} {L p : Nat} (X : MX h b L p) {x : Int32} (k : P (some (.int 0)) (sI (sI h 116 8 x) 116 9 (nI (ts b L p)))) : Call mX12_fails [.ref 116, .int x] h P := by
  refine Call.ofR (by decide +kernel) (Nat.le_of_ble_eq_true rfl) (sX12_fails_0 h 116 x ?_)
  rw [X.2.2.2.2.2.2.2.1]
  exact ⟨X.1.o (by decide) rfl, k⟩
/-- a number: the class at s (live), the reference one token on -/
theorem m_nb {h : AH} {P : Option Value → AH → Prop} {b : Nat → Int32} {L : Nat} {s : JS} (s0 : s.1 = 0) (X : MX h b L (te b L s.2.2)) {lo hi : Int32} (k1 : ∀ h3, Fr [116] h h3 → (∀ z, z ≠ 3 → z ≠ 4 → z ≠ 5 → z ≠ 6 → z ≠ 7 → z ≠ 10 → gI h3 116 z = gI h 116 z) → (jnb b L lo hi s).2.1 = 0 → gI h3 116 10 = (jnb b L lo hi s).1 → MX h3 b L (te b L (jnb b L lo hi s).2.2.2) → P (some (.int 1)) h3) (k0 : ∀ x : Int32, (jnb b L lo hi s).2.1 = x → ¬ x = 0 → P (some (.int 0)) (sI (sI h 116 8 x) 116 9 (jnb b L lo hi s).2.2.1)) : Call mX12_readNumber [.ref 116, .int lo, .int hi] h P := by
  refine Call.ofR (by decide +kernel) (Nat.le_of_ble_eq_true rfl) (sX12_readNumber_0 h 116 lo hi ?_)
  have A := X.2.2.2.2.2
  rw [jnb, if_pos s0, jnh] at k1 k0
  rw [A.2.1]
  refine ⟨X.1.o (by decide) rfl, fun e => ?_, fun e => ?_⟩
  · have e2 : tk b L (te b L s.2.2) = 2 := (ms_2 b L _).1.1 e
    rw [A.2.2.2.2.2 e2]
    rw [if_pos (show tk b L (jnx b L s).2.2 = 2 from e2)] at k1 k0
    refine ⟨fun q => ?_, fun q => ?_⟩
    · have q1 : ¬ val b L (jnx b L s).2.2 < lo := q.1
      have q2 : val b L (jnx b L s).2.2 ≤ hi := by
        have := q.2
        change val b L (te b L s.2.2) ≤ hi
        grind
      rw [if_neg q1, if_pos q2] at k1
      have X2 : MX (sI h 116 10 (val b L (te b L s.2.2))) b L (te b L s.2.2) := ⟨(Fr.sI (S := [116]) (by decide)).wf X.1, X.2.1, X.2.2.1, X.2.2.2.1, X.2.2.2.2.1, ⟨A.1, A.2.1, A.2.2.1, A.2.2.2.1, A.2.2.2.2.1, A.2.2.2.2.2⟩⟩
      refine m_on X2 fun h3 S Y => ⟨rfl, k1 h3 ((Fr.sI (by decide)).tr S.1) (fun z z3 z4 z5 z6 z7 z10 => (S.2 z z3 z4 z5 z6 z7).trans (rd_k z10)) s0 ((S.2 10 (by decide) (by decide) (by decide) (by decide) (by decide)).trans rd_h) Y⟩
    · have q3 : (if val b L (jnx b L s).2.2 < lo then (lo, jrf b L 2 (jnx b L s)) else if val b L (jnx b L s).2.2 ≤ hi then (val b L (jnx b L s).2.2, jnx b L s) else (lo, jrf b L 2 (jnx b L s))) = (lo, jrf b L 2 (jnx b L s)) := by
        change ¬ (¬ val b L (jnx b L s).2.2 < lo ∧ ¬ hi < val b L (jnx b L s).2.2) at q
        split
        · rfl
        · next q5 => rw [if_neg (fun q6 => q ⟨q5, by grind⟩)]
      rw [q3, jrf, if_pos (show (jnx b L s).1 = 0 from s0)] at k0
      exact m_fails X ⟨_, rfl, Or.inl rfl, k0 2 rfl (by decide)⟩
  · have e2 : ¬ tk b L (jnx b L s).2.2 = 2 := fun q => e ((ms_2 b L _).1.2 q)
    rw [if_neg e2, jrf, if_pos (show (jnx b L s).1 = 0 from s0)] at k0
    exact m_fails X ⟨_, rfl, Or.inl rfl, k0 1 rfl (by decide)⟩
