/-! the reference's loop -/
theorem DM.cnt {h : AH} {D : DD} (H : DM h D) (v : Int32) : DM h (u D 0 0 v) := by
  obtain ⟨a1, a2, a3, a4, a5, a6, a7, a8, a9, a10⟩ := H
  refine ⟨a1, a2, a3, a4, fun i y hi hy => ?_, a6, a7, a8, a9, a10⟩
  rw [u, if_neg (fun q => by omega)]
  exact a5 i y hi hy
theorem jrun_f {b : Nat → Int32} {L : Nat} : ∀ {n : Nat} {x : JS × DD}, ¬ x.1.1 = 0 → jrun b L n x = x
  | 0, _, _ => rfl
  | _ + 1, _, f => if_neg f
theorem tk_L {b : Nat → Int32} {L : Nat} {p : Nat} (hp : p ≤ L) : tk b L p = 0 ↔ ts b L p = L := by
  have r := ts_rng (b := b) hp
  constructor
  · intro h
    rcases Nat.decEq (ts b L p) L with c | c
    · exfalso
      revert h
      unfold tk
      rw [if_neg c]
      repeat' split
      all_goals decide
    · exact c
  · intro c
    unfold tk
    rw [if_pos c]
theorem te_st {b : Nat → Int32} {L p : Nat} (hp : p ≤ L) (h : ¬ tk b L p = 0) : p < te b L p := by
  have c : ts b L p ≠ L := fun q => h ((tk_L hp).2 q)
  have := te_lt hp c
  have := (ts_rng (b := b) hp).1
  omega
theorem MX.five {h : AH} {b : Nat → Int32} {L p : Nat} (X : MX h b L p) : (gI h 116 3 = 5 ↔ tk b L p = 0) ∧ (gI h 116 3 = 3 ↔ tk b L p = 3) := by
  have A := X.2.2.2.2.2.2.1
  rw [A]
  exact ⟨(ms_2 b L p).2.2.1, (ms_2 b L p).2.2.2.2⟩
theorem jcl_00 {b : Nat → Int32} {L : Nat} {z : Int32} {x : JS × DD} : (jcl b L z x).2 0 0 = x.2 0 0 := by
  unfold jcl
  split
  · rfl
  split
  · rfl
  split
  · rfl
  split
  · rfl
  split
  · rfl
  split
  · unfold jmark
    split <;> rfl
  split
  · unfold jscrew
    split <;> rfl
  split
  · unfold jbox
    split
    · unfold jbox2
      dsimp only
      rw [u_k (by decide), jbx_o i4c (by decide)]
    · rfl
  split
  · unfold jscreen
    split <;> rfl
  split
  · rfl
  · rfl
theorem m_run {h0 : AH} {P : Option Value → AH → Prop} {b : Nat → Int32} {L : Nat} : ∀ (n : Nat) (h : AH) (x : JS × DD), x.1.1 = 0 → L - x.1.2.2 ≤ n → LH h0 h → MX h b L x.1.2.2 → DM h x.2 → DOK x.2 → x.1.2.1 = -1 →
    (∀ h3, LH h0 h3 → (jrun b L n x).1.1 = 0 → (jrun b L n x).1.2.1 = -1 → gI h3 116 8 = 0 → gI h3 116 9 = -1 → DM h3 (jrun b L n x).2 → DOK (jrun b L n x).2 → Call mX12_settle [.ref 116] h3 (fun v h4 => v = none ∧ ((isO h4 12 116) ∧ (P (some (.int ((jrun b L n x).2 0 0))) (sI h4 116 20 ((jrun b L n x).2 0 0)))))) →
    (∀ h3, LH h0 h3 → ¬ (jrun b L n x).1.1 = 0 → gI h3 116 8 = (jrun b L n x).1.1 → gI h3 116 9 = (jrun b L n x).1.2.1 → P (some (.int (-1))) h3) → Rr mX12_job 0 0 20 [(0, .ref 116), (1, .int (x.2 0 0))] [] h P := by
  intro n
  induction n with
  | zero =>
    intro h x s0 hn l X H K pl k1 k0
    have xp : x.1.2.2 ≤ L := X.2.2.1
    refine sX12_job_20 h 116 (x.2 0 0) ⟨X.1.o (by decide) rfl, fun e => ?_, fun e => ?_⟩
    · have e0 := X.five.1.1 e
      have er : jrun b L 0 x = x := rfl
      rw [er] at k1
      exact k1 h l s0 pl X.2.2.2.1.2.1 X.2.2.2.1.2.2 H K
    · have e0 : ¬ tk b L x.1.2.2 = 0 := fun q => e (X.five.1.2 q)
      have : x.1.2.2 = L := by omega
      exact absurd ((tk_L xp).2 (by have := ts_rng (b := b) xp; omega)) e0
  | succ n ih =>
    intro h x s0 hn l X H K pl k1 k0
    have xp : x.1.2.2 ≤ L := X.2.2.1
    refine sX12_job_20 h 116 (x.2 0 0) ⟨X.1.o (by decide) rfl, fun e => ?_, fun e => ?_⟩
    · have e0 := X.five.1.1 e
      have er : jrun b L (n + 1) x = x := by rw [jrun, if_pos s0, if_pos e0]
      rw [er] at k1
      exact k1 h l s0 pl X.2.2.2.1.2.1 X.2.2.2.1.2.2 H K
    · have e0 : ¬ tk b L x.1.2.2 = 0 := fun q => e (X.five.1.2 q)
      rw [jrun, if_pos s0, if_neg e0] at k1 k0
      have pc := PLs.cl (b := b) (L := L) (z := wrd b L 0 x.1.2.2) (x := x) xp
      have Kc := dok_cl (b := b) (L := L) (z := wrd b L 0 x.1.2.2) K
      unfold jst at k1 k0
      refine m_clause s0 X H K (fun h3 l3 a Y D => ⟨_, rfl, fun _ => ⟨Y.1.o (by decide) rfl, fun g => ?_, fun g => ?_⟩, fun q => absurd q (by decide)⟩) (fun h3 l3 nf a8 a9 => ⟨_, rfl, fun q => absurd rfl q, fun _ => ?_⟩)
      · have g3 := Y.five.2.1 g
        generalize ey : jcl b L (wrd b L 0 x.1.2.2) x = y at *
        have es : jse b L y = (jnx b L y.1, u y.2 0 0 (y.2 0 0 + 1)) := by rw [jse, if_pos a, if_pos g3]
        rw [es] at k1 k0
        have yp : y.1.2.2 ≤ L := pc.2.1
        have p1 : te b L y.1.2.2 ≤ L := te_le yp
        have p2 := te_st (b := b) p1 (by rw [g3]; decide)
        have p3 := te_geL (b := b) yp
        have ec : x.2 0 0 + 1 = u y.2 0 0 (y.2 0 0 + 1) 0 0 := by
          rw [u_h, ← ey, jcl_00]
        refine m_on Y fun h5 S5 Y5 => ⟨rfl, ?_⟩
        rw [ec]
        exact ih h5 (jnx b L (jnx b L y.1), u y.2 0 0 (y.2 0 0 + 1)) a (show L - te b L (te b L y.1.2.2) ≤ n by omega) ((l.tr l3).tr (LH.sn S5.sn)) Y5 ((D.sn S5.sn).cnt _) (dok_n Kc (by simp)) ((pc.2.2 a).2.trans pl) k1 k0
      · have g3 : ¬ tk b L (te b L (jcl b L (wrd b L 0 x.1.2.2) x).1.2.2) = 3 := fun q => g (Y.five.2.2 q)
        generalize ey : jcl b L (wrd b L 0 x.1.2.2) x = y at *
        have es : jse b L y = ((1, nI (ts b L (te b L y.1.2.2)), te b L y.1.2.2), y.2) := by
          rw [jse, if_pos a, if_neg g3, jrf_0 (show (jnx b L y.1).1 = 0 from a)]
          rfl
        rw [es, jrun_f (show ¬ (1 : Int32) = 0 by decide)] at k0
        exact m_fails Y ⟨_, rfl, k0 _ ((l.tr l3).tr ((LH.own (by decide)).tr (LH.own (by decide)))) (show ¬ (1 : Int32) = 0 by decide) (by rw [rd_k (by decide), rd_h]; rfl) (by rw [rd_h]; rfl)⟩
      · generalize ey : jcl b L (wrd b L 0 x.1.2.2) x = y at *
        have es : jse b L y = y := if_neg nf
        rw [es, jrun_f (x := (jnx b L y.1, y.2)) nf] at k0
        exact k0 h3 (l.tr l3) nf a8 a9
