/-! JOB: the class's end -/
def HS1 (h3 : AH) (d j : Nat) : AH := sF (sF (sI h3 2 2 0) 0 2 d) 1 3 j
def HS2 (h3 : AH) (d j : Nat) : AH := sI (sI (sI (HS1 h3 d j) 42 0 0) 42 1 0) 42 2 0
def HS (h3 : AH) (d j : Nat) : AH := sI (sI (sI (HS2 h3 d j) 59 5 0) 62 9 0) 88 4 0
theorem k_X11 {h : AH} {P : Option Value → AH → Prop} {j d L : Nat} (w : Wf h) (hj : gF h 0 2 = j) (g : gF h 1 3 = d) (hd : d = 4 ∨ d = 23) (hL : L ≤ 900) (h2L : gI h 2 2 = nI L)
    (k : ∀ h3 D, Fr (dr d) h h3 → J0 D → D 200 1 = 0 → D 200 2 = 0 → CX h3 (gI h 3) L d (jrun (gI h 3) L 900 ((0, -1, 0), D)) → ((jrun (gI h 3) L 900 ((0, -1, 0), D)).1.1 = 0 → P (some (.int ((jrun (gI h 3) L 900 ((0, -1, 0), D)).2 0 0))) (HS h3 d j)) ∧ (¬ (jrun (gI h 3) L 900 ((0, -1, 0), D)).1.1 = 0 → P (some (.int (-1))) (sI h3 2 2 0))) : Call mX11_job [.ref 0] h P := by
  refine Call.ofR (by decide +kernel) (Nat.le_of_ble_eq_true rfl) (sX11_job_0 h 0 ?_)
  rw [w.f0_0]
  refine ⟨w.o (by decide) rfl, w.o (by decide) rfl, k_job w hd hL g h2L fun h3 D F J e1 e2 X => ⟨_, rfl, ?_⟩⟩
  have w3 := X.1
  have K := k h3 D F J e1 e2 X
  generalize jrun (gI h 3) L 900 ((0, -1, 0), D) = R at *
  have j3 : gF h3 0 2 = j := (F.2.1 0 2).trans hj
  have d3 : gF h3 1 3 = d := X.2.2.1
  have c0 : gI h3 d 0 = R.2 0 0 := X.2.2.2.2.2.2.1 0 0 (by decide)
  rw [w3.f0_1, w3.f0_0, d3, j3]
  rw [show gF (sF (sI h3 2 2 0) 0 2 d) 0 0 = 1 from w3.f0_0]
  rw [show sF (sF (sI h3 2 2 0) 0 2 d) 1 3 j = HS1 h3 d j from rfl]
  rw [show gF (HS1 h3 d j) 0 3 = 42 from w3.f0_3]
  rw [show sI (sI (sI (HS1 h3 d j) 42 0 0) 42 1 0) 42 2 0 = HS2 h3 d j from rfl]
  rw [show gF (HS2 h3 d j) 0 5 = 59 from w3.f0_5]
  rw [show gF (sI (HS2 h3 d j) 59 5 0) 0 6 = 62 from w3.f0_6]
  rw [show gF (sI (sI (HS2 h3 d j) 59 5 0) 62 9 0) 0 13 = 88 from w3.f0_13]
  rw [show sI (sI (sI (HS2 h3 d j) 59 5 0) 62 9 0) 88 4 0 = HS h3 d j from rfl]
  rw [show gF (HS h3 d j) 0 2 = d from rfl]
  have cH : gI (HS h3 d j) d 0 = R.2 0 0 := by
    rw [← c0]
    rcases hd with rfl | rfl <;> rfl
  rw [cH]
  refine ⟨w3.o (by decide) rfl, w3.o (by decide) rfl, fun q => ⟨w3.o (by decide) rfl, w3.o (by decide) rfl, w3.o (by decide) rfl, w3.o (by decide) rfl, w3.o (by decide) rfl, w3.o (by decide) rfl, (jo w3 hd).1, K.1 ?_⟩, fun q => K.2 ?_⟩
  · exact Classical.byContradiction fun t => q (bi_0.mpr t)
  · exact bi_0.mp q
theorem HS_wf {h3 : AH} {d j : Nat} (w : Wf h3) (c : (d = 4 ∧ j = 23) ∨ (d = 23 ∧ j = 4)) : Wf (HS h3 d j) := by
  refine ⟨w.1, fun q hq => ?_, ?_⟩
  · have t : ∀ q ∈ RFL, ¬ (q.1 = 1 ∧ q.2.1 = 3) ∧ ¬ (q.1 = 0 ∧ q.2.1 = 2) := by decide +kernel
    have e : gF (HS h3 d j) q.1 q.2.1 = gF h3 q.1 q.2.1 := by
      show (if q.1 = 1 ∧ q.2.1 = 3 then j else if q.1 = 0 ∧ q.2.1 = 2 then d else gF h3 q.1 q.2.1) = _
      rw [if_neg (t q hq).1, if_neg (t q hq).2]
    rw [e]
    exact w.2.1 q hq
  · rcases c with ⟨rfl, rfl⟩ | ⟨rfl, rfl⟩
    · exact Or.inl ⟨rfl, rfl⟩
    · exact Or.inr ⟨rfl, rfl⟩
theorem HS_r {h3 : AH} {d j r : Nat} (hr : r ≠ 2 ∧ r ≠ 42 ∧ r ≠ 59 ∧ r ≠ 62 ∧ r ≠ 88) : gI (HS h3 d j) r = gI h3 r := by
  funext k
  unfold HS HS2
  rw [rd_r hr.2.2.2.2, rd_r hr.2.2.2.1, rd_r hr.2.2.1, rd_r hr.2.1, rd_r hr.2.1, rd_r hr.2.1]
  unfold HS1
  show gI (sI h3 2 2 0) r k = _
  rw [rd_r hr.1]
theorem HS_L {h3 : AH} {d j : Nat} : gL (HS h3 d j) = gL h3 := rfl
