theorem MX.own {h : AH} {b : Nat → Int32} {L p k : Nat} {v : Int32} (X : MX h b L p) (hk : 9 < k) : MX (sI h 116 k v) b L p := by
  obtain ⟨w, a1, a2, a3, a4, A⟩ := X
  refine ⟨(Fr.sI (S := [116]) (by decide)).wf w, a1, a2, ⟨a3.1, (rd_k (by omega)).trans a3.2.1, (rd_k (by omega)).trans a3.2.2⟩, a4, ?_⟩
  obtain ⟨c1, c2, c3, c4, c5, c6⟩ := A
  refine ⟨?_, ?_, ?_, ?_, fun q => ?_, fun q => ?_⟩
  · rw [rd_k (by omega)]; exact c1
  · rw [rd_k (by omega)]; exact c2
  · rw [rd_k (by omega)]; exact c3
  · rw [rd_k (by omega)]; exact c4
  · rw [rd_k (by omega)]; exact c5 q
  · rw [rd_k (by omega)]; exact c6 q
theorem MX.row {h : AH} {b : Nat → Int32} {L p r k : Nat} {v : Int32} (X : MX h b L p) (hr : r ≠ 116 ∧ r ≠ 117) : MX (sI h r k v) b L p := by
  obtain ⟨w, a1, a2, a3, a4, A⟩ := X
  have e6 : gI (sI h r k v) 116 = gI h 116 := funext fun z => rd_r (fun q => hr.1 q.symm)
  have e7 : gI (sI h r k v) 117 = gI h 117 := funext fun z => rd_r (fun q => hr.2 q.symm)
  exact ⟨(Fr.sI (S := [r]) (by simp)).wf w, a1, a2, ⟨fun x hx => by rw [e7]; exact a3.1 x hx, (congrFun e6 8).trans a3.2.1, (congrFun e6 9).trans a3.2.2⟩, fun x hx => by rw [e7]; exact a4 x hx, A.ag e6⟩
theorem DM.sn {h h3 : AH} {D : DD} (H : DM h D) (S : SN h h3) : DM h3 D := by
  have e : ∀ r, r ≠ 116 → gI h3 r = gI h r := fun r hr => (S.1.2.2 r (by simp; exact hr)).1
  unfold DM
  rw [e 118 (by decide), e 119 (by decide), e 120 (by decide), e 121 (by decide), e 122 (by decide), e 123 (by decide), e 124 (by decide), e 125 (by decide), e 126 (by decide), S.2 21 (by decide) (by decide) (by decide) (by decide) (by decide) (by decide), S.2 22 (by decide) (by decide) (by decide) (by decide) (by decide) (by decide)]
  exact H
