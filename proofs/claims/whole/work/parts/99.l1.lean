/-! what the reading of a job keeps of the reference: lower halves, and of cell 116 all but 3 .. 19, 21, 22 -/
def mrw : List Nat := [116, 118, 119, 120, 121, 122, 123, 124, 125, 126]
def lo2 (r : Nat) : Nat := if r = 118 then 9 else if r = 121 then 4 else if r = 122 then 36 else if r = 123 then 64 else if r = 126 then 16 else 8
def LH (h h3 : AH) : Prop := Fr mrw h h3 ∧ (∀ z, z < 3 ∨ z = 20 ∨ 22 < z → gI h3 116 z = gI h 116 z) ∧ ∀ r k, r ≠ 116 → k < lo2 r → gI h3 r k = gI h r k
theorem LH.rf {h : AH} : LH h h := ⟨Fr.rf, fun _ _ => rfl, fun _ _ _ _ => rfl⟩
theorem LH.tr {h h2 h3 : AH} (a : LH h h2) (b : LH h2 h3) : LH h h3 := ⟨a.1.tr b.1, fun z hz => (b.2.1 z hz).trans (a.2.1 z hz), fun r k hr hk => (b.2.2 r k hr hk).trans (a.2.2 r k hr hk)⟩
theorem LH.sn {h h3 : AH} (S : SN h h3) : LH h h3 := ⟨S.1.sub (by decide), fun z hz => S.2 z (by omega) (by omega) (by omega) (by omega) (by omega) (by omega), fun r k hr _ => S.1.I (by simp; exact hr) k⟩
theorem LH.own {h : AH} {k : Nat} {v : Int32} (hk : ¬ (k < 3 ∨ k = 20 ∨ 22 < k)) : LH h (sI h 116 k v) := ⟨Fr.sI (by decide), fun z hz => rd_k (fun q => hk (q ▸ hz)), fun r z hr _ => rd_r hr⟩
theorem LH.up {h : AH} {r k : Nat} {v : Int32} (hr : r ∈ mrw) (h6 : r ≠ 116) (hk : lo2 r ≤ k) : LH h (sI h r k v) := by
  refine ⟨Fr.sI hr, fun z _ => rd_r (fun q => h6 q.symm), fun r2 k2 _ h2 => ?_⟩
  rw [gI_sI', if_neg]
  intro q
  rw [q.1, q.2] at h2
  omega
