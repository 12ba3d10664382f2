theorem tw_c {m c : Int32} (hm : inr m 0 31) (hc : 0 ≤ c ∧ c ≤ 4) : (((mbt m) >>> (mc c &&& 31)) &&& 1 = 1 ↔ ¬ (m >>> (c &&& 31)) &&& 1 = 0) ∧ mbt m ||| ((1 : Int32) <<< (mc c &&& 31)) = mbt (m ||| ((1 : Int32) <<< (c &&& 31))) ∧ inr (m ||| ((1 : Int32) <<< (c &&& 31))) 0 31 := by
  obtain ⟨a, ha, e1⟩ : ∃ q : Nat, q ≤ 31 ∧ m = nI q := nI_of2 (M := 31) rfl (by have := hm.1; grind) (by have := hm.2; grind)
  obtain ⟨d, hd, e2⟩ : ∃ q : Nat, q ≤ 4 ∧ c = nI q := nI_of2 (M := 4) rfl (by have := hc.1; grind) (by have := hc.2; grind)
  subst e1 e2
  have T := mbt_tab ⟨a, by omega⟩ ⟨d, by omega⟩
  exact ⟨T.1, T.2.1, T.2.2.1, T.2.2.2⟩
/-- the mask of what was told: both sides alike -/
theorem DM.tw {h : AH} {b : Nat → Int32} {L : Nat} {x : JS × DD} {c : Int32} (H : DM h x.2) (hc : 0 ≤ c ∧ c ≤ 4) : DM (sI h 116 21 ((gI h 116 21) ||| ((1 : Int32) <<< (mc c &&& 31)))) (jtw b L c x).2 := by
  obtain ⟨a1, a2, a3, a4, a5, a6, a7, a8, a9, a10⟩ := H
  have T := tw_c a9 hc
  refine ⟨a1, a2, a3, a4, fun i y hi hy => ?_, a6, a7, ?_, ?_, ?_⟩
  · rw [rd_r (by decide), jtw]
    show _ = u x.2 200 1 _ (100 + i) y
    rw [u, if_neg (fun q => by omega)]
    exact a5 i y hi hy
  · rw [rd_h, a8, T.2.1]
    rfl
  · exact T.2.2
  · exact a10
