theorem jtw_0 {b : Nat → Int32} {L : Nat} {c : Int32} {x : JS × DD} (e : ((x.2 200 1) >>> (c &&& 31)) &&& 1 = 0) : (jtw b L c x).1 = x.1 := if_pos e
theorem jtw_1 {b : Nat → Int32} {L : Nat} {c : Int32} {x : JS × DD} (s0 : x.1.1 = 0) (e : ¬ ((x.2 200 1) >>> (c &&& 31)) &&& 1 = 0) : (jtw b L c x).1 = (3, nI (ts b L x.1.2.2), x.1.2.2) := (if_neg e).trans (jrf_0 s0)
theorem m_one {h : AH} {P : Option Value → AH → Prop} {b : Nat → Int32} {L : Nat} {x : JS × DD} (s0 : x.1.1 = 0) (X : MX h b L x.1.2.2) (H : DM h x.2) {c hi : Int32} {w q : Nat} (hc : 0 ≤ c ∧ c ≤ 4) (hq : (q = 6 ∧ w = 3) ∨ (q = 9 ∧ w = 4) ∨ (q = 12 ∧ w = 6) ∨ (q = 13 ∧ w = 7))
    (k1 : ∀ h3, LH h h3 → (jone b L c hi q x).1.1 = 0 → MX h3 b L (te b L (jone b L c hi q x).1.2.2) → DM h3 (jone b L c hi q x).2 → P (some (.int 1)) h3)
    (k0 : ∀ h3, LH h h3 → ¬ (jone b L c hi q x).1.1 = 0 → gI h3 116 8 = (jone b L c hi q x).1.1 → gI h3 116 9 = (jone b L c hi q x).1.2.1 → P (some (.int 0)) h3) : Call mX12_readOne [.ref 116, .int (mc c), .int (nI w), .int hi] h P := by
  refine Call.ofR (by decide +kernel) (Nat.le_of_ble_eq_true rfl) (sX12_readOne_0 h 116 (mc c) (nI w) hi ?_)
  have T := tw_c H.2.2.2.2.2.2.2.2.1 hc
  have e21 := H.2.2.2.2.2.2.2.1
  have H2 := H.tw (b := b) (L := L) (x := x) hc
  have X2 := X.own (k := 21) (v := (gI h 116 21) ||| ((1 : Int32) <<< (mc c &&& 31))) (by decide)
  have L2 : LH h (sI h 116 21 ((gI h 116 21) ||| ((1 : Int32) <<< (mc c &&& 31)))) := LH.own (by decide)
  refine ⟨X.1.o (by decide) rfl, fun e => ?_, fun e => ?_⟩
  · rw [e21, T.1, Classical.not_not] at e
    have j1 := jtw_0 (b := b) (L := L) e
    unfold jone at k1 k0
    rw [j1] at k1 k0
    refine m_on X2 fun h3 S3 X3 => ⟨rfl, X3.1.o (by decide) rfl, m_nb s0 X3 (fun h5 F5 S5 a v Y => ⟨_, rfl, fun _ => ⟨Y.1.o (by decide) rfl, ?_⟩, fun q => absurd q (by decide)⟩) (fun z a n => ⟨_, rfl, fun q => absurd rfl q, fun _ => ?_⟩)⟩
    · rw [Y.1.f116_11, show (9 : Int32) + nI w = nI (9 + w) from nI_add 9 w, nI_clamp (by omega), v]
      refine ⟨Y.1.a (by decide) rfl, vp_in_nI (show 9 + w < 18 by omega) (by decide), ?_⟩
      have H5 := (H2.sn S3.sn).sn ⟨F5, S5⟩
      exact k1 _ (((L2.tr (LH.sn S3.sn)).tr (LH.sn ⟨F5, S5⟩)).tr (LH.up (by decide) (by decide) (show 9 ≤ 9 + w by omega))) a (Y.row (by decide)) (H5.num (by omega) _)
    · refine k0 _ ((L2.tr (LH.sn S3.sn)).tr ((LH.own (by decide)).tr (LH.own (by decide)))) (by rw [a]; exact n) ?_ ?_
      · rw [rd_k (by decide), rd_h, a]
      · rw [rd_h]
  · rw [e21, T.1] at e
    have j1 := jtw_1 (b := b) (L := L) s0 e
    unfold jone at k0
    rw [j1, jnb_f (by decide : ¬ (3 : Int32) = 0)] at k0
    exact m_fails X2 ⟨_, rfl, Or.inl rfl, k0 _ (L2.tr ((LH.own (by decide)).tr (LH.own (by decide)))) (by decide : ¬ (3 : Int32) = 0) (by rw [rd_k (by decide), rd_h]) (by rw [rd_h])⟩
