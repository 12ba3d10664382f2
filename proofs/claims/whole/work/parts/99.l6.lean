theorem m_sheet {h : AH} {P : Option Value → AH → Prop} {b : Nat → Int32} {L : Nat} {x : JS × DD} (s0 : x.1.1 = 0) (X : MX h b L x.1.2.2) (H : DM h x.2)
    (k1 : ∀ h3, LH h h3 → (jsheet b L x).1.1 = 0 → MX h3 b L (te b L (jsheet b L x).1.2.2) → DM h3 (jsheet b L x).2 → P (some (.int 1)) h3)
    (k0 : ∀ h3, LH h h3 → ¬ (jsheet b L x).1.1 = 0 → gI h3 116 8 = (jsheet b L x).1.1 → gI h3 116 9 = (jsheet b L x).1.2.1 → P (some (.int 0)) h3) : Call mX12_readSheet [.ref 116] h P := by
  refine Call.ofR (by decide +kernel) (Nat.le_of_ble_eq_true rfl) (sX12_readSheet_0 h 116 ?_)
  have hc : (0 : Int32) ≤ 0 ∧ (0 : Int32) ≤ 4 := by decide
  have T := tw_c H.2.2.2.2.2.2.2.2.1 hc
  rw [show mc 0 = 4 from rfl] at T
  have e21 := H.2.2.2.2.2.2.2.1
  have H2 := H.tw (b := b) (L := L) (x := x) hc
  rw [show mc 0 = 4 from rfl] at H2
  have X2 := X.own (k := 21) (v := (gI h 116 21) ||| ((1 : Int32) <<< (4 &&& 31))) (by decide)
  have L2 : LH h (sI h 116 21 ((gI h 116 21) ||| ((1 : Int32) <<< (4 &&& 31)))) := LH.own (by decide)
  have e11 := H2.1.2.2.1
  rw [X2.1.f116_11, show Int32.toNatClampNeg 11 = 11 from rfl, e11]
  refine ⟨X.1.o (by decide) rfl, fun e => ⟨X2.1.a (by decide) rfl, vp_in_nI (show 11 < 18 by decide) (by decide), fun g => ?_, fun g => ?_⟩, fun e => ?_⟩
  · rw [e21, T.1, Classical.not_not] at e
    unfold jsheet jsh2 at k1 k0
    rw [if_pos g, jtw_0 (b := b) (L := L) e] at k1 k0
    refine m_on X2 fun h3 S3 X3 => ⟨rfl, X3.1.o (by decide) rfl, m_nb s0 X3 (fun h5 F5 S5 a v Y => ⟨_, rfl, fun _ => ⟨Y.1.o (by decide) rfl, ?_⟩, fun q => absurd q (by decide)⟩) (fun z a n => ⟨_, rfl, fun q => absurd rfl q, fun _ => ?_⟩)⟩
    · rw [Y.1.f116_11, v]
      refine ⟨Y.1.a (by decide) rfl, vp_in_nI (show 9 < 18 by decide) (by decide), ?_⟩
      have H5 := ((H2.sn S3.sn).sn ⟨F5, S5⟩).num (k := 9) (q := 1) (by omega) (jnb b L 10 200 x.1).1
      have L5 := ((L2.tr (LH.sn S3.sn)).tr (LH.sn ⟨F5, S5⟩)).tr (LH.up (h := h5) (r := 118) (k := 9) (v := (jnb b L 10 200 x.1).1) (by decide) (by decide) (by decide))
      refine m_nb a (Y.row (r := 118) (by decide)) (fun h6 F6 S6 a6 v6 Y6 => ⟨_, rfl, fun _ => ⟨Y6.1.o (by decide) rfl, ?_⟩, fun q => absurd q (by decide)⟩) (fun z a6 n => ⟨_, rfl, fun q => absurd rfl q, fun _ => ?_⟩)
      · rw [Y6.1.f116_11, v6]
        refine ⟨Y6.1.a (by decide) rfl, vp_in_nI (show 10 < 18 by decide) (by decide), ?_⟩
        exact k1 _ ((L5.tr (LH.sn ⟨F6, S6⟩)).tr (LH.up (by decide) (by decide) (by decide))) a6 (Y6.row (by decide)) ((H5.sn ⟨F6, S6⟩).num (k := 10) (q := 2) (by omega) _)
      · refine k0 _ (L5.tr ((LH.own (by decide)).tr (LH.own (by decide)))) (by rw [a6]; exact n) ?_ ?_
        · rw [rd_k (by decide), rd_h, a6]
        · rw [rd_h]
    · have n2 : ¬ (jnb b L 10 200 x.1).2.1 = 0 := by rw [a]; exact n
      rw [jnb_f n2] at k0
      refine k0 _ ((L2.tr (LH.sn S3.sn)).tr ((LH.own (by decide)).tr (LH.own (by decide)))) n2 ?_ ?_
      · rw [rd_k (by decide), rd_h, a]
      · rw [rd_h]
  · rw [e21, T.1, Classical.not_not] at e
    unfold jsheet jsh2 at k0
    rw [if_neg g, jtw_0 (b := b) (L := L) e, jrf_0 s0, jnb_f (by decide : ¬ (5 : Int32) = 0), jnb_f (by decide : ¬ (5 : Int32) = 0)] at k0
    exact m_fails X2 ⟨_, rfl, Or.inl rfl, k0 _ (L2.tr ((LH.own (by decide)).tr (LH.own (by decide)))) (by decide : ¬ (5 : Int32) = 0) (by rw [rd_k (by decide), rd_h]) (by rw [rd_h])⟩
  · rw [e21, T.1] at e
    unfold jsheet jsh2 at k0
    have j1 := jtw_1 (b := b) (L := L) s0 e
    have j2 : (if (jtw b L 0 x).2 0 3 ≤ 0 then (jtw b L 0 x).1 else jrf b L 5 (jtw b L 0 x).1) = (3, nI (ts b L x.1.2.2), x.1.2.2) := by
      rw [j1, jrf_f (by decide : ¬ (3 : Int32) = 0)]
      split <;> rfl
    rw [j2, jnb_f (by decide : ¬ (3 : Int32) = 0), jnb_f (by decide : ¬ (3 : Int32) = 0)] at k0
    exact m_fails X2 ⟨_, rfl, Or.inl rfl, k0 _ (L2.tr ((LH.own (by decide)).tr (LH.own (by decide)))) (by decide : ¬ (3 : Int32) = 0) (by rw [rd_k (by decide), rd_h]) (by rw [rd_h])⟩
