theorem c8_le {k : Int32} (h0 : 0 ≤ k) (h8 : k < 8) : 8 ≤ (8 + k).toNatClampNeg := by
  obtain ⟨a, ha, e1⟩ : ∃ q : Nat, q ≤ 7 ∧ k = nI q := nI_of2 (M := 7) rfl (by grind) (by grind)
  rw [e1, show (8 : Int32) + nI a = nI (8 + a) from nI_add 8 a, nI_clamp (by omega)]
  omega
theorem m_mark {h : AH} {P : Option Value → AH → Prop} {b : Nat → Int32} {L : Nat} {x : JS × DD} (s0 : x.1.1 = 0) (X : MX h b L x.1.2.2) (H : DM h x.2) (K : DK x.2)
    (k1 : ∀ h3, LH h h3 → (jmark b L x).1.1 = 0 → MX h3 b L (te b L (jmark b L x).1.2.2) → DM h3 (jmark b L x).2 → P (some (.int 1)) h3)
    (k0 : ∀ h3, LH h h3 → ¬ (jmark b L x).1.1 = 0 → gI h3 116 8 = (jmark b L x).1.1 → gI h3 116 9 = (jmark b L x).1.2.1 → P (some (.int 0)) h3) : Call mX12_readMark [.ref 116] h P := by
  refine Call.ofR (by decide +kernel) (Nat.le_of_ble_eq_true rfl) (sX12_readMark_0 h 116 ?_)
  have e11 : gI h 118 11 = x.2 0 3 := H.1.2.2.1
  have m := K.1
  unfold jmark at k1 k0
  rw [X.1.f116_11, show Int32.toNatClampNeg 11 = 11 from rfl, e11]
  generalize ek : x.2 0 3 = k at *
  refine ⟨X.1.o (by decide) rfl, X.1.a (by decide) rfl, vp_in_nI (show 11 < 18 by decide) (by decide), fun g => ?_, fun g => ?_⟩
  · have g2 : k < 8 := lt_8 m.2 g
    have m7 : inr k 0 7 := ⟨m.1, le_7 g2⟩
    have v16 : vp_in (8 + k) 16 := vin_16.2 (in_8 m.1 g2)
    rw [if_pos g2] at k1 k0
    refine m_on X fun h3 S3 X3 => ⟨rfl, X3.1.o (by decide) rfl, ?_⟩
    have H3 := H.sn S3.sn
    have e9 : gI h3 118 9 = x.2 0 1 := H3.1.1
    rw [X3.1.f116_11, show Int32.toNatClampNeg 9 = 9 from rfl, e9]
    refine ⟨X3.1.a (by decide) rfl, vp_in_nI (show 9 < 18 by decide) (by decide), m_nb s0 X3 (fun h5 F5 S5 a v Y => ⟨_, rfl, fun _ => ⟨Y.1.o (by decide) rfl, ?_⟩, fun q => absurd q (by decide)⟩) (fun z a n => ⟨_, rfl, fun q => absurd rfl q, fun _ => ?_⟩)⟩
    · have H5 := H3.sn ⟨F5, S5⟩
      have H5a := (H5.m1 ek m (jnb b L 0 (x.2 0 1) x.1).1).1
      have L5 := ((LH.sn S3.sn).tr (LH.sn ⟨F5, S5⟩)).tr (LH.up (h := h5) (r := 119) (k := (8 + k).toNatClampNeg) (v := (jnb b L 0 (x.2 0 1) x.1).1) (by decide) (by decide) (show 8 ≤ _ from c8_le m.1 g2))
      have e10 : gI (sI h5 119 (8 + k).toNatClampNeg (jnb b L 0 (x.2 0 1) x.1).1) 118 10 = x.2 0 2 := H5a.1.2.1
      rw [Y.1.f116_11, Y.1.f116_12, v, show Int32.toNatClampNeg 10 = 10 from rfl, e10]
      refine ⟨Y.1.a (by decide) rfl, v16, Y.1.a (by decide) rfl, vp_in_nI (show 10 < 18 by decide) (by decide), m_nb a (Y.row (r := 119) (by decide)) (fun h6 F6 S6 a6 v6 Y6 => ⟨_, rfl, fun _ => ⟨Y6.1.o (by decide) rfl, ?_⟩, fun q => absurd q (by decide)⟩) (fun z a6 n => ⟨_, rfl, fun q => absurd rfl q, fun _ => ?_⟩)⟩
      · have H6 := H5a.sn ⟨F6, S6⟩
        have H7 := (H6.m1 (k := k) ek m (jnb b L 0 (x.2 0 2) (jnb b L 0 (x.2 0 1) x.1).2).1).2
        have c7 : gI (sI h6 120 (8 + k).toNatClampNeg (jnb b L 0 (x.2 0 2) (jnb b L 0 (x.2 0 1) x.1).2).1) 118 11 = k := (H7.1.2.2.1).trans ek
        rw [Y6.1.f116_11, Y6.1.f116_13, v6, c7]
        refine ⟨Y6.1.a (by decide) rfl, v16, Y6.1.a (by decide) rfl, vp_in_nI (show 11 < 18 by decide) (by decide), ?_⟩
        refine k1 _ ((((L5.tr (LH.sn ⟨F6, S6⟩)).tr (LH.up (r := 120) (by decide) (by decide) (show 8 ≤ _ from c8_le m.1 g2)))).tr (LH.up (r := 118) (by decide) (by decide) (by decide))) a6 ((Y6.row (by decide)).row (by decide)) (H7.m3 (k := k) ek m7 ?_ ?_)
        · rw [rd_r (by decide), F6.I (by decide), rd_h, u, if_neg (fun q => by omega), u, if_pos ⟨rfl, rfl⟩]
        · rw [rd_h, u, if_pos ⟨rfl, rfl⟩]
      · refine k0 _ (L5.tr ((LH.own (by decide)).tr (LH.own (by decide)))) (by rw [a6]; exact n) ?_ ?_
        · rw [rd_k (by decide), rd_h, a6]
        · rw [rd_h]
    · have n2 : ¬ (jnb b L 0 (x.2 0 1) x.1).2.1 = 0 := by rw [a]; exact n
      rw [jnb_f n2] at k0
      refine k0 _ ((LH.sn S3.sn).tr ((LH.own (by decide)).tr (LH.own (by decide)))) n2 ?_ ?_
      · rw [rd_k (by decide), rd_h, a]
      · rw [rd_h]
  · rw [if_neg (by rw [g]; decide), jrf_0 s0] at k0
    exact m_fails X ⟨_, rfl, Or.inl rfl, k0 _ ((LH.own (by decide)).tr (LH.own (by decide))) (by decide : ¬ (4 : Int32) = 0) (by rw [rd_k (by decide), rd_h]) (by rw [rd_h])⟩
theorem m_screen {h : AH} {P : Option Value → AH → Prop} {b : Nat → Int32} {L : Nat} {x : JS × DD} (s0 : x.1.1 = 0) (X : MX h b L x.1.2.2) (H : DM h x.2) (K : DK x.2)
    (k1 : ∀ h3, LH h h3 → (jscreen b L x).1.1 = 0 → MX h3 b L (te b L (jscreen b L x).1.2.2) → DM h3 (jscreen b L x).2 → P (some (.int 1)) h3)
    (k0 : ∀ h3, LH h h3 → ¬ (jscreen b L x).1.1 = 0 → gI h3 116 8 = (jscreen b L x).1.1 → gI h3 116 9 = (jscreen b L x).1.2.1 → P (some (.int 0)) h3) : Call mX12_readScreen [.ref 116] h P := by
  refine Call.ofR (by decide +kernel) (Nat.le_of_ble_eq_true rfl) (sX12_readScreen_0 h 116 ?_)
  have e11 : gI h 118 17 = x.2 14 0 := H.1.2.2.2.2.2.2.2.2
  have m := K.2.1
  unfold jscreen at k1 k0
  rw [X.1.f116_11, show Int32.toNatClampNeg 17 = 17 from rfl, e11]
  generalize ek : x.2 14 0 = k at *
  refine ⟨X.1.o (by decide) rfl, X.1.a (by decide) rfl, vp_in_nI (show 17 < 18 by decide) (by decide), fun g => ?_, fun g => ?_⟩
  · have g2 : k < 8 := lt_8 m.2 g
    have m7 : inr k 0 7 := ⟨m.1, le_7 g2⟩
    have v16 : vp_in (8 + k) 16 := vin_16.2 (in_8 m.1 g2)
    rw [if_pos g2] at k1 k0
    refine m_on X fun h3 S3 X3 => ⟨rfl, X3.1.o (by decide) rfl, ?_⟩
    have H3 := H.sn S3.sn
    refine m_nb s0 X3 (fun h5 F5 S5 a v Y => ⟨_, rfl, fun _ => ⟨Y.1.o (by decide) rfl, ?_⟩, fun q => absurd q (by decide)⟩) (fun z a n => ⟨_, rfl, fun q => absurd rfl q, fun _ => ?_⟩)
    · have H5 := H3.sn ⟨F5, S5⟩
      have H5a := (H5.s1 ek m (jnb b L 1 30 x.1).1).1
      have L5 := ((LH.sn S3.sn).tr (LH.sn ⟨F5, S5⟩)).tr (LH.up (h := h5) (r := 124) (k := (8 + k).toNatClampNeg) (v := (jnb b L 1 30 x.1).1) (by decide) (by decide) (show 8 ≤ _ from c8_le m.1 g2))
      rw [Y.1.f116_17, v]
      refine ⟨Y.1.a (by decide) rfl, v16, m_nb a (Y.row (r := 124) (by decide)) (fun h6 F6 S6 a6 v6 Y6 => ⟨_, rfl, fun _ => ⟨Y6.1.o (by decide) rfl, ?_⟩, fun q => absurd q (by decide)⟩) (fun z a6 n => ⟨_, rfl, fun q => absurd rfl q, fun _ => ?_⟩)⟩
      · have H6 := H5a.sn ⟨F6, S6⟩
        have H7 := (H6.s1 (k := k) ek m (jnb b L 1 30 (jnb b L 1 30 x.1).2).1).2
        have c7 : gI (sI h6 125 (8 + k).toNatClampNeg (jnb b L 1 30 (jnb b L 1 30 x.1).2).1) 118 17 = k := (H7.1.2.2.2.2.2.2.2.2).trans ek
        rw [Y6.1.f116_11, Y6.1.f116_18, v6, c7]
        refine ⟨Y6.1.a (by decide) rfl, v16, Y6.1.a (by decide) rfl, vp_in_nI (show 17 < 18 by decide) (by decide), ?_⟩
        refine k1 _ ((((L5.tr (LH.sn ⟨F6, S6⟩)).tr (LH.up (r := 125) (by decide) (by decide) (show 8 ≤ _ from c8_le m.1 g2)))).tr (LH.up (r := 118) (by decide) (by decide) (by decide))) a6 ((Y6.row (by decide)).row (by decide)) (H7.s3 (k := k) ek m7 ?_ ?_)
        · rw [rd_r (by decide), F6.I (by decide), rd_h, u, if_neg (fun q => by omega), u, if_pos ⟨rfl, rfl⟩]
        · rw [rd_h, u, if_pos ⟨rfl, rfl⟩]
      · refine k0 _ (L5.tr ((LH.own (by decide)).tr (LH.own (by decide)))) (by rw [a6]; exact n) ?_ ?_
        · rw [rd_k (by decide), rd_h, a6]
        · rw [rd_h]
    · have n2 : ¬ (jnb b L 1 30 x.1).2.1 = 0 := by rw [a]; exact n
      rw [jnb_f n2] at k0
      refine k0 _ ((LH.sn S3.sn).tr ((LH.own (by decide)).tr (LH.own (by decide)))) n2 ?_ ?_
      · rw [rd_k (by decide), rd_h, a]
      · rw [rd_h]
  · rw [if_neg (by rw [g]; decide), jrf_0 s0] at k0
    exact m_fails X ⟨_, rfl, Or.inl rfl, k0 _ ((LH.own (by decide)).tr (LH.own (by decide))) (by decide : ¬ (4 : Int32) = 0) (by rw [rd_k (by decide), rd_h]) (by rw [rd_h])⟩
