/-! a box -/
theorem DM.shp {h h2 : AH} {D D2 : DD} (H : DM h D) (e : ∀ r k, r < 100 ∨ 103 < r → D2 r k = D r k) (eh : ∀ r k, r ≠ 123 → gI h2 r k = gI h r k) (s : ∀ i y, i < 4 → y < 16 → gI h2 123 (16 * (4 + i) + y) = D2 (100 + i) y) : DM h2 D2 := by
  obtain ⟨a1, a2, a3, a4, a5, a6, a7, a8, a9, a10⟩ := H
  have g : ∀ r, r ≠ 123 → gI h2 r = gI h r := fun r hr => funext fun k => eh r k hr
  have f : ∀ r, r < 100 ∨ 103 < r → D2 r = D r := fun r hr => funext fun k => e r k hr
  refine ⟨?_, ?_, ?_, ?_, s, ?_, ?_, ?_, ?_, ?_⟩
  · rw [g 118 (by decide), f 0 (by decide), f 14 (by decide)]; exact a1
  · rw [g 119 (by decide), g 120 (by decide), f 0 (by decide), f 1 (by decide), f 2 (by decide)]; exact a2
  · rw [g 121 (by decide), f 3 (by decide)]; exact a3
  · rw [g 122 (by decide), f 3 (by decide), f 4 (by decide)]; exact a4
  · rw [g 124 (by decide), g 125 (by decide), f 14 (by decide), f 15 (by decide), f 16 (by decide)]; exact a6
  · rw [g 126 (by decide), f 18 (by decide)]; exact a7
  · rw [g 116 (by decide), f 200 (by decide)]; exact a8
  · rw [f 200 (by decide)]; exact a9
  · rw [g 116 (by decide), f 200 (by decide)]; exact a10
theorem jbx_o {D : DD} {i y n : Nat} {m : Int32} {r k : Nat} (hi : i < 4) (hr : r < 100 ∨ 103 < r) : jbx D i y n m r k = D r k := if_neg (fun q => by omega)
theorem DM.bx {h : AH} {D : DD} {i y z : Nat} {M : Int32} (hi : i < 4) (z16 : z < 16) (hyz : y ≤ z) (H : DM h (jbx D i y (z - y) M)) : DM (sI h 123 (16 * (4 + i) + z) ((gI h 123 (16 * (4 + i) + z)) ||| M)) (jbx D i y (z + 1 - y) M) := by
  have a5 := H.2.2.2.2.1
  refine H.shp (fun r k hr => by rw [jbx_o hi hr, jbx_o hi hr]) (fun r k hr => rd_r hr) (fun j q hj hq => ?_)
  rw [gI_sI']
  have T := a5 j q hj hq
  rw [jbx] at T ⊢
  by_cases c : j = i ∧ q = z
  · obtain ⟨rfl, rfl⟩ := c
    rw [if_pos ⟨rfl, rfl⟩, if_pos ⟨rfl, hyz, by omega⟩, T, if_neg (fun t => by omega)]
  · rw [if_neg (fun t => c (by omega)), T]
    by_cases c3 : 100 + j = 100 + i ∧ y ≤ q ∧ q < y + (z - y)
    · rw [if_pos c3, if_pos ⟨c3.1, c3.2.1, by omega⟩]
    · rw [if_neg c3, if_neg (fun t => c3 ⟨t.1, t.2.1, by omega⟩)]
theorem DM.bn {h : AH} {D : DD} (H : DM h D) (v : Int32) : DM (sI h 118 14 v) (u D 0 10 v) := by
  obtain ⟨⟨b1, b2, b3, b4, b5, b6, b7, b8, b9⟩, a2, a3, a4, a5, a6, a7, a8, a9, a10⟩ := H
  refine ⟨⟨b1, b2, b3, b4, b5, rfl, b7, b8, b9⟩, a2, a3, a4, fun i y hi hy => ?_, a6, a7, a8, a9, a10⟩
  rw [rd_r (by decide), u, if_neg (fun q => by omega)]
  exact a5 i y hi hy
theorem bx_ix : ∀ i : Fin 4, ∀ z : Fin 16, (16 * (4 + nI i.val) + nI z.val).toNatClampNeg = 16 * (4 + i.val) + z.val ∧ 0 ≤ 16 * (4 + nI i.val) + nI z.val ∧ 16 * (4 + nI i.val) + nI z.val < 128 := by decide +kernel
theorem m_bx {h0 : AH} {P : Option Value → AH → Prop} {b : Nat → Int32} {L q i y n : Nat} {D : DD} {x2 x4 : Int32} (hi : i < 4) (n16 : n ≤ 16) (y16 : y < 16)
    (k : ∀ h3, LH h0 h3 → MX h3 b L q → DM h3 (u (jbx D i y (min n (16 - y)) (((((1 : Int32) <<< (x4 &&& 31)) - 1) <<< (x2 &&& 31)) &&& 65535)) 0 10 (D 0 10 + 1)) → P (some (.int 1)) h3) : ∀ (m z : Nat) (h : AH), z + m = 16 → y ≤ z → z ≤ y + n → LH h0 h → MX h b L q → gI h 116 10 = nI n → DM h (jbx D i y (z - y) (((((1 : Int32) <<< (x4 &&& 31)) - 1) <<< (x2 &&& 31)) &&& 65535)) → Rr mX12_readBox 0 0 111 [(0, .ref 116), (1, .int (nI i)), (2, .int x2), (3, .int (nI y)), (4, .int x4), (5, .int (nI z))] [] h P
  | m, z, h, hz, hyz, hzn, l, X, e10, H => by
    refine sX12_readBox_111 h 116 _ _ _ _ _ ?_
    have ec : gI h 118 14 = D 0 10 := by
      rw [H.1.2.2.2.2.2.1]
      exact jbx_o hi (by decide)
    have fin : z - y = min n (16 - y) → P (some (.int 1)) (sI h 118 14 (D 0 10 + 1)) := fun q => by
      rw [q] at H
      exact k _ (l.tr (LH.up (by decide) (by decide) (by decide))) (X.row (by decide)) (H.bn _)
    rw [e10, X.1.f116_11, show Int32.toNatClampNeg 14 = 14 from rfl, ec, X.1.f116_16, nI_add, nI_leI (by omega) (by omega), show (16 : Int32) ≤ nI z ↔ nI 16 ≤ nI z from Iff.rfl, nI_leI (by omega) (by omega)]
    refine ⟨X.1.o (by decide) rfl, fun q => ⟨X.1.a (by decide) rfl, vp_in_nI (show 14 < 18 by decide) (by decide), fin (by omega)⟩, fun q => ⟨fun q2 => ⟨X.1.a (by decide) rfl, vp_in_nI (show 14 < 18 by decide) (by decide), fin (by omega)⟩, fun q2 => ⟨X.1.a (by decide) rfl, ?_⟩⟩⟩
    have A := bx_ix ⟨i, hi⟩ ⟨z, by omega⟩
    simp only at A
    rw [A.1]
    refine ⟨vin_128.2 A.2, ?_⟩
    cases m with
    | zero => omega
    | succ m =>
      rw [nI_1]
      exact m_bx hi n16 y16 k m (z + 1) _ (by omega) (by omega) (by omega) (l.tr (LH.up (by decide) (by decide) (show 64 ≤ _ by omega))) (X.row (by decide)) ((rd_r (by decide)).trans e10) (H.bx hi (by omega) hyz)
theorem m_box {h : AH} {P : Option Value → AH → Prop} {b : Nat → Int32} {L : Nat} {x : JS × DD} (s0 : x.1.1 = 0) (X : MX h b L x.1.2.2) (H : DM h x.2) (K : inr (x.2 0 10) 0 8)
    (k1 : ∀ h3, LH h h3 → (jbox b L x).1.1 = 0 → MX h3 b L (te b L (jbox b L x).1.2.2) → DM h3 (jbox b L x).2 → P (some (.int 1)) h3)
    (k0 : ∀ h3, LH h h3 → ¬ (jbox b L x).1.1 = 0 → gI h3 116 8 = (jbox b L x).1.1 → gI h3 116 9 = (jbox b L x).1.2.1 → P (some (.int 0)) h3) : Call mX12_readBox [.ref 116] h P := by
  refine Call.ofR (by decide +kernel) (Nat.le_of_ble_eq_true rfl) (sX12_readBox_0 h 116 ?_)
  have e14 : gI h 118 14 = x.2 0 10 := H.1.2.2.2.2.2.1
  unfold jbox at k1 k0
  rw [X.1.f116_11, show Int32.toNatClampNeg 14 = 14 from rfl, e14]
  refine ⟨X.1.o (by decide) rfl, X.1.a (by decide) rfl, vp_in_nI (show 14 < 18 by decide) (by decide), fun g => ?_, fun g => ?_⟩
  · have g2 : x.2 0 10 < 8 := lt_8 K.2 g
    rw [if_pos g2] at k1 k0
    refine m_on X fun h2 S2 X2 => ⟨rfl, X2.1.o (by decide) rfl, fun e => ?_, fun e => ?_⟩
    · have M2 := m_ink X2
      have c : ikc b L (te b L x.1.2.2) := M2.1.1 e
      have ri := ikc_r c
      rw [jnk_y s0 c] at k1 k0
      rw [M2.2 c]
      unfold jbox2 at k1 k0
      dsimp only at k1 k0
      generalize wrd b L 1 (te b L x.1.2.2) = i at *
      obtain ⟨n, n3, rfl⟩ := to4 ri
      rw [nI_clamp (by omega)] at k1
      refine m_on X2 fun h4 S4 X4 => ⟨rfl, X4.1.o (by decide) rfl, ?_⟩
      have L4 : LH h h4 := (LH.sn S2.sn).tr (LH.sn S4.sn)
      have H4 := (H.sn S2.sn).sn S4.sn
      generalize ey : jnx b L x.1 = y at *
      have ys : y.1 = 0 := by rw [← ey]; exact s0
      have yX : MX h4 b L (te b L y.2.2) := by rw [← ey]; exact X4
      refine m_nb ys yX (fun h5 F5 S5 a5 v5 X5 => ⟨_, rfl, fun _ => ⟨X5.1.o (by decide) rfl, ?_⟩, fun q => absurd q (by decide)⟩) (fun z a n2 => ⟨_, rfl, fun q => absurd rfl q, fun _ => ?_⟩)
      · rw [v5]
        have L5 := L4.tr (LH.sn ⟨F5, S5⟩)
        refine m_nb a5 X5 (fun h6 F6 S6 a6 v6 X6 => ⟨_, rfl, fun _ => ⟨X6.1.o (by decide) rfl, ?_⟩, fun q => absurd q (by decide)⟩) (fun z a n2 => ⟨_, rfl, fun q => absurd rfl q, fun _ => ?_⟩)
        · rw [v6]
          have L6 := L5.tr (LH.sn ⟨F6, S6⟩)
          refine m_nb a6 X6 (fun h7 F7 S7 a7 v7 X7 => ⟨_, rfl, fun _ => ⟨X7.1.o (by decide) rfl, ?_⟩, fun q => absurd q (by decide)⟩) (fun z a n2 => ⟨_, rfl, fun q => absurd rfl q, fun _ => ?_⟩)
          · rw [v7]
            have L7 := L6.tr (LH.sn ⟨F7, S7⟩)
            refine m_nb a7 X7 (fun h8 F8 S8 a8 v8 X8 => ⟨_, rfl, fun _ => ?_, fun q => absurd q (by decide)⟩) (fun z a n2 => ⟨_, rfl, fun q => absurd rfl q, fun _ => ?_⟩)
            · have L8 := L7.tr (LH.sn ⟨F8, S8⟩)
              have H8 := (((H4.sn ⟨F5, S5⟩).sn ⟨F6, S6⟩).sn ⟨F7, S7⟩).sn ⟨F8, S8⟩
              have ry := jnb_rng b L (lo := 0) (hi := 15) (by decide) (jnb b L 0 15 y).2
              have rn := jnb_rng b L (lo := 1) (hi := 16) (by decide) (jnb b L 1 16 (jnb b L 0 15 (jnb b L 0 15 y).2).2).2
              generalize jnb b L 1 16 (jnb b L 1 16 (jnb b L 0 15 (jnb b L 0 15 y).2).2).2 = s4 at *
              generalize (jnb b L 1 16 (jnb b L 0 15 (jnb b L 0 15 y).2).2).1 = vw at *
              generalize (jnb b L 0 15 (jnb b L 0 15 y).2).1 = vy at *
              generalize (jnb b L 0 15 y).1 = vx at *
              obtain ⟨yn, hyn, rfl⟩ : ∃ m : Nat, m ≤ 15 ∧ vy = nI m := nI_of2 (M := 15) rfl (by have := ry.1; grind) (by have := ry.2; grind)
              obtain ⟨nn, hnn, enn⟩ : ∃ m : Nat, m ≤ 16 ∧ s4.1 = nI m := nI_of2 (M := 16) rfl (by have := rn.1; grind) (by have := rn.2; grind)
              rw [enn] at v8 k1
              rw [nI_clamp (by omega), nI_clamp (by omega)] at k1
              refine m_bx (D := x.2) (by omega) hnn (by omega) (fun h9 L9 X9 H9 => k1 h9 L9 a8 X9 H9) (16 - yn) yn h8 (by omega) (Nat.le_refl _) (by omega) L8 X8 v8 ?_
              rw [Nat.sub_self, jbx_0]
              exact H8
            · refine k0 _ (L7.tr ((LH.own (by decide)).tr (LH.own (by decide)))) (by rw [a]; exact n2) ?_ ?_
              · rw [rd_k (by decide), rd_h, a]
              · rw [rd_h]
          · have f3 : ¬ (jnb b L 1 16 (jnb b L 0 15 (jnb b L 0 15 y).2).2).2.1 = 0 := by rw [a]; exact n2
            rw [jnb_f f3] at k0
            refine k0 _ (L6.tr ((LH.own (by decide)).tr (LH.own (by decide)))) f3 ?_ ?_
            · rw [rd_k (by decide), rd_h, a]
            · rw [rd_h]
        · have f3 : ¬ (jnb b L 0 15 (jnb b L 0 15 y).2).2.1 = 0 := by rw [a]; exact n2
          rw [jnb_f (lo := 1) f3, jnb_f (lo := 1) f3] at k0
          refine k0 _ (L5.tr ((LH.own (by decide)).tr (LH.own (by decide)))) f3 ?_ ?_
          · rw [rd_k (by decide), rd_h, a]
          · rw [rd_h]
      · have f3 : ¬ (jnb b L 0 15 y).2.1 = 0 := by rw [a]; exact n2
        rw [jnb_f (lo := 0) f3, jnb_f (lo := 1) f3, jnb_f (lo := 1) f3] at k0
        refine k0 _ (L4.tr ((LH.own (by decide)).tr (LH.own (by decide)))) f3 ?_ ?_
        · rw [rd_k (by decide), rd_h, a]
        · rw [rd_h]
    · have M2 := m_ink X2
      refine m_fl X2 (LH.sn S2.sn) (by decide) ?_ k0
      rw [jnk_n s0 (fun q => e (M2.1.2 q))]
      unfold jbox2
      dsimp only
      rw [jnb_f (lo := 0) (by decide : ¬ (1 : Int32) = 0), jnb_f (lo := 0) (by decide : ¬ (1 : Int32) = 0), jnb_f (lo := 1) (by decide : ¬ (1 : Int32) = 0), jnb_f (lo := 1) (by decide : ¬ (1 : Int32) = 0)]
  · rw [if_neg (by rw [g]; decide), jrf_0 s0] at k0
    exact m_fl X LH.rf (by decide) rfl k0
