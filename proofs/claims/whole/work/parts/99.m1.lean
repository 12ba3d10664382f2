/-! a screw -/
theorem sc_ix : ∀ i : Fin 4, ∀ k w : Fin 3, ((36 : Int32) + 9 * nI i.val + 3 * nI k.val + nI w.val).toNatClampNeg = 36 + 9 * i.val + 3 * k.val + w.val ∧ ((nI i.val * 3 + nI k.val) * 3 + nI w.val).toNatClampNeg = 9 * i.val + 3 * k.val + w.val ∧ 0 ≤ (36 : Int32) + 9 * nI i.val + 3 * nI k.val + nI w.val ∧ (36 : Int32) + 9 * nI i.val + 3 * nI k.val + nI w.val < 72 := by decide +kernel
theorem i4_ix : ∀ i : Fin 4, (4 + nI i.val).toNatClampNeg = 4 + i.val ∧ 0 ≤ 4 + nI i.val ∧ 4 + nI i.val < 8 ∧ (nI i.val).toNatClampNeg = i.val := by decide +kernel
theorem to4 {i : Int32} (h : 0 ≤ i ∧ i < 4) : ∃ q : Nat, q ≤ 3 ∧ i = nI q := nI_of2 (M := 3) rfl (by have := h.1; grind) (by have := h.2; grind)
theorem to3 {i : Int32} (h : 0 ≤ i ∧ i < 3) : ∃ q : Nat, q ≤ 2 ∧ i = nI q := nI_of2 (M := 2) rfl (by have := h.1; grind) (by have := h.2; grind)
theorem lt_tr3 {k d : Int32} (h : k < d) (g : d ≤ 3) : k < 3 := by grind
def Q4 (h : AH) (D : DD) (i c n : Int32) : Prop := ∀ w : Int32, 0 ≤ w → w < n → gI h 122 (36 + 9 * i + 3 * c + w).toNatClampNeg = D 4 ((i * 3 + c) * 3 + w).toNatClampNeg
theorem DM.sc {h : AH} {D : DD} (H : DM h D) (K : ∀ j, j < 4 → inr (D 3 j) 0 3) {i c w : Int32} (hi : 0 ≤ i ∧ i < 4) (ec : D 3 i.toNatClampNeg = c) (hc : 0 ≤ c ∧ c < 3) (hw : 0 ≤ w ∧ w < 3) (v : Int32) : DM (sI h 122 (36 + 9 * i + 3 * c + w).toNatClampNeg v) (u D 4 ((i * 3 + c) * 3 + w).toNatClampNeg v) ∧ (Q4 h D i c w → Q4 (sI h 122 (36 + 9 * i + 3 * c + w).toNatClampNeg v) (u D 4 ((i * 3 + c) * 3 + w).toNatClampNeg v) i c (w + 1)) := by
  obtain ⟨a1, a2, a3, a4, a5, a6, a7, a8, a9, a10⟩ := H
  obtain ⟨n, n3, rfl⟩ := to4 hi
  obtain ⟨k, k2, rfl⟩ := to3 hc
  obtain ⟨z, z2, rfl⟩ := to3 hw
  have A := sc_ix ⟨n, by omega⟩ ⟨k, by omega⟩ ⟨z, by omega⟩
  simp only at A
  rw [A.1, A.2.1]
  refine ⟨⟨a1, a2, a3, fun i2 c2 w2 p1 p2 p3 p4 p5 p6 => ?_, fun i y hi hy => ?_, a6, a7, a8, a9, a10⟩, fun Q w2 p1 p2 => ?_⟩
  · have p4' : c2 < D 3 i2.toNatClampNeg := p4
    have T := a4 i2 c2 w2 p1 p2 p3 p4' p5 p6
    obtain ⟨n', n3', rfl⟩ := to4 ⟨p1, p2⟩
    rw [nI_clamp (by omega)] at p4'
    obtain ⟨k', k2', rfl⟩ := to3 ⟨p3, lt_tr3 p4' (K n' (by omega)).2⟩
    obtain ⟨z', z2', rfl⟩ := to3 ⟨p5, p6⟩
    have B := sc_ix ⟨n', by omega⟩ ⟨k', by omega⟩ ⟨z', by omega⟩
    simp only at B
    rw [B.1, B.2.1] at T ⊢
    have ne : ¬ (36 + 9 * n' + 3 * k' + z' = 36 + 9 * n + 3 * k + z) := fun q => by
      have q1 : n' = n := by omega
      have q2 : k' = k := by omega
      subst q1 q2
      rw [nI_clamp (by omega)] at ec
      rw [ec, nI_ltI (by omega) (by omega)] at p4'
      omega
    rw [rd_k ne, u, if_neg (fun q => ne (by omega))]
    exact T
  · rw [rd_r (by decide), u, if_neg (fun q => by omega)]
    exact a5 i y hi hy
  · rw [nI_1] at p2
    obtain ⟨z', z2', rfl⟩ : ∃ q : Nat, q ≤ 2 ∧ w2 = nI q := to3 ⟨p1, by
      have : nI (z + 1) ≤ 3 := by
        show nI (z + 1) ≤ nI 3
        rw [nI_leI (by omega) (by omega)]
        omega
      exact lt_tr3 p2 this⟩
    rw [nI_ltI (by omega) (by omega)] at p2
    have B := sc_ix ⟨n, by omega⟩ ⟨k, by omega⟩ ⟨z', by omega⟩
    simp only at B
    by_cases q : z' = z
    · subst q
      rw [B.1, B.2.1, rd_h, u, if_pos ⟨rfl, rfl⟩]
    · have T := Q (nI z') p1 (by rw [nI_ltI (by omega) (by omega)]; omega)
      rw [B.1, B.2.1] at T ⊢
      rw [rd_k (by omega), u, if_neg (by omega)]
      exact T
theorem DM.s3c {h : AH} {D : DD} (H : DM h D) {i c : Int32} (hi : 0 ≤ i ∧ i < 4) (ec : D 3 i.toNatClampNeg = c) (hc : 0 ≤ c ∧ c < 3) (Q : Q4 h D i c 3) : DM (sI h 121 (4 + i).toNatClampNeg (c + 1)) (u D 3 i.toNatClampNeg (c + 1)) := by
  obtain ⟨a1, a2, a3, a4, a5, a6, a7, a8, a9, a10⟩ := H
  obtain ⟨n, n3, rfl⟩ := to4 hi
  have A := i4_ix ⟨n, by omega⟩
  simp only at A
  rw [A.1, A.2.2.2]
  rw [A.2.2.2] at ec
  refine ⟨a1, a2, fun j hj => ?_, fun i2 c2 w2 p1 p2 p3 p4 p5 p6 => ?_, fun i y hi hy => ?_, a6, a7, a8, a9, a10⟩
  · rw [gI_sI', u]
    by_cases q : j = n
    · rw [if_pos ⟨rfl, by omega⟩, if_pos ⟨rfl, q⟩]
    · rw [if_neg (fun t => q (by omega)), if_neg (fun t => q t.2)]
      exact a3 j hj
  · rw [rd_r (by decide)]
    show _ = D 4 ((i2 * 3 + c2) * 3 + w2).toNatClampNeg
    have T := a4 i2 c2 w2 p1 p2 p3
    obtain ⟨n', n3', rfl⟩ := to4 ⟨p1, p2⟩
    rw [nI_clamp (by omega)] at T p4
    rw [u] at p4
    by_cases q : n' = n
    · subst q
      rw [if_pos ⟨rfl, rfl⟩] at p4
      by_cases q2 : c2 = c
      · rw [q2]
        exact Q w2 p5 p6
      · exact T (by rw [ec]; exact lt_sc q2 p4 (by have := hc.2; grind)) p5 p6
    · rw [if_neg (fun t => q t.2)] at p4
      exact T p4 p5 p6
  · rw [rd_r (by decide), u, if_neg (fun q => by omega)]
    exact a5 i y hi hy
theorem m_sc1 {h0 h : AH} {P : Option Value → AH → Prop} {b : Nat → Int32} {L : Nat} {y : JS × DD} (s0 : y.1.1 = 0) (X : MX h b L (te b L y.1.2.2)) (l : LH h0 h) (H : DM h y.2) (K : ∀ j, j < 4 → inr (y.2 3 j) 0 3) {i c w : Int32} (hi : 0 ≤ i ∧ i < 4) (ec : y.2 3 i.toNatClampNeg = c) (hc : 0 ≤ c ∧ c < 3) (hw : 0 ≤ w ∧ w < 3) (Q : Q4 h y.2 i c w)
    (k1 : ∀ h3, LH h0 h3 → (jsc1 b L i c w y).1.1 = 0 → MX h3 b L (te b L (jsc1 b L i c w y).1.2.2) → DM h3 (jsc1 b L i c w y).2 → Q4 h3 (jsc1 b L i c w y).2 i c (w + 1) → Rr mX12_readScrew 0 0 48 [(0, .ref 116), (1, .int i), (2, .int c), (3, .int (w + 1))] [] h3 P)
    (k0 : ∀ h3, LH h0 h3 → ¬ (jsc1 b L i c w y).1.1 = 0 → gI h3 116 8 = (jsc1 b L i c w y).1.1 → gI h3 116 9 = (jsc1 b L i c w y).1.2.1 → P (some (.int 0)) h3) : Rr mX12_readScrew 0 0 48 [(0, .ref 116), (1, .int i), (2, .int c), (3, .int w)] [] h P := by
  refine sX12_readScrew_48 h 116 i c w ⟨fun q => absurd q (nle.2 hw.2), fun _ => ⟨X.1.o (by decide) rfl, m_sg s0 X (fun h3 S3 a v Y => ⟨_, rfl, fun _ => ⟨Y.1.o (by decide) rfl, ?_⟩, fun q => absurd q (by decide)⟩) (fun z h3 S3 a n => ⟨_, rfl, fun q => absurd rfl q, fun _ => ?_⟩)⟩⟩
  · have ix : 36 ≤ (36 + 9 * i + 3 * c + w).toNatClampNeg ∧ vp_in (36 + 9 * i + 3 * c + w) 72 := by
      obtain ⟨n, n3, rfl⟩ := to4 hi
      obtain ⟨k, k2, rfl⟩ := to3 hc
      obtain ⟨z, z2, rfl⟩ := to3 hw
      have A := sc_ix ⟨n, by omega⟩ ⟨k, by omega⟩ ⟨z, by omega⟩
      simp only at A
      rw [A.1]
      exact ⟨by omega, vin_72.2 A.2.2⟩
    rw [Y.1.f116_15, v]
    have H3 := H.sn S3
    have Q3 : Q4 h3 y.2 i c w := fun w2 p1 p2 => (S3.1.I (by decide) _).trans (Q w2 p1 p2)
    have T := H3.sc K hi ec hc hw (jsg b L 20 y.1).1
    exact ⟨Y.1.a (by decide) rfl, ix.2, k1 _ ((l.tr (LH.sn S3)).tr (LH.up (r := 122) (by decide) (by decide) ix.1)) a (Y.row (by decide)) T.1 (T.2 Q3)⟩
  · refine k0 _ ((l.tr (LH.sn S3)).tr ((LH.own (by decide)).tr (LH.own (by decide)))) (by rw [show (jsc1 b L i c w y).1.1 = z from a]; exact n) ?_ ?_
    · rw [rd_k (by decide), rd_h]; exact a.symm
    · rw [rd_h]; rfl
theorem jsc1_f {b : Nat → Int32} {L : Nat} {i c w : Int32} {y : JS × DD} (f : ¬ y.1.1 = 0) : (jsc1 b L i c w y).1 = y.1 := by
  show (jsg b L 20 y.1).2 = y.1
  rw [jsg_f f]
theorem jsc3_f {b : Nat → Int32} {L : Nat} {i c : Int32} {y : JS × DD} (f : ¬ y.1.1 = 0) : (jsc3 b L i c y).1 = y.1 := by
  have e0 := jsc1_f (b := b) (L := L) (i := i) (c := c) (w := 0) f
  have f0 : ¬ (jsc1 b L i c 0 y).1.1 = 0 := by rw [e0]; exact f
  have e1 := jsc1_f (b := b) (L := L) (i := i) (c := c) (w := 1) f0
  have f1 : ¬ (jsc1 b L i c 1 (jsc1 b L i c 0 y)).1.1 = 0 := by rw [e1]; exact f0
  have e2 := jsc1_f (b := b) (L := L) (i := i) (c := c) (w := 2) f1
  exact e2.trans (e1.trans e0)
theorem m_screw {h : AH} {P : Option Value → AH → Prop} {b : Nat → Int32} {L : Nat} {x : JS × DD} (s0 : x.1.1 = 0) (X : MX h b L x.1.2.2) (H : DM h x.2) (K : DK x.2)
    (k1 : ∀ h3, LH h h3 → (jscrew b L x).1.1 = 0 → MX h3 b L (te b L (jscrew b L x).1.2.2) → DM h3 (jscrew b L x).2 → P (some (.int 1)) h3)
    (k0 : ∀ h3, LH h h3 → ¬ (jscrew b L x).1.1 = 0 → gI h3 116 8 = (jscrew b L x).1.1 → gI h3 116 9 = (jscrew b L x).1.2.1 → P (some (.int 0)) h3) : Call mX12_readScrew [.ref 116] h P := by
  refine Call.ofR (by decide +kernel) (Nat.le_of_ble_eq_true rfl) (sX12_readScrew_0 h 116 ?_)
  refine ⟨X.1.o (by decide) rfl, m_on X fun h2 S2 X2 => ⟨rfl, X2.1.o (by decide) rfl, fun e => ?_, fun e => ?_⟩⟩
  · have M2 := m_ink X2
    have c : ikc b L (te b L x.1.2.2) := M2.1.1 e
    have ri := ikc_r c
    have H2 := H.sn S2.sn
    unfold jscrew at k1 k0
    rw [jnk_y s0 c] at k1 k0
    rw [M2.2 c, X2.1.f116_14]
    dsimp only at k1 k0
    generalize wrd b L 1 (te b L x.1.2.2) = i at *
    obtain ⟨n, n3, en⟩ := to4 ri
    have A := i4_ix ⟨n, by omega⟩
    simp only at A
    have e3 : gI h2 121 (4 + i).toNatClampNeg = x.2 3 i.toNatClampNeg := by
      rw [en, A.1, A.2.2.2]
      exact H2.2.2.1 n (by omega)
    have v8 : vp_in (4 + i) 8 := vin_8.2 (by rw [en]; exact ⟨A.2.1, A.2.2.1⟩)
    have k3 : inr (x.2 3 i.toNatClampNeg) 0 3 := by
      rw [en, A.2.2.2]
      exact K.2.2 n (by omega)
    have l4 : 4 ≤ (4 + i).toNatClampNeg := by
      rw [en, A.1]
      omega
    rw [e3]
    generalize ec : x.2 3 i.toNatClampNeg = d at *
    refine ⟨X2.1.a (by decide) rfl, v8, fun g => ?_, fun g => ?_⟩
    · have d3 : d < 3 := by have := k3.2; grind
      have hd : 0 ≤ d ∧ d < 3 := ⟨k3.1, d3⟩
      rw [if_pos d3] at k1 k0
      unfold jsc3 at k1 k0
      refine m_on X2 fun h4 S4 X4 => ⟨rfl, ?_⟩
      have H4 := H2.sn S4.sn
      have L4 : LH h h4 := (LH.sn S2.sn).tr (LH.sn S4.sn)
      generalize ey : ((jnx b L x.1, x.2) : JS × DD) = y at *
      have ys : y.1.1 = 0 := by rw [← ey]; exact s0
      have yX : MX h4 b L (te b L y.1.2.2) := by rw [← ey]; exact X4
      have yD : y.2 = x.2 := by rw [← ey]
      have yH : DM h4 y.2 := by rw [yD]; exact H4
      have yK : ∀ j, j < 4 → inr (y.2 3 j) 0 3 := by rw [yD]; exact K.2.2
      have yc : y.2 3 i.toNatClampNeg = d := by rw [yD]; exact ec
      refine m_sc1 ys yX L4 yH yK ri yc hd ⟨by decide, by decide⟩ (fun w p1 p2 => absurd p1 (nle.2 p2)) (fun h5 L5 a5 X5 H5 Q5 => ?_) (fun h5 L5 n a8 a9 => ?_)
      · refine m_sc1 a5 X5 L5 H5 yK ri yc hd ⟨by decide, by decide⟩ Q5 (fun h6 L6 a6 X6 H6 Q6 => ?_) (fun h5 L5 n a8 a9 => ?_)
        · refine m_sc1 a6 X6 L6 H6 yK ri yc hd ⟨by decide, by decide⟩ Q6 (fun h7 L7 a7 X7 H7 Q7 => ?_) (fun h5 L5 n a8 a9 => k0 h5 L5 n a8 a9)
          refine sX12_readScrew_48 h7 116 i d _ ⟨fun _ => ?_, fun q => absurd (by decide) q⟩
          have e7 : gI h7 121 (4 + i).toNatClampNeg = d := by
            have := H7.2.2.1 n (by omega)
            rw [en, A.1, this, ← yc, en, A.2.2.2]
            rfl
          rw [X7.1.f116_14, e7]
          refine ⟨X7.1.o (by decide) rfl, X7.1.a (by decide) rfl, v8, k1 _ (L7.tr (LH.up (r := 121) (by decide) (by decide) l4)) a7 (X7.row (by decide)) (H7.s3c ri yc hd Q7)⟩
        · change ¬ (jsc1 b L i d 1 (jsc1 b L i d 0 y)).1.1 = 0 at n
          refine k0 h5 L5 ?_ ?_ ?_
          · rw [jsc1_f (c := d) (w := 2) n]; exact n
          · rw [jsc1_f (c := d) (w := 2) n]; exact a8
          · rw [jsc1_f (c := d) (w := 2) n]; exact a9
      · have f1 := jsc1_f (b := b) (L := L) (i := i) (c := d) (w := 1) n
        have n1 : ¬ (jsc1 b L i d 1 (jsc1 b L i d 0 y)).1.1 = 0 := by rw [f1]; exact n
        refine k0 h5 L5 ?_ ?_ ?_
        · rw [jsc1_f (c := d) (w := 2) n1]; exact n1
        · rw [jsc1_f (c := d) (w := 2) n1, f1]; exact a8
        · rw [jsc1_f (c := d) (w := 2) n1, f1]; exact a9
    · rw [if_neg (by rw [g]; decide), jrf_0 (s := jnx b L x.1) s0] at k0
      exact m_fl X2 (LH.sn S2.sn) (by decide) rfl k0
  · have M2 := m_ink X2
    refine m_fl X2 (LH.sn S2.sn) (by decide) ?_ k0
    unfold jscrew
    rw [jnk_n s0 (fun q => e (M2.1.2 q))]
    dsimp only
    split
    · exact jsc3_f (by decide : ¬ (1 : Int32) = 0)
    · rw [jrf_f (by decide : ¬ (1 : Int32) = 0)]
