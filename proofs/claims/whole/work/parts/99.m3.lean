/-! pure: places grow, a fault stays, ranges of the draft -/
def PLs (L : Nat) (s s2 : JS) : Prop := s.2.2 ≤ L → s.2.2 ≤ s2.2.2 ∧ s2.2.2 ≤ L ∧ (s2.1 = 0 → s.1 = 0 ∧ s2.2.1 = s.2.1)
theorem PLs.rf {L : Nat} {s : JS} : PLs L s s := fun h => ⟨Nat.le_refl _, h, fun e => ⟨e, rfl⟩⟩
theorem PLs.tr {L : Nat} {s s2 s3 : JS} (a : PLs L s s2) (b : PLs L s2 s3) : PLs L s s3 := fun h => by
  obtain ⟨a1, a2, a3⟩ := a h
  obtain ⟨b1, b2, b3⟩ := b a2
  exact ⟨Nat.le_trans a1 b1, b2, fun e => ⟨(a3 (b3 e).1).1, (b3 e).2.trans (a3 (b3 e).1).2⟩⟩
section
variable {b : Nat → Int32} {L : Nat}
theorem te_geL {p : Nat} (hp : p ≤ L) : p ≤ te b L p := Nat.le_trans (ts_rng hp).1 (te_rng hp).1
theorem PLs.nx {s : JS} : PLs L s (jnx b L s) := fun h => ⟨te_geL h, te_le h, fun e => ⟨e, rfl⟩⟩
theorem PLs.jrf {s : JS} {k : Int32} (hk : ¬ k = 0) : PLs L s (jrf b L k s) := fun h => by
  by_cases c : s.1 = 0
  · rw [jrf_0 c]
    exact ⟨Nat.le_refl _, h, fun e => absurd e hk⟩
  · rw [jrf_f c]
    exact PLs.rf h
theorem PLs.nh {lo hi : Int32} {s : JS} : PLs L s (jnh b L lo hi s).2 := by
  unfold jnh
  split
  · split
    · exact PLs.jrf (by decide)
    · split
      · exact PLs.rf
      · exact PLs.jrf (by decide)
  · exact PLs.jrf (by decide)
theorem PLs.nb {lo hi : Int32} {s : JS} : PLs L s (jnb b L lo hi s).2 := by
  unfold jnb
  split
  · exact PLs.nx.tr PLs.nh
  · exact PLs.rf
theorem PLs.sg {hi : Int32} {s : JS} : PLs L s (jsg b L hi s).2 := by
  unfold jsg
  split
  · split
    · exact (PLs.nx.tr PLs.nx).tr PLs.nh
    · exact PLs.nx.tr PLs.nh
  · exact PLs.rf
theorem PLs.nk {s : JS} : PLs L s (jnk b L s).2 := by
  unfold jnk
  split
  · split
    · exact PLs.nx
    · exact PLs.nx.tr (PLs.jrf (by decide))
  · exact PLs.rf
theorem PLs.tw {c : Int32} {x : JS × DD} : PLs L x.1 (jtw b L c x).1 := by
  unfold jtw
  dsimp only
  split
  · exact PLs.rf
  · exact PLs.jrf (by decide)
theorem PLs.one {c hi : Int32} {q : Nat} {x : JS × DD} : PLs L x.1 (jone b L c hi q x).1 := PLs.tw.tr PLs.nb
theorem PLs.cl {z : Int32} {x : JS × DD} : PLs L x.1 (jcl b L z x).1 := by
  unfold jcl
  split
  · unfold jsheet jsh2
    refine PLs.tr ?_ (PLs.nb.tr PLs.nb)
    dsimp only
    split
    · exact PLs.tw
    · exact PLs.tw.tr (PLs.jrf (by decide))
  split
  · exact PLs.one
  split
  · exact PLs.one
  split
  · exact PLs.one
  split
  · exact PLs.one
  split
  · unfold jmark
    split
    · exact PLs.nb.tr PLs.nb
    · exact PLs.jrf (by decide)
  split
  · unfold jscrew
    split
    · unfold jsc3 jsc1
      exact PLs.nk.tr (PLs.sg.tr (PLs.sg.tr PLs.sg))
    · exact PLs.nk.tr (PLs.jrf (by decide))
  split
  · unfold jbox
    split
    · unfold jbox2
      exact PLs.nk.tr (PLs.nb.tr (PLs.nb.tr (PLs.nb.tr PLs.nb)))
    · exact PLs.jrf (by decide)
  split
  · unfold jscreen
    split
    · exact PLs.nb.tr PLs.nb
    · exact PLs.jrf (by decide)
  split
  · unfold jlies jli2
    refine PLs.tr ?_ PLs.nb
    dsimp only
    split
    · exact (PLs.nk.tr PLs.nk).tr (PLs.jrf (by decide))
    · split
      · exact PLs.nk.tr PLs.nk
      · exact (PLs.nk.tr PLs.nk).tr (PLs.jrf (by decide))
  · exact PLs.jrf (by decide)
theorem jsg_rng (s : JS) : inr (jsg b L 20 s).1 (-20) 20 := by
  have z20 : inr 0 0 20 := ⟨by decide, by decide⟩
  have e : ∀ t, inr (jnh b L 0 20 t).1 0 20 := fun t => by
    unfold jnh
    split
    · split
      · exact z20
      · split
        · next q q2 => exact ⟨by grind, q2⟩
        · exact z20
    · exact z20
  unfold jsg
  split
  · split
    · have := e (jnx b L (jnx b L s))
      unfold inr at this ⊢
      dsimp only
      grind
    · have := e (jnx b L s)
      unfold inr at this ⊢
      grind
  · exact (⟨by decide, by decide⟩ : inr 0 (-20) 20)
end
theorem u_h {D : DD} {r k : Nat} {v : Int32} : u D r k v r k = v := if_pos ⟨rfl, rfl⟩
theorem u_k {D : DD} {r k k2 : Nat} {v : Int32} (h : k2 ≠ k) : u D r k v r k2 = D r k2 := if_neg (fun q => h q.2)
theorem u_r {D : DD} {r k r2 k2 : Nat} {v : Int32} (h : r2 ≠ r) : u D r k v r2 k2 = D r2 k2 := if_neg (fun q => h q.1)
def DOK (D : DD) : Prop :=
  (inr (D 0 1) 10 200 ∧ inr (D 0 2) 10 200 ∧ inr (D 0 3) 0 8 ∧ inr (D 0 6) 0 9 ∧ inr (D 0 9) 0 4 ∧ inr (D 0 10) 0 8 ∧ inr (D 0 12) 0 99 ∧ inr (D 0 13) 0 99 ∧ inr (D 14 0) 0 8) ∧
  (∀ x : Int32, 0 ≤ x → x < D 0 3 → inr (D 1 x.toNatClampNeg) 0 200 ∧ inr (D 2 x.toNatClampNeg) 0 200) ∧
  (∀ i, i < 4 → inr (D 3 i) 0 3) ∧
  (∀ i k w : Int32, 0 ≤ i → i < 4 → 0 ≤ k → k < D 3 i.toNatClampNeg → 0 ≤ w → w < 3 → inr (D 4 ((i * 3 + k) * 3 + w).toNatClampNeg) (-20) 20) ∧
  (∀ x : Int32, 0 ≤ x → x < D 14 0 → inr (D 15 x.toNatClampNeg) 1 30 ∧ inr (D 16 x.toNatClampNeg) 1 30) ∧
  (∀ q, q < 16 → inr (D 18 q) 0 100)
theorem DOK.dk {D : DD} (K : DOK D) : DK D := ⟨K.1.2.2.1, K.1.2.2.2.2.2.2.2.2, K.2.2.1⟩
theorem dok_n {D : DD} (K : DOK D) {k : Nat} {v : Int32} (hk : (k = 1 ∧ inr v 10 200) ∨ (k = 2 ∧ inr v 10 200) ∨ (k = 6 ∧ inr v 0 9) ∨ (k = 9 ∧ inr v 0 4) ∨ (k = 10 ∧ inr v 0 8) ∨ (k = 12 ∧ inr v 0 99) ∨ (k = 13 ∧ inr v 0 99) ∨ k = 0) : DOK (u D 0 k v) := by
  obtain ⟨⟨b1, b2, b3, b4, b5, b6, b7, b8, b9⟩, a2, a3, a4, a5, a6⟩ := K
  rcases hk with ⟨rfl, hv⟩ | ⟨rfl, hv⟩ | ⟨rfl, hv⟩ | ⟨rfl, hv⟩ | ⟨rfl, hv⟩ | ⟨rfl, hv⟩ | ⟨rfl, hv⟩ | rfl
  · exact ⟨⟨hv, b2, b3, b4, b5, b6, b7, b8, b9⟩, a2, a3, a4, a5, a6⟩
  · exact ⟨⟨b1, hv, b3, b4, b5, b6, b7, b8, b9⟩, a2, a3, a4, a5, a6⟩
  · exact ⟨⟨b1, b2, b3, hv, b5, b6, b7, b8, b9⟩, a2, a3, a4, a5, a6⟩
  · exact ⟨⟨b1, b2, b3, b4, hv, b6, b7, b8, b9⟩, a2, a3, a4, a5, a6⟩
  · exact ⟨⟨b1, b2, b3, b4, b5, hv, b7, b8, b9⟩, a2, a3, a4, a5, a6⟩
  · exact ⟨⟨b1, b2, b3, b4, b5, b6, hv, b8, b9⟩, a2, a3, a4, a5, a6⟩
  · exact ⟨⟨b1, b2, b3, b4, b5, b6, b7, hv, b9⟩, a2, a3, a4, a5, a6⟩
  · exact ⟨⟨b1, b2, b3, b4, b5, b6, b7, b8, b9⟩, a2, a3, a4, a5, a6⟩
theorem dok_200 {D : DD} (K : DOK D) {k : Nat} {v : Int32} : DOK (u D 200 k v) := K
theorem dok_1 {D : DD} (K : DOK D) {v w k : Int32} (ek : D 0 3 = k) (k7 : k < 8) (hv : inr v 0 200) (hw : inr w 0 200) : DOK (u (u (u D 1 k.toNatClampNeg v) 2 k.toNatClampNeg w) 0 3 (k + 1)) := by
  obtain ⟨⟨b1, b2, b3, b4, b5, b6, b7, b8, b9⟩, a2, a3, a4, a5, a6⟩ := K
  rw [ek] at b3
  have b31 := b3.1
  have k18 : inr (k + 1) 0 8 := ⟨by grind, by grind⟩
  refine ⟨⟨b1, b2, k18, b4, b5, b6, b7, b8, b9⟩, fun x x0 xm => ?_, a3, a4, a5, a6⟩
  have xm2 : x < k + 1 := xm
  rw [u_r (r := 0) (r2 := 1) (by decide), u_r (r := 0) (r2 := 2) (by decide), u_r (r := 2) (r2 := 1) (by decide)]
  by_cases c : x = k
  · rw [c, u_h, u_h]
    exact ⟨hv, hw⟩
  · have xk : x < k := lt_sc c xm2 (le_7 k7)
    rw [u_k (cl_ne x0 b31 xk), u_k (cl_ne x0 b31 xk), u_r (r := 1) (r2 := 2) (by decide)]
    exact a2 x x0 (by rw [ek]; exact xk)
theorem dok_15 {D : DD} (K : DOK D) {v w k : Int32} (ek : D 14 0 = k) (k7 : k < 8) (hv : inr v 1 30) (hw : inr w 1 30) : DOK (u (u (u D 15 k.toNatClampNeg v) 16 k.toNatClampNeg w) 14 0 (k + 1)) := by
  obtain ⟨⟨b1, b2, b3, b4, b5, b6, b7, b8, b9⟩, a2, a3, a4, a5, a6⟩ := K
  rw [ek] at b9
  have b31 := b9.1
  have k18 : inr (k + 1) 0 8 := ⟨by grind, by grind⟩
  refine ⟨⟨b1, b2, b3, b4, b5, b6, b7, b8, k18⟩, a2, a3, a4, fun x x0 xm => ?_, a6⟩
  have xm2 : x < k + 1 := xm
  rw [u_r (r := 14) (r2 := 15) (by decide), u_r (r := 14) (r2 := 16) (by decide), u_r (r := 16) (r2 := 15) (by decide)]
  by_cases c : x = k
  · rw [c, u_h, u_h]
    exact ⟨hv, hw⟩
  · have xk : x < k := lt_sc c xm2 (le_7 k7)
    rw [u_k (cl_ne x0 b31 xk), u_k (cl_ne x0 b31 xk), u_r (r := 15) (r2 := 16) (by decide)]
    exact a5 x x0 (by rw [ek]; exact xk)
theorem dok_18 {D : DD} (K : DOK D) {k : Nat} {v : Int32} (hv : inr v 0 100) : DOK (u D 18 k v) := by
  obtain ⟨a1, a2, a3, a4, a5, a6⟩ := K
  refine ⟨a1, a2, a3, a4, a5, fun q hq => ?_⟩
  rw [u]
  split
  · exact hv
  · exact a6 q hq
/-- three numbers of a screw -/
theorem dok_4 {D : DD} (K : DOK D) {i c v0 v1 v2 : Int32} (hi : 0 ≤ i ∧ i < 4) (ec : D 3 i.toNatClampNeg = c) (hc : 0 ≤ c ∧ c < 3) (h0 : inr v0 (-20) 20) (h1 : inr v1 (-20) 20) (h2 : inr v2 (-20) 20) : DOK (u (u (u (u D 4 ((i * 3 + c) * 3 + 0).toNatClampNeg v0) 4 ((i * 3 + c) * 3 + 1).toNatClampNeg v1) 4 ((i * 3 + c) * 3 + 2).toNatClampNeg v2) 3 i.toNatClampNeg (c + 1)) := by
  obtain ⟨a1, a2, a3, a4, a5, a6⟩ := K
  obtain ⟨n, n3, rfl⟩ := to4 hi
  obtain ⟨k, k2, rfl⟩ := to3 hc
  have A0 := (sc_ix ⟨n, by omega⟩ ⟨k, by omega⟩ 0).2.1
  have A1 := (sc_ix ⟨n, by omega⟩ ⟨k, by omega⟩ 1).2.1
  have A2 := (sc_ix ⟨n, by omega⟩ ⟨k, by omega⟩ 2).2.1
  change ((nI n * 3 + nI k) * 3 + 0).toNatClampNeg = 9 * n + 3 * k + 0 at A0
  change ((nI n * 3 + nI k) * 3 + 1).toNatClampNeg = 9 * n + 3 * k + 1 at A1
  change ((nI n * 3 + nI k) * 3 + 2).toNatClampNeg = 9 * n + 3 * k + 2 at A2
  have en : (nI n).toNatClampNeg = n := nI_clamp (by omega)
  rw [en] at ec
  rw [A0, A1, A2, en]
  refine ⟨a1, a2, fun j hj => ?_, fun i2 c2 w2 p1 p2 p3 p4 p5 p6 => ?_, a5, a6⟩
  · rw [u]
    split
    · rw [nI_1]
      exact ⟨nI_pos' (by omega), (show nI (k + 1) ≤ nI 3 from (nI_leI (by omega) (by omega)).2 (by omega))⟩
    · exact a3 j hj
  · have T := a4 i2 c2 w2 p1 p2 p3
    obtain ⟨n', n3', rfl⟩ := to4 ⟨p1, p2⟩
    have en' : (nI n').toNatClampNeg = n' := nI_clamp (by omega)
    rw [en'] at T p4
    have c3 : c2 < 3 := by
      rw [u] at p4
      split at p4
      · rw [nI_1] at p4
        exact lt_tr3 p4 (show nI (k + 1) ≤ nI 3 from (nI_leI (by omega) (by omega)).2 (by omega))
      · exact lt_tr3 p4 (a3 n' (by omega)).2
    obtain ⟨k', k2', rfl⟩ := to3 ⟨p3, c3⟩
    obtain ⟨z', z2', rfl⟩ := to3 ⟨p5, p6⟩
    have B := (sc_ix ⟨n', by omega⟩ ⟨k', by omega⟩ ⟨z', by omega⟩).2.1
    simp only at B
    rw [B] at T ⊢
    rw [u, if_neg (fun q => by omega), u]
    by_cases q2 : 9 * n' + 3 * k' + z' = 9 * n + 3 * k + 2
    · rw [if_pos ⟨rfl, q2⟩]; exact h2
    rw [if_neg (fun q => q2 q.2), u]
    by_cases q1 : 9 * n' + 3 * k' + z' = 9 * n + 3 * k + 1
    · rw [if_pos ⟨rfl, q1⟩]; exact h1
    rw [if_neg (fun q => q1 q.2), u]
    by_cases q0 : 9 * n' + 3 * k' + z' = 9 * n + 3 * k + 0
    · rw [if_pos ⟨rfl, q0⟩]; exact h0
    rw [if_neg (fun q => q0 q.2)]
    refine T ?_ p5 p6
    rw [u] at p4
    by_cases q : n' = n
    · subst q
      rw [if_pos ⟨rfl, rfl⟩, nI_1, nI_ltI (by omega) (by omega)] at p4
      rw [ec, nI_ltI (by omega) (by omega)]
      omega
    · rw [if_neg (fun t => q t.2)] at p4
      exact p4
theorem dok_bx {D : DD} (K : DOK D) {i y n : Nat} {m : Int32} (hi : i < 4) : DOK (jbx D i y n m) := by
  have f : ∀ r, r < 100 → jbx D i y n m r = D r := fun r hr => funext fun k => jbx_o hi (Or.inl hr)
  unfold DOK
  rw [f 0 (by decide), f 1 (by decide), f 2 (by decide), f 3 (by decide), f 4 (by decide), f 14 (by decide), f 15 (by decide), f 16 (by decide), f 18 (by decide)]
  exact K
