/-! JOB, the class: the clauses in a row -/
theorem dk_u {D : DD} (K : DK D) {r k : Nat} {v : Int32} (a : r = 0 → k = 3 → inr v 0 8) (c : r = 14 → k = 0 → inr v 0 8) (e : r = 3 → inr v 0 3) : DK (u D r k v) := by
  refine ⟨?_, ?_, fun i hi => ?_⟩
  · unfold u
    split
    · next q => exact a q.1.symm q.2.symm
    · exact K.1
  · unfold u
    split
    · next q => exact c q.1.symm q.2.symm
    · exact K.2.1
  · unfold u
    split
    · next q => exact e q.1.symm
    · exact K.2.2 i hi
theorem dk_o {D : DD} (K : DK D) {r k : Nat} {v : Int32} (a : ¬ (r = 0 ∧ k = 3)) (c : ¬ (r = 14 ∧ k = 0)) (e : r ≠ 3) : DK (u D r k v) := dk_u K (fun q q2 => absurd ⟨q, q2⟩ a) (fun q q2 => absurd ⟨q, q2⟩ c) (fun q => absurd q e)
theorem dk_tw {b : Nat → Int32} {L : Nat} {c : Int32} {x : JS × DD} (K : DK x.2) : DK (jtw b L c x).2 := dk_o K (by omega) (by omega) (by omega)
theorem dk_one {b : Nat → Int32} {L : Nat} {c hi : Int32} {q : Nat} {x : JS × DD} (K : DK x.2) (hq : q ≠ 3) : DK (jone b L c hi q x).2 := dk_o (dk_tw K) (by omega) (by omega) (by omega)
theorem dk_cl {b : Nat → Int32} {L : Nat} {z : Int32} {x : JS × DD} (K : DK x.2) : DK (jcl b L z x).2 := by
  unfold jcl
  split
  · exact dk_o (dk_o (dk_tw (b := b) (L := L) K) (by omega) (by omega) (by omega)) (by omega) (by omega) (by omega)
  split
  · exact dk_one K (by decide)
  split
  · exact dk_one K (by decide)
  split
  · exact dk_one K (by decide)
  split
  · exact dk_one K (by decide)
  split
  · unfold jmark
    split
    · next q =>
      refine dk_u (dk_o (dk_o K (by omega) (by omega) (by omega)) (by omega) (by omega) (by omega)) (fun _ _ => ?_) (by omega) (by omega)
      have := K.1
      unfold inr at this ⊢
      grind
    · exact K
  split
  · unfold jscrew
    split
    · next q =>
      have i4 : (jnk b L x.1).1.toNatClampNeg < 4 := by
        have := vp_in_iff.1 (vin_4.2 (jnk_rng b L x.1))
        show (jnk b L x.1).1.toInt.toNat < 4
        omega
      refine dk_u (dk_o (dk_o (dk_o K (by omega) (by omega) (by omega)) (by omega) (by omega) (by omega)) (by omega) (by omega) (by omega)) (by omega) (by omega) (fun _ => ?_)
      have := K.2.2 _ i4
      unfold inr at this ⊢
      grind
    · exact K
  split
  · unfold jbox
    split
    · refine dk_o ?_ (by omega) (by omega) (by omega)
      have e : ∀ {i y n : Nat} {m : Int32} {r k : Nat}, r < 100 → jbx x.2 i y n m r k = x.2 r k := fun hr => if_neg (fun q => by omega)
      exact ⟨by rw [e (by decide)]; exact K.1, by rw [e (by decide)]; exact K.2.1, fun i hi => by rw [e (by decide)]; exact K.2.2 i hi⟩
    · exact K
  split
  · unfold jscreen
    split
    · next q =>
      refine dk_u (dk_o (dk_o K (by omega) (by omega) (by omega)) (by omega) (by omega) (by omega)) (by omega) (fun _ _ => ?_) (by omega)
      have := K.2.1
      unfold inr at this ⊢
      grind
    · exact K
  split
  · exact dk_o (dk_o K (by omega) (by omega) (by omega)) (by omega) (by omega) (by omega)
  · exact K
theorem dk_se {b : Nat → Int32} {L : Nat} {x : JS × DD} (K : DK x.2) : DK (jse b L x).2 := by
  unfold jse
  split
  · split
    · exact dk_o K (by omega) (by omega) (by omega)
    · exact K
  · exact K
noncomputable def jst (b : Nat → Int32) (L : Nat) (x : JS × DD) : JS × DD := (jnx b L (jse b L (jcl b L (wrd b L 0 x.1.2.2) x)).1, (jse b L (jcl b L (wrd b L 0 x.1.2.2) x)).2)
theorem dk_st {b : Nat → Int32} {L : Nat} {x : JS × DD} (K : DK x.2) : DK (jst b L x).2 := by
  unfold jst
  have K1 := dk_cl (b := b) (L := L) (z := wrd b L 0 x.1.2.2) K
  generalize jcl b L (wrd b L 0 x.1.2.2) x = y at K1 ⊢
  have K2 := dk_se (b := b) (L := L) K1
  generalize jse b L y = z at K2 ⊢
  exact K2
noncomputable def jrun (b : Nat → Int32) (L : Nat) : Nat → JS × DD → JS × DD
  | 0, x => x
  | n + 1, x => if x.1.1 = 0 then (if tk b L x.1.2.2 = 0 then x else jrun b L n (jst b L x)) else x
theorem k_run {h0 : AH} {P : Option Value → AH → Prop} {b : Nat → Int32} {L d : Nat} : ∀ (n i : Nat) (h : AH) (x : JS × DD), i + n = 900 → Fr (dr d) h0 h → CX h b L d x → DK x.2 → (∀ h3, Fr (dr d) h0 h3 → CX h3 b L d (jrun b L n x) → P (some (.int (bi ((jrun b L n x).1.1 = 0)))) h3) → Rr mX4_isJob 0 0 43 [(0, .ref 1), (1, .int (nI i))] [] h P
  | 0, i, h, x, hi, F, X, K, k => by
    have e : i = 900 := by omega
    subst e
    refine sX4_isJob_43 h 1 _ ⟨fun _ => ⟨X.1.o (by decide) rfl, ?_⟩, fun q => absurd (by decide) q⟩
    rw [X.2.2.2.2.2.1.1]
    exact k h F X
  | n + 1, i, h, x, hi, F, X, K, k => by
    refine sX4_isJob_43 h 1 _ ⟨fun q => absurd q ?_, fun _ => ⟨X.1.o (by decide) rfl, ?_⟩⟩
    · show ¬ nI 900 ≤ nI i
      rw [nI_leI (by omega) (by omega)]
      omega
    have e3 : gI h 2 3 = tk b L x.1.2.2 := by
      have := X.2.2.2.2.2.1.2.2.1.2.2.1
      rw [X.2.2.2.1] at this
      exact this
    rw [X.2.2.2.2.2.1.1, X.1.f1_0, e3]
    rw [jrun] at k
    refine ⟨fun e => ?_, fun e => ⟨X.1.o (by decide) rfl, fun q => ?_, fun q => ?_⟩⟩
    · rw [if_neg e] at k
      exact k h F X
    · rw [if_pos e, if_pos q] at k
      exact k h F X
    · rw [if_pos e, if_neg q] at k
      refine k_cl X K fun h10 F10 X10 => ⟨rfl, X10.1.o (by decide) rfl, k_se X10 fun h12 F12 X12 => ?_⟩
      rw [X12.1.f1_0]
      refine ⟨rfl, X12.1.o (by decide) rfl, X12.1.o (by decide) rfl, k_nx X12 fun h15 F15 X15 => ⟨rfl, ?_⟩⟩
      rw [nI_1]
      have K2 : DK (jst b L x).2 := dk_st K
      exact k_run n (i + 1) h15 (jst b L x) (by omega) (F.tr (F10.tr (F12.tr F15))) X15 K2 k
