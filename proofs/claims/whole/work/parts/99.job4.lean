/-! the draft as the class keeps it: D r k is slot k of row r of the job (r < 19), 100 + i the rows of shape i, 200 the masks -/
abbrev DD := Nat → Nat → Int32
def u (D : DD) (r k : Nat) (v : Int32) : DD := fun r2 k2 => if r2 = r ∧ k2 = k then v else D r2 k2
def DC (h : AH) (d : Nat) (D : DD) : Prop := (∀ r k, r < 19 → gI h (d + r) k = D r k) ∧ (∀ i y, i < 4 → y < 16 → brow h (d + 7 + 2 * i) y = D (100 + i) y) ∧ gI h 1 1 = D 200 1 ∧ gI h 1 2 = D 200 2
theorem DC.set {h : AH} {d : Nat} {D : DD} (H : DC h d D) (hd : 4 ≤ d) {r k : Nat} (hr : r < 19) (v : Int32) : DC (sI h (d + r) k v) d (u D r k v) := by
  refine ⟨fun r2 k2 h2 => ?_, fun i y hi hy => ?_, ?_, ?_⟩
  · rw [gI_sI', u, H.1 r2 k2 h2]
    by_cases c : r2 = r ∧ k2 = k
    · rw [if_pos c, if_pos ⟨by omega, c.2⟩]
    · rw [if_neg c, if_neg (fun q => c ⟨by omega, q.2⟩)]
  · rw [u, if_neg (fun q => by omega)]
    exact H.2.1 i y hi hy
  · rw [rd_r (by omega), u, if_neg (fun q => by omega)]
    exact H.2.2.1
  · rw [rd_r (by omega), u, if_neg (fun q => by omega)]
    exact H.2.2.2
theorem DC.msk {h : AH} {d : Nat} {D : DD} (H : DC h d D) (hd : 4 ≤ d) {k : Nat} (hk : k = 1 ∨ k = 2) (v : Int32) : DC (sI h 1 k v) d (u D 200 k v) := by
  refine ⟨fun r2 k2 h2 => ?_, fun i y hi hy => ?_, ?_, ?_⟩
  · rw [rd_r (by omega), u, if_neg (fun q => by omega)]
    exact H.1 r2 k2 h2
  · rw [u, if_neg (fun q => by omega)]
    exact H.2.1 i y hi hy
  · rcases hk with rfl | rfl
    · rw [rd_h, u, if_pos ⟨rfl, rfl⟩]
    · rw [rd_k (by decide), u, if_neg (fun q => by omega)]
      exact H.2.2.1
  · rcases hk with rfl | rfl
    · rw [rd_k (by decide), u, if_neg (fun q => by omega)]
      exact H.2.2.2
    · rw [rd_h, u, if_pos ⟨rfl, rfl⟩]
theorem DC.ag {h h2 : AH} {d : Nat} {D : DD} (H : DC h d D) (hd : 4 ≤ d) (K : KT h h2) : DC h2 d D := by
  refine ⟨fun r2 k2 h2 => ?_, fun i y hi hy => ?_, ?_, ?_⟩
  · rw [K.1.I (by simp; omega)]
    exact H.1 r2 k2 h2
  · rw [brow, K.1.L (by simp; omega)]
    exact H.2.1 i y hi hy
  · rw [K.2.1]
    exact H.2.2.1
  · rw [K.2.2]
    exact H.2.2.2
/-- the class at a state and a draft -/
def CD (h : AH) (L d : Nat) (x : JS × DD) : Prop := CS h L x.1 ∧ DC h d x.2
/-- what the reading of a job may change -/
def dr (d : Nat) : List Nat := [1, 2, d, d + 1, d + 2, d + 3, d + 4, d + 7, d + 9, d + 11, d + 13, d + 14, d + 15, d + 16, d + 18]
theorem dr_not {d r : Nat} (hr : r ≠ 1 ∧ r ≠ 2 ∧ (r < d ∨ d + 18 < r)) : r ∉ dr d := by
  unfold dr; simp; omega
theorem KT.jd {h h3 : AH} {d : Nat} (K : KT h h3) : Fr (dr d) h h3 := K.1.up (fun r hr => by
  unfold dr
  simp at hr ⊢
  omega)
theorem c4_nk {h : AH} {P : Option Value → AH → Prop} (w : Wf h) {L : Nat} (hL : L ≤ 900) {s : JS} (C : CS h L s) (k : ∀ h3, KT h h3 → CS h3 L (jnk (gI h 3) L s).2 → P (some (.int (jnk (gI h 3) L s).1)) h3) : Call mX4_ink [.ref 1] h P := by
  have C0 := C
  obtain ⟨c1, c2, c3, c4⟩ := C
  refine Call.ofR (by decide +kernel) (Nat.le_of_ble_eq_true rfl) (sX4_ink_0 h 1 ?_)
  rw [w.f1_0, c1]
  refine ⟨w.o (by decide) rfl, fun e => ⟨w.o (by decide) rfl, ?_⟩, fun e => ?_⟩
  · rw [jnk, if_pos e] at k
    refine c4_nx w hL C0 fun h3 F A => ?_
    have b3 := (KT.two F).b
    have A1 := A.2.2.1
    rw [(F.wf w).f1_0]
    refine ⟨rfl, (F.wf w).o (by decide) rfl, (F.wf w).o (by decide) rfl, c9_wrd (F.wf w) hL A.2.2.2 A1 (by decide) ⟨_, rfl, fun q => ?_, fun q => ⟨(F.wf w).o (by decide) rfl, ?_⟩⟩⟩
    · rw [b3] at q ⊢
      change ¬ wrd (gI h 3) L 1 (te (gI h 3) L s.2.2) < 0 ∧ ¬ 4 ≤ wrd (gI h 3) L 1 (te (gI h 3) L s.2.2) at q
      rw [if_pos q] at k
      exact k h3 (KT.two F) A
    · rw [b3] at q
      change ¬ (¬ wrd (gI h 3) L 1 (te (gI h 3) L s.2.2) < 0 ∧ ¬ 4 ≤ wrd (gI h 3) L 1 (te (gI h 3) L s.2.2)) at q
      rw [if_neg q] at k
      refine c4_ref (F.wf w) A fun h4 F4 a1 a2 A4 => ⟨rfl, ?_⟩
      rw [b3] at A4
      exact k h4 ((KT.two F).tr ⟨F4.sub (by decide), a1, a2⟩) A4
  · rw [jnk, if_neg e] at k
    exact k h KT.rf C0
