theorem J0.keep {h3 hs : AH} {d : Nat} (hd : 4 ≤ d) (J : J0 (dof h3 d)) (e : ∀ r, r < 19 → gI hs (d + r) = gI h3 (d + r)) (el : gL hs = gL h3) : J0 (dof hs d) := by
  have e1 : ∀ r k, r < 19 → dof hs d r k = dof h3 d r k := fun r k hr => by rw [dof, dof, if_pos hr, if_pos hr, e r hr]
  obtain ⟨a, b, c, f⟩ := J
  refine ⟨?_, fun i hi => ?_, fun i y hi hy => ?_, fun q hq => ?_⟩
  · rw [e1 0 _ (by decide), e1 0 _ (by decide), e1 0 _ (by decide), e1 0 _ (by decide), e1 0 _ (by decide), e1 0 _ (by decide), e1 0 _ (by decide), e1 0 _ (by decide), e1 0 _ (by decide), e1 14 _ (by decide)]
    exact a
  · rw [e1 3 _ (by decide)]
    exact b i hi
  · have := c i y hi hy
    rw [dof, if_neg (by omega), if_neg (by omega), brow] at this ⊢
    rw [el]
    exact this
  · rw [e1 18 _ (by decide)]
    exact f q hq
theorem J0.dk {D : DD} (J : J0 D) : DK D := by
  refine ⟨?_, ?_, fun i hi => ?_⟩
  · rw [J.1.2.2.2.1]
    exact ⟨by decide, by decide⟩
  · rw [J.1.2.2.2.2.2.2.2.2.2]
    exact ⟨by decide, by decide⟩
  · rw [J.2.1 i hi]
    exact ⟨by decide, by decide⟩
theorem k_job {h : AH} {P : Option Value → AH → Prop} (w : Wf h) {L d : Nat} (hd : d = 4 ∨ d = 23) (hL : L ≤ 900) (g : gF h 1 3 = d) (h2L : gI h 2 2 = nI L) (k : ∀ h3 D, Fr (dr d) h h3 → J0 D → D 200 1 = 0 → D 200 2 = 0 → CX h3 (gI h 3) L d (jrun (gI h 3) L 900 ((0, -1, 0), D)) → P (some (.int (bi ((jrun (gI h 3) L 900 ((0, -1, 0), D)).1.1 = 0)))) h3) : Call mX4_isJob [.ref 1] h (fun v h2 => P v h2 ) := by
  have d4 : 4 ≤ d := by rcases hd with e | e <;> omega
  refine Call.ofR (by decide +kernel) (Nat.le_of_ble_eq_true rfl) (sX4_isJob_0 h 1 ?_)
  rw [g]
  refine ⟨w.o (by decide) rfl, (jo w hd).1, c3_forget w hd fun h3 F3 E2 J => ?_⟩
  have w3 := F3.wf w
  rw [w3.f1_0]
  generalize e5 : sI (sI (sI (sI (sI h3 1 1 0) 1 2 0) 1 4 0) 1 5 (-1)) 2 1 0 = h5
  have F5 : Fr [1, 2] h3 h5 := by
    rw [← e5]
    exact ((((Fr.sI (by decide)).tr (Fr.sI (by decide))).tr (Fr.sI (by decide))).tr (Fr.sI (by decide))).tr (Fr.sI (by decide))
  have F5d : Fr (dr d) h3 h5 := F5.up (fun r hr => by
    unfold dr
    simp at hr ⊢
    omega)
  have w5 := F5.wf w3
  rw [w5.f1_0]
  have f22 : gI h5 2 2 = nI L := by
    rw [← e5, rd_k (by decide), rd_r (by decide), rd_r (by decide), rd_r (by decide), rd_r (by decide)]
    exact (E2 2).trans h2L
  have f21 : gI h5 2 1 = nI 0 := by
    rw [← e5]
    exact rd_h
  have f14 : gI h5 1 4 = 0 := by
    rw [← e5, rd_r (by decide), rd_k (by decide), rd_h]
  have f15 : gI h5 1 5 = -1 := by
    rw [← e5, rd_r (by decide), rd_h]
  have f11 : gI h5 1 1 = 0 := by
    rw [← e5, rd_r (by decide), rd_k (by decide), rd_k (by decide), rd_k (by decide), rd_h]
  have f12 : gI h5 1 2 = 0 := by
    rw [← e5, rd_r (by decide), rd_k (by decide), rd_k (by decide), rd_h]
  have J5 : J0 (dof h5 d) := J.keep d4 (fun r hr => (F5.2.2 (d + r) (by simp; omega)).1) (by rw [← e5]; rfl)
  have b5 : gI h5 3 = gI h 3 := ((F5.2.2 3 (by decide)).1).trans (F3.2.2 3 (dr_not (by omega))).1
  refine ⟨rfl, w3.o (by decide) rfl, w3.o (by decide) rfl, w3.o (by decide) rfl, c9_next w5 hL f22 (Nat.zero_le L) f21 fun h7 F7 a1 a2 a3 a4 a5 => ⟨rfl, ?_⟩⟩
  have X : CX h7 (gI h 3) L d ((0, -1, 0), dof h5 d) := by
    refine ⟨F7.wf w5, hd, ?_, ?_, hL, ⟨?_, ?_, ?_, Nat.zero_le _⟩, ?_⟩
    · rw [F7.2.1, F5.2.1, F3.2.1]
      exact g
    · rw [(F7.2.2 3 (by decide)).1]
      exact b5
    · exact (F7.I (by decide) 4).trans f14
    · exact (F7.I (by decide) 5).trans f15
    · rw [(F7.2.2 3 (by decide)).1]
      exact ⟨a1, a2, a3, a4, a5⟩
    · exact (dof_DC h5 d).ag d4 (KT.two F7)
  exact k_run 900 0 h7 _ rfl (F3.tr (F5d.tr (KT.two F7).jd)) X J5.dk fun h8 F8 X8 => k h8 (dof h5 d) F8 J5 f11 f12 X8
