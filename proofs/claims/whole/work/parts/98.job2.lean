theorem te_le {b : Nat → Int32} {L p : Nat} (hp : p ≤ L) : te b L p ≤ L := (te_rng hp).2
theorem CS.ag {h h2 : AH} {L : Nat} {s : JS} (C : CS h L s) (e1 : gI h2 1 4 = gI h 1 4) (e2 : gI h2 1 5 = gI h 1 5) (e3 : gI h2 2 = gI h 2) (e4 : gI h2 3 = gI h 3) : CS h2 L s := ⟨e1.trans C.1, e2.trans C.2.1, by rw [e4]; exact C.2.2.1.ag e3, C.2.2.2⟩
/-- one token on -/
theorem c4_nx {h : AH} {P : Option Value → AH → Prop} (w : Wf h) {L : Nat} (hL : L ≤ 900) {s : JS} (C : CS h L s) (k : ∀ h3, Fr [2] h h3 → CS h3 L (jnx (gI h 3) L s) → P none h3) : Call mX9_next [.ref 2] h P := by
  obtain ⟨c1, c2, c3, c4⟩ := C
  refine c9_on w hL c4 c3 fun h3 F A => k h3 F ⟨(F.I (r := 1) (by decide) 4).trans c1, (F.I (r := 1) (by decide) 5).trans c2, ?_, te_le c4⟩
  rw [(F.2.2 3 (by decide)).1]
  exact A
/-- the kept numbers of the text: what was told, which pairs -/
def KT (h h3 : AH) : Prop := Fr [1, 2] h h3 ∧ gI h3 1 1 = gI h 1 1 ∧ gI h3 1 2 = gI h 1 2
theorem KT.rf {h : AH} : KT h h := ⟨Fr.rf, rfl, rfl⟩
theorem KT.tr {h h2 h3 : AH} (a : KT h h2) (b : KT h2 h3) : KT h h3 := ⟨a.1.tr b.1, b.2.1.trans a.2.1, b.2.2.trans a.2.2⟩
theorem KT.two {h h3 : AH} (F : Fr [2] h h3) : KT h h3 := ⟨F.sub (by decide), F.I (by decide) 1, F.I (by decide) 2⟩
theorem KT.b {h h3 : AH} (F : KT h h3) : gI h3 3 = gI h 3 := (F.1.2.2 3 (by decide)).1
theorem KT.w {h h3 : AH} (F : KT h h3) (w : Wf h) : Wf h3 := F.1.wf w
theorem c4_nh {h : AH} {P : Option Value → AH → Prop} (w : Wf h) {L : Nat} {s : JS} (C : CS h L s) {lo hi : Int32} (k : ∀ h3, KT h h3 → CS h3 L (jnh (gI h 3) L lo hi s).2 → P (some (.int (jnh (gI h 3) L lo hi s).1)) h3) : Call mX4_numberHere [.ref 1, .int lo, .int hi] h P := by
  have C0 := C
  obtain ⟨c1, c2, c3, c4⟩ := C
  refine Call.ofR (by decide +kernel) (Nat.le_of_ble_eq_true rfl) (sX4_numberHere_0 h 1 lo hi ?_)
  rw [w.f1_0, c3.2.2.1]
  refine ⟨w.o (by decide) rfl, w.o (by decide) rfl, fun e => ?_, fun e => ?_⟩
  · rw [c3.2.2.2.2 e]
    refine ⟨fun e2 => ?_, fun e2 => ⟨fun e3 => ?_, fun e3 => ?_⟩⟩
    · rw [jnh, if_pos e, if_pos e2] at k
      exact c4_ref w C0 fun h3 F a1 a2 A => ⟨rfl, k h3 ⟨F.sub (by decide), a1, a2⟩ A⟩
    · rw [jnh, if_pos e, if_neg e2, if_pos e3] at k
      exact k h KT.rf C0
    · rw [jnh, if_pos e, if_neg e2, if_neg e3] at k
      exact c4_ref w C0 fun h3 F a1 a2 A => ⟨rfl, k h3 ⟨F.sub (by decide), a1, a2⟩ A⟩
  · rw [jnh, if_neg e] at k
    exact c4_ref w C0 fun h3 F a1 a2 A => ⟨rfl, k h3 ⟨F.sub (by decide), a1, a2⟩ A⟩
theorem c4_nb {h : AH} {P : Option Value → AH → Prop} (w : Wf h) {L : Nat} (hL : L ≤ 900) {s : JS} (C : CS h L s) {lo hi : Int32} (k : ∀ h3, KT h h3 → CS h3 L (jnb (gI h 3) L lo hi s).2 → P (some (.int (jnb (gI h 3) L lo hi s).1)) h3) : Call mX4_number [.ref 1, .int lo, .int hi] h P := by
  have C0 := C
  obtain ⟨c1, c2, c3, c4⟩ := C
  refine Call.ofR (by decide +kernel) (Nat.le_of_ble_eq_true rfl) (sX4_number_0 h 1 lo hi ?_)
  rw [w.f1_0, c1]
  refine ⟨w.o (by decide) rfl, fun e => ⟨w.o (by decide) rfl, ?_⟩, fun e => ?_⟩
  · rw [jnb, if_pos e] at k
    refine c4_nx w hL C0 fun h3 F A => ⟨rfl, (F.wf w).o (by decide) rfl, ?_⟩
    refine c4_nh (F.wf w) A fun h4 F4 A4 => ⟨_, rfl, ?_⟩
    rw [(KT.two F).b] at A4 ⊢
    exact k h4 ((KT.two F).tr F4) A4
  · rw [jnb, if_neg e] at k
    exact k h KT.rf C0
theorem c4_sg {h : AH} {P : Option Value → AH → Prop} (w : Wf h) {L : Nat} (hL : L ≤ 900) {s : JS} (C : CS h L s) {hi : Int32} (k : ∀ h3, KT h h3 → CS h3 L (jsg (gI h 3) L hi s).2 → P (some (.int (jsg (gI h 3) L hi s).1)) h3) : Call mX4_signedNumber [.ref 1, .int hi] h P := by
  have C0 := C
  obtain ⟨c1, c2, c3, c4⟩ := C
  refine Call.ofR (by decide +kernel) (Nat.le_of_ble_eq_true rfl) (sX4_signedNumber_0 h 1 hi ?_)
  rw [w.f1_0, c1]
  refine ⟨w.o (by decide) rfl, fun e => ⟨w.o (by decide) rfl, ?_⟩, fun e => ?_⟩
  · rw [jsg, if_pos e] at k
    refine c4_nx w hL C0 fun h3 F A => ⟨rfl, (F.wf w).o (by decide) rfl, ?_⟩
    have b3 := (KT.two F).b
    have e3 : gI h3 2 3 = tk (gI h 3) L (te (gI h 3) L s.2.2) := by rw [← b3, A.2.2.1.2.2.1]; rw [jnx, b3]
    rw [(F.wf w).f1_0, e3]
    refine ⟨(F.wf w).o (by decide) rfl, fun q => ?_, fun q => ?_⟩
    · rw [if_neg q] at k
      refine c4_nh (F.wf w) A fun h4 F4 A4 => ⟨_, rfl, fun z hz => ?_⟩
      rw [if_neg q] at hz
      rw [hz]
      rw [b3] at A4 ⊢
      exact k h4 ((KT.two F).tr F4) A4
    · rw [if_pos q] at k
      refine c4_nx (F.wf w) hL A fun h5 F5 A5 => ⟨rfl, (F5.wf (F.wf w)).o (by decide) rfl, ?_⟩
      refine c4_nh (F5.wf (F.wf w)) A5 fun h4 F4 A4 => ⟨_, rfl, fun z hz => ?_⟩
      rw [if_pos q] at hz
      rw [hz]
      rw [(KT.two F5).b, b3] at A4 ⊢
      exact k h4 ((KT.two F).tr ((KT.two F5).tr F4)) A4
  · rw [jsg, if_neg e] at k
    exact k h KT.rf C0
