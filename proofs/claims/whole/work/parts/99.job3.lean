theorem c9_sp8 {h : AH} {P : Option Value → AH → Prop} (w : Wf h) {L p j c : Nat} (hL : L ≤ 900) (hp : p ≤ L) (A : At h L p (gI h 3)) (hj : j < 3) (hc : 8 * c + 8 ≤ sln j) (k1 : spl (gI h 3) L j p c → P (some (.int 1)) h) (k0 : ¬ spl (gI h 3) L j p c → P (some (.int 0)) h) : ∀ (m i : Nat), i + m = 8 → (∀ q, q < i → sch j (8 * c + q) = ltr (gI h 3) L p q) → Rr mX9_spells 0 0 2 [(0, .ref 2), (1, .ref (1000 + j)), (2, .int (nI (8 * c))), (3, .int (nI i))] [] h P
  | 0, i, hi, hq => by
    have e : i = 8 := by omega
    subst e
    refine sX9_spells_2 h 2 j _ _ ⟨fun _ => k1 hq, fun q => absurd (by decide) q⟩
  | m + 1, i, hi, hq => by
    have sl : sln j ≤ 80 := by
      have : ∀ x : Fin 3, sln x.val ≤ 80 := by decide
      exact this ⟨j, hj⟩
    have r1 := ts_rng (b := gI h 3) hp
    have r2 := te_rng (b := gI h 3) hp
    refine sX9_spells_2 h 2 j _ _ ⟨fun q => absurd q ?_, fun _ => ?_⟩
    · show ¬ nI 8 ≤ nI i
      rw [nI_leI (by omega) (by omega)]
      omega
    rw [w.f2_0, A.1, A.2.2.2.1, nI_add, nI_add]
    refine ⟨w.o (by decide) rfl, w.a (by decide) rfl, fun q => ?_, fun z hz => ⟨hj, c_chr hj (by omega) ?_⟩⟩
    · rw [nI_leI (by omega) (by omega)] at q
      exact in900 (Nat.le_refl 900) (by omega)
    have ez : z = ltr (gI h 3) L p i := by
      rw [hz, ltr]
      by_cases q : te (gI h 3) L p ≤ ts (gI h 3) L p + i
      · rw [if_pos q, if_pos ((nI_leI (by omega) (by omega)).2 q)]
      · rw [if_neg q, if_neg (fun q2 => q ((nI_leI (by omega) (by omega)).1 q2)), nI_clamp (by omega)]
    refine ⟨_, rfl, fun e => ?_, fun e => ?_⟩
    · rw [show nI i + 1 = nI (i + 1) from nI_add i 1]
      refine c9_sp8 w hL hp A hj hc k1 k0 m (i + 1) (by omega) fun q hq2 => ?_
      rcases Nat.lt_or_ge q i with u | u
      · exact hq q u
      · have : q = i := by omega
        rw [this, e, ez]
    · exact k0 fun S => e ((S i (by omega)).trans ez.symm)
theorem c9_w12 {h : AH} {P : Option Value → AH → Prop} (w : Wf h) {L p j : Nat} (hL : L ≤ 900) (hp : p ≤ L) (A : At h L p (gI h 3)) (hj : j < 2) : ∀ (m c : Nat), 8 * c + 8 * m = sln j → (∀ z, wfi (gI h 3) L j p m c z → P (some (.int z)) h) → Rr mX9_wordIn 0 0 12 [(0, .ref 2), (1, .ref (1000 + j)), (2, .int (nI (8 * c)))] [] h P
  | m, c, hm, k => by
    have sl : sln j ≤ 80 := by
      have : ∀ x : Fin 3, sln x.val ≤ 80 := by decide
      exact this ⟨j, by omega⟩
    refine sX9_wordIn_12 h 2 j _ ⟨by omega, c_len (by omega) ⟨_, rfl, fun q => ?_, fun q => ⟨w.o (by decide) rfl, ?_⟩⟩⟩
    · rw [show nI (8 * c) + 8 = nI (8 * c + 8) from nI_add (8 * c) 8, nI_ltI (by omega) (by omega)] at q
      cases m with
      | zero => exact k _ rfl
      | succ m => omega
    · rw [show nI (8 * c) + 8 = nI (8 * c + 8) from nI_add (8 * c) 8, nI_ltI (by omega) (by omega)] at q
      cases m with
      | zero => omega
      | succ m =>
        refine Call.ofR (by decide +kernel) (Nat.le_of_ble_eq_true rfl) (sX9_spells_0 h 2 j _ ?_)
        refine c9_sp8 w hL hp A (by omega) (by omega) (fun S => ⟨_, rfl, fun e => absurd e (by decide), fun _ => ?_⟩) (fun S => ⟨_, rfl, fun _ => ?_, fun e => absurd rfl e⟩) 8 0 rfl (fun q hq => absurd hq (by omega))
        · rw [show nI (8 * c) / 8 = nI c from ?_]
          · exact k _ (Or.inl ⟨S, rfl⟩)
          · have : ∀ x : Fin 11, nI (8 * x.val) / 8 = nI x.val := by decide +kernel
            exact this ⟨c, by omega⟩
        · rw [show nI (8 * c) + 8 = nI (8 * (c + 1)) from nI_add (8 * c) 8]
          exact c9_w12 w hL hp A hj m (c + 1) (by omega) fun z hz => k z (Or.inr ⟨S, hz⟩)
theorem c9_wrd {h : AH} {P : Option Value → AH → Prop} (w : Wf h) {L p j : Nat} (hL : L ≤ 900) (hp : p ≤ L) (A : At h L p (gI h 3)) (hj : j < 2) (k : P (some (.int (wrd (gI h 3) L j p))) h) : Call mX9_wordIn [.ref 2, .ref (1000 + j)] h P := by
  refine Call.ofR (by decide +kernel) (Nat.le_of_ble_eq_true rfl) (sX9_wordIn_0 h 2 j ?_)
  rw [A.2.2.1]
  refine ⟨w.o (by decide) rfl, fun e => ?_, fun e => ?_⟩
  · refine c9_w12 w hL hp A hj (sln j / 8) 0 ?_ fun z hz => ?_
    · have : ∀ x : Fin 2, 8 * 0 + 8 * (sln x.val / 8) = sln x.val := by decide
      exact this ⟨j, hj⟩
    · rw [wrd, if_pos e] at k
      rw [wfi_fn hz (wfi_ex (gI h 3) L j p (sln j / 8) 0).choose_spec]
      exact k
  · rw [wrd, if_neg e] at k
    exact k
