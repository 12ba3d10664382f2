theorem as_in {h : AH} {P : Option Value → AH → Prop} (w : Wf h) {x1 known : Int32} {R k len : Nat} (hR : gI h 116 24 = nI R) (R20 : R ≤ 20) (hl : gI h 116 35 = nI len) (l24 : len < 24) (k24 : k < 24) (b1 b2 : Nat → Int32) (kk : ∀ h4, Fr [138, 139] h h4 → (∀ p, p ≠ len → gI h4 138 p = gI h 138 p ∧ gI h4 139 p = gI h 139 p) → gI h4 138 len = kn b1 (gI h 134) (lr (gI h 133) (gI h 132) (nI k) known R) k → gI h4 139 len = kn b2 (gI h 135) (lr (gI h 133) (gI h 132) (nI k) known R) k → Rr mX12_ask 0 0 7 [(0, .ref 116), (1, .int x1), (2, .int known), (3, .int (nI (k + 1)))] [] (sI h4 116 35 (nI (len + 1))) P) : ∀ (m i : Nat) (h2 : AH), i + m = R → Fr [138, 139] h h2 → (∀ p, p ≠ len → gI h2 138 p = gI h 138 p ∧ gI h2 139 p = gI h 139 p) → gI h2 138 len = kn b1 (gI h 134) (lr (gI h 133) (gI h 132) (nI k) known i) k → gI h2 139 len = kn b2 (gI h 135) (lr (gI h 133) (gI h 132) (nI k) known i) k → Rr mX12_ask 0 0 111 [(0, .ref 116), (1, .int x1), (2, .int known), (3, .int (nI k)), (4, .int (nI i))] [] h2 P
  | 0, i, h2, hi, F, ep, e8, e9 => by
    have e : i = R := by omega
    subst e
    have w2 := F.wf w
    refine sX12_ask_111 h2 116 _ _ _ _ ⟨w2.o (by decide) rfl, fun _ => ?_, fun q => absurd ?_ q⟩
    · rw [F.I (r := 116) (by decide), hl, nI_1, nI_1]
      exact kk h2 F ep e8 e9
    · rw [F.I (by decide), hR]
      exact Int32.le_refl _
  | m + 1, i, h2, hi, F, ep, e8, e9 => by
    have w2 := F.wf w
    refine sX12_ask_111 h2 116 _ _ _ _ ⟨w2.o (by decide) rfl, fun q => absurd q ?_, fun _ => ?_⟩
    · rw [F.I (by decide), hR, nI_leI (by omega) (by omega)]
      omega
    have v : vp_in (nI i) 20 := vp_in_nI (by omega) (by decide)
    have vl : vp_in (nI len) 24 := vp_in_nI (by omega) (by decide)
    rw [w2.f116_31, w2.f116_32, w2.f116_33, w2.f116_34, w2.f116_38, w2.f116_39, nI_clamp (n := i) (by omega), F.I (r := 116) (by decide), hl, nI_clamp (n := len) (by omega), F.I (r := 132) (by decide), F.I (r := 133) (by decide), F.I (r := 134) (by decide), rd_r (r2 := 135) (by decide), F.I (r := 135) (by decide), nI_1]
    have skip : ∀ c : lr (gI h 133) (gI h 132) (nI k) known (i + 1) = lr (gI h 133) (gI h 132) (nI k) known i, Rr mX12_ask 0 0 111 [(0, .ref 116), (1, .int x1), (2, .int known), (3, .int (nI k)), (4, .int (nI (i + 1)))] [] h2 P := fun c => by
      refine as_in w hR R20 hl l24 k24 b1 b2 kk m (i + 1) h2 (by omega) F ep ?_ ?_
      · rw [c]; exact e8
      · rw [c]; exact e9
    refine ⟨w2.a (by decide) rfl, v, fun c => skip (if_neg c), fun c => ⟨w2.a (by decide) rfl, v, fun c2 => ⟨w2.a (by decide) rfl, v, w2.a (by decide) rfl, vl, w2.a (by decide) rfl, v, w2.a (by decide) rfl, vl, ?_⟩, fun c2 => skip ?_⟩⟩
    · have e : lr (gI h 133) (gI h 132) (nI k) known (i + 1) = nI i := by
        show (if gI h 133 i = nI k then (if known < gI h 132 i then lr (gI h 133) (gI h 132) (nI k) known i else nI i) else lr (gI h 133) (gI h 132) (nI k) known i) = nI i
        rw [if_pos c, if_neg (by clear kk skip; grind)]
      have nm : ¬ nI i = -1 := nI_ne1 (by omega)
      refine as_in w hR R20 hl l24 k24 b1 b2 kk m (i + 1) _ (by omega) ((F.tr (Fr.sI (by decide))).tr (Fr.sI (by decide))) (fun p hp => ⟨(rd_r (by decide)).trans ((rd_k hp).trans (ep p hp).1), (rd_k hp).trans ((rd_r (by decide)).trans (ep p hp).2)⟩) ?_ ?_
      · rw [e]
        unfold kn
        rw [if_neg nm, nI_clamp (by omega)]
        exact (rd_r (by decide)).trans rd_h
      · rw [e]
        unfold kn
        rw [if_neg nm, nI_clamp (by omega)]
        exact rd_h
    · show (if gI h 133 i = nI k then (if known < gI h 132 i then lr (gI h 133) (gI h 132) (nI k) known i else nI i) else lr (gI h 133) (gI h 132) (nI k) known i) = _
      rw [if_pos c, if_pos (by clear kk skip; grind)]
def qM (h : AH) (ink known : Int32) (R n : Nat) : List Qd := qsl (gI h 127) (gI h 128) (gI h 119) (gI h 120) (gI h 129) (gI h 130) (gI h 131) (gI h 133) (gI h 132) (gI h 134) (gI h 135) ink known R n
theorem as_loop {h : AH} {P : Option Value → AH → Prop} (w : Wf h) {ink known : Int32} {R n : Nat} (hR : gI h 116 24 = nI R) (R20 : R ≤ 20) (hn : gI h 116 23 = nI n) (n24 : n ≤ 24) (hm : ∀ k, k < n → 0 ≤ gI h 129 k ∧ gI h 129 k < 8) (kk : ∀ h3, Fr [116, 136, 137, 138, 139] h h3 → (∀ s, s ≠ 35 → gI h3 116 s = gI h 116 s) → gI h3 116 35 = nI (qM h ink known R n).length → QR h3 136 (qM h ink known R n) → P none h3) : ∀ (m k : Nat) (h2 : AH), k + m = n → Fr [116, 136, 137, 138, 139] h h2 → (∀ s, s ≠ 35 → gI h2 116 s = gI h 116 s) → gI h2 116 35 = nI (qM h ink known R k).length → QR h2 136 (qM h ink known R k) → Rr mX12_ask 0 0 7 [(0, .ref 116), (1, .int ink), (2, .int known), (3, .int (nI k))] [] h2 P
  | 0, k, h2, hk, F, es, e0, Q => by
    have e : k = n := by omega
    subst e
    have w2 := F.wf w
    refine sX12_ask_7 h2 116 _ _ _ ⟨w2.o (by decide) rfl, fun _ => kk h2 F es e0 Q, fun q => absurd ?_ q⟩
    rw [es 23 (by decide), hn]
    exact Int32.le_refl _
  | m + 1, k, h2, hk, F, es, e0, Q => by
    have w2 := F.wf w
    have len : (qM h ink known R k).length ≤ k := qsl_len _ _ _ _ _ _ _ _ _ _ _ ink known R k
    have sc : qM h ink known R (k + 1) = _ := qsl_succ (gI h 127) (gI h 128) (gI h 119) (gI h 120) (gI h 129) (gI h 130) (gI h 131) (gI h 133) (gI h 132) (gI h 134) (gI h 135) ink known R k
    refine sX12_ask_7 h2 116 _ _ _ ⟨w2.o (by decide) rfl, fun q => absurd q ?_, fun _ => ?_⟩
    · rw [es 23 (by decide), hn, nI_leI (by omega) (by omega)]
      omega
    have v : vp_in (nI k) 24 := vp_in_nI (by omega) (by decide)
    have vl : vp_in (nI (qM h ink known R k).length) 24 := vp_in_nI (by omega) (by decide)
    have vm : vp_in (gI h 129 k) 16 := vin_16.mpr (by have := hm k (by omega); clear kk; grind)
    simp only [w2.f116_12, w2.f116_13, w2.f116_26, w2.f116_27, w2.f116_28, w2.f116_29, w2.f116_30, w2.f116_36, w2.f116_37, w2.f116_38, w2.f116_39, e0]
    rw [nI_clamp (n := k) (by omega), nI_clamp (n := (qM h ink known R k).length) (by omega)]
    rw [rd_r (r2 := 129) (by decide), rd_r (r2 := 120) (by decide), rd_r (r2 := 130) (by decide), rd_r (r2 := 130) (by decide), rd_r (r2 := 131) (by decide), rd_r (r2 := 131) (by decide), rd_r (r2 := 131) (by decide)]
    rw [F.I (r := 127) (by decide), F.I (r := 128) (by decide), F.I (r := 129) (by decide), F.I (r := 119) (by decide), F.I (r := 120) (by decide), F.I (r := 130) (by decide), F.I (r := 131) (by decide), nI_1]
    have skip : ¬ sel (gI h 127) (gI h 128) ink known k = true → Rr mX12_ask 0 0 7 [(0, .ref 116), (1, .int ink), (2, .int known), (3, .int (nI (k + 1)))] [] h2 P := fun c => by
      rw [if_neg c] at sc
      refine as_loop w hR R20 hn n24 hm kk m (k + 1) h2 (by omega) F es ?_ ?_
      · rw [sc]; exact e0
      · rw [sc]; exact Q
    refine ⟨w2.a (by decide) rfl, v, fun c => skip ?_, fun c => ⟨w2.a (by decide) rfl, v, fun c2 => ⟨w2.a (by decide) rfl, v, w2.a (by decide) rfl, vm, w2.a (by decide) rfl, vl, w2.a (by decide) rfl, vm, w2.a (by decide) rfl, vl, w2.a (by decide) rfl, v, w2.a (by decide) rfl, vl, w2.a (by decide) rfl, v, w2.a (by decide) rfl, vl, ?_⟩, fun c2 => skip ?_⟩⟩
    · unfold sel
      rw [decide_eq_true_eq]
      exact fun z => c z.1
    rotate_left
    · unfold sel
      rw [decide_eq_true_eq]
      exact fun z => by have := z.2; clear kk skip; grind
    have sn : sel (gI h 127) (gI h 128) ink known k = true := by
      unfold sel
      rw [decide_eq_true_eq]
      exact ⟨c, by clear kk skip; grind⟩
    clear skip
    rw [if_pos sn] at sc
    generalize hA : sI (sI (sI (sI h2 136 (qM h ink known R k).length (gI h 119 (gI h 129 k).toNatClampNeg)) 137 (qM h ink known R k).length (gI h 120 (gI h 129 k).toNatClampNeg)) 138 (qM h ink known R k).length (gI h 130 k)) 139 (qM h ink known R k).length (gI h 131 k) = h3
    have F3 : Fr [116, 136, 137, 138, 139] h h3 := by
      rw [← hA]
      exact (((F.tr (Fr.sI (by decide))).tr (Fr.sI (by decide))).tr (Fr.sI (by decide))).tr (Fr.sI (by decide))
    have w3 := F3.wf w
    have s3 : ∀ s, gI h3 116 s = gI h2 116 s := fun s => by
      rw [← hA]
      rfl
    have q3 : ∀ i, i ≠ (qM h ink known R k).length → gI h3 136 i = gI h2 136 i ∧ gI h3 137 i = gI h2 137 i ∧ gI h3 138 i = gI h2 138 i ∧ gI h3 139 i = gI h2 139 i := fun i hi => by
      rw [← hA]
      exact ⟨(rd_r (by decide)).trans ((rd_r (by decide)).trans ((rd_r (by decide)).trans (rd_k hi))), (rd_r (by decide)).trans ((rd_r (by decide)).trans ((rd_k hi).trans (rd_r (by decide)))), (rd_r (by decide)).trans ((rd_k hi).trans ((rd_r (by decide)).trans (rd_r (by decide)))), (rd_k hi).trans ((rd_r (by decide)).trans ((rd_r (by decide)).trans (rd_r (by decide))))⟩
    have q4 : gI h3 136 (qM h ink known R k).length = gI h 119 (gI h 129 k).toNatClampNeg ∧ gI h3 137 (qM h ink known R k).length = gI h 120 (gI h 129 k).toNatClampNeg ∧ gI h3 138 (qM h ink known R k).length = gI h 130 k ∧ gI h3 139 (qM h ink known R k).length = gI h 131 k := by
      rw [← hA]
      exact ⟨(rd_r (by decide)).trans ((rd_r (by decide)).trans ((rd_r (by decide)).trans rd_h)), (rd_r (by decide)).trans ((rd_r (by decide)).trans rd_h), (rd_r (by decide)).trans rd_h, rd_h⟩
    clear hA
    refine as_in (R := R) (len := (qM h ink known R k).length) w3 ((s3 24).trans ((es 24 (by decide)).trans hR)) R20 ((s3 35).trans e0) (by omega) (by omega) (gI h 130) (gI h 131) (fun h4 F4 ep e8 e9 => ?_) R 0 h3 (Nat.zero_add R) Fr.rf (fun _ _ => ⟨rfl, rfl⟩) q4.2.2.1 q4.2.2.2
    rw [(F3.2.2 132 (by decide)).1, (F3.2.2 133 (by decide)).1] at e8 e9
    rw [(F3.2.2 134 (by decide)).1] at e8
    rw [(F3.2.2 135 (by decide)).1] at e9
    refine as_loop w hR R20 hn n24 hm kk m (k + 1) _ (by omega) ((F3.tr (F4.sub (by decide))).tr (Fr.sI (by decide))) (fun s hs => ?_) ?_ ?_
    · rw [rd_k hs, F4.I (by decide), s3, es s hs]
    · rw [sc, List.length_append]
      exact rd_h
    · rw [sc]
      refine QR.push Q _ (fun i hi => ?_) ?_
      · obtain ⟨z1, z2, z3, z4⟩ := q3 i hi
        refine ⟨?_, ?_, ?_, ?_⟩
        · rw [rd_r (by decide), F4.I (by decide), z1]
        · rw [rd_r (by decide), F4.I (by decide), z2]
        · rw [rd_r (by decide), (ep i hi).1, z3]
        · rw [rd_r (by decide), (ep i hi).2, z4]
      · refine ⟨?_, ?_, ?_, ?_⟩
        · rw [rd_r (by decide), F4.I (by decide), q4.1]
          rfl
        · rw [rd_r (by decide), F4.I (by decide), q4.2.1]
          rfl
        · rw [rd_r (by decide)]
          exact e8
        · rw [rd_r (by decide)]
          exact e9
theorem c12_ask {h : AH} {P : Option Value → AH → Prop} (w : Wf h) {ink known : Int32} {R n : Nat} (hR : gI h 116 24 = nI R) (R20 : R ≤ 20) (hn : gI h 116 23 = nI n) (n24 : n ≤ 24) (hm : ∀ k, k < n → 0 ≤ gI h 129 k ∧ gI h 129 k < 8) (kk : ∀ h3, Fr [116, 136, 137, 138, 139] h h3 → (∀ s, s ≠ 35 → gI h3 116 s = gI h 116 s) → gI h3 116 35 = nI (qM h ink known R n).length → QR h3 136 (qM h ink known R n) → P none h3) : Call mX12_ask [.ref 116, .int ink, .int known] h P := by
  refine Call.ofR (by decide +kernel) (Nat.le_of_ble_eq_true rfl) (sX12_ask_0 h 116 _ _ ⟨w.o (by decide) rfl, ?_⟩)
  exact as_loop w hR R20 hn n24 hm kk n 0 _ (Nat.zero_add n) (Fr.sI (by decide)) (fun s hs => rd_k hs) rd_h (fun i q hq => absurd hq (by simp [qM, qsl]))
