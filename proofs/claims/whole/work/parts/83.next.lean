theorem c9_next {h : AH} {P : Option Value → AH → Prop} (w : Wf h) {L p : Nat} (hL : L ≤ 900) (h2L : gI h 2 2 = nI L) (hp : p ≤ L) (h21 : gI h 2 1 = nI p) (kk : ∀ h3, Fr [2] h h3 → gI h3 2 1 = nI (te (gI h 3) L p) → gI h3 2 2 = nI L → gI h3 2 3 = tk (gI h 3) L p → gI h3 2 4 = nI (ts (gI h 3) L p) → (tk (gI h 3) L p = 2 → gI h3 2 5 = dv (gI h 3) (ts (gI h 3) L p) (te (gI h 3) L p - ts (gI h 3) L p)) → P none h3) : Call mX9_next [.ref 2] h P := by
  have tok : ∀ (q : Nat) (h2 : AH), q < L → Fr [2] h h2 → gI h2 2 1 = nI q → gI h2 2 2 = nI L → ts (gI h 3) L p = q → ((¬ (¬ gI h 3 q < 97 ∧ ¬ 122 < gI h 3 q) → (¬ (¬ gI h 3 q < 48 ∧ ¬ 57 < gI h 3 q) → Call mX9_takeSign [.ref 2, .int (gI h 3 q)] (sI (sI h2 2 4 (nI q)) 2 5 0) (fun v h8 => v = none ∧ (P none h8))) ∧ ((¬ gI h 3 q < 48 ∧ ¬ 57 < gI h 3 q) → Call mX9_takeNumber [.ref 2] (sI (sI h2 2 4 (nI q)) 2 5 0) (fun v h9 => v = none ∧ (P none h9)))) ∧ ((¬ gI h 3 q < 97 ∧ ¬ 122 < gI h 3 q) → Call mX9_takeWord [.ref 2] (sI (sI h2 2 4 (nI q)) 2 5 0) (fun v h10 => v = none ∧ (P none h10)))) := fun q h2 hq F e1 e2 tsq => by
    have FB : Fr [2] h (sI (sI h2 2 4 (nI q)) 2 5 0) := (F.tr (Fr.sI (by decide))).tr (Fr.sI (by decide))
    have wB := FB.wf w
    have b1 : gI (sI (sI h2 2 4 (nI q)) 2 5 0) 2 1 = nI q := (rd_k (by decide)).trans ((rd_k (by decide)).trans e1)
    have b2 : gI (sI (sI h2 2 4 (nI q)) 2 5 0) 2 2 = nI L := (rd_k (by decide)).trans ((rd_k (by decide)).trans e2)
    have b4 : gI (sI (sI h2 2 4 (nI q)) 2 5 0) 2 4 = nI q := (rd_k (by decide)).trans rd_h
    have b5 : gI (sI (sI h2 2 4 (nI q)) 2 5 0) 2 5 = 0 := rd_h
    generalize sI (sI h2 2 4 (nI q)) 2 5 0 = hB at FB wB b1 b2 b4 b5
    have e3 : gI hB 3 = gI h 3 := (FB.2.2 3 (by decide)).1
    have nL : ¬ q = L := by omega
    refine ⟨fun c1 => ⟨fun c2 => ?_, fun c2 => ?_⟩, fun c1 => ?_⟩
    · have l1 : ¬ lett (gI h 3 q) = true := by unfold lett; rw [decide_eq_true_eq]; exact c1
      have l2 : ¬ digi (gI h 3 q) = true := by unfold digi; rw [decide_eq_true_eq]; exact c2
      have t1 : te (gI h 3) L p = q + 1 := by unfold te; rw [tsq, if_neg nL, if_neg l1, if_neg l2]
      have t2 : tk (gI h 3) L p = if gI h 3 q = 45 then 4 else if gI h 3 q = 59 then 3 else 5 := by unfold tk; rw [tsq, if_neg nL, if_neg l1, if_neg l2]
      have fin : ∀ v : Int32, v = tk (gI h 3) L p → ¬ v = 2 → P none (sI (sI hB 2 1 (gI hB 2 1 + 1)) 2 3 v) := fun v hv h2v => by
        refine kk _ ((FB.tr (Fr.sI (by decide))).tr (Fr.sI (by decide))) ?_ ?_ ?_ ?_ (fun z => absurd (hv.trans z) h2v)
        · rw [rd_k (by decide), rd_h, b1, t1, nI_1]
        · rw [rd_k (by decide), rd_k (by decide)]; exact b2
        · rw [rd_h]; exact hv
        · rw [rd_k (by decide), rd_k (by decide), tsq]; exact b4
      refine Call.ofR (by decide +kernel) (Nat.le_of_ble_eq_true rfl) (sX9_takeSign_0 hB 2 _ ⟨wB.o (by decide) rfl, fun z => ⟨rfl, fin 4 (by rw [t2, if_pos z]) (by decide)⟩, fun z => ⟨fun z2 => ⟨rfl, fin 3 (by rw [t2, if_neg z, if_pos z2]) (by decide)⟩, fun z2 => ⟨rfl, fin 5 (by rw [t2, if_neg z, if_neg z2]) (by decide)⟩⟩⟩)
    · have l1 : ¬ lett (gI h 3 q) = true := by unfold lett; rw [decide_eq_true_eq]; exact c1
      have l2 : digi (gI h 3 q) = true := by unfold digi; rw [decide_eq_true_eq]; exact c2
      have t1 : te (gI h 3) L p = rn digi (gI h 3) (L - q) q := by unfold te; rw [tsq, if_neg nL, if_neg l1, if_pos l2]
      have t2 : tk (gI h 3) L p = if 4 < te (gI h 3) L p - q then 5 else 2 := by unfold tk; rw [tsq, if_neg nL, if_neg l1, if_pos l2]
      refine Call.ofR (by decide +kernel) (Nat.le_of_ble_eq_true rfl) (tn_loop (s := q) (L := L) wB hL b2 b4 (by omega) (fun h3 F3 z1 z3 z5 zz => ⟨rfl, ?_⟩) (L - q) q hB (by omega) (Nat.le_refl q) Fr.rf b1 (by rw [b5, Nat.sub_self]; rfl) (fun _ _ _ _ => rfl) rfl)
      rw [e3, ← t1] at z1 z3 z5
      refine kk h3 (FB.tr F3) z1 ((zz 2 (by decide) (by decide) (by decide)).trans b2) (z3.trans t2.symm) ?_ (fun _ => ?_)
      · rw [tsq]; exact (zz 4 (by decide) (by decide) (by decide)).trans b4
      · rw [tsq]; exact z5
    · have l1 : lett (gI h 3 q) = true := by unfold lett; rw [decide_eq_true_eq]; exact c1
      have t1 : te (gI h 3) L p = rn lett (gI h 3) (L - q) q := by unfold te; rw [tsq, if_neg nL, if_pos l1]
      have t2 : tk (gI h 3) L p = if 8 < te (gI h 3) L p - q then 5 else 1 := by unfold tk; rw [tsq, if_neg nL, if_pos l1]
      refine Call.ofR (by decide +kernel) (Nat.le_of_ble_eq_true rfl) (tw_loop (s := q) (L := L) wB hL b2 b4 (by omega) (fun h3 F3 z1 z3 zz => ⟨rfl, ?_⟩) (L - q) q hB (by omega) (Nat.le_refl q) Fr.rf b1 (fun _ _ _ => rfl) rfl)
      rw [e3, ← t1] at z1 z3
      refine kk h3 (FB.tr F3) z1 ((zz 2 (by decide) (by decide)).trans b2) (z3.trans t2.symm) ?_ (fun z => ?_)
      · rw [tsq]; exact (zz 4 (by decide) (by decide)).trans b4
      · exfalso
        rw [t2] at z
        by_cases c : 8 < te (gI h 3) L p - q
        · rw [if_pos c] at z; exact absurd z (by decide)
        · rw [if_neg c] at z; exact absurd z (by decide)
  have lp : ∀ (m q : Nat) (h2 : AH), q + m = L → Fr [2] h h2 → gI h2 2 1 = nI q → gI h2 2 2 = nI L → ts (gI h 3) L p = rn blnk (gI h 3) m q → Rr mX9_next 0 0 0 [(0, .ref 2)] [] h2 P := by
    intro m
    induction m with
    | zero =>
      intro q h2 hq F e1 e2 er
      have w2 := F.wf w
      have tsq : ts (gI h 3) L p = L := er.trans (show q = L by omega)
      have qL : q = L := by omega
      refine sX9_next_0 h2 2 ?_
      rw [e1, e2]
      refine ⟨w2.o (by decide) rfl, fun _ => ⟨fun z => absurd z ?_, fun _ => ?_⟩, fun z => absurd ((nle_L hL (by omega)).1.mpr qL) z⟩
      · rw [(nle_L hL (by omega)).2]; omega
      · have t1 : te (gI h 3) L p = L := by unfold te; rw [tsq, if_pos rfl]
        have t2 : tk (gI h 3) L p = 0 := by unfold tk; rw [tsq, if_pos rfl]
        refine kk _ (((F.tr (Fr.sI (by decide))).tr (Fr.sI (by decide))).tr (Fr.sI (by decide))) ?_ ?_ ?_ ?_ (fun z => absurd (t2.symm.trans z) (by decide))
        · rw [rd_k (by decide), rd_k (by decide), rd_k (by decide), e1, t1, qL]
        · rw [rd_k (by decide), rd_k (by decide), rd_k (by decide), e2]
        · rw [rd_h, t2]
        · rw [rd_k (by decide), rd_k (by decide), rd_h, tsq, qL]
    | succ m ih =>
      intro q h2 hq F e1 e2 er
      have w2 := F.wf w
      have st : rn blnk (gI h 3) (m + 1) q = if blnk (gI h 3 q) = true then rn blnk (gI h 3) m (q + 1) else q := rfl
      rw [st] at er
      refine sX9_next_0 h2 2 ?_
      rw [w2.f2_0, e1, e2, nI_clamp (by omega), F.I (r := 3) (by decide), nI_1]
      refine ⟨w2.o (by decide) rfl, fun z => ?_, fun _ => ⟨w2.a (by decide) rfl, in900 hL (by omega), fun c => ?_, fun c => ?_⟩⟩
      · have := (nle_L hL (by omega)).1.mp z
        omega
      · have bc : ¬ blnk (gI h 3 q) = true := by
          unfold blnk
          rw [Bool.or_eq_true, decide_eq_true_eq, decide_eq_true_eq]
          exact c
        rw [if_neg bc] at er
        refine ⟨fun _ => tok q h2 (by omega) F e1 e2 er, fun z => absurd ?_ z⟩
        rw [(nle_L hL (by omega)).2]
        omega
      · have bc : blnk (gI h 3 q) = true := by
          unfold blnk
          rw [Bool.or_eq_true, decide_eq_true_eq, decide_eq_true_eq]
          exact c
        rw [if_pos bc] at er
        exact ih (q + 1) _ (by omega) (F.tr (Fr.sI (by decide))) rd_h ((rd_k (by decide)).trans e2) er
  exact Call.ofR (by decide +kernel) (Nat.le_of_ble_eq_true rfl) (lp (L - p) p h (by omega) Fr.rf h21 h2L rfl)
