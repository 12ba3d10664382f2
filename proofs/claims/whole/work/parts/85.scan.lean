def ms (k : Int32) : Int32 := if k = 0 then 5 else if k = 5 then 0 else k
theorem nsub {a b : Nat} (h : b ≤ a) : nI a - nI b = nI (a - b) := by
  have := nI_add (a - b) b
  rw [show a - b + b = a by omega] at this
  rw [← this]
  grind
/-- the reference: a word -/
theorem sc75 {h : AH} {P : Option Value → AH → Prop} (w : Wf h) {L s : Nat} (hL : L ≤ 900) (h2L : gI h 116 2 = nI L) (hsL : s ≤ L) (hb : ∀ x, x < L → inr (gI h 117 x) (-128) 127) (kk : ∀ h3, Fr [116] h h3 → (∀ z, z ≠ 3 → z ≠ 4 → z ≠ 6 → gI h3 116 z = gI h 116 z) → gI h3 116 6 = nI (rn lett (gI h 117) (L - s) s) → gI h3 116 3 = (if 8 < rn lett (gI h 117) (L - s) s - s then 0 else 1) → (¬ 8 < rn lett (gI h 117) (L - s) s - s → kyf (fun i => gI h 117 (s + i)) (rn lett (gI h 117) (L - s) s - s) 14 0 (gI h3 116 4)) → P none h3) : ∀ (m p : Nat), p + m = L → s ≤ p → rn lett (gI h 117) (L - s) s = rn lett (gI h 117) m p → Rr mX12_scan 0 0 75 [(0, .ref 116), (1, .int (nI s)), (3, .int (nI p))] [] h P := by
  have fin : ∀ p, s ≤ p → p ≤ L → rn lett (gI h 117) (L - s) s = p → (¬ ((bi ((nI p - nI s) ≤ 8))) = 1 → P none (sI (sI h 116 3 (bi ((nI p - nI s) ≤ 8))) 116 6 (nI p))) ∧ (((bi ((nI p - nI s) ≤ 8))) = 1 → Call mX12_keyAt [.ref 116, .int (nI s), .int (nI p - nI s)] (sI h 116 3 (bi ((nI p - nI s) ≤ 8))) (fun v h7 => ∃ z8 : Int32, v = some (.int z8) ∧ ((isO h7 12 116) ∧ (P none (sI (sI h7 116 4 z8) 116 6 (nI p)))))) := fun p h1 h2 er => by
    rw [nsub h1]
    have i8 : nI (p - s) ≤ 8 ↔ ¬ 8 < p - s := by
      rw [show (8 : Int32) = nI 8 from rfl, nI_leI (by omega) (by decide)]
      omega
    refine ⟨fun q => ?_, fun q => ?_⟩
    · have c : 8 < p - s := by
        rcases Nat.lt_or_ge 8 (p - s) with z | z
        · exact z
        · exact absurd (if_pos (i8.mpr (by omega))) q
      have e : bi (nI (p - s) ≤ 8) = 0 := if_neg (fun z => (i8.mp z) c)
      rw [e]
      refine kk _ ((Fr.sI (by decide)).tr (Fr.sI (by decide))) (fun z z3 _ z6 => (rd_k z6).trans (rd_k z3)) ?_ ?_ (fun z => ?_)
      · rw [rd_h, er]
      · rw [rd_k (by decide), rd_h, er, if_pos c]
      · rw [er] at z; exact absurd c z
    · have c : ¬ 8 < p - s := by
        intro z
        have e : bi (nI (p - s) ≤ 8) = 0 := if_neg (fun z2 => (i8.mp z2) z)
        rw [e] at q
        exact absurd q (by decide)
      have e : bi (nI (p - s) ≤ 8) = 1 := if_pos (i8.mpr c)
      rw [e]
      have F1 : Fr [116] h (sI h 116 3 1) := Fr.sI (by decide)
      have w1 := F1.wf w
      refine c12_key w1 hL ((rd_k (by decide)).trans h2L) ⟨by omega, fun i hi => ?_⟩ (by omega) (fun z hz => ⟨_, rfl, w1.o (by decide) rfl, ?_⟩)
      · rw [rd_r (by decide)]
        refine ⟨hb _ (by omega), ?_⟩
        refine rn_in (n := L - s) (p := s) (by omega) ?_
        rw [er]
        omega
      · refine kk _ ((F1.tr (Fr.sI (by decide))).tr (Fr.sI (by decide))) (fun x z3 z4 z6 => (rd_k z6).trans ((rd_k z4).trans (rd_k z3))) ?_ ?_ (fun _ => ?_)
        · rw [rd_h, er]
        · rw [rd_k (by decide), rd_k (by decide), rd_h, er, if_neg c]
        · rw [rd_k (by decide), rd_h, er]
          exact hz
  intro m
  induction m with
  | zero =>
    intro p hp hsp er
    refine sX12_scan_75 h 116 _ _ ?_
    have le : nI L ≤ nI p := (nle_L hL (by omega)).1.mpr (by omega)
    simp only [w.f116_0, h2L, if_pos le]
    exact ⟨w.o (by decide) rfl, w.a (by decide) rfl, fun q => absurd le q, fun _ => fin p hsp (by omega) er, fun q => absurd q (by decide)⟩
  | succ m ih =>
    intro p hp hsp er
    have st : rn lett (gI h 117) (m + 1) p = if lett (gI h 117 p) = true then rn lett (gI h 117) m (p + 1) else p := rfl
    rw [st] at er
    have nle : ¬ nI L ≤ nI p := fun z => by
      have := (nle_L hL (by omega)).1.mp z
      omega
    have by3 := (b_by (hb p (by omega))).2.2.1
    refine sX12_scan_75 h 116 _ _ ?_
    simp only [w.f116_0, h2L, if_neg nle, nI_clamp (show p < 2 ^ 31 by omega), nI_1]
    refine ⟨w.o (by decide) rfl, w.a (by decide) rfl, fun _ => in900 hL (by omega), fun c => ?_, fun c => ?_⟩
    · rw [if_neg (by unfold lett; rw [decide_eq_true_eq]; exact fun z => c (by3.mpr z))] at er
      exact fin p hsp (by omega) er
    · rw [if_pos (by unfold lett; rw [decide_eq_true_eq]; exact by3.mp c)] at er
      exact ih (p + 1) (by omega) (by omega) er
/-- the reference: a number -/
theorem sc147 {h : AH} {P : Option Value → AH → Prop} (w : Wf h) {L s : Nat} (hL : L ≤ 900) (h2L : gI h 116 2 = nI L) (hsL : s ≤ L) (hb : ∀ x, x < L → inr (gI h 117 x) (-128) 127) (kk : ∀ h3, Fr [116] h h3 → (∀ z, z ≠ 3 → z ≠ 6 → z ≠ 7 → gI h3 116 z = gI h 116 z) → gI h3 116 6 = nI (rn digi (gI h 117) (L - s) s) → gI h3 116 3 = (if 4 < rn digi (gI h 117) (L - s) s - s then 0 else 2) → (¬ 4 < rn digi (gI h 117) (L - s) s - s → gI h3 116 7 = dv (gI h 117) s (rn digi (gI h 117) (L - s) s - s)) → P none h3) : ∀ (m p : Nat) (h2 : AH), p + m = L → s < p → Fr [116] h h2 → (∀ z, z ≠ 3 → z ≠ 6 → z ≠ 7 → gI h2 116 z = gI h 116 z) → (¬ 4 < p - s → gI h2 116 7 = dv (gI h 117) s (p - s)) → rn digi (gI h 117) (L - s) s = rn digi (gI h 117) m p → Rr mX12_scan 0 0 147 [(0, .ref 116), (1, .int (nI s)), (3, .int (nI p))] [] h2 P := by
  have fin : ∀ (p : Nat) (h2 : AH), s < p → p ≤ L → Fr [116] h h2 → (∀ z, z ≠ 3 → z ≠ 6 → z ≠ 7 → gI h2 116 z = gI h 116 z) → (¬ 4 < p - s → gI h2 116 7 = dv (gI h 117) s (p - s)) → rn digi (gI h 117) (L - s) s = p → ∀ z6 : Int32, z6 = (if (nI p - nI s) ≤ 4 then 2 else 0) → P none (sI (sI h2 116 3 z6) 116 6 (nI p)) := fun p h2 h1 hp F ez e7 er z6 h6 => by
    rw [nsub (by omega)] at h6
    have i4 : nI (p - s) ≤ 4 ↔ ¬ 4 < p - s := by
      rw [show (4 : Int32) = nI 4 from rfl, nI_leI (by omega) (by decide)]
      omega
    refine kk _ ((F.tr (Fr.sI (by decide))).tr (Fr.sI (by decide))) (fun z z3 z6 z7 => (rd_k z6).trans ((rd_k z3).trans (ez z z3 z6 z7))) ?_ ?_ (fun z => ?_)
    · rw [rd_h, er]
    · rw [rd_k (by decide), rd_h, h6, er]
      by_cases c : 4 < p - s
      · rw [if_pos c, if_neg (fun z => i4.mp z c)]
      · rw [if_neg c, if_pos (i4.mpr c)]
    · rw [er] at z
      rw [rd_k (by decide), rd_k (by decide), er]
      exact e7 z
  intro m
  induction m with
  | zero =>
    intro p h2 hp hsp F ez e7 er
    have w2 := F.wf w
    refine sX12_scan_147 h2 116 _ _ ?_
    have le : nI L ≤ nI p := (nle_L hL (by omega)).1.mpr (by omega)
    simp only [w2.f116_0, ez 2 (by decide) (by decide) (by decide), h2L, if_pos le]
    exact ⟨w2.o (by decide) rfl, w2.a (by decide) rfl, fun q => absurd le q, fun _ => fin p h2 hsp (by omega) F ez e7 er, fun q => absurd q (by decide)⟩
  | succ m ih =>
    intro p h2 hp hsp F ez e7 er
    have w2 := F.wf w
    have st : rn digi (gI h 117) (m + 1) p = if digi (gI h 117 p) = true then rn digi (gI h 117) m (p + 1) else p := rfl
    rw [st] at er
    have nle : ¬ nI L ≤ nI p := fun z => by
      have := (nle_L hL (by omega)).1.mp z
      omega
    have bb := b_by (hb p (by omega))
    refine sX12_scan_147 h2 116 _ _ ?_
    simp only [w2.f116_0, ez 2 (by decide) (by decide) (by decide), h2L, if_neg nle, nI_clamp (show p < 2 ^ 31 by omega), F.I (r := 117) (by decide), nI_1]
    refine ⟨w2.o (by decide) rfl, w2.a (by decide) rfl, fun _ => in900 hL (by omega), fun c => ?_, fun c z8 h8 => ?_⟩
    · rw [if_neg (by unfold digi; rw [decide_eq_true_eq]; exact fun z => c (bb.2.2.2.1.mpr z))] at er
      exact fin p h2 hsp (by omega) F ez e7 er
    · have dc := bb.2.2.2.1.mp c
      rw [if_pos (by unfold digi; rw [decide_eq_true_eq]; exact dc)] at er
      refine ih (p + 1) _ (by omega) (by omega) (F.tr (Fr.sI (by decide))) (fun z z3 z6 z7 => (rd_k z7).trans (ez z z3 z6 z7)) (fun q => ?_) er
      rw [rd_h, h8, nsub (by omega), bb.2.2.2.2.2.2.2.2 dc, if_neg (by rw [show (4 : Int32) = nI 4 from rfl, nI_leI (by decide) (by omega)]; omega), e7 (by omega), show p + 1 - s = (p - s) + 1 by omega]
      show _ = (dv (gI h 117) s (p - s) * 10 + gI h 117 (s + (p - s))) - 48
      rw [show s + (p - s) = p by omega, Int32.mul_comm]
theorem c12_scan {h : AH} {P : Option Value → AH → Prop} (w : Wf h) {L p : Nat} (hL : L ≤ 900) (h2L : gI h 116 2 = nI L) (hp : p ≤ L) (h66 : gI h 116 6 = nI p) (hb : ∀ x, x < L → inr (gI h 117 x) (-128) 127) (kk : ∀ h3, Fr [116] h h3 → (∀ z, z ≠ 3 → z ≠ 4 → z ≠ 5 → z ≠ 6 → z ≠ 7 → gI h3 116 z = gI h 116 z) → gI h3 116 3 = ms (tk (gI h 117) L p) → gI h3 116 5 = nI (ts (gI h 117) L p) → gI h3 116 6 = nI (te (gI h 117) L p) → (tk (gI h 117) L p = 1 → kyf (fun i => gI h 117 (ts (gI h 117) L p + i)) (te (gI h 117) L p - ts (gI h 117) L p) 14 0 (gI h3 116 4)) → (tk (gI h 117) L p = 2 → gI h3 116 7 = dv (gI h 117) (ts (gI h 117) L p) (te (gI h 117) L p - ts (gI h 117) L p)) → P none h3) : Call mX12_scan [.ref 116] h P := by
  have o12 : isO h 12 116 := w.o (by decide) rfl
  have a117 : isA h 2 117 := w.a (by decide) rfl
  have lp : ∀ (m q : Nat), q + m = L → ts (gI h 117) L p = rn blnk (gI h 117) m q → Rr mX12_scan 0 0 5 [(0, .ref 116), (1, .int (nI q))] [] h P := by
    intro m
    induction m with
    | zero =>
      intro q hq er
      have tsq : ts (gI h 117) L p = L := er.trans (show q = L by omega)
      have qL : q = L := by omega
      have le : nI L ≤ nI q := (nle_L hL (by omega)).1.mpr qL
      have t1 : te (gI h 117) L p = L := by unfold te; rw [tsq, if_pos rfl]
      have t2 : tk (gI h 117) L p = 0 := by unfold tk; rw [tsq, if_pos rfl]
      refine sX12_scan_5 h 116 _ ?_
      simp only [gF_sI, w.f116_0, h2L, rd_k (show (2 : Nat) ≠ 5 by decide), if_pos le]
      refine ⟨o12, a117, fun z => absurd le z, fun z => absurd z (by decide), fun _ => ⟨fun _ => ⟨fun z => absurd le z, fun z => absurd trivial z, fun _ => ?_⟩, fun z => absurd z (by decide)⟩⟩
      refine kk _ ((((Fr.sI (by decide)).tr (Fr.sI (by decide))).tr (Fr.sI (by decide))).tr (Fr.sI (by decide))) (fun z z3 z4 z5 z6 _ => (rd_k z6).trans ((rd_k z3).trans ((rd_k z4).trans (rd_k z5)))) ?_ ?_ ?_ (fun z => absurd (t2.symm.trans z) (by decide)) (fun z => absurd (t2.symm.trans z) (by decide))
      · rw [rd_k (by decide), rd_h, t2]; rfl
      · rw [rd_k (by decide), rd_k (by decide), rd_k (by decide), rd_h, tsq, qL]
      · rw [rd_h, t1, qL]
    | succ m ih =>
      intro q hq er
      have st : rn blnk (gI h 117) (m + 1) q = if blnk (gI h 117 q) = true then rn blnk (gI h 117) m (q + 1) else q := rfl
      rw [st] at er
      have nle : ¬ nI L ≤ nI q := fun z => by
        have := (nle_L hL (by omega)).1.mp z
        omega
      have bb := b_by (hb q (by omega))
      obtain ⟨b32, b10, blt, bdg, b59, b45, bm1, ble, bde⟩ := bb
      refine sX12_scan_5 h 116 _ ?_
      simp only [gF_sI, w.f116_0, h2L, rd_k (show (2 : Nat) ≠ 5 by decide), rd_r (show (117 : Nat) ≠ 116 by decide), if_neg nle, nI_clamp (show q < 2 ^ 31 by omega), nI_1, b32, b10, b59, b45]
      have bl : ∀ c : gI h 117 q = 32 ∨ gI h 117 q = 10, Rr mX12_scan 0 0 5 [(0, .ref 116), (1, .int (nI (q + 1)))] [] h P := fun c => by
        rw [if_pos (by unfold blnk; rw [Bool.or_eq_true, decide_eq_true_eq, decide_eq_true_eq]; exact c)] at er
        exact ih (q + 1) (by omega) er
      have v9 : vp_in (nI q) 900 := in900 hL (by omega)
      refine ⟨o12, a117, fun _ => v9, fun c => bl (Or.inl c), fun c1 => ⟨fun c2 => ⟨fun _ => v9, fun _ => ⟨fun c3 => ⟨fun c4 z12 h12 => ?_, fun c4 => ?_⟩, fun c3 => ?_⟩, fun z => absurd z bm1⟩, fun c => bl (Or.inr c)⟩⟩
      all_goals
        rw [if_neg (by unfold blnk; rw [Bool.or_eq_true, decide_eq_true_eq, decide_eq_true_eq]; exact fun z => z.elim c1 c2)] at er
      · have l1 : ¬ lett (gI h 117 q) = true := by unfold lett; rw [decide_eq_true_eq]; exact fun z => c3 (blt.mpr z)
        have l2 : ¬ digi (gI h 117 q) = true := by unfold digi; rw [decide_eq_true_eq]; exact fun z => c4 (bdg.mpr z)
        have nL : ¬ q = L := by omega
        have t1 : te (gI h 117) L p = q + 1 := by unfold te; rw [er, if_neg nL, if_neg l1, if_neg l2]
        have t2 : tk (gI h 117) L p = if gI h 117 q = 45 then 4 else if gI h 117 q = 59 then 3 else 5 := by unfold tk; rw [er, if_neg nL, if_neg l1, if_neg l2]
        have t3 : z12 = ms (tk (gI h 117) L p) ∧ ¬ tk (gI h 117) L p = 1 ∧ ¬ tk (gI h 117) L p = 2 := by
          rw [h12, t2]
          by_cases d1 : gI h 117 q = 59
          · have d2 : ¬ gI h 117 q = 45 := by rw [d1]; decide
            rw [if_pos d1, if_neg d2, if_pos d1]
            decide
          · by_cases d2 : gI h 117 q = 45
            · rw [if_neg d1, if_pos d2, if_pos d2]
              decide
            · rw [if_neg d1, if_neg d2, if_neg d2, if_neg d1]
              decide
        refine kk _ ((((Fr.sI (by decide)).tr (Fr.sI (by decide))).tr (Fr.sI (by decide))).tr (Fr.sI (by decide))) (fun z z3 z4 z5 z6 _ => (rd_k z6).trans ((rd_k z3).trans ((rd_k z4).trans (rd_k z5)))) ?_ ?_ ?_ (fun z => absurd z t3.2.1) (fun z => absurd z t3.2.2)
        · rw [rd_k (by decide), rd_h]; exact t3.1
        · rw [rd_k (by decide), rd_k (by decide), rd_k (by decide), rd_h, er]
        · rw [rd_h, t1]
      · have l1 : ¬ lett (gI h 117 q) = true := by unfold lett; rw [decide_eq_true_eq]; exact fun z => c3 (blt.mpr z)
        have dc := bdg.mp c4
        have l2 : digi (gI h 117 q) = true := by unfold digi; rw [decide_eq_true_eq]; exact dc
        have nL : ¬ q = L := by omega
        have t1 : te (gI h 117) L p = rn digi (gI h 117) (L - q) q := by unfold te; rw [er, if_neg nL, if_neg l1, if_pos l2]
        have t2 : tk (gI h 117) L p = if 4 < te (gI h 117) L p - q then 5 else 2 := by unfold tk; rw [er, if_neg nL, if_neg l1, if_pos l2]
        rw [bde dc]
        generalize hB : sI (sI (sI h 116 5 (nI q)) 116 4 (-1)) 116 7 (gI h 117 q - 48) = h1
        have FB : Fr [116] h h1 := by rw [← hB]; exact ((Fr.sI (by decide)).tr (Fr.sI (by decide))).tr (Fr.sI (by decide))
        have bz : ∀ z, z ≠ 4 → z ≠ 5 → z ≠ 7 → gI h1 116 z = gI h 116 z := fun z z4 z5 z7 => by rw [← hB]; exact (rd_k z7).trans ((rd_k z4).trans (rd_k z5))
        have b5 : gI h1 116 5 = nI q := by rw [← hB]; exact (rd_k (by decide)).trans ((rd_k (by decide)).trans rd_h)
        have b7 : gI h1 116 7 = gI h 117 q - 48 := by rw [← hB]; exact rd_h
        clear hB
        have wB := FB.wf w
        have e117 : gI h1 117 = gI h 117 := (FB.2.2 117 (by decide)).1
        have sm : L - q = (L - (q + 1)) + 1 := by omega
        refine sc147 (s := q) (L := L) wB hL ((bz 2 (by decide) (by decide) (by decide)).trans h2L) (by omega) (by rw [e117]; exact hb) (fun h3 F3 ez z6 z3 z7 => ?_) (L - (q + 1)) (q + 1) h1 (by omega) (by omega) Fr.rf (fun _ _ _ _ => rfl) (fun _ => ?_) ?_
        · rw [e117, ← t1] at z6 z3 z7
          refine kk h3 (FB.tr F3) (fun z z3 z4 z5 z6 z7 => (ez z z3 z6 z7).trans (bz z z4 z5 z7)) ?_ ?_ z6 (fun z => ?_) (fun z => ?_)
          · rw [z3, t2]
            by_cases d : 4 < te (gI h 117) L p - q
            · rw [if_pos d, if_pos d]; decide
            · rw [if_neg d, if_neg d]; decide
          · rw [ez 5 (by decide) (by decide) (by decide), b5, er]
          · exfalso
            rw [t2] at z
            by_cases d : 4 < te (gI h 117) L p - q
            · rw [if_pos d] at z; exact absurd z (by decide)
            · rw [if_neg d] at z; exact absurd z (by decide)
          · rw [er]
            refine z7 (fun d => ?_)
            rw [t2, if_pos d] at z
            exact absurd z (by decide)
        · rw [b7, e117, show q + 1 - q = 0 + 1 by omega]
          show _ = ((0 : Int32) * 10 + gI h 117 (q + 0)) - 48
          rw [Nat.add_zero, Int32.zero_mul, Int32.zero_add]
        · rw [e117, sm]
          show (if digi (gI h 117 q) = true then rn digi (gI h 117) (L - (q + 1)) (q + 1) else q) = _
          rw [if_pos l2]
      · have lc := blt.mp c3
        have l1 : lett (gI h 117 q) = true := by unfold lett; rw [decide_eq_true_eq]; exact lc
        have nL : ¬ q = L := by omega
        have t1 : te (gI h 117) L p = rn lett (gI h 117) (L - q) q := by unfold te; rw [er, if_neg nL, if_pos l1]
        have t2 : tk (gI h 117) L p = if 8 < te (gI h 117) L p - q then 5 else 1 := by unfold tk; rw [er, if_neg nL, if_pos l1]
        generalize hB : sI (sI h 116 5 (nI q)) 116 4 (-1) = h1
        have FB : Fr [116] h h1 := by rw [← hB]; exact (Fr.sI (by decide)).tr (Fr.sI (by decide))
        have bz : ∀ z, z ≠ 4 → z ≠ 5 → gI h1 116 z = gI h 116 z := fun z z4 z5 => by rw [← hB]; exact (rd_k z4).trans (rd_k z5)
        have b5 : gI h1 116 5 = nI q := by rw [← hB]; exact (rd_k (by decide)).trans rd_h
        clear hB
        have wB := FB.wf w
        have e117 : gI h1 117 = gI h 117 := (FB.2.2 117 (by decide)).1
        refine sc75 (s := q) (L := L) wB hL ((bz 2 (by decide) (by decide)).trans h2L) (by omega) (by rw [e117]; exact hb) (fun h3 F3 ez z6 z3 z4 => ?_) (L - q) q (by omega) (Nat.le_refl q) rfl
        rw [e117, ← t1] at z6 z3 z4
        refine kk h3 (FB.tr F3) (fun z y3 y4 y5 y6 y7 => (ez z y3 y4 y6).trans (bz z y4 y5)) ?_ ?_ z6 (fun z => ?_) (fun z => ?_)
        · rw [z3, t2]
          by_cases d : 8 < te (gI h 117) L p - q
          · rw [if_pos d, if_pos d]; decide
          · rw [if_neg d, if_neg d]; decide
        · rw [ez 5 (by decide) (by decide) (by decide), b5, er]
        · rw [er]
          refine z4 (fun d => ?_)
          rw [t2, if_pos d] at z
          exact absurd z (by decide)
        · exfalso
          rw [t2] at z
          by_cases d : 8 < te (gI h 117) L p - q
          · rw [if_pos d] at z; exact absurd z (by decide)
          · rw [if_neg d] at z; exact absurd z (by decide)
  refine Call.ofR (by decide +kernel) (Nat.le_of_ble_eq_true rfl) (sX12_scan_0 h 116 ⟨o12, ?_⟩)
  rw [h66]
  exact lp (L - p) p (by omega) rfl
