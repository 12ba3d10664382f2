/-! the reference's tokens -/
def MAt (h : AH) (L p : Nat) (b : Nat → Int32) : Prop := gI h 116 2 = nI L ∧ gI h 116 3 = ms (tk b L p) ∧ gI h 116 5 = nI (ts b L p) ∧ gI h 116 6 = nI (te b L p) ∧ (tk b L p = 1 → kyf (fun i => b (ts b L p + i)) (te b L p - ts b L p) 14 0 (gI h 116 4)) ∧ (tk b L p = 2 → gI h 116 7 = val b L p)
theorem MAt.ag {h h2 : AH} {L p : Nat} {b : Nat → Int32} (A : MAt h L p b) (e : gI h2 116 = gI h 116) : MAt h2 L p b := by
  unfold MAt
  rw [e]
  exact A
def ByOK (h : AH) (L : Nat) : Prop := ∀ x, x < L → inr (gI h 117 x) (-128) 127
theorem c12_on {h : AH} {P : Option Value → AH → Prop} (w : Wf h) {L p : Nat} (hL : L ≤ 900) (hp : p ≤ L) (A : MAt h L p (gI h 117)) (hb : ByOK h L) (kk : ∀ h3, Fr [116] h h3 → (∀ z, z ≠ 3 → z ≠ 4 → z ≠ 5 → z ≠ 6 → z ≠ 7 → gI h3 116 z = gI h 116 z) → MAt h3 L (te (gI h 117) L p) (gI h 117) → P none h3) : Call mX12_scan [.ref 116] h P := by
  have r := te_rng (b := gI h 117) hp
  exact c12_scan w hL A.1 r.2 A.2.2.2.1 hb (fun h3 F ez e3 e5 e6 e4 e7 => kk h3 F ez ⟨(ez 2 (by decide) (by decide) (by decide) (by decide) (by decide)).trans A.1, e3, e5, e6, e4, e7⟩)
theorem c12_start {h : AH} {P : Option Value → AH → Prop} (w : Wf h) {L : Nat} (hL : L ≤ 900) (h1L : gI h 116 1 = nI L) (hb : ByOK h L) (kk : ∀ h3, Fr [116] h h3 → gI h3 116 1 = 0 → (∀ z, 8 ≤ z → gI h3 116 z = gI h 116 z) → MAt h3 L 0 (gI h 117) → P none h3) : Call mX12_start [.ref 116] h P := by
  refine Call.ofR (by decide +kernel) (Nat.le_of_ble_eq_true rfl) (sX12_start_0 h 116 ⟨w.o (by decide) rfl, ?_⟩)
  rw [h1L]
  have F1 : Fr [116] h (sI (sI (sI h 116 2 (nI L)) 116 1 0) 116 6 0) := ((Fr.sI (by decide)).tr (Fr.sI (by decide))).tr (Fr.sI (by decide))
  refine c12_scan (p := 0) (F1.wf w) hL ((rd_k (by decide)).trans ((rd_k (by decide)).trans rd_h)) (Nat.zero_le L) rd_h hb (fun h3 F ez e3 e5 e6 e4 e7 => ⟨rfl, ?_⟩)
  refine kk h3 (F1.tr F) ?_ (fun z hz => ?_) ⟨(ez 2 (by decide) (by decide) (by decide) (by decide) (by decide)).trans ((rd_k (by decide)).trans ((rd_k (by decide)).trans rd_h)), e3, e5, e6, e4, e7⟩
  · rw [ez 1 (by decide) (by decide) (by decide) (by decide) (by decide), rd_k (by decide), rd_h]
  · rw [ez z (by omega) (by omega) (by omega) (by omega) (by omega), rd_k (by omega), rd_k (by omega), rd_k (by omega)]
theorem ms_2 (b : Nat → Int32) (L p : Nat) : (ms (tk b L p) = 2 ↔ tk b L p = 2) ∧ (ms (tk b L p) = 4 ↔ tk b L p = 4) ∧ (ms (tk b L p) = 5 ↔ tk b L p = 0) ∧ (ms (tk b L p) = 1 ↔ tk b L p = 1) ∧ (ms (tk b L p) = 3 ↔ tk b L p = 3) := by
  rcases tk_cases b L p with e | e | e | e | e | e <;> rw [e] <;> decide
/-- what scanning leaves of the reference -/
def SK (h h2 : AH) (r : Nat) : Prop := Fr [116, r] h h2 ∧ gI h2 116 1 = gI h 116 1 ∧ ∀ z, 8 ≤ z → gI h2 116 z = gI h 116 z
theorem ca19 {h : AH} {P : Option Value → AH → Prop} (w : Wf h) {L p0 : Nat} (hL : L ≤ 900) (hb : ByOK h L) {e : Int32} (kN : ∀ h3, SK h h3 145 → rowf (gI h 117) L 1 999 24 p0 = none → P (some (.int (-1))) h3) (kS : ∀ h3 l, SK h h3 145 → rowf (gI h 117) L 1 999 24 p0 = some l → RL h3 145 l → (¬ nI l.length = 0 → Call mX12_isLevel [.ref 116, .int 0, .int (nI l.length), .int 0, .int e] h3 (fun v h26 => ∃ z27 : Int32, v = some (.int z27) ∧ ((z27 = 0 → Rr mX12_causes 0 0 147 [(0, .ref 116), (1, .int e), (2, .int (nI l.length)), (3, .int 0), (4, .int 1)] [] h26 P) ∧ (¬ z27 = 0 → P (some (.int 1)) h26)))) ∧ (nI l.length = 0 → P (some (.int (-1))) h3)) : ∀ (c p : Nat) (acc : List Int32) (h2 : AH), acc.length + c = 24 → p ≤ L → SK h h2 145 → MAt h2 L p (gI h 117) → RL h2 145 acc → rowf (gI h 117) L 1 999 24 p0 = (rowf (gI h 117) L 1 999 c p).map (fun l => acc ++ l) → Rr mX12_causes 0 0 19 [(0, .ref 116), (1, .int e), (2, .int (nI acc.length))] [] h2 P := by
  intro c
  induction c with
  | zero =>
    intro p acc h2 hc hp S A R er
    have w2 := S.1.wf w
    have e24 : nI acc.length = 24 := by rw [show acc.length = 24 by omega]; rfl
    have r0 : rowf (gI h 117) L 1 999 0 p = if tk (gI h 117) L p = 0 then some [] else none := rfl
    rw [r0] at er
    obtain ⟨m2, m4, m5, -, -⟩ := ms_2 (gI h 117) L p
    refine sX12_causes_19 h2 116 _ _ ?_
    rw [A.2.1]
    have nn : ¬ tk (gI h 117) L p = 0 → rowf (gI h 117) L 1 999 24 p0 = none := fun z => by rw [er, if_neg z]; rfl
    have b7 : ∀ {h4 : AH}, SK h h4 145 → gI h4 117 = gI h 117 := fun {h4} S4 => (S4.1.2.2 117 (by decide)).1
    have mn : tk (gI h 117) L p = 4 → Call mX12_scan [.ref 116] h2 (fun v h13 => v = none ∧ ((isO h13 12 116) ∧ ((¬ (gI h13 116 3) = 2 → P (some (.int (-1))) h13) ∧ ((gI h13 116 3) = 2 → (999 < (gI h13 116 7) → P (some (.int (-1))) h13) ∧ (¬ 999 < (gI h13 116 7) → (¬ nI acc.length = 24 → ∀ z19 : Int32, z19 = (if (ms (tk (gI h 117) L p) = 4) then (-(gI h13 116 7)) else (gI h13 116 7)) → ((isA h13 0 (gF h13 116 53)) ∧ ((vp_in (nI acc.length) (ln (gF h13 116 53))) ∧ (Call mX12_scan [.ref 116] (sI h13 (gF h13 116 53) (nI acc.length).toNatClampNeg z19) (fun v h22 => v = none ∧ (Rr mX12_causes 0 0 19 [(0, .ref 116), (1, .int e), (2, .int (nI acc.length + 1))] [] h22 P)))))) ∧ (nI acc.length = 24 → P (some (.int (-1))) h13)))))) := fun t4 => by
      refine c12_on w2 hL hp (by rw [b7 S]; exact A) (fun x hx => by rw [b7 S]; exact hb x hx) (fun h3 F3 ez A3 => ⟨rfl, (F3.wf w2).o (by decide) rfl, ?_⟩)
      have S3 : SK h h3 145 := ⟨S.1.tr (F3.sub (by decide)), (ez 1 (by decide) (by decide) (by decide) (by decide) (by decide)).trans S.2.1, fun z hz => (ez z (by omega) (by omega) (by omega) (by omega) (by omega)).trans (S.2.2 z hz)⟩
      have none3 := kN h3 S3 (nn (by rw [t4]; decide))
      exact ⟨fun _ => none3, fun _ => ⟨fun _ => none3, fun _ => ⟨fun q => absurd e24 q, fun _ => none3⟩⟩⟩
    refine ⟨w2.o (by decide) rfl, fun c2 => ⟨fun _ => ⟨fun q => absurd c2 q, fun _ => ?_⟩, fun c4 => ?_⟩, fun c2 => ⟨fun c4 => ⟨fun c5 => ?_, fun c5 => ?_⟩, fun c4 => ⟨fun q => absurd c4 q, fun _ => mn (m4.mp c4)⟩⟩⟩
    · have n2 := kN h2 S (nn (by rw [m2.mp c2]; decide))
      exact ⟨fun _ => n2, fun _ => ⟨fun q => absurd e24 q, fun _ => n2⟩⟩
    · rw [c2] at c4
      exact absurd c4 (by decide)
    · exact kN h2 S (nn (fun z => c5 (m5.mpr z)))
    · have t0 := m5.mp c5
      rw [if_pos t0] at er
      have er2 : rowf (gI h 117) L 1 999 24 p0 = some acc := by
        rw [er]
        show some (acc ++ []) = some acc
        rw [List.append_nil]
      exact kS h2 acc S er2 R
  | succ c ih =>
    intro p acc h2 hc hp S A R er
    have w2 := S.1.wf w
    have e24 : ¬ nI acc.length = 24 := by
      rw [show (24 : Int32) = nI 24 from rfl, nI_eq (by omega) (by decide)]
      omega
    have r0 : rowf (gI h 117) L 1 999 (c + 1) p = if tk (gI h 117) L p = 0 then some [] else if ¬ (1 : Int32) = 0 ∧ tk (gI h 117) L p = 4 then (if tk (gI h 117) L (te (gI h 117) L p) = 2 ∧ ¬ 999 < val (gI h 117) L (te (gI h 117) L p) then (rowf (gI h 117) L 1 999 c (te (gI h 117) L (te (gI h 117) L p))).map (fun l => -(val (gI h 117) L (te (gI h 117) L p)) :: l) else none) else if tk (gI h 117) L p = 2 ∧ ¬ 999 < val (gI h 117) L p then (rowf (gI h 117) L 1 999 c (te (gI h 117) L p)).map (fun l => val (gI h 117) L p :: l) else none := rfl
    rw [r0] at er
    obtain ⟨m2, m4, m5, -, -⟩ := ms_2 (gI h 117) L p
    have b7 : ∀ {h4 : AH}, SK h h4 145 → gI h4 117 = gI h 117 := fun {h4} S4 => (S4.1.2.2 117 (by decide)).1
    have tr := te_rng (b := gI h 117) hp
    have vl : vp_in (nI acc.length) 24 := vp_in_nI (by omega) (by decide)
    -- a number put into the row, and on
    have put : ∀ (h3 : AH) (p' : Nat) (z : Int32), SK h h3 145 → p' ≤ L → MAt h3 L p' (gI h 117) → RL h3 145 acc → rowf (gI h 117) L 1 999 24 p0 = (rowf (gI h 117) L 1 999 c (te (gI h 117) L p')).map (fun l => (acc ++ [z]) ++ l) → Call mX12_scan [.ref 116] (sI h3 145 acc.length z) (fun v h12 => v = none ∧ (Rr mX12_causes 0 0 19 [(0, .ref 116), (1, .int e), (2, .int (nI acc.length + 1))] [] h12 P)) := fun h3 p' z S3 hp' A3 R3 e3 => by
      have F4 : Fr [145] h3 (sI h3 145 acc.length z) := Fr.sI (by decide)
      have S4 : SK h (sI h3 145 acc.length z) 145 := ⟨S3.1.tr (F4.sub (by decide)), (F4.I (by decide) 1).trans S3.2.1, fun x hx => (F4.I (by decide) x).trans (S3.2.2 x hx)⟩
      have tr' := te_rng (b := gI h 117) hp'
      refine c12_on (S4.1.wf w) hL hp' (by rw [b7 S4]; exact A3.ag (F4.2.2 116 (by decide)).1) (fun x hx => by rw [b7 S4]; exact hb x hx) (fun h5 F5 ez A5 => ⟨rfl, ?_⟩)
      rw [b7 S4] at A5
      have S5 : SK h h5 145 := ⟨S4.1.tr (F5.sub (by decide)), (ez 1 (by decide) (by decide) (by decide) (by decide) (by decide)).trans S4.2.1, fun x hx => (ez x (by omega) (by omega) (by omega) (by omega) (by omega)).trans (S4.2.2 x hx)⟩
      have R5 : RL h5 145 (acc ++ [z]) := R3.push z (fun i hi => by rw [F5.I (by decide), rd_k hi]) (by rw [F5.I (by decide), rd_h])
      have go := ih (te (gI h 117) L p') (acc ++ [z]) h5 (by rw [List.length_append]; show acc.length + 1 + c = 24; omega) tr'.2 S5 A5 R5 e3
      rw [List.length_append] at go
      rw [nI_1]
      exact go
    refine sX12_causes_19 h2 116 _ _ ?_
    rw [A.2.1]
    refine ⟨w2.o (by decide) rfl, fun c2 => ⟨fun _ => ⟨fun q => absurd c2 q, fun _ => ?_⟩, fun c4 => ?_⟩, fun c2 => ⟨fun c4 => ⟨fun c5 => ?_, fun c5 => ?_⟩, fun c4 => ⟨fun q => absurd c4 q, fun _ => ?_⟩⟩⟩
    · have t2 := m2.mp c2
      have v7 := A.2.2.2.2.2 t2
      rw [if_neg (by rw [t2]; decide), if_neg (by rw [t2]; decide)] at er
      rw [v7]
      refine ⟨fun q => kN h2 S ?_, fun q => ⟨fun _ z9 h9 => ?_, fun q2 => absurd q2 e24⟩⟩
      · rw [er, if_neg (fun z => z.2 q)]
        rfl
      · rw [if_neg (by rw [c2]; decide)] at h9
        rw [w2.f116_53, nI_clamp (by omega)]
        refine ⟨w2.a (by decide) rfl, vl, put h2 p z9 S hp A R ?_⟩
        rw [er, if_pos ⟨t2, q⟩, map_app, h9]
    · rw [c2] at c4
      exact absurd c4 (by decide)
    · have n0 : ¬ tk (gI h 117) L p = 0 := fun z => c5 (m5.mpr z)
      have n4 : ¬ tk (gI h 117) L p = 4 := fun z => c4 (m4.mpr z)
      have n2 : ¬ tk (gI h 117) L p = 2 := fun z => c2 (m2.mpr z)
      refine kN h2 S ?_
      rw [er, if_neg n0, if_neg (fun z => n4 z.2), if_neg (fun z => n2 z.1)]
      rfl
    · rw [if_pos (m5.mp c5)] at er
      have er2 : rowf (gI h 117) L 1 999 24 p0 = some acc := by
        rw [er]
        show some (acc ++ []) = some acc
        rw [List.append_nil]
      exact kS h2 acc S er2 R
    · have t4 := m4.mp c4
      rw [if_neg (by rw [t4]; decide), if_pos ⟨by decide, t4⟩] at er
      refine c12_on w2 hL hp (by rw [b7 S]; exact A) (fun x hx => by rw [b7 S]; exact hb x hx) (fun h3 F3 ez A3 => ⟨rfl, (F3.wf w2).o (by decide) rfl, ?_⟩)
      rw [b7 S] at A3
      have S3 : SK h h3 145 := ⟨S.1.tr (F3.sub (by decide)), (ez 1 (by decide) (by decide) (by decide) (by decide) (by decide)).trans S.2.1, fun z hz => (ez z (by omega) (by omega) (by omega) (by omega) (by omega)).trans (S.2.2 z hz)⟩
      obtain ⟨n2, -, -, -, -⟩ := ms_2 (gI h 117) L (te (gI h 117) L p)
      rw [A3.2.1]
      refine ⟨fun q => kN h3 S3 ?_, fun q => ?_⟩
      · rw [er, if_neg (fun z => q (n2.mpr z.1))]
        rfl
      · have t2 := n2.mp q
        rw [A3.2.2.2.2.2 t2]
        refine ⟨fun q2 => kN h3 S3 ?_, fun q2 => ⟨fun _ z19 h19 => ?_, fun q3 => absurd q3 e24⟩⟩
        · rw [er, if_neg (fun z => z.2 q2)]
          rfl
        · rw [if_pos c4] at h19
          have w3 := S3.1.wf w
          rw [w3.f116_53, nI_clamp (by omega)]
          refine ⟨w3.a (by decide) rfl, vl, put h3 (te (gI h 117) L p) z19 S3 tr.2 A3 (R.ag (F3.2.2 145 (by decide)).1) ?_⟩
          rw [er, if_pos ⟨t2, q2⟩, map_app, h19]
