def val (b : Nat → Int32) (L p : Nat) : Int32 := dv b (ts b L p) (te b L p - ts b L p)
theorem dv_c {b b2 : Nat → Int32} {s : Nat} : ∀ {n : Nat}, (∀ i, i < n → b (s + i) = b2 (s + i)) → dv b s n = dv b2 s n
  | 0, _ => rfl
  | n + 1, e => by
    show (dv b s n * 10 + b (s + n)) - 48 = (dv b2 s n * 10 + b2 (s + n)) - 48
    rw [dv_c (fun i hi => e i (by omega)), e n (by omega)]
theorem tok_c {b b2 : Nat → Int32} {L p : Nat} (hp : p ≤ L) (e : ∀ x, x < L → b x = b2 x) : ts b L p = ts b2 L p ∧ te b L p = te b2 L p ∧ tk b L p = tk b2 L p ∧ val b L p = val b2 L p := by
  have t1 : ts b L p = ts b2 L p := rn_c (fun i h1 h2 => e i (by omega))
  have r := ts_rng (b := b2) hp
  have t2 : te b L p = te b2 L p := by
    unfold te
    rw [t1]
    by_cases c : ts b2 L p = L
    · rw [if_pos c, if_pos c]
    · rw [if_neg c, if_neg c, e _ (by omega), rn_c (q := lett) (fun i h1 h2 => e i (by omega)), rn_c (q := digi) (fun i h1 h2 => e i (by omega))]
  have r2 := te_rng (b := b2) hp
  refine ⟨t1, t2, ?_, ?_⟩
  · unfold tk
    rw [t1, t2]
    by_cases c : ts b2 L p = L
    · rw [if_pos c, if_pos c]
    · rw [if_neg c, if_neg c, e _ (by omega)]
  · unfold val
    rw [t1, t2]
    exact dv_c (fun i hi => e _ (by omega))
def rowf (b : Nat → Int32) (L : Nat) (sg : Int32) (mo : Int32) : Nat → Nat → Option (List Int32)
  | 0, p => if tk b L p = 0 then some [] else none
  | c + 1, p => if tk b L p = 0 then some [] else if ¬ sg = 0 ∧ tk b L p = 4 then (if tk b L (te b L p) = 2 ∧ ¬ mo < val b L (te b L p) then (rowf b L sg mo c (te b L (te b L p))).map (fun l => -(val b L (te b L p)) :: l) else none) else if tk b L p = 2 ∧ ¬ mo < val b L p then (rowf b L sg mo c (te b L p)).map (fun l => val b L p :: l) else none
theorem rowf_c {b b2 : Nat → Int32} {L : Nat} {sg mo : Int32} (e : ∀ x, x < L → b x = b2 x) : ∀ {c p : Nat}, p ≤ L → rowf b L sg mo c p = rowf b2 L sg mo c p
  | 0, p, hp => by
    have t := tok_c hp e
    unfold rowf
    rw [t.2.2.1]
  | c + 1, p, hp => by
    have t := tok_c hp e
    have r := te_rng (b := b2) hp
    have t' := tok_c (p := te b2 L p) (by omega) e
    have r' := te_rng (b := b2) (L := L) (p := te b2 L p) (by omega)
    unfold rowf
    rw [t.2.2.1, t.2.1, t.2.2.2, t'.2.2.1, t'.2.1, t'.2.2.2, rowf_c e (c := c) (p := te b2 L (te b2 L p)) (by omega), rowf_c e (c := c) (p := te b2 L p) (by omega)]
theorem rowf_len {b : Nat → Int32} {L : Nat} {sg mo : Int32} : ∀ {c p : Nat} {l : List Int32}, rowf b L sg mo c p = some l → l.length ≤ c
  | 0, p, l, h => by
    unfold rowf at h
    split at h
    · have e : [] = l := Option.some.inj h
      rw [← e]
      exact Nat.le_refl _
    · exact absurd h (by simp)
  | c + 1, p, l, h => by
    have st : ∀ {q : Nat} {f : Int32}, (rowf b L sg mo c q).map (fun l => f :: l) = some l → l.length ≤ c + 1 := fun {q f} hh => by
      obtain ⟨l2, h2, h3⟩ := Option.map_eq_some_iff.mp hh
      have := rowf_len h2
      rw [← h3]
      show l2.length + 1 ≤ c + 1
      omega
    unfold rowf at h
    split at h
    · have e : [] = l := Option.some.inj h
      rw [← e]
      exact Nat.zero_le _
    · split at h
      · split at h
        · exact st h
        · exact absurd h (by simp)
      · split at h
        · exact st h
        · exact absurd h (by simp)
/-- a row holds a list -/
def RL (h : AH) (r : Nat) (l : List Int32) : Prop := ∀ i v, l[i]? = some v → gI h r i = v
theorem RL.push {h h2 : AH} {r : Nat} {l : List Int32} (R : RL h r l) (v : Int32) (e : ∀ i, i ≠ l.length → gI h2 r i = gI h r i) (e2 : gI h2 r l.length = v) : RL h2 r (l ++ [v]) := fun i x hx => by
  rcases Nat.lt_trichotomy i l.length with c | c | c
  · rw [List.getElem?_append_left c] at hx
    rw [e i (by omega)]
    exact R i x hx
  · subst c
    rw [List.getElem?_append_right (Nat.le_refl _), Nat.sub_self] at hx
    have e3 : v = x := Option.some.inj hx
    rw [← e3]
    exact e2
  · rw [List.getElem?_append_right (by omega)] at hx
    have : ([v] : List Int32)[i - l.length]? = none := List.getElem?_eq_none (by simp; omega)
    rw [this] at hx
    exact absurd hx (by simp)
theorem RL.ag {h h2 : AH} {r : Nat} {l : List Int32} (R : RL h r l) (e : gI h2 r = gI h r) : RL h2 r l := fun i v hv => by rw [e]; exact R i v hv
theorem map_app {acc : List Int32} {v : Int32} {o : Option (List Int32)} : (o.map (fun l => v :: l)).map (fun l => acc ++ l) = o.map (fun l => (acc ++ [v]) ++ l) := by
  cases o with
  | none => rfl
  | some l => simp
/-- where a token was read from -/
def At (h : AH) (L p : Nat) (b : Nat → Int32) : Prop := gI h 2 1 = nI (te b L p) ∧ gI h 2 2 = nI L ∧ gI h 2 3 = tk b L p ∧ gI h 2 4 = nI (ts b L p) ∧ (tk b L p = 2 → gI h 2 5 = val b L p)
theorem At.ag {h h2 : AH} {L p : Nat} {b : Nat → Int32} (A : At h L p b) (e : gI h2 2 = gI h 2) : At h2 L p b := by
  unfold At
  rw [e]
  exact A
theorem c9_on {h : AH} {P : Option Value → AH → Prop} (w : Wf h) {L p : Nat} (hL : L ≤ 900) (hp : p ≤ L) (A : At h L p (gI h 3)) (kk : ∀ h3, Fr [2] h h3 → At h3 L (te (gI h 3) L p) (gI h 3) → P none h3) : Call mX9_next [.ref 2] h P := by
  have r := te_rng (b := gI h 3) hp
  exact c9_next w hL A.2.1 r.2 A.1 (fun h3 F e1 e2 e3 e4 e5 => kk h3 F ⟨e1, e2, e3, e4, e5⟩)
theorem tk_cases (b : Nat → Int32) (L p : Nat) : tk b L p = 0 ∨ tk b L p = 1 ∨ tk b L p = 2 ∨ tk b L p = 3 ∨ tk b L p = 4 ∨ tk b L p = 5 := by
  unfold tk
  repeat' split
  all_goals simp
theorem tr_loop {h : AH} {P : Option Value → AH → Prop} (w : Wf h) {L r1 cap p0 : Nat} (hL : L ≤ 900) (hA : isA h 0 r1) (hl : ln r1 = cap) (c24 : cap ≤ 24) (hr2 : r1 ≠ 2) (hr3 : r1 ≠ 3) {mo sg : Int32} (kN : ∀ h3, Fr [2, r1] h h3 → gI h3 2 2 = 0 → rowf (gI h 3) L sg mo cap p0 = none → P (some (.int (-1))) h3) (kS : ∀ h3 l, Fr [2, r1] h h3 → gI h3 2 2 = 0 → rowf (gI h 3) L sg mo cap p0 = some l → RL h3 r1 l → P (some (.int (nI l.length))) h3) : ∀ (c p : Nat) (acc : List Int32) (h2 : AH), acc.length + c = cap → p ≤ L → Fr [2, r1] h h2 → At h2 L p (gI h 3) → RL h2 r1 acc → rowf (gI h 3) L sg mo cap p0 = (rowf (gI h 3) L sg mo c p).map (fun l => acc ++ l) → Rr mX9_takeRow 0 0 14 [(0, .ref 2), (1, .ref r1), (2, .int mo), (3, .int sg), (4, .int (nI acc.length)), (5, .int 1)] [] h2 P := by
  have m2 : (2 : Nat) ∈ [2, r1] := by simp
  have m1 : r1 ∈ [2, r1] := by simp
  have fin : ∀ (acc : List Int32) (p : Nat) (h2 : AH), Fr [2, r1] h h2 → At h2 L p (gI h 3) → RL h2 r1 acc → (tk (gI h 3) L p = 0 → rowf (gI h 3) L sg mo cap p0 = some acc) → (¬ tk (gI h 3) L p = 0 → rowf (gI h 3) L sg mo cap p0 = none) → ∀ z : Int32, z = (if (¬ (1 : Int32) = 0 ∧ gI h2 2 3 = 0) then nI acc.length else (-1)) → P (some (.int z)) (sI h2 2 2 0) := fun acc p h2 F A R e1 e2 z hz => by
    rw [A.2.2.1] at hz
    have F2 : Fr [2, r1] h (sI h2 2 2 0) := F.tr (Fr.sI m2)
    by_cases c : tk (gI h 3) L p = 0
    · rw [if_pos ⟨by decide, c⟩] at hz
      rw [hz]
      refine kS _ acc F2 rd_h (e1 c) (R.ag ?_)
      funext i
      exact rd_r hr2
    · rw [if_neg (fun q => c q.2)] at hz
      rw [hz]
      exact kN _ F2 rd_h (e2 c)
  have bad : ∀ (n : Int32) (h2 : AH), Fr [2, r1] h h2 → rowf (gI h 3) L sg mo cap p0 = none → Rr mX9_takeRow 0 0 14 [(0, .ref 2), (1, .ref r1), (2, .int mo), (3, .int sg), (4, .int n), (5, .int 0)] [] h2 P := fun n h2 F e => by
    refine sX9_takeRow_14 h2 2 r1 _ _ _ _ ⟨fun _ => ⟨(F.wf w).o (by decide) rfl, fun z hz => ?_⟩, fun q => absurd rfl q⟩
    rw [if_neg (fun q => q.1 rfl)] at hz
    rw [hz]
    exact kN _ (F.tr (Fr.sI m2)) rd_h e
  intro c
  induction c with
  | zero =>
    intro p acc h2 hc hp F A R e
    have w2 := F.wf w
    have A2 : isA h2 0 r1 := ⟨by rw [F.1]; exact hA.1, hA.2⟩
    have r0 : rowf (gI h 3) L sg mo 0 p = if tk (gI h 3) L p = 0 then some [] else none := rfl
    rw [r0] at e
    refine sX9_takeRow_14 h2 2 r1 _ _ _ _ ⟨fun q => absurd q (by decide), fun _ => ⟨A2, fun _ => ⟨w2.o (by decide) rfl, fin acc p h2 F A R (fun c => ?_) (fun c => ?_)⟩, fun q => absurd ?_ q⟩⟩
    · rw [e, if_pos c]
      show some (acc ++ []) = some acc
      rw [List.append_nil]
    · rw [e, if_neg c]
      rfl
    · show nI (ln r1) ≤ nI acc.length
      rw [hl, nI_leI (by omega) (by omega)]
      omega
  | succ c ih =>
    intro p acc h2 hc hp F A R e
    have w2 := F.wf w
    have A2 : isA h2 0 r1 := ⟨by rw [F.1]; exact hA.1, hA.2⟩
    have r0 : rowf (gI h 3) L sg mo (c + 1) p = if tk (gI h 3) L p = 0 then some [] else if ¬ sg = 0 ∧ tk (gI h 3) L p = 4 then (if tk (gI h 3) L (te (gI h 3) L p) = 2 ∧ ¬ mo < val (gI h 3) L (te (gI h 3) L p) then (rowf (gI h 3) L sg mo c (te (gI h 3) L (te (gI h 3) L p))).map (fun l => -(val (gI h 3) L (te (gI h 3) L p)) :: l) else none) else if tk (gI h 3) L p = 2 ∧ ¬ mo < val (gI h 3) L p then (rowf (gI h 3) L sg mo c (te (gI h 3) L p)).map (fun l => val (gI h 3) L p :: l) else none := rfl
    rw [r0] at e
    have b3 : ∀ {h4 : AH}, Fr [2, r1] h h4 → gI h4 3 = gI h 3 := fun {h4} F4 => (F4.2.2 3 (by simp; exact fun z => hr3 z.symm)).1
    have vl : vp_in (nI acc.length) (ln r1) := by rw [hl]; exact vp_in_nI (by omega) (by omega)
    have tr := te_rng (b := gI h 3) hp
    refine sX9_takeRow_14 h2 2 r1 _ _ _ _ ⟨fun q => absurd q (by decide), fun _ => ⟨A2, fun q => absurd q ?_, fun _ => ⟨w2.o (by decide) rfl, fun k0 => fin acc p h2 F A R (fun c => ?_) (fun c => absurd ?_ c), fun k0 => ⟨fun km => ?_, fun km => ?_⟩⟩⟩⟩
    · show ¬ nI (ln r1) ≤ nI acc.length
      rw [hl, nI_leI (by omega) (by omega)]
      omega
    · rw [e, if_pos c]
      show some (acc ++ []) = some acc
      rw [List.append_nil]
    · rw [← A.2.2.1]; exact k0
    · -- a plain number
      rw [A.2.2.1] at k0 km ⊢
      rw [if_neg k0, if_neg km] at e
      intro z26 h26
      rw [if_neg km] at h26
      refine ⟨vl, ?_⟩
      rw [nI_clamp (by omega), nI_1]
      have F3 : Fr [2, r1] h (sI h2 r1 acc.length z26) := F.tr (Fr.sI m1)
      have w3 := F3.wf w
      have A3 : At (sI h2 r1 acc.length z26) L p (gI (sI h2 r1 acc.length z26) 3) := by
        rw [b3 F3]
        refine A.ag ?_
        funext i
        exact rd_r (fun q => hr2 q.symm)
      refine c9_on w3 hL hp A3 (fun h4 F4 A4 => ⟨rfl, ?_⟩)
      rw [b3 F3] at A4
      have G4 : Fr [2, r1] h h4 := F3.tr (F4.up (fun r hr => by rw [List.mem_singleton.mp hr]; exact m2))
      have R4 : RL h4 r1 (acc ++ [z26]) := R.push z26 (fun i hi => by rw [F4.I (by simp; exact hr2), rd_k hi]) (by rw [F4.I (by simp; exact hr2), rd_h])
      by_cases g : tk (gI h 3) L p = 2 ∧ ¬ mo < gI h2 2 5
      · have eb : bi (tk (gI h 3) L p = 2 ∧ ¬ mo < gI h2 2 5) = 1 := if_pos g
        have ev : z26 = val (gI h 3) L p := h26.trans (A.2.2.2.2 g.1)
        have g2 : tk (gI h 3) L p = 2 ∧ ¬ mo < val (gI h 3) L p := ⟨g.1, by rw [← A.2.2.2.2 g.1]; exact g.2⟩
        rw [eb]
        rw [if_pos g2, map_app, ← ev] at e
        have go := ih (te (gI h 3) L p) (acc ++ [z26]) h4 (by rw [List.length_append]; show acc.length + 1 + c = cap; omega) tr.2 G4 A4 R4 e
        rw [List.length_append] at go
        exact go
      · have eb : bi (tk (gI h 3) L p = 2 ∧ ¬ mo < gI h2 2 5) = 0 := if_neg g
        rw [eb]
        rw [if_neg (fun z => g ⟨z.1, by rw [A.2.2.2.2 z.1]; exact z.2⟩)] at e
        exact bad _ h4 G4 e
    · -- a minus ahead
      rw [A.2.2.1] at k0 km ⊢
      rw [if_neg k0, if_pos km] at e
      have A2' : At h2 L p (gI h2 3) := by rw [b3 F]; exact A
      refine c9_on w2 hL hp A2' (fun h3 F3 A3 => ⟨rfl, (F3.wf w2).o (by decide) rfl, ?_⟩)
      rw [b3 F] at A3
      have G3 : Fr [2, r1] h h3 := F.tr (F3.up (fun r hr => by rw [List.mem_singleton.mp hr]; exact m2))
      have w3 := G3.wf w
      have tr' := te_rng (b := gI h 3) (L := L) (p := te (gI h 3) L p) tr.2
      intro z34 h34
      rw [if_pos km] at h34
      refine ⟨⟨by rw [G3.1]; exact hA.1, hA.2⟩, vl, ?_⟩
      rw [nI_clamp (by omega), nI_1, A3.2.2.1]
      have F5 : Fr [2, r1] h (sI h3 r1 acc.length z34) := G3.tr (Fr.sI m1)
      have w5 := F5.wf w
      have A5 : At (sI h3 r1 acc.length z34) L (te (gI h 3) L p) (gI (sI h3 r1 acc.length z34) 3) := by
        rw [b3 F5]
        refine A3.ag ?_
        funext i
        exact rd_r (fun q => hr2 q.symm)
      refine c9_on w5 hL tr.2 A5 (fun h4 F4 A4 => ⟨rfl, ?_⟩)
      rw [b3 F5] at A4
      have G4 : Fr [2, r1] h h4 := F5.tr (F4.up (fun r hr => by rw [List.mem_singleton.mp hr]; exact m2))
      have R4 : RL h4 r1 (acc ++ [z34]) := (R.ag (F3.2.2 r1 (by simp; exact hr2)).1).push z34 (fun i hi => by rw [F4.I (by simp; exact hr2), rd_k hi]) (by rw [F4.I (by simp; exact hr2), rd_h])
      by_cases g : tk (gI h 3) L (te (gI h 3) L p) = 2 ∧ ¬ mo < gI h3 2 5
      · have eb : bi (tk (gI h 3) L (te (gI h 3) L p) = 2 ∧ ¬ mo < gI h3 2 5) = 1 := if_pos g
        have ev : z34 = -(val (gI h 3) L (te (gI h 3) L p)) := by rw [h34, A3.2.2.2.2 g.1]
        have g2 : tk (gI h 3) L (te (gI h 3) L p) = 2 ∧ ¬ mo < val (gI h 3) L (te (gI h 3) L p) := ⟨g.1, by rw [← A3.2.2.2.2 g.1]; exact g.2⟩
        rw [eb]
        rw [if_pos g2, map_app, ← ev] at e
        have go := ih (te (gI h 3) L (te (gI h 3) L p)) (acc ++ [z34]) h4 (by rw [List.length_append]; show acc.length + 1 + c = cap; omega) tr'.2 G4 A4 R4 e
        rw [List.length_append] at go
        exact go
      · have eb : bi (tk (gI h 3) L (te (gI h 3) L p) = 2 ∧ ¬ mo < gI h3 2 5) = 0 := if_neg g
        rw [eb]
        rw [if_neg (fun z => g ⟨z.1, by rw [A3.2.2.2.2 z.1]; exact z.2⟩)] at e
        exact bad _ h4 G4 e
theorem c9_row {h : AH} {P : Option Value → AH → Prop} (w : Wf h) {L r1 cap : Nat} (hL : L ≤ 900) (h2L : gI h 2 2 = nI L) (hA : isA h 0 r1) (hl : ln r1 = cap) (c24 : cap ≤ 24) (hr2 : r1 ≠ 2) (hr3 : r1 ≠ 3) {mo sg : Int32} (kN : ∀ h3, Fr [2, r1] h h3 → gI h3 2 2 = 0 → rowf (gI h 3) L sg mo cap 0 = none → P (some (.int (-1))) h3) (kS : ∀ h3 l, Fr [2, r1] h h3 → gI h3 2 2 = 0 → rowf (gI h 3) L sg mo cap 0 = some l → RL h3 r1 l → P (some (.int (nI l.length))) h3) : Call mX9_takeRow [.ref 2, .ref r1, .int mo, .int sg] h P := by
  refine Call.ofR (by decide +kernel) (Nat.le_of_ble_eq_true rfl) (sX9_takeRow_0 h 2 r1 _ _ ⟨w.o (by decide) rfl, ?_⟩)
  have F1 : Fr [2] h (sI h 2 1 0) := Fr.sI (by decide)
  refine c9_next (p := 0) (F1.wf w) hL ((rd_k (by decide)).trans h2L) (Nat.zero_le L) rd_h (fun h3 F e1 e2 e3 e4 e5 => ⟨rfl, ?_⟩)
  refine tr_loop (p0 := 0) w hL hA hl c24 hr2 hr3 kN kS cap 0 [] h3 (Nat.zero_add cap) (Nat.zero_le L) ((F1.tr F).up (fun r hr => by rw [List.mem_singleton.mp hr]; simp)) ⟨e1, e2, e3, e4, e5⟩ (fun i v hv => absurd hv (by simp)) ?_
  cases rowf (gI h 3) L sg mo cap 0 with
  | none => rfl
  | some l => rfl
