/-! FIT: what was known, gathered -/
abbrev Qd : Type := Int32 × Int32 × Int32 × Int32
def lr (of st : Nat → Int32) (k known : Int32) : Nat → Int32
  | 0 => -1
  | i + 1 => if of i = k then (if known < st i then lr of st k known i else nI i) else lr of st k known i
theorem lr_rng (of st : Nat → Int32) (k known : Int32) : ∀ R, lr of st k known R = -1 ∨ ∃ i, i < R ∧ lr of st k known R = nI i
  | 0 => Or.inl rfl
  | R + 1 => by
    have up : ∀ z : Int32, (z = -1 ∨ ∃ i, i < R ∧ z = nI i) → (z = -1 ∨ ∃ i, i < R + 1 ∧ z = nI i) := fun z hz => hz.elim Or.inl (fun ⟨i, hi, e⟩ => Or.inr ⟨i, by omega, e⟩)
    show (if of R = k then (if known < st R then lr of st k known R else nI R) else lr of st k known R) = -1 ∨ ∃ i, i < R + 1 ∧ (if of R = k then (if known < st R then lr of st k known R else nI R) else lr of st k known R) = nI i
    split
    · split
      · exact up _ (lr_rng of st k known R)
      · exact Or.inr ⟨R, by omega, rfl⟩
    · exact up _ (lr_rng of st k known R)
theorem lr_c {of of2 st st2 : Nat → Int32} {k known : Int32} : ∀ {R : Nat}, (∀ i, i < R → of i = of2 i ∧ st i = st2 i) → lr of st k known R = lr of2 st2 k known R
  | 0, _ => rfl
  | R + 1, e => by
    show (if of R = k then (if known < st R then lr of st k known R else nI R) else lr of st k known R) = (if of2 R = k then (if known < st2 R then lr of2 st2 k known R else nI R) else lr of2 st2 k known R)
    rw [(e R (by omega)).1, (e R (by omega)).2, lr_c (fun i hi => e i (by omega))]
def kn (base ra : Nat → Int32) (z : Int32) (k : Nat) : Int32 := if z = -1 then base k else ra z.toNatClampNeg
/-- what the readings tell: tables of a heap -/
def Tb : Type := (Nat → Int32) × (Nat → Int32) × (Nat → Int32) × (Nat → Int32) × (Nat → Int32) × (Nat → Int32) × (Nat → Int32) × (Nat → Int32) × (Nat → Int32) × (Nat → Int32) × (Nat → Int32)
def quad (mx my mk ac up of st ra ru : Nat → Int32) (known : Int32) (R k : Nat) : Qd := (mx (mk k).toNatClampNeg, my (mk k).toNatClampNeg, kn ac ra (lr of st (nI k) known R) k, kn up ru (lr of st (nI k) known R) k)
def sel (td ik : Nat → Int32) (ink known : Int32) (k : Nat) : Bool := decide (ik k = ink ∧ ¬ known < td k)
def qsl (td ik mx my mk ac up of st ra ru : Nat → Int32) (ink known : Int32) (R n : Nat) : List Qd := ((List.range' 0 n).filter (sel td ik ink known)).map (quad mx my mk ac up of st ra ru known R)
theorem rng_succ (n : Nat) : List.range' 0 (n + 1) = List.range' 0 n ++ [n] := by
  rw [List.range'_concat]
  simp
theorem qsl_succ (td ik mx my mk ac up of st ra ru : Nat → Int32) (ink known : Int32) (R n : Nat) : qsl td ik mx my mk ac up of st ra ru ink known R (n + 1) = if sel td ik ink known n = true then qsl td ik mx my mk ac up of st ra ru ink known R n ++ [quad mx my mk ac up of st ra ru known R n] else qsl td ik mx my mk ac up of st ra ru ink known R n := by
  unfold qsl
  rw [rng_succ, List.filter_append, List.map_append]
  by_cases c : sel td ik ink known n = true
  · rw [if_pos c, List.filter_cons_of_pos c]
    rfl
  · rw [if_neg c, List.filter_cons_of_neg c, List.filter_nil, List.map_nil, List.append_nil]
theorem qsl_len (td ik mx my mk ac up of st ra ru : Nat → Int32) (ink known : Int32) (R n : Nat) : (qsl td ik mx my mk ac up of st ra ru ink known R n).length ≤ n := by
  unfold qsl
  rw [List.length_map]
  refine Nat.le_trans (List.length_filter_le _ _) ?_
  rw [List.length_range']
  exact Nat.le_refl _
/-- four rows from cell r on hold the list -/
def QR (h : AH) (r : Nat) (L : List Qd) : Prop := ∀ i q, L[i]? = some q → gI h r i = q.1 ∧ gI h (r + 1) i = q.2.1 ∧ gI h (r + 2) i = q.2.2.1 ∧ gI h (r + 3) i = q.2.2.2
theorem QR.ag {h h2 : AH} {r : Nat} {L : List Qd} (Q : QR h r L) (e : gI h2 r = gI h r ∧ gI h2 (r + 1) = gI h (r + 1) ∧ gI h2 (r + 2) = gI h (r + 2) ∧ gI h2 (r + 3) = gI h (r + 3)) : QR h2 r L := fun i q hq => by
  rw [e.1, e.2.1, e.2.2.1, e.2.2.2]
  exact Q i q hq
theorem QR.push {h h2 : AH} {r : Nat} {L : List Qd} (Q : QR h r L) (q : Qd) (e : ∀ i, i ≠ L.length → gI h2 r i = gI h r i ∧ gI h2 (r + 1) i = gI h (r + 1) i ∧ gI h2 (r + 2) i = gI h (r + 2) i ∧ gI h2 (r + 3) i = gI h (r + 3) i) (e2 : gI h2 r L.length = q.1 ∧ gI h2 (r + 1) L.length = q.2.1 ∧ gI h2 (r + 2) L.length = q.2.2.1 ∧ gI h2 (r + 3) L.length = q.2.2.2) : QR h2 r (L ++ [q]) := fun i p hp => by
  rcases Nat.lt_trichotomy i L.length with c | c | c
  · rw [List.getElem?_append_left c] at hp
    obtain ⟨a1, a2, a3, a4⟩ := e i (by omega)
    rw [a1, a2, a3, a4]
    exact Q i p hp
  · subst c
    rw [List.getElem?_append_right (Nat.le_refl _), Nat.sub_self] at hp
    have e : q = p := Option.some.inj hp
    rw [← e]
    exact e2
  · rw [List.getElem?_append_right (by omega)] at hp
    have : ([q] : List Qd)[i - L.length]? = none := List.getElem?_eq_none (by simp; omega)
    rw [this] at hp
    exact absurd hp (by simp)
theorem lr_loop {h : AH} {P : Option Value → AH → Prop} (w : Wf h) {x1 x2 : Int32} {R : Nat} (hR : gI h 42 1 = nI R) (R20 : R ≤ 20) (k : P (some (.int (lr (gI h 48) (gI h 49) x1 x2 R))) h) : ∀ (m i : Nat), i + m = R → Rr mX7_lastRight 0 0 5 [(0, .ref 42), (1, .int x1), (2, .int x2), (3, .int (lr (gI h 48) (gI h 49) x1 x2 i)), (4, .int (nI i))] [] h P
  | 0, i, hi => by
    have e : i = R := by omega
    subst e
    refine sX7_lastRight_5 h 42 _ _ _ _ ⟨w.o (by decide) rfl, fun _ => k, fun q => absurd ?_ q⟩
    rw [hR]
    exact Int32.le_refl _
  | m + 1, i, hi => by
    refine sX7_lastRight_5 h 42 _ _ _ _ ⟨w.o (by decide) rfl, fun q => absurd q ?_, fun _ => ?_⟩
    · rw [hR, nI_leI (by omega) (by omega)]
      omega
    have v : vp_in (nI i) 20 := vp_in_nI (by omega) (by decide)
    rw [w.f42_8, w.f42_9, nI_clamp (by omega), nI_1]
    refine ⟨w.a (by decide) rfl, v, w.a (by decide) rfl, fun _ => v, fun z9 h9 => ?_⟩
    have e : z9 = lr (gI h 48) (gI h 49) x1 x2 (i + 1) := h9
    rw [e]
    exact lr_loop w hR R20 k m (i + 1) (by omega)
theorem c7_last {h : AH} {P : Option Value → AH → Prop} (w : Wf h) {x1 x2 : Int32} {R : Nat} (hR : gI h 42 1 = nI R) (R20 : R ≤ 20) (k : P (some (.int (lr (gI h 48) (gI h 49) x1 x2 R))) h) : Call mX7_lastRight [.ref 42, .int x1, .int x2] h P :=
  Call.ofR (by decide +kernel) (Nat.le_of_ble_eq_true rfl) (sX7_lastRight_0 h 42 x1 x2 (lr_loop w hR R20 k R 0 (Nat.zero_add R)))
theorem c7_across {h : AH} {P : Option Value → AH → Prop} (w : Wf h) {x2 : Int32} {R k : Nat} (hR : gI h 42 1 = nI R) (R20 : R ≤ 20) (k24 : k < 24) (kk : P (some (.int (kn (gI h 46) (gI h 50) (lr (gI h 48) (gI h 49) (nI k) x2 R) k))) h) : Call mX7_acrossKnown [.ref 42, .int (nI k), .int x2] h P := by
  refine Call.ofR (by decide +kernel) (Nat.le_of_ble_eq_true rfl) (sX7_acrossKnown_0 h 42 _ _ ⟨w.o (by decide) rfl, c7_last w hR R20 ⟨_, rfl, w.o (by decide) rfl, ?_⟩⟩)
  rw [w.f42_10, w.f42_6, nI_clamp (by omega)]
  refine ⟨w.a (by decide) rfl, fun q => ?_, w.a (by decide) rfl, fun _ => vp_in_nI k24 (by decide), fun z hz => ?_⟩
  · rcases lr_rng (gI h 48) (gI h 49) (nI k) x2 R with c | ⟨i, hi, c⟩
    · exact absurd c q
    · rw [c]
      exact vp_in_nI (show i < 20 by omega) (by decide)
  · rw [hz]
    exact kk
theorem c7_up {h : AH} {P : Option Value → AH → Prop} (w : Wf h) {x2 : Int32} {R k : Nat} (hR : gI h 42 1 = nI R) (R20 : R ≤ 20) (k24 : k < 24) (kk : P (some (.int (kn (gI h 47) (gI h 51) (lr (gI h 48) (gI h 49) (nI k) x2 R) k))) h) : Call mX7_upKnown [.ref 42, .int (nI k), .int x2] h P := by
  refine Call.ofR (by decide +kernel) (Nat.le_of_ble_eq_true rfl) (sX7_upKnown_0 h 42 _ _ ⟨w.o (by decide) rfl, c7_last w hR R20 ⟨_, rfl, w.o (by decide) rfl, ?_⟩⟩)
  rw [w.f42_11, w.f42_7, nI_clamp (by omega)]
  refine ⟨w.a (by decide) rfl, fun q => ?_, w.a (by decide) rfl, fun _ => vp_in_nI k24 (by decide), fun z hz => ?_⟩
  · rcases lr_rng (gI h 48) (gI h 49) (nI k) x2 R with c | ⟨i, hi, c⟩
    · exact absurd c q
    · rw [c]
      exact vp_in_nI (show i < 20 by omega) (by decide)
  · rw [hz]
    exact kk
/-- the list of the press -/
def qC (h : AH) (j : Nat) (ink known : Int32) (R n : Nat) : List Qd := qsl (gI h 43) (gI h 44) (gI h (j + 1)) (gI h (j + 2)) (gI h 45) (gI h 46) (gI h 47) (gI h 48) (gI h 49) (gI h 50) (gI h 51) ink known R n
theorem ga_loop {j : Nat} {h : AH} {P : Option Value → AH → Prop} (w : Wf h) (hj : gF h 0 2 = j) {ink known : Int32} {R n : Nat} (hR : gI h 42 1 = nI R) (R20 : R ≤ 20) (hn : gI h 42 0 = nI n) (n24 : n ≤ 24) (hm : ∀ k, k < n → 0 ≤ gI h 45 k ∧ gI h 45 k < gI h j 3) (m8 : gI h j 3 ≤ 8) (kk : ∀ h3, Fr [52, 53, 54, 55, 56] h h3 → gI h3 52 0 = nI (qC h j ink known R n).length → QR h3 53 (qC h j ink known R n) → P none h3) : ∀ (m k : Nat) (h2 : AH), k + m = n → Fr [52, 53, 54, 55, 56] h h2 → gI h2 52 0 = nI (qC h j ink known R k).length → QR h2 53 (qC h j ink known R k) → Rr mX1_gather 0 0 8 [(0, .ref 52), (1, .ref j), (2, .ref 42), (3, .int ink), (4, .int known), (5, .int (nI k))] [] h2 P
  | 0, k, h2, hk, F, e0, Q => by
    have e : k = n := by omega
    subst e
    have w2 := F.wf w
    refine sX1_gather_8 h2 52 j 42 _ _ _ ⟨w2.o (by decide) rfl, fun _ => kk h2 F e0 Q, fun q => absurd ?_ q⟩
    rw [F.I (by decide), hn]
    exact Int32.le_refl _
  | m + 1, k, h2, hk, F, e0, Q => by
    have w2 := F.wf w
    have jb := jcase w hj
    have hj2 : gF h2 0 2 = j := (F.2.1 0 2).trans hj
    obtain ⟨hO, -, f4, f5, -, -, -, -, -, -, -, -⟩ := job_refs w2 hj2
    obtain ⟨⟨a1, l1⟩, ⟨a2, l2⟩, -, -, -, -, -, -, -⟩ := job_arrs w2 hj2
    have kn' : k < n := by omega
    have len := qsl_len (gI h 43) (gI h 44) (gI h (j + 1)) (gI h (j + 2)) (gI h 45) (gI h 46) (gI h 47) (gI h 48) (gI h 49) (gI h 50) (gI h 51) ink known R k
    have len' : (qC h j ink known R k).length ≤ k := len
    have sc : qC h j ink known R (k + 1) = _ := qsl_succ (gI h 43) (gI h 44) (gI h (j + 1)) (gI h (j + 2)) (gI h 45) (gI h 46) (gI h 47) (gI h 48) (gI h 49) (gI h 50) (gI h 51) ink known R k
    refine sX1_gather_8 h2 52 j 42 _ _ _ ⟨w2.o (by decide) rfl, fun q => absurd q ?_, fun _ => ?_⟩
    · rw [F.I (by decide), hn, nI_leI (by omega) (by omega)]
      omega
    have jr : ∀ r, r ∈ [j, j + 1, j + 2] → r ∉ [52, 53, 54, 55, 56] := by rcases jb with rfl | rfl <;> decide
    have l53 : Int32.ofNat (ln 53) = nI 24 := rfl
    have v24 : vp_in (nI k) 24 := vp_in_nI (by omega) (by decide)
    rw [w2.f52_1, w2.f52_2, w2.f52_3, w2.f42_3, w2.f42_4, w2.f42_5, f4, f5, l53, e0, nI_clamp (n := k) (by omega), nI_clamp (n := (qC h j ink known R k).length) (by omega), F.I (r := 43) (by decide), F.I (r := 44) (by decide), F.I (r := 45) (by decide), F.I (r := j) (jr _ (by simp)), F.I (r := j + 1) (jr _ (by simp)), l1, l2, nI_1]
    refine ⟨w2.o (by decide) rfl, w2.a (by decide) rfl, fun q => absurd q ?_, fun _ => ⟨w2.a (by decide) rfl, v24, w2.a (by decide) rfl, v24, w2.a (by decide) rfl, fun _ => v24, fun c => ?_, fun c => ⟨hO, fun q => absurd q ?_, fun _ => ?_⟩⟩⟩
    · rw [nI_leI (by decide) (by omega)]
      omega
    · have sn : ¬ sel (gI h 43) (gI h 44) ink known k = true := by
        unfold sel
        rw [decide_eq_true_eq]
        exact c
      rw [if_neg sn] at sc
      refine ga_loop w hj hR R20 hn n24 hm m8 kk m (k + 1) h2 (by omega) F ?_ ?_
      · rw [sc]; exact e0
      · rw [sc]; exact Q
    · have := (hm k kn').2
      clear kk
      grind
    · have sn : sel (gI h 43) (gI h 44) ink known k = true := by
        unfold sel
        rw [decide_eq_true_eq]
        exact c
      rw [if_pos sn] at sc
      have vm : vp_in (gI h 45 k) 8 := vin_8.mpr ⟨(hm k kn').1, by have := (hm k kn').2; clear kk; grind⟩
      have vl : vp_in (nI (qC h j ink known R k).length) 24 := vp_in_nI (by omega) (by decide)
      refine ⟨a1, vm, vl, a2, vm, w2.a (by decide) rfl, vl, ?_⟩
      rw [rd_r (r2 := j + 2) (by rcases jb with rfl | rfl <;> decide), F.I (r := j + 2) (jr _ (by simp))]
      have F1 : Fr [52, 53, 54, 55, 56] h (sI (sI h2 53 (qC h j ink known R k).length (gI h (j + 1) (gI h 45 k).toNatClampNeg)) 54 (qC h j ink known R k).length (gI h (j + 2) (gI h 45 k).toNatClampNeg)) := (F.tr (Fr.sI (by decide))).tr (Fr.sI (by decide))
      have w3 := F1.wf w
      refine c7_across w3 ((F1.I (by decide) 1).trans hR) R20 (by omega) ⟨_, rfl, ?_⟩
      rw [(F1.2.2 46 (by decide)).1, (F1.2.2 48 (by decide)).1, (F1.2.2 49 (by decide)).1, (F1.2.2 50 (by decide)).1]
      refine ⟨w3.a (by decide) rfl, vl, w3.o (by decide) rfl, w3.o (by decide) rfl, ?_⟩
      have F2 : Fr [52, 53, 54, 55, 56] h (sI (sI (sI h2 53 (qC h j ink known R k).length (gI h (j + 1) (gI h 45 k).toNatClampNeg)) 54 (qC h j ink known R k).length (gI h (j + 2) (gI h 45 k).toNatClampNeg)) 55 (qC h j ink known R k).length (kn (gI h 46) (gI h 50) (lr (gI h 48) (gI h 49) (nI k) known R) k)) := F1.tr (Fr.sI (by decide))
      have w4 := F2.wf w
      refine c7_up w4 ((F2.I (by decide) 1).trans hR) R20 (by omega) ⟨_, rfl, ?_⟩
      rw [(F2.2.2 47 (by decide)).1, (F2.2.2 48 (by decide)).1, (F2.2.2 49 (by decide)).1, (F2.2.2 51 (by decide)).1, w3.f52_4]
      have g0 : gI (sI (sI h2 53 (qC h j ink known R k).length (gI h (j + 1) (gI h 45 k).toNatClampNeg)) 54 (qC h j ink known R k).length (gI h (j + 2) (gI h 45 k).toNatClampNeg)) 52 0 = nI (qC h j ink known R k).length := e0
      have g1 : gI (sI (sI (sI h2 53 (qC h j ink known R k).length (gI h (j + 1) (gI h 45 k).toNatClampNeg)) 54 (qC h j ink known R k).length (gI h (j + 2) (gI h 45 k).toNatClampNeg)) 55 (qC h j ink known R k).length (kn (gI h 46) (gI h 50) (lr (gI h 48) (gI h 49) (nI k) known R) k)) 52 0 = nI (qC h j ink known R k).length := e0
      rw [g0, g1, nI_clamp (by omega), nI_1]
      refine ⟨w4.a (by decide) rfl, vl, w4.o (by decide) rfl, ?_⟩
      refine ga_loop w hj hR R20 hn n24 hm m8 kk m (k + 1) _ (by omega) ((F2.tr (Fr.sI (by decide))).tr (Fr.sI (by decide))) ?_ ?_
      · rw [sc, List.length_append]
        exact rd_h
      · rw [sc]
        refine QR.push Q _ (fun i hi => ?_) ?_
        · exact ⟨(rd_r (by decide)).trans ((rd_r (by decide)).trans ((rd_r (by decide)).trans ((rd_r (by decide)).trans (rd_k hi)))), (rd_r (by decide)).trans ((rd_r (by decide)).trans ((rd_r (by decide)).trans (((rd_k hi)).trans (rd_r (by decide))))), (rd_r (by decide)).trans ((rd_r (by decide)).trans ((rd_k hi).trans ((rd_r (by decide)).trans (rd_r (by decide))))), (rd_r (by decide)).trans ((rd_k hi).trans ((rd_r (by decide)).trans ((rd_r (by decide)).trans (rd_r (by decide)))))⟩
        · exact ⟨(rd_r (by decide)).trans ((rd_r (by decide)).trans ((rd_r (by decide)).trans ((rd_r (by decide)).trans rd_h))), (rd_r (by decide)).trans ((rd_r (by decide)).trans ((rd_r (by decide)).trans rd_h)), (rd_r (by decide)).trans ((rd_r (by decide)).trans rd_h), (rd_r (by decide)).trans rd_h⟩
