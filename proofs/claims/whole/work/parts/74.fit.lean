/-! the reference: each slip tried -/
theorem isf_loop {h : AH} {P : Option Value → AH → Prop} (w : Wf h) {a b r s sl : Int32} {L : List Qd} (Q : QR h 136 L) (hl : gI h 116 35 = nI L.length) (l24 : L.length ≤ 24) (hsl : gI h 118 3 = sl) (k1 : (∀ q ∈ L, okA r s sl a q ∧ okU r s sl b q) → P (some (.int 1)) h) (k0 : ¬ (∀ q ∈ L, okA r s sl a q ∧ okU r s sl b q) → P (some (.int 0)) h) : ∀ (m i : Nat), i + m = L.length → (∀ q ∈ L.take i, okA r s sl a q ∧ okU r s sl b q) → Rr mX12_isFit 0 0 3 [(0, .ref 116), (1, .int a), (2, .int b), (3, .int r), (4, .int s), (5, .int (nI i))] [] h P
  | 0, i, hi, g => by
    have e : i = L.length := by omega
    subst e
    rw [List.take_length] at g
    refine sX12_isFit_3 h 116 _ _ _ _ _ ⟨w.o (by decide) rfl, fun _ => k1 g, fun q => absurd ?_ q⟩
    rw [hl]
    exact Int32.le_refl _
  | m + 1, i, hi, g => by
    obtain ⟨q, hq, hm, tk⟩ := getq (L := L) (i := i) (by omega)
    obtain ⟨q1, q2, q3, q4⟩ := Q i q hq
    have v : vp_in (nI i) 24 := vp_in_nI (by omega) (by decide)
    have v3 : vp_in 3 18 := by rw [vin_18]; decide
    refine sX12_isFit_3 h 116 _ _ _ _ _ ⟨w.o (by decide) rfl, fun q => absurd q ?_, fun _ => ?_⟩
    · rw [hl, nI_leI (by omega) (by omega)]
      omega
    simp only [w.f116_11, w.f116_36, w.f116_37, w.f116_38, w.f116_39, nI_clamp (show i < 2 ^ 31 by omega), q1, q2, q3, q4, cl3, hsl, nI_1]
    refine ⟨w.a (by decide) rfl, v, w.a (by decide) rfl, v, w.a (by decide) rfl, v, w.a (by decide) rfl, v3, fun c => ⟨w.a (by decide) rfl, v, fun c2 => ?_, fun c2 => k0 (fun z => c2 (z q hm).2)⟩, fun c => k0 (fun z => c (z q hm).1)⟩
    refine isf_loop w Q hl l24 hsl k1 k0 m (i + 1) (by omega) (fun p hp => ?_)
    rw [tk, List.mem_append] at hp
    rcases hp with hp | hp
    · exact g p hp
    · rw [List.mem_singleton.mp hp]
      exact ⟨c, c2⟩
theorem c12_isFit {h : AH} {P : Option Value → AH → Prop} (w : Wf h) {a b r s sl : Int32} {L : List Qd} (Q : QR h 136 L) (hl : gI h 116 35 = nI L.length) (l24 : L.length ≤ 24) (hsl : gI h 118 3 = sl) (k1 : (∀ q ∈ L, okA r s sl a q ∧ okU r s sl b q) → P (some (.int 1)) h) (k0 : ¬ (∀ q ∈ L, okA r s sl a q ∧ okU r s sl b q) → P (some (.int 0)) h) : Call mX12_isFit [.ref 116, .int a, .int b, .int r, .int s] h P :=
  Call.ofR (by decide +kernel) (Nat.le_of_ble_eq_true rfl) (sX12_isFit_0 h 116 _ _ _ _ (isf_loop w Q hl l24 hsl k1 k0 L.length 0 (Nat.zero_add _) (fun q hq => absurd hq (by simp))))
theorem c12_note {h : AH} {P : Option Value → AH → Prop} (w : Wf h) {c : Nat} (hc : c < 4) {x : Int32} (kk : ∀ h3, Fr [140, 141] h h3 → (∀ p, p ≠ c → gI h3 140 p = gI h 140 p ∧ gI h3 141 p = gI h 141 p) → gI h3 140 c = (if gI h 116 40 = 0 then x else imin (gI h 140 c) x) → gI h3 141 c = (if gI h 116 40 = 0 then x else imax (gI h 141 c) x) → P none h3) : Call mX12_note [.ref 116, .int (nI c), .int x] h P := by
  have w41 := w.f116_41
  have w42 := w.f116_42
  refine aX12_note (w.o (by decide) rfl) (by rw [w41]; exact w.a (by decide) rfl) (fun _ => by rw [w41]; exact in4n hc) (fun _ _ => by rw [w41]; exact in4n hc) (by rw [w41]; exact in4n hc) (by rw [w42]; exact w.a (by decide) rfl) (fun _ => by rw [w42]; exact in4n hc) (fun _ _ => by rw [w42]; exact in4n hc) (by rw [w42]; exact in4n hc) ?_
  rw [w41, w42, nI_clamp (by omega), ← imin_le, rd_r (r2 := 141) (by decide), ← imax_le]
  exact kk _ ((Fr.sI (by decide)).tr (Fr.sI (by decide))) (fun p hp => ⟨(rd_r (by decide)).trans (rd_k hp), (rd_k hp).trans (rd_r (by decide))⟩) ((rd_r (by decide)).trans rd_h) rd_h
theorem c12_note4 {h : AH} {P : Option Value → AH → Prop} (w : Wf h) {a b r s : Int32} (kk : ∀ h3, Fr [140, 141] h h3 → (∀ c, c < 4 → gI h3 140 c = (if gI h 116 40 = 0 then fr4 a b r s c else imin (gI h 140 c) (fr4 a b r s c))) → (∀ c, c < 4 → gI h3 141 c = (if gI h 116 40 = 0 then fr4 a b r s c else imax (gI h 141 c) (fr4 a b r s c))) → P none h3) : Call mX12_note [.ref 116, .int 0, .int a] h (fun v h7 => v = none ∧ ((isO h7 12 116) ∧ (Call mX12_note [.ref 116, .int 1, .int b] h7 (fun v h9 => v = none ∧ ((isO h9 12 116) ∧ (Call mX12_note [.ref 116, .int 2, .int r] h9 (fun v h11 => v = none ∧ ((isO h11 12 116) ∧ (Call mX12_note [.ref 116, .int 3, .int s] h11 (fun v h13 => v = none ∧ P none h13)))))))))) := by
  refine c12_note (c := 0) w (by decide) (fun h1 F1 o1 a1 b1 => ⟨rfl, (F1.wf w).o (by decide) rfl, ?_⟩)
  have w1 := F1.wf w
  refine c12_note (c := 1) w1 (by decide) (fun h2 F2 o2 a2 b2 => ⟨rfl, (F2.wf w1).o (by decide) rfl, ?_⟩)
  have w2 := F2.wf w1
  refine c12_note (c := 2) w2 (by decide) (fun h3 F3 o3 a3 b3 => ⟨rfl, (F3.wf w2).o (by decide) rfl, ?_⟩)
  have w3 := F3.wf w2
  refine c12_note (c := 3) w3 (by decide) (fun h4 F4 o4 a4 b4 => ⟨rfl, ?_⟩)
  have G2 := F1.tr F2
  have G3 := G2.tr F3
  have G4 := G3.tr F4
  rw [F1.I (r := 116) (by decide), (o1 1 (by decide)).1] at a2
  rw [F1.I (r := 116) (by decide), (o1 1 (by decide)).2] at b2
  rw [G2.I (r := 116) (by decide), (o2 2 (by decide)).1, (o1 2 (by decide)).1] at a3
  rw [G2.I (r := 116) (by decide), (o2 2 (by decide)).2, (o1 2 (by decide)).2] at b3
  rw [G3.I (r := 116) (by decide), (o3 3 (by decide)).1, (o2 3 (by decide)).1, (o1 3 (by decide)).1] at a4
  rw [G3.I (r := 116) (by decide), (o3 3 (by decide)).2, (o2 3 (by decide)).2, (o1 3 (by decide)).2] at b4
  refine kk h4 G4 (four ?_ ?_ ?_ ?_) (four ?_ ?_ ?_ ?_)
  · rw [(o4 0 (by decide)).1, (o3 0 (by decide)).1, (o2 0 (by decide)).1, a1]
    rfl
  · rw [(o4 1 (by decide)).1, (o3 1 (by decide)).1, a2]
    rfl
  · rw [(o4 2 (by decide)).1, a3]
    rfl
  · rw [a4]
    rfl
  · rw [(o4 0 (by decide)).2, (o3 0 (by decide)).2, (o2 0 (by decide)).2, b1]
    rfl
  · rw [(o4 1 (by decide)).2, (o3 1 (by decide)).2, b2]
    rfl
  · rw [(o4 2 (by decide)).2, b3]
    rfl
  · rw [b4]
    rfl
def cm (T : Nat → Nat → T4) (n : Nat) : Nat := nsum (fun c => gA (T (c / 10 % 19) (c % 10)) (c / 3610) * gB (T (c / 10 % 19) (c % 10)) (c / 190 % 19)) n
theorem cm_le (T : Nat → Nat → T4) (n : Nat) : cm T n ≤ n * 1 := nsum_le (fun c => Nat.mul_le_mul ((g_le _).1 _) ((g_le _).2 _)) n
theorem g_in {t : T4} {u v : Nat} : (gA t u * gB t v = 1 ∧ inT t (nI u - 9) (nI v - 9)) ∨ (gA t u * gB t v = 0 ∧ ¬ inT t (nI u - 9) (nI v - 9)) := by
  unfold gA gB inT
  by_cases c1 : t.1 ≤ nI u - 9 ∧ nI u - 9 ≤ t.2.1
  · by_cases c2 : t.2.2.1 ≤ nI v - 9 ∧ nI v - 9 ≤ t.2.2.2
    · left
      rw [decide_eq_true c1, decide_eq_true c2]
      exact ⟨rfl, c1, c2⟩
    · right
      rw [decide_eq_false c2]
      exact ⟨Nat.mul_zero _, fun q => c2 q.2⟩
  · right
    rw [decide_eq_false c1]
    exact ⟨Nat.zero_mul _, fun q => c1 q.1⟩
theorem cm_cw (T : Nat → Nat → T4) : cm T 68590 = cw T 190 := by
  unfold cm cw
  rw [show (68590 : Nat) = 361 * 190 from rfl, nsum_grid, nsum_comm]
  refine nsum_c (fun n hn => ?_)
  rw [show (361 : Nat) = 19 * 19 from rfl, nsum_grid]
  rw [nsum_c (g := fun u => nsum (fun v => gA (T (n / 10) (n % 10)) u * gB (T (n / 10) (n % 10)) v) 19) (fun u hu => nsum_c (fun v hv => ?_))]
  · rw [nsum_c (g := fun u => gA (T (n / 10) (n % 10)) u * nsum (gB (T (n / 10) (n % 10))) 19) (fun u hu => nsum_mull _ _ _), nsum_mulr]
  · rw [show ((u * 19 + v) * 190 + n) / 10 % 19 = n / 10 by omega, show ((u * 19 + v) * 190 + n) % 10 = n % 10 by omega, show ((u * 19 + v) * 190 + n) / 3610 = u by omega, show ((u * 19 + v) * 190 + n) / 190 % 19 = v by omega]
theorem f19 : ∀ i : Fin 19, (nI i - 9 + 1 = nI (i.val + 1) - 9) ∧ (¬ 10 ≤ nI i - 9) ∧ (10 ≤ nI (i.val + 1) - 9 ↔ i.val = 18) := by decide +kernel
theorem f10 : ∀ k : Fin 10, (¬ 10 ≤ nI k) ∧ (10 ≤ nI (k.val + 1) ↔ k.val = 9) := by decide +kernel
theorem mf_next {h : AH} {P : Option Value → AH → Prop} {c : Nat} (hc : c < 68590) (k1 : c + 1 = 68590 → P none h) (k2 : c + 1 < 68590 → Rr mX12_makeFits 0 0 45 [(0, .ref 116), (3, .int (nI ((c + 1) / 3610) - 9)), (4, .int (nI ((c + 1) / 190 % 19) - 9)), (5, .int (nI ((c + 1) / 10 % 19) - 9)), (6, .int (nI ((c + 1) % 10)))] [] h P) : Rr mX12_makeFits 0 0 45 [(0, .ref 116), (3, .int (nI (c / 3610) - 9)), (4, .int (nI (c / 190 % 19) - 9)), (5, .int (nI (c / 10 % 19) - 9)), (6, .int (nI (c % 10) + 1))] [] h P := by
  rw [nI_1]
  obtain ⟨a1, a2, a3⟩ := f19 ⟨c / 3610, by omega⟩
  obtain ⟨b1, b2, b3⟩ := f19 ⟨c / 190 % 19, by omega⟩
  obtain ⟨r1, r2, r3⟩ := f19 ⟨c / 10 % 19, by omega⟩
  obtain ⟨s1, s2⟩ := f10 ⟨c % 10, by omega⟩
  simp only at a1 a2 a3 b1 b2 b3 r1 r2 r3 s1 s2
  by_cases c1 : c % 10 = 9
  rotate_left
  · have := k2 (by omega)
    rw [show (c + 1) / 3610 = c / 3610 by omega, show (c + 1) / 190 % 19 = c / 190 % 19 by omega, show (c + 1) / 10 % 19 = c / 10 % 19 by omega, show (c + 1) % 10 = c % 10 + 1 by omega] at this
    exact this
  refine sX12_makeFits_45 h 116 _ _ _ _ ⟨fun _ => ?_, fun q => absurd (s2.mpr c1) q⟩
  rw [r1]
  by_cases c2 : c / 10 % 19 = 18
  rotate_left
  · have := k2 (by omega)
    rw [show (c + 1) / 3610 = c / 3610 by omega, show (c + 1) / 190 % 19 = c / 190 % 19 by omega, show (c + 1) / 10 % 19 = c / 10 % 19 + 1 by omega, show (c + 1) % 10 = 0 by omega] at this
    exact sX12_makeFits_35 h 116 _ _ _ ⟨fun q => absurd (r3.mp q) c2, fun _ => this⟩
  refine sX12_makeFits_35 h 116 _ _ _ ⟨fun _ => ?_, fun q => absurd (r3.mpr c2) q⟩
  rw [b1]
  by_cases c3 : c / 190 % 19 = 18
  rotate_left
  · have := k2 (by omega)
    rw [show (c + 1) / 3610 = c / 3610 by omega, show (c + 1) / 190 % 19 = c / 190 % 19 + 1 by omega, show (c + 1) / 10 % 19 = 0 by omega, show (c + 1) % 10 = 0 by omega] at this
    exact sX12_makeFits_24 h 116 _ _ ⟨fun q => absurd (b3.mp q) c3, fun _ => sX12_makeFits_35 h 116 _ _ _ ⟨fun q => absurd q (by decide), fun _ => this⟩⟩
  refine sX12_makeFits_24 h 116 _ _ ⟨fun _ => ?_, fun q => absurd (b3.mpr c3) q⟩
  rw [a1]
  by_cases c4 : c / 3610 = 18
  · exact sX12_makeFits_14 h 116 _ ⟨fun _ => k1 (by omega), fun q => absurd (a3.mpr c4) q⟩
  · have := k2 (by omega)
    rw [show (c + 1) / 3610 = c / 3610 + 1 by omega, show (c + 1) / 190 % 19 = 0 by omega, show (c + 1) / 10 % 19 = 0 by omega, show (c + 1) % 10 = 0 by omega] at this
    exact sX12_makeFits_14 h 116 _ ⟨fun q => absurd (a3.mp q) c4, fun _ => sX12_makeFits_24 h 116 _ _ ⟨fun q => absurd q (by decide), fun _ => sX12_makeFits_35 h 116 _ _ _ ⟨fun q => absurd q (by decide), fun _ => this⟩⟩⟩
def cdf (u v i k : Nat) : Nat := ((u * 19 + v) * 19 + i) * 10 + k
theorem mf_loop {h : AH} {P : Option Value → AH → Prop} (w : Wf h) {sl : Int32} {L : List Qd} (Q : QR h 136 L) (hl : gI h 116 35 = nI L.length) (l24 : L.length ≤ 24) (hsl : gI h 118 3 = sl) (rsl : inr sl 0 9) (hL : ∀ q ∈ L, QG q) (kk : ∀ h3, Fr [116, 140, 141] h h3 → (∀ s, s ≠ 40 → gI h3 116 s = gI h 116 s) → gI h3 116 40 = nI (cm (fun i k => bsh (nI i - 9) (nI k) sl L) 68590) → Kn (fun u v i k => DT (fun i k => bsh (nI i - 9) (nI k) sl L) u v i k ∧ cdf u v i k < 68590) (cm (fun i k => bsh (nI i - 9) (nI k) sl L) 68590) (gI h3 140) (gI h3 141) → P none h3) : ∀ (m c : Nat) (h2 : AH), c + m = 68590 → 0 < m → Fr [116, 140, 141] h h2 → (∀ s, s ≠ 40 → gI h2 116 s = gI h 116 s) → gI h2 116 40 = nI (cm (fun i k => bsh (nI i - 9) (nI k) sl L) c) → Kn (fun u v i k => DT (fun i k => bsh (nI i - 9) (nI k) sl L) u v i k ∧ cdf u v i k < c) (cm (fun i k => bsh (nI i - 9) (nI k) sl L) c) (gI h2 140) (gI h2 141) → Rr mX12_makeFits 0 0 45 [(0, .ref 116), (3, .int (nI (c / 3610) - 9)), (4, .int (nI (c / 190 % 19) - 9)), (5, .int (nI (c / 10 % 19) - 9)), (6, .int (nI (c % 10)))] [] h2 P := by
  intro m
  induction m with
  | zero =>
    intro c h2 hc hm
    exact absurd hm (by decide)
  | succ m ih =>
    intro c h2 hc hm F es e40 K
    have w2 := F.wf w
    have Q2 : QR h2 136 L := Q.ag ⟨(F.2.2 136 (by decide)).1, (F.2.2 137 (by decide)).1, (F.2.2 138 (by decide)).1, (F.2.2 139 (by decide)).1⟩
    have ra := rng9 ⟨c / 3610, by omega⟩
    have rb' := rng9 ⟨c / 190 % 19, by omega⟩
    have rr := rng9 ⟨c / 10 % 19, by omega⟩
    obtain ⟨s1, -⟩ := f10 ⟨c % 10, by omega⟩
    simp only at ra rb' rr s1
    have rs : inr (nI (c % 10)) 0 9 := ⟨nI_pos' (by omega), nI_le (a := c % 10) (b := 9) (by omega) (by decide)⟩
    have bi := bsh_in rr rs rsl ra rb' hL
    have gi := g_in (t := bsh (nI (c / 10 % 19) - 9) (nI (c % 10)) sl L) (u := c / 3610) (v := c / 190 % 19)
    have cs : cm (fun i k => bsh (nI i - 9) (nI k) sl L) (c + 1) = cm (fun i k => bsh (nI i - 9) (nI k) sl L) c + gA (bsh (nI (c / 10 % 19) - 9) (nI (c % 10)) sl L) (c / 3610) * gB (bsh (nI (c / 10 % 19) - 9) (nI (c % 10)) sl L) (c / 190 % 19) := rfl
    have sp : ∀ u v i k, (DT (fun i k => bsh (nI i - 9) (nI k) sl L) u v i k ∧ cdf u v i k < c + 1) ↔ (DT (fun i k => bsh (nI i - 9) (nI k) sl L) u v i k ∧ cdf u v i k < c) ∨ (inT (bsh (nI (c / 10 % 19) - 9) (nI (c % 10)) sl L) (nI (c / 3610) - 9) (nI (c / 190 % 19) - 9) ∧ u = c / 3610 ∧ v = c / 190 % 19 ∧ i = c / 10 % 19 ∧ k = c % 10) := fun u v i k => by
      constructor
      · rintro ⟨d, l⟩
        rcases Nat.lt_or_ge (cdf u v i k) c with q | q
        · exact Or.inl ⟨d, q⟩
        · obtain ⟨d1, d2, d3, d4, d5⟩ := d
          have e : cdf u v i k = c := by omega
          unfold cdf at e
          have eu : u = c / 3610 := by omega
          have ev : v = c / 190 % 19 := by omega
          have ei : i = c / 10 % 19 := by omega
          have ek : k = c % 10 := by omega
          rw [eu, ev, ei, ek] at d5
          exact Or.inr ⟨d5, eu, ev, ei, ek⟩
      · rintro (⟨d, l⟩ | ⟨d, rfl, rfl, rfl, rfl⟩)
        · exact ⟨d, by omega⟩
        · refine ⟨⟨by omega, by omega, by omega, by omega, d⟩, ?_⟩
          unfold cdf
          omega
    have nx : ∀ h4, Fr [116, 140, 141] h h4 → (∀ s, s ≠ 40 → gI h4 116 s = gI h 116 s) → gI h4 116 40 = nI (cm (fun i k => bsh (nI i - 9) (nI k) sl L) (c + 1)) → Kn (fun u v i k => DT (fun i k => bsh (nI i - 9) (nI k) sl L) u v i k ∧ cdf u v i k < c + 1) (cm (fun i k => bsh (nI i - 9) (nI k) sl L) (c + 1)) (gI h4 140) (gI h4 141) → Rr mX12_makeFits 0 0 45 [(0, .ref 116), (3, .int (nI (c / 3610) - 9)), (4, .int (nI (c / 190 % 19) - 9)), (5, .int (nI (c / 10 % 19) - 9)), (6, .int (nI (c % 10) + 1))] [] h4 P := fun h4 F4 s4 z4 K4 => by
      refine mf_next (by omega) (fun e => ?_) (fun e => ih (c + 1) h4 (by omega) (by omega) F4 s4 z4 K4)
      rw [e] at z4 K4
      exact kk h4 F4 s4 z4 K4
    refine sX12_makeFits_45 h2 116 _ _ _ _ ⟨fun q => absurd q s1, fun _ => ⟨w2.o (by decide) rfl, ?_⟩⟩
    refine c12_isFit w2 Q2 ((es 35 (by decide)).trans hl) l24 ((F.I (by decide) 3).trans hsl) (fun g => ⟨_, rfl, fun _ => ⟨w2.o (by decide) rfl, ?_⟩, fun q => absurd q (by decide)⟩) (fun g => ⟨_, rfl, fun q => absurd rfl q, fun _ => ?_⟩)
    · have hin := bi.mpr g
      rcases gi with ⟨g1, -⟩ | ⟨-, g2⟩
      rotate_left
      · exact absurd hin g2
      rw [g1] at cs
      have cl := cm_le (fun i k => bsh (nI i - 9) (nI k) sl L) c
      refine c12_note4 w2 (P := fun _ h13 => isO h13 12 116 ∧ Rr mX12_makeFits 0 0 45 [(0, .ref 116), (3, .int (nI (c / 3610) - 9)), (4, .int (nI (c / 190 % 19) - 9)), (5, .int (nI (c / 10 % 19) - 9)), (6, .int (nI (c % 10) + 1))] [] (sI h13 116 40 ((gI h13 116 40) + 1)) P) (fun h3 F3 a3 b3 => ⟨(F3.wf w2).o (by decide) rfl, ?_⟩)
      rw [e40] at a3 b3
      rw [F3.I (r := 116) (by decide), e40, nI_1 (cm (fun i k => bsh (nI i - 9) (nI k) sl L) c)]
      refine nx _ ((F.tr (F3.sub (by decide))).tr (Fr.sI (by decide))) (fun s hs => (rd_k hs).trans ((F3.I (by decide) s).trans (es s hs))) (by rw [cs]; exact rd_h) ?_
      rw [cs]
      refine Kn.add K (E := fun u v i k => inT (bsh (nI (c / 10 % 19) - 9) (nI (c % 10)) sl L) (nI (c / 3610) - 9) (nI (c / 190 % 19) - 9) ∧ u = c / 3610 ∧ v = c / 190 % 19 ∧ i = c / 10 % 19 ∧ k = c % 10) (lo2 := fr4 (nI (c / 3610) - 9) (nI (c / 190 % 19) - 9) (nI (c / 10 % 19) - 9) (nI (c % 10))) (hi2 := fr4 (nI (c / 3610) - 9) (nI (c / 190 % 19) - 9) (nI (c / 10 % 19) - 9) (nI (c % 10))) ?_ (by decide) (by omega) sp (fun z hz => (rd_r (by decide)).trans (a3 z hz)) (fun z hz => (rd_r (by decide)).trans (b3 z hz))
      intro z hz
      have wt : ∃ u v i k, (inT (bsh (nI (c / 10 % 19) - 9) (nI (c % 10)) sl L) (nI (c / 3610) - 9) (nI (c / 190 % 19) - 9) ∧ u = c / 3610 ∧ v = c / 190 % 19 ∧ i = c / 10 % 19 ∧ k = c % 10) ∧ co z u v i k = fr4 (nI (c / 3610) - 9) (nI (c / 190 % 19) - 9) (nI (c / 10 % 19) - 9) (nI (c % 10)) z := ⟨_, _, _, _, ⟨hin, rfl, rfl, rfl, rfl⟩, rfl⟩
      refine ⟨?_, wt, wt⟩
      rintro u v i k ⟨-, rfl, rfl, rfl, rfl⟩
      exact ⟨Int32.le_refl _, Int32.le_refl _⟩
    · have hno : ¬ inT (bsh (nI (c / 10 % 19) - 9) (nI (c % 10)) sl L) (nI (c / 3610) - 9) (nI (c / 190 % 19) - 9) := fun q => g (bi.mp q)
      rcases gi with ⟨-, g2⟩ | ⟨g1, -⟩
      · exact absurd g2 hno
      rw [g1, Nat.add_zero] at cs
      refine nx h2 F es (by rw [cs]; exact e40) ?_
      rw [cs]
      refine K.same (fun u v i k => ?_) (fun _ _ => rfl) (fun _ _ => rfl)
      rw [sp]
      exact ⟨fun d => d.elim id (fun d => absurd d.1 hno), Or.inl⟩
theorem c12_fits {h : AH} {P : Option Value → AH → Prop} (w : Wf h) {ink known sl : Int32} {R n : Nat} (hR : gI h 116 24 = nI R) (R20 : R ≤ 20) (hn : gI h 116 23 = nI n) (n24 : n ≤ 24) (hm : ∀ k, k < n → 0 ≤ gI h 129 k ∧ gI h 129 k < 8) (hsl : gI h 118 3 = sl) (rsl : inr sl 0 9) (hL : ∀ q ∈ qM h ink known R n, QG q) (kk : ∀ h3, Fr [116, 136, 137, 138, 139, 140, 141] h h3 → (∀ s, s ≠ 35 → s ≠ 40 → gI h3 116 s = gI h 116 s) → gI h3 116 40 = nI (cm (fun i k => bsh (nI i - 9) (nI k) sl (qM h ink known R n)) 68590) → Kn (fun u v i k => DT (fun i k => bsh (nI i - 9) (nI k) sl (qM h ink known R n)) u v i k ∧ cdf u v i k < 68590) (cm (fun i k => bsh (nI i - 9) (nI k) sl (qM h ink known R n)) 68590) (gI h3 140) (gI h3 141) → P none h3) : Call mX12_makeFits [.ref 116, .int ink, .int known] h P := by
  refine Call.ofR (by decide +kernel) (Nat.le_of_ble_eq_true rfl) (sX12_makeFits_0 h 116 _ _ ⟨w.o (by decide) rfl, ?_⟩)
  refine c12_ask w hR R20 hn n24 hm (fun h2 F2 s2 e35 Q => ⟨rfl, (F2.wf w).o (by decide) rfl, ?_⟩)
  have w2 := F2.wf w
  have F3 : Fr [116] h2 (sI h2 116 40 0) := Fr.sI (by decide)
  have w3 := F3.wf w2
  have len : (qM h ink known R n).length ≤ n := qsl_len _ _ _ _ _ _ _ _ _ _ _ ink known R n
  have Q3 : QR (sI h2 116 40 0) 136 (qM h ink known R n) := Q.ag ⟨(F3.2.2 136 (by decide)).1, (F3.2.2 137 (by decide)).1, (F3.2.2 138 (by decide)).1, (F3.2.2 139 (by decide)).1⟩
  refine sX12_makeFits_14 _ 116 _ ⟨fun q => absurd q (by decide), fun _ => ?_⟩
  refine sX12_makeFits_24 _ 116 _ _ ⟨fun q => absurd q (by decide), fun _ => ?_⟩
  refine sX12_makeFits_35 _ 116 _ _ _ ⟨fun q => absurd q (by decide), fun _ => ?_⟩
  refine mf_loop w3 Q3 ((rd_k (by decide)).trans e35) (by omega) ((F3.I (by decide) 3).trans ((F2.I (by decide) 3).trans hsl)) rsl hL (fun h4 F4 s4 e40 K => kk h4 (((F2.sub (by decide)).tr (F3.sub (by decide))).tr (F4.sub (by decide))) (fun s h35 h40 => (s4 s h40).trans ((rd_k h40).trans (s2 s h35))) e40 K) 68590 0 _ rfl (by decide) Fr.rf (fun _ _ => rfl) rd_h (Or.inl ⟨rfl, fun u v i k d => absurd d.2 (Nat.not_lt_zero _)⟩)
