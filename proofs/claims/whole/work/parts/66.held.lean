theorem cd25 : ∀ c : Fin 25, (¬ (nI c % 5 - 2) < -2 ∧ ¬ 2 < (nI c % 5 - 2)) ∧ (¬ (nI c / 5 - 2) < -2 ∧ ¬ 2 < (nI c / 5 - 2)) := by decide +kernel
theorem c12_heldRow {h : AH} {P : Option Value → AH → Prop} (w : Wf h) {i c y : Nat} (hi : i < 4) (hc : c < 25) (hy : y < 16) {f : Nat → Nat → Bool} (hf : Rw h 123 (16 * i) f) (k : ∀ z, rb z (mvy (nI c / 5 - 2) (mvx (nI c % 5 - 2) f) y) → P (some (.int z)) h) : Call mX12_heldRow [.ref 116, .int (nI i), .int (nI c), .int (nI y)] h P := by
  obtain ⟨c1, c2⟩ := cd25 ⟨c, hc⟩
  simp only at c1 c2
  obtain ⟨q1, q2⟩ := frm_n ⟨y, hy⟩ _ (k5m c2)
  simp only at q1 q2
  have ix : ∀ v, frm (nI c / 5 - 2) y = some v → v < 16 ∧ 16 * nI i + (nI y - (nI c / 5 - 2)) = nI (16 * i + v) := fun v hv => by
    obtain ⟨v1, v2, -⟩ := q2 v hv
    exact ⟨v1, by rw [v2, show (16 : Int32) = nI 16 from rfl, pk_mul, nI_add]⟩
  refine aX12_heldRow (w.o (by decide) rfl) (by rw [w.f116_16]; exact w.a (by decide) rfl) (fun q => ?_) ?_
  · have s := q1.mp q
    cases e : frm (nI c / 5 - 2) y with
    | none => rw [e] at s; exact absurd s (by decide)
    | some v =>
      obtain ⟨v1, v2⟩ := ix v e
      rw [v2, w.f116_16]
      exact vp_in_nI (show 16 * i + v < 128 by omega) (by decide)
  · refine k _ (carry_row c1 c2 hy (fun v hv => ?_) rfl)
    obtain ⟨v1, v2⟩ := ix v hv
    rw [v2, w.f116_16, nI_clamp (by omega)]
    exact hf.rb v1
theorem bo_ne {h : AH} {b : Nat} (hb : b < 4) : (73 + 2 * b) ≠ 83 := by omega
def hmv (c : Nat) (f : Nat → Nat → Bool) : Nat → Nat → Bool := mvy (nI c / 5 - 2) (mvx (nI c % 5 - 2) f)
theorem c11_mark {j : Nat} {h h0 : AH} {P : Option Value → AH → Prop} (w : Wf h0) (hj : gF h0 0 2 = j) (F : Fr [81, 83] h0 h) {i c : Nat} (hi : i < 4) (hc : c < 25) {g : Nat → Nat → Bool} (hg : Bd h 83 g) (k : ∀ h3, Fr [81, 83] h0 h3 → Bd h3 83 (orf g (xof (bf h0 (73 + 2 * i)) (hmv c (bf h0 (j + 7 + 2 * i))))) → P none h3) : Call mX11_markUnlike [.ref 0, .int (nI i), .int (nI c)] h P := by
  have w1 := F.wf w
  have jb := jcase w hj
  have hj1 : gF h 0 2 = j := (F.2.1 0 2).trans hj
  obtain ⟨hO, -, -, -, -, -, f11, -, -, -, -, -⟩ := job_refs w1 hj1
  obtain ⟨-, -, -, -, ⟨a5, l5⟩, -, -, -, -⟩ := job_arrs w1 hj1
  obtain ⟨s1, s2⟩ := job_sh w1 hj1 hi
  obtain ⟨c1, c2⟩ := cd25 ⟨c, hc⟩
  simp only at c1 c2
  have b80 := bo80 w1
  refine Call.ofR (by decide +kernel) (Nat.le_of_ble_eq_true rfl) (sX11_markUnlike_0 h 0 _ _ ?_)
  simp only [gF_rL]
  rw [hj1, f11, w1.f0_9, nI_clamp (n := i) (by omega), s1, s2.2.1, w1.f80_0, l5, s2.2.2.2, cl0, cl4]
  have F1 : Fr [81] h (rL h 81 (va_cpy (gL h (j + 7 + 2 * i)) (gL h 81) 0 0 4)) := Fr.rL (by decide)
  refine ⟨w1.o (by decide) rfl, hO, a5, in4n hi, b80.1, s2.1, s2.2.2.1, b80.2.2.1, by decide, by decide, b80.1, ?_⟩
  refine c0_move (b80.fr F1) (cpy_b (bf_Bd h _)) c1 c2 (fun h2 F2 e2 => ⟨rfl, ?_⟩)
  have G2 := F1.tr F2
  have w2 := G2.wf w1
  obtain ⟨t1, t2⟩ := prf_sh w2 hi
  rw [w2.f0_7, w2.f0_9, w2.f0_10, t1]
  have eb : bf h (j + 7 + 2 * i) = bf h0 (j + 7 + 2 * i) := bf_c (F.2.2 (j + 7 + 2 * i) (by
    rcases jb with rfl | rfl <;> rcases (show i = 0 ∨ i = 1 ∨ i = 2 ∨ i = 3 by omega) with rfl | rfl | rfl | rfl <;> decide)).2
  have ep : bf h2 (73 + 2 * i) = bf h0 (73 + 2 * i) := bf_c (by
    rw [(G2.2.2 (73 + 2 * i) (by simp; omega)).2, (F.2.2 (73 + 2 * i) (by simp; omega)).2])
  rw [eb] at e2
  refine ⟨w2.o (by decide) rfl, w2.a (by decide) rfl, in4n hi, (bo82 w2).1, ?_⟩
  refine c0_unl (bo82 w2) t2 (bo80 w2) (by omega) (by decide) (hg.ag (G2.2.2 83 (by decide)).2) (bf_Bd h2 _) e2 (fun h3 F3 e3 => ⟨rfl, ?_⟩)
  rw [ep] at e3
  exact k h3 ((F.tr (G2.sub (by decide))).tr (F3.sub (by decide))) e3
def hld (f p : Nat → Nat → Nat → Bool) (a b c d : Nat) : Nat → Nat → Bool := orf (orf (orf (orf (fun _ _ => false) (xof (p 0) (hmv a (f 0)))) (xof (p 1) (hmv b (f 1)))) (xof (p 2) (hmv c (f 2)))) (xof (p 3) (hmv d (f 3)))
theorem he60 {h : AH} {P : Option Value → AH → Prop} (w : Wf h) {f p : Nat → Nat → Nat → Bool} (hf : ∀ q, q < 4 → Rw h 123 (16 * q) (f q)) (hp : ∀ q, q < 4 → Rw h 144 (16 * q) (p q)) {a b c d : Nat} (ha : a < 25) (hb : b < 25) (hc : c < 25) (hd : d < 25) (k : P (some (.int (nI (tot (hld f p a b c d) 16)))) h) : ∀ (m y : Nat), y + m = 16 → Rr mX12_held 0 0 60 [(0, .ref 116), (1, .int (nI a)), (2, .int (nI b)), (3, .int (nI c)), (4, .int (nI d)), (5, .int (nI (tot (hld f p a b c d) y))), (6, .int (nI y))] [] h P
  | 0, y, hy => by
    have e : y = 16 := by omega
    subst e
    exact sX12_held_60 h 116 _ _ _ _ _ _ ⟨fun _ => k, fun q => absurd (by decide) q⟩
  | m + 1, y, hy => by
    have y16 : y < 16 := by omega
    have o := w.o (h := h) (ci := 12) (r := 116) (by decide) rfl
    have aa : isA h 0 144 := w.a (by decide) rfl
    have v : ∀ q, q < 64 → vp_in (nI q) 64 := fun q hq => vp_in_nI hq (by decide)
    have e16 : (16 : Int32) + nI y = nI (16 + y) := nI_add 16 y
    have e32 : (32 : Int32) + nI y = nI (32 + y) := nI_add 32 y
    have e48 : (48 : Int32) + nI y = nI (48 + y) := nI_add 48 y
    refine sX12_held_60 h 116 _ _ _ _ _ _ ⟨fun q => absurd q (n16le (by omega)), fun _ => ⟨o, ?_⟩⟩
    refine c12_heldRow (i := 0) w (by decide) ha y16 (hf 0 (by decide)) (fun z0 r0 => ⟨_, rfl, o, ?_⟩)
    rw [w.f116_52]
    refine ⟨aa, v y (by omega), ?_⟩
    refine c12_heldRow (i := 1) w (by decide) hb y16 (hf 1 (by decide)) (fun z1 r1 => ⟨_, rfl, o, ?_⟩)
    rw [w.f116_52, e16]
    refine ⟨aa, v _ (by omega), fun v13 h13 => ?_⟩
    refine c12_heldRow (i := 2) w (by decide) hc y16 (hf 2 (by decide)) (fun z2 r2 => ⟨_, rfl, o, ?_⟩)
    rw [w.f116_52, e32]
    refine ⟨aa, v _ (by omega), ?_⟩
    refine c12_heldRow (i := 3) w (by decide) hd y16 (hf 3 (by decide)) (fun z3 r3 => ⟨_, rfl, o, ?_⟩)
    rw [w.f116_52, e48]
    refine ⟨aa, v _ (by omega), fun v24 h24 => ?_⟩
    rw [nI_clamp (by omega), nI_clamp (by omega)] at h13 h24
    have p0 := (hp 0 (by decide)).rb y16
    have p1 := (hp 1 (by decide)).rb y16
    have p2 := (hp 2 (by decide)).rb y16
    have p3 := (hp 3 (by decide)).rb y16
    rw [Nat.mul_zero, Nat.zero_add] at p0
    have big := rb_or (rb_or (rb_or (rb_xor r0 p0) (rb_xor r1 p1)) (rb_xor r2 p2)) (rb_xor r3 p3)
    rw [h24, h13]
    refine c_bits (f := hld f p a b c d y) (rb_c big (fun i _ => ?_)) ⟨_, rfl, ?_⟩
    · unfold hld orf xof hmv
      rw [Bool.false_or, Bool.xor_comm (p 0 y i), Bool.xor_comm (p 1 y i), Bool.xor_comm (p 2 y i), Bool.xor_comm (p 3 y i)]
    · rw [nI_add, nI_1]
      exact he60 w hf hp ha hb hc hd k m (y + 1) (by omega)
theorem n24 {x : Int32} (c : ¬ x < 0 ∧ ¬ 24 < x) : ∃ n : Nat, n < 25 ∧ x = nI n := by
  obtain ⟨n, hn, e⟩ : ∃ n : Nat, n ≤ 24 ∧ x = nI n := nI_of2 (M := 24) rfl c.1 (by grind)
  exact ⟨n, by omega, e⟩
theorem pr_held {j : Nat} {h : AH} (I : Inv j h) (x1 x2 x3 x4 : Int32) : Pair mX11_held mX12_held [.int x1, .int x2, .int x3, .int x4] h := by
  have w := I.1
  have hj := I.2.1
  have jb := jcase w hj
  have ps : gI h 0 8 = gI h 116 51 := I.2.2.2.2.2.2.2.2.1.1
  have rf : ∀ v : Int32, ((¬ ((¬ x1 < 0 ∧ ¬ 24 < x1) ∧ (¬ x2 < 0 ∧ ¬ 24 < x2) ∧ (¬ x3 < 0 ∧ ¬ 24 < x3) ∧ (¬ x4 < 0 ∧ ¬ 24 < x4)) ∧ v = -2) ∨ (((¬ x1 < 0 ∧ ¬ 24 < x1) ∧ (¬ x2 < 0 ∧ ¬ 24 < x2) ∧ (¬ x3 < 0 ∧ ¬ 24 < x3) ∧ (¬ x4 < 0 ∧ ¬ 24 < x4)) ∧ gI h 116 51 = 0 ∧ v = -4)) → Call mX12_held [.ref 116, .int x1, .int x2, .int x3, .int x4] h (fun v2 h2 => v2 = some (.int v) ∧ (∃ z : Int32, some (Value.int v) = some (.int z)) ∧ ∃ j, Inv j h2) := fun v hv => by
    have fin : ∀ u : Int32, u = v → (some (Value.int u) = some (Value.int v)) ∧ (∃ z : Int32, some (Value.int v) = some (.int z)) ∧ ∃ j, Inv j h := fun u hu => ⟨by rw [hu], ⟨_, rfl⟩, j, I⟩
    have no : ∀ {Q : Prop}, ¬ Q → ((((¬ x1 < 0 ∧ ¬ 24 < x1) ∧ (¬ x2 < 0 ∧ ¬ 24 < x2) ∧ (¬ x3 < 0 ∧ ¬ 24 < x3) ∧ (¬ x4 < 0 ∧ ¬ 24 < x4))) → Q) → (-2 : Int32) = v := fun {Q} hq hi => by
      rcases hv with ⟨-, hv⟩ | ⟨hv, -⟩
      · exact hv.symm
      · exact absurd (hi hv) hq
    refine Call.ofR (by decide +kernel) (Nat.le_of_ble_eq_true rfl) (sX12_held_0 h 116 _ _ _ _ ⟨fun c => fin _ (no c (fun q => q.1)), fun c1 => ⟨fun c => fin _ (no c (fun q => q.2.1)), fun c2 => ⟨fun c => fin _ (no c (fun q => q.2.2.1)), fun c3 => ⟨fun c4 => ⟨w.o (by decide) rfl, fun c5 => ?_, fun c5 => fin _ ?_⟩, fun c => fin _ (no c (fun q => q.2.2.2))⟩⟩⟩⟩)
    · rcases hv with ⟨hv, -⟩ | ⟨-, hv, -⟩
      · exact absurd ⟨c1, c2, c3, c4⟩ hv
      · exact absurd hv c5
    · rcases hv with ⟨hv, -⟩ | ⟨-, -, hv⟩
      · exact absurd ⟨c1, c2, c3, c4⟩ hv
      · exact hv.symm
  refine Call.ofR (by decide +kernel) (Nat.le_of_ble_eq_true rfl) (sX11_held_0 h 0 _ _ _ _ ⟨fun c => rf _ (Or.inl ⟨fun q => c q.1, rfl⟩), fun c1 => ⟨fun c => rf _ (Or.inl ⟨fun q => c q.2.1, rfl⟩), fun c2 => ⟨fun c => rf _ (Or.inl ⟨fun q => c q.2.2.1, rfl⟩), fun c3 => ⟨fun c4 => ⟨w.o (by decide) rfl, fun c5 => ?_, fun c5 => rf _ (Or.inr ⟨⟨c1, c2, c3, c4⟩, by rw [← ps]; exact c5, rfl⟩)⟩, fun c => rf _ (Or.inl ⟨fun q => c q.2.2.2, rfl⟩)⟩⟩⟩⟩)
  clear rf
  obtain ⟨a, ha, rfl⟩ := n24 c1
  obtain ⟨b, hb, rfl⟩ := n24 c2
  obtain ⟨c, hc, rfl⟩ := n24 c3
  obtain ⟨d, hd, rfl⟩ := n24 c4
  rw [w.f0_10]
  refine ⟨(bo82 w).1, ?_⟩
  refine Call.ofR (by decide +kernel) (Nat.le_of_ble_eq_true rfl) (sX0_clear_0 h 82 ⟨(bo82 w).1, ?_⟩)
  rw [w.f82_0]
  refine c_fillL (w.a (by decide) rfl) ⟨rfl, rfl, ?_⟩
  have F0 : Fr [81, 83] h (fillL h 83 0 0) := Fr.rL (by decide)
  have b0 : Bd (fillL h 83 0 0) 83 (fun _ _ => false) := Bd.of (fun v i hv hi => by
    unfold fillL
    rw [gL_rL, if_pos rfl, if_pos ⟨Nat.zero_le _, hv⟩, lb_0])
  refine ⟨(F0.wf w).o (by decide) rfl, c11_mark (i := 0) w hj F0 (by decide) ha b0 (fun h1 F1 e1 => ⟨rfl, (F1.wf w).o (by decide) rfl, ?_⟩)⟩
  refine c11_mark (i := 1) w hj F1 (by decide) hb e1 (fun h2 F2 e2 => ⟨rfl, (F2.wf w).o (by decide) rfl, ?_⟩)
  refine c11_mark (i := 2) w hj F2 (by decide) hc e2 (fun h3 F3 e3 => ⟨rfl, (F3.wf w).o (by decide) rfl, ?_⟩)
  refine c11_mark (i := 3) w hj F3 (by decide) hd e3 (fun h4 F4 e4 => ⟨rfl, (F4.wf w).o (by decide) rfl, ?_⟩)
  have w4 := F4.wf w
  rw [w4.f0_10]
  refine ⟨(bo82 w4).1, c0_cells (bo82 w4) e4 ⟨_, rfl, ?_⟩⟩
  have I4 : Inv j h4 := inv_keep I F4 (by rcases jb with rfl | rfl <;> decide) (fun q hq => F4.I (by clear I; revert q; decide) _)
  refine Call.ofR (by decide +kernel) (Nat.le_of_ble_eq_true rfl) (sX12_held_0 h4 116 _ _ _ _ ⟨fun q => absurd c1 q, fun _ => ⟨fun q => absurd c2 q, fun _ => ⟨fun q => absurd c3 q, fun _ => ⟨fun _ => ⟨w4.o (by decide) rfl, fun _ => ?_, fun q => absurd ?_ c5⟩, fun q => absurd c4 q⟩⟩⟩⟩)
  rotate_left
  · rw [ps, ← F4.I (r := 116) (by decide)]
    exact q
  refine he60 (f := fun q => bf h (j + 7 + 2 * q)) (p := fun q => bf h (73 + 2 * q)) w4 (fun q hq => (job_rw I hq).ag (F4.2.2 123 (by decide)).1) (fun q hq => (prf_rw I hq).ag (F4.2.2 144 (by decide)).1) ha hb hc hd ⟨rfl, ⟨_, rfl⟩, j, I4⟩ 16 0 rfl
