def acc (f : Nat → Nat → Nat → Bool) : Nat → Nat → Nat → Bool
  | 0 => fun _ _ => false
  | i + 1 => orf (acc f i) (f i)
theorem Fr.sub {S S2 : List Nat} {h h2 : AH} (a : Fr S h h2) (hs : S.all (fun r => S2.contains r) = true) : Fr S2 h h2 := a.up (fun r hr => by
  have := List.all_eq_true.mp hs r hr
  simpa using this)
theorem p73 {i : Nat} (hi : i < 4) : (73 + 2 * i) ∈ [83, 73, 75, 77, 79] := by
  rcases (show i = 0 ∨ i = 1 ∨ i = 2 ∨ i = 3 by omega) with rfl | rfl | rfl | rfl <;> decide
theorem sg_loop {j : Nat} {h : AH} {P : Option Value → AH → Prop} (w : Wf h) (hj : gF h 0 2 = j) (k : ∀ h3, Fr [83, 73, 75, 77, 79] h h3 → (∀ q, q < 4 → Bd h3 (73 + 2 * q) (bf h (j + 7 + 2 * q))) → Bd h3 83 (acc (fun q => bf h (j + 7 + 2 * q)) 4) → Rr mX11_sign 0 0 9 [(0, .ref 0), (1, .int 4)] [] h3 P) : ∀ (m i : Nat) (h2 : AH), i + m = 4 → Fr [83, 73, 75, 77, 79] h h2 → (∀ q, q < i → Bd h2 (73 + 2 * q) (bf h (j + 7 + 2 * q))) → Bd h2 83 (acc (fun q => bf h (j + 7 + 2 * q)) i) → Rr mX11_sign 0 0 9 [(0, .ref 0), (1, .int (nI i))] [] h2 P
  | 0, i, h2, hi, F, e1, e2 => by
    have e : i = 4 := by omega
    subst e
    exact k h2 F e1 e2
  | m + 1, i, h2, hi, F, e1, e2 => by
    have w2 := F.wf w
    have jb := jcase w hj
    have hj2 : gF h2 0 2 = j := (F.2.1 0 2).trans hj
    obtain ⟨hO, -, -, -, -, -, f11, -, -, -, -, -⟩ := job_refs w2 hj2
    obtain ⟨-, -, -, -, ⟨a5, l5⟩, -, -, -, -⟩ := job_arrs w2 hj2
    have hi4 : i < 4 := by omega
    obtain ⟨s1, s2⟩ := job_sh w2 hj2 hi4
    obtain ⟨t1, t2⟩ := prf_sh w2 hi4
    have b82 := bo82 w2
    refine sX11_sign_9 h2 0 _ ⟨fun q => absurd q (n4le hi4), fun _ => ?_⟩
    simp only [gF_rL]
    rw [hj2, f11, w2.f0_7, w2.f0_10, nI_clamp (n := i) (by omega), s1, t1, s2.2.1, t2.2.1, l5, s2.2.2.2, t2.2.2.2, cl0, cl4, nI_1]
    have F1 : Fr [83, 73, 75, 77, 79] h2 (rL h2 (73 + 2 * i) (va_cpy (gL h2 (j + 7 + 2 * i)) (gL h2 (73 + 2 * i)) 0 0 4)) := Fr.rL (p73 hi4)
    have eb : bf h2 (j + 7 + 2 * i) = bf h (j + 7 + 2 * i) := bf_c (F.2.2 (j + 7 + 2 * i) (by
      rcases jb with rfl | rfl <;> rcases (show i = 0 ∨ i = 1 ∨ i = 2 ∨ i = 3 by omega) with rfl | rfl | rfl | rfl <;> decide)).2
    have g1 : Bd (rL h2 (73 + 2 * i) (va_cpy (gL h2 (j + 7 + 2 * i)) (gL h2 (73 + 2 * i)) 0 0 4)) (73 + 2 * i) (bf h (j + 7 + 2 * i)) := by
      rw [← eb]
      exact cpy_b (bf_Bd h2 _)
    have g0 : Bd (rL h2 (73 + 2 * i) (va_cpy (gL h2 (j + 7 + 2 * i)) (gL h2 (73 + 2 * i)) 0 0 4)) 83 (acc (fun q => bf h (j + 7 + 2 * q)) i) := e2.ag (by
      funext z
      rw [gL_rL, if_neg (by omega)])
    refine ⟨w2.o (by decide) rfl, w2.a (by decide) rfl, in4n hi4, hO, a5, in4n hi4, t2.1, s2.1, s2.2.2.1, t2.2.2.1, by decide, by decide, w2.a (by decide) rfl, in4n hi4, b82.1, ?_⟩
    refine c0_add (b82.fr F1) (t2.fr F1) (by omega) g0 g1 (fun h3 F3 e3 => ⟨rfl, ?_⟩)
    have F3' : Fr [83, 73, 75, 77, 79] (rL h2 (73 + 2 * i) (va_cpy (gL h2 (j + 7 + 2 * i)) (gL h2 (73 + 2 * i)) 0 0 4)) h3 := F3.sub (by decide)
    refine sg_loop w hj k m (i + 1) h3 (by omega) ((F.tr F1).tr F3') (fun q hq => ?_) e3
    by_cases c : q = i
    · subst c
      exact g1.ag (F3.2.2 _ (by simp; omega)).2
    · refine (e1 q (by omega)).ag ?_
      rw [(F3.2.2 (73 + 2 * q) (by simp; omega)).2]
      funext z
      rw [gL_rL, if_neg (by omega)]
theorem sg7 {h : AH} {P : Option Value → AH → Prop} (w : Wf h) (k : ∀ h3, Fr [144] h h3 → (∀ p, p < 64 → gI h3 144 p = gI h 123 p) → Rr mX12_sign 0 0 35 [(0, .ref 116), (1, .int 0), (2, .int 0)] [] h3 P) : ∀ (m p : Nat) (h2 : AH), p + m = 64 → Fr [144] h h2 → (∀ q, q < p → gI h2 144 q = gI h 123 q) → Rr mX12_sign 0 0 7 [(0, .ref 116), (1, .int (nI p))] [] h2 P
  | 0, p, h2, hp, F, e1 => by
    have e : p = 64 := by omega
    subst e
    exact sX12_sign_7 h2 116 _ ⟨fun _ => k h2 F e1, fun q => absurd (by decide) q⟩
  | m + 1, p, h2, hp, F, e1 => by
    have w2 := F.wf w
    refine sX12_sign_7 h2 116 _ ⟨fun q => absurd q ?_, fun _ => ?_⟩
    · rw [show (64 : Int32) = nI 64 from rfl, nI_leI (by decide) (by omega)]
      omega
    rw [w2.f116_16, w2.f116_52, nI_clamp (by omega), nI_1, F.I (r := 123) (by decide)]
    refine ⟨w2.o (by decide) rfl, w2.a (by decide) rfl, vp_in_nI (show p < 128 by omega) (by decide), w2.a (by decide) rfl, vp_in_nI (show p < 64 by omega) (by decide), ?_⟩
    refine sg7 w k m (p + 1) _ (by omega) (F.tr (Fr.sI (by decide))) (fun q hq => ?_)
    by_cases c : q = p
    · subst c
      exact rd_h
    · exact (rd_k c).trans (e1 q (by omega))
theorem rb_or {x y : Int32} {f g : Nat → Bool} (hx : rb x f) (hy : rb y g) : rb (x ||| y) (fun i => f i || g i) := fun i => by
  rw [b_or, hx i, hy i, Bool.and_or_distrib_left]
theorem rb_and {x y : Int32} {f g : Nat → Bool} (hx : rb x f) (hy : rb y g) : rb (x &&& y) (fun i => f i && g i) := fun i => by
  rw [b_and, hx i, hy i]
  cases decide (i < 16) <;> simp
theorem rb_xor {x y : Int32} {f g : Nat → Bool} (hx : rb x f) (hy : rb y g) : rb (x ^^^ y) (fun i => f i ^^ g i) := fun i => by
  rw [b_xor, hx i, hy i]
  cases decide (i < 16) <;> simp
theorem sg35 {h : AH} {P : Option Value → AH → Prop} (w : Wf h) {f : Nat → Nat → Nat → Bool} (hf : ∀ q, q < 4 → Rw h 123 (16 * q) (f q)) (k : P (some (.int (nI (tot (acc f 4) 16)))) h) : ∀ (m y : Nat), y + m = 16 → Rr mX12_sign 0 0 35 [(0, .ref 116), (1, .int (nI (tot (acc f 4) y))), (2, .int (nI y))] [] h P
  | 0, y, hy => by
    have e : y = 16 := by omega
    subst e
    exact sX12_sign_35 h 116 _ _ ⟨fun _ => k, fun q => absurd (by decide) q⟩
  | m + 1, y, hy => by
    refine sX12_sign_35 h 116 _ _ ⟨fun q => absurd q (n16le (by omega)), fun _ => ?_⟩
    have e16 : (16 : Int32) + nI y = nI (16 + y) := nI_add 16 y
    have e32 : (32 : Int32) + nI y = nI (32 + y) := nI_add 32 y
    have e48 : (48 : Int32) + nI y = nI (48 + y) := nI_add 48 y
    rw [w.f116_16, e16, e32, e48, nI_clamp (by omega), nI_clamp (by omega), nI_clamp (by omega), nI_clamp (by omega), nI_1]
    have v : ∀ p, p < 128 → vp_in (nI p) 128 := fun p hp => vp_in_nI hp (by decide)
    refine ⟨w.o (by decide) rfl, w.a (by decide) rfl, v _ (by omega), v _ (by omega), v _ (by omega), v _ (by omega), ?_⟩
    have r0 := (hf 0 (by decide)).rb (y := y) (by omega)
    have r1 := (hf 1 (by decide)).rb (y := y) (by omega)
    have r2 := (hf 2 (by decide)).rb (y := y) (by omega)
    have r3 := (hf 3 (by decide)).rb (y := y) (by omega)
    rw [Nat.mul_zero, Nat.zero_add] at r0
    refine c_bits (f := acc f 4 y) (rb_c (rb_or (rb_or (rb_or r0 r1) r2) r3) (fun i _ => ?_)) ⟨_, rfl, ?_⟩
    · show (((f 0 y i || f 1 y i) || f 2 y i) || f 3 y i) = ((((false || f 0 y i) || f 1 y i) || f 2 y i) || f 3 y i)
      rw [Bool.false_or]
    · rw [nI_add]
      exact sg35 w hf k m (y + 1) (by omega)
theorem pr_sign {j : Nat} {h : AH} (I : Inv j h) : Pair mX11_sign mX12_sign [] h := by
  have w := I.1
  have hj := I.2.1
  have jb := jcase w hj
  refine Call.ofR (by decide +kernel) (Nat.le_of_ble_eq_true rfl) (sX11_sign_0 h 0 ?_)
  rw [w.f0_10]
  refine ⟨w.o (by decide) rfl, (bo82 w).1, ?_⟩
  refine Call.ofR (by decide +kernel) (Nat.le_of_ble_eq_true rfl) (sX0_clear_0 h 82 ⟨(bo82 w).1, ?_⟩)
  rw [w.f82_0]
  refine c_fillL (w.a (by decide) rfl) ⟨rfl, rfl, ?_⟩
  have F0 : Fr [83, 73, 75, 77, 79] h (fillL h 83 0 0) := Fr.rL (by decide)
  have b0 : Bd (fillL h 83 0 0) 83 (fun _ _ => false) := Bd.of (fun v i hv hi => by
    unfold fillL
    rw [gL_rL, if_pos rfl, if_pos ⟨Nat.zero_le _, hv⟩, lb_0])
  refine sg_loop w hj (fun h2 F e1 e2 => ?_) 4 0 _ rfl F0 (fun q hq => absurd hq (Nat.not_lt_zero q)) b0
  have w2 := F.wf w
  refine sX11_sign_9 h2 0 _ ⟨fun _ => ?_, fun q => absurd (by decide) q⟩
  rw [w2.f0_10]
  have F8 : Fr [0] h2 (sI h2 0 8 1) := Fr.sI (by decide)
  have w8 := F8.wf w2
  refine ⟨w2.o (by decide) rfl, (bo82 w2).1, c0_cells (bo82 w8) (e2.ag rfl) ⟨_, rfl, ?_⟩⟩
  -- the reference
  refine Call.ofR (by decide +kernel) (Nat.le_of_ble_eq_true rfl) (sX12_sign_0 _ 116 ⟨w8.o (by decide) rfl, ?_⟩)
  have F9 : Fr [116] (sI h2 0 8 1) (sI (sI h2 0 8 1) 116 51 1) := Fr.sI (by decide)
  have w9 := F9.wf w8
  refine sg7 w9 (fun h3 F3 e3 => ?_) 64 0 _ rfl Fr.rf (fun q hq => absurd hq (Nat.not_lt_zero q))
  have w3 := F3.wf w9
  have a123 : gI h3 123 = gI h 123 := by
    rw [(F3.2.2 123 (by decide)).1]
    show gI h2 123 = _
    rw [(F.2.2 123 (by decide)).1]
  refine sg35 (f := fun q => bf h (j + 7 + 2 * q)) w3 (fun q hq => (job_rw I hq).ag a123) ?_ 16 0 rfl
  refine ⟨rfl, ⟨_, rfl⟩, j, ?_⟩
  -- the invariant
  have FA : Fr [83, 73, 75, 77, 79, 0, 116, 144] h h3 := (((F.sub (by decide)).tr (F8.sub (by decide))).tr (F9.sub (by decide))).tr (F3.sub (by decide))
  have p116 : ∀ k, k ≠ 51 → gI h3 116 k = gI h 116 k := fun k hk => by
    rw [F3.I (by decide), rd_k hk, F8.I (by decide), F.I (by decide)]
  obtain ⟨-, -, ti, fi, ji, ri, mi, si, -, li⟩ := I
  refine ⟨w3, (FA.2.1 0 2).trans hj, ti.keep (FA.I (by decide) 2) (FA.ag (by decide)) (p116 1 (by decide)) (FA.ag (by decide)), fi.keep (FA.I (by decide) 4) (FA.I (by decide) 5) (p116 8 (by decide)) (p116 9 (by decide)), ji.keep (fun r hr => FA.ag (by rcases jb with rfl | rfl <;> revert r <;> decide)) (p116 20 (by decide)), ri.keep (fun r hr => FA.ag (by clear ji ri mi si li; revert r; decide)) (FA.I (by rcases jb with rfl | rfl <;> decide) 3) (p116 23 (by decide)) (p116 24 (by decide)) (p116 25 (by decide)), mi.keep (FA.I (by decide) 5) (FA.ag (by decide)) (p116 43 (by decide)) (FA.ag (by decide)), si.keep (FA.I (by decide) 9) (FA.I (by decide) 10) (FA.I (by decide) 11) (p116 48 (by decide)) (p116 49 (by decide)) (p116 50 (by decide)), ?_, li.keep (FA.I (by decide) 4) (FA.I (by decide) 6) (FA.ag (by decide)) (p116 55 (by decide)) (FA.ag (by decide))⟩
  have v8 : gI h3 0 8 = 1 := by rw [F3.I (by decide), F9.I (by decide)]; exact rd_h
  have v51 : gI h3 116 51 = 1 := by rw [F3.I (by decide)]; exact rd_h
  refine ⟨v8.trans v51.symm, Or.inr v8, fun i y hi hy => ?_⟩
  have g : gL h3 (73 + 2 * i) = gL h2 (73 + 2 * i) := by
    rw [(F3.2.2 (73 + 2 * i) (by simp; omega)).2]
    rfl
  have b := ((e1 i hi).ag g).row hy
  have c : gI h3 144 (16 * i + y) = gI h 123 (16 * i + y) := by
    rw [e3 _ (by omega), F9.I (by decide), F8.I (by decide), F.I (by decide)]
  rw [c]
  exact rb_ext (g := bf h (j + 7 + 2 * i) y) b (bf_Rw (fun y hy => ji.2.2 i y hi hy) y hy)
