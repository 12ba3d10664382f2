def anf (f g : Nat → Nat → Bool) : Nat → Nat → Bool := fun y x => f y x && g y x
theorem bo65 {h : AH} (w : Wf h) : Bo h 65 66 := ⟨w.o (by decide) rfl, w.f65_0, w.a (by decide) rfl, rfl⟩
theorem bo67 {h : AH} (w : Wf h) : Bo h 67 68 := ⟨w.o (by decide) rfl, w.f67_0, w.a (by decide) rfl, rfl⟩
theorem bo69 {h : AH} (w : Wf h) : Bo h 69 70 := ⟨w.o (by decide) rfl, w.f69_0, w.a (by decide) rfl, rfl⟩
theorem ly45 {h : AH} {P : Option Value → AH → Prop} (w : Wf h) {f g : Nat → Nat → Bool} {x4 x5 : Int32} (hf : Bd h 66 f) (hg : Bd h 68 g) (k : ∀ h3, Fr [63, 64] h h3 → Bd h3 63 (orf f g) → Bd h3 64 (anf f g) → Rr mX5_lay 0 0 45 [(0, .ref 62), (4, .int x4), (5, .int x5), (6, .int 4)] [] h3 P) : ∀ (m v : Nat) (h2 : AH), v + m = 4 → Fr [63, 64] h h2 → (∀ u, u < v → gL h2 63 u = gL h 66 u ||| gL h 68 u) → (∀ u, u < v → gL h2 64 u = gL h 66 u &&& gL h 68 u) → Rr mX5_lay 0 0 45 [(0, .ref 62), (4, .int x4), (5, .int x5), (6, .int (nI v))] [] h2 P
  | 0, v, h2, hv, F, e1, e2 => by
    have e : v = 4 := by omega
    subst e
    refine k h2 F (Bd.of (fun u i hu hi => ?_)) (Bd.of (fun u i hu hi => ?_))
    · rw [e1 u hu, lb_or, hf.word hu hi, hg.word hu hi]
      rfl
    · rw [e2 u hu, lb_and, hf.word hu hi, hg.word hu hi]
      rfl
  | m + 1, v, h2, hv, F, e1, e2 => by
    have w2 := F.wf w
    refine sX5_lay_45 h2 62 _ _ _ ⟨fun q => absurd q (n4le (by omega)), fun _ => ?_⟩
    rw [w2.f62_2, w2.f62_3, w2.f62_4, w2.f62_5, w2.f65_0, w2.f67_0, nI_clamp (by omega), nI_1, ld_r (r2 := 66) (by decide), ld_r (r2 := 68) (by decide), F.L (r := 66) (by decide), F.L (r := 68) (by decide)]
    refine ⟨w2.o (by decide) rfl, (bo65 w2).1, (bo65 w2).2.2.1, in4n (by omega), (bo67 w2).1, (bo67 w2).2.2.1, in4n (by omega), w2.a (by decide) rfl, in4n (by omega), w2.a (by decide) rfl, in4n (by omega), ?_⟩
    refine ly45 w hf hg k m (v + 1) _ (by omega) ((F.tr (Fr.sL (by decide))).tr (Fr.sL (by decide))) (fun u hu => ?_) (fun u hu => ?_)
    · rw [ld_r (by decide)]
      by_cases c : u = v
      · subst c
        exact ld_h
      · exact (ld_k c).trans (e1 u (by omega))
    · by_cases c : u = v
      · subst c
        exact ld_h
      · exact (ld_k c).trans ((ld_r (by decide)).trans (e2 u (by omega)))
/-- two shapes laid for looking -/
def Laid (h : AH) (k l : Int32) (f g : Nat → Nat → Bool) (wp op : Int32) : Prop := Bd h 66 (spr k f) ∧ Bd h 68 (spr l g) ∧ Bd h 63 (orf f g) ∧ Bd h 64 (anf f g) ∧ gI h 62 0 = wp ∧ gI h 62 1 = op
theorem c5_lay {j : Nat} {h : AH} {P : Option Value → AH → Prop} (w : Wf h) (hj : gF h 0 2 = j) {a b : Nat} {x y : Int32} (ha : a < 4) (hb : b < 4) (hx : ¬ x < -2 ∧ ¬ 2 < x) (hy : ¬ y < -2 ∧ ¬ 2 < y) (k : ∀ h3, Fr [62, 63, 64, 66, 68] h h3 → (∀ s, 2 ≤ s → gI h3 62 s = gI h 62 s) → Laid h3 x y (bf h (j + 7 + 2 * a)) (bf h (j + 7 + 2 * b)) (gI h j 12) (gI h j 13) → P none h3) : Call mX5_lay [.ref 62, .ref j, .int (nI a), .int (nI b), .int x, .int y] h P := by
  have jb := jcase w hj
  obtain ⟨hO, -, -, -, -, -, f11, -, -, -, -, -⟩ := job_refs w hj
  obtain ⟨-, -, -, -, ⟨a5, l5⟩, -, -, -, -⟩ := job_arrs w hj
  obtain ⟨s1, s2⟩ := job_sh w hj ha
  obtain ⟨t1, t2⟩ := job_sh w hj hb
  refine Call.ofR (by decide +kernel) (Nat.le_of_ble_eq_true rfl) (sX5_lay_0 h 62 j _ _ _ _ ?_)
  simp only [gF_rL, gF_sI]
  rw [f11, w.f62_4, w.f62_5, w.f65_0, w.f67_0, nI_clamp (n := a) (by omega), nI_clamp (n := b) (by omega), s1, t1, s2.2.1, t2.2.1, l5, s2.2.2.2, t2.2.2.2, cl0, cl4]
  refine ⟨hO, w.o (by decide) rfl, a5, in4n ha, (bo65 w).1, s2.1, s2.2.2.1, (bo65 w).2.2.1, by decide, by decide, a5, in4n hb, (bo67 w).1, t2.1, t2.2.2.1, (bo67 w).2.2.1, by decide, by decide, ?_⟩
  have FA : Fr [62, 63, 64, 66, 68] h (sI (sI h 62 0 (gI h j 12)) 62 1 (gI h j 13)) := (Fr.sI (by decide)).tr (Fr.sI (by decide))
  have gA : ∀ s, 2 ≤ s → gI (sI (sI h 62 0 (gI h j 12)) 62 1 (gI h j 13)) 62 s = gI h 62 s := fun s hs => (rd_k (by omega)).trans (rd_k (by omega))
  have gA0 : gI (sI (sI h 62 0 (gI h j 12)) 62 1 (gI h j 13)) 62 0 = gI h j 12 := (rd_k (by decide)).trans rd_h
  have gA1 : gI (sI (sI h 62 0 (gI h j 12)) 62 1 (gI h j 13)) 62 1 = gI h j 13 := rd_h
  have bA : ∀ r, bf (sI (sI h 62 0 (gI h j 12)) 62 1 (gI h j 13)) r = bf h r := fun r => rfl
  generalize sI (sI h 62 0 (gI h j 12)) 62 1 (gI h j 13) = hA at FA gA gA0 gA1 bA ⊢
  have FB : Fr [62, 63, 64, 66, 68] hA (rL hA 66 (va_cpy (gL hA (j + 7 + 2 * a)) (gL hA 66) 0 0 4)) := Fr.rL (by decide)
  have bB66 : Bd (rL hA 66 (va_cpy (gL hA (j + 7 + 2 * a)) (gL hA 66) 0 0 4)) 66 (bf h (j + 7 + 2 * a)) := by
    rw [← bA]
    exact cpy_b (bf_Bd hA _)
  have bB : bf (rL hA 66 (va_cpy (gL hA (j + 7 + 2 * a)) (gL hA 66) 0 0 4)) (j + 7 + 2 * b) = bf h (j + 7 + 2 * b) := by
    rw [← bA]
    refine bf_c ?_
    funext z
    rw [gL_rL, if_neg (by rcases jb with rfl | rfl <;> omega)]
  have gB : gI (rL hA 66 (va_cpy (gL hA (j + 7 + 2 * a)) (gL hA 66) 0 0 4)) 62 = gI hA 62 := rfl
  generalize rL hA 66 (va_cpy (gL hA (j + 7 + 2 * a)) (gL hA 66) 0 0 4) = hB at FB bB66 bB gB ⊢
  have FC : Fr [62, 63, 64, 66, 68] hB (rL hB 68 (va_cpy (gL hB (j + 7 + 2 * b)) (gL hB 68) 0 0 4)) := Fr.rL (by decide)
  have bC68 : Bd (rL hB 68 (va_cpy (gL hB (j + 7 + 2 * b)) (gL hB 68) 0 0 4)) 68 (bf h (j + 7 + 2 * b)) := by
    rw [← bB]
    exact cpy_b (bf_Bd hB _)
  have bC66 : Bd (rL hB 68 (va_cpy (gL hB (j + 7 + 2 * b)) (gL hB 68) 0 0 4)) 66 (bf h (j + 7 + 2 * a)) := bB66.ag (by
    funext z
    rw [gL_rL, if_neg (by decide)])
  have gC : gI (rL hB 68 (va_cpy (gL hB (j + 7 + 2 * b)) (gL hB 68) 0 0 4)) 62 = gI hB 62 := rfl
  generalize rL hB 68 (va_cpy (gL hB (j + 7 + 2 * b)) (gL hB 68) 0 0 4) = hC at FC bC66 bC68 gC ⊢
  have F3 := (FA.tr FB).tr FC
  have wC := F3.wf w
  refine ly45 wC bC66 bC68 (fun h3 F4 o3 a3 => ?_) 4 0 hC rfl Fr.rf (fun u hu => absurd hu (Nat.not_lt_zero u)) (fun u hu => absurd hu (Nat.not_lt_zero u))
  have w3 := F4.wf wC
  refine sX5_lay_45 h3 62 _ _ _ ⟨fun _ => ?_, fun q => absurd (by decide) q⟩
  rw [w3.f62_4]
  refine ⟨w3.o (by decide) rfl, (bo65 w3).1, c0_grow (bo65 w3) (bC66.ag (F4.2.2 66 (by decide)).2) hx (fun h4 F5 e5 => ⟨rfl, ?_⟩)⟩
  have w4 := F5.wf w3
  rw [w4.f62_5]
  refine ⟨w4.o (by decide) rfl, (bo67 w4).1, c0_grow (bo67 w4) (bC68.ag ((F5.2.2 68 (by decide)).2.trans (F4.2.2 68 (by decide)).2)) hy (fun h5 F6 e6 => ⟨rfl, ?_⟩)⟩
  have gg : gI h5 62 = gI hA 62 := by
    rw [(F6.2.2 62 (by decide)).1, (F5.2.2 62 (by decide)).1, (F4.2.2 62 (by decide)).1, gC, gB]
  refine k h5 (((F3.tr (F4.sub (by decide))).tr (F5.sub (by decide))).tr (F6.sub (by decide))) (fun s hs => ?_) ⟨e5.ag (F6.2.2 66 (by decide)).2, e6, o3.ag ((F6.2.2 63 (by decide)).2.trans (F5.2.2 63 (by decide)).2), a3.ag ((F6.2.2 64 (by decide)).2.trans (F5.2.2 64 (by decide)).2), ?_, ?_⟩
  · rw [gg]
    exact gA s hs
  · rw [gg]
    exact gA0
  · rw [gg]
    exact gA1
def seW (k l i j : Int32) (f g : Nat → Nat → Bool) : Nat → Nat → Bool := fun y x => (f y x || g y x) && !(spr k f y x || mvy j (mvx i (spr l g)) y x)
def seO (k l i j : Int32) (f g : Nat → Nat → Bool) : Nat → Nat → Bool := fun y x => (spr k f y x && mvy j (mvx i (spr l g)) y x) && !(f y x && g y x)
def seV (k l : Int32) (f g : Nat → Nat → Bool) (wp op : Int32) (i j : Int32) : Int32 := wp * nI (tot (seW k l i j f g) 16) + op * nI (tot (seO k l i j f g) 16)
theorem sl32 {h : AH} {P : Option Value → AH → Prop} (w : Wf h) {f1 s2 wn cm fw fo : Nat → Nat → Bool} (b66 : Bd h 66 f1) (b70 : Bd h 70 s2) (b63 : Bd h 63 wn) (b64 : Bd h 64 cm) (hw : ∀ y x, fw y x = (wn y x && !(f1 y x || s2 y x))) (ho : ∀ y x, fo y x = (f1 y x && s2 y x && !cm y x)) (k : ∀ h3, Fr [62] h h3 → gI h3 62 7 = nI (tot fw 16) → gI h3 62 8 = nI (tot fo 16) → (∀ s, s ≠ 7 → s ≠ 8 → gI h3 62 s = gI h 62 s) → P (some (.int (gI h 62 0 * nI (tot fw 16) + gI h 62 1 * nI (tot fo 16)))) h3) : ∀ (m v : Nat) (h2 : AH), v + m = 4 → Fr [62] h h2 → gI h2 62 7 = nI (tot fw (4 * v)) → gI h2 62 8 = nI (tot fo (4 * v)) → (∀ s, s ≠ 7 → s ≠ 8 → gI h2 62 s = gI h 62 s) → gL h2 62 = gL h 62 → Rr mX5_slip 0 0 32 [(0, .ref 62), (3, .int (nI v))] [] h2 P
  | 0, v, h2, hv, F, e7, e8, es, el => by
    have e : v = 4 := by omega
    subst e
    refine sX5_slip_32 h2 62 _ ⟨fun _ => ⟨(F.wf w).o (by decide) rfl, ?_⟩, fun q => absurd (by decide) q⟩
    rw [e7, e8, es 0 (by decide) (by decide), es 1 (by decide) (by decide)]
    exact k h2 F e7 e8 es
  | m + 1, v, h2, hv, F, e7, e8, es, el => by
    have w2 := F.wf w
    refine sX5_slip_32 h2 62 _ ⟨fun q => absurd q (n4le (by omega)), fun _ => ?_⟩
    rw [w2.f62_2, w2.f62_4, w2.f62_6, w2.f65_0, w2.f69_0, nI_clamp (by omega), nI_1, F.L (r := 63) (by decide), F.L (r := 66) (by decide), F.L (r := 70) (by decide), e7]
    refine ⟨w2.o (by decide) rfl, (bo65 w2).1, (bo65 w2).2.2.1, in4n (by omega), (bo69 w2).1, (bo69 w2).2.2.1, in4n (by omega), w2.a (by decide) rfl, in4n (by omega), c_bitCount ⟨_, rfl, w2.o (by decide) rfl, ?_⟩⟩
    rw [w2.f62_3, F.L (r := 64) (by decide), e8]
    have hv4 : v < 4 := by omega
    refine ⟨w2.a (by decide) rfl, in4n (by omega), c_bitCount ⟨_, rfl, ?_⟩⟩
    rw [nI_add, nI_add, ← tot_word (f := fw) (w := v) (fun i hi => ?_), ← tot_word (f := fo) (w := v) (fun i hi => ?_)]
    · refine ⟨w2.o (by decide) rfl, ?_⟩
      refine sl32 w b66 b70 b63 b64 hw ho k m (v + 1) _ (by omega) ((F.tr (Fr.sI (by decide))).tr (Fr.sI (by decide))) ((rd_k (by decide)).trans rd_h) rd_h (fun s h7 h8 => (rd_k h8).trans ((rd_k h7).trans (es s h7 h8))) el
    · rw [lb_and, lb_xor, lb_and, b66.word hv4 hi, b70.word hv4 hi, b64.word hv4 hi, lb_m1 hi, Bool.xor_true, ho]
    · rw [lb_and, lb_xor, lb_or, b63.word hv4 hi, b66.word hv4 hi, b70.word hv4 hi, lb_m1 hi, Bool.xor_true, hw]
theorem c5_slip {h : AH} {P : Option Value → AH → Prop} (w : Wf h) {k l i j wp op : Int32} {f g : Nat → Nat → Bool} (hi : ¬ i < -2 ∧ ¬ 2 < i) (hj : ¬ j < -2 ∧ ¬ 2 < j) (L : Laid h k l f g wp op) (kk : ∀ h3, Fr [62, 70] h h3 → gI h3 62 7 = nI (tot (seW k l i j f g) 16) → gI h3 62 8 = nI (tot (seO k l i j f g) 16) → (∀ s, s ≠ 7 → s ≠ 8 → gI h3 62 s = gI h 62 s) → P (some (.int (seV k l f g wp op i j))) h3) : Call mX5_slip [.ref 62, .int i, .int j] h P := by
  obtain ⟨l66, l68, l63, l64, lw, lo⟩ := L
  refine Call.ofR (by decide +kernel) (Nat.le_of_ble_eq_true rfl) (sX5_slip_0 h 62 _ _ ?_)
  simp only [gF_rL]
  rw [w.f62_5, w.f62_6, w.f67_0, w.f69_0, cl0, cl4]
  have F1 : Fr [70] h (rL h 70 (va_cpy (gL h 68) (gL h 70) 0 0 4)) := Fr.rL (by decide)
  refine ⟨w.o (by decide) rfl, (bo69 w).1, (bo67 w).1, (bo67 w).2.2.1, (bo69 w).2.2.1, by decide, by decide, (bo69 w).1, ?_⟩
  refine c0_move ((bo69 w).fr F1) (cpy_b l68) hi hj (fun h2 F2 e2 => ⟨rfl, (F1.tr F2).wf w |>.o (by decide) rfl, ?_⟩)
  have G := F1.tr F2
  have w2 := G.wf w
  have F3 : Fr [62] h2 (sI (sI h2 62 7 0) 62 8 0) := (Fr.sI (by decide)).tr (Fr.sI (by decide))
  have w3 := F3.wf w2
  have q0 : gI (sI (sI h2 62 7 0) 62 8 0) 62 0 = wp := by
    rw [rd_k (by decide), rd_k (by decide), G.I (by decide)]
    exact lw
  have q1 : gI (sI (sI h2 62 7 0) 62 8 0) 62 1 = op := by
    rw [rd_k (by decide), rd_k (by decide), G.I (by decide)]
    exact lo
  refine sl32 (fw := seW k l i j f g) (fo := seO k l i j f g) w3 (l66.ag (G.2.2 66 (by decide)).2) e2 (l63.ag (G.2.2 63 (by decide)).2) (l64.ag (G.2.2 64 (by decide)).2) (fun _ _ => rfl) (fun _ _ => rfl) (fun h3 F4 e7 e8 es => ?_) 4 0 _ rfl Fr.rf ((rd_k (by decide)).trans rd_h) rd_h (fun _ _ _ => rfl) rfl
  rw [q0, q1]
  refine kk h3 (((G.sub (by decide)).tr (F3.sub (by decide))).tr (F4.sub (by decide))) e7 e8 (fun s h7 h8 => ?_)
  rw [es s h7 h8, rd_k h8, rd_k h7, G.I (by decide)]
theorem Laid.keep {h h2 : AH} {k l wp op : Int32} {f g : Nat → Nat → Bool} (L : Laid h k l f g wp op) (F : Fr [62, 70] h h2) (es : ∀ s, s ≠ 7 → s ≠ 8 → gI h2 62 s = gI h 62 s) : Laid h2 k l f g wp op :=
  ⟨L.1.ag (F.2.2 66 (by decide)).2, L.2.1.ag (F.2.2 68 (by decide)).2, L.2.2.1.ag (F.2.2 63 (by decide)).2, L.2.2.2.1.ag (F.2.2 64 (by decide)).2, (es 0 (by decide) (by decide)).trans L.2.2.2.2.1, (es 1 (by decide) (by decide)).trans L.2.2.2.2.2⟩
/-! the reference -/
theorem rb_not {x y : Int32} {f g : Nat → Bool} (hx : rb x f) (hy : rb y g) : rb (x &&& (y ^^^ (-1))) (fun i => f i && !g i) := fun i => by
  have e : ∀ i, i < 32 → bt (-1) i = true := by decide +kernel
  rcases Nat.lt_or_ge i 32 with q | q
  · rw [b_and, b_xor, hx i, hy i, e i q, Bool.xor_true]
    cases decide (i < 16) <;> simp
  · rw [b_big q, decide_eq_false (by omega), Bool.false_and]
theorem lk39 {h : AH} {P : Option Value → AH → Prop} (w : Wf h) {a b : Nat} (ha : a < 4) (hb : b < 4) {k l i j : Int32} {f g : Nat → Nat → Bool} (hf : Rw h 123 (16 * a) f) (hg : Rw h 123 (16 * b) g) (h1 : Rw h 143 0 (spr k f)) (h2 : Rw h 143 16 (mvy j (mvx i (spr l g)))) (kk : ∀ h3, Fr [116] h h3 → gI h3 116 46 = nI (tot (seW k l i j f g) 16) → gI h3 116 47 = nI (tot (seO k l i j f g) 16) → (∀ s, s ≠ 46 → s ≠ 47 → gI h3 116 s = gI h 116 s) → P (some (.int (nI (tot (seW k l i j f g) 16) * gI h 118 6 + nI (tot (seO k l i j f g) 16) * gI h 118 7))) h3) : ∀ (m y : Nat) (h4 : AH), y + m = 16 → Fr [116] h h4 → gI h4 116 46 = nI (tot (seW k l i j f g) y) → gI h4 116 47 = nI (tot (seO k l i j f g) y) → (∀ s, s ≠ 46 → s ≠ 47 → gI h4 116 s = gI h 116 s) → Rr mX12_look 0 0 39 [(0, .ref 116), (1, .int (nI a)), (2, .int (nI b)), (7, .int (nI y))] [] h4 P
  | 0, y, h4, hy, F, e6, e7, es => by
    have e : y = 16 := by omega
    subst e
    have w4 := F.wf w
    refine sX12_look_39 h4 116 _ _ _ ⟨fun _ => ?_, fun q => absurd (by decide) q⟩
    rw [w4.f116_11, e6, e7, show Int32.toNatClampNeg 6 = 6 from rfl, show Int32.toNatClampNeg 7 = 7 from rfl, F.I (r := 118) (by decide), F.I (r := 118) (by decide)]
    exact ⟨w4.o (by decide) rfl, w4.a (by decide) rfl, by show vp_in 6 18; rw [vin_18]; decide, by show vp_in 7 18; rw [vin_18]; decide, kk h4 F e6 e7 es⟩
  | m + 1, y, h4, hy, F, e6, e7, es => by
    have w4 := F.wf w
    have y16 : y < 16 := by omega
    refine sX12_look_39 h4 116 _ _ _ ⟨fun q => absurd q (n16le (by omega)), fun _ => ?_⟩
    have e16 : (16 : Int32) + nI y = nI (16 + y) := nI_add 16 y
    have em : ∀ q : Nat, (16 : Int32) * nI q + nI y = nI (16 * q + y) := fun q => by
      rw [show (16 : Int32) = nI 16 from rfl, pk_mul, nI_add]
    rw [w4.f116_16, w4.f116_45, em a, em b, Int32.zero_add, e16, nI_clamp (by omega), nI_clamp (by omega), nI_clamp (by omega), nI_clamp (by omega), nI_1, F.I (r := 123) (by decide), F.I (r := 123) (by decide), F.I (r := 143) (by decide), F.I (r := 143) (by decide), e6]
    have v : ∀ p, p < 128 → vp_in (nI p) 128 := fun p hp => vp_in_nI hp (by decide)
    have ra := hf.rb y16
    have rbb := hg.rb y16
    have r1 := h1.rb y16
    have r2 := h2.rb y16
    rw [Nat.zero_add] at r1
    refine ⟨w4.o (by decide) rfl, w4.a (by decide) rfl, v _ (by omega), v _ (by omega), w4.a (by decide) rfl, in64 (by omega), in64 (by omega), ?_⟩
    refine c_bits (f := seW k l i j f g y) (rb_c (rb_not (rb_or ra rbb) (rb_or r1 r2)) (fun _ _ => rfl)) ⟨_, rfl, w4.o (by decide) rfl, ?_⟩
    rw [w4.f116_45, F.I (r := 143) (by decide), F.I (r := 143) (by decide), e7]
    refine ⟨w4.a (by decide) rfl, in64 (by omega), in64 (by omega), ?_⟩
    refine c_bits (f := seO k l i j f g y) (rb_c (rb_not (rb_and r1 r2) (rb_and ra rbb)) (fun _ _ => rfl)) ⟨_, rfl, w4.o (by decide) rfl, ?_⟩
    rw [nI_add, nI_add]
    exact lk39 w ha hb hf hg h1 h2 kk m (y + 1) _ (by omega) ((F.tr (Fr.sI (by decide))).tr (Fr.sI (by decide))) ((rd_k (by decide)).trans rd_h) rd_h (fun s h7 h8 => (rd_k h8).trans ((rd_k h7).trans (es s h7 h8)))
theorem c12_look {h : AH} {P : Option Value → AH → Prop} (w : Wf h) {a b : Nat} (ha : a < 4) (hb : b < 4) {k l i j wp op : Int32} {f g : Nat → Nat → Bool} (hk : ¬ k < -2 ∧ ¬ 2 < k) (hl : ¬ l < -2 ∧ ¬ 2 < l) (hi : ¬ i < -2 ∧ ¬ 2 < i) (hj : ¬ j < -2 ∧ ¬ 2 < j) (hf : Rw h 123 (16 * a) f) (hg : Rw h 123 (16 * b) g) (hwp : gI h 118 6 = wp) (hop : gI h 118 7 = op) (kk : ∀ h3, Fr [116, 143] h h3 → gI h3 116 46 = nI (tot (seW k l i j f g) 16) → gI h3 116 47 = nI (tot (seO k l i j f g) 16) → (∀ s, s ≠ 46 → s ≠ 47 → gI h3 116 s = gI h 116 s) → P (some (.int (seV k l f g wp op i j))) h3) : Call mX12_look [.ref 116, .int (nI a), .int (nI b), .int k, .int l, .int i, .int j] h P := by
  refine Call.ofR (by decide +kernel) (Nat.le_of_ble_eq_true rfl) (sX12_look_0 h 116 _ _ _ _ _ _ ⟨w.o (by decide) rfl, ?_⟩)
  refine c12_spread (to := 0) w hk ha (by decide) hf (fun h1 F1 e1 u1 => ⟨rfl, (F1.wf w).o (by decide) rfl, ?_⟩)
  have w1 := F1.wf w
  refine c12_spread (to := 16) w1 hl hb (by decide) (hg.ag (F1.2.2 123 (by decide)).1) (fun h2 F2 e2 u2 => ⟨rfl, (F2.wf w1).o (by decide) rfl, ?_⟩)
  have w2 := F2.wf w1
  refine c12_carry w2 hi hj e2 (fun h3 F3 e3 u3 => ⟨rfl, (F3.wf w2).o (by decide) rfl, ?_⟩)
  have w3 := F3.wf w2
  have G := (F1.tr F2).tr F3
  have F4 : Fr [116] h3 (sI (sI h3 116 46 0) 116 47 0) := (Fr.sI (by decide)).tr (Fr.sI (by decide))
  have w4 := F4.wf w3
  have r1 : Rw h3 143 0 (spr k f) := fun y hy i => by
    rw [u3 _ (by omega), u2 _ (by omega) (by omega)]
    exact e1 y hy i
  refine lk39 w4 ha hb ((hf.ag (G.2.2 123 (by decide)).1).ag (F4.2.2 123 (by decide)).1) ((hg.ag (G.2.2 123 (by decide)).1).ag (F4.2.2 123 (by decide)).1) (r1.ag (F4.2.2 143 (by decide)).1) (e3.ag (F4.2.2 143 (by decide)).1) (fun h5 F5 e6 e7 es => ?_) 16 0 _ rfl Fr.rf ((rd_k (by decide)).trans rd_h) rd_h (fun _ _ _ => rfl)
  rw [F4.I (r := 118) (by decide), F4.I (r := 118) (by decide), G.I (r := 118) (by decide), G.I (r := 118) (by decide), hwp, hop, Int32.mul_comm, Int32.mul_comm _ op]
  refine kk h5 (((G.sub (by decide)).tr (F4.sub (by decide))).tr (F5.sub (by decide))) e6 e7 (fun s h6 h7 => ?_)
  rw [es s h6 h7, rd_k h7, rd_k h6, G.I (by decide)]
