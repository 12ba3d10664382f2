theorem inv_see {j : Nat} {h h2 h3 : AH} (I : Inv j h) (F : Fr [62, 63, 64, 66, 68, 70] h h2) (es : ∀ s, 9 ≤ s → gI h2 62 s = gI h 62 s) (G : Fr [116, 143] h2 h3) (gs : ∀ s, s ≠ 46 → s ≠ 47 → gI h3 116 s = gI h2 116 s) : Inv j h3 := by
  have jb := jcase I.1 I.2.1
  have FA : Fr [62, 63, 64, 66, 68, 70, 116, 143] h h3 := (F.sub (by decide)).tr (G.sub (by decide))
  refine inv_keep I FA (by rcases jb with rfl | rfl <;> decide) (fun q hq => ?_)
  by_cases c : q.1 = 62
  · have c9 : 9 ≤ q.2 := (by decide : ∀ q ∈ IPS, q.1 = 62 → 9 ≤ q.2) q hq c
    rw [c, G.I (by decide), es _ c9]
  by_cases c2 : q.1 = 116
  · have c9 : q.2 ≠ 46 ∧ q.2 ≠ 47 := (by decide : ∀ q ∈ IPS, q.1 = 116 → q.2 ≠ 46 ∧ q.2 ≠ 47) q hq c2
    rw [c2, gs _ c9.1 c9.2, F.I (by decide)]
  · exact FA.I ((by decide : ∀ q ∈ IPS, q.1 ≠ 62 → q.1 ≠ 116 → q.1 ∉ [62, 63, 64, 66, 68, 70, 116, 143]) q hq c c2) _
theorem two_inks {x y : Int32} (c : (¬ x < 0 ∧ ¬ 4 ≤ x) ∧ (¬ y < 0 ∧ ¬ 4 ≤ y) ∧ ¬ x = y) : ∃ a b : Nat, a < 4 ∧ b < 4 ∧ x = nI a ∧ y = nI b := by
  obtain ⟨a, ha, e1⟩ : ∃ n : Nat, n ≤ 3 ∧ x = nI n := nI_of2 (M := 3) rfl c.1.1 (by grind)
  obtain ⟨b, hb, e2⟩ : ∃ n : Nat, n ≤ 3 ∧ y = nI n := nI_of2 (M := 3) rfl c.2.1.1 (by grind)
  exact ⟨a, b, by omega, by omega, e1, e2⟩
theorem ink34 {x y : Int32} : ((¬ x < 0 ∧ ¬ 4 ≤ x) ∧ (¬ y < 0 ∧ ¬ 4 ≤ y) ∧ ¬ x = y) ↔ ((¬ x < 0 ∧ ¬ 3 < x) ∧ (¬ y < 0 ∧ ¬ 3 < y) ∧ ¬ x = y) := by
  constructor <;> intro c <;> grind
theorem pr_seen {j : Nat} {h : AH} (I : Inv j h) (x1 x2 x3 x4 x5 x6 x7 : Int32) : Pair mX11_seen mX12_seen [.int x1, .int x2, .int x3, .int x4, .int x5, .int x6, .int x7] h := by
  have w := I.1
  have hj := I.2.1
  have jb := jcase w hj
  have rf : ¬ (((¬ x1 < 0 ∧ ¬ 4 ≤ x1) ∧ (¬ x2 < 0 ∧ ¬ 4 ≤ x2) ∧ ¬ x1 = x2) ∧ (¬ x3 < -2 ∧ ¬ 2 < x3) ∧ (¬ x4 < -2 ∧ ¬ 2 < x4) ∧ (¬ x5 < -2 ∧ ¬ 2 < x5) ∧ (¬ x6 < -2 ∧ ¬ 2 < x6) ∧ ¬ x7 < 0 ∧ x7 ≤ 2) → Call mX12_seen [.ref 116, .int x1, .int x2, .int x3, .int x4, .int x5, .int x6, .int x7] h (fun v2 h2 => v2 = some (.int (-2)) ∧ (∃ z : Int32, some (Value.int (-2)) = some (.int z)) ∧ ∃ j, Inv j h2) := fun c => by
    have fin : (some (Value.int (-2)) = some (Value.int (-2))) ∧ (∃ z : Int32, some (Value.int (-2)) = some (.int z)) ∧ ∃ j, Inv j h := ⟨rfl, ⟨_, rfl⟩, j, I⟩
    exact Call.ofR (by decide +kernel) (Nat.le_of_ble_eq_true rfl) (sX12_seen_0 h 116 _ _ _ _ _ _ _ ⟨fun _ => fin, fun c1 => ⟨fun _ => fin, fun c2 => ⟨fun _ => fin, fun c3 => ⟨fun _ => fin, fun c4 => ⟨fun _ => fin, fun c5 => ⟨fun c6 => absurd ⟨ink34.mpr c1, c2, c3, c4, c5, c6.1, by clear I c fin; grind⟩ c, fun _ => fin⟩⟩⟩⟩⟩⟩)
  refine Call.ofR (by decide +kernel) (Nat.le_of_ble_eq_true rfl) (sX11_seen_0 h 0 _ _ _ _ _ _ _ ⟨fun c => rf (fun q => c q.1), fun c1 => ⟨fun c => rf (fun q => c q.2.1), fun c2 => ⟨fun c3 => ⟨fun c => rf (fun q => c q.2.2.2.1), fun c4 => ⟨fun c => rf (fun q => c q.2.2.2.2.1), fun c5 => ⟨fun c => rf (fun q => q.2.2.2.2.2.1 c), fun c6 => ⟨fun c7 => ?_, fun c => rf (fun q => c q.2.2.2.2.2.2)⟩⟩⟩⟩, fun c => rf (fun q => c q.2.2.1)⟩⟩⟩)
  clear rf
  have c1' := ink34.mp c1
  obtain ⟨a, b, ha, hb, rfl, rfl⟩ := two_inks c1
  rw [w.f0_6, hj]
  refine ⟨w.o (by decide) rfl, w.o (by decide) rfl, c5_lay w hj ha hb c2 c3 (fun h1 F1 e1 L1 => ⟨rfl, (F1.wf w).o (by decide) rfl, ?_⟩)⟩
  have w1 := F1.wf w
  rw [w1.f0_6]
  refine ⟨w1.o (by decide) rfl, c5_slip w1 c4 c5 L1 (fun h2 F2 s7 s8 ss => ⟨_, rfl, ?_⟩)⟩
  have w2 := F2.wf w1
  have G : Fr [62, 63, 64, 66, 68, 70] h h2 := (F1.sub (by decide)).tr (F2.sub (by decide))
  have gs : ∀ s, 9 ≤ s → gI h2 62 s = gI h 62 s := fun s hs => (ss s (by omega) (by omega)).trans (e1 s (by omega))
  have n6 : gI h 118 6 = gI h j 12 := I.2.2.2.2.1.1.2.2.2.2.2.2.2.1.1.symm
  have n7 : gI h 118 7 = gI h j 13 := I.2.2.2.2.1.1.2.2.2.2.2.2.2.2.1.1.symm
  have ref : ∀ v : Int32, v = (if x7 = 0 then nI (tot (seW x3 x4 x5 x6 (bf h (j + 7 + 2 * a)) (bf h (j + 7 + 2 * b))) 16) else if x7 = 1 then nI (tot (seO x3 x4 x5 x6 (bf h (j + 7 + 2 * a)) (bf h (j + 7 + 2 * b))) 16) else seV x3 x4 (bf h (j + 7 + 2 * a)) (bf h (j + 7 + 2 * b)) (gI h j 12) (gI h j 13) x5 x6) → Call mX12_seen [.ref 116, .int (nI a), .int (nI b), .int x3, .int x4, .int x5, .int x6, .int x7] h2 (fun v2 h2 => v2 = some (.int v) ∧ (∃ z : Int32, some (Value.int v) = some (.int z)) ∧ ∃ j, Inv j h2) := fun v hv => by
    refine Call.ofR (by decide +kernel) (Nat.le_of_ble_eq_true rfl) (sX12_seen_0 h2 116 _ _ _ _ _ _ _ ⟨fun q => absurd c1' q, fun _ => ⟨fun q => absurd c2 q, fun _ => ⟨fun q => absurd c3 q, fun _ => ⟨fun q => absurd c4 q, fun _ => ⟨fun q => absurd c5 q, fun _ => ⟨fun _ => ⟨w2.o (by decide) rfl, ?_⟩, fun q => absurd ?_ q⟩⟩⟩⟩⟩⟩)
    · refine c12_look w2 ha hb c2 c3 c4 c5 ((job_rw I ha).ag (G.2.2 123 (by decide)).1) ((job_rw I hb).ag (G.2.2 123 (by decide)).1) ((G.I (by decide) 6).trans n6) ((G.I (by decide) 7).trans n7) (fun h3 F3 e6 e7 es => ⟨_, rfl, (F3.wf w2).o (by decide) rfl, fun z hz => ⟨?_, ⟨_, rfl⟩, j, inv_see I G gs F3 es⟩⟩)
      rw [hz, hv, e6, e7]
    · clear I; grind
  refine ⟨fun q => ?_, fun q => ⟨fun q2 => ?_, fun q2 => ?_⟩⟩
  · rw [w2.f0_6, s7]
    exact ⟨w2.o (by decide) rfl, w2.o (by decide) rfl, ref _ (by rw [if_pos q])⟩
  · rw [w2.f0_6, s8]
    exact ⟨w2.o (by decide) rfl, w2.o (by decide) rfl, ref _ (by rw [if_neg q, if_pos q2])⟩
  · exact ref _ (by rw [if_neg q, if_neg q2])
def wj (V : Int32 → Int32 → Int32) (i : Int32) : Nat → Int32 → Int32 → Int32
  | 0, _, a => a
  | m + 1, jj, a => wj V i m (jj + 1) (imax a (V i jj))
def wi (V : Int32 → Int32 → Int32) (d : Nat) : Nat → Int32 → Int32 → Int32
  | 0, _, a => a
  | m + 1, ii, a => wi V d m (ii + 1) (wj V ii (2 * d + 1) (-(nI d)) a)
theorem wcnd : ∀ (d : Fin 3) (m : Fin 6), m.val ≤ 2 * d.val + 1 → ((nI d < nI d + 1 - nI m) ↔ m.val = 0) ∧ (m.val ≠ 0 → (¬ (nI d + 1 - nI m) < -2 ∧ ¬ 2 < (nI d + 1 - nI m)) ∧ (nI d + 1 - nI m) + 1 = nI d + 1 - nI (m.val - 1)) := by decide +kernel
theorem wstart : ∀ d : Fin 3, -(nI d) = nI d + 1 - nI (2 * d.val + 1) := by decide +kernel
theorem imax_le (a b : Int32) : imax a b = if b ≤ a then a else b := by
  unfold imax
  by_cases c : a < b
  · rw [if_pos c, if_neg (by grind)]
  · rw [if_neg c, if_pos (by grind)]
/-- what the press may change as it looks -/
def SF (h h2 : AH) : Prop := Fr [62, 70] h h2 ∧ ∀ s, s ≠ 7 → s ≠ 8 → gI h2 62 s = gI h 62 s
theorem ww14 {h : AH} {P : Option Value → AH → Prop} (w : Wf h) {k l wp op : Int32} {f g : Nat → Nat → Bool} (L : Laid h k l f g wp op) {d : Nat} (hd : d < 3) {i : Int32} (hi : ¬ i < -2 ∧ ¬ 2 < i) : ∀ (m : Nat) (jj acc : Int32) (h2 : AH), m ≤ 2 * d + 1 → jj = nI d + 1 - nI m → SF h h2 → (∀ h3, SF h h3 → Rr mX5_worstWithin 0 0 5 [(0, .ref 62), (1, .int (nI d)), (2, .int (wj (seV k l f g wp op) i m jj acc)), (3, .int (i + 1))] [] h3 P) → Rr mX5_worstWithin 0 0 14 [(0, .ref 62), (1, .int (nI d)), (2, .int acc), (3, .int i), (4, .int jj)] [] h2 P
  | 0, jj, acc, h2, hm, hj, S, kk => by
    have q := (wcnd ⟨d, hd⟩ ⟨0, by decide⟩ (Nat.zero_le _)).1
    simp only at q
    refine sX5_worstWithin_14 h2 62 _ _ _ _ ⟨fun _ => kk h2 S, fun c => absurd ?_ c⟩
    rw [hj]
    exact q.mpr trivial
  | m + 1, jj, acc, h2, hm, hj, S, kk => by
    obtain ⟨q1, q2⟩ := wcnd ⟨d, hd⟩ ⟨m + 1, by omega⟩ hm
    simp only at q1 q2
    obtain ⟨r, st⟩ := q2 (by omega)
    rw [← hj] at q1 r st
    have w2 := S.1.wf w
    refine sX5_worstWithin_14 h2 62 _ _ _ _ ⟨fun c => absurd (q1.mp c) (by omega), fun _ => ⟨w2.o (by decide) rfl, ?_⟩⟩
    refine c5_slip w2 hi r (L.keep S.1 S.2) (fun h3 F3 _ _ es => ⟨_, rfl, ?_⟩)
    refine ww14 w L hd hi m (jj + 1) _ h3 (by omega) ?_ ⟨S.1.tr F3, fun s h7 h8 => (es s h7 h8).trans (S.2 s h7 h8)⟩ kk
    rw [st]
    rfl
theorem ww5 {h : AH} {P : Option Value → AH → Prop} (w : Wf h) {k l wp op : Int32} {f g : Nat → Nat → Bool} (L : Laid h k l f g wp op) {d : Nat} (hd : d < 3) : ∀ (m : Nat) (ii acc : Int32) (h2 : AH), m ≤ 2 * d + 1 → ii = nI d + 1 - nI m → SF h h2 → (∀ h3, SF h h3 → P (some (.int (wi (seV k l f g wp op) d m ii acc))) h3) → Rr mX5_worstWithin 0 0 5 [(0, .ref 62), (1, .int (nI d)), (2, .int acc), (3, .int ii)] [] h2 P
  | 0, ii, acc, h2, hm, hj, S, kk => by
    have q := (wcnd ⟨d, hd⟩ ⟨0, by decide⟩ (Nat.zero_le _)).1
    simp only at q
    refine sX5_worstWithin_5 h2 62 _ _ _ ⟨fun _ => kk h2 S, fun c => absurd ?_ c⟩
    rw [hj]
    exact q.mpr trivial
  | m + 1, ii, acc, h2, hm, hj, S, kk => by
    obtain ⟨q1, q2⟩ := wcnd ⟨d, hd⟩ ⟨m + 1, by omega⟩ hm
    simp only at q1 q2
    obtain ⟨r, st⟩ := q2 (by omega)
    rw [← hj] at q1 r st
    refine sX5_worstWithin_5 h2 62 _ _ _ ⟨fun c => absurd (q1.mp c) (by omega), fun _ => ?_⟩
    refine ww14 w L hd r (2 * d + 1) _ acc h2 (Nat.le_refl _) (wstart ⟨d, hd⟩) S (fun h3 S3 => ?_)
    exact ww5 w L hd m (ii + 1) _ h3 (by omega) (by rw [st]; rfl) S3 kk
theorem c5_worst {h : AH} {P : Option Value → AH → Prop} (w : Wf h) {k l wp op : Int32} {f g : Nat → Nat → Bool} (L : Laid h k l f g wp op) {d : Nat} (hd : d < 3) (kk : ∀ h3, SF h h3 → P (some (.int (wi (seV k l f g wp op) d (2 * d + 1) (-(nI d)) 0))) h3) : Call mX5_worstWithin [.ref 62, .int (nI d)] h P :=
  Call.ofR (by decide +kernel) (Nat.le_of_ble_eq_true rfl) (sX5_worstWithin_0 h 62 _ (ww5 w L hd (2 * d + 1) _ 0 h (Nat.le_refl _) (wstart ⟨d, hd⟩) ⟨Fr.rf, fun _ _ _ => rfl⟩ kk))
/-- what the reference may change as it looks -/
def SG (h h2 : AH) : Prop := Fr [116, 143] h h2 ∧ ∀ s, s ≠ 46 → s ≠ 47 → gI h2 116 s = gI h 116 s
def Lk (h : AH) (a b : Nat) (f g : Nat → Nat → Bool) (wp op : Int32) : Prop := Rw h 123 (16 * a) f ∧ Rw h 123 (16 * b) g ∧ gI h 118 6 = wp ∧ gI h 118 7 = op
theorem Lk.keep {h h2 : AH} {a b : Nat} {f g : Nat → Nat → Bool} {wp op : Int32} (L : Lk h a b f g wp op) (F : Fr [116, 143] h h2) : Lk h2 a b f g wp op := ⟨L.1.ag (F.2.2 123 (by decide)).1, L.2.1.ag (F.2.2 123 (by decide)).1, (F.I (by decide) 6).trans L.2.2.1, (F.I (by decide) 7).trans L.2.2.2⟩
theorem wo20 {h : AH} {P : Option Value → AH → Prop} (w : Wf h) {a b : Nat} (ha : a < 4) (hb : b < 4) {k l wp op : Int32} (hk : ¬ k < -2 ∧ ¬ 2 < k) (hl : ¬ l < -2 ∧ ¬ 2 < l) {f g : Nat → Nat → Bool} (L : Lk h a b f g wp op) {d : Nat} (hd : d < 3) {i : Int32} (hi : ¬ i < -2 ∧ ¬ 2 < i) : ∀ (m : Nat) (jj acc : Int32) (h2 : AH), m ≤ 2 * d + 1 → jj = nI d + 1 - nI m → SG h h2 → (∀ h3, SG h h3 → Rr mX12_worstOf 0 0 8 [(0, .ref 116), (1, .int (nI a)), (2, .int (nI b)), (3, .int k), (4, .int l), (5, .int (nI d)), (6, .int (wj (seV k l f g wp op) i m jj acc)), (7, .int (i + 1))] [] h3 P) → Rr mX12_worstOf 0 0 20 [(0, .ref 116), (1, .int (nI a)), (2, .int (nI b)), (3, .int k), (4, .int l), (5, .int (nI d)), (6, .int acc), (7, .int i), (8, .int jj)] [] h2 P
  | 0, jj, acc, h2, hm, hj, S, kk => by
    have q := (wcnd ⟨d, hd⟩ ⟨0, by decide⟩ (Nat.zero_le _)).1
    simp only at q
    refine sX12_worstOf_20 h2 116 _ _ _ _ _ _ _ _ ⟨fun _ => kk h2 S, fun c => absurd ?_ c⟩
    rw [hj]
    exact q.mpr trivial
  | m + 1, jj, acc, h2, hm, hj, S, kk => by
    obtain ⟨q1, q2⟩ := wcnd ⟨d, hd⟩ ⟨m + 1, by omega⟩ hm
    simp only at q1 q2
    obtain ⟨r, st⟩ := q2 (by omega)
    rw [← hj] at q1 r st
    have w2 := S.1.wf w
    obtain ⟨l1, l2, l3, l4⟩ := L.keep S.1
    refine sX12_worstOf_20 h2 116 _ _ _ _ _ _ _ _ ⟨fun c => absurd (q1.mp c) (by omega), fun _ => ⟨w2.o (by decide) rfl, ?_⟩⟩
    refine c12_look w2 ha hb hk hl hi r l1 l2 l3 l4 (fun h3 F3 _ _ es => ⟨_, rfl, fun z6 h6 => ?_⟩)
    rw [← imax_le] at h6
    rw [h6]
    refine wo20 w ha hb hk hl L hd hi m (jj + 1) _ h3 (by omega) ?_ ⟨S.1.tr F3, fun s h7 h8 => (es s h7 h8).trans (S.2 s h7 h8)⟩ kk
    rw [st]
    rfl
theorem wo8 {h : AH} {P : Option Value → AH → Prop} (w : Wf h) {a b : Nat} (ha : a < 4) (hb : b < 4) {k l wp op : Int32} (hk : ¬ k < -2 ∧ ¬ 2 < k) (hl : ¬ l < -2 ∧ ¬ 2 < l) {f g : Nat → Nat → Bool} (L : Lk h a b f g wp op) {d : Nat} (hd : d < 3) : ∀ (m : Nat) (ii acc : Int32) (h2 : AH), m ≤ 2 * d + 1 → ii = nI d + 1 - nI m → SG h h2 → (∀ h3, SG h h3 → P (some (.int (wi (seV k l f g wp op) d m ii acc))) h3) → Rr mX12_worstOf 0 0 8 [(0, .ref 116), (1, .int (nI a)), (2, .int (nI b)), (3, .int k), (4, .int l), (5, .int (nI d)), (6, .int acc), (7, .int ii)] [] h2 P
  | 0, ii, acc, h2, hm, hj, S, kk => by
    have q := (wcnd ⟨d, hd⟩ ⟨0, by decide⟩ (Nat.zero_le _)).1
    simp only at q
    refine sX12_worstOf_8 h2 116 _ _ _ _ _ _ _ ⟨fun _ => kk h2 S, fun c => absurd ?_ c⟩
    rw [hj]
    exact q.mpr trivial
  | m + 1, ii, acc, h2, hm, hj, S, kk => by
    obtain ⟨q1, q2⟩ := wcnd ⟨d, hd⟩ ⟨m + 1, by omega⟩ hm
    simp only at q1 q2
    obtain ⟨r, st⟩ := q2 (by omega)
    rw [← hj] at q1 r st
    refine sX12_worstOf_8 h2 116 _ _ _ _ _ _ _ ⟨fun c => absurd (q1.mp c) (by omega), fun _ => ?_⟩
    refine wo20 w ha hb hk hl L hd r (2 * d + 1) _ acc h2 (Nat.le_refl _) (wstart ⟨d, hd⟩) S (fun h3 S3 => ?_)
    exact wo8 w ha hb hk hl L hd m (ii + 1) _ h3 (by omega) (by rw [st]; rfl) S3 kk
theorem c12_worst {h : AH} {P : Option Value → AH → Prop} (w : Wf h) {a b : Nat} (ha : a < 4) (hb : b < 4) {k l wp op : Int32} (hk : ¬ k < -2 ∧ ¬ 2 < k) (hl : ¬ l < -2 ∧ ¬ 2 < l) {f g : Nat → Nat → Bool} (L : Lk h a b f g wp op) {d : Nat} (hd : d < 3) (kk : ∀ h3, SG h h3 → P (some (.int (wi (seV k l f g wp op) d (2 * d + 1) (-(nI d)) 0))) h3) : Call mX12_worstOf [.ref 116, .int (nI a), .int (nI b), .int k, .int l, .int (nI d)] h P :=
  Call.ofR (by decide +kernel) (Nat.le_of_ble_eq_true rfl) (sX12_worstOf_0 h 116 _ _ _ _ _ (wo8 w ha hb hk hl L hd (2 * d + 1) _ 0 h (Nat.le_refl _) (wstart ⟨d, hd⟩) ⟨Fr.rf, fun _ _ _ => rfl⟩ kk))
theorem n2 {x : Int32} (c : ¬ x < 0 ∧ ¬ 2 < x) : ∃ n : Nat, n < 3 ∧ x = nI n := by
  obtain ⟨n, hn, e⟩ : ∃ n : Nat, n ≤ 2 ∧ x = nI n := nI_of2 (M := 2) rfl c.1 (by grind)
  exact ⟨n, by omega, e⟩
theorem inv_lk {j : Nat} {h h2 : AH} (I : Inv j h) {a b : Nat} (ha : a < 4) (hb : b < 4) (G : Fr [62, 63, 64, 66, 68, 70] h h2) : Lk h2 a b (bf h (j + 7 + 2 * a)) (bf h (j + 7 + 2 * b)) (gI h j 12) (gI h j 13) :=
  ⟨(job_rw I ha).ag (G.2.2 123 (by decide)).1, (job_rw I hb).ag (G.2.2 123 (by decide)).1, (G.I (by decide) 6).trans I.2.2.2.2.1.1.2.2.2.2.2.2.2.1.1.symm, (G.I (by decide) 7).trans I.2.2.2.2.1.1.2.2.2.2.2.2.2.2.1.1.symm⟩
theorem pr_worst {j : Nat} {h : AH} (I : Inv j h) (x1 x2 x3 x4 x5 : Int32) : Pair mX11_worst mX12_worst [.int x1, .int x2, .int x3, .int x4, .int x5] h := by
  have w := I.1
  have hj := I.2.1
  have rf : ¬ (((¬ x1 < 0 ∧ ¬ 4 ≤ x1) ∧ (¬ x2 < 0 ∧ ¬ 4 ≤ x2) ∧ ¬ x1 = x2) ∧ (¬ x3 < -2 ∧ ¬ 2 < x3) ∧ (¬ x4 < -2 ∧ ¬ 2 < x4) ∧ (¬ x5 < 0 ∧ ¬ 2 < x5)) → Call mX12_worst [.ref 116, .int x1, .int x2, .int x3, .int x4, .int x5] h (fun v2 h2 => v2 = some (.int (-2)) ∧ (∃ z : Int32, some (Value.int (-2)) = some (.int z)) ∧ ∃ j, Inv j h2) := fun c => by
    have fin : (some (Value.int (-2)) = some (Value.int (-2))) ∧ (∃ z : Int32, some (Value.int (-2)) = some (.int z)) ∧ ∃ j, Inv j h := ⟨rfl, ⟨_, rfl⟩, j, I⟩
    exact Call.ofR (by decide +kernel) (Nat.le_of_ble_eq_true rfl) (sX12_worst_0 h 116 _ _ _ _ _ ⟨fun _ => fin, fun c1 => ⟨fun _ => fin, fun c2 => ⟨fun _ => fin, fun c3 => ⟨fun _ => fin, fun c4 => absurd ⟨ink34.mpr c1, c2, c3, c4⟩ c⟩⟩⟩⟩)
  refine Call.ofR (by decide +kernel) (Nat.le_of_ble_eq_true rfl) (sX11_worst_0 h 0 _ _ _ _ _ ⟨fun c => rf (fun q => c q.1), fun c1 => ⟨fun c => rf (fun q => c q.2.1), fun c2 => ⟨fun c => rf (fun q => c q.2.2.1), fun c3 => ⟨fun c4 => ?_, fun c => rf (fun q => c q.2.2.2)⟩⟩⟩⟩)
  clear rf
  have c1' := ink34.mp c1
  obtain ⟨a, b, ha, hb, rfl, rfl⟩ := two_inks c1
  obtain ⟨d, hd, rfl⟩ := n2 c4
  rw [w.f0_6, hj]
  refine ⟨w.o (by decide) rfl, w.o (by decide) rfl, c5_lay w hj ha hb c2 c3 (fun h1 F1 e1 L1 => ⟨rfl, (F1.wf w).o (by decide) rfl, ?_⟩)⟩
  have w1 := F1.wf w
  rw [w1.f0_6]
  refine ⟨w1.o (by decide) rfl, c5_worst w1 L1 hd (fun h2 S2 => ⟨_, rfl, ?_⟩)⟩
  have w2 := S2.1.wf w1
  have G : Fr [62, 63, 64, 66, 68, 70] h h2 := (F1.sub (by decide)).tr (S2.1.sub (by decide))
  have gs : ∀ s, 9 ≤ s → gI h2 62 s = gI h 62 s := fun s hs => (S2.2 s (by omega) (by omega)).trans (e1 s (by omega))
  refine Call.ofR (by decide +kernel) (Nat.le_of_ble_eq_true rfl) (sX12_worst_0 h2 116 _ _ _ _ _ ⟨fun q => absurd c1' q, fun _ => ⟨fun q => absurd c2 q, fun _ => ⟨fun q => absurd c3 q, fun _ => ⟨fun q => absurd c4 q, fun _ => ⟨w2.o (by decide) rfl, ?_⟩⟩⟩⟩⟩)
  exact c12_worst w2 ha hb c2 c3 (inv_lk I ha hb G) hd (fun h3 S3 => ⟨_, rfl, rfl, ⟨_, rfl⟩, j, inv_see I G gs S3.1 S3.2⟩)
