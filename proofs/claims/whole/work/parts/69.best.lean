/-! best -/
def bup (W : Int32 → Int32 → Int32) (s : Int32 × Int32 × Int32 × Int32) (n : Nat) : Int32 × Int32 × Int32 × Int32 :=
  if W (nI (n / 5) - 2) (nI (n % 5) - 2) < s.1 ∨ (W (nI (n / 5) - 2) (nI (n % 5) - 2) = s.1 ∧ iabs (nI (n / 5) - 2) + iabs (nI (n % 5) - 2) < s.2.1) then (W (nI (n / 5) - 2) (nI (n % 5) - 2), iabs (nI (n / 5) - 2) + iabs (nI (n % 5) - 2), nI (n / 5) - 2, nI (n % 5) - 2) else s
theorem kl25 : ∀ n : Fin 25, (¬ (nI (n.val / 5) - 2) < -2 ∧ ¬ 2 < (nI (n.val / 5) - 2)) ∧ (¬ (nI (n.val % 5) - 2) < -2 ∧ ¬ 2 < (nI (n.val % 5) - 2)) ∧ ((n.val % 5 = 4 → 2 < nI (n.val % 5) - 2 + 1) ∧ (n.val % 5 ≠ 4 → nI (n.val % 5) - 2 + 1 = nI ((n.val + 1) % 5) - 2 ∧ (n.val + 1) / 5 = n.val / 5)) ∧ (n.val % 5 = 4 → nI (n.val / 5) - 2 + 1 = nI ((n.val + 1) / 5) - 2 ∧ nI ((n.val + 1) % 5) - 2 = -2) ∧ (3 ≤ nI (n.val % 5) - 2 + 1 ↔ n.val % 5 = 4) ∧ (2 < nI ((n.val + 1) / 5) - 2 ↔ n.val + 1 = 25) ∧ (3 ≤ nI ((n.val + 1) / 5) - 2 ↔ n.val + 1 = 25) ∧ (¬ 2 < nI (n.val % 5) - 2) := by decide +kernel
theorem wj_rng {V : Int32 → Int32 → Int32} {M : Int32} {i : Int32} (hV : ∀ j, 0 ≤ V i j ∧ V i j ≤ M) : ∀ (m : Nat) (jj a : Int32), 0 ≤ a → a ≤ M → 0 ≤ wj V i m jj a ∧ wj V i m jj a ≤ M
  | 0, jj, a, h1, h2 => ⟨h1, h2⟩
  | m + 1, jj, a, h1, h2 => by
    have q := hV jj
    refine wj_rng hV m (jj + 1) _ ?_ ?_
    · rw [imax_le]
      split
      · exact h1
      · exact q.1
    · rw [imax_le]
      split
      · exact h2
      · exact q.2
theorem wi_rng {V : Int32 → Int32 → Int32} {M : Int32} {d : Nat} (hV : ∀ i j, 0 ≤ V i j ∧ V i j ≤ M) : ∀ (m : Nat) (ii a : Int32), 0 ≤ a → a ≤ M → 0 ≤ wi V d m ii a ∧ wi V d m ii a ≤ M
  | 0, ii, a, h1, h2 => ⟨h1, h2⟩
  | m + 1, ii, a, h1, h2 => by
    have q := wj_rng (i := ii) (fun j => hV ii j) (2 * d + 1) (-(nI d)) a h1 h2
    exact wi_rng hV m (ii + 1) _ q.1 q.2
theorem seV_rng {k l wp op : Int32} {f g : Nat → Nat → Bool} (h1 : inr wp 0 99) (h2 : inr op 0 99) (i j : Int32) : 0 ≤ seV k l f g wp op i j ∧ seV k l f g wp op i j ≤ 50688 := by
  unfold seV
  have t1 := tot_le (seW k l i j f g) 16
  have t2 := tot_le (seO k l i j f g) 16
  generalize tot (seW k l i j f g) 16 = A at t1 ⊢
  generalize tot (seO k l i j f g) 16 = B at t2 ⊢
  obtain ⟨p, hp, rfl⟩ : ∃ n : Nat, n ≤ 99 ∧ wp = nI n := nI_of2 (M := 99) rfl (by unfold inr at h1; grind) h1.2
  obtain ⟨q, hq, rfl⟩ : ∃ n : Nat, n ≤ 99 ∧ op = nI n := nI_of2 (M := 99) rfl (by unfold inr at h2; grind) h2.2
  have m1 : p * A ≤ 99 * 256 := Nat.mul_le_mul hp t1
  have m2 : q * B ≤ 99 * 256 := Nat.mul_le_mul hq t2
  rw [pk_mul, pk_mul, nI_add, show (50688 : Int32) = nI 50688 from rfl]
  exact ⟨nI_pos' (by omega), nI_le (by omega) (by decide)⟩
def Wst (f g : Nat → Nat → Bool) (wp op : Int32) (d : Nat) (k l : Int32) : Int32 := wi (seV k l f g wp op) d (2 * d + 1) (-(nI d)) 0
theorem Wst_rng {wp op : Int32} {f g : Nat → Nat → Bool} (h1 : inr wp 0 99) (h2 : inr op 0 99) (d : Nat) (k l : Int32) : 0 ≤ Wst f g wp op d k l ∧ Wst f g wp op d k l ≤ 50688 :=
  wi_rng (fun i j => seV_rng h1 h2 i j) _ _ 0 (by decide) (by decide)
/-- the press after some spreads were tried -/
def BH (h h2 : AH) (s : Int32 × Int32 × Int32 × Int32) : Prop := Fr [62, 63, 64, 66, 68, 70] h h2 ∧ (s.1 = 1000000000 ∨ (gI h2 62 10 = s.2.2.1 ∧ gI h2 62 11 = s.2.2.2 ∧ s.2.1 = iabs s.2.2.1 + iabs s.2.2.2))
theorem fb22 {j : Nat} {h : AH} {P : Option Value → AH → Prop} (w : Wf h) (hj : gF h 0 2 = j) {a b d : Nat} (ha : a < 4) (hb : b < 4) (hd : d < 3) (r1 : inr (gI h j 12) 0 99) (r2 : inr (gI h j 13) 0 99) (kk : ∀ s h3, s = (List.range' 0 25).foldl (bup (Wst (bf h (j + 7 + 2 * a)) (bf h (j + 7 + 2 * b)) (gI h j 12) (gI h j 13) d)) (1000000000, 1000000000, 0, 0) → BH h h3 s → P (some (.int s.1)) (sI h3 62 9 1)) : ∀ (m n : Nat) (s : Int32 × Int32 × Int32 × Int32) (h2 : AH), n + m = 25 → 0 < m → BH h h2 s → s = (List.range' 0 n).foldl (bup (Wst (bf h (j + 7 + 2 * a)) (bf h (j + 7 + 2 * b)) (gI h j 12) (gI h j 13) d)) (1000000000, 1000000000, 0, 0) → Rr mX5_findBest 0 0 22 [(0, .ref 62), (1, .ref j), (2, .int (nI a)), (3, .int (nI b)), (4, .int (nI d)), (5, .int s.1), (6, .int s.2.1), (7, .int (nI (n / 5) - 2)), (8, .int (nI (n % 5) - 2))] [] h2 P
  | 0, n, s, h2, hn, hm, H, es => absurd hm (by decide)
  | m + 1, n, s, h2, hn, hm, H, es => by
    have w2 := H.1.wf w
    have jb := jcase w hj
    have hj2 : gF h2 0 2 = j := (H.1.2.1 0 2).trans hj
    obtain ⟨c1, c2, c3, c4, -, c6, -, c8⟩ := kl25 ⟨n, by omega⟩
    simp only at c1 c2 c3 c4 c6 c8
    have eb : ∀ q, q < 4 → bf h2 (j + 7 + 2 * q) = bf h (j + 7 + 2 * q) := fun q hq => bf_c (H.1.2.2 _ (by
      rcases jb with rfl | rfl <;> rcases (show q = 0 ∨ q = 1 ∨ q = 2 ∨ q = 3 by omega) with rfl | rfl | rfl | rfl <;> decide)).2
    have en : ∀ q, gI h2 j q = gI h j q := fun q => H.1.I (by rcases jb with rfl | rfl <;> decide) q
    refine sX5_findBest_22 h2 62 j _ _ _ _ _ _ _ ⟨fun q => absurd q c8, fun _ => ⟨w2.o (by decide) rfl, ?_⟩⟩
    refine c5_lay w2 hj2 ha hb c1 c2 (fun h3 F3 e3 L3 => ⟨rfl, (F3.wf w2).o (by decide) rfl, ?_⟩)
    rw [eb a ha, eb b hb, en, en] at L3
    have w3 := F3.wf w2
    refine c5_worst w3 L3 hd (fun h4 S4 => ⟨_, rfl, ?_⟩)
    have w4 := S4.1.wf w3
    have G4 : Fr [62, 63, 64, 66, 68, 70] h h4 := (H.1.tr (F3.sub (by decide))).tr (S4.1.sub (by decide))
    have k10 : gI h4 62 10 = gI h2 62 10 := (S4.2 10 (by decide) (by decide)).trans (e3 10 (by decide))
    have k11 : gI h4 62 11 = gI h2 62 11 := (S4.2 11 (by decide) (by decide)).trans (e3 11 (by decide))
    -- what comes next
    have ru : List.range' 0 (n + 1) = List.range' 0 n ++ [n] := by
      rw [List.range'_concat]
      simp
    have nx : ∀ (t : Int32 × Int32 × Int32 × Int32) (h5 : AH), BH h h5 t → t = bup (Wst (bf h (j + 7 + 2 * a)) (bf h (j + 7 + 2 * b)) (gI h j 12) (gI h j 13) d) s n → Rr mX5_findBest 0 0 22 [(0, .ref 62), (1, .ref j), (2, .int (nI a)), (3, .int (nI b)), (4, .int (nI d)), (5, .int t.1), (6, .int t.2.1), (7, .int (nI (n / 5) - 2)), (8, .int (nI (n % 5) - 2 + 1))] [] h5 P := fun t h5 H5 et => by
      have et2 : t = (List.range' 0 (n + 1)).foldl (bup (Wst (bf h (j + 7 + 2 * a)) (bf h (j + 7 + 2 * b)) (gI h j 12) (gI h j 13) d)) (1000000000, 1000000000, 0, 0) := by
        rw [ru, List.foldl_append, ← es, et]
        rfl
      have w5 := H5.1.wf w
      by_cases c : n % 5 = 4
      · obtain ⟨d1, d2⟩ := c4 c
        refine sX5_findBest_22 h5 62 j _ _ _ _ _ _ _ ⟨fun _ => ?_, fun q => absurd (c3.1 c) q⟩
        rw [d1]
        by_cases e : n + 1 = 25
        · refine sX5_findBest_12 h5 62 j _ _ _ _ _ _ ⟨fun _ => ⟨w5.o (by decide) rfl, kk t h5 (by rw [et2, e]) H5⟩, fun q => absurd (c6.mpr e) q⟩
        · refine sX5_findBest_12 h5 62 j _ _ _ _ _ _ ⟨fun q => absurd (c6.mp q) e, fun _ => ?_⟩
          have := fb22 w hj ha hb hd r1 r2 kk m (n + 1) t h5 (by omega) (by omega) H5 et2
          rw [d2] at this
          exact this
      · obtain ⟨d1, d2⟩ := c3.2 c
        have := fb22 w hj ha hb hd r1 r2 kk m (n + 1) t h5 (by omega) (by omega) H5 et2
        rw [d2] at this
        rw [d1]
        exact this
    have W0 := Wst_rng (f := bf h (j + 7 + 2 * a)) (g := bf h (j + 7 + 2 * b)) r1 r2 d (nI (n / 5) - 2) (nI (n % 5) - 2)
    have eW : wi (seV (nI (n / 5) - 2) (nI (n % 5) - 2) (bf h (j + 7 + 2 * a)) (bf h (j + 7 + 2 * b)) (gI h j 12) (gI h j 13)) d (2 * d + 1) (-(nI d)) 0 = Wst (bf h (j + 7 + 2 * a)) (bf h (j + 7 + 2 * b)) (gI h j 12) (gI h j 13) d (nI (n / 5) - 2) (nI (n % 5) - 2) := rfl
    rw [eW]
    have tk : (Wst (bf h (j + 7 + 2 * a)) (bf h (j + 7 + 2 * b)) (gI h j 12) (gI h j 13) d (nI (n / 5) - 2) (nI (n % 5) - 2) < s.1 ∨ (Wst (bf h (j + 7 + 2 * a)) (bf h (j + 7 + 2 * b)) (gI h j 12) (gI h j 13) d (nI (n / 5) - 2) (nI (n % 5) - 2) = s.1 ∧ iabs (nI (n / 5) - 2) + iabs (nI (n % 5) - 2) < s.2.1)) → isO h4 5 62 ∧ Rr mX5_findBest 0 0 22 [(0, .ref 62), (1, .ref j), (2, .int (nI a)), (3, .int (nI b)), (4, .int (nI d)), (5, .int (Wst (bf h (j + 7 + 2 * a)) (bf h (j + 7 + 2 * b)) (gI h j 12) (gI h j 13) d (nI (n / 5) - 2) (nI (n % 5) - 2))), (6, .int (iabs (nI (n / 5) - 2) + iabs (nI (n % 5) - 2))), (7, .int (nI (n / 5) - 2)), (8, .int (nI (n % 5) - 2 + 1))] [] (sI (sI h4 62 10 (nI (n / 5) - 2)) 62 11 (nI (n % 5) - 2)) P := fun q => by
      refine ⟨w4.o (by decide) rfl, ?_⟩
      refine nx (_, _, nI (n / 5) - 2, nI (n % 5) - 2) _ ⟨(G4.tr (Fr.sI (by decide))).tr (Fr.sI (by decide)), Or.inr ⟨(rd_k (by decide)).trans rd_h, rd_h, rfl⟩⟩ ?_
      unfold bup
      rw [if_pos q]
      rfl
    have no : ¬ (Wst (bf h (j + 7 + 2 * a)) (bf h (j + 7 + 2 * b)) (gI h j 12) (gI h j 13) d (nI (n / 5) - 2) (nI (n % 5) - 2) < s.1 ∨ (Wst (bf h (j + 7 + 2 * a)) (bf h (j + 7 + 2 * b)) (gI h j 12) (gI h j 13) d (nI (n / 5) - 2) (nI (n % 5) - 2) = s.1 ∧ iabs (nI (n / 5) - 2) + iabs (nI (n % 5) - 2) < s.2.1)) → Rr mX5_findBest 0 0 22 [(0, .ref 62), (1, .ref j), (2, .int (nI a)), (3, .int (nI b)), (4, .int (nI d)), (5, .int s.1), (6, .int s.2.1), (7, .int (nI (n / 5) - 2)), (8, .int (nI (n % 5) - 2 + 1))] [] h4 P := fun q => by
      refine nx s h4 ⟨G4, ?_⟩ ?_
      · rcases H.2 with z | ⟨z1, z2, z3⟩
        · exact Or.inl z
        · exact Or.inr ⟨k10.trans z1, k11.trans z2, z3⟩
      · unfold bup
        rw [if_neg q]
    generalize Wst (bf h (j + 7 + 2 * a)) (bf h (j + 7 + 2 * b)) (gI h j 12) (gI h j 13) d (nI (n / 5) - 2) (nI (n % 5) - 2) = Wv at tk no ⊢
    clear nx
    exact ⟨fun q => tk (Or.inl q), fun q => ⟨fun q2 => no (fun z => z.elim q (fun z => q2 z.1)), fun q2 => ⟨fun q3 => no (fun z => z.elim q (fun z => by have := z.2; clear tk no kk; grind)), fun q3 => tk (Or.inr ⟨q2, by clear tk no kk; grind⟩)⟩⟩⟩
theorem bup_one {W : Int32 → Int32 → Int32} (hW : ∀ k l, 0 ≤ W k l ∧ W k l ≤ 50688) {s : Int32 × Int32 × Int32 × Int32} (hs : s.1 = 1000000000) (n : Nat) : bup W s n = (W (nI (n / 5) - 2) (nI (n % 5) - 2), iabs (nI (n / 5) - 2) + iabs (nI (n % 5) - 2), nI (n / 5) - 2, nI (n % 5) - 2) := by
  unfold bup
  rw [if_pos]
  left
  have := hW (nI (n / 5) - 2) (nI (n % 5) - 2)
  rw [hs]
  grind
/-- the reference after some spreads were tried -/
def BG (h h2 : AH) (s : Int32 × Int32 × Int32 × Int32) : Prop := Fr [116, 143] h h2 ∧ (∀ t, t ≠ 46 → t ≠ 47 → t ≠ 49 → t ≠ 50 → gI h2 116 t = gI h 116 t) ∧ (s.1 = 1000000000 ∨ (s.1 ≤ 50688 ∧ gI h2 116 49 = s.2.2.1 ∧ gI h2 116 50 = s.2.2.2 ∧ s.2.1 = iabs s.2.2.1 + iabs s.2.2.2))
theorem iabs_p (x : Int32) : (if 0 ≤ x then x else -x) = iabs x := by
  unfold iabs
  by_cases c : 0 ≤ x
  · rw [if_pos c, if_pos c]
  · rw [if_neg c, if_neg c, Int32.zero_sub]
theorem be40 {h : AH} {P : Option Value → AH → Prop} (w : Wf h) {a b d : Nat} (ha : a < 4) (hb : b < 4) (hd : d < 3) {wp op : Int32} {f g : Nat → Nat → Bool} (L : Lk h a b f g wp op) (r1 : inr wp 0 99) (r2 : inr op 0 99) (kk : ∀ s h3, s = (List.range' 0 25).foldl (bup (Wst f g wp op d)) (1000000000, 1000000000, 0, 0) → BG h h3 s → ¬ s.1 = 1000000000 → P (some (.int s.1)) (sI h3 116 48 1)) : ∀ (m n : Nat) (s : Int32 × Int32 × Int32 × Int32) (x4 x5 : Int32) (h2 : AH), n + m = 25 → 0 < m → BG h h2 s → s = (List.range' 0 n).foldl (bup (Wst f g wp op d)) (1000000000, 1000000000, 0, 0) → ((s.1 = 1000000000 ∧ x4 = 0) ∨ (¬ s.1 = 1000000000 ∧ x4 = 1 ∧ x5 = s.1)) → Rr mX12_best 0 0 40 [(0, .ref 116), (1, .int (nI a)), (2, .int (nI b)), (3, .int (nI d)), (4, .int x4), (5, .int x5), (6, .int (nI (n / 5) - 2)), (7, .int (nI (n % 5) - 2))] [] h2 P
  | 0, n, s, x4, x5, h2, hn, hm, H, es, hx => absurd hm (by decide)
  | m + 1, n, s, x4, x5, h2, hn, hm, H, es, hx => by
    have w2 := H.1.wf w
    obtain ⟨c1, c2, c3, c4, c5, -, c7, c8⟩ := kl25 ⟨n, by omega⟩
    simp only at c1 c2 c3 c4 c5 c7 c8
    have n3 : ∀ x : Int32, ¬ 2 < x → ¬ 3 ≤ x := fun x hx => by clear kk; grind
    refine sX12_best_40 h2 116 _ _ _ _ _ _ _ ⟨fun q => absurd q (n3 _ c8), fun _ => ⟨w2.o (by decide) rfl, ?_⟩⟩
    refine c12_worst w2 ha hb c1 c2 (L.keep H.1) hd (fun h4 S4 => ⟨_, rfl, ?_⟩)
    have w4 := S4.1.wf w2
    have eW : wi (seV (nI (n / 5) - 2) (nI (n % 5) - 2) f g wp op) d (2 * d + 1) (-(nI d)) 0 = Wst f g wp op d (nI (n / 5) - 2) (nI (n % 5) - 2) := rfl
    rw [eW]
    have W0 := Wst_rng (f := f) (g := g) r1 r2 d (nI (n / 5) - 2) (nI (n % 5) - 2)
    have ru : List.range' 0 (n + 1) = List.range' 0 n ++ [n] := by
      rw [List.range'_concat]
      simp
    have G4 : Fr [116, 143] h h4 := H.1.tr S4.1
    have k4 : ∀ t, t ≠ 46 → t ≠ 47 → t ≠ 49 → t ≠ 50 → gI h4 116 t = gI h 116 t := fun t q1 q2 q3 q4 => (S4.2 t q1 q2).trans (H.2.1 t q1 q2 q3 q4)
    have nx : ∀ (t : Int32 × Int32 × Int32 × Int32) (y4 y5 : Int32) (h5 : AH), BG h h5 t → t = bup (Wst f g wp op d) s n → (¬ t.1 = 1000000000 ∧ y4 = 1 ∧ y5 = t.1) → Rr mX12_best 0 0 40 [(0, .ref 116), (1, .int (nI a)), (2, .int (nI b)), (3, .int (nI d)), (4, .int y4), (5, .int y5), (6, .int (nI (n / 5) - 2)), (7, .int (nI (n % 5) - 2 + 1))] [] h5 P := fun t y4 y5 h5 H5 et hy => by
      have et2 : t = (List.range' 0 (n + 1)).foldl (bup (Wst f g wp op d)) (1000000000, 1000000000, 0, 0) := by
        rw [ru, List.foldl_append, ← es, et]
        rfl
      have w5 := H5.1.wf w
      by_cases c : n % 5 = 4
      · obtain ⟨d1, d2⟩ := c4 c
        refine sX12_best_40 h5 116 _ _ _ _ _ _ _ ⟨fun _ => ?_, fun q => absurd (c5.mpr c) q⟩
        rw [d1]
        by_cases e : n + 1 = 25
        · refine sX12_best_30 h5 116 _ _ _ _ _ _ ⟨fun _ => ⟨w5.o (by decide) rfl, ?_⟩, fun q => absurd (c7.mpr e) q⟩
          rw [hy.2.2]
          exact kk t h5 (by rw [et2, e]) H5 hy.1
        · refine sX12_best_30 h5 116 _ _ _ _ _ _ ⟨fun q => absurd (c7.mp q) e, fun _ => ?_⟩
          have := be40 w ha hb hd L r1 r2 kk m (n + 1) t y4 y5 h5 (by omega) (by omega) H5 et2 (Or.inr hy)
          rw [d2] at this
          exact this
      · obtain ⟨d1, d2⟩ := c3.2 c
        have := be40 w ha hb hd L r1 r2 kk m (n + 1) t y4 y5 h5 (by omega) (by omega) H5 et2 (Or.inr hy)
        rw [d2] at this
        rw [d1]
        exact this
    have tk : (Wst f g wp op d (nI (n / 5) - 2) (nI (n % 5) - 2) < s.1 ∨ (Wst f g wp op d (nI (n / 5) - 2) (nI (n % 5) - 2) = s.1 ∧ iabs (nI (n / 5) - 2) + iabs (nI (n % 5) - 2) < s.2.1)) → Rr mX12_best 0 0 40 [(0, .ref 116), (1, .int (nI a)), (2, .int (nI b)), (3, .int (nI d)), (4, .int 1), (5, .int (Wst f g wp op d (nI (n / 5) - 2) (nI (n % 5) - 2))), (6, .int (nI (n / 5) - 2)), (7, .int (nI (n % 5) - 2 + 1))] [] (sI (sI h4 116 49 (nI (n / 5) - 2)) 116 50 (nI (n % 5) - 2)) P := fun q => by
      refine nx (_, iabs (nI (n / 5) - 2) + iabs (nI (n % 5) - 2), nI (n / 5) - 2, nI (n % 5) - 2) 1 _ _ ⟨(G4.tr (Fr.sI (by decide))).tr (Fr.sI (by decide)), fun t q1 q2 q3 q4 => (rd_k q4).trans ((rd_k q3).trans (k4 t q1 q2 q3 q4)), Or.inr ⟨W0.2, (rd_k (by decide)).trans rd_h, rd_h, rfl⟩⟩ ?_ ⟨?_, rfl, rfl⟩
      · unfold bup
        rw [if_pos q]
        rfl
      · show ¬ Wst f g wp op d (nI (n / 5) - 2) (nI (n % 5) - 2) = 1000000000
        clear nx kk q
        grind
    have no : ¬ s.1 = 1000000000 → ¬ (Wst f g wp op d (nI (n / 5) - 2) (nI (n % 5) - 2) < s.1 ∨ (Wst f g wp op d (nI (n / 5) - 2) (nI (n % 5) - 2) = s.1 ∧ iabs (nI (n / 5) - 2) + iabs (nI (n % 5) - 2) < s.2.1)) → Rr mX12_best 0 0 40 [(0, .ref 116), (1, .int (nI a)), (2, .int (nI b)), (3, .int (nI d)), (4, .int 1), (5, .int s.1), (6, .int (nI (n / 5) - 2)), (7, .int (nI (n % 5) - 2 + 1))] [] h4 P := fun q0 q => by
      refine nx s 1 _ h4 ⟨G4, k4, ?_⟩ ?_ ⟨q0, rfl, rfl⟩
      · rcases H.2.2 with z | ⟨z0, z1, z2, z3⟩
        · exact Or.inl z
        · exact Or.inr ⟨z0, (S4.2 49 (by decide) (by decide)).trans z1, (S4.2 50 (by decide) (by decide)).trans z2, z3⟩
      · unfold bup
        rw [if_neg q]
    generalize Wst f g wp op d (nI (n / 5) - 2) (nI (n % 5) - 2) = Wv at tk no W0 ⊢
    clear nx
    have o4 : isO h4 12 116 := w4.o (by decide) rfl
    rcases hx with ⟨x1, rfl⟩ | ⟨x1, rfl, rfl⟩
    · exact ⟨fun _ => ⟨o4, tk (Or.inl (by rw [x1]; clear tk no kk; grind))⟩, fun q => absurd rfl q⟩
    · rcases H.2.2 with z | ⟨z0, z1, z2, z3⟩
      · exact absurd z x1
      have y1 : gI h4 116 49 = s.2.2.1 := (S4.2 49 (by decide) (by decide)).trans z1
      have y2 : gI h4 116 50 = s.2.2.2 := (S4.2 50 (by decide) (by decide)).trans z2
      rw [iabs_p, iabs_p, y1, y2, iabs_p, iabs_p, ← z3]
      refine ⟨fun q => absurd q (by decide), fun _ => ⟨fun q => no x1 (fun z => ?_), fun q => ⟨fun q2 => ⟨o4, tk (Or.inl ?_)⟩, fun q2 => ⟨o4, fun q3 => tk (Or.inr ⟨q2, q3⟩), fun q3 => no x1 (fun z => z.elim (fun z => ?_) (fun z => q3 z.2))⟩⟩⟩⟩
      · clear tk no kk
        grind
      · clear tk no kk
        grind
      · rw [q2] at z
        clear tk no kk
        grind
theorem fold_no {W : Int32 → Int32 → Int32} (hW : ∀ k l, 0 ≤ W k l ∧ W k l ≤ 50688) : ((List.range' 0 25).foldl (bup W) (1000000000, 1000000000, 0, 0)).1 ≤ 50688 := by
  have hr : List.range' 0 25 = 0 :: List.range' 1 24 := rfl
  rw [hr, List.foldl_cons, bup_one hW rfl]
  have st : ∀ (L : List Nat) (s : Int32 × Int32 × Int32 × Int32), s.1 ≤ 50688 → (L.foldl (bup W) s).1 ≤ 50688 := by
    intro L
    induction L with
    | nil => intro s hs; exact hs
    | cons n L ih =>
      intro s hs
      rw [List.foldl_cons]
      refine ih _ ?_
      unfold bup
      split
      · exact (hW _ _).2
      · exact hs
  exact st _ _ (hW _ _).2
theorem pr_best {j : Nat} {h : AH} (I : Inv j h) (x1 x2 x3 : Int32) : Pair mX11_best mX12_best [.int x1, .int x2, .int x3] h := by
  have w := I.1
  have hj := I.2.1
  have jb := jcase w hj
  have rf : ¬ (((¬ x1 < 0 ∧ ¬ 4 ≤ x1) ∧ (¬ x2 < 0 ∧ ¬ 4 ≤ x2) ∧ ¬ x1 = x2) ∧ (¬ x3 < 0 ∧ ¬ 2 < x3)) → Call mX12_best [.ref 116, .int x1, .int x2, .int x3] h (fun v2 h2 => v2 = some (.int (-2)) ∧ (∃ z : Int32, some (Value.int (-2)) = some (.int z)) ∧ ∃ j, Inv j h2) := fun c => by
    have fin : (some (Value.int (-2)) = some (Value.int (-2))) ∧ (∃ z : Int32, some (Value.int (-2)) = some (.int z)) ∧ ∃ j, Inv j h := ⟨rfl, ⟨_, rfl⟩, j, I⟩
    exact Call.ofR (by decide +kernel) (Nat.le_of_ble_eq_true rfl) (sX12_best_0 h 116 _ _ _ ⟨fun _ => fin, fun c1 => ⟨fun c2 => absurd ⟨ink34.mpr c1, c2⟩ c, fun _ => fin⟩⟩)
  refine Call.ofR (by decide +kernel) (Nat.le_of_ble_eq_true rfl) (sX11_best_0 h 0 _ _ _ ⟨fun c => rf (fun q => c q.1), fun c1 => ⟨fun c2 => ?_, fun c => rf (fun q => c q.2)⟩⟩)
  clear rf
  have c1' := ink34.mp c1
  obtain ⟨a, b, ha, hb, rfl, rfl⟩ := two_inks c1
  obtain ⟨d, hd, rfl⟩ := n2 c2
  have r1 : inr (gI h j 12) 0 99 := I.2.2.2.2.1.1.2.2.2.2.2.2.2.1.2
  have r2 : inr (gI h j 13) 0 99 := I.2.2.2.2.1.1.2.2.2.2.2.2.2.2.1.2
  rw [w.f0_6, hj]
  refine ⟨w.o (by decide) rfl, w.o (by decide) rfl, ?_⟩
  refine Call.ofR (by decide +kernel) (Nat.le_of_ble_eq_true rfl) (sX5_findBest_0 h 62 j _ _ _ ?_)
  refine sX5_findBest_12 h 62 j _ _ _ _ _ _ ⟨fun q => absurd q (by decide), fun _ => ?_⟩
  refine fb22 w hj ha hb hd r1 r2 (fun s h2 es H => ⟨_, rfl, ?_⟩) 25 0 (1000000000, 1000000000, 0, 0) h rfl (by decide) ⟨Fr.rf, Or.inl rfl⟩ rfl
  have F9 : Fr [62] h2 (sI h2 62 9 1) := Fr.sI (by decide)
  have G : Fr [62, 63, 64, 66, 68, 70] h (sI h2 62 9 1) := H.1.tr (F9.sub (by decide))
  have w9 := G.wf w
  refine Call.ofR (by decide +kernel) (Nat.le_of_ble_eq_true rfl) (sX12_best_0 _ 116 _ _ _ ⟨fun q => absurd c1' q, fun _ => ⟨fun _ => ?_, fun q => absurd c2 q⟩⟩)
  refine sX12_best_30 _ 116 _ _ _ _ _ _ ⟨fun q => absurd q (by decide), fun _ => ?_⟩
  refine be40 w9 ha hb hd (inv_lk I ha hb G) r1 r2 (fun t h3 et HG tn => ?_) 25 0 (1000000000, 1000000000, 0, 0) 0 0 _ rfl (by decide) ⟨Fr.rf, fun _ _ _ _ _ => rfl, Or.inl rfl⟩ rfl (Or.inl ⟨rfl, rfl⟩)
  have ets : t = s := et.trans es.symm
  subst ets
  refine ⟨rfl, ⟨_, rfl⟩, j, ?_⟩
  obtain ⟨F3, k3, z3⟩ := HG
  rcases z3 with z3 | ⟨-, z49, z50, -⟩
  · exact absurd z3 tn
  rcases H.2 with y3 | ⟨y10, y11, -⟩
  · exact absurd y3 tn
  have FA : Fr [62, 63, 64, 66, 68, 70, 116, 143] h (sI h3 116 48 1) := ((G.sub (by decide)).tr (F3.sub (by decide))).tr (Fr.sI (by decide))
  have p116 : ∀ q, q ≠ 46 → q ≠ 47 → q ≠ 48 → q ≠ 49 → q ≠ 50 → gI (sI h3 116 48 1) 116 q = gI h 116 q := fun q q1 q2 q3 q4 q5 => by
    rw [rd_k q3, k3 q q1 q2 q4 q5, G.I (by decide)]
  obtain ⟨-, -, ti, fi, ji, ri, mi, -, pi, li⟩ := I
  refine ⟨FA.wf w, (FA.2.1 0 2).trans hj, ti.keep (FA.I (by decide) 2) (FA.ag (by decide)) (p116 1 (by decide) (by decide) (by decide) (by decide) (by decide)) (FA.ag (by decide)), fi.keep (FA.I (by decide) 4) (FA.I (by decide) 5) (p116 8 (by decide) (by decide) (by decide) (by decide) (by decide)) (p116 9 (by decide) (by decide) (by decide) (by decide) (by decide)), ji.keep (fun r hr => FA.ag (by rcases jb with rfl | rfl <;> revert r <;> decide)) (p116 20 (by decide) (by decide) (by decide) (by decide) (by decide)), ri.keep (fun r hr => FA.ag (by clear ji ri mi pi li; revert r; decide)) (FA.I (by rcases jb with rfl | rfl <;> decide) 3) (p116 23 (by decide) (by decide) (by decide) (by decide) (by decide)) (p116 24 (by decide) (by decide) (by decide) (by decide) (by decide)) (p116 25 (by decide) (by decide) (by decide) (by decide) (by decide)), mi.keep (FA.I (by decide) 5) (FA.ag (by decide)) (p116 43 (by decide) (by decide) (by decide) (by decide) (by decide)) (FA.ag (by decide)), ?_, pi.keep (FA.I (by decide) 8) (p116 51 (by decide) (by decide) (by decide) (by decide) (by decide)) (fun r hr => FA.ag (by clear ji ri mi pi li; revert r; decide)), li.keep (FA.I (by decide) 4) (FA.I (by decide) 6) (FA.ag (by decide)) (p116 55 (by decide) (by decide) (by decide) (by decide) (by decide)) (FA.ag (by decide))⟩
  have v9 : gI (sI h3 116 48 1) 62 9 = 1 := by
    rw [rd_r (by decide), F3.I (by decide)]
    exact rd_h
  have v48 : gI (sI h3 116 48 1) 116 48 = 1 := rd_h
  refine ⟨v9.trans v48.symm, Or.inr ⟨v9, ?_, ?_⟩⟩
  · rw [rd_r (by decide), F3.I (by decide), rd_k (k2 := 10) (by decide), y10, rd_k (k2 := 49) (by decide), z49]
  · rw [rd_r (by decide), F3.I (by decide), rd_k (k2 := 11) (by decide), y11, rd_k (k2 := 50) (by decide), z50]
