def mup (vb vt : Nat → Int32) (s : Int32 × Int32 × Nat) (c : Nat) : Int32 × Int32 × Nat := if vb c < s.1 ∨ (vb c = s.1 ∧ vt c < s.2.1) then (vb c, vt c, c) else s
def mst (vb vt : Nat → Int32) (c : Nat) : Int32 × Int32 × Nat := (List.range' 0 c).foldl (mup vb vt) (1000000000, 1000000000, 0)
theorem mst_s (vb vt : Nat → Int32) (c : Nat) : mst vb vt (c + 1) = mup vb vt (mst vb vt c) c := by
  unfold mst
  rw [rng_succ, List.foldl_append]
  rfl
theorem mst_first {vb vt : Nat → Int32} (hb : ∀ c, 0 ≤ vb c ∧ vb c ≤ 849) : ∀ c, (mst vb vt (c + 1)).1 ≤ 849 ∧ (mst vb vt (c + 1)).2.2 < c + 1
  | 0 => by
    rw [mst_s]
    unfold mup
    rw [if_pos]
    · exact ⟨(hb 0).2, by show 0 < 0 + 1; decide⟩
    · left
      have := hb 0
      show vb 0 < 1000000000
      grind
  | c + 1 => by
    have ih := mst_first (vt := vt) hb c
    rw [mst_s]
    unfold mup
    split
    · exact ⟨(hb (c + 1)).2, by show c + 1 < c + 1 + 1; omega⟩
    · exact ⟨ih.1, by omega⟩
/-- what a row's slip is off, and its turns -/
def vB (mx my S0 S1 S2 : Nat → Int32) (a b r s : Int32) (t e ns n c : Nat) : Int32 := bdl mx my (a + isum (rowS S0 t e ns c) ns) (b + isum (rowS S1 t e ns c) ns) (r + isum (rowS S2 t e ns c) ns) s n
def vT (t e ns c : Nat) : Int32 := isum (fun k => iabs (tn t e ns c k)) ns
theorem fm34 {j : Nat} {h : AH} {P : Option Value → AH → Prop} (w : Wf h) (hj : gF h 0 2 = j) {t e ns i n : Nat} (he : e = 2 * t + 1) (t4 : t ≤ 4) (hi : i < 4) (hs : gI h 59 5 = nI ns) (n3 : ns ≤ 3) (hn : gI h j 3 = nI n) (n8 : n ≤ 8) (ht : gI h j 9 = nI t) (N9 : e ^ ns ≤ 729) (kk : ∀ h3, Fr [60, 61] h h3 → ((mst (vB (gI h (j + 1)) (gI h (j + 2)) (fun k => gI h (j + 4) (9 * i + 3 * k)) (fun k => gI h (j + 4) (9 * i + 3 * k + 1)) (fun k => gI h (j + 4) (9 * i + 3 * k + 2)) (gI h 59 0) (gI h 59 1) (gI h 59 2) (gI h 59 3) t e ns n) (vT t e ns) (e ^ ns)).1 = 1000000000 ∨ ∀ k, k < ns → gI h3 61 k = tn t e ns (mst (vB (gI h (j + 1)) (gI h (j + 2)) (fun k => gI h (j + 4) (9 * i + 3 * k)) (fun k => gI h (j + 4) (9 * i + 3 * k + 1)) (fun k => gI h (j + 4) (9 * i + 3 * k + 2)) (gI h 59 0) (gI h 59 1) (gI h 59 2) (gI h 59 3) t e ns n) (vT t e ns) (e ^ ns)).2.2 k) → P (some (.int (mst (vB (gI h (j + 1)) (gI h (j + 2)) (fun k => gI h (j + 4) (9 * i + 3 * k)) (fun k => gI h (j + 4) (9 * i + 3 * k + 1)) (fun k => gI h (j + 4) (9 * i + 3 * k + 2)) (gI h 59 0) (gI h 59 1) (gI h 59 2) (gI h 59 3) t e ns n) (vT t e ns) (e ^ ns)).1)) h3) : ∀ (m c : Nat) (h2 : AH), c + m = e ^ ns → Fr [60, 61] h h2 → (c < e ^ ns → RwC h2 t e ns c) → ((mst (vB (gI h (j + 1)) (gI h (j + 2)) (fun k => gI h (j + 4) (9 * i + 3 * k)) (fun k => gI h (j + 4) (9 * i + 3 * k + 1)) (fun k => gI h (j + 4) (9 * i + 3 * k + 2)) (gI h 59 0) (gI h 59 1) (gI h 59 2) (gI h 59 3) t e ns n) (vT t e ns) c).1 = 1000000000 ∨ ∀ k, k < ns → gI h2 61 k = tn t e ns (mst (vB (gI h (j + 1)) (gI h (j + 2)) (fun k => gI h (j + 4) (9 * i + 3 * k)) (fun k => gI h (j + 4) (9 * i + 3 * k + 1)) (fun k => gI h (j + 4) (9 * i + 3 * k + 2)) (gI h 59 0) (gI h 59 1) (gI h 59 2) (gI h 59 3) t e ns n) (vT t e ns) c).2.2 k) → Rr mX6_find 0 0 34 [(0, .ref 59), (1, .ref j), (2, .int (nI i)), (3, .int (mst (vB (gI h (j + 1)) (gI h (j + 2)) (fun k => gI h (j + 4) (9 * i + 3 * k)) (fun k => gI h (j + 4) (9 * i + 3 * k + 1)) (fun k => gI h (j + 4) (9 * i + 3 * k + 2)) (gI h 59 0) (gI h 59 1) (gI h 59 2) (gI h 59 3) t e ns n) (vT t e ns) c).1), (4, .int (mst (vB (gI h (j + 1)) (gI h (j + 2)) (fun k => gI h (j + 4) (9 * i + 3 * k)) (fun k => gI h (j + 4) (9 * i + 3 * k + 1)) (fun k => gI h (j + 4) (9 * i + 3 * k + 2)) (gI h 59 0) (gI h 59 1) (gI h 59 2) (gI h 59 3) t e ns n) (vT t e ns) c).2.1), (5, .int (nI (e ^ ns))), (6, .int (nI c))] [] h2 P := by
  have jb := jcase w hj
  have hvb : ∀ h2, Fr [60, 61] h h2 → ∀ c, bdl (gI h2 (j + 1)) (gI h2 (j + 2)) (gI h2 59 0 + isum (rowS (fun k => gI h2 (j + 4) (9 * i + 3 * k)) t e ns c) ns) (gI h2 59 1 + isum (rowS (fun k => gI h2 (j + 4) (9 * i + 3 * k + 1)) t e ns c) ns) (gI h2 59 2 + isum (rowS (fun k => gI h2 (j + 4) (9 * i + 3 * k + 2)) t e ns c) ns) (gI h2 59 3) n = vB (gI h (j + 1)) (gI h (j + 2)) (fun k => gI h (j + 4) (9 * i + 3 * k)) (fun k => gI h (j + 4) (9 * i + 3 * k + 1)) (fun k => gI h (j + 4) (9 * i + 3 * k + 2)) (gI h 59 0) (gI h 59 1) (gI h 59 2) (gI h 59 3) t e ns n c := fun h2 F c => by
    rw [(F.2.2 (j + 1) (by rcases jb with rfl | rfl <;> decide)).1, (F.2.2 (j + 2) (by rcases jb with rfl | rfl <;> decide)).1, (F.2.2 (j + 4) (by rcases jb with rfl | rfl <;> decide)).1, (F.2.2 59 (by decide)).1]
    rfl
  generalize vB (gI h (j + 1)) (gI h (j + 2)) (fun k => gI h (j + 4) (9 * i + 3 * k)) (fun k => gI h (j + 4) (9 * i + 3 * k + 1)) (fun k => gI h (j + 4) (9 * i + 3 * k + 2)) (gI h 59 0) (gI h 59 1) (gI h 59 2) (gI h 59 3) t e ns n = V at hvb kk ⊢
  intro m
  induction m with
  | zero =>
    intro c h2 hc F R B
    have e1 : c = e ^ ns := by omega
    rw [← e1] at kk
    refine sX6_find_34 h2 59 j _ _ _ _ _ ⟨fun _ => kk h2 F B, fun q => absurd ?_ q⟩
    rw [← e1]
    exact Int32.le_refl _
  | succ m ih =>
    intro c h2 hc F R B
    have w2 := F.wf w
    have hj2 : gF h2 0 2 = j := (F.2.1 0 2).trans hj
    have Rc := R (by omega)
    have jn : ∀ z, gI h2 j z = gI h j z := fun z => F.I (by rcases jb with rfl | rfl <;> decide) z
    obtain ⟨hO, -, -, -, -, -, -, -, -, -, -, -⟩ := job_refs w2 hj2
    have hs2 : gI h2 59 5 = nI ns := (F.I (by decide) 5).trans hs
    refine sX6_find_34 h2 59 j _ _ _ _ _ ⟨fun q => absurd q ?_, fun _ => ⟨w2.o (by decide) rfl, ?_⟩⟩
    · rw [nI_leI (by omega) (by omega)]
      omega
    refine c6_badRow w2 hj2 hi hs2 n3 ((jn 3).trans hn) n8 Rc ⟨_, rfl, w2.o (by decide) rfl, ?_⟩
    rw [hvb h2 F c]
    refine c6_turns w2 hs2 n3 Rc ⟨_, rfl, ?_⟩
    have eT : isum (fun k => iabs (tn t e ns c k)) ns = vT t e ns c := rfl
    rw [eT]
    have ms := mst_s V (vT t e ns) c
    have tk : (V c < (mst V (vT t e ns) c).1 ∨ (V c = (mst V (vT t e ns) c).1 ∧ vT t e ns c < (mst V (vT t e ns) c).2.1)) → (isO h2 6 59) ∧ ((isA h2 0 (gF h2 59 4)) ∧ ((isA h2 0 (gF h2 59 6)) ∧ ((¬ (gI h2 59 5) < 0) ∧ (((Int32.toNatClampNeg 0) + (gI h2 59 5).toNatClampNeg ≤ ln (gF h2 59 4)) ∧ (((Int32.toNatClampNeg 0) + (gI h2 59 5).toNatClampNeg ≤ ln (gF h2 59 6)) ∧ ((isO h2 3 j) ∧ (Call mX6_nextRow [.ref 59, .int (gI (rI h2 (gF h2 59 6) (va_cpy (gI h2 (gF h2 59 4)) (gI h2 (gF h2 59 6)) (Int32.toNatClampNeg 0) (Int32.toNatClampNeg 0) (gI h2 59 5).toNatClampNeg)) j 9)] (rI h2 (gF h2 59 6) (va_cpy (gI h2 (gF h2 59 4)) (gI h2 (gF h2 59 6)) (Int32.toNatClampNeg 0) (Int32.toNatClampNeg 0) (gI h2 59 5).toNatClampNeg)) (fun v h16 => v = none ∧ (Rr mX6_find 0 0 34 [(0, .ref 59), (1, .ref j), (2, .int (nI i)), (3, .int (V c)), (4, .int (vT t e ns c)), (5, .int (nI (e ^ ns))), (6, .int (nI c + 1))] [] h16 P))))))))) := fun q => by
      have mu : mup V (vT t e ns) (mst V (vT t e ns) c) c = (V c, vT t e ns c, c) := if_pos q
      rw [mu] at ms
      have jne : j ≠ 61 := by rcases jb with rfl | rfl <;> decide
      rw [w2.f59_4, w2.f59_6, hs2, nI_clamp (by omega), cl0, gI_rI, if_neg jne, jn, ht, nI_1]
      have F1 : Fr [60, 61] h2 (rI h2 61 (va_cpy (gI h2 60) (gI h2 61) 0 0 ns)) := Fr.rI (by decide)
      have G1 := F.tr F1
      have w3 := G1.wf w
      refine ⟨w2.o (by decide) rfl, w2.a (by decide) rfl, w2.a (by decide) rfl, nI_pos (by omega), by show 0 + ns ≤ 3; omega, by show 0 + ns ≤ 3; omega, hO, ?_⟩
      refine c6_next (c := c) w3 he t4 ?_ n3 (fun k hk => ?_) (fun h4 F4 R4 => ⟨rfl, ?_⟩)
      · rw [gI_rI, if_neg (by decide)]
        exact hs2
      · rw [gI_rI, if_neg (by decide)]
        exact Rc k hk
      · have := ih (c + 1) h4 (by omega) (G1.tr (F4.sub (by decide))) R4 (by
          right
          intro k hk
          rw [ms, F4.I (by decide), gI_rI, if_pos rfl, pk_cpy_in (by omega) (by omega), show 0 + (k - 0) = k by omega]
          exact Rc k hk)
        rw [ms] at this
        exact this
    have no : ¬ (V c < (mst V (vT t e ns) c).1 ∨ (V c = (mst V (vT t e ns) c).1 ∧ vT t e ns c < (mst V (vT t e ns) c).2.1)) → (isO h2 3 j) ∧ ((isO h2 6 59) ∧ (Call mX6_nextRow [.ref 59, .int (gI h2 j 9)] h2 (fun v h20 => v = none ∧ (Rr mX6_find 0 0 34 [(0, .ref 59), (1, .ref j), (2, .int (nI i)), (3, .int (mst V (vT t e ns) c).1), (4, .int (mst V (vT t e ns) c).2.1), (5, .int (nI (e ^ ns))), (6, .int (nI c + 1))] [] h20 P)))) := fun q => by
      have mu : mup V (vT t e ns) (mst V (vT t e ns) c) c = mst V (vT t e ns) c := if_neg q
      rw [mu] at ms
      refine ⟨hO, w2.o (by decide) rfl, ?_⟩
      rw [jn, ht, nI_1]
      refine c6_next (c := c) w2 he t4 hs2 n3 Rc (fun h4 F4 R4 => ⟨rfl, ?_⟩)
      have := ih (c + 1) h4 (by omega) (F.tr (F4.sub (by decide))) R4 (by
        rw [ms]
        rcases B with B | B
        · exact Or.inl B
        · exact Or.inr (fun k hk => (F4.I (by decide) k).trans (B k hk)))
      rw [ms] at this
      exact this
    clear ih kk
    generalize V c = Vc at tk no ⊢
    generalize vT t e ns c = Tc at tk no ⊢
    exact ⟨fun q => tk (Or.inl q), fun q => ⟨fun q2 => no (fun z => z.elim q (fun z => q2 z.1)), fun q2 => ⟨fun q3 => no (fun z => z.elim q (fun z => by have := z.2; clear tk no; grind)), fun q3 => tk (Or.inr ⟨q2, by clear tk no; grind⟩)⟩⟩⟩
/-! the reference -/
theorem sub_step (a A B f : Int32) : a + (A - (B + f)) + f = a + (A - B) := by grind
theorem sub_self' (A : Int32) : A - A = 0 := by grind
theorem mr110 {h : AH} {P : Option Value → AH → Prop} (w : Wf h) {t e ns i n c : Nat} (he : e = 2 * t + 1) (t4 : t ≤ 4) (hi : i < 4) (n3 : ns ≤ 3) (hn : gI h 118 2 = nI n) (n8 : n ≤ 8) (ht : gI h 118 4 = nI t) (c9 : c < 729) {x7 x8 x9 x10 x11 a b r s : Int32} (kk : ∀ z9 z10 z11 : Int32, z9 = (if x8 = (-1) then x11 else (if x9 < vB (gI h 119) (gI h 120) (fun k => gI h 122 (9 * i + 3 * k)) (fun k => gI h 122 (9 * i + 3 * k + 1)) (fun k => gI h 122 (9 * i + 3 * k + 2)) a b r s t e ns n c then x8 else (if vB (gI h 119) (gI h 120) (fun k => gI h 122 (9 * i + 3 * k)) (fun k => gI h 122 (9 * i + 3 * k + 1)) (fun k => gI h 122 (9 * i + 3 * k + 2)) a b r s t e ns n c = x9 then (if vT t e ns c < x10 then x11 else x8) else x11))) → z10 = (if x8 = (-1) then vB (gI h 119) (gI h 120) (fun k => gI h 122 (9 * i + 3 * k)) (fun k => gI h 122 (9 * i + 3 * k + 1)) (fun k => gI h 122 (9 * i + 3 * k + 2)) a b r s t e ns n c else (if x9 < vB (gI h 119) (gI h 120) (fun k => gI h 122 (9 * i + 3 * k)) (fun k => gI h 122 (9 * i + 3 * k + 1)) (fun k => gI h 122 (9 * i + 3 * k + 2)) a b r s t e ns n c then x9 else (if vB (gI h 119) (gI h 120) (fun k => gI h 122 (9 * i + 3 * k)) (fun k => gI h 122 (9 * i + 3 * k + 1)) (fun k => gI h 122 (9 * i + 3 * k + 2)) a b r s t e ns n c = x9 then (if vT t e ns c < x10 then vB (gI h 119) (gI h 120) (fun k => gI h 122 (9 * i + 3 * k)) (fun k => gI h 122 (9 * i + 3 * k + 1)) (fun k => gI h 122 (9 * i + 3 * k + 2)) a b r s t e ns n c else x9) else vB (gI h 119) (gI h 120) (fun k => gI h 122 (9 * i + 3 * k)) (fun k => gI h 122 (9 * i + 3 * k + 1)) (fun k => gI h 122 (9 * i + 3 * k + 2)) a b r s t e ns n c))) → z11 = (if x8 = (-1) then vT t e ns c else (if x9 < vB (gI h 119) (gI h 120) (fun k => gI h 122 (9 * i + 3 * k)) (fun k => gI h 122 (9 * i + 3 * k + 1)) (fun k => gI h 122 (9 * i + 3 * k + 2)) a b r s t e ns n c then x10 else (if vB (gI h 119) (gI h 120) (fun k => gI h 122 (9 * i + 3 * k)) (fun k => gI h 122 (9 * i + 3 * k + 1)) (fun k => gI h 122 (9 * i + 3 * k + 2)) a b r s t e ns n c = x9 then (if vT t e ns c < x10 then vT t e ns c else x10) else vT t e ns c))) → Rr mX12_mend 0 0 76 [(0, .ref 116), (1, .int (nI i)), (2, .int a), (3, .int b), (4, .int r), (5, .int s), (6, .int (nI e)), (7, .int x7), (8, .int z9), (9, .int z10), (10, .int z11), (11, .int (x11 + 1))] [] h P) : ∀ (m : Nat), m ≤ ns → Rr mX12_mend 0 0 110 [(0, .ref 116), (1, .int (nI i)), (2, .int a), (3, .int b), (4, .int r), (5, .int s), (6, .int (nI e)), (7, .int x7), (8, .int x8), (9, .int x9), (10, .int x10), (11, .int x11), (12, .int (nI (c / e ^ (ns - m)))), (13, .int (0 + (vT t e ns c - isum (fun k => iabs (tn t e ns c k)) m))), (14, .int (a + (isum (rowS (fun k => gI h 122 (9 * i + 3 * k)) t e ns c) ns - isum (rowS (fun k => gI h 122 (9 * i + 3 * k)) t e ns c) m))), (15, .int (b + (isum (rowS (fun k => gI h 122 (9 * i + 3 * k + 1)) t e ns c) ns - isum (rowS (fun k => gI h 122 (9 * i + 3 * k + 1)) t e ns c) m))), (16, .int (r + (isum (rowS (fun k => gI h 122 (9 * i + 3 * k + 2)) t e ns c) ns - isum (rowS (fun k => gI h 122 (9 * i + 3 * k + 2)) t e ns c) m))), (17, .int (nI m - 1))] [] h P
  | 0, hm => by
    have s0 : ∀ A : Int32, A - 0 = A := fun A => by grind
    have z0 : ∀ f : Nat → Int32, isum f 0 = 0 := fun f => rfl
    rw [z0, z0, z0, z0, s0, s0, s0, s0, Int32.zero_add]
    refine sX12_mend_110 h 116 _ _ _ _ _ _ _ _ _ _ _ _ _ _ _ _ _ ⟨fun _ => ⟨w.o (by decide) rfl, c12_bad w hn n8 ⟨_, rfl, fun z9 h9 z10 h10 z11 h11 => kk z9 z10 z11 h9 h10 h11⟩⟩, fun q => absurd (by decide) q⟩
  | m + 1, hm => by
    have e0 : 0 < e := by omega
    have ix : ∀ x, x < 3 → ((9 : Int32) * nI i + 3 * nI m) + nI x = nI (9 * i + 3 * m + x) := fun x _ => by
      rw [show (9 : Int32) = nI 9 from rfl, show (3 : Int32) = nI 3 from rfl, pk_mul, pk_mul, nI_add, nI_add]
    have i0 : (9 : Int32) * nI i + 3 * nI m = nI (9 * i + 3 * m) := by
      rw [show (9 : Int32) = nI 9 from rfl, show (3 : Int32) = nI 3 from rfl, pk_mul, pk_mul, nI_add]
    have i1 : nI (9 * i + 3 * m) + 1 = nI (9 * i + 3 * m + 1) := nI_add _ 1
    have i2 : nI (9 * i + 3 * m) + 2 = nI (9 * i + 3 * m + 2) := nI_add _ 2
    have cl : c / e ^ (ns - (m + 1)) < 2 ^ 31 := Nat.lt_of_le_of_lt (Nat.div_le_self _ _) (by omega)
    have dv : c / e ^ (ns - (m + 1)) / e = c / e ^ (ns - m) := by
      rw [Nat.div_div_eq_div_mul, ← Nat.pow_succ]
      congr 2
      omega
    have dm : nI (c / e ^ (ns - (m + 1)) % e) - nI t = tn t e ns c m := by
      unfold tn dgt
      rw [show ns - 1 - m = ns - (m + 1) by omega]
    have v : ∀ p, p < 72 → vp_in (nI p) 72 := fun p hp => vp_in_nI hp (by decide)
    refine sX12_mend_110 h 116 _ _ _ _ _ _ _ _ _ _ _ _ _ _ _ _ _ ?_
    simp only [nI_pred, w.f116_11, w.f116_15, cl4, ht, nI_mod cl e0 (show e < 2 ^ 31 by omega), nI_div cl e0 (show e < 2 ^ 31 by omega), dm, dv, i1, i2, i0, nI_clamp (show 9 * i + 3 * m < 2 ^ 31 by omega), nI_clamp (show 9 * i + 3 * m + 1 < 2 ^ 31 by omega), nI_clamp (show 9 * i + 3 * m + 2 < 2 ^ 31 by omega), iabs_p]
    refine ⟨fun q => absurd q (nI_pos (by omega)), fun _ => ⟨nI_ne0 e0 (by omega), w.o (by decide) rfl, w.a (by decide) rfl, by show vp_in 4 18; rw [vin_18]; decide, w.a (by decide) rfl, v _ (by omega), fun v18 h18 => ⟨v _ (by omega), fun v20 h20 => ⟨v _ (by omega), fun v22 h22 => ?_⟩⟩⟩⟩
    have st : ∀ (z : Int32) (f : Nat → Int32), z + (isum f ns - isum f (m + 1)) + f m = z + (isum f ns - isum f m) := fun z f => sub_step z (isum f ns) (isum f m) (f m)
    have e18 : v18 = a + (isum (rowS (fun k => gI h 122 (9 * i + 3 * k)) t e ns c) ns - isum (rowS (fun k => gI h 122 (9 * i + 3 * k)) t e ns c) m) := by
      rw [h18, ← st]
      rfl
    have e20 : v20 = b + (isum (rowS (fun k => gI h 122 (9 * i + 3 * k + 1)) t e ns c) ns - isum (rowS (fun k => gI h 122 (9 * i + 3 * k + 1)) t e ns c) m) := by
      rw [h20, ← st]
      rfl
    have e22 : v22 = r + (isum (rowS (fun k => gI h 122 (9 * i + 3 * k + 2)) t e ns c) ns - isum (rowS (fun k => gI h 122 (9 * i + 3 * k + 2)) t e ns c) m) := by
      rw [h22, ← st]
      rfl
    have e13 : 0 + (vT t e ns c - isum (fun k => iabs (tn t e ns c k)) (m + 1)) + iabs (tn t e ns c m) = 0 + (vT t e ns c - isum (fun k => iabs (tn t e ns c k)) m) := st 0 (fun k => iabs (tn t e ns c k))
    rw [e18, e20, e22, e13, ← Int32.sub_eq_add_neg]
    exact mr110 w he t4 hi n3 hn n8 ht c9 kk m (by omega)
theorem m302 {h : AH} {P : Option Value → AH → Prop} (w : Wf h) {t e ns c : Nat} (he : e = 2 * t + 1) (t4 : t ≤ 4) (n3 : ns ≤ 3) (ht : gI h 118 4 = nI t) (c9 : c < 729) {x9 : Int32} (kk : ∀ h3, Fr [142] h h3 → (∀ k, k < ns → gI h3 142 k = tn t e ns c k) → P (some (.int x9)) h3) : ∀ (m : Nat) (h2 : AH), m ≤ ns → Fr [142] h h2 → (∀ k, m ≤ k → k < ns → gI h2 142 k = tn t e ns c k) → Rr mX12_mend 0 0 302 [(0, .ref 116), (6, .int (nI e)), (8, .int (nI (c / e ^ (ns - m)))), (9, .int x9), (11, .int (nI m - 1))] [] h2 P
  | 0, h2, hm, F, e1 => sX12_mend_302 h2 116 _ _ _ _ ⟨fun _ => kk h2 F (fun k hk => e1 k (Nat.zero_le k) hk), fun q => absurd (by decide) q⟩
  | m + 1, h2, hm, F, e1 => by
    have e0 : 0 < e := by omega
    have w2 := F.wf w
    have cl : c / e ^ (ns - (m + 1)) < 2 ^ 31 := Nat.lt_of_le_of_lt (Nat.div_le_self _ _) (by omega)
    have dv : c / e ^ (ns - (m + 1)) / e = c / e ^ (ns - m) := by
      rw [Nat.div_div_eq_div_mul, ← Nat.pow_succ]
      congr 2
      omega
    have dm : nI (c / e ^ (ns - (m + 1)) % e) - nI t = tn t e ns c m := by
      unfold tn dgt
      rw [show ns - 1 - m = ns - (m + 1) by omega]
    refine sX12_mend_302 h2 116 _ _ _ _ ?_
    rw [nI_pred, w2.f116_11, w2.f116_44, cl4, F.I (r := 118) (by decide), ht, nI_mod cl e0 (by omega), nI_div cl e0 (by omega), dm, dv, nI_clamp (by omega), ← Int32.sub_eq_add_neg]
    refine ⟨fun q => absurd q (nI_pos (by omega)), fun _ => ⟨w2.o (by decide) rfl, nI_ne0 e0 (by omega), w2.a (by decide) rfl, by show vp_in 4 18; rw [vin_18]; decide, w2.a (by decide) rfl, vp_in_nI (show m < 3 by omega) (by decide), ?_⟩⟩
    refine m302 w he t4 n3 ht c9 kk m _ (by omega) (F.tr (Fr.sI (by decide))) (fun k h1 h2 => ?_)
    by_cases z : k = m
    · subst z
      exact rd_h
    · exact (rd_k z).trans (e1 k (by omega) h2)
