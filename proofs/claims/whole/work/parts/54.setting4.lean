def SS (s : Int32 × Int32) : Prop := (s.1 = -1 ∧ s.2 = -1) ∨ (¬ s.1 = -1 ∧ 0 ≤ s.2)
def mo0 (s : Int32) : Int32 := if s = -1 then 0 else s
theorem nI_ne1 {o : Nat} (ho : o < 2 ^ 31) : ¬ nI o = -1 := fun q => by
  have h1 := nI_pos ho
  rw [q] at h1
  exact absurd (by decide) h1
theorem v6_rng {p q : Nat → Int32} {n : Nat} (hn : 0 < n) (rng : ∀ k, k < n → inr (p k) 1 30 ∧ inr (q k) 1 30) (x : Nat) : 0 ≤ v6 (bB p q) n x ∧ bB p q (dg0 n x) (dg1 n x) ≤ 7200 := by
  have hB : ∀ k l, k < n → l < n → 0 ≤ bB p q k l ∧ bB p q k l ≤ 7200 := fun k l hk hl => b4_rng (rng k hk).1 (rng k hk).2 (rng l hl).1 (rng l hl).2
  have l0 : dg0 n x < n := Nat.mod_lt _ hn
  have l1 : dg1 n x < n := Nat.mod_lt _ hn
  have l2 : dg2 n x < n := Nat.mod_lt _ hn
  have l3 : dg3 n x < n := Nat.mod_lt _ hn
  refine ⟨?_, (hB _ _ l0 l1).2⟩
  have g : ∀ k l, k < n → l < n → 0 ≤ (bB p q k l).toInt := fun k l hk hl => by
    have := (hB k l hk hl).1
    rw [ti_le] at this
    exact this
  rw [ti_le]
  unfold v6
  rw [m6_t]
  have e0 : (0 : Int32).toInt = 0 := rfl
  have := g _ _ l0 l1
  have := g _ _ l0 l2
  have := g _ _ l0 l3
  have := g _ _ l1 l2
  have := g _ _ l1 l3
  have := g _ _ l2 l3
  omega
theorem st_loop {h : AH} {P : Option Value → AH → Prop} (w : Wf h) (x1 : Int32) {n : Nat} (h4 : 4 ≤ n) (h8 : n ≤ 8) (rng : ∀ k, k < n → inr (gI h 124 k) 1 30 ∧ inr (gI h 125 k) 1 30) : ∀ (m o : Nat) (s : Int32 × Int32) (h2 : AH), o + m = n * n * n * n → Fr [149] h h2 → SS s →
    (∀ s2 h3, s2 = ((List.range' o m).filter (unl n)).foldl (vup (v6 (bB (gI h 124) (gI h 125)) n)) s → Fr [149] h h3 → SS s2 → (¬ x1 = 0 → Rr mX12_setting 0 0 229 [(1, .int x1), (2, .int (nI n)), (3, .int s2.1), (5, .int 4)] [] h3 P) ∧ (x1 = 0 → P (some (.int (mo0 s2.2))) h3)) →
    Rr mX12_setting 0 0 35 [(0, .ref 116), (1, .int x1), (2, .int (nI n)), (3, .int s.1), (4, .int (mo0 s.2)), (5, .int (nI o))] [] h2 P
  | 0, o, s, h2, ho, F, hs, k => by
    refine sX12_setting_35 h2 116 _ _ _ _ _ ⟨fun _ => k s h2 rfl F hs, fun q => absurd ?_ q⟩
    rw [pk_mul, pk_mul, pk_mul, show o = n * n * n * n by omega]
    exact Int32.le_refl _
  | m + 1, o, s, h2, ho, F, hs, k => by
    have n4 := n4_le h8
    have hr : List.range' o (m + 1) = o :: List.range' (o + 1) m := rfl
    rw [hr] at k
    refine sX12_setting_35 h2 116 _ _ _ _ _ ⟨fun q => absurd q ?_, fun _ => ?_⟩
    · rw [pk_mul, pk_mul, pk_mul, nI_leI (by omega) (by omega)]
      omega
    have w2 := F.wf w
    have a2 : (3 : Int32) + (-1) = 2 := rfl
    have a1 : (2 : Int32) + (-1) = 1 := rfl
    have a0 : (1 : Int32) + (-1) = 0 := rfl
    have am : (0 : Int32) + (-1) = -1 := rfl
    have n0 : ¬ nI n = 0 := nI_ne0 (by omega) (by omega)
    have d1 : o / n < 2 ^ 31 := Nat.lt_of_le_of_lt (Nat.div_le_self o n) (by omega)
    have d2 : o / n / n < 2 ^ 31 := Nat.lt_of_le_of_lt (Nat.div_le_self _ n) d1
    have d3 : o / n / n / n < 2 ^ 31 := Nat.lt_of_le_of_lt (Nat.div_le_self _ n) d2
    have F1 : Fr [149] h (sI h2 149 3 (nI (o % n))) := F.tr (Fr.sI (by decide))
    have F2 : Fr [149] h (sI (sI h2 149 3 (nI (o % n))) 149 2 (nI (o / n % n))) := F1.tr (Fr.sI (by decide))
    have F3 : Fr [149] h (sI (sI (sI h2 149 3 (nI (o % n))) 149 2 (nI (o / n % n))) 149 1 (nI (o / n / n % n))) := F2.tr (Fr.sI (by decide))
    have F4 : Fr [149] h (sI (sI (sI (sI h2 149 3 (nI (o % n))) 149 2 (nI (o / n % n))) 149 1 (nI (o / n / n % n))) 149 0 (nI (o / n / n / n % n))) := F3.tr (Fr.sI (by decide))
    refine sX12_setting_54 h2 116 _ _ _ _ _ _ _ ⟨fun q => absurd q (by decide), fun _ => ?_⟩
    rw [w2.f116_58, cl3, nI_mod (by omega) (by omega) (by omega), nI_div (by omega) (by omega) (by omega), a2]
    refine ⟨w2.o (by decide) rfl, n0, w2.a (by decide) rfl, in4_3, ?_⟩
    have w3 := F1.wf w
    refine sX12_setting_54 _ 116 _ _ _ _ _ _ _ ⟨fun q => absurd q (by decide), fun _ => ?_⟩
    rw [w3.f116_58, cl2, nI_mod d1 (by omega) (by omega), nI_div d1 (by omega) (by omega), a1]
    refine ⟨w3.o (by decide) rfl, n0, w3.a (by decide) rfl, in4_2, ?_⟩
    have w4 := F2.wf w
    refine sX12_setting_54 _ 116 _ _ _ _ _ _ _ ⟨fun q => absurd q (by decide), fun _ => ?_⟩
    rw [w4.f116_58, cl1, nI_mod d2 (by omega) (by omega), nI_div d2 (by omega) (by omega), a0]
    refine ⟨w4.o (by decide) rfl, n0, w4.a (by decide) rfl, in4_1, ?_⟩
    have w5 := F3.wf w
    refine sX12_setting_54 _ 116 _ _ _ _ _ _ _ ⟨fun q => absurd q (by decide), fun _ => ?_⟩
    rw [w5.f116_58, cl0, nI_mod d3 (by omega) (by omega), nI_div d3 (by omega) (by omega), am]
    refine ⟨w5.o (by decide) rfl, n0, w5.a (by decide) rfl, in4_0, ?_⟩
    have w6 := F4.wf w
    refine sX12_setting_54 _ 116 _ _ _ _ _ _ _ ⟨fun _ => ?_, fun q => absurd (by decide) q⟩
    have e124 : gI (sI (sI (sI (sI h2 149 3 (nI (o % n))) 149 2 (nI (o / n % n))) 149 1 (nI (o / n / n % n))) 149 0 (nI (o / n / n / n % n))) 124 = gI h 124 := (F4.2.2 124 (by decide)).1
    have e125 : gI (sI (sI (sI (sI h2 149 3 (nI (o % n))) 149 2 (nI (o / n % n))) 149 1 (nI (o / n / n % n))) 149 0 (nI (o / n / n / n % n))) 125 = gI h 125 := (F4.2.2 125 (by decide)).1
    have b0 : o / n / n / n % n < 8 := Nat.lt_of_lt_of_le (Nat.mod_lt _ (by omega)) h8
    have b1 : o / n / n % n < 8 := Nat.lt_of_lt_of_le (Nat.mod_lt _ (by omega)) h8
    have b2 : o / n % n < 8 := Nat.lt_of_lt_of_le (Nat.mod_lt _ (by omega)) h8
    have b3 : o % n < 8 := Nat.lt_of_lt_of_le (Nat.mod_lt _ (by omega)) h8
    refine st_inner w6 _ _ _ _ _ b0 b1 b2 b3 rd_h ((rd_k (by decide)).trans rd_h) ((rd_k (by decide)).trans ((rd_k (by decide)).trans rd_h)) ((rd_k (by decide)).trans ((rd_k (by decide)).trans ((rd_k (by decide)).trans rd_h))) ?_
    rw [e124, e125, nI_1]
    intro z7 M z5 z6 h7 hM h5 h6
    obtain ⟨r0, r1⟩ := v6_rng (show 0 < n by omega) rng o
    have hM2 : M = v6 (bB (gI h 124) (gI h 125)) n o := by
      rw [hM]
      exact mm6_eq (bB_c _ _) r1
    have hu : z7 = 0 ↔ ¬ unl n o = true := by
      rw [h7]
      unfold unl dg0 dg1 dg2 dg3
      rw [decide_eq_true_eq]
    rw [← hM2] at r0
    have go : ∀ s1 : Int32 × Int32, z5 = s1.1 → z6 = mo0 s1.2 → SS s1 → ((List.filter (unl n) (o :: List.range' (o + 1) m)).foldl (vup (v6 (bB (gI h 124) (gI h 125)) n)) s = ((List.range' (o + 1) m).filter (unl n)).foldl (vup (v6 (bB (gI h 124) (gI h 125)) n)) s1) → Rr mX12_setting 0 0 35 [(0, .ref 116), (1, .int x1), (2, .int (nI n)), (3, .int z5), (4, .int z6), (5, .int (nI (o + 1)))] [] (sI (sI (sI (sI h2 149 3 (nI (o % n))) 149 2 (nI (o / n % n))) 149 1 (nI (o / n / n % n))) 149 0 (nI (o / n / n / n % n))) P := by
      intro s1 q1 q2 q3 q4
      rw [q1, q2]
      rw [q4] at k
      exact st_loop w x1 h4 h8 rng m (o + 1) s1 _ (by omega) F4 q3 k
    have no := nI_ne1 (show o < 2 ^ 31 by omega)
    have mo : mo0 M = M := if_neg (by clear k go; grind)
    by_cases c : unl n o = true
    · have c7 : ¬ z7 = 0 := fun q => hu.mp q c
      rw [if_neg c7] at h5 h6
      have st : s.2 < M ∨ ¬ s.2 < M := Classical.em _
      have upd : s.2 < M → vup (v6 (bB (gI h 124) (gI h 125)) n) s o = (nI o, M) := fun q => by
        unfold vup
        rw [← hM2, if_pos q]
      rcases hs with ⟨s1, s2⟩ | ⟨s1, s2⟩
      · rw [if_pos s1] at h5 h6
        refine go (nI o, M) h5 (by rw [h6]; exact mo.symm) (Or.inr ⟨no, r0⟩) ?_
        rw [List.filter_cons_of_pos c, List.foldl_cons, upd (by rw [s2]; clear k go; grind)]
      · have e2 : mo0 s.2 = s.2 := if_neg (by clear k go; grind)
        rw [if_neg s1, e2] at h5 h6
        by_cases q : s.2 < M
        · rw [if_pos q] at h5 h6
          refine go (nI o, M) h5 (by rw [h6]; exact mo.symm) (Or.inr ⟨no, r0⟩) ?_
          rw [List.filter_cons_of_pos c, List.foldl_cons, upd q]
        · rw [if_neg q] at h5 h6
          refine go s h5 (by rw [h6]; exact e2.symm) (Or.inr ⟨s1, s2⟩) ?_
          rw [List.filter_cons_of_pos c, List.foldl_cons, vup_no (by rw [← hM2]; clear k go; grind)]
    · have c7 : z7 = 0 := hu.mpr c
      rw [if_pos c7] at h5 h6
      refine go s h5 h6 hs ?_
      rw [List.filter_cons_of_neg c]
theorem pr_setting {j : Nat} {h : AH} (I : Inv j h) (x : Int32) : Pair mX11_setting mX12_setting [.int x] h := by
  have w := I.1
  obtain ⟨-, hj, -, -, ⟨⟨-, -, -, -, -, -, -, -, -, n8, n9⟩, ⟨-, -, -, jp, -⟩, -⟩, -, -, -, -, -⟩ := id I
  have jb := jcase w hj
  obtain ⟨hO, hO8, f4, f5, f7, f8, f11, f14, f15, g1, g2, g3⟩ := job_refs w hj
  unfold inr at n9
  have e8 : (Int32.toNatClampNeg 8) = 8 := rfl
  -- the reference, refused
  have r1 : ¬ (0 ≤ x ∧ x ≤ 4) → Call mX12_setting [.ref 116, .int x] h (fun v2 h2 => v2 = some (.int (-2)) ∧ (∃ z : Int32, some (Value.int (-2)) = some (.int z)) ∧ ∃ j, Inv j h2) := fun c => by
    refine Call.ofR (by decide +kernel) (Nat.le_of_ble_eq_true rfl) (sX12_setting_0 h 116 x ⟨fun q => absurd ?_ c, fun _ => ⟨rfl, ⟨_, rfl⟩, j, I⟩⟩)
    clear I jp
    grind
  refine Call.ofR (by decide +kernel) (Nat.le_of_ble_eq_true rfl) (sX11_setting_0 h 0 x ⟨fun c => r1 (by clear I jp; grind), fun c => ⟨fun c2 => ⟨w.o (by decide) rfl, ?_⟩, fun c2 => r1 (by clear I jp; grind)⟩⟩)
  rw [hj, f14]
  refine ⟨hO, hO8, fun c3 => ?_, fun c3 => ?_⟩
  rotate_left
  · refine Call.ofR (by decide +kernel) (Nat.le_of_ble_eq_true rfl) (sX12_setting_0 h 116 x ⟨fun _ => ?_, fun q => absurd ?_ q⟩)
    · rw [w.f116_11, e8, ← n8]
      exact ⟨w.o (by decide) rfl, w.a (by decide) rfl, by show vp_in 8 18; rw [vin_18]; decide, fun q => absurd q c3, fun _ => ⟨rfl, ⟨_, rfl⟩, j, I⟩⟩
    · clear I jp
      grind
  -- how many screens
  obtain ⟨n, hn8, en⟩ : ∃ n : Nat, n ≤ 8 ∧ gI h (j + 14) 0 = nI n := nI_of2 (M := 8) rfl (by clear I jp r1; grind) n9.2
  have hn4 : 4 ≤ n := by
    rw [en, show (4 : Int32) = nI 4 from rfl, nI_leI (by decide) (by omega)] at c3
    exact c3
  have rows : ∀ k, k < n → gI h (j + 15) k = gI h 124 k ∧ gI h (j + 16) k = gI h 125 k ∧ inr (gI h 124 k) 1 30 ∧ inr (gI h 125 k) 1 30 := fun k hk => by
    have := jp (nI k) (nI_pos' (by omega)) (by rw [en]; exact nI_lt hk (by omega))
    rw [nI_clamp (by omega)] at this
    exact ⟨this.1, this.2.2.1, by rw [← this.1]; exact this.2.1, by rw [← this.2.2.1]; exact this.2.2.2⟩
  have rng : ∀ k, k < n → inr (gI h 124 k) 1 30 ∧ inr (gI h 125 k) 1 30 := fun k hk => (rows k hk).2.2
  clear jp
  refine Call.ofR (by decide +kernel) (Nat.le_of_ble_eq_true rfl) (sX8_findSetting_0 h (j + 14) ?_)
  refine fs4 w hj hn8 en n 0 (-1, -1) h (by omega) ⟨Fr.rf, by decide, Or.inl rfl⟩ (fun s h2 hs ho => ?_)
  have hs2 : s = ((List.range' 0 (n * n * n * n)).filter (unl n)).foldl (vup (v6 (bB (gI h 124) (gI h 125)) n)) (-1, -1) := by
    rw [hs]
    show (q1 n).foldl _ _ = _
    rw [v6_skip (bB_c _ _) (by omega), q1_eq hn4 hn8]
    refine fold_congr _ _ _ _ (fun t y _ => ?_)
    have l0 : dg0 n y < n := Nat.mod_lt _ (by omega)
    have l1 : dg1 n y < n := Nat.mod_lt _ (by omega)
    have l2 : dg2 n y < n := Nat.mod_lt _ (by omega)
    have l3 : dg3 n y < n := Nat.mod_lt _ (by omega)
    have ev : vC h j n y = v6 (bB (gI h 124) (gI h 125)) n y := by
      unfold vC v6 m6 bB
      rw [(rows _ l0).1, (rows _ l0).2.1, (rows _ l1).1, (rows _ l1).2.1, (rows _ l2).1, (rows _ l2).2.1, (rows _ l3).1, (rows _ l3).2.1]
    unfold vup
    rw [ev]
  have s0 : 0 ≤ s.2 := by
    rw [hs2, v6_skip (bB_c _ _) (by omega)]
    have hm : cd4 n 0 1 2 3 ∈ (List.range' 0 (n * n * n * n)).filter (ris n) := by
      rw [List.mem_filter]
      refine ⟨?_, ?_⟩
      · rw [List.mem_range'_1]
        have := cd_hi (n := n) (a := 0) (b := 1) (c := 2) (d := 3) (by omega) (by omega) (by omega) (by omega)
        omega
      · obtain ⟨e0, e1, e2, e3⟩ := cd_dg (n := n) (a := 0) (b := 1) (c := 2) (d := 3) (by omega) (by omega) (by omega) (by omega)
        unfold ris
        rw [e0, e1, e2, e3]
        decide
    exact Int32.le_trans (v6_rng (by omega) rng _).1 (vup_mem _ _ _ _ hm)
  obtain ⟨F, -, hz⟩ := ho
  have w2 := F.wf w
  have hj2 : gF h2 0 2 = j := (F.2.1 0 2).trans hj
  have I2 : Inv j h2 := inv_keep I F (by rcases jb with rfl | rfl <;> decide) (fun q hq => F.I (by clear I rows rng r1; rcases jb with rfl | rfl <;> revert q <;> decide) _)
  obtain ⟨hO', hO8', -, -, -, -, -, f14', -, -, -, g3'⟩ := job_refs w2 hj2
  rcases hz with hz | ⟨y, hy, e1, d0, d1, d2, d3⟩
  · rw [hz] at s0
    exact absurd s0 (by decide)
  refine ⟨_, rfl, w2.o (by decide) rfl, ?_⟩
  rw [hj2, f14', g3']
  have l17 : isA h2 0 (j + 17) ∧ ln (j + 17) = 4 := by
    rcases jb with rfl | rfl
    · exact ⟨w2.a (by decide) rfl, rfl⟩
    · exact ⟨w2.a (by decide) rfl, rfl⟩
  rw [l17.2]
  refine ⟨hO', hO8', l17.1, fun q => by rw [vin_4]; clear I I2 rows rng r1; grind, fun z hz => ?_⟩
  have e124 : gI h2 124 = gI h 124 := (F.2.2 124 (by rcases jb with rfl | rfl <;> decide)).1
  have e125 : gI h2 125 = gI h 125 := (F.2.2 125 (by rcases jb with rfl | rfl <;> decide)).1
  have e118 : gI h2 118 8 = nI n := by rw [F.I (by rcases jb with rfl | rfl <;> decide) 8, ← n8, en]
  refine Call.ofR (by decide +kernel) (Nat.le_of_ble_eq_true rfl) (sX12_setting_0 h2 116 x ⟨fun _ => ?_, fun q => absurd ?_ q⟩)
  rotate_left
  · clear I I2 rows rng r1
    grind
  rw [w2.f116_11, e8, e118]
  refine ⟨w2.o (by decide) rfl, w2.a (by decide) rfl, by show vp_in 8 18; rw [vin_18]; decide, fun _ => ?_, fun q => absurd ?_ q⟩
  rotate_left
  · rw [show (4 : Int32) = nI 4 from rfl, nI_leI (by decide) (by omega)]
    exact hn4
  refine st_loop w2 x hn4 hn8 (by rw [e124, e125]; exact rng) (n * n * n * n) 0 (-1, -1) h2 (by omega) Fr.rf (Or.inl ⟨rfl, rfl⟩) (fun t h3 ht F3 _ => ?_)
  have I3 : Inv j h3 := inv_keep I2 F3 (by rcases jb with rfl | rfl <;> decide) (fun q hq => F3.I (by clear I I2 rows rng r1; revert q; decide) _)
  rw [e124, e125, ← hs2] at ht
  subst ht
  have m0 : mo0 t.2 = t.2 := if_neg (by clear I I2 I3 rows rng r1; grind)
  refine ⟨fun q => ?_, fun q => ⟨by rw [hz, if_pos q, m0], ⟨_, rfl⟩, j, I3⟩⟩
  have fin : ∀ u : Int32, u = z → (some (Value.int u) = some (Value.int z) ∧ (∃ z2 : Int32, some (Value.int z) = some (.int z2)) ∧ ∃ j, Inv j h3) := fun u hu => ⟨by rw [hu], ⟨_, rfl⟩, j, I3⟩
  rw [if_neg q] at hz
  have n0 : ¬ nI n = 0 := nI_ne0 (by omega) (by omega)
  have d1' : y / n < 2 ^ 31 := Nat.lt_of_le_of_lt (Nat.div_le_self y n) (by omega)
  have d2' : y / n / n < 2 ^ 31 := Nat.lt_of_le_of_lt (Nat.div_le_self _ n) d1'
  have d3' : y / n / n / n < 2 ^ 31 := Nat.lt_of_le_of_lt (Nat.div_le_self _ n) d2'
  rw [e1]
  have hq : x = 1 ∨ x = 2 ∨ x = 3 ∨ x = 4 := by clear I I2 I3 rows rng r1 fin hz; grind
  have a2 : (4 : Int32) + (-1) = 3 := rfl
  have a1 : (3 : Int32) + (-1) = 2 := rfl
  have a0 : (2 : Int32) + (-1) = 1 := rfl
  rcases hq with rfl | rfl | rfl | rfl
  · refine sX12_setting_229 h3 _ _ _ _ ⟨fun c => absurd c (by decide), fun _ => ⟨n0, ?_⟩⟩
    rw [a2, nI_div (by omega) (by omega) (by omega)]
    refine sX12_setting_229 h3 _ _ _ _ ⟨fun c => absurd c (by decide), fun _ => ⟨n0, ?_⟩⟩
    rw [a1, nI_div d1' (by omega) (by omega)]
    refine sX12_setting_229 h3 _ _ _ _ ⟨fun c => absurd c (by decide), fun _ => ⟨n0, ?_⟩⟩
    rw [a0, nI_div d2' (by omega) (by omega)]
    refine sX12_setting_229 h3 _ _ _ _ ⟨fun _ => ⟨n0, fin _ ?_⟩, fun c => absurd (by decide) c⟩
    rw [nI_mod d3' (by omega) (by omega), hz]
    exact d0.symm
  · refine sX12_setting_229 h3 _ _ _ _ ⟨fun c => absurd c (by decide), fun _ => ⟨n0, ?_⟩⟩
    rw [a2, nI_div (by omega) (by omega) (by omega)]
    refine sX12_setting_229 h3 _ _ _ _ ⟨fun c => absurd c (by decide), fun _ => ⟨n0, ?_⟩⟩
    rw [a1, nI_div d1' (by omega) (by omega)]
    refine sX12_setting_229 h3 _ _ _ _ ⟨fun _ => ⟨n0, fin _ ?_⟩, fun c => absurd (by decide) c⟩
    rw [nI_mod d2' (by omega) (by omega), hz]
    exact d1.symm
  · refine sX12_setting_229 h3 _ _ _ _ ⟨fun c => absurd c (by decide), fun _ => ⟨n0, ?_⟩⟩
    rw [a2, nI_div (by omega) (by omega) (by omega)]
    refine sX12_setting_229 h3 _ _ _ _ ⟨fun _ => ⟨n0, fin _ ?_⟩, fun c => absurd (by decide) c⟩
    rw [nI_mod d1' (by omega) (by omega), hz]
    exact d2.symm
  · refine sX12_setting_229 h3 _ _ _ _ ⟨fun _ => ⟨n0, fin _ ?_⟩, fun c => absurd (by decide) c⟩
    rw [nI_mod (by omega) (by omega) (by omega), hz]
    exact d3.symm
