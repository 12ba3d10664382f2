theorem range_mem {n k : Nat} (h : k ∈ List.range' 0 n) : k < n := by
  rw [List.mem_range'_1] at h
  omega
theorem sel_mem {td ik : Nat → Int32} {ink known : Int32} {n k : Nat} (h : k ∈ (List.range' 0 n).filter (sel td ik ink known)) : k < n := range_mem (List.mem_filter.mp h).1
/-- what the invariant tells of the readings -/
def RdOK (j : Nat) (h : AH) (R n : Nat) : Prop := gI h 42 1 = nI R ∧ R ≤ 20 ∧ gI h 42 0 = nI n ∧ n ≤ 24 ∧ gI h 116 24 = nI R ∧ gI h 116 23 = nI n ∧ (∀ k, k < n → gI h 43 k = gI h 127 k ∧ gI h 44 k = gI h 128 k ∧ gI h 45 k = gI h 129 k ∧ gI h 46 k = gI h 130 k ∧ gI h 47 k = gI h 131 k ∧ (0 ≤ gI h 45 k ∧ gI h 45 k < gI h j 3) ∧ inr (gI h 46 k) (-99) 99 ∧ inr (gI h 47 k) (-99) 99) ∧ (∀ i, i < R → gI h 48 i = gI h 133 i ∧ gI h 49 i = gI h 132 i ∧ gI h 50 i = gI h 134 i ∧ gI h 51 i = gI h 135 i ∧ inr (gI h 50 i) (-99) 99 ∧ inr (gI h 51 i) (-99) 99)
theorem rd_ok {j : Nat} {h : AH} (I : Inv j h) : ∃ R n, RdOK j h R n := by
  obtain ⟨-, -, -, -, -, ⟨r0, r1, e0, e1, -, -, a, b⟩, -, -, -, -⟩ := I
  obtain ⟨n, hn, en⟩ : ∃ n : Nat, n ≤ 24 ∧ gI h 42 0 = nI n := nI_of2 (M := 24) rfl (by unfold inr at r0; grind) r0.2
  obtain ⟨R, hR, eR⟩ : ∃ n : Nat, n ≤ 20 ∧ gI h 42 1 = nI n := nI_of2 (M := 20) rfl (by unfold inr at r1; grind) r1.2
  refine ⟨R, n, eR, hR, en, hn, e1.trans eR, e0.trans en, fun k hk => ?_, fun i hi => ?_⟩
  · have := a (nI k) (nI_pos' (by omega)) (by rw [en]; exact nI_lt hk (by omega))
    rw [nI_clamp (by omega)] at this
    exact ⟨this.1, this.2.1, this.2.2.1, this.2.2.2.1, this.2.2.2.2.1, this.2.2.2.2.2.2.2.1, this.2.2.2.2.2.2.2.2.1, this.2.2.2.2.2.2.2.2.2⟩
  · have := b (nI i) (nI_pos' (by omega)) (by rw [eR]; exact nI_lt hi (by omega))
    rw [nI_clamp (by omega)] at this
    exact ⟨this.1, this.2.1, this.2.2.1, this.2.2.2.1, this.2.2.2.2.2.2.1, this.2.2.2.2.2.2.2⟩
theorem mk_ok {j : Nat} {h : AH} (I : Inv j h) {x : Int32} (h1 : 0 ≤ x) (h2 : x < gI h j 3) : gI h (j + 1) x.toNatClampNeg = gI h 119 x.toNatClampNeg ∧ inr (gI h (j + 1) x.toNatClampNeg) 0 200 ∧ gI h (j + 2) x.toNatClampNeg = gI h 120 x.toNatClampNeg ∧ inr (gI h (j + 2) x.toNatClampNeg) 0 200 := I.2.2.2.2.1.2.1.1 x h1 h2
theorem q_eq {j : Nat} {h : AH} (I : Inv j h) {R n : Nat} (K : RdOK j h R n) (ink known : Int32) : qM h ink known R n = qC h j ink known R n ∧ ∀ q ∈ qC h j ink known R n, QG q := by
  obtain ⟨-, -, -, -, -, -, a, b⟩ := K
  have lq : ∀ k, lr (gI h 133) (gI h 132) (nI k) known R = lr (gI h 48) (gI h 49) (nI k) known R := fun k => lr_c (fun i hi => ⟨(b i hi).1.symm, (b i hi).2.1.symm⟩)
  have kq : ∀ {x y x2 y2 : Nat → Int32} {k : Nat}, x k = x2 k → (∀ i, i < R → y i = y2 i) → kn x y (lr (gI h 48) (gI h 49) (nI k) known R) k = kn x2 y2 (lr (gI h 48) (gI h 49) (nI k) known R) k := fun {x y x2 y2 k} e1 e2 => by
    unfold kn
    rcases lr_rng (gI h 48) (gI h 49) (nI k) known R with c | ⟨i, hi, c⟩
    · rw [if_pos c, if_pos c, e1]
    · by_cases c2 : lr (gI h 48) (gI h 49) (nI k) known R = -1
      · rw [if_pos c2, if_pos c2, e1]
      · rw [if_neg c2, if_neg c2, c]
        have r20 : i < 2 ^ 31 ∨ ¬ i < 2 ^ 31 := Nat.lt_or_ge i (2 ^ 31) |>.imp id Nat.not_lt.mpr
        rcases r20 with r20 | r20
        · rw [nI_clamp r20, e2 i hi]
        · have : (nI i).toNatClampNeg < R ∨ ¬ (nI i).toNatClampNeg < R := Classical.em _
          rcases this with z | z
          · exact e2 _ z
          · exfalso
            have hb : ∀ m, (nI m).toNatClampNeg ≤ m := fun m => by
              by_cases q : m < 2 ^ 31
              · rw [nI_clamp q]; exact Nat.le_refl _
              · show (nI m).toInt.toNat ≤ m
                have := (ti_rng (nI m)).2
                omega
            have := hb i
            omega
  constructor
  · unfold qM qC qsl
    have ef : (List.range' 0 n).filter (sel (gI h 127) (gI h 128) ink known) = (List.range' 0 n).filter (sel (gI h 43) (gI h 44) ink known) := by
      refine List.filter_congr (fun k hk => ?_)
      have q := a k (range_mem hk)
      unfold sel
      rw [q.1, q.2.1]
    rw [ef]
    refine List.map_congr_left (fun k hk => ?_)
    have q := a k (sel_mem hk)
    have m := mk_ok I q.2.2.2.2.2.1.1 q.2.2.2.2.2.1.2
    unfold quad
    rw [← q.2.2.1, ← m.1, ← m.2.2.1, lq k, kq (x := gI h 130) (x2 := gI h 46) q.2.2.2.1.symm (fun i hi => (b i hi).2.2.1.symm), kq (x := gI h 131) (x2 := gI h 47) q.2.2.2.2.1.symm (fun i hi => (b i hi).2.2.2.1.symm)]
  · intro q hq
    unfold qC qsl at hq
    obtain ⟨k, hk, rfl⟩ := List.mem_map.mp hq
    have z := a k (sel_mem hk)
    have m := mk_ok I z.2.2.2.2.2.1.1 z.2.2.2.2.2.1.2
    have kr : ∀ {x y : Nat → Int32}, inr (x k) (-99) 99 → (∀ i, i < R → inr (y i) (-99) 99) → inr (kn x y (lr (gI h 48) (gI h 49) (nI k) known R) k) (-99) 99 := fun {x y} h1 h2 => by
      unfold kn
      by_cases c2 : lr (gI h 48) (gI h 49) (nI k) known R = -1
      · rw [if_pos c2]; exact h1
      · rw [if_neg c2]
        rcases lr_rng (gI h 48) (gI h 49) (nI k) known R with c | ⟨i, hi, c⟩
        · exact absurd c c2
        · rw [c]
          have hb : ∀ m, (nI m).toNatClampNeg ≤ m := fun m => by
            by_cases q : m < 2 ^ 31
            · rw [nI_clamp q]; exact Nat.le_refl _
            · show (nI m).toInt.toNat ≤ m
              have := (ti_rng (nI m)).2
              omega
          have := hb i
          exact h2 _ (by omega)
    exact ⟨m.2.1, m.2.2.2, kr z.2.2.2.2.2.2.1 (fun i hi => (b i hi).2.2.2.2.1), kr z.2.2.2.2.2.2.2 (fun i hi => (b i hi).2.2.2.2.2)⟩
theorem kn_eq {T : Nat → Nat → T4} {lo hi lo2 hi2 : Nat → Int32} (a : Kn (fun u v i k => DT T u v i k ∧ 10 * i + k < 190) (cw T 190) lo hi) (b : Kn (fun u v i k => DT T u v i k ∧ cdf u v i k < 68590) (cm T 68590) lo2 hi2) : 0 < cw T 190 → ∀ c, c < 4 → lo c = lo2 c ∧ hi c = hi2 c := by
  intro h c hc
  rcases a with ⟨a1, -⟩ | ⟨-, a2⟩
  · omega
  rcases b with ⟨b1, -⟩ | ⟨-, b2⟩
  · rw [cm_cw] at b1; omega
  refine a2.uniq b2 (fun u v i k => ?_) hc
  constructor
  · rintro ⟨d, -⟩
    refine ⟨d, ?_⟩
    obtain ⟨d1, d2, d3, d4, -⟩ := d
    unfold cdf
    omega
  · rintro ⟨d, -⟩
    obtain ⟨d1, d2, d3, d4, -⟩ := id d
    exact ⟨d, by omega⟩
/-- both sides, found -/
theorem find_pair {j : Nat} {h : AH} (I : Inv j h) {ink known : Int32} {P : Option Value → AH → Prop} (kk : ∀ (N : Nat) (h2 : AH), N < 2 ^ 31 → Inv j h2 → gI h2 52 9 = nI N → (∀ {Q : Option Value → AH → Prop}, (∀ h3, Inv j h3 → gI h3 116 40 = nI N → (0 < N → ∀ c, c < 4 → gI h2 57 c = gI h3 140 c ∧ gI h2 58 c = gI h3 141 c) → Q none h3) → Call mX12_makeFits [.ref 116, .int ink, .int known] h2 Q) → P none h2) : Call mX1_find [.ref 52, .ref j, .ref 42, .int ink, .int known] h P := by
  have w := I.1
  have hj := I.2.1
  have jb := jcase w hj
  obtain ⟨R, n, K⟩ := rd_ok I
  obtain ⟨hR, R20, hn, n24, mR, mn, a, b⟩ := id K
  have n3 : gI h j 3 = gI h 118 2 ∧ inr (gI h j 3) 0 8 := I.2.2.2.2.1.1.2.2.2.1
  have n6 : gI h j 6 = gI h 118 3 ∧ inr (gI h j 6) 0 9 := I.2.2.2.2.1.1.2.2.2.2.1
  refine c1_find w hj hR R20 hn n24 (fun k hk => (a k hk).2.2.2.2.2.1) n3.2.2 rfl (fun h2 F2 e9 K2 => ?_)
  have w2 := F2.wf w
  have cl := cw_le (fun i k => bsh (nI i - 9) (nI k) (gI h j 6) (qC h j ink known R n)) 190
  have I2 : Inv j h2 := inv_keep I F2 (by rcases jb with rfl | rfl <;> decide) (fun q hq => F2.I (by clear I; revert q; decide) _)
  refine kk _ h2 (by omega) I2 e9 (fun {Q} kq => ?_)
  have qm : qM h2 ink known R n = qC h j ink known R n := by
    rw [← (q_eq I K ink known).1]
    unfold qM
    rw [(F2.2.2 127 (by decide)).1, (F2.2.2 128 (by decide)).1, (F2.2.2 119 (by decide)).1, (F2.2.2 120 (by decide)).1, (F2.2.2 129 (by decide)).1, (F2.2.2 130 (by decide)).1, (F2.2.2 131 (by decide)).1, (F2.2.2 133 (by decide)).1, (F2.2.2 132 (by decide)).1, (F2.2.2 134 (by decide)).1, (F2.2.2 135 (by decide)).1]
  refine c12_fits (sl := gI h j 6) w2 ((F2.I (by decide) 24).trans mR) R20 ((F2.I (by decide) 23).trans mn) n24 (fun k hk => ?_) ((F2.I (by decide) 3).trans n6.1.symm) n6.2 (by rw [qm]; exact (q_eq I K ink known).2) (fun h3 F3 s3 e40 K3 => ?_)
  · rw [F2.I (by decide), ← (a k hk).2.2.1]
    have := (a k hk).2.2.2.2.2.1
    have m8 := n3.2
    unfold inr at m8
    clear kk kq
    grind
  · rw [qm] at e40 K3
    have I3 : Inv j h3 := inv_keep I2 F3 (by rcases jb with rfl | rfl <;> decide) (fun q hq => by
      by_cases c2 : q.1 = 116
      · have c9 : q.2 ≠ 35 ∧ q.2 ≠ 40 := (by decide : ∀ q ∈ IPS, q.1 = 116 → q.2 ≠ 35 ∧ q.2 ≠ 40) q hq c2
        rw [c2, s3 _ c9.1 c9.2]
      · exact F3.I ((by decide : ∀ q ∈ IPS, q.1 ≠ 116 → q.1 ∉ [116, 136, 137, 138, 139, 140, 141]) q hq c2) _)
    refine kq h3 I3 (by rw [e40, cm_cw]) (kn_eq K2 K3)
theorem fcond {x : Int32} : (¬ x < 10 ∧ ¬ 30 ≤ x ∧ ¬ 4 ≤ (x % 10)) ↔ ((¬ x < 10 ∧ ¬ 13 < x) ∨ (¬ x < 20 ∧ ¬ 23 < x)) := by
  by_cases c : ¬ x < 10 ∧ ¬ 30 ≤ x
  · obtain ⟨m, hm, rfl⟩ : ∃ n : Nat, n ≤ 29 ∧ x = nI n := nI_of2 (M := 29) rfl (by grind) (by grind)
    exact (by decide +kernel : ∀ m : Fin 30, (¬ nI m < 10 ∧ ¬ 30 ≤ nI m ∧ ¬ 4 ≤ (nI m % 10)) ↔ ((¬ nI m < 10 ∧ ¬ 13 < nI m) ∨ (¬ nI m < 20 ∧ ¬ 23 < nI m))) ⟨m, by omega⟩
  · constructor
    · exact fun q => absurd ⟨q.1, q.2.1⟩ c
    · intro q
      exfalso
      apply c
      rcases q with q | q <;> grind
theorem fidx {x : Int32} (c : ¬ x < 10 ∧ ¬ 30 ≤ x ∧ ¬ 4 ≤ (x % 10)) : ∃ m : Nat, m < 4 ∧ (x % 10 = nI m) ∧ (20 ≤ x → x - 20 = nI m) ∧ (¬ 20 ≤ x → x - 10 = nI m) := by
  obtain ⟨m, hm, rfl⟩ : ∃ n : Nat, n ≤ 29 ∧ x = nI n := nI_of2 (M := 29) rfl (by grind) (by grind)
  have := (by decide +kernel : ∀ m : Fin 30, (¬ nI m < 10 ∧ ¬ 30 ≤ nI m ∧ ¬ 4 ≤ (nI m % 10)) → (m.val % 10 < 4 ∧ (nI m % 10 = nI (m.val % 10)) ∧ (20 ≤ nI m → nI m - 20 = nI (m.val % 10)) ∧ (¬ 20 ≤ nI m → nI m - 10 = nI (m.val % 10)))) ⟨m, by omega⟩ c
  exact ⟨m % 10, this⟩
theorem ink1 {x : Int32} : (¬ x < 0 ∧ ¬ 4 ≤ x) ↔ (¬ x < 0 ∧ ¬ 3 < x) := by
  constructor <;> intro c <;> grind
theorem pr_fit {j : Nat} {h : AH} (I : Inv j h) (x1 x2 x3 : Int32) : Pair mX11_fit mX12_fit [.int x1, .int x2, .int x3] h := by
  have w := I.1
  have hj := I.2.1
  have rf : ¬ ((¬ x1 < 0 ∧ ¬ 4 ≤ x1) ∧ (¬ x2 < 0 ∧ ¬ 999 < x2) ∧ (x3 = 0 ∨ (¬ x3 < 10 ∧ ¬ 30 ≤ x3 ∧ ¬ 4 ≤ (x3 % 10)))) → Call mX12_fit [.ref 116, .int x1, .int x2, .int x3] h (fun v2 h2 => v2 = some (.int (-99)) ∧ (∃ z : Int32, some (Value.int (-99)) = some (.int z)) ∧ ∃ j, Inv j h2) := fun c => by
    have fin : (some (Value.int (-99)) = some (Value.int (-99))) ∧ (∃ z : Int32, some (Value.int (-99)) = some (.int z)) ∧ ∃ j, Inv j h := ⟨rfl, ⟨_, rfl⟩, j, I⟩
    exact Call.ofR (by decide +kernel) (Nat.le_of_ble_eq_true rfl) (sX12_fit_0 h 116 _ _ _ ⟨fun _ => fin, fun c1 => ⟨fun _ => fin, fun c2 => ⟨fun c3 => absurd ⟨ink1.mpr c1, c2, Or.inl c3⟩ c, fun c3 => ⟨fun c4 => absurd ⟨ink1.mpr c1, c2, Or.inr (fcond.mpr (Or.inl c4))⟩ c, fun c4 => ⟨fun c5 => absurd ⟨ink1.mpr c1, c2, Or.inr (fcond.mpr (Or.inr c5))⟩ c, fun _ => fin⟩⟩⟩⟩⟩)
  refine Call.ofR (by decide +kernel) (Nat.le_of_ble_eq_true rfl) (sX11_fit_0 h 0 _ _ _ ⟨fun c => rf (fun q => c q.1), fun c1 => ⟨fun c2 => ⟨fun c3 => ?_, fun c3 => ⟨fun c4 => ?_, fun c4 => rf (fun q => q.2.2.elim c3 c4)⟩⟩, fun c => rf (fun q => c q.2.1)⟩⟩)
  · -- how many
    rw [hj, w.f0_3, w.f0_4]
    refine ⟨w.o (by decide) rfl, w.o (by decide) rfl, find_pair I (fun N h2 N31 I2 e9 go => ⟨rfl, fun q => absurd c3 q, fun _ => ?_⟩)⟩
    have w2 := I2.1
    rw [w2.f0_4, e9]
    refine ⟨w2.o (by decide) rfl, w2.o (by decide) rfl, ?_⟩
    refine Call.ofR (by decide +kernel) (Nat.le_of_ble_eq_true rfl) (sX12_fit_0 h2 116 _ _ _ ⟨fun q => absurd (ink1.mp c1) q, fun _ => ⟨fun q => absurd c2 q, fun _ => ⟨fun _ => ⟨w2.o (by decide) rfl, go (fun h3 I3 e40 _ => ⟨rfl, fun q => absurd c3 q, fun _ => ⟨I3.1.o (by decide) rfl, ?_, ⟨_, rfl⟩, j, I3⟩⟩)⟩, fun q => absurd c3 q⟩⟩⟩)
    rw [e40]
  · rw [hj, w.f0_3, w.f0_4]
    refine ⟨w.o (by decide) rfl, w.o (by decide) rfl, find_pair I (fun N h2 N31 I2 e9 go => ⟨rfl, fun _ => ?_, fun q => absurd q c3⟩)⟩
    have w2 := I2.1
    obtain ⟨m, hm, m1, m2, m3⟩ := fidx c4
    rw [w2.f0_4, e9, w2.f52_10, w2.f52_11, m1, nI_clamp (by omega)]
    -- the reference, whatever it must answer
    have ref : ∀ v : Int32, (∀ h3 : AH, gI h3 116 40 = nI N → (0 < N → ∀ c, c < 4 → gI h2 57 c = gI h3 140 c ∧ gI h2 58 c = gI h3 141 c) → v = (if gI h3 116 40 = 0 then (-99) else (if 20 ≤ x3 then gI h3 141 m else gI h3 140 m))) → Call mX12_fit [.ref 116, .int x1, .int x2, .int x3] h2 (fun v2 h2 => v2 = some (.int v) ∧ (∃ z : Int32, some (Value.int v) = some (.int z)) ∧ ∃ j, Inv j h2) := fun v hv => by
      have body : ∀ h3, Inv j h3 → gI h3 116 40 = nI N → (0 < N → ∀ c, c < 4 → gI h2 57 c = gI h3 140 c ∧ gI h2 58 c = gI h3 141 c) → (isO h3 12 116) ∧ ((isA h3 0 (gF h3 116 42)) ∧ ((¬ (gI h3 116 40) = 0 → 20 ≤ x3 → vp_in (x3 - 20) (ln (gF h3 116 42))) ∧ ((isA h3 0 (gF h3 116 41)) ∧ ((¬ (gI h3 116 40) = 0 → ¬ 20 ≤ x3 → vp_in (x3 - 10) (ln (gF h3 116 41))) ∧ (∀ z14 : Int32, z14 = (if (gI h3 116 40) = 0 then (-99) else (if 20 ≤ x3 then (gI h3 (gF h3 116 42) (x3 - 20).toNatClampNeg) else (gI h3 (gF h3 116 41) (x3 - 10).toNatClampNeg))) → (some (Value.int z14) = some (Value.int v) ∧ (∃ z : Int32, some (Value.int v) = some (.int z)) ∧ ∃ j, Inv j h3)))))) := fun h3 I3 e40 eq => by
        have w3 := I3.1
        rw [w3.f116_41, w3.f116_42]
        refine ⟨w3.o (by decide) rfl, w3.a (by decide) rfl, fun _ q => by rw [m2 q]; exact in4n hm, w3.a (by decide) rfl, fun _ q => by rw [m3 q]; exact in4n hm, fun z hz => ⟨?_, ⟨_, rfl⟩, j, I3⟩⟩
        have e : (if 20 ≤ x3 then (gI h3 141 (x3 - 20).toNatClampNeg) else (gI h3 140 (x3 - 10).toNatClampNeg)) = (if 20 ≤ x3 then gI h3 141 m else gI h3 140 m) := by
          by_cases q : 20 ≤ x3
          · rw [if_pos q, if_pos q, m2 q, nI_clamp (by omega)]
          · rw [if_neg q, if_neg q, m3 q, nI_clamp (by omega)]
        rw [hz, e, hv h3 e40 eq]
      refine Call.ofR (by decide +kernel) (Nat.le_of_ble_eq_true rfl) (sX12_fit_0 h2 116 _ _ _ ⟨fun q => absurd (ink1.mp c1) q, fun _ => ⟨fun q => absurd c2 q, fun _ => ⟨fun q => absurd q c3, fun _ => ⟨fun _ => ⟨w2.o (by decide) rfl, go (fun h3 I3 e40 eq => ⟨rfl, fun _ => body h3 I3 e40 eq, fun q => absurd q c3⟩)⟩, fun c5 => ⟨fun _ => ⟨w2.o (by decide) rfl, go (fun h3 I3 e40 eq => ⟨rfl, fun _ => body h3 I3 e40 eq, fun q => absurd q c3⟩)⟩, fun c6 => absurd (fcond.mp c4) (fun z => z.elim c5 c6)⟩⟩⟩⟩⟩)
    refine ⟨w2.o (by decide) rfl, w2.o (by decide) rfl, fun q => ⟨w2.a (by decide) rfl, fun _ => in4n hm, w2.a (by decide) rfl, fun _ => in4n hm, fun z hz => ref _ (fun h3 e40 eq => ?_)⟩, fun q => ref _ (fun h3 e40 eq => ?_)⟩
    · have N0 : 0 < N := by
        rcases Nat.eq_zero_or_pos N with z0 | z0
        · rw [z0] at q; exact absurd rfl q
        · exact z0
      rw [e40, if_neg q, hz, (eq N0 m hm).1, (eq N0 m hm).2]
    · rw [e40, if_pos q]
theorem pr_sure {j : Nat} {h : AH} (I : Inv j h) (x1 x2 : Int32) : Pair mX11_sure mX12_sure [.int x1, .int x2] h := by
  have w := I.1
  have hj := I.2.1
  have rf : ¬ ((¬ x1 < 0 ∧ ¬ 4 ≤ x1) ∧ (¬ x2 < 0 ∧ ¬ 999 < x2)) → Call mX12_sure [.ref 116, .int x1, .int x2] h (fun v2 h2 => v2 = some (.int (-2)) ∧ (∃ z : Int32, some (Value.int (-2)) = some (.int z)) ∧ ∃ j, Inv j h2) := fun c => by
    have fin : (some (Value.int (-2)) = some (Value.int (-2))) ∧ (∃ z : Int32, some (Value.int (-2)) = some (.int z)) ∧ ∃ j, Inv j h := ⟨rfl, ⟨_, rfl⟩, j, I⟩
    exact Call.ofR (by decide +kernel) (Nat.le_of_ble_eq_true rfl) (sX12_sure_0 h 116 _ _ ⟨fun _ => fin, fun c1 => ⟨fun c2 => absurd ⟨ink1.mpr c1, c2⟩ c, fun _ => fin⟩⟩)
  refine Call.ofR (by decide +kernel) (Nat.le_of_ble_eq_true rfl) (sX11_sure_0 h 0 _ _ ⟨fun c => rf (fun q => c q.1), fun c1 => ⟨fun c2 => ?_, fun c => rf (fun q => c q.2)⟩⟩)
  rw [hj, w.f0_3, w.f0_4]
  refine ⟨w.o (by decide) rfl, w.o (by decide) rfl, find_pair I (fun N h2 N31 I2 e9 go => ⟨rfl, I2.1.o (by decide) rfl, ?_⟩)⟩
  have w2 := I2.1
  rw [w2.f0_4, e9]
  refine ⟨w2.o (by decide) rfl, fun q => ?_, fun q => ?_⟩
  rotate_left
  · exact Call.ofR (by decide +kernel) (Nat.le_of_ble_eq_true rfl) (sX12_sure_0 h2 116 _ _ ⟨fun z => absurd (ink1.mp c1) z, fun _ => ⟨fun _ => ⟨w2.o (by decide) rfl, go (fun h3 I3 e40 eq => ⟨rfl, I3.1.o (by decide) rfl, fun z => absurd (by rw [e40]; exact q) z, fun _ => ⟨rfl, ⟨_, rfl⟩, j, I3⟩⟩)⟩, fun z => absurd c2 z⟩⟩)
  have N0 : 0 < N := by
    rcases Nat.eq_zero_or_pos N with z0 | z0
    · rw [z0] at q; exact absurd rfl q
    · exact z0
  have a1 : (0 : Int32) + 1 = 1 := rfl
  have a2 : (1 : Int32) + 1 = 2 := rfl
  have a3 : (2 : Int32) + 1 = 3 := rfl
  have a4 : (3 : Int32) + 1 = 4 := rfl
  have w10 := w2.f52_10
  have w11 := w2.f52_11
  have oo : isO h2 1 52 := w2.o (by decide) rfl
  have A7 : isA h2 0 57 := w2.a (by decide) rfl
  have A8 : isA h2 0 58 := w2.a (by decide) rfl
  refine Call.ofR (by decide +kernel) (Nat.le_of_ble_eq_true rfl) (sX1_sureBits_0 h2 52 ?_)
  refine sX1_sureBits_4 h2 52 _ _ ⟨fun z => absurd z (by decide), fun _ => ?_⟩
  rw [w10, w11]
  refine ⟨oo, A7, in4_0, A8, in4_0, fun b0 hb0 => ?_⟩
  rw [a1]
  refine sX1_sureBits_4 h2 52 _ _ ⟨fun z => absurd z (by decide), fun _ => ?_⟩
  rw [w10, w11]
  refine ⟨oo, A7, in4_1, A8, in4_1, fun b1 hb1 => ?_⟩
  rw [a2]
  refine sX1_sureBits_4 h2 52 _ _ ⟨fun z => absurd z (by decide), fun _ => ?_⟩
  rw [w10, w11]
  refine ⟨oo, A7, in4_2, A8, in4_2, fun b2 hb2 => ?_⟩
  rw [a3]
  refine sX1_sureBits_4 h2 52 _ _ ⟨fun z => absurd z (by decide), fun _ => ?_⟩
  rw [w10, w11]
  refine ⟨oo, A7, in4_3, A8, in4_3, fun b3 hb3 => ?_⟩
  rw [a4]
  refine sX1_sureBits_4 h2 52 _ _ ⟨fun _ => ⟨_, rfl, ?_⟩, fun z => absurd (by decide) z⟩
  refine Call.ofR (by decide +kernel) (Nat.le_of_ble_eq_true rfl) (sX12_sure_0 h2 116 _ _ ⟨fun z => absurd (ink1.mp c1) z, fun _ => ⟨fun _ => ⟨w2.o (by decide) rfl, go (fun h3 I3 e40 eq => ⟨rfl, I3.1.o (by decide) rfl, fun _ => ?_, fun z => absurd (by rw [← e40]; exact z) q⟩)⟩, fun z => absurd c2 z⟩⟩)
  have w3 := I3.1
  have v41 := w3.f116_41
  have v42 := w3.f116_42
  have o3 : isO h3 12 116 := w3.o (by decide) rfl
  have B7 : isA h3 0 140 := w3.a (by decide) rfl
  have B8 : isA h3 0 141 := w3.a (by decide) rfl
  have qq := eq N0
  refine sX12_sure_41 h3 116 _ _ ⟨fun z => absurd z (by decide), fun _ => ?_⟩
  rw [v41, v42]
  refine ⟨o3, B7, in4_0, B8, in4_0, fun d0 hd0 => ?_⟩
  rw [a1]
  refine sX12_sure_41 h3 116 _ _ ⟨fun z => absurd z (by decide), fun _ => ?_⟩
  rw [v41, v42]
  refine ⟨o3, B7, in4_1, B8, in4_1, fun d1 hd1 => ?_⟩
  rw [a2]
  refine sX12_sure_41 h3 116 _ _ ⟨fun z => absurd z (by decide), fun _ => ?_⟩
  rw [v41, v42]
  refine ⟨o3, B7, in4_2, B8, in4_2, fun d2 hd2 => ?_⟩
  rw [a3]
  refine sX12_sure_41 h3 116 _ _ ⟨fun z => absurd z (by decide), fun _ => ?_⟩
  rw [v41, v42]
  refine ⟨o3, B7, in4_3, B8, in4_3, fun d3 hd3 => ?_⟩
  rw [a4]
  refine sX12_sure_41 h3 116 _ _ ⟨fun _ => ⟨?_, ⟨_, rfl⟩, j, I3⟩, fun z => absurd (by decide) z⟩
  rw [cl0] at hb0 hd0
  rw [cl1] at hb1 hd1
  rw [cl2] at hb2 hd2
  rw [cl3] at hb3 hd3
  rw [(qq 0 (by decide)).1, (qq 0 (by decide)).2] at hb0
  rw [(qq 1 (by decide)).1, (qq 1 (by decide)).2] at hb1
  rw [(qq 2 (by decide)).1, (qq 2 (by decide)).2] at hb2
  rw [(qq 3 (by decide)).1, (qq 3 (by decide)).2] at hb3
  have st : ∀ (x s z d : Int32) (p : Prop) [Decidable p], z = (if p then x ||| s else x) → d = (if p then s else 0) → z = x ||| d := fun x s z d p _ e1 e2 => by
    rw [e1, e2]
    by_cases c : p
    · rw [if_pos c, if_pos c]
    · rw [if_neg c, if_neg c, Int32.or_zero]
  rw [st _ _ _ _ _ hb3 hd3, st _ _ _ _ _ hb2 hd2, st _ _ _ _ _ hb1 hd1, st _ _ _ _ _ hb0 hd0]
