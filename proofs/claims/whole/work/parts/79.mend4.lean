theorem m40 {h : AH} {P : Option Value → AH → Prop} (w : Wf h) {e ns i : Nat} (hi : i < 4) (hs : gI h 121 i = nI ns) (n3 : ns ≤ 3) {a b r s : Int32} (kk : Rr mX12_mend 0 0 76 [(0, .ref 116), (1, .int (nI i)), (2, .int a), (3, .int b), (4, .int r), (5, .int s), (6, .int (nI e)), (7, .int (nI (e ^ ns))), (8, .int (-1)), (9, .int 0), (10, .int 0), (11, .int 0)] [] h P) : ∀ (m k : Nat), k + m = ns → Rr mX12_mend 0 0 40 [(0, .ref 116), (1, .int (nI i)), (2, .int a), (3, .int b), (4, .int r), (5, .int s), (6, .int (nI e)), (7, .int (nI (e ^ k))), (8, .int (nI k))] [] h P
  | 0, k, hk => by
    have e1 : k = ns := by omega
    subst e1
    refine sX12_mend_40 h 116 _ _ _ _ _ _ _ _ ?_
    rw [w.f116_14, nI_clamp (by omega), hs]
    exact ⟨w.o (by decide) rfl, w.a (by decide) rfl, vp_in_nI (show i < 8 by omega) (by decide), fun _ => kk, fun q => absurd (Int32.le_refl _) q⟩
  | m + 1, k, hk => by
    refine sX12_mend_40 h 116 _ _ _ _ _ _ _ _ ?_
    rw [w.f116_14, nI_clamp (by omega), hs, pk_mul, ← Nat.pow_succ, nI_1]
    refine ⟨w.o (by decide) rfl, w.a (by decide) rfl, vp_in_nI (show i < 8 by omega) (by decide), fun q => absurd q ?_, fun _ => m40 w hi hs n3 kk m (k + 1) (by omega)⟩
    rw [nI_leI (by omega) (by omega)]
    omega
theorem m76 {h : AH} {P : Option Value → AH → Prop} (w : Wf h) {t e ns i n : Nat} (he : e = 2 * t + 1) (t4 : t ≤ 4) (hi : i < 4) (hs : gI h 121 i = nI ns) (n3 : ns ≤ 3) (hn : gI h 118 2 = nI n) (n8 : n ≤ 8) (ht : gI h 118 4 = nI t) (N9 : e ^ ns ≤ 729) {a b r s : Int32} {V : Nat → Int32} (hV : V = vB (gI h 119) (gI h 120) (fun k => gI h 122 (9 * i + 3 * k)) (fun k => gI h 122 (9 * i + 3 * k + 1)) (fun k => gI h 122 (9 * i + 3 * k + 2)) a b r s t e ns n) (Vr : ∀ c, 0 ≤ V c ∧ V c ≤ 849) (kk : Rr mX12_mend 0 0 302 [(0, .ref 116), (6, .int (nI e)), (8, .int (nI (mst V (vT t e ns) (e ^ ns)).2.2)), (9, .int (mst V (vT t e ns) (e ^ ns)).1), (11, .int (nI ns - 1))] [] (sI h 116 43 (nI ns)) P) : ∀ (m c : Nat) (x8 x9 x10 : Int32), c + m = e ^ ns → ((c = 0 ∧ x8 = -1) ∨ (0 < c ∧ x8 = nI (mst V (vT t e ns) c).2.2 ∧ x9 = (mst V (vT t e ns) c).1 ∧ x10 = (mst V (vT t e ns) c).2.1)) → Rr mX12_mend 0 0 76 [(0, .ref 116), (1, .int (nI i)), (2, .int a), (3, .int b), (4, .int r), (5, .int s), (6, .int (nI e)), (7, .int (nI (e ^ ns))), (8, .int x8), (9, .int x9), (10, .int x10), (11, .int (nI c))] [] h P
  | 0, c, x8, x9, x10, hc, hx => by
    have e1 : c = e ^ ns := by omega
    have e0 : 0 < e ^ ns := Nat.pow_pos (by omega)
    refine sX12_mend_76 h 116 _ _ _ _ _ _ _ _ _ _ _ ⟨fun _ => ?_, fun q => absurd ?_ q⟩
    · rw [w.f116_14, nI_clamp (by omega), hs]
      refine ⟨w.o (by decide) rfl, w.a (by decide) rfl, vp_in_nI (show i < 8 by omega) (by decide), ?_⟩
      rcases hx with ⟨z, -⟩ | ⟨-, z1, z2, -⟩
      · omega
      · rw [z1, z2, e1]
        exact kk
    · rw [e1]
      exact Int32.le_refl _
  | m + 1, c, x8, x9, x10, hc, hx => by
    refine sX12_mend_76 h 116 _ _ _ _ _ _ _ _ _ _ _ ⟨fun q => absurd q ?_, fun _ => ?_⟩
    · rw [nI_leI (by omega) (by omega)]
      omega
    rw [w.f116_14, nI_clamp (by omega), hs]
    refine ⟨w.o (by decide) rfl, w.a (by decide) rfl, vp_in_nI (show i < 8 by omega) (by decide), ?_⟩
    have st := mr110 (P := P) (c := c) (x7 := nI (e ^ ns)) (x8 := x8) (x9 := x9) (x10 := x10) (x11 := nI c) (a := a) (b := b) (r := r) (s := s) w he t4 hi n3 hn n8 ht (by omega)
    rw [← hV] at st
    have go := st (fun z9 z10 z11 h9 h10 h11 => ?_) ns (Nat.le_refl ns)
    · have p0 : c / e ^ (ns - ns) = c := by rw [Nat.sub_self, Nat.pow_zero, Nat.div_one]
      have q0 : ∀ A : Int32, A - A = 0 := sub_self'
      have q1 : vT t e ns c - isum (fun k => iabs (tn t e ns c k)) ns = 0 := q0 _
      rw [p0, q1, q0, q0, q0, Int32.add_zero, Int32.add_zero, Int32.add_zero, Int32.add_zero] at go
      exact go
    · clear st
      rw [nI_1]
      have ms := mst_s V (vT t e ns) c
      have fr := mst_first (vt := vT t e ns) Vr c
      have mn := nI_ne1 (o := (mst V (vT t e ns) c).2.2)
      refine m76 w he t4 hi hs n3 hn n8 ht N9 hV Vr kk m (c + 1) z9 z10 z11 (by omega) (Or.inr ⟨by omega, ?_⟩)
      rcases hx with ⟨z, z8⟩ | ⟨z0, z8, zz9, z10'⟩
      · rw [if_pos z8] at h9 h10 h11
        have mu : mup V (vT t e ns) (mst V (vT t e ns) c) c = (V c, vT t e ns c, c) := by
          unfold mup
          rw [if_pos]
          left
          have := Vr c
          rw [z]
          show V 0 < 1000000000
          rw [z] at this
          clear kk fr
          grind
        rw [ms, mu]
        exact ⟨h9, h10, h11⟩
      · obtain ⟨c', rfl⟩ : ∃ c', c = c' + 1 := ⟨c - 1, by omega⟩
        have bl := (mst_first (vt := vT t e ns) Vr c').2
        have n8' : ¬ x8 = -1 := by
          rw [z8]
          exact mn (by omega)
        rw [if_neg n8'] at h9 h10 h11
        rw [ms]
        generalize mst V (vT t e ns) (c' + 1) = S at *
        clear kk fr ms
        unfold mup
        by_cases q1 : S.1 < V (c' + 1)
        · rw [zz9, if_pos q1] at h9 h10 h11
          rw [if_neg (by rintro (z | ⟨z, -⟩) <;> grind)]
          exact ⟨h9.trans z8, h10, h11.trans z10'⟩
        · rw [zz9, if_neg q1] at h9 h10 h11
          by_cases q2 : V (c' + 1) = S.1
          · rw [if_pos q2] at h9 h10 h11
            rw [z10'] at h9 h10 h11
            by_cases q3 : vT t e ns (c' + 1) < S.2.1
            · rw [if_pos q3] at h9 h10 h11
              rw [if_pos (Or.inr ⟨q2, q3⟩)]
              exact ⟨h9, h10, h11⟩
            · rw [if_neg q3] at h9 h10 h11
              rw [if_neg (by rintro (z | ⟨-, z⟩); grind; exact q3 z)]
              exact ⟨h9.trans z8, h10, h11⟩
          · rw [if_neg q2] at h9 h10 h11
            rw [if_pos (Or.inl (by grind))]
            exact ⟨h9, h10, h11⟩
/-! bounds -/
theorem p80 : ∀ (x : Fin 9) (y : Fin 41), -80 ≤ (nI x - 4) * (nI y - 20) ∧ (nI x - 4) * (nI y - 20) ≤ 80 := by decide +kernel
theorem p80' {x y : Int32} (h1 : inr x (-4) 4) (h2 : inr y (-20) 20) : -80 ≤ x * y ∧ x * y ≤ 80 := by
  obtain ⟨p, hp, e1⟩ : ∃ n : Nat, n ≤ 8 ∧ x + 4 = nI n := nI_of2 (M := 8) rfl (by unfold inr at h1; grind) (by unfold inr at h1; grind)
  obtain ⟨q, hq, e2⟩ : ∃ n : Nat, n ≤ 40 ∧ y + 20 = nI n := nI_of2 (M := 40) rfl (by unfold inr at h2; grind) (by unfold inr at h2; grind)
  have := p80 ⟨p, by omega⟩ ⟨q, by omega⟩
  simp only at this
  rw [← e1, ← e2, show x + 4 - 4 = x by grind, show y + 20 - 20 = y by grind] at this
  exact this
theorem tn_rng {t e ns c k : Nat} (he : e = 2 * t + 1) (t4 : t ≤ 4) : inr (tn t e ns c k) (-4) 4 := by
  have l := dgt_lt (e := e) (by omega) ns c k
  unfold tn
  generalize dgt e ns c k = d at l
  exact (by decide +kernel : ∀ (t : Fin 5) (d : Fin 9), d.val < 2 * t.val + 1 → (-4 ≤ nI d - nI t ∧ nI d - nI t ≤ 4)) ⟨t, by omega⟩ ⟨d, by omega⟩ (by show d < 2 * t + 1; omega)
theorem sum_rng {S : Nat → Int32} {t e ns c : Nat} (he : e = 2 * t + 1) (t4 : t ≤ 4) (n3 : ns ≤ 3) (hS : ∀ k, k < ns → inr (S k) (-20) 20) : -240 ≤ isum (rowS S t e ns c) ns ∧ isum (rowS S t e ns c) ns ≤ 240 := by
  have f : ∀ k, k < ns → -80 ≤ rowS S t e ns c k ∧ rowS S t e ns c k ≤ 80 := fun k hk => p80' (tn_rng he t4) (hS k hk)
  generalize rowS S t e ns c = g at f ⊢
  rcases (show ns = 0 ∨ ns = 1 ∨ ns = 2 ∨ ns = 3 by omega) with rfl | rfl | rfl | rfl
  · show (-240 : Int32) ≤ 0 ∧ (0 : Int32) ≤ 240
    exact ⟨by decide, by decide⟩
  · have := f 0 (by decide)
    show -240 ≤ 0 + g 0 ∧ 0 + g 0 ≤ 240
    grind
  · have := f 0 (by decide)
    have := f 1 (by decide)
    show -240 ≤ 0 + g 0 + g 1 ∧ 0 + g 0 + g 1 ≤ 240
    grind
  · have := f 0 (by decide)
    have := f 1 (by decide)
    have := f 2 (by decide)
    show -240 ≤ 0 + g 0 + g 1 + g 2 ∧ 0 + g 0 + g 1 + g 2 ≤ 240
    grind
theorem div_rng2 {z : Int} (h1 : -60000 ≤ z) (h2 : z ≤ 60000) : -600 ≤ iI z / 100 ∧ iI z / 100 ≤ 600 := by
  have e : (100 : Int32) = iI 100 := rfl
  rw [e, iI_div (by omega) (by omega) (by omega) (by omega)]
  have n : (z.tdiv 100).natAbs = z.natAbs / 100 := Int.natAbs_tdiv z 100
  have b : -600 ≤ z.tdiv 100 ∧ z.tdiv 100 ≤ 600 := by omega
  have e1 : (-600 : Int32) = iI (-600) := rfl
  have e2 : (600 : Int32) = iI 600 := rfl
  rw [e1, e2, iI_le (by omega) (by omega) (by omega) (by omega), iI_le (by omega) (by omega) (by omega) (by omega)]
  exact b
theorem mul_rng2 {a b : Int} (h1 : -249 ≤ a) (h2 : a ≤ 249) (h3 : 0 ≤ b) (h4 : b ≤ 200) : -49800 ≤ a * b ∧ a * b ≤ 49800 := by
  have h5 : a * b ≤ 249 * b := Int.mul_le_mul_of_nonneg_right h2 h3
  have h6 : -249 * b ≤ a * b := Int.mul_le_mul_of_nonneg_right h1 h3
  omega
theorem q_rng {r s x y : Int32} (hr : inr r (-249) 249) (hs : inr s 0 9) (hx : inr x 0 200) (hy : inr y 0 200) : (-600 ≤ (((s * x) - (r * y)) / 100) ∧ (((s * x) - (r * y)) / 100) ≤ 600) ∧ (-600 ≤ (((r * x) + (s * y)) / 100) ∧ (((r * x) + (s * y)) / 100) ≤ 600) := by
  obtain ⟨x1, x2⟩ := hx
  obtain ⟨y1, y2⟩ := hy
  obtain ⟨r1, r2⟩ := hr
  obtain ⟨s1, s2⟩ := hs
  rw [ti_le] at x1 x2 y1 y2 r1 r2 s1 s2
  have z0 : (0 : Int32).toInt = 0 := rfl
  have z9 : (9 : Int32).toInt = 9 := rfl
  have zm : (-249 : Int32).toInt = -249 := rfl
  have zp : (249 : Int32).toInt = 249 := rfl
  have z2 : (200 : Int32).toInt = 200 := rfl
  rw [z0] at x1 y1 s1
  rw [z2] at x2 y2
  rw [z9] at s2
  rw [zp] at r2
  rw [zm] at r1
  have a1 := mul_rng (m := 0) (a := s.toInt) (b := x.toInt) (by omega) (by omega) x1 x2
  have a2 := mul_rng2 (a := r.toInt) (b := y.toInt) (by omega) (by omega) y1 y2
  have a3 := mul_rng2 (a := r.toInt) (b := x.toInt) (by omega) (by omega) x1 x2
  have a4 := mul_rng (m := 0) (a := s.toInt) (b := y.toInt) (by omega) (by omega) y1 y2
  rw [iI_of r, iI_of s, iI_of x, iI_of y, iI_mul, iI_mul, iI_mul, iI_mul, iI_sub, iI_add]
  exact ⟨div_rng2 (by omega) (by omega), div_rng2 (by omega) (by omega)⟩
theorem iabs_rng {a q : Int32} (h1 : inr a (-249) 249) (h2 : -600 ≤ q ∧ q ≤ 600) : 0 ≤ iabs (a + q) ∧ iabs (a + q) ≤ 849 := by
  unfold inr at h1
  unfold iabs
  split <;> grind
theorem bdl_rng {mx my : Nat → Int32} {a b r s : Int32} (ha : inr a (-249) 249) (hb : inr b (-249) 249) (hr : inr r (-249) 249) (hs : inr s 0 9) : ∀ {n : Nat}, (∀ k, k < n → inr (mx k) 0 200 ∧ inr (my k) 0 200) → 0 ≤ bdl mx my a b r s n ∧ bdl mx my a b r s n ≤ 849
  | 0, _ => ⟨by show (0 : Int32) ≤ 0; decide, by show (0 : Int32) ≤ 849; decide⟩
  | n + 1, e => by
    have ih := bdl_rng ha hb hr hs (n := n) (fun k hk => e k (by omega))
    have q := q_rng hr hs (e n (by omega)).1 (e n (by omega)).2
    have i1 := iabs_rng ha q.1
    have i2 := iabs_rng hb q.2
    show 0 ≤ imax (imax (bdl mx my a b r s n) _) _ ∧ imax (imax (bdl mx my a b r s n) _) _ ≤ 849
    rw [imax_iff, imax_iff]
    refine ⟨?_, ⟨ih.2, i1.2⟩, i2.2⟩
    have m1 := (imax_iff (bdl mx my a b r s n) (iabs (a + (((s * mx n) - (r * my n)) / 100))) _).mp (Int32.le_refl _)
    have m2 := (imax_iff (imax (bdl mx my a b r s n) (iabs (a + (((s * mx n) - (r * my n)) / 100)))) (iabs (b + (((r * mx n) + (s * my n)) / 100))) _).mp (Int32.le_refl _)
    exact Int32.le_trans ih.1 (Int32.le_trans m1.1 m2.1)
theorem pow729 {t ns : Nat} (t4 : t ≤ 4) (n3 : ns ≤ 3) : (2 * t + 1) ^ ns ≤ 729 := by
  rcases (show ns = 0 ∨ ns = 1 ∨ ns = 2 ∨ ns = 3 by omega) with rfl | rfl | rfl | rfl <;> rcases (show t = 0 ∨ t = 1 ∨ t = 2 ∨ t = 3 ∨ t = 4 by omega) with rfl | rfl | rfl | rfl | rfl <;> decide
