theorem sX2_weigh_51b {P : Option Value → AH → Prop} (h : AH) (r0 : Nat) (x1 : Int32) (x2 : Int32) (x3 : Int32) (x4 : Int32) (x5 : Int32) (x6 : Int32) (y7 : Int64) (x9 : Int32) (x10 : Int32) (hf : (6 < x10 → (isO h 2 r0) ∧ ((isA h 1 (gF h r0 1)) ∧ ((isA h 1 (gF h r0 0)) ∧ ((¬ (Int32.ofNat (ln (gF h r0 1))) < 0) ∧ (((Int32.toNatClampNeg 0) + (Int32.ofNat (ln (gF h r0 1))).toNatClampNeg ≤ ln (gF h r0 1)) ∧ (((Int32.toNatClampNeg 0) + (Int32.ofNat (ln (gF h r0 1))).toNatClampNeg ≤ ln (gF h r0 0)) ∧ (Rr mX2_weigh 0 0 14 [(0, .ref r0), (1, .int x1), (2, .int x2), (3, .int x3), (4, .int x4), (5, .int x5), (6, .int x6), (7, .long y7), (9, .int (x9 + 1))] [] (rL h (gF h r0 0) (va_cpy (gL h (gF h r0 1)) (gL h (gF h r0 0)) (Int32.toNatClampNeg 0) (Int32.toNatClampNeg 0) (Int32.ofNat (ln (gF h r0 1))).toNatClampNeg)) P))))))) ∧ (¬ 6 < x10 → (isO h 2 r0) ∧ (Call mX2_costBehind [.ref r0, .int x10, .int x5, .int x6] h (fun v h10 => ∃ w11 : Int64, v = some (.long w11) ∧ ((isO h10 2 r0) ∧ ((isA h10 1 (gF h10 r0 1)) ∧ ((vp_in x10 (ln (gF h10 r0 1))) ∧ ((¬ x10 = x2 → Rr mX2_weigh 0 0 51 [(0, .ref r0), (1, .int x1), (2, .int x2), (3, .int x3), (4, .int x4), (5, .int x5), (6, .int x6), (7, .long y7), (9, .int x9), (10, .int (x10 + 1))] [] (sL h10 (gF h10 r0 1) x10.toNatClampNeg (lmin (((x3 * x10).toInt64 * y7) + w11) (gL h10 r0 3))) P) ∧ (x10 = x2 → Rr mX2_weigh 0 0 51 [(0, .ref r0), (1, .int x1), (2, .int x2), (3, .int x3), (4, .int x4), (5, .int x5), (6, .int x6), (7, .long y7), (9, .int x9), (10, .int (x10 + 1))] [] (sL (sL h10 (gF h10 r0 1) x10.toNatClampNeg (lmin (((x3 * x10).toInt64 * y7) + w11) (gL h10 r0 3))) r0 2 (((x3 * x10).toInt64 * y7) + w11)) P))))))))) : Rr mX2_weigh 0 0 51 [(0, .ref r0), (1, .int x1), (2, .int x2), (3, .int x3), (4, .int x4), (5, .int x5), (6, .int x6), (7, .long y7), (9, .int x9), (10, .int x10)] [] h P := by
  refine R_iload dX2_weigh_51 9 rfl ?_
  refine R_bipush (v := 6) dX2_weigh_53 (by decide) ?_
  refine R_icmp_gt (tgt := 113) dX2_weigh_55 (by decide) (fun b1 => ?_) (fun b1 => ?_)
  · have hf := hf.1 b1
    refine R_aload_n dX2_weigh_113 rfl 0 rfl ?_
    obtain ⟨ob2, hf⟩ := hf
    refine G2_1 dX2_weigh_114 lfX2_13 ob2 ?_
    refine R_iconst (v := 0) dX2_weigh_117 (by decide) ?_
    refine R_aload_n dX2_weigh_118 rfl 0 rfl ?_
    refine G2_0 dX2_weigh_119 lfX2_9 ob2 ?_
    refine R_iconst (v := 0) dX2_weigh_122 (by decide) ?_
    refine R_aload_n dX2_weigh_123 rfl 0 rfl ?_
    refine G2_1 dX2_weigh_124 lfX2_13 ob2 ?_
    obtain ⟨ob4, hf⟩ := hf
    refine R_alen (v := Int32.ofNat (ln (gF h r0 1))) (by decide) dX2_weigh_127 ob4 rfl ?_
    obtain ⟨ob5, hf⟩ := hf
    obtain ⟨ob6, hf⟩ := hf
    obtain ⟨ob7, hf⟩ := hf
    obtain ⟨ob8, hf⟩ := hf
    refine R_copyL dX2_weigh_128 lmX2_48 w_ac1 w_ac2 w_ac3 (by decide) rfl ob4 ob5 (by decide) (by decide) ob6 ob7 ob8 ?_
    refine R_iinc (v := x9 + 1) dX2_weigh_131 8 rfl rfl (by decide) rfl ?_
    refine R_goto (tgt := 14) dX2_weigh_134 (by decide) ?_
    exact R_sub [1, 2, 3, 4, 5, 6, 7, 8, 0] rfl hf
  · have hf := hf.2 b1
    refine R_iload_n dX2_weigh_58 rfl 3 rfl ?_
    refine R_iload dX2_weigh_59 9 rfl ?_
    refine R_imul dX2_weigh_61 ?_
    refine R_i2l dX2_weigh_62 ?_
    refine R_lload dX2_weigh_63 7 rfl ?_
    refine R_lmul dX2_weigh_65 ?_
    refine R_aload_n dX2_weigh_66 rfl 0 rfl ?_
    refine R_iload dX2_weigh_67 9 rfl ?_
    refine R_iload dX2_weigh_69 5 rfl ?_
    refine R_iload dX2_weigh_71 6 rfl ?_
    obtain ⟨ob9, hf⟩ := hf
    refine R_callV (ci := 2) (N := mX2_costBehind) (as := [.int x10, .int x5, .int x6]) (rest := [.long ((x3 * x10).toInt64 * y7)]) (kc2 := 0) (ks2 := 0) dX2_weigh_73 lmX2_31 oX2_costBehind (Nat.le_of_ble_eq_true rfl) rfl rfl (Nat.le_of_ble_eq_true rfl) rfl rfl ob9 ok2 (Call.mono hf ?_)
    rintro _ h10 ⟨w11, rfl, hf⟩
    refine R_ladd dX2_weigh_76 ?_
    refine R_lstore dX2_weigh_77 (by decide) rfl ?_
    refine R_aload_n dX2_weigh_79 rfl 1 rfl ?_
    obtain ⟨ob12, hf⟩ := hf
    refine G2_1 dX2_weigh_80 lfX2_13 ob12 ?_
    refine R_iload dX2_weigh_83 10 rfl ?_
    refine R_lload dX2_weigh_85 0 rfl ?_
    refine R_aload_n dX2_weigh_87 rfl 1 rfl ?_
    refine G2_3 dX2_weigh_88 lfX2_35 ob12 ?_
    refine R_mminL dX2_weigh_91 lmX2_39 (by decide) (Nat.le_of_ble_eq_true rfl) ?_
    obtain ⟨ob13, hf⟩ := hf
    obtain ⟨ob14, hf⟩ := hf
    refine R_lastore dX2_weigh_94 ob13 ob14 ?_
    refine R_iload dX2_weigh_95 10 rfl ?_
    refine R_iload_n dX2_weigh_97 rfl 3 rfl ?_
    refine R_icmp_ne (tgt := 107) dX2_weigh_98 (by decide) (fun b15 => ?_) (fun b15 => ?_)
    · have hf := hf.1 b15
      refine R_iinc (v := x10 + 1) dX2_weigh_107 10 rfl rfl (by decide) rfl ?_
      refine R_goto (tgt := 51) dX2_weigh_110 (by decide) ?_
      exact R_sub [2, 3, 4, 5, 6, 7, 8, 9, 10, 0] rfl hf
    · have hf := hf.2 b15
      refine R_aload_n dX2_weigh_101 rfl 1 rfl ?_
      refine R_lload dX2_weigh_102 0 rfl ?_
      refine S2_2 dX2_weigh_104 lfX2_45 ob12 ?_
      refine R_iinc (v := x10 + 1) dX2_weigh_107 10 rfl rfl (by decide) rfl ?_
      refine R_goto (tgt := 51) dX2_weigh_110 (by decide) ?_
      exact R_sub [2, 3, 4, 5, 6, 7, 8, 9, 10, 0] rfl hf
def gb (u d : Int32) (f : Nat → Int64) (o : Nat) : Int64 := u.toInt64 * f (if o < 6 then o + 1 else 6) + d.toInt64 * f (o - 1) + ((10 - u) - d).toInt64 * f o
def gon (u d sp : Int32) (y : Int64) (f : Nat → Int64) (o : Nat) : Int64 := (sp * nI o).toInt64 * y + gb u d f o
def hal (u d pr : Int32) (y : Int64) (f : Nat → Int64) : Int64 := pr.toInt64 * y + gb u d f 0
def mnx (u d sp pr : Int32) (y : Int64) (f : Nat → Int64) : Nat → Int64 := fun o => lmin (gon u d sp y f o) (hal u d pr y f)
def mean (u d sp pr : Int32) : Nat → Int64 × (Nat → Int64)
  | 0 => (1, fun _ => 0)
  | k + 1 => ((mean u d sp pr k).1 * 10, mnx u d sp pr ((mean u d sp pr k).1 * 10) (mean u d sp pr k).2)
theorem cb_i : ∀ o : Fin 7, (0 ≤ imin (nI o + 1) 6 ∧ imin (nI o + 1) 6 < 7 ∧ (imin (nI o + 1) 6).toNatClampNeg = (if o.val < 6 then o.val + 1 else 6)) ∧ (0 ≤ imax (nI o - 1) 0 ∧ imax (nI o - 1) 0 < 7 ∧ (imax (nI o - 1) 0).toNatClampNeg = o.val - 1) := by decide +kernel
theorem gb_c {u d : Int32} {f g : Nat → Int64} {o : Nat} (ho : o < 7) (e : ∀ p, p < 7 → f p = g p) : gb u d f o = gb u d g o := by
  unfold gb
  rw [e _ (show (if o < 6 then o + 1 else 6) < 7 by split <;> omega), e (o - 1) (by omega), e o ho]
theorem c2_cb {h : AH} {P : Option Value → AH → Prop} {u d : Int32} {f : Nat → Int64} (w : Wf h) {o : Nat} (ho : o < 7) (e : ∀ p, p < 7 → gL h 86 p = f p) (k : P (some (.long (gb u d f o))) h) : Call mX2_costBehind [.ref 85, .int (nI o), .int u, .int d] h P := by
  obtain ⟨⟨a1, a2, a3⟩, b1, b2, b3⟩ := cb_i ⟨o, ho⟩
  have w0 := w.f85_0
  refine aX2_costBehind (w.o (by decide) rfl) (by rw [w0]; exact w.a (by decide) rfl) ?_ ?_ ?_ ?_
  · rw [w0]; exact vin_7.mpr ⟨a1, a2⟩
  · rw [w0]; exact vin_7.mpr ⟨b1, b2⟩
  · rw [w0]; exact vin_7.mpr ⟨nI_pos' (by omega), nI_lt (b := 7) ho (by decide)⟩
  · rw [w0, a3, b3, nI_clamp (by omega)]
    rw [← gb_c ho e] at k
    exact k
theorem wg51 {h : AH} {P : Option Value → AH → Prop} (w : Wf h) {u d sp pr x1 x9 : Int32} {y7 : Int64} {f : Nat → Int64} {off : Nat} (hoff : off < 7) : ∀ (m o : Nat) (h2 : AH), o + m = 7 → Fr [85, 86, 87] h h2 → (∀ p, p < 7 → gL h2 86 p = f p) → gL h2 85 3 = hal u d pr y7 f → (∀ p, p < o → gL h2 87 p = mnx u d sp pr y7 f p) → (off < o → gL h2 85 2 = gon u d sp y7 f off) →
    (∀ h3, Fr [85, 86, 87] h h3 → (∀ p, p < 7 → gL h3 86 p = mnx u d sp pr y7 f p) → gL h3 85 3 = hal u d pr y7 f → gL h3 85 2 = gon u d sp y7 f off → Rr mX2_weigh 0 0 14 [(0, .ref 85), (1, .int x1), (2, .int (nI off)), (3, .int sp), (4, .int pr), (5, .int u), (6, .int d), (7, .long y7), (9, .int (x9 + 1))] [] h3 P) →
    Rr mX2_weigh 0 0 51 [(0, .ref 85), (1, .int x1), (2, .int (nI off)), (3, .int sp), (4, .int pr), (5, .int u), (6, .int d), (7, .long y7), (9, .int x9), (10, .int (nI o))] [] h2 P
  | 0, o, h2, ho, F, e86, eh, e87, eg, k => by
    have e : o = 7 := by omega
    subst e
    have w2 := F.wf w
    refine sX2_weigh_51b h2 85 _ _ _ _ _ _ _ _ _ ⟨fun _ => ?_, fun q => absurd (by decide) q⟩
    rw [w2.f85_0, w2.f85_1]
    have l1 : ln 87 = 7 := rfl
    have l2 : ln 86 = 7 := rfl
    have l3 : (Int32.ofNat 7).toNatClampNeg = 7 := rfl
    rw [l1, l2, l3, cl0]
    refine ⟨w2.o (by decide) rfl, w2.a (by decide) rfl, w2.a (by decide) rfl, by decide, by decide, by decide, ?_⟩
    refine k _ (F.tr (Fr.rL (by decide))) (fun p hp => ?_) ?_ ?_
    · rw [gL_rL, if_pos rfl, pk_cpy_in (by omega) (by omega)]
      rw [show 0 + (p - 0) = p by omega]
      exact e87 p hp
    · rw [gL_rL, if_neg (by decide)]
      exact eh
    · rw [gL_rL, if_neg (by decide)]
      exact eg hoff
  | m + 1, o, h2, ho, F, e86, eh, e87, eg, k => by
    have w2 := F.wf w
    have ho7 : o < 7 := by omega
    refine sX2_weigh_51b h2 85 _ _ _ _ _ _ _ _ _ ⟨fun q => absurd q ?_, fun _ => ⟨w2.o (by decide) rfl, ?_⟩⟩
    · rw [show (6 : Int32) = nI 6 from rfl, nI_ltI (by decide) (by omega)]
      omega
    refine c2_cb w2 ho7 e86 ⟨_, rfl, w2.o (by decide) rfl, ?_⟩
    rw [w2.f85_1, eh, nI_clamp (by omega), nI_1]
    have em : lmin ((sp * nI o).toInt64 * y7 + gb u d f o) (hal u d pr y7 f) = mnx u d sp pr y7 f o := rfl
    rw [em]
    have F2 : Fr [85, 86, 87] h (sL h2 87 o (mnx u d sp pr y7 f o)) := F.tr (Fr.sL (by decide))
    refine ⟨w2.a (by decide) rfl, vin_7.mpr ⟨nI_pos' (by omega), nI_lt (b := 7) ho7 (by decide)⟩, fun q => ?_, fun q => ?_⟩
    · have hne : o ≠ off := fun z => q (by rw [z])
      refine wg51 w hoff m (o + 1) _ (by omega) F2 (fun p hp => (ld_r (by decide)).trans (e86 p hp)) ((ld_r (by decide)).trans eh) (fun p hp => ?_) (fun hp => (ld_r (by decide)).trans (eg (by omega))) k
      by_cases c : p = o
      · subst c
        exact ld_h
      · exact (ld_k c).trans (e87 p (by omega))
    · have he : o = off := (nI_eq (by omega) (by omega)).mp q
      refine wg51 w hoff m (o + 1) _ (by omega) (F2.tr (Fr.sL (by decide))) (fun p hp => (ld_r (by decide)).trans ((ld_r (by decide)).trans (e86 p hp))) ((ld_k (by decide)).trans ((ld_r (by decide)).trans eh)) (fun p hp => ?_) (fun hp => ?_) k
      · refine (ld_r (by decide)).trans ?_
        by_cases c : p = o
        · subst c
          exact ld_h
        · exact (ld_k c).trans (e87 p (by omega))
      · rw [← he]
        exact ld_h
theorem wg14 {h : AH} {P : Option Value → AH → Prop} (w : Wf h) {u d sp pr : Int32} {n off : Nat} (hoff : off < 7) (hn : n ≤ 8) (k : ∀ h3, Fr [85, 86, 87] h h3 → (0 < n → gL h3 85 3 = hal u d pr (mean u d sp pr n).1 (mean u d sp pr (n - 1)).2 ∧ gL h3 85 2 = gon u d sp (mean u d sp pr n).1 (mean u d sp pr (n - 1)).2 off) → P none h3) : ∀ (m b : Nat) (h2 : AH), b + m = n → Fr [85, 86, 87] h h2 → (∀ p, p < 7 → gL h2 86 p = (mean u d sp pr b).2 p) → (0 < b → gL h2 85 3 = hal u d pr (mean u d sp pr b).1 (mean u d sp pr (b - 1)).2 ∧ gL h2 85 2 = gon u d sp (mean u d sp pr b).1 (mean u d sp pr (b - 1)).2 off) → 
    Rr mX2_weigh 0 0 14 [(0, .ref 85), (1, .int (nI n)), (2, .int (nI off)), (3, .int sp), (4, .int pr), (5, .int u), (6, .int d), (7, .long (mean u d sp pr b).1), (9, .int (nI (b + 1)))] [] h2 P
  | 0, b, h2, hb, F, e86, eg => by
    have e : b = n := by omega
    subst e
    refine sX2_weigh_14 h2 85 _ _ _ _ _ _ _ _ ⟨fun _ => k h2 F eg, fun q => absurd ?_ q⟩
    rw [nI_ltI (by omega) (by omega)]
    omega
  | m + 1, b, h2, hb, F, e86, eg => by
    have w2 := F.wf w
    refine sX2_weigh_14 h2 85 _ _ _ _ _ _ _ _ ⟨fun q => absurd q ?_, fun _ => ⟨w2.o (by decide) rfl, ?_⟩⟩
    · rw [nI_ltI (by omega) (by omega)]
      omega
    refine c2_cb (o := 0) w2 (by decide) e86 ⟨_, rfl, w2.o (by decide) rfl, ?_⟩
    refine wg51 (f := (mean u d sp pr b).2) (y7 := (mean u d sp pr b).1 * 10) w hoff 7 0 _ rfl (F.tr (Fr.sL (by decide))) (fun p hp => (ld_r (by decide)).trans (e86 p hp)) ld_h (fun p hp => absurd hp (Nat.not_lt_zero p)) (fun hp => absurd hp (Nat.not_lt_zero _)) (fun h3 F3 a1 a2 a3 => ?_)
    rw [nI_1]
    exact wg14 w hoff hn k m (b + 1) h3 (by omega) F3 a1 (fun _ => ⟨a2, a3⟩)
theorem c2_weigh {h : AH} {P : Option Value → AH → Prop} (w : Wf h) {u d sp pr : Int32} {n off : Nat} (hoff : off < 7) (hn : n ≤ 8) (hn0 : 0 < n) (k : ∀ h3, Fr [85, 86, 87] h h3 → gL h3 85 3 = hal u d pr (mean u d sp pr n).1 (mean u d sp pr (n - 1)).2 → gL h3 85 2 = gon u d sp (mean u d sp pr n).1 (mean u d sp pr (n - 1)).2 off → P none h3) : Call mX2_weigh [.ref 85, .int (nI n), .int (nI off), .int sp, .int pr, .int u, .int d] h P := by
  refine Call.ofR (by decide +kernel) (Nat.le_of_ble_eq_true rfl) (sX2_weigh_0 h 85 _ _ _ _ _ _ ⟨w.o (by decide) rfl, ?_⟩)
  rw [w.f85_0]
  refine c_fillL (w.a (by decide) rfl) ⟨rfl, ?_⟩
  refine wg14 w hoff hn (fun h3 F e => k h3 F (e hn0).1 (e hn0).2) n 0 _ (by omega) (Fr.rL (by decide)) (fun p hp => ?_) (fun q => absurd q (by decide))
  unfold fillL
  rw [gL_rL, if_pos rfl, if_pos ⟨Nat.zero_le _, hp⟩]
  rfl
