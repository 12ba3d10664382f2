def MK0 (h h3 : AH) : Prop := Fr [116, 145, 148] h h3 ∧ gI h3 116 1 = 0 ∧ ∀ z, 8 ≤ z → gI h3 116 z = gI h 116 z
def tOK (x1 x2 x3 : Int32) : Prop := (¬ x1 < 1 ∧ ¬ 20 < x1) ∧ (¬ x2 < 0 ∧ ¬ 120 < x2) ∧ (¬ x3 < 0 ∧ ¬ 20 < x3)
theorem c12_tissue {h : AH} {Q : Option Value → AH → Prop} (w : Wf h) {L : Nat} (hL : L ≤ 900) (h1L : gI h 116 1 = nI L) (hb : ByOK h L) {x1 x2 x3 : Int32} (kR : ¬ tOK x1 x2 x3 → ∀ h3, MK0 h h3 → Q (some (.int (-2))) h3) (kN : tOK x1 x2 x3 → (∀ l, rowf (gI h 117) L 0 99 20 0 = some l → l.length = 0) → ∀ h3, MK0 h h3 → Q (some (.int (-1))) h3)
    (kF : tOK x1 x2 x3 → ∀ l, rowf (gI h 117) L 0 99 20 0 = some l → 0 < l.length → ∀ h3, MK0 h h3 → RL h3 145 l → ¬ lst (fun q => cst 0 q + Gt (may (gI h3 145) x1 (x2 - x3) (x2 + x3)) l.length (l.length - 1) q) 10 < 1000000 → Q (some (.int (-1))) h3)
    (kS : tOK x1 x2 x3 → ∀ l, rowf (gI h 117) L 0 99 20 0 = some l → 0 < l.length → ∀ h3, MK0 h h3 → RL h3 145 l → BR h3 (may (gI h3 145) x1 (x2 - x3) (x2 + x3)) l.length 0 → lst (fun q => cst 0 q + Gt (may (gI h3 145) x1 (x2 - x3) (x2 + x3)) l.length (l.length - 1) q) 10 < 1000000 → Rr mX12_tissue 0 0 394 [(0, .ref 116), (4, .int (nI l.length)), (5, .int 0), (6, .int (nI (lst (fun q => cst 0 q + Gt (may (gI h3 145) x1 (x2 - x3) (x2 + x3)) l.length (l.length - 1) q) 10))), (7, .int (nI (lst (fun q => cst 0 q + Gt (may (gI h3 145) x1 (x2 - x3) (x2 + x3)) l.length (l.length - 1) q) 10))), (8, .int 0)] [] h3 Q) : Call mX12_tissue [.ref 116, .int x1, .int x2, .int x3] h Q := by
  refine Call.ofR (by decide +kernel) (Nat.le_of_ble_eq_true rfl) (sX12_tissue_0 h 116 _ _ _ ⟨w.o (by decide) rfl, ?_⟩)
  refine c12_start w hL h1L hb (fun h2 F2 t1 tz A2 => ⟨rfl, ?_⟩)
  have w2 := F2.wf w
  have e117 : gI h2 117 = gI h 117 := (F2.2.2 117 (by decide)).1
  have mk : ∀ h3, SK h2 h3 145 → MK0 h h3 := fun h3 S => ⟨(F2.sub (by decide)).tr (S.1.sub (by decide)), S.2.1.trans t1, fun z hz => (S.2.2 z hz).trans (tz z hz)⟩
  have S0 : SK h2 h2 145 := ⟨Fr.rf, rfl, fun _ _ => rfl⟩
  refine ⟨fun c => kR (fun q => c q.1) h2 (mk h2 S0), fun c1 => ⟨fun c => kR (fun q => c q.2.1) h2 (mk h2 S0), fun c2 => ⟨fun c3 => ?_, fun c => kR (fun q => c q.2.2) h2 (mk h2 S0)⟩⟩⟩
  have ok : tOK x1 x2 x3 := ⟨c1, c2, c3⟩
  refine ti40 (p0 := 0) (h := h2) w2 hL (fun y hy => by rw [e117]; exact hb y hy) (fun h3 S er => ?_) (fun h3 l S er R => ?_) 20 0 [] h2 rfl (Nat.zero_le L) S0 (by rw [e117]; exact A2) (fun i v hv => absurd hv (by simp)) ?_
  · rw [e117] at er
    exact kN ok (fun l hl => by rw [er] at hl; exact absurd hl (by simp)) h3 (mk h3 S)
  · rw [e117] at er
    have len := rowf_len er
    refine ⟨fun q => ?_, fun q => kN ok (fun l2 hl => ?_) h3 (mk h3 S)⟩
    · have n0 : 0 < l.length := by
        rcases Nat.eq_zero_or_pos l.length with z | z
        · rw [z] at q; exact absurd rfl q
        · exact z
      have w3 := S.1.wf w2
      refine t105 w3 len (fun h4 F4 => ?_) 10 0 h3 rfl Fr.rf
      have w4 := F4.wf w3
      have b0 : BR h4 (may (gI h4 145) x1 (x2 - x3) (x2 + x3)) l.length (l.length - 0) := fun q h1 h2 => absurd h2 (by omega)
      refine t138 w4 len (fun h5 F5 B5 => ?_) l.length 0 h4 (Nat.zero_add _) Fr.rf b0
      have w5 := F5.wf w4
      have G5 : Fr [148] h3 h5 := F4.tr F5
      have e145 : gI h5 145 = gI h4 145 := (F5.2.2 145 (by decide)).1
      rw [← e145] at B5
      have R5 : RL h5 145 l := R.ag (G5.2.2 145 (by decide)).1
      have m3 := mk h3 S
      have m5 : MK0 h h5 := ⟨m3.1.tr (G5.sub (by decide)), (G5.I (by decide) 1).trans m3.2.1, fun z hz => (G5.I (by decide) z).trans (m3.2.2 z hz)⟩
      exact t324 w5 len n0 B5 (fun c => kS ok l er n0 h5 m5 R5 B5 c) (fun c => kF ok l er n0 h5 m5 R5 c) 10 0 rfl
    · rw [er] at hl
      have e : l = l2 := Option.some.inj hl
      rw [← e]
      have := nI_eq (a := l.length) (b := 0) (by omega) (by decide)
      exact this.mp q
  · cases rowf (gI h2 117) L 0 99 20 0 with
    | none => rfl
    | some l => rfl
theorem inv_tis {j : Nat} {h h1 h3 : AH} (I : Inv j h) (F : Fr [2, 89, 90, 91] h h1) (e2 : gI h1 2 2 = 0) (M : MK0 h1 h3) : Inv j h3 :=
  inv_tape I ((F.sub (by decide)).tr (M.1.sub (by decide))) ((M.1.I (by decide) 2).trans e2) M.2.1 (fun z hz => (M.2.2 z hz).trans (F.I (by decide) z))
theorem pr_tissue {j : Nat} {h : AH} (I : Inv j h) (x1 x2 x3 : Int32) : Pair mX11_tissue mX12_tissue [.int x1, .int x2, .int x3] h := by
  have w := I.1
  have hj := I.2.1
  have jb := jcase w hj
  obtain ⟨L, hL, h2L, h1L, eq, hb⟩ := tape_ok I
  -- ends without layers
  have small : ∀ (v : Int32) (h1 : AH), Fr [2, 89, 90, 91] h h1 → gI h1 2 2 = 0 → ((¬ tOK x1 x2 x3 ∧ v = -2) ∨ (tOK x1 x2 x3 ∧ v = -1 ∧ ((∀ l, rowf (gI h 3) L 0 99 20 0 = some l → l.length = 0) ∨ ∃ l, rowf (gI h 3) L 0 99 20 0 = some l ∧ 0 < l.length ∧ ∀ h3, RL h3 145 l → ¬ lst (fun q => cst 0 q + Gt (may (gI h3 145) x1 (x2 - x3) (x2 + x3)) l.length (l.length - 1) q) 10 < 1000000))) → Call mX12_tissue [.ref 116, .int x1, .int x2, .int x3] h1 (fun v2 h2 => v2 = some (.int v) ∧ (∃ z : Int32, some (Value.int v) = some (.int z)) ∧ ∃ j, Inv j h2) := fun v h1 F1 z2 hv => by
    have w1 := F1.wf w
    have e117 : gI h1 117 = gI h 117 := (F1.2.2 117 (by decide)).1
    have rq : rowf (gI h1 117) L 0 99 20 0 = rowf (gI h 3) L 0 99 20 0 := by
      rw [e117]
      exact (rowf_c eq (Nat.zero_le L)).symm
    refine c12_tissue w1 hL ((F1.I (by decide) 1).trans h1L) (fun y hy => by rw [e117]; exact hb y hy) (fun c h3 M => ⟨?_, ⟨_, rfl⟩, j, inv_tis I F1 z2 M⟩) (fun c _ h3 M => ⟨?_, ⟨_, rfl⟩, j, inv_tis I F1 z2 M⟩) (fun c l er n0 h3 M R _ => ⟨?_, ⟨_, rfl⟩, j, inv_tis I F1 z2 M⟩) (fun c l er n0 h3 M R B lt => ?_)
    · rcases hv with ⟨-, rfl⟩ | ⟨hv, -⟩
      · rfl
      · exact absurd hv c
    · rcases hv with ⟨hv, -⟩ | ⟨-, rfl, -⟩
      · exact absurd c hv
      · rfl
    · rcases hv with ⟨hv, -⟩ | ⟨-, rfl, -⟩
      · exact absurd c hv
      · rfl
    · exfalso
      rw [rq] at er
      rcases hv with ⟨hv, -⟩ | ⟨-, -, hv | ⟨l2, e2, -, hv⟩⟩
      · exact hv c
      · have := hv l er
        omega
      · rw [er] at e2
        have el : l = l2 := Option.some.inj e2
        subst el
        exact hv h3 R lt
  refine Call.ofR (by decide +kernel) (Nat.le_of_ble_eq_true rfl) (sX11_tissue_0 h 0 _ _ _ ?_)
  rw [w.f0_1, w.f0_13, w.f88_0]
  refine ⟨w.o (by decide) rfl, w.o (by decide) rfl, w.o (by decide) rfl, ?_⟩
  have rng : ∀ {z : Int32} {h1 : AH}, Fr [2, 89, 90, 91] h h1 → gI h1 2 2 = 0 → (tOK x1 x2 x3 → (z < 1 → Call mX12_tissue [.ref 116, .int x1, .int x2, .int x3] h1 (fun v2 h2 => v2 = some (.int (-1)) ∧ (∃ z : Int32, some (Value.int (-1)) = some (.int z)) ∧ ∃ j, Inv j h2)) ∧ (¬ z < 1 → (isO h1 11 0) ∧ ((isO h1 10 (gF h1 0 13)) ∧ (Call mX10_bound [.ref (gF h1 0 13), .int z, .int x1, .int (x2 - x3), .int (x2 + x3)] h1 (fun v h15 => ∃ z16 : Int32, v = some (.int z16) ∧ ((¬ z16 = 0 → (isO h15 11 0) ∧ ((isO h15 10 (gF h15 0 13)) ∧ (Call mX10_find [.ref (gF h15 0 13), .int z] h15 (fun v h20 => ∃ z21 : Int32, v = some (.int z21) ∧ (Call mX12_tissue [.ref 116, .int x1, .int x2, .int x3] h20 (fun v2 h2 => v2 = some (.int z21) ∧ (∃ z : Int32, some (Value.int z21) = some (.int z)) ∧ ∃ j, Inv j h2)))))) ∧ (z16 = 0 → Call mX12_tissue [.ref 116, .int x1, .int x2, .int x3] h15 (fun v2 h2 => v2 = some (.int (-1)) ∧ (∃ z : Int32, some (Value.int (-1)) = some (.int z)) ∧ ∃ j, Inv j h2)))))))) → (x1 < 1 → Call mX12_tissue [.ref 116, .int x1, .int x2, .int x3] h1 (fun v2 h2 => v2 = some (.int (-2)) ∧ (∃ z : Int32, some (Value.int (-2)) = some (.int z)) ∧ ∃ j, Inv j h2)) ∧ (¬ x1 < 1 → (20 < x1 → Call mX12_tissue [.ref 116, .int x1, .int x2, .int x3] h1 (fun v2 h2 => v2 = some (.int (-2)) ∧ (∃ z : Int32, some (Value.int (-2)) = some (.int z)) ∧ ∃ j, Inv j h2)) ∧ (¬ 20 < x1 → (x2 < 0 → Call mX12_tissue [.ref 116, .int x1, .int x2, .int x3] h1 (fun v2 h2 => v2 = some (.int (-2)) ∧ (∃ z : Int32, some (Value.int (-2)) = some (.int z)) ∧ ∃ j, Inv j h2)) ∧ (¬ x2 < 0 → (120 < x2 → Call mX12_tissue [.ref 116, .int x1, .int x2, .int x3] h1 (fun v2 h2 => v2 = some (.int (-2)) ∧ (∃ z : Int32, some (Value.int (-2)) = some (.int z)) ∧ ∃ j, Inv j h2)) ∧ (¬ 120 < x2 → (x3 < 0 → Call mX12_tissue [.ref 116, .int x1, .int x2, .int x3] h1 (fun v2 h2 => v2 = some (.int (-2)) ∧ (∃ z : Int32, some (Value.int (-2)) = some (.int z)) ∧ ∃ j, Inv j h2)) ∧ (¬ x3 < 0 → (x3 ≤ 20 → (z < 1 → Call mX12_tissue [.ref 116, .int x1, .int x2, .int x3] h1 (fun v2 h2 => v2 = some (.int (-1)) ∧ (∃ z : Int32, some (Value.int (-1)) = some (.int z)) ∧ ∃ j, Inv j h2)) ∧ (¬ z < 1 → (isO h1 11 0) ∧ ((isO h1 10 (gF h1 0 13)) ∧ (Call mX10_bound [.ref (gF h1 0 13), .int z, .int x1, .int (x2 - x3), .int (x2 + x3)] h1 (fun v h15 => ∃ z16 : Int32, v = some (.int z16) ∧ ((¬ z16 = 0 → (isO h15 11 0) ∧ ((isO h15 10 (gF h15 0 13)) ∧ (Call mX10_find [.ref (gF h15 0 13), .int z] h15 (fun v h20 => ∃ z21 : Int32, v = some (.int z21) ∧ (Call mX12_tissue [.ref 116, .int x1, .int x2, .int x3] h20 (fun v2 h2 => v2 = some (.int z21) ∧ (∃ z : Int32, some (Value.int z21) = some (.int z)) ∧ ∃ j, Inv j h2)))))) ∧ (z16 = 0 → Call mX12_tissue [.ref 116, .int x1, .int x2, .int x3] h15 (fun v2 h2 => v2 = some (.int (-1)) ∧ (∃ z : Int32, some (Value.int (-1)) = some (.int z)) ∧ ∃ j, Inv j h2)))))))) ∧ (¬ x3 ≤ 20 → Call mX12_tissue [.ref 116, .int x1, .int x2, .int x3] h1 (fun v2 h2 => v2 = some (.int (-2)) ∧ (∃ z : Int32, some (Value.int (-2)) = some (.int z)) ∧ ∃ j, Inv j h2))))))) := fun {z h1} F1 z2 kk => by
    have no : ¬ tOK x1 x2 x3 → Call mX12_tissue [.ref 116, .int x1, .int x2, .int x3] h1 (fun v2 h2 => v2 = some (.int (-2)) ∧ (∃ z : Int32, some (Value.int (-2)) = some (.int z)) ∧ ∃ j, Inv j h2) := fun c => small _ h1 F1 z2 (Or.inl ⟨c, rfl⟩)
    refine ⟨fun c => no (fun q => q.1.1 c), fun c1 => ⟨fun c => no (fun q => q.1.2 c), fun c2 => ⟨fun c => no (fun q => q.2.1.1 c), fun c3 => ⟨fun c => no (fun q => q.2.1.2 c), fun c4 => ⟨fun c => no (fun q => q.2.2.1 c), fun c5 => ⟨fun c6 => kk ⟨⟨c1, c2⟩, ⟨c3, c4⟩, c5, ?_⟩, fun c => no (fun q => ?_)⟩⟩⟩⟩⟩⟩
    · clear small no kk I; grind
    · apply c
      have := q.2.2.2
      clear small no kk I
      grind
  refine c9_row (cap := 20) w hL h2L (w.a (by decide) rfl) rfl (by decide) (by decide) (by decide) (fun h1 F1 z2 er => ⟨_, rfl, ?_⟩) (fun h1 l F1 z2 er R => ⟨_, rfl, ?_⟩)
  · have F1' : Fr [2, 89, 90, 91] h h1 := F1.sub (by decide)
    refine rng F1' z2 (fun ok => ⟨fun _ => small _ h1 F1' z2 (Or.inr ⟨ok, rfl, Or.inl (fun l hl => ?_)⟩), fun q => absurd (by decide) q⟩)
    rw [er] at hl
    exact absurd hl (by simp)
  have F1' : Fr [2, 89, 90, 91] h h1 := F1.sub (by decide)
  have len := rowf_len er
  have w1 := F1.wf w
  refine rng F1' z2 (fun ok => ⟨fun q => small _ h1 F1' z2 (Or.inr ⟨ok, rfl, Or.inl (fun l2 hl => ?_)⟩), fun q => ?_⟩)
  · rw [er] at hl
    have e : l = l2 := Option.some.inj hl
    rw [← e]
    rw [show (1 : Int32) = nI 1 from rfl, nI_ltI (by omega) (by decide)] at q
    omega
  have n0 : 0 < l.length := by
    rw [show (1 : Int32) = nI 1 from rfl, nI_ltI (by omega) (by decide)] at q
    omega
  clear rng
  rw [w1.f0_13]
  -- a reading of the row by the reference is the press's
  have same : ∀ h3, RL h3 145 l → ∀ z, z < l.length → gI h1 89 z = gI h3 145 z := fun h3 R3 z hz => by
    have := List.getElem?_eq_getElem hz
    rw [R z _ this, R3 z _ this]
  refine ⟨w1.o (by decide) rfl, w1.o (by decide) rfl, c10_bound w1 len (fun h2 F2 zs zm => ⟨_, rfl, fun _ => ?_, fun q => absurd q (by decide)⟩) (fun h2 F2 bad => ⟨_, rfl, fun q => absurd rfl q, fun _ => ?_⟩)⟩
  rotate_left
  · -- some zone can't be
    have F12 : Fr [2, 89, 90, 91] h h2 := F1'.tr (F2.sub (by decide))
    refine small _ h2 F12 ((F2.I (by decide) 2).trans z2) (Or.inr ⟨ok, rfl, Or.inr ⟨l, er, n0, fun h3 R3 => ?_⟩⟩)
    obtain ⟨z, hz, hbz⟩ := bad
    have gb := Gt_bad (may := may (gI h3 145) x1 (x2 - x3) (x2 + x3)) hz (fun l' hl' => by rw [← may_c (same h3 R3 z hz)]; exact hbz l' hl') (l.length - 1) (by omega) (by omega)
    have := le_lst (v := fun q => cst 0 q + Gt (may (gI h3 145) x1 (x2 - x3) (x2 + x3)) l.length (l.length - 1) q) (m := 1000000) (Nat.le_refl _) (k := 10) (fun i hi => by
      show 1000000 ≤ cst 0 i + Gt (may (gI h3 145) x1 (x2 - x3) (x2 + x3)) l.length (l.length - 1) i
      rw [gb i hi]
      omega)
    omega
  -- all zones can be
  have w2 := F2.wf w1
  have F12 : Fr [2, 89, 90, 91] h h2 := F1'.tr (F2.sub (by decide))
  obtain ⟨sn, s20, es⟩ : ∃ n : Nat, n ≤ 20 ∧ x1 = nI n := nI_of2 (M := 20) rfl (by have := ok.1; clear small I; grind) (by have := ok.1; clear small I; grind)
  have gr : ∀ z, z < l.length → ∃ g : Nat, g ≤ 99 ∧ gI h1 89 z = nI g := fun z hz => by
    have e := List.getElem?_eq_getElem hz
    obtain ⟨g, hg, eg⟩ := rowf_rng er _ (List.getElem_mem hz)
    exact ⟨g, hg, by rw [R z _ e, eg]⟩
  have zone : ∀ z, z < l.length → ((gI h2 90 z).toNatClampNeg ≤ (gI h2 91 z).toNatClampNeg ∧ (gI h2 91 z).toNatClampNeg ≤ 9) ∧ (gI h2 90 z = nI (gI h2 90 z).toNatClampNeg ∧ gI h2 91 z = nI (gI h2 91 z).toNatClampNeg) ∧ ∀ k, k < 10 → (may (gI h1 89) x1 (x2 - x3) (x2 + x3) z k = true ↔ (gI h2 90 z).toNatClampNeg ≤ k ∧ k ≤ (gI h2 91 z).toNatClampNeg) := fun z hz => by
    rcases zs z hz with ⟨-, b, -⟩ | ⟨lo, hi, a1, a2, a3, a4, a5, a6, a7, a8⟩
    · exact absurd b (zm z hz)
    · have c1 : (gI h2 90 z).toNatClampNeg = lo := by rw [a7, nI_clamp (by omega)]
      have c2 : (gI h2 91 z).toNatClampNeg = hi := by rw [a8, nI_clamp (by omega)]
      rw [c1, c2]
      refine ⟨⟨a1, by omega⟩, ⟨a7, a8⟩, fun k hk => ⟨fun m => ?_, fun m => ?_⟩⟩
      · refine ⟨?_, ?_⟩
        · rcases Nat.lt_or_ge k lo with q | q
          · exact absurd m (a5 k q)
          · exact q
        · rcases Nat.lt_or_ge hi k with q | q
          · exact absurd m (a6 k q hk)
          · exact q
      · obtain ⟨g, hg, eg⟩ := gr z hz
        exact may_mono eg hg es s20 m.1 m.2 (by omega) a3 a4
  obtain ⟨lo, hi, hz, Z, may'⟩ : ∃ lo hi : Nat → Nat, FZ lo hi l.length ∧ ZL h2 lo hi l.length ∧ (∀ z k, z < l.length → k < 10 → (may (gI h1 89) x1 (x2 - x3) (x2 + x3) z k = true ↔ lo z ≤ k ∧ k ≤ hi z)) :=
    ⟨fun z => (gI h2 90 z).toNatClampNeg, fun z => (gI h2 91 z).toNatClampNeg, fun z hz => (zone z hz).1, fun z hz => (zone z hz).2.1, fun z k hz hk => (zone z hz).2.2 k hk⟩
  clear zs zm zone gr
  rw [w2.f0_13]
  refine ⟨w2.o (by decide) rfl, w2.o (by decide) rfl, c10_find w2 hz len Z (fun h4 F4 e4 e6 el => ⟨_, rfl, ?_⟩)⟩
  have w4 := F4.wf w2
  have G4 : Fr (2 :: 89 :: 90 :: 91 :: TS) h h4 := (F12.sub (by decide)).tr (F4.sub (by decide))
  have e117 : gI h4 117 = gI h 117 := (G4.2.2 117 (by decide)).1
  have rq : rowf (gI h4 117) L 0 99 20 0 = rowf (gI h 3) L 0 99 20 0 := by
    rw [e117]
    exact (rowf_c eq (Nat.zero_le L)).symm
  have m3 : ∀ h3, RL h3 145 l → ∀ z k, z < l.length → k < 10 → (may (gI h3 145) x1 (x2 - x3) (x2 + x3) z k = true ↔ lo z ≤ k ∧ k ≤ hi z) := fun h3 R3 z k hz hk => by
    rw [← may_c (same h3 R3 z hz)]
    exact may' z k hz hk
  have lv : ∀ h3, RL h3 145 l → lst (fun q => cst 0 q + Gt (may (gI h3 145) x1 (x2 - x3) (x2 + x3)) l.length (l.length - 1) q) 10 = Vw lo hi l.length l.length 0 := fun h3 R3 => by
    have := min_is (m := l.length - 1) (a := 0) (g := Gt (may (gI h3 145) x1 (x2 - x3) (x2 + x3)) l.length (l.length - 1)) hz len (by omega) (Gt_ok hz len (m3 h3 R3) (l.length - 1) (by omega))
    rw [show l.length - 1 + 1 = l.length by omega] at this
    exact this
  have vl := Vw_le hz l.length 0 (Nat.le_refl _)
  refine c12_tissue w4 hL ((G4.I (by decide) 1).trans h1L) (fun y hy => by rw [e117]; exact hb y hy) (fun c => absurd ok c) (fun _ c => ?_) (fun _ l2 er2 _ h3 M R3 c => ?_) (fun _ l2 er2 _ h3 M R3 B3 c => ?_)
  · exfalso
    have := c l (by rw [rq]; exact er)
    omega
  · exfalso
    rw [rq, er] at er2
    have e : l = l2 := Option.some.inj er2
    subst e
    rw [lv h3 R3] at c
    omega
  · rw [rq, er] at er2
    have e : l = l2 := Option.some.inj er2
    subst e
    rw [lv h3 R3]
    have w3 := M.1.wf w4
    have go := t394 (P := fun v2 h2 => v2 = some (.int (nI (Vw lo hi l.length l.length 0) / 1000)) ∧ (∃ z : Int32, some (Value.int (nI (Vw lo hi l.length l.length 0) / 1000)) = some (.int z)) ∧ ∃ j, Inv j h2) (x6 := nI (Vw lo hi l.length l.length 0)) w3 hz len (m3 h3 R3) B3 (fun h5 F5 e5 => ⟨rfl, ⟨_, rfl⟩, j, ?_⟩) l.length 0 h3 (Nat.zero_add _) Fr.rf (fun q hq => absurd hq (Nat.not_lt_zero q))
    · rw [Nat.sub_zero] at go
      exact go
    have FA : Fr (2 :: 89 :: 90 :: 91 :: 116 :: 145 :: 147 :: 148 :: TS) h (sI h5 116 55 (nI l.length)) := (((G4.sub (by decide)).tr (M.1.sub (by decide))).tr (F5.sub (by decide))).tr (Fr.sI (by decide))
    have p116 : ∀ z, 8 ≤ z → z ≠ 55 → gI (sI h5 116 55 (nI l.length)) 116 z = gI h 116 z := fun z h8 h55 => by
      rw [rd_k h55, F5.I (by decide), M.2.2 z h8, G4.I (by decide)]
    obtain ⟨-, -, -, fi, ji, ri, mi, si, pi, -⟩ := I
    have v2 : gI (sI h5 116 55 (nI l.length)) 2 2 = 0 := by
      rw [rd_r (by decide), F5.I (by decide), M.1.I (by decide), F4.I (by decide), F2.I (by decide)]
      exact z2
    have v1 : gI (sI h5 116 55 (nI l.length)) 116 1 = 0 := by
      rw [rd_k (by decide), F5.I (by decide)]
      exact M.2.1
    have v4 : gI (sI h5 116 55 (nI l.length)) 88 4 = nI l.length := by
      rw [rd_r (by decide), F5.I (by decide), M.1.I (by decide)]
      exact e4
    have v55 : gI (sI h5 116 55 (nI l.length)) 116 55 = nI l.length := rd_h
    refine ⟨FA.wf w, (FA.2.1 0 2).trans hj, ⟨?_, v1.trans v2.symm, fun x h1 h2 => ?_⟩, fi.keep (FA.I (by decide) 4) (FA.I (by decide) 5) (p116 8 (by decide) (by decide)) (p116 9 (by decide) (by decide)), ji.keep (fun r hr => FA.ag (by clear small; rcases jb with rfl | rfl <;> revert r <;> decide)) (p116 20 (by decide) (by decide)), ri.keep (fun r hr => FA.ag (by clear ji ri si pi small; revert r; decide)) (FA.I (by clear small; rcases jb with rfl | rfl <;> decide) 3) (p116 23 (by decide) (by decide)) (p116 24 (by decide) (by decide)) (p116 25 (by decide) (by decide)), mi.keep (FA.I (by decide) 5) (FA.ag (by decide)) (p116 43 (by decide) (by decide)) (FA.ag (by decide)), si.keep (FA.I (by decide) 9) (FA.I (by decide) 10) (FA.I (by decide) 11) (p116 48 (by decide) (by decide)) (p116 49 (by decide) (by decide)) (p116 50 (by decide) (by decide)), pi.keep (FA.I (by decide) 8) (p116 51 (by decide) (by decide)) (fun r hr => FA.ag (by clear ji ri si pi small; revert r; decide)), ?_, v55.trans v4.symm, fun x h1 h2 => ?_, fun _ => ?_⟩
    · rw [v2]
      exact ⟨by decide, by decide⟩
    · rw [v2] at h2
      exfalso
      clear ji ri mi si pi small
      grind
    · rw [v4]
      exact ⟨nI_pos' (by omega), nI_le (a := l.length) (b := 20) len (by decide)⟩
    · rw [v4] at h2
      have hx : x = nI x.toNatClampNeg := (cl_nI h1).symm
      have hk : x.toNatClampNeg < l.length := by
        rw [hx, nI_ltI (by have := (ti_rng x).2; show x.toInt.toNat < 2 ^ 31; omega) (by omega)] at h2
        exact h2
      rw [rd_r (by decide), F5.I (by decide), M.1.I (by decide), el _ hk, rd_r (by decide), e5 _ hk]
    · rw [v4, nI_clamp (by omega), rd_r (by decide), F5.I (by decide), M.1.I (by decide), e6]
      refine isum_c (fun k hk => ?_)
      rw [rd_r (by decide), e5 k hk]
