theorem inv_tape {j : Nat} {h h3 : AH} (I : Inv j h) (F : Fr [2, 84, 89, 90, 91, 116, 145, 148] h h3) (e2 : gI h3 2 2 = 0) (e1 : gI h3 116 1 = 0) (ez : ∀ z, 8 ≤ z → gI h3 116 z = gI h 116 z) : Inv j h3 := by
  have jb := jcase I.1 I.2.1
  obtain ⟨w, hj, -, fi, ji, ri, mi, si, pi, li⟩ := I
  refine ⟨F.wf w, (F.2.1 0 2).trans hj, ⟨?_, ?_, ?_⟩, fi.keep (F.I (by decide) 4) (F.I (by decide) 5) (ez 8 (by decide)) (ez 9 (by decide)), ji.keep (fun r hr => F.ag (by rcases jb with rfl | rfl <;> revert r <;> decide)) (ez 20 (by decide)), ri.keep (fun r hr => F.ag (by clear ji ri si pi li; revert r; decide)) (F.I (by rcases jb with rfl | rfl <;> decide) 3) (ez 23 (by decide)) (ez 24 (by decide)) (ez 25 (by decide)), mi.keep (F.I (by decide) 5) (F.ag (by decide)) (ez 43 (by decide)) (F.ag (by decide)), si.keep (F.I (by decide) 9) (F.I (by decide) 10) (F.I (by decide) 11) (ez 48 (by decide)) (ez 49 (by decide)) (ez 50 (by decide)), pi.keep (F.I (by decide) 8) (ez 51 (by decide)) (fun r hr => F.ag (by clear ji ri si pi li; revert r; decide)), li.keep (F.I (by decide) 4) (F.I (by decide) 6) (F.ag (by decide)) (ez 55 (by decide)) (F.ag (by decide))⟩
  · rw [e2]
    exact ⟨by decide, by decide⟩
  · rw [e1, e2]
  · intro x h1 h2
    rw [e2] at h2
    exfalso
    clear ji ri mi si pi li
    grind
/-- what the invariant tells of the tape -/
theorem tape_ok {j : Nat} {h : AH} (I : Inv j h) : ∃ L : Nat, L ≤ 900 ∧ gI h 2 2 = nI L ∧ gI h 116 1 = nI L ∧ (∀ x, x < L → gI h 3 x = gI h 117 x) ∧ ByOK h L := by
  obtain ⟨-, -, ⟨t1, t2, t3⟩, -⟩ := I
  obtain ⟨L, hL, e⟩ : ∃ n : Nat, n ≤ 900 ∧ gI h 2 2 = nI n := nI_of2 (M := 900) rfl (by unfold inr at t1; clear t3; grind) t1.2
  have st : ∀ x, x < L → gI h 3 x = gI h 117 x ∧ inr (gI h 3 x) (-128) 127 := fun x hx => by
    have := t3 (nI x) (nI_pos' (by omega)) (by rw [e]; exact nI_lt hx (by omega))
    rw [nI_clamp (by omega)] at this
    exact this
  exact ⟨L, hL, e, t2.trans e, fun x hx => (st x hx).1, fun x hx => by rw [← (st x hx).1]; exact (st x hx).2⟩
theorem jmp_c {r r2 : Nat → Int32} {br : Int32} {n : Nat} (e : ∀ k, k < n → r k = r2 k) : (∃ k, 1 ≤ k ∧ k < n ∧ jmp r br n k) ↔ (∃ k, 1 ≤ k ∧ k < n ∧ jmp r2 br n k) := by
  have st : ∀ k, 1 ≤ k → k < n → (jmp r br n k ↔ jmp r2 br n k) := fun k h1 h2 => by
    unfold jmp
    rw [brd_c (a := 0) (b := k) (by omega) (fun q hq => e q (by omega)), brd_c (a := k) (b := n) h2 e]
  exact ⟨fun ⟨k, h1, h2, h3⟩ => ⟨k, h1, h2, (st k h1 h2).mp h3⟩, fun ⟨k, h1, h2, h3⟩ => ⟨k, h1, h2, (st k h1 h2).mpr h3⟩⟩
theorem dft_c {r r2 : Nat → Int32} {br : Int32} {n : Nat} (n0 : 0 < n) (e : ∀ k, k < n → r k = r2 k) : (∃ i, i < 101 ∧ dft r br n i) ↔ (∃ i, i < 101 ∧ dft r2 br n i) := by
  have st : ∀ i, (dft r br n i ↔ dft r2 br n i) := fun i => by
    unfold dft
    rw [brd_c (a := 0) (b := n) n0 e]
  exact ⟨fun ⟨k, h1, h3⟩ => ⟨k, h1, (st k).mp h3⟩, fun ⟨k, h1, h3⟩ => ⟨k, h1, (st k).mpr h3⟩⟩
theorem pr_causes {j : Nat} {h : AH} (I : Inv j h) (x : Int32) : Pair mX11_causes mX12_causes [.int x] h := by
  have w := I.1
  obtain ⟨L, hL, h2L, h1L, eq, hb⟩ := tape_ok I
  -- the reference, from behind the press's reading on
  have ref : ∀ {Q : Option Value → AH → Prop} (h1 : AH), Fr [2, 84] h h1 → gI h1 2 2 = 0 → (¬ (¬ x < 0 ∧ ¬ 99 < x) → ∀ h3, Inv j h3 → Q (some (.int (-2))) h3) → ((¬ x < 0 ∧ ¬ 99 < x) → rowf (gI h 3) L 1 999 24 0 = none → ∀ h3, Inv j h3 → Q (some (.int (-1))) h3) → ((¬ x < 0 ∧ ¬ 99 < x) → ∀ l h3, rowf (gI h 3) L 1 999 24 0 = some l → Inv j h3 → RL h3 145 l → (¬ nI l.length = 0 → Call mX12_isLevel [.ref 116, .int 0, .int (nI l.length), .int 0, .int x] h3 (fun v h26 => ∃ z27 : Int32, v = some (.int z27) ∧ ((z27 = 0 → Rr mX12_causes 0 0 147 [(0, .ref 116), (1, .int x), (2, .int (nI l.length)), (3, .int 0), (4, .int 1)] [] h26 Q) ∧ (¬ z27 = 0 → Q (some (.int 1)) h26)))) ∧ (nI l.length = 0 → Q (some (.int (-1))) h3)) → Call mX12_causes [.ref 116, .int x] h1 Q := fun {Q} h1 F1 z2 k1 k2 k3 => by
    have w1 := F1.wf w
    have e117 : gI h1 117 = gI h 117 := (F1.2.2 117 (by decide)).1
    refine Call.ofR (by decide +kernel) (Nat.le_of_ble_eq_true rfl) (sX12_causes_0 h1 116 _ ⟨w1.o (by decide) rfl, ?_⟩)
    refine c12_start w1 hL ((F1.I (by decide) 1).trans h1L) (fun y hy => by rw [e117]; exact hb y hy) (fun h2 F2 t1 tz A2 => ⟨rfl, ?_⟩)
    rw [e117] at A2
    have w2 := F2.wf w1
    have inv : ∀ h3, SK h2 h3 145 → Inv j h3 := fun h3 S => inv_tape I (((F1.sub (by decide)).tr (F2.sub (by decide))).tr (S.1.sub (by decide))) (by rw [S.1.I (by decide), F2.I (by decide)]; exact z2) (S.2.1.trans t1) (fun z hz => (S.2.2 z hz).trans ((tz z hz).trans (F1.I (by decide) z)))
    have S0 : SK h2 h2 145 := ⟨Fr.rf, rfl, fun _ _ => rfl⟩
    have e117' : gI h2 117 = gI h 117 := (F2.2.2 117 (by decide)).1.trans e117
    have rq : ∀ c p, p ≤ L → rowf (gI h 3) L 1 999 c p = rowf (gI h 117) L 1 999 c p := fun c p hp => rowf_c eq hp
    refine ⟨fun c => ?_, fun c => k1 c h2 (inv h2 S0)⟩
    refine ca19 (p0 := 0) (h := h2) w2 hL (fun y hy => by rw [e117']; exact hb y hy) (fun h3 S er => ?_) (fun h3 l S er R => ?_) 24 0 [] h2 rfl (Nat.zero_le L) S0 (by rw [e117']; exact A2) (fun i v hv => absurd hv (by simp)) ?_
    · rw [e117', ← rq 24 0 (Nat.zero_le L)] at er
      exact k2 c er h3 (inv h3 S)
    · rw [e117', ← rq 24 0 (Nat.zero_le L)] at er
      exact k3 c l h3 er (inv h3 S) R
    · cases rowf (gI h2 117) L 1 999 24 0 with
      | none => rfl
      | some l => rfl
  have small : ∀ (v : Int32) (h1 : AH), Fr [2, 84] h h1 → gI h1 2 2 = 0 → ((¬ (¬ x < 0 ∧ ¬ 99 < x) ∧ v = -2) ∨ ((¬ x < 0 ∧ ¬ 99 < x) ∧ v = -1 ∧ ∀ l, rowf (gI h 3) L 1 999 24 0 = some l → l.length = 0)) → Call mX12_causes [.ref 116, .int x] h1 (fun v2 h2 => v2 = some (.int v) ∧ (∃ z : Int32, some (Value.int v) = some (.int z)) ∧ ∃ j, Inv j h2) := fun v h1 F1 z2 hv => by
    refine ref h1 F1 z2 (fun c h3 I3 => ⟨?_, ⟨_, rfl⟩, j, I3⟩) (fun c er h3 I3 => ⟨?_, ⟨_, rfl⟩, j, I3⟩) (fun c l h3 er I3 R => ?_)
    · rcases hv with ⟨-, rfl⟩ | ⟨hv, -⟩
      · rfl
      · exact absurd hv c
    · rcases hv with ⟨hv, -⟩ | ⟨-, rfl, -⟩
      · exact absurd c hv
      · rfl
    · rcases hv with ⟨hv, -⟩ | ⟨-, rfl, hv⟩
      · exact absurd c hv
      · have e0 : nI l.length = 0 := by rw [hv l er]; rfl
        exact ⟨fun q => absurd e0 q, fun _ => ⟨rfl, ⟨_, rfl⟩, j, I3⟩⟩
  refine Call.ofR (by decide +kernel) (Nat.le_of_ble_eq_true rfl) (sX11_causes_0 h 0 x ?_)
  rw [w.f0_1, w.f0_11]
  refine ⟨w.o (by decide) rfl, w.o (by decide) rfl, ?_⟩
  refine c9_row (cap := 24) w hL h2L (w.a (by decide) rfl) rfl (by decide) (by decide) (by decide) (fun h1 F1 z2 er => ⟨_, rfl, ?_⟩) (fun h1 l F1 z2 er R => ⟨_, rfl, ?_⟩)
  · refine ⟨fun c => small _ h1 F1 z2 (Or.inl ⟨fun q => q.1 c, rfl⟩), fun c => ⟨fun c2 => ⟨fun q => absurd q (by decide), fun _ => small _ h1 F1 z2 (Or.inr ⟨⟨c, ?_⟩, rfl, fun l hl => ?_⟩)⟩, fun c2 => small _ h1 F1 z2 (Or.inl ⟨fun q => ?_, rfl⟩)⟩⟩
    · clear ref small I; grind
    · rw [er] at hl; exact absurd hl (by simp)
    · apply c2
      clear ref small I
      grind
  · have len := rowf_len er
    refine ⟨fun c => small _ h1 F1 z2 (Or.inl ⟨fun q => q.1 c, rfl⟩), fun c => ⟨fun c2 => ⟨fun q => ?_, fun q => small _ h1 F1 z2 (Or.inr ⟨⟨c, ?_⟩, rfl, fun l2 hl => ?_⟩)⟩, fun c2 => small _ h1 F1 z2 (Or.inl ⟨fun q => ?_, rfl⟩)⟩⟩
    rotate_left
    · clear ref small I; grind
    · rw [er] at hl
      have e : l = l2 := Option.some.inj hl
      rw [← e]
      rw [show (1 : Int32) = nI 1 from rfl, nI_leI (by decide) (by omega)] at q
      omega
    · apply c2
      clear ref small I
      grind
    have xr : ¬ x < 0 ∧ ¬ 99 < x := ⟨c, by clear ref small I; grind⟩
    have n0 : 0 < l.length := by
      rw [show (1 : Int32) = nI 1 from rfl, nI_leI (by decide) (by omega)] at q
      omega
    have w1 := F1.wf w
    have o1 : isO h1 11 0 := w1.o (by decide) rfl
    refine ⟨o1, ?_⟩
    have nz : ¬ nI l.length = 0 := nI_ne0 n0 (by omega)
    -- the reference, with what it finds
    have big : ∀ v : Int32, (∀ r : Nat → Int32, (∀ k, k < l.length → gI h1 84 k = r k) → ((¬ (2 * x) < brd r 0 0 l.length ∧ v = 1) ∨ ((2 * x) < brd r 0 0 l.length ∧ ∃ s : Int32, ((s = 0 ∧ ¬ ∃ k, 1 ≤ k ∧ k < l.length ∧ jmp r (2 * x) l.length k) ∨ (s = 2 ∧ ∃ k, 1 ≤ k ∧ k < l.length ∧ jmp r (2 * x) l.length k)) ∧ (((∃ i, i < 101 ∧ dft r (2 * x) l.length i) ∧ v = s ||| 4) ∨ ((¬ ∃ i, i < 101 ∧ dft r (2 * x) l.length i) ∧ v = s))))) → Call mX12_causes [.ref 116, .int x] h1 (fun v2 h2 => v2 = some (.int v) ∧ (∃ z : Int32, some (Value.int v) = some (.int z)) ∧ ∃ j, Inv j h2) := fun v hv => by
      refine ref h1 F1 z2 (fun c => absurd xr c) (fun _ er2 => by rw [er] at er2; exact absurd er2 (by simp)) (fun _ l2 h3 er2 I3 R3 => ?_)
      rw [er] at er2
      have el : l = l2 := Option.some.inj er2
      subst el
      have rr : ∀ k, k < l.length → gI h1 84 k = gI h3 145 k := fun k hk => by
        have := List.getElem?_eq_getElem hk
        rw [R k _ this, R3 k _ this]
      have w3 := I3.1
      have fin : ∀ u : Int32, u = v → (some (Value.int u) = some (Value.int v)) ∧ (∃ z : Int32, some (Value.int v) = some (.int z)) ∧ ∃ j, Inv j h3 := fun u hu => ⟨by rw [hu], ⟨_, rfl⟩, j, I3⟩
      refine ⟨fun _ => c12_lev (a := 0) w3 n0 len ⟨_, rfl, fun q0 => ?_, fun q1 => ?_⟩, fun z => absurd z nz⟩
      · have lt : (2 * x) < brd (gI h3 145) 0 0 l.length := Classical.byContradiction (fun z => bi_0.mp q0 z)
        rcases hv _ rr with ⟨z, -⟩ | ⟨-, s, hs, hd⟩
        · exact absurd lt z
        refine m147 w3 len (fun y hy => ?_) (l.length - 1) 1 0 (by omega) (Nat.le_refl 1) (by decide) (Or.inl ⟨rfl, fun q h1 h2 => absurd h2 (by omega)⟩)
        have ys : y = s := by
          rcases hy with ⟨rfl, y2⟩ | ⟨rfl, y2⟩ <;> rcases hs with ⟨rfl, s2⟩ | ⟨rfl, s2⟩
          · rfl
          · exact absurd s2 y2
          · exact absurd y2 s2
          · rfl
        subst ys
        have h4 : y ||| 4 ||| 4 = y ||| 4 := by
          rcases hs with ⟨rfl, -⟩ | ⟨rfl, -⟩ <;> decide
        refine m191 w3 n0 len h4 (fun d => fin _ ?_) (fun d => fin _ ?_) 101 0 y rfl (Or.inl ⟨rfl, fun q hq => absurd hq (Nat.not_lt_zero q)⟩)
        · rcases hd with ⟨-, e⟩ | ⟨d2, -⟩
          · exact e.symm
          · exact absurd d d2
        · rcases hd with ⟨d2, -⟩ | ⟨-, e⟩
          · exact absurd d2 d
          · exact e.symm
      · have ge : ¬ (2 * x) < brd (gI h3 145) 0 0 l.length := Classical.byContradiction (fun z => q1 (bi_0.mpr z))
        rcases hv _ rr with ⟨-, e⟩ | ⟨z, -⟩
        · exact fin _ e.symm
        · exact absurd z ge
    have bc : ∀ {r : Nat → Int32}, (∀ k, k < l.length → gI h1 84 k = r k) → brd (gI h1 84) 0 0 l.length = brd r 0 0 l.length := fun hr => brd_c n0 hr
    refine Call.ofR (by decide +kernel) (Nat.le_of_ble_eq_true rfl) (sX11_causesOf_0 h1 0 _ _ ⟨o1, c11_brd (a := 0) w1 n0 len ⟨_, rfl, fun q2 => ⟨o1, ?_⟩, fun q2 => ⟨_, rfl, big _ (fun r hr => Or.inl ⟨by rw [← bc hr]; exact q2, rfl⟩)⟩⟩⟩)
    have dr : ∀ (z9 : Int32), ((z9 = 0 ∧ ¬ ∃ k, 1 ≤ k ∧ k < l.length ∧ jmp (gI h1 84) (2 * x) l.length k) ∨ (z9 = 2 ∧ ∃ k, 1 ≤ k ∧ k < l.length ∧ jmp (gI h1 84) (2 * x) l.length k)) → Call mX11_isDrift [.ref 0, .int (nI l.length), .int (2 * x)] h1 (fun v h11 => ∃ z12 : Int32, v = some (.int z12) ∧ (∀ z14 : Int32, z14 = (if z12 = 0 then z9 else (z9 ||| 4)) → ∃ z10 : Int32, some (Value.int z14) = some (.int z10) ∧ Call mX12_causes [.ref 116, .int x] h11 (fun v2 h2 => v2 = some (.int z10) ∧ (∃ z : Int32, some (Value.int z10) = some (.int z)) ∧ ∃ j, Inv j h2))) := fun z9 h9 => by
      refine c11_drift w1 n0 len (fun d => ⟨_, rfl, fun z14 h14 => ⟨_, rfl, big _ (fun r hr => Or.inr ⟨by rw [← bc hr]; exact q2, z9, ?_, Or.inl ⟨(dft_c n0 hr).mp d, ?_⟩⟩)⟩⟩) (fun d => ⟨_, rfl, fun z14 h14 => ⟨_, rfl, big _ (fun r hr => Or.inr ⟨by rw [← bc hr]; exact q2, z9, ?_, Or.inr ⟨fun z => d ((dft_c n0 hr).mpr z), ?_⟩⟩)⟩⟩)
      · rw [← jmp_c hr]; exact h9
      · rw [h14, if_neg (by decide)]
      · rw [← jmp_c hr]; exact h9
      · rw [h14, if_pos rfl]
    refine c11_jump w1 len (fun jp => ⟨_, rfl, fun z9 h9 => ⟨o1, dr z9 (Or.inr ⟨?_, jp⟩)⟩⟩) (fun jp => ⟨_, rfl, fun z9 h9 => ⟨o1, dr z9 (Or.inl ⟨?_, jp⟩)⟩⟩)
    · rw [h9, if_neg (by decide)]
    · rw [h9, if_pos rfl]
