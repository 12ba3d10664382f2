/-- the reference takes the same layers -/
theorem t394 {h : AH} {P : Option Value → AH → Prop} (w : Wf h) {my : Nat → Nat → Bool} {lo hi : Nat → Nat} {n : Nat} (hz : FZ lo hi n) (n20 : n ≤ 20) (hmay : ∀ z l, z < n → l < 10 → (my z l = true ↔ lo z ≤ l ∧ l ≤ hi z)) (B : BR h my n 0) {x6 : Int32} (kk : ∀ h3, Fr [147] h h3 → (∀ z, z < n → gI h3 147 z = nI (chs lo hi n (z + 1))) → P (some (.int (x6 / 1000))) (sI h3 116 55 (nI n))) : ∀ (r z : Nat) (h2 : AH), z + r = n → Fr [147] h h2 → (∀ q, q < z → gI h2 147 q = nI (chs lo hi n (q + 1))) → Rr mX12_tissue 0 0 394 [(0, .ref 116), (4, .int (nI n)), (5, .int (nI (chs lo hi n z))), (6, .int x6), (7, .int (nI (Vw lo hi n (n - z) (chs lo hi n z)))), (8, .int (nI z))] [] h2 P := by
  intro r
  induction r with
  | zero =>
    intro z h2 hr F e
    have en : z = n := by omega
    subst en
    exact sX12_tissue_394 h2 116 _ _ _ _ _ ⟨fun _ => ⟨(F.wf w).o (by decide) rfl, kk h2 F e⟩, fun q => absurd (Int32.le_refl _) q⟩
  | succ r ih =>
    intro z h2 hr F e
    have w2 := F.wf w
    have hm : n - 1 - z < n := by omega
    have zz : n - 1 - (n - 1 - z) = z := by omega
    have nz : n - z = (n - 1 - z) + 1 := by omega
    have gk := Gt_ok hz n20 hmay (n - 1 - z) hm
    rw [zz] at gk
    have br := bly_r (m := n - 1 - z) (a := chs lo hi n z) hz hm
    rw [zz] at br
    have fz := hz z (by omega)
    have ss := lt1_s (fw (Vw lo hi n (n - 1 - z)) (chs lo hi n z)) (lo z) (hi z - lo z)
    have eb : lt1 (fw (Vw lo hi n (n - 1 - z)) (chs lo hi n z)) (lo z) (hi z - lo z) = chs lo hi n (z + 1) := by
      show _ = lt1 (fw (Vw lo hi n (n - 1 - z)) (chs lo hi n z)) (lo (n - 1 - (n - 1 - z))) (hi (n - 1 - (n - 1 - z)) - lo (n - 1 - (n - 1 - z)))
      rw [zz]
    rw [eb] at ss
    have eV : Vw lo hi n (n - z) (chs lo hi n z) = fw (Vw lo hi n (n - 1 - z)) (chs lo hi n z) (chs lo hi n (z + 1)) := by
      rw [nz, Vw_s]
      rfl
    have vl := Vw_le hz (n - z) (chs lo hi n z) (by omega)
    have vl2 := Vw_le hz (n - 1 - z) (chs lo hi n (z + 1)) (by omega)
    have c10 := chs_lt hz z (by omega)
    have c11 := chs_lt hz (z + 1) (by omega)
    have cb : lo z ≤ chs lo hi n (z + 1) ∧ chs lo hi n (z + 1) ≤ hi z := ⟨ss.1, by have := ss.2.1; omega⟩
    refine sX12_tissue_394 h2 116 _ _ _ _ _ ⟨fun q => absurd q ?_, fun _ => ?_⟩
    · rw [nI_leI (by omega) (by omega)]
      omega
    -- the number of layers is looked for
    have lp : ∀ (s l : Nat), l + s = chs lo hi n (z + 1) → Rr mX12_tissue 0 0 404 [(0, .ref 116), (4, .int (nI n)), (5, .int (nI (chs lo hi n z))), (6, .int x6), (7, .int (nI (Vw lo hi n (n - z) (chs lo hi n z)))), (8, .int (nI z)), (9, .int (nI l))] [] h2 P := by
      intro s
      have pre : ∀ l, l < 10 → ∀ z2 : Int32, z2 = (if nI l ≤ nI (chs lo hi n z) then 0 else (1000 * (nI l - nI (chs lo hi n z)))) → z2 + gI h2 148 (10 * z + l) = nI (cst (chs lo hi n z) l + Gt my n (n - 1 - z) l) := fun l hl z2 h2' => by
        have bz := B z (Nat.zero_le z) (by omega) l hl
        rw [F.I (by decide), bz, h2']
        by_cases c : l ≤ chs lo hi n z
        · rw [if_pos (by rw [nI_leI (by omega) (by omega)]; exact c), Int32.zero_add]
          unfold cst
          rw [show l - chs lo hi n z = 0 by omega, Nat.mul_zero, Nat.zero_add]
        · rw [if_neg (by rw [nI_leI (by omega) (by omega)]; exact c), nsub (by omega), show (1000 : Int32) = nI 1000 from rfl, pk_mul, nI_add]
          rfl
      have gh : ∀ l, l < 10 → cst (chs lo hi n z) l + Gt my n (n - 1 - z) l < 2 ^ 31 := fun l hl => by
        have := Gt_hi (may := my) (n := n) (m := n - 1 - z) (l := l)
        unfold cst
        omega
      induction s with
      | zero =>
        intro l hl
        have el : l = chs lo hi n (z + 1) := by omega
        subst el
        refine sX12_tissue_404 h2 116 _ _ _ _ _ _ (fun z2 h2' => ?_)
        rw [w2.f116_56, w2.f116_57, i10, nI_clamp (by omega), nI_clamp (by omega), pre _ c11 z2 h2', (gk _ c11).1 cb]
        have e1 : cst (chs lo hi n z) (chs lo hi n (z + 1)) + (chs lo hi n (z + 1) + Vw lo hi n (n - 1 - z) (chs lo hi n (z + 1))) = Vw lo hi n (n - z) (chs lo hi n z) := by
          rw [eV]
          unfold fw
          omega
        rw [e1]
        refine ⟨w2.o (by decide) rfl, w2.a (by decide) rfl, in210 (by omega), fun _ => ⟨w2.a (by decide) rfl, vp_in_nI (show z < 20 by omega) (by decide), ?_⟩, fun q => absurd rfl q⟩
        have bz := B z (Nat.zero_le z) (by omega) (chs lo hi n (z + 1)) c11
        rw [rd_r (r2 := 148) (by decide), F.I (r := 148) (by decide), bz, (gk _ c11).1 cb, nsub (Nat.le_add_right _ _), Nat.add_sub_cancel_left, nI_1]
        have go := ih (z + 1) (sI h2 147 z (nI (chs lo hi n (z + 1)))) (by omega) (F.tr (Fr.sI (by decide))) (fun q hq => by
          by_cases c : q = z
          · subst c
            exact rd_h
          · exact (rd_k c).trans (e q (by omega)))
        rw [show n - (z + 1) = n - 1 - z by omega] at go
        exact go
      | succ s ih2 =>
        intro l hl
        have l10 : l < 10 := by omega
        refine sX12_tissue_404 h2 116 _ _ _ _ _ _ (fun z2 h2' => ?_)
        rw [w2.f116_57, i10, nI_clamp (by omega), pre _ l10 z2 h2', nI_1 l]
        refine ⟨w2.o (by decide) rfl, w2.a (by decide) rfl, in210 (by omega), fun q => ?_, fun _ => ih2 (l + 1) (by omega)⟩
        exfalso
        rw [nI_eq (gh l l10) (by omega)] at q
        by_cases c : lo z ≤ l ∧ l ≤ hi z
        · rw [(gk l l10).1 c, eV] at q
          have := ss.2.2.2 l c.1 (by omega)
          unfold fw at q this
          omega
        · rw [(gk l l10).2 c] at q
          omega
    exact lp (chs lo hi n (z + 1)) 0 (Nat.zero_add _)
theorem ti40 {h : AH} {P : Option Value → AH → Prop} (w : Wf h) {L p0 : Nat} (hL : L ≤ 900) (hb : ByOK h L) {x1 x2 x3 : Int32} (kN : ∀ h3, SK h h3 145 → rowf (gI h 117) L 0 99 20 p0 = none → P (some (.int (-1))) h3) (kS : ∀ h3 l, SK h h3 145 → rowf (gI h 117) L 0 99 20 p0 = some l → RL h3 145 l → (¬ nI l.length = 0 → Rr mX12_tissue 0 0 105 [(0, .ref 116), (1, .int x1), (2, .int x2), (3, .int x3), (4, .int (nI l.length)), (5, .int 0)] [] h3 P) ∧ (nI l.length = 0 → P (some (.int (-1))) h3)) : ∀ (c p : Nat) (acc : List Int32) (h2 : AH), acc.length + c = 20 → p ≤ L → SK h h2 145 → MAt h2 L p (gI h 117) → RL h2 145 acc → rowf (gI h 117) L 0 99 20 p0 = (rowf (gI h 117) L 0 99 c p).map (fun l => acc ++ l) → Rr mX12_tissue 0 0 40 [(0, .ref 116), (1, .int x1), (2, .int x2), (3, .int x3), (4, .int (nI acc.length))] [] h2 P := by
  intro c
  induction c with
  | zero =>
    intro p acc h2 hc hp S A R er
    have w2 := S.1.wf w
    have e20 : nI acc.length = 20 := by rw [show acc.length = 20 by omega]; rfl
    have r0 : rowf (gI h 117) L 0 99 0 p = if tk (gI h 117) L p = 0 then some [] else none := rfl
    rw [r0] at er
    obtain ⟨m2, m4, m5, -, -⟩ := ms_2 (gI h 117) L p
    have nn : ¬ tk (gI h 117) L p = 0 → rowf (gI h 117) L 0 99 20 p0 = none := fun z => by rw [er, if_neg z]; rfl
    refine sX12_tissue_40 h2 116 _ _ _ _ ?_
    rw [A.2.1]
    refine ⟨w2.o (by decide) rfl, fun c2 => ⟨fun c5 => kN h2 S (nn (fun z => c5 (m5.mpr z))), fun c5 => ?_⟩, fun c2 => ?_⟩
    · rw [if_pos (m5.mp c5)] at er
      have er2 : rowf (gI h 117) L 0 99 20 p0 = some acc := by
        rw [er]
        show some (acc ++ []) = some acc
        rw [List.append_nil]
      exact kS h2 acc S er2 R
    · have n2 := kN h2 S (nn (by rw [m2.mp c2]; decide))
      exact ⟨fun _ => n2, fun _ => ⟨fun q => absurd e20 q, fun _ => n2⟩⟩
  | succ c ih =>
    intro p acc h2 hc hp S A R er
    have w2 := S.1.wf w
    have e20 : ¬ nI acc.length = 20 := by
      rw [show (20 : Int32) = nI 20 from rfl, nI_eq (by omega) (by decide)]
      omega
    have r0 : rowf (gI h 117) L 0 99 (c + 1) p = if tk (gI h 117) L p = 0 then some [] else if ¬ (0 : Int32) = 0 ∧ tk (gI h 117) L p = 4 then (if tk (gI h 117) L (te (gI h 117) L p) = 2 ∧ ¬ 99 < val (gI h 117) L (te (gI h 117) L p) then (rowf (gI h 117) L 0 99 c (te (gI h 117) L (te (gI h 117) L p))).map (fun l => -(val (gI h 117) L (te (gI h 117) L p)) :: l) else none) else if tk (gI h 117) L p = 2 ∧ ¬ 99 < val (gI h 117) L p then (rowf (gI h 117) L 0 99 c (te (gI h 117) L p)).map (fun l => val (gI h 117) L p :: l) else none := rfl
    rw [r0] at er
    obtain ⟨m2, m4, m5, -, -⟩ := ms_2 (gI h 117) L p
    have b7 : ∀ {h4 : AH}, SK h h4 145 → gI h4 117 = gI h 117 := fun {h4} S4 => (S4.1.2.2 117 (by decide)).1
    have tr := te_rng (b := gI h 117) hp
    have no4 : ¬ (¬ (0 : Int32) = 0 ∧ tk (gI h 117) L p = 4) := fun z => z.1 rfl
    refine sX12_tissue_40 h2 116 _ _ _ _ ?_
    rw [A.2.1]
    refine ⟨w2.o (by decide) rfl, fun c2 => ⟨fun c5 => kN h2 S ?_, fun c5 => ?_⟩, fun c2 => ?_⟩
    · rw [er, if_neg (fun z => c5 (m5.mpr z)), if_neg no4, if_neg (fun z => c2 (m2.mpr z.1))]
      rfl
    · rw [if_pos (m5.mp c5)] at er
      have er2 : rowf (gI h 117) L 0 99 20 p0 = some acc := by
        rw [er]
        show some (acc ++ []) = some acc
        rw [List.append_nil]
      exact kS h2 acc S er2 R
    · have t2 := m2.mp c2
      rw [if_neg (by rw [t2]; decide), if_neg no4] at er
      rw [A.2.2.2.2.2 t2]
      refine ⟨fun q => kN h2 S ?_, fun q => ⟨fun _ => ?_, fun q2 => absurd q2 e20⟩⟩
      · rw [er, if_neg (fun z => z.2 q)]
        rfl
      · rw [w2.f116_53, nI_clamp (by omega), nI_1]
        refine ⟨w2.a (by decide) rfl, vp_in_nI (show acc.length < 24 by omega) (by decide), ?_⟩
        rw [if_pos ⟨t2, q⟩, map_app] at er
        have F4 : Fr [145] h2 (sI h2 145 acc.length (val (gI h 117) L p)) := Fr.sI (by decide)
        have S4 : SK h (sI h2 145 acc.length (val (gI h 117) L p)) 145 := ⟨S.1.tr (F4.sub (by decide)), (F4.I (by decide) 1).trans S.2.1, fun x hx => (F4.I (by decide) x).trans (S.2.2 x hx)⟩
        refine c12_on (S4.1.wf w) hL hp (by rw [b7 S4]; exact A.ag (F4.2.2 116 (by decide)).1) (fun x hx => by rw [b7 S4]; exact hb x hx) (fun h5 F5 ez A5 => ⟨rfl, ?_⟩)
        rw [b7 S4] at A5
        have S5 : SK h h5 145 := ⟨S4.1.tr (F5.sub (by decide)), (ez 1 (by decide) (by decide) (by decide) (by decide) (by decide)).trans S4.2.1, fun x hx => (ez x (by omega) (by omega) (by omega) (by omega) (by omega)).trans (S4.2.2 x hx)⟩
        have R5 : RL h5 145 (acc ++ [val (gI h 117) L p]) := R.push _ (fun i hi => by rw [F5.I (by decide), rd_k hi]) (by rw [F5.I (by decide), rd_h])
        have go := ih (te (gI h 117) L p) (acc ++ [val (gI h 117) L p]) h5 (by rw [List.length_append]; show acc.length + 1 + c = 20; omega) tr.2 S5 A5 R5 er
        rw [List.length_append] at go
        exact go
