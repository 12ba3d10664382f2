theorem c11_sumNeg {h : AH} {P : Option Value → AH → Prop} {a b c : Nat} {d : Int32} (hd : d < 0) (k2 : P (some (.int (-2))) h) : Call mX11_sumOf [.ref 0, .int (nI a), .int (nI b), .int (nI c), .int d] h P := by
  refine Call.ofR (by decide +kernel) (Nat.le_of_ble_eq_true rfl) (sX11_sumOf_0 h 0 _ _ _ _ ⟨fun _ => k2, fun _ => ⟨fun q => absurd hd ?_, fun _ => k2⟩⟩)
  grind
def tcode (i : Nat) : Nat := 1000 * (i / 16) + 100 * (i / 4 % 4) + 10 * (i % 4) + (6 - i / 16 - i / 4 % 4 - i % 4)
def tok (i : Nat) : Bool := decide (i / 16 + i / 4 % 4 + i % 4 ≤ 6) && prb (tcode i)
theorem TL_eq : ((List.range' 0 64).filter tok).map tcode = PL := by decide +kernel
theorem tc_dig {i : Nat} (hi : i < 64) (cd : i / 16 + i / 4 % 4 + i % 4 ≤ 6) : tcode i / 1000 = i / 16 ∧ tcode i / 100 % 10 = i / 4 % 4 ∧ tcode i / 10 % 10 = i % 4 ∧ tcode i % 10 = 6 - i / 16 - i / 4 % 4 - i % 4 := by
  have : ∀ i : Fin 64, i.val / 16 + i.val / 4 % 4 + i.val % 4 ≤ 6 → tcode i / 1000 = i / 16 ∧ tcode i / 100 % 10 = i / 4 % 4 ∧ tcode i / 10 % 10 = i % 4 ∧ tcode i % 10 = 6 - i / 16 - i / 4 % 4 - i % 4 := by decide +kernel
  exact this ⟨i, hi⟩ cd
def OH (h h2 : AH) (s : Int32 × Int32) : Prop := Fr [115] h h2 ∧ -1 ≤ s.2 ∧ (s.2 = -1 ∨ ∃ n : Nat, n < 3334 ∧ s.1 = nI n ∧ gI h2 115 0 = nI (n / 1000) ∧ gI h2 115 1 = nI (n / 100 % 10) ∧ gI h2 115 2 = nI (n / 10 % 10) ∧ gI h2 115 3 = nI (n % 10))
theorem fo_next {h : AH} {P : Option Value → AH → Prop} (g : Int32) {i : Nat} (hi : i < 64) (k1 : i + 1 = 64 → P (some (.int g)) h) (k2 : i + 1 < 64 → Rr mX11_findOrder 0 0 19 [(0, .ref 0), (1, .int g), (2, .int (nI ((i + 1) / 16))), (3, .int (nI ((i + 1) / 4 % 4))), (4, .int (nI ((i + 1) % 4)))] [] h P) :
    Rr mX11_findOrder 0 0 19 [(0, .ref 0), (1, .int g), (2, .int (nI (i / 16))), (3, .int (nI (i / 4 % 4))), (4, .int (nI (i % 4) + 1))] [] h P := by
  have e4 : (4 : Int32) = nI 4 := rfl
  by_cases c : i % 4 = 3
  rotate_left
  · have := k2 (by omega)
    rw [show (i + 1) / 16 = i / 16 by omega, show (i + 1) / 4 % 4 = i / 4 % 4 by omega, show (i + 1) % 4 = i % 4 + 1 by omega, nI_succ] at this
    exact this
  rw [c, show nI 3 + 1 = 4 from rfl]
  refine sX11_findOrder_19 h 0 g _ _ _ ⟨fun _ => ?_, fun q => absurd (by decide) q⟩
  by_cases c2 : i / 4 % 4 = 3
  rotate_left
  · have := k2 (by omega)
    rw [show (i + 1) / 16 = i / 16 by omega, show (i + 1) / 4 % 4 = i / 4 % 4 + 1 by omega, show (i + 1) % 4 = 0 by omega, nI_succ] at this
    refine sX11_findOrder_11 h 0 g _ _ ⟨fun q => absurd q ?_, fun _ => this⟩
    rw [← nI_succ, e4, nI_leI (by decide) (by omega)]
    omega
  rw [c2, show nI 3 + 1 = 4 from rfl]
  refine sX11_findOrder_11 h 0 g _ _ ⟨fun _ => ?_, fun q => absurd (by decide) q⟩
  rw [← nI_succ]
  by_cases c3 : i + 1 = 64
  · refine sX11_findOrder_4 h 0 g _ ⟨fun _ => k1 c3, fun q => absurd ?_ q⟩
    rw [e4, nI_leI (by decide) (by omega)]
    omega
  · have := k2 (by omega)
    rw [show (i + 1) / 16 = i / 16 + 1 by omega, show (i + 1) / 4 % 4 = 0 by omega, show (i + 1) % 4 = 0 by omega] at this
    refine sX11_findOrder_4 h 0 g _ ⟨fun q => absurd q ?_, fun _ => ?_⟩
    · rw [e4, nI_leI (by decide) (by omega)]
      omega
    · refine sX11_findOrder_11 h 0 g _ _ ⟨fun q => absurd q (by decide), fun _ => this⟩
theorem fo_loop {j : Nat} {h : AH} {P : Option Value → AH → Prop} (w : Wf h) (hj : gF h 0 2 = j) : ∀ (n i : Nat) (s : Int32 × Int32) (h2 : AH), i + n = 64 → 0 < n → OH h h2 s →
    (∀ s2 h3, s2 = (((List.range' i n).filter tok).map tcode).foldl (oup (gI h (j + 18))) s → OH h h3 s2 → P (some (.int s2.2)) h3) →
    Rr mX11_findOrder 0 0 19 [(0, .ref 0), (1, .int s.2), (2, .int (nI (i / 16))), (3, .int (nI (i / 4 % 4))), (4, .int (nI (i % 4)))] [] h2 P
  | 0, i, s, h2, hi, hn, ho, k => absurd hn (by decide)
  | n + 1, i, s, h2, hi, hn, ho, k => by
    have e4 : (4 : Int32) = nI 4 := rfl
    obtain ⟨F, ho1, ho2⟩ := id ho
    have w2 := F.wf w
    have hj2 : gF h2 0 2 = j := (F.2.1 0 2).trans hj
    have hr : List.range' i (n + 1) = i :: List.range' (i + 1) n := rfl
    rw [hr] at k
    have jb := jcase w hj
    have hl : ∀ x, gI h2 (j + 18) x = gI h (j + 18) x := fun x => F.I (by rcases jb with rfl | rfl <;> decide) x
    -- what comes next
    have nx : ∀ (s1 : Int32 × Int32) (h4 : AH), OH h h4 s1 → (∀ s2 h3, s2 = (((List.range' (i + 1) n).filter tok).map tcode).foldl (oup (gI h (j + 18))) s1 → OH h h3 s2 → P (some (.int s2.2)) h3) → Rr mX11_findOrder 0 0 19 [(0, .ref 0), (1, .int s1.2), (2, .int (nI (i / 16))), (3, .int (nI (i / 4 % 4))), (4, .int (nI (i % 4) + 1))] [] h4 P := by
      intro s1 h4 o1 kk
      refine fo_next s1.2 (by omega) (fun q => ?_) (fun q => fo_loop w hj n (i + 1) s1 h4 (by omega) (by omega) o1 kk)
      have e : n = 0 := by omega
      subst e
      exact kk s1 h4 rfl o1
    refine sX11_findOrder_19 h2 0 s.2 _ _ _ ⟨fun q => absurd q ?_, fun _ => ⟨w2.o (by decide) rfl, ?_⟩⟩
    · rw [e4, nI_leI (by decide) (by omega)]
      omega
    have skip : ¬ tok i = true → ∃ z4 : Int32, some (Value.int (-2)) = some (.int z4) ∧ ((z4 ≤ s.2 → Rr mX11_findOrder 0 0 19 [(0, .ref 0), (1, .int s.2), (2, .int (nI (i / 16))), (3, .int (nI (i / 4 % 4))), (4, .int (nI (i % 4) + 1))] [] h2 P) ∧ (z4 ≤ s.2)) := fun q => by
      refine ⟨_, rfl, fun _ => nx s h2 ho ?_, by grind⟩
      rw [List.filter_cons_of_neg q] at k
      exact k
    have e6 : (6 : Int32) = nI 6 := rfl
    by_cases cd : i / 16 + i / 4 % 4 + i % 4 ≤ 6
    rotate_left
    · refine c11_sumNeg ?_ ?_
      · have : ∀ a : Fin 64, ¬ a.val / 16 + a.val / 4 % 4 + a.val % 4 ≤ 6 → 6 - nI (a.val / 16) - nI (a.val / 4 % 4) - nI (a.val % 4) < 0 := by decide +kernel
        exact this ⟨i, by omega⟩ cd
      · obtain ⟨z, hz, a, b⟩ := skip (by unfold tok; simp [cd])
        exact ⟨z, hz, a, fun q => absurd b q⟩
    have ed : 6 - nI (i / 16) - nI (i / 4 % 4) - nI (i % 4) = nI (6 - i / 16 - i / 4 % 4 - i % 4) := by
      have : ∀ a : Fin 64, a.val / 16 + a.val / 4 % 4 + a.val % 4 ≤ 6 → 6 - nI (a.val / 16) - nI (a.val / 4 % 4) - nI (a.val % 4) = nI (6 - a.val / 16 - a.val / 4 % 4 - a.val % 4) := by decide +kernel
      exact this ⟨i, by omega⟩ cd
    rw [ed]
    obtain ⟨d1, d2, d3, d4⟩ := tc_dig (by omega) cd
    refine c11_sumOf w2 hj2 (by omega) (by omega) (by omega) (by omega) (fun q => ?_) (fun q => ?_)
    rotate_left
    · obtain ⟨z, hz, a, b⟩ := skip (by unfold tok; rw [Bool.and_eq_true, prb_iff, d1, d2, d3, d4]; exact fun z => q z.2)
      exact ⟨z, hz, a, fun q => absurd b q⟩
    have ht : tok i = true := by unfold tok; rw [Bool.and_eq_true, prb_iff, d1, d2, d3, d4]; exact ⟨decide_eq_true cd, q⟩
    rw [List.filter_cons_of_pos ht, List.map_cons, List.foldl_cons] at k
    rw [hl, hl, hl]
    have es : gI h (j + 18) (4 * (i / 16) + i / 4 % 4) + gI h (j + 18) (4 * (i / 4 % 4) + i % 4) + gI h (j + 18) (4 * (i % 4) + (6 - i / 16 - i / 4 % 4 - i % 4)) = sval (gI h (j + 18)) (tcode i) := by
      unfold sval
      rw [d1, d2, d3, d4]
      generalize gI h (j + 18) (4 * (i / 16) + i / 4 % 4) = A
      generalize gI h (j + 18) (4 * (i / 4 % 4) + i % 4) = B
      generalize gI h (j + 18) (4 * (i % 4) + (6 - i / 16 - i / 4 % 4 - i % 4)) = C
      clear k nx skip
      grind
    rw [es]
    refine ⟨_, rfl, fun c => ?_, fun c => ?_⟩
    · refine nx s h2 ho ?_
      have e : oup (gI h (j + 18)) s (tcode i) = s := if_neg (by clear k nx skip; grind)
      rw [e] at k
      exact k
    · have c2 : s.2 < sval (gI h (j + 18)) (tcode i) := by clear k nx skip; grind
      have e : oup (gI h (j + 18)) s (tcode i) = (nI (tcode i), sval (gI h (j + 18)) (tcode i)) := if_pos c2
      rw [e] at k
      rw [w2.f0_14]
      refine ⟨w2.o (by decide) rfl, w2.a (by decide) rfl, by show vp_in _ 4; rw [vin_4]; decide, by show vp_in _ 4; rw [vin_4]; decide, by show vp_in _ 4; rw [vin_4]; decide, by show vp_in _ 4; rw [vin_4]; decide, ?_⟩
      refine nx (nI (tcode i), sval (gI h (j + 18)) (tcode i)) _ ⟨((((F.tr (Fr.sI (by decide))).tr (Fr.sI (by decide))).tr (Fr.sI (by decide))).tr (Fr.sI (by decide))), by clear k nx skip; grind, Or.inr ⟨tcode i, by unfold tcode; omega, rfl, ?_⟩⟩ k
      rw [d1, d2, d3, d4]
      exact ⟨rfl, rfl, rfl, rfl⟩
theorem oup_mono (l : Nat → Int32) : ∀ (L : List Nat) (s : Int32 × Int32), s.2 ≤ (L.foldl (oup l) s).2
  | [], s => Int32.le_refl _
  | n :: L, s => by
    have := oup_mono l L (oup l s n)
    have e : s.2 ≤ (oup l s n).2 := by
      unfold oup
      split
      · rename_i c
        show s.2 ≤ sval l n
        grind
      · exact Int32.le_refl _
    exact Int32.le_trans e this
theorem oup_e (l l2 : Nat → Int32) (s : Int32 × Int32) (n : Nat) (e : sval l n = sval l2 n) : oup l s n = oup l2 s n := congrArg (fun v => if s.2 < v then (nI n, v) else s) e
theorem fold_congr {α β : Type} (f g : β → α → β) (L : List α) : ∀ (s : β), (∀ s, ∀ n ∈ L, f s n = g s n) → L.foldl f s = L.foldl g s := by
  induction L with
  | nil => intro s _; rfl
  | cons n L ih =>
    intro s hh
    rw [List.foldl_cons, List.foldl_cons, hh s n (List.mem_cons_self ..)]
    exact ih _ (fun s m hm => hh s m (List.mem_cons_of_mem _ hm))
theorem oup_congr (l l2 : Nat → Int32) (L : List Nat) (s : Int32 × Int32) (hh : ∀ n ∈ L, sval l n = sval l2 n) : L.foldl (oup l) s = L.foldl (oup l2) s :=
  fold_congr _ _ L s (fun s n hn => oup_e l l2 s n (hh n hn))
theorem PL_cons : PL = 123 :: PL.tail := rfl
theorem oup_first (l : Nat → Int32) (h0 : 0 ≤ sval l 123) : 0 ≤ (PL.foldl (oup l) (-1, -1)).2 := by
  have e : oup l (-1, -1) 123 = (nI 123, sval l 123) := if_pos (by show (-1 : Int32) < sval l 123; grind)
  rw [PL_cons, List.foldl_cons, e]
  exact Int32.le_trans h0 (oup_mono l PL.tail (nI 123, sval l 123))
theorem pr_order {j : Nat} {h : AH} (I : Inv j h) (x : Int32) : Pair mX11_order mX12_order [.int x] h := by
  have w := I.1
  obtain ⟨-, hj, -, -, ⟨-, ⟨-, -, -, -, jl⟩, -⟩, -, -, -, -, -⟩ := id I
  have jb := jcase w hj
  have hl : ∀ p q : Nat, p < 4 → q < 4 → p ≠ q → gI h (j + 18) (4 * p + q) = gI h 126 (4 * p + q) ∧ inr (gI h (j + 18) (4 * p + q)) 0 100 := fun p q hp hq hne => by
    have e := (jl (nI p) (nI q) (nI_pos' (by omega)) (nI_lt (b := 4) (by omega) (by decide)) (nI_pos' (by omega)) (nI_lt (b := 4) (by omega) (by decide))).1 (fun z => hne ((nI_eq (by omega) (by omega)).mp z))
    have e4 : (4 : Int32) = nI 4 := rfl
    rw [e4, pk_mul, nI_add, nI_clamp (by omega)] at e
    exact e
  have pp : ∀ n ∈ PL, prb n = true := by decide +kernel
  have sv : ∀ n ∈ PL, sval (gI h (j + 18)) n = sval (gI h 126) n := fun n hn => by
    have q := (prb_iff n).mp (pp n hn)
    unfold prm at q
    unfold sval
    rw [(hl _ _ (by omega) (by omega) (by omega)).1, (hl _ _ (by omega) (by omega) (by omega)).1, (hl _ _ (by omega) (by omega) (by omega)).1]
  have s0 : 0 ≤ sval (gI h (j + 18)) 123 := by
    have a := (hl 0 1 (by decide) (by decide) (by decide)).2
    have b := (hl 1 2 (by decide) (by decide) (by decide)).2
    have c := (hl 2 3 (by decide) (by decide) (by decide)).2
    unfold inr at a b c
    show 0 ≤ gI h (j + 18) (4 * 2 + 3) + gI h (j + 18) (4 * 1 + 2) + gI h (j + 18) (4 * 0 + 1)
    clear I jl hl sv pp
    grind
  by_cases hx : 0 ≤ x ∧ x ≤ 4
  rotate_left
  · have rf : Call mX12_order [.ref 116, .int x] h (fun v2 h2 => v2 = some (.int (-2)) ∧ (∃ z : Int32, some (Value.int (-2)) = some (.int z)) ∧ ∃ j, Inv j h2) :=
      c12_order w (fun _ => ⟨rfl, ⟨_, rfl⟩, j, I⟩) (fun q => absurd q hx)
    exact Call.ofR (by decide +kernel) (Nat.le_of_ble_eq_true rfl) (sX11_order_0 h 0 x ⟨fun _ => rf, fun _ => ⟨fun _ => absurd (by clear I jl hl sv rf; grind) hx, fun _ => rf⟩⟩)
  refine Call.ofR (by decide +kernel) (Nat.le_of_ble_eq_true rfl) (sX11_order_0 h 0 x ⟨fun c => absurd hx.1 (by clear I jl hl sv; grind), fun _ => ⟨fun _ => ⟨w.o (by decide) rfl, ?_⟩, fun c => absurd hx.2 c⟩⟩)
  refine Call.ofR (by decide +kernel) (Nat.le_of_ble_eq_true rfl) (sX11_findOrder_0 h 0 ?_)
  refine sX11_findOrder_4 h 0 _ _ ⟨fun c => absurd c (by decide), fun _ => sX11_findOrder_11 h 0 _ _ _ ⟨fun c => absurd c (by decide), fun _ => ?_⟩⟩
  refine fo_loop w hj 64 0 (-1, -1) h rfl (by decide) ⟨Fr.rf, by decide, Or.inl rfl⟩ (fun s h2 hs ho => ?_)
  rw [TL_eq] at hs
  obtain ⟨F, -, hn⟩ := ho
  have w2 := F.wf w
  have I2 : Inv j h2 := inv_keep I F (by rcases jb with rfl | rfl <;> decide) (fun q hq => F.I (by clear I jl hl sv; revert q; decide) _)
  have hs0 : 0 ≤ s.2 := by
    rw [hs]
    exact oup_first _ s0
  rcases hn with hn | ⟨n, hn, e1, r0, r1, r2, r3⟩
  · rw [hn] at hs0
    exact absurd hs0 (by decide)
  refine ⟨_, rfl, w2.o (by decide) rfl, ?_⟩
  rw [w2.f0_14]
  refine ⟨w2.a (by decide) rfl, fun c => by show vp_in _ 4; rw [vin_4]; clear I I2 jl hl sv; grind, fun z hz => ?_⟩
  refine c12_order w2 (fun c => absurd hx c) (fun _ t ht => ⟨?_, ⟨_, rfl⟩, j, I2⟩)
  have e126 : gI h2 126 = gI h 126 := (F.2.2 126 (by decide)).1
  rw [e126, ← oup_congr _ _ _ _ sv, ← hs] at ht
  subst ht
  rw [hz, e1]
  have e10 : (10 : Int32) = nI 10 := rfl
  have hq : x = 0 ∨ x = 1 ∨ x = 2 ∨ x = 3 ∨ x = 4 := by clear I I2 jl hl sv hz; grind
  rw [e10, nI_div (by omega) (by decide) (by decide), nI_div (by omega) (by decide) (by decide), nI_div (by omega) (by decide) (by decide), nI_mod (by omega) (by decide) (by decide), nI_mod (by omega) (by decide) (by decide), nI_mod (by omega) (by decide) (by decide), nI_mod (by omega) (by decide) (by decide), show n / 10 / 10 / 10 % 10 = n / 1000 by omega, show n / 10 / 10 % 10 = n / 100 % 10 by omega]
  rcases hq with rfl | rfl | rfl | rfl | rfl
  · rfl
  · show _ = some (Value.int (gI h2 115 0))
    rw [r0]
    rfl
  · show _ = some (Value.int (gI h2 115 1))
    rw [r1]
    rfl
  · show _ = some (Value.int (gI h2 115 2))
    rw [r2]
    rfl
  · show _ = some (Value.int (gI h2 115 3))
    rw [r3]
    rfl
