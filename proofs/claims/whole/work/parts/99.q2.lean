/-! MAKING: boards, rows of boards, a job's first state -/
def qX0 (h : AH) (r n : Nat) : AH := sF (nw h n) r 0 n
theorem i_X0 {h : AH} {P : Option Value → AH → Prop} {r n : Nat} (hr : r < n) (hk0 : kd r = 0) (hn : h.1 = n) (hk : kd n = 101) (hl : ln n = 4) (k : P none (qX0 h r n)) : Call mX0_init [.ref r] h P := by
  refine Call.ofR (by decide +kernel) (Nat.le_of_ble_eq_true rfl) ?_
  refine R_aload_n (j := 0) (i := 0) (by decide +kernel) rfl 0 rfl ?_
  refine R_objInit (i := 3) (by decide +kernel) lmX0_3 w_oi1 w_oi2 (Nat.le_of_ble_eq_true rfl) (Nat.le_of_ble_eq_true rfl) (by omega) ?_
  refine R_aload_n (j := 0) (i := 0) (by decide +kernel) rfl 0 rfl ?_
  refine R_iconst (n := 4) (v := 4) (by decide +kernel) rfl ?_
  refine R_newL (n := n) (N := 4) (kc2 := 0) (ks2 := 0) (by decide +kernel) hn hk hl (by decide) rfl (by decide) rfl rfl ?_
  refine S0_0 (i := 11) (by decide +kernel) lfX0_11 ⟨rfl, rfl⟩ ⟨by show r < n + 1; omega, hk0⟩ ?_
  exact R_ret (by decide +kernel) rfl k
/-- a row of four boards from cell n on, i of them made -/
def qE (h : AH) (n : Nat) : Nat → AH
  | 0 => nw h n
  | i + 1 => sF (qX0 (nw (qE h n i) (n + 1 + 2 * i)) (n + 1 + 2 * i) (n + 2 + 2 * i)) n i (n + 1 + 2 * i)
theorem qE_1 (h : AH) (n : Nat) : ∀ i, (qE h n i).1 = n + 1 + 2 * i
  | 0 => rfl
  | i + 1 => by
    show n + 2 + 2 * i + 1 = _
    omega
def EK (n : Nat) : Prop := kd n = 103 ∧ ln n = 4 ∧ ∀ i, i < 4 → kd (n + 1 + 2 * i) = 0 ∧ kd (n + 2 + 2 * i) = 101 ∧ ln (n + 2 + 2 * i) = 4
theorem dv_X0 : ∀ k, k < 1 → ∃ t, (tgL.getD 0 [])[k]? = some t ∧ defaultValue (tyX0 k) = dv0 t := fun k hk => by
  have : k = 0 := by omega
  subst this
  exact ⟨2, rfl, rfl⟩
theorem i_E {h : AH} {P : Option Value → AH → Prop} {n : Nat} (E : EK n) (hn : h.1 = n) (k : P (some (.ref n)) (qE h n 4)) : Call mX0_emptyShapes [] h P := by
  have go : ∀ (m i : Nat), i + m = 4 → Rr mX0_emptyShapes (2 * m) (5 * m) 7 [(0, .ref n), (1, .int (nI i))] [] (qE h n i) P := by
    intro m
    induction m with
    | zero =>
      intro i e
      have : i = 4 := by omega
      subst this
      refine R_iload_n (j := 1) (i := 1) (by decide +kernel) rfl 1 rfl ?_
      refine R_iconst (n := 4) (v := 4) (by decide +kernel) rfl ?_
      refine R_icmp_ge (off := 19) (tgt := 28) (by decide +kernel) rfl (fun _ => ?_) (fun q => absurd (by decide) q)
      refine R_aload_n (j := 0) (i := 0) (by decide +kernel) rfl 0 rfl ?_
      exact R_aret (ty := .array (.object "FourInks$Board")) (by decide +kernel) rfl (Or.inr ⟨_, rfl⟩) k
    | succ m ih =>
      intro i e
      have K := E.2.2 i (by omega)
      refine R_iload_n (j := 1) (i := 1) (by decide +kernel) rfl 1 rfl ?_
      refine R_iconst (n := 4) (v := 4) (by decide +kernel) rfl ?_
      refine R_icmp_ge (off := 19) (tgt := 28) (by decide +kernel) rfl (fun q => absurd q ?_) (fun _ => ?_)
      · show ¬ nI 4 ≤ nI i
        rw [nI_leI (by omega) (by omega)]
        omega
      refine R_aload_n (j := 0) (i := 0) (by decide +kernel) rfl 0 rfl ?_
      refine R_iload_n (j := 1) (i := 1) (by decide +kernel) rfl 1 rfl ?_
      refine R_new (i := 9) (n := n + 1 + 2 * i) (kc2 := 1 + 2 * m) (ks2 := 4 + 5 * m) ok0 tyX0_ok dv_X0 (by decide +kernel) (tg1 75 (by decide +kernel) rfl) (tg1 77 (by decide +kernel) rfl) (tg1 5 (by decide +kernel) rfl) (qE_1 h n i) K.1 (by omega) (by omega) ?_
      refine R_dup (by decide +kernel) rfl ?_
      refine R_callI (N := mX0_init) (i := 15) (n := 0) (r := n + 1 + 2 * i) (as := []) (rest := [.ref (n + 1 + 2 * i), .int (nI i), .ref n]) (kc2 := 2 * m) (ks2 := 5 * m) (by decide +kernel) lmX0_15 oX0_init (Nat.le_of_ble_eq_true rfl) rfl rfl (Nat.le_of_ble_eq_true rfl) (by show 1 + 2 * m = _; omega) (by show 4 + 5 * m = _; omega) (by show n + 1 + 2 * i < n + 1 + 2 * i + 1; omega) ?_
      refine i_X0 (n := n + 2 + 2 * i) (by omega) K.1 (by show n + 1 + 2 * i + 1 = _; omega) K.2.1 K.2.2 ?_
      refine R_aastore (r := n) (v := n + 1 + 2 * i) (x := nI i) (by decide +kernel) ⟨by show n < n + 2 + 2 * i + 1; omega, E.1⟩ ⟨by show n + 1 + 2 * i < n + 2 + 2 * i + 1; omega, K.1⟩ (by rw [E.2.1]; exact vp_in_nI (by omega) (by decide)) ?_
      refine R_iinc (i := 1) (n := 1) (x := nI i) (v := nI (i + 1)) (ls2 := [(1, .int (nI (i + 1))), (0, .ref n)]) (by decide +kernel) 1 rfl (nI_1 i) (by decide) rfl ?_
      refine R_goto (off := -18) (tgt := 7) (by decide +kernel) rfl ?_
      have R := ih (i + 1) (by omega)
      rw [nI_clamp (by omega)]
      intro G p l e Rm s mm args below meth c H locs cells slots Q la X hp h1 h2 hr hl
      exact R G p l e Rm s mm args below meth c H locs cells slots Q la X hp h1 h2 hr (lv_sub hl [1, 0] rfl)
  refine Call.ofR (by decide +kernel) (Nat.le_of_ble_eq_true rfl) ?_
  refine R_iconst (n := 4) (v := 4) (by decide +kernel) rfl ?_
  refine R_newQ (i := 9) (n := n) (N := 4) (kc2 := 8) (ks2 := 20) (by decide +kernel) (tg1 75 (by decide +kernel) rfl) hn E.1 E.2.1 (by decide) rfl (by decide) rfl rfl ?_
  refine R_astore_n (j := 0) (i := 0) (ls2 := [(0, .ref n)]) (by decide +kernel) rfl (by decide) rfl ?_
  refine R_iconst (n := 0) (v := 0) (by decide +kernel) rfl ?_
  refine R_istore_n (j := 1) (i := 1) (ls2 := [(1, .int 0), (0, .ref n)]) (by decide +kernel) rfl (by decide) rfl ?_
  have R := go 4 0 rfl
  intro G p l e Rm s mm args below meth c H locs cells slots Q la X hp h1 h2 hr hl
  exact R G p l e Rm s mm args below meth c H locs cells slots Q la X hp h1 h2 hr (lv_sub hl [1, 0] rfl)
/-! a job forgets, while it is being made -/
def WJ (d : Nat) (h : AH) : Prop := d + 18 < h.1 ∧ (gF h d 7 = d + 3 ∧ gF h d 11 = d + 5 ∧ gF h d 14 = d + 14 ∧ gF h d 15 = d + 18) ∧ ∀ i, i < 4 → gF h (d + 5) i = d + 6 + 2 * i ∧ gF h (d + 6 + 2 * i) 0 = d + 7 + 2 * i
def fg1 (H : AH) (d : Nat) : AH := sI (sI (fillI (sI (sI (sI (sI (sI H d 0 0) d 1 100) d 2 100) d 3 0) d 6 1) (d + 3) 0 0) d 9 2) d 10 0
def fg2 (H : AH) (d : Nat) : Nat → AH
  | 0 => H
  | i + 1 => fillL (fg2 H d i) (d + 7 + 2 * i) 0 0
def fgt (H : AH) (d : Nat) : AH := fillI (sI (sI (sI (fg2 (fg1 H d) d 4) d 12 3) d 13 1) (d + 14) 0 0) (d + 18) 100 0
theorem fg2_WJ {H : AH} {d : Nat} (w : WJ d H) : ∀ i, WJ d (fg2 H d i)
  | 0 => w
  | i + 1 => fg2_WJ w i
theorem jkd {d : Nat} (hd : d = 4 ∨ d = 23) : kd d = 3 ∧ kd (d + 3) = 100 ∧ kd (d + 5) = 103 ∧ kd (d + 14) = 8 ∧ kd (d + 18) = 100 ∧ ∀ i, i < 4 → kd (d + 6 + 2 * i) = 0 ∧ kd (d + 7 + 2 * i) = 101 := by
  rcases hd with rfl | rfl
  · refine ⟨rfl, rfl, rfl, rfl, rfl, fun i hi => ?_⟩
    rcases (show i = 0 ∨ i = 1 ∨ i = 2 ∨ i = 3 by omega) with rfl | rfl | rfl | rfl <;> exact ⟨rfl, rfl⟩
  · refine ⟨rfl, rfl, rfl, rfl, rfl, fun i hi => ?_⟩
    rcases (show i = 0 ∨ i = 1 ∨ i = 2 ∨ i = 3 by omega) with rfl | rfl | rfl | rfl <;> exact ⟨rfl, rfl⟩
theorem i_forget {H : AH} {P : Option Value → AH → Prop} {d : Nat} (hd : d = 4 ∨ d = 23) (w : WJ d H) (k : P none (fgt H d)) : Call mX3_forget [.ref d] H P := by
  have kk := jkd hd
  have w1 : WJ d (fg1 H d) := w
  have go : ∀ (m i : Nat), i + m = 4 → Rr mX3_forget 0 0 47 [(0, .ref d), (1, .int (nI i))] [] (fg2 (fg1 H d) d i) P := by
    intro m
    induction m with
    | zero =>
      intro i e
      have : i = 4 := by omega
      subst this
      have w4 := fg2_WJ w1 4
      refine sX3_forget_47 _ d _ ⟨fun _ => ?_, fun q => absurd (by decide) q⟩
      rw [w4.2.1.2.2.1, w4.2.1.2.2.2]
      have l4 := w4.1
      exact ⟨⟨by omega, kk.1⟩, ⟨by omega, kk.2.2.2.1⟩, c_fillI ⟨by show d + 18 < (fg2 (fg1 H d) d 4).1; omega, kk.2.2.2.2.1⟩ ⟨rfl, k⟩⟩
    | succ m ih =>
      intro i e
      have wi := fg2_WJ w1 i
      have li := wi.1
      have B := wi.2.2 i (by omega)
      have KB := kk.2.2.2.2.2 i (by omega)
      refine sX3_forget_47 _ d _ ⟨fun q => absurd q ?_, fun _ => ?_⟩
      · show ¬ nI 4 ≤ nI i
        rw [nI_leI (by omega) (by omega)]
        omega
      have l4 : ln (d + 5) = 4 := (jl hd).2.2.2.2.1
      rw [wi.2.1.2.1, l4, nI_clamp (by omega), B.1]
      refine ⟨⟨by omega, kk.1⟩, ⟨by omega, kk.2.2.1⟩, vp_in_nI (by omega) (by decide), ⟨by omega, KB.1⟩, ?_⟩
      refine Call.ofR (by decide +kernel) (Nat.le_of_ble_eq_true rfl) (sX0_clear_0 _ _ ⟨⟨by omega, KB.1⟩, ?_⟩)
      rw [B.2]
      refine c_fillL ⟨by omega, KB.2⟩ ⟨rfl, rfl, ?_⟩
      rw [nI_1]
      exact ih (i + 1) (by omega)
  refine Call.ofR (by decide +kernel) (Nat.le_of_ble_eq_true rfl) (sX3_forget_0 H d ?_)
  have l0 := w.1
  rw [w.2.1.1]
  exact ⟨⟨by omega, kk.1⟩, c_fillI ⟨by show d + 3 < H.1; omega, kk.2.1⟩ ⟨rfl, ⟨by show d < H.1; omega, kk.1⟩, go 4 0 rfl⟩⟩
