def imin (a b : Int32) : Int32 := if b < a then b else a
def imax (a b : Int32) : Int32 := if a < b then b else a
def iabs (a : Int32) : Int32 := if 0 ≤ a then a else 0 - a
def lmin (a b : Int64) : Int64 := if b < a then b else a
theorem w_mmax : Cond.code Lib.Math.max.name Lib.Math.max.code 2 (some .int) ∈ TBG := (tg4 116 (by decide +kernel) rfl)
theorem w_mmin : Cond.code Lib.Math.min.name Lib.Math.min.code 2 (some .int) ∈ TBG := (tg4 119 (by decide +kernel) rfl)
theorem w_mabs : Cond.code Lib.Math.abs.name Lib.Math.abs.code 1 (some .int) ∈ TBG := (tg4 166 (by decide +kernel) rfl)
theorem w_mminL : Cond.code Lib.MathLoose.min_long.x Lib.MathLoose.min_long.code 4 (some .long) ∈ TBG := (tg5 141 (by decide +kernel) rfl)
section MATHR
variable {M : MI} {kc ks pc : Nat} {ls : List (Nat × Value)} {st : List Value} {h : AH} {P : Option Value → AH → Prop}
theorem R_mmax {i : Nat} {x y : Int32} (hd : decode M.2.1 pc = .ok (.invokestatic i, 3)) (hw : Cond.methodLink M.1.cls i yJ9_max_7cf53 ∈ TBG) (hrk : 1 ≤ M.2.2.2.2.1) (hrest : (st.map fun v => v.category).sum ≤ 8) (kk : Rr M kc ks (pc + 3) ls (.int (imax x y) :: st) h P) : Rr M kc ks pc ls (.int y :: .int x :: st) h P := by
  intro G p l e Rm s m args below meth c H locs cells slots Q la X hp h1 h2 hr hl
  have q1 := X.2.2.2.2.2.2.2.2.1
  have q2 := X.2.2.2.2.2.2.2.2.2.1
  have q3 := tv_cats G st
  refine va_mmax X.1 X.2.1 (by rw [X.2.2.2.1]; exact hl.1.symm) X.2.2.2.2.1 (X.2.2.2.2.2.1 _ hw) (X.2.2.2.2.2.1 _ (oJ9_max_7cf53).2) (X.2.2.2.2.2.1 _ (oJ9_max_7cf53).1.2.1) (X.2.2.2.2.2.1 _ w_mmax) (by omega) (by omega) (by omega) (by omega) hd ?_
  have h9 := kk G p l e Rm s m args below meth c H locs cells slots Q la X hp h1 h2 hr hl
  exact h9
theorem R_mmin {i : Nat} {x y : Int32} (hd : decode M.2.1 pc = .ok (.invokestatic i, 3)) (hw : Cond.methodLink M.1.cls i yJ9_min_7cf53 ∈ TBG) (hrk : 1 ≤ M.2.2.2.2.1) (hrest : (st.map fun v => v.category).sum ≤ 8) (kk : Rr M kc ks (pc + 3) ls (.int (imin x y) :: st) h P) : Rr M kc ks pc ls (.int y :: .int x :: st) h P := by
  intro G p l e Rm s m args below meth c H locs cells slots Q la X hp h1 h2 hr hl
  have q1 := X.2.2.2.2.2.2.2.2.1
  have q2 := X.2.2.2.2.2.2.2.2.2.1
  have q3 := tv_cats G st
  refine va_mmin X.1 X.2.1 (by rw [X.2.2.2.1]; exact hl.1.symm) X.2.2.2.2.1 (X.2.2.2.2.2.1 _ hw) (X.2.2.2.2.2.1 _ (oJ9_min_7cf53).2) (X.2.2.2.2.2.1 _ (oJ9_min_7cf53).1.2.1) (X.2.2.2.2.2.1 _ w_mmin) (by omega) (by omega) (by omega) (by omega) hd ?_
  have h9 := kk G p l e Rm s m args below meth c H locs cells slots Q la X hp h1 h2 hr hl
  exact h9
theorem R_mabs {i : Nat} {x : Int32} (hd : decode M.2.1 pc = .ok (.invokestatic i, 3)) (hw : Cond.methodLink M.1.cls i yJ9_abs_0f7a4 ∈ TBG) (hrk : 1 ≤ M.2.2.2.2.1) (hrest : (st.map fun v => v.category).sum ≤ 8) (kk : Rr M kc ks (pc + 3) ls (.int (iabs x) :: st) h P) : Rr M kc ks pc ls (.int x :: st) h P := by
  intro G p l e Rm s m args below meth c H locs cells slots Q la X hp h1 h2 hr hl
  have q1 := X.2.2.2.2.2.2.2.2.1
  have q2 := X.2.2.2.2.2.2.2.2.2.1
  have q3 := tv_cats G st
  refine va_mabs X.1 X.2.1 (by rw [X.2.2.2.1]; exact hl.1.symm) X.2.2.2.2.1 (X.2.2.2.2.2.1 _ hw) (X.2.2.2.2.2.1 _ (oJ9_abs_0f7a4).2) (X.2.2.2.2.2.1 _ (oJ9_abs_0f7a4).1.2.1) (X.2.2.2.2.2.1 _ w_mabs) (by omega) (by omega) (by omega) (by omega) hd ?_
  have h9 := kk G p l e Rm s m args below meth c H locs cells slots Q la X hp h1 h2 hr hl
  exact h9
theorem R_mminL {i : Nat} {x y : Int64} (hd : decode M.2.1 pc = .ok (.invokestatic i, 3)) (hw : Cond.methodLink M.1.cls i yJ9_min_f86c9 ∈ TBG) (hrk : 1 ≤ M.2.2.2.2.1) (hrest : (st.map fun v => v.category).sum ≤ 8) (kk : Rr M kc ks (pc + 3) ls (.long (lmin x y) :: st) h P) : Rr M kc ks pc ls (.long y :: .long x :: st) h P := by
  intro G p l e Rm s m args below meth c H locs cells slots Q la X hp h1 h2 hr hl
  have q1 := X.2.2.2.2.2.2.2.2.1
  have q2 := X.2.2.2.2.2.2.2.2.2.1
  have q3 := tv_cats G st
  refine va_mmin_long X.1 X.2.1 (by rw [X.2.2.2.1]; exact hl.1.symm) X.2.2.2.2.1 (X.2.2.2.2.2.1 _ hw) (X.2.2.2.2.2.1 _ (oJ9_min_f86c9).2) (X.2.2.2.2.2.1 _ (oJ9_min_f86c9).1.2.1) (X.2.2.2.2.2.1 _ w_mminL) (by omega) (by omega) (by omega) (by omega) hd ?_
  have h9 := kk G p l e Rm s m args below meth c H locs cells slots Q la X hp h1 h2 hr hl
  exact h9
end MATHR
theorem lcmp_gt (a b : Int64) : (0 < lg_cmp a b) ↔ b < a := by
  unfold lg_cmp
  by_cases h1 : a > b
  · rw [if_pos h1]
    exact ⟨fun _ => h1, fun _ => by decide⟩
  · rw [if_neg h1]
    have h2 : ¬ b < a := h1
    by_cases h3 : a = b
    · rw [if_pos h3]
      exact ⟨fun q => absurd q (by decide), fun q => absurd q h2⟩
    · rw [if_neg h3]
      exact ⟨fun q => absurd q (by decide), fun q => absurd q h2⟩
theorem ah_ext {h h2 : AH} (h1 : h.1 = h2.1) (hI : ∀ r k, gI h r k = gI h2 r k) (hL : ∀ r k, gL h r k = gL h2 r k) (hF : ∀ r k, gF h r k = gF h2 r k) : h = h2 := by
  obtain ⟨n, i, l, f⟩ := h
  obtain ⟨n2, i2, l2, f2⟩ := h2
  have e1 : n = n2 := h1
  have e2 : i = i2 := funext fun r => funext fun k => hI r k
  have e3 : l = l2 := funext fun r => funext fun k => hL r k
  have e4 : f = f2 := funext fun r => funext fun k => hF r k
  rw [e1, e2, e3, e4]
theorem gI_sI' (h : AH) (r k : Nat) (x : Int32) (r2 k2 : Nat) : gI (sI h r k x) r2 k2 = if r2 = r ∧ k2 = k then x else gI h r2 k2 := rfl
theorem gL_sI (h : AH) (r k : Nat) (x : Int32) (r2 k2 : Nat) : gL (sI h r k x) r2 k2 = gL h r2 k2 := rfl
theorem gF_sI (h : AH) (r k : Nat) (x : Int32) (r2 k2 : Nat) : gF (sI h r k x) r2 k2 = gF h r2 k2 := rfl
theorem gI_sL (h : AH) (r k : Nat) (x : Int64) (r2 k2 : Nat) : gI (sL h r k x) r2 k2 = gI h r2 k2 := rfl
theorem gL_sL' (h : AH) (r k : Nat) (x : Int64) (r2 k2 : Nat) : gL (sL h r k x) r2 k2 = if r2 = r ∧ k2 = k then x else gL h r2 k2 := rfl
theorem gF_sL (h : AH) (r k : Nat) (x : Int64) (r2 k2 : Nat) : gF (sL h r k x) r2 k2 = gF h r2 k2 := rfl
theorem gI_sF (h : AH) (r k : Nat) (x : Nat) (r2 k2 : Nat) : gI (sF h r k x) r2 k2 = gI h r2 k2 := rfl
theorem gL_sF (h : AH) (r k : Nat) (x : Nat) (r2 k2 : Nat) : gL (sF h r k x) r2 k2 = gL h r2 k2 := rfl
theorem gF_sF (h : AH) (r k : Nat) (x : Nat) (r2 k2 : Nat) : gF (sF h r k x) r2 k2 = if r2 = r ∧ k2 = k then x else gF h r2 k2 := rfl
theorem gI_rI (h : AH) (r : Nat) (g : Nat → Int32) (r2 k2 : Nat) : gI (rI h r g) r2 k2 = if r2 = r then g k2 else gI h r2 k2 := by
  simp only [gI, rI, up1]
  by_cases e : r2 = r
  · simp [e]
  · simp [e]
theorem gL_rI (h : AH) (r : Nat) (g : Nat → Int32) (r2 k2 : Nat) : gL (rI h r g) r2 k2 = gL h r2 k2 := rfl
theorem gF_rI (h : AH) (r : Nat) (g : Nat → Int32) (r2 k2 : Nat) : gF (rI h r g) r2 k2 = gF h r2 k2 := rfl
theorem gI_rL (h : AH) (r : Nat) (g : Nat → Int64) (r2 k2 : Nat) : gI (rL h r g) r2 k2 = gI h r2 k2 := rfl
theorem gL_rL (h : AH) (r : Nat) (g : Nat → Int64) (r2 k2 : Nat) : gL (rL h r g) r2 k2 = if r2 = r then g k2 else gL h r2 k2 := by
  simp only [gL, rL, up1]
  by_cases e : r2 = r
  · simp [e]
  · simp [e]
theorem gF_rL (h : AH) (r : Nat) (g : Nat → Int64) (r2 k2 : Nat) : gF (rL h r g) r2 k2 = gF h r2 k2 := rfl
def fillI (h : AH) (r : Nat) (x : Int32) (i : Nat) : AH := rI h r (fun k => if i ≤ k ∧ k < ln r then x else gI h r k)
def fillL (h : AH) (r : Nat) (x : Int64) (i : Nat) : AH := rL h r (fun k => if i ≤ k ∧ k < ln r then x else gL h r k)
theorem ln_lt (r : Nat) : ln r < 1000 := by
  unfold ln
  by_cases hr : r < SH.length
  · have hall : ∀ i, i < SH.length → (SH.getD i (99, 0)).2 < 1000 := by decide +kernel
    exact hall r hr
  · rw [List.getD_eq_getElem?_getD, List.getElem?_eq_none (by omega)]
    decide
theorem fillI_step (h : AH) (r : Nat) (x : Int32) {i : Nat} (hi : i < ln r) : fillI (sI h r i x) r x (i + 1) = fillI h r x i := by
  refine ah_ext rfl (fun r2 k => ?_) (fun _ _ => rfl) (fun _ _ => rfl)
  simp only [fillI, gI_rI, gI_sI']
  by_cases e : r2 = r
  · subst e
    by_cases e2 : k = i
    · subst e2
      simp [hi]
    · simp only [e2, and_false, if_false, if_true]
      by_cases c : i + 1 ≤ k ∧ k < ln r2
      · rw [if_pos c, if_pos ⟨by omega, c.2⟩]
      · rw [if_neg c, if_neg (by omega)]
  · rw [if_neg e, if_neg e, if_neg (fun q => e q.1)]
theorem fillI_end (h : AH) (r : Nat) (x : Int32) : fillI h r x (ln r) = h := by
  refine ah_ext rfl (fun r2 k => ?_) (fun _ _ => rfl) (fun _ _ => rfl)
  simp only [fillI, gI_rI]
  by_cases e : r2 = r
  · subst e
    rw [if_pos rfl, if_neg (by omega)]
  · rw [if_neg e]
theorem fillL_step (h : AH) (r : Nat) (x : Int64) {i : Nat} (hi : i < ln r) : fillL (sL h r i x) r x (i + 1) = fillL h r x i := by
  refine ah_ext rfl (fun _ _ => rfl) (fun r2 k => ?_) (fun _ _ => rfl)
  simp only [fillL, gL_rL, gL_sL']
  by_cases e : r2 = r
  · subst e
    by_cases e2 : k = i
    · subst e2
      simp [hi]
    · simp only [e2, and_false, if_false, if_true]
      by_cases c : i + 1 ≤ k ∧ k < ln r2
      · rw [if_pos c, if_pos ⟨by omega, c.2⟩]
      · rw [if_neg c, if_neg (by omega)]
  · rw [if_neg e, if_neg e, if_neg (fun q => e q.1)]
theorem fillL_end (h : AH) (r : Nat) (x : Int64) : fillL h r x (ln r) = h := by
  refine ah_ext rfl (fun _ _ => rfl) (fun r2 k => ?_) (fun _ _ => rfl)
  simp only [fillL, gL_rL]
  by_cases e : r2 = r
  · subst e
    rw [if_pos rfl, if_neg (by omega)]
  · rw [if_neg e]
theorem fillI_loop {P : Option Value → AH → Prop} (r : Nat) (x : Int32) : ∀ (n i : Nat) (h : AH), i + n = ln r → isA h 0 r → P none (fillI h r x i) → Rr mJ7_fill_53178 0 0 5 [(0, .ref r), (1, .int x), (2, .int (nI i)), (3, .int (Int32.ofNat (ln r)))] [] h P
  | 0, i, h, hn, hA, hP => sJ7_fill_53178_5 h r x _ _ ⟨fun _ => by rw [show i = ln r by omega, fillI_end] at hP; exact hP, fun c => absurd (by rw [show i = ln r by omega]; exact Int32.le_refl _) c⟩
  | n + 1, i, h, hn, hA, hP => by
    have hl := ln_lt r
    refine sJ7_fill_53178_5 h r x _ _ ⟨fun c => absurd c (nI_ge (a := i) (b := ln r) (by omega) (by omega)), fun _ => ⟨hA, vp_in_nI (by omega) (by omega), ?_⟩⟩
    rw [nI_1, nI_clamp (by omega)]
    exact fillI_loop r x n (i + 1) _ (by omega) hA (by rw [fillI_step h r x (by omega)]; exact hP)
theorem fillL_loop {P : Option Value → AH → Prop} (r : Nat) (x : Int64) : ∀ (n i : Nat) (h : AH), i + n = ln r → isA h 1 r → P none (fillL h r x i) → Rr mJ7_fill_d0a16 0 0 6 [(0, .ref r), (1, .long x), (3, .int (nI i)), (4, .int (Int32.ofNat (ln r)))] [] h P
  | 0, i, h, hn, hA, hP => sJ7_fill_d0a16_6 h r x _ _ ⟨fun _ => by rw [show i = ln r by omega, fillL_end] at hP; exact hP, fun c => absurd (by rw [show i = ln r by omega]; exact Int32.le_refl _) c⟩
  | n + 1, i, h, hn, hA, hP => by
    have hl := ln_lt r
    refine sJ7_fill_d0a16_6 h r x _ _ ⟨fun c => absurd c (nI_ge (a := i) (b := ln r) (by omega) (by omega)), fun _ => ⟨hA, vp_in_nI (by omega) (by omega), ?_⟩⟩
    rw [nI_1, nI_clamp (by omega)]
    exact fillL_loop r x n (i + 1) _ (by omega) hA (by rw [fillL_step h r x (by omega)]; exact hP)
theorem c_fillI {r : Nat} {x : Int32} {h : AH} {P : Option Value → AH → Prop} (hA : isA h 0 r) (k : P none (fillI h r x 0)) : Call mJ7_fill_53178 [.ref r, .int x] h P :=
  Call.ofR (by decide +kernel) (Nat.le_of_ble_eq_true rfl) (sJ7_fill_53178_0 h r x ⟨hA, fillI_loop r x (ln r) 0 h (by omega) hA k⟩)
theorem c_fillL {r : Nat} {x : Int64} {h : AH} {P : Option Value → AH → Prop} (hA : isA h 1 r) (k : P none (fillL h r x 0)) : Call mJ7_fill_d0a16 [.ref r, .long x] h P :=
  Call.ofR (by decide +kernel) (Nat.le_of_ble_eq_true rfl) (sJ7_fill_d0a16_0 h r x ⟨hA, fillL_loop r x (ln r) 0 h (by omega) hA k⟩)
