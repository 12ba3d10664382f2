def mva (i : Int32) (v : Int64) : Int64 := if i = 1 then wr v else if i = 2 then wr (wr v) else if i = -1 then wl v else if i = -2 then wl (wl v) else v
def mvx (i : Int32) (f : Nat → Nat → Bool) : Nat → Nat → Bool := if i = 1 then rt f else if i = 2 then rt (rt f) else if i = -1 then lf f else if i = -2 then lf (lf f) else f
def mvy (i : Int32) (f : Nat → Nat → Bool) : Nat → Nat → Bool := if i = 1 then uu f else if i = 2 then uu (uu f) else if i = -1 then dd f else if i = -2 then dd (dd f) else f
theorem mva_b {v : Int64} {g : Nat → Nat → Bool} {w : Nat} {x : Int32} (hx : ¬ x < -2 ∧ ¬ 2 < x) (e : ∀ i, i < 64 → lb v i = g (4 * w + i / 16) (i % 16)) : ∀ i, i < 64 → lb (mva x v) i = mvx x g (4 * w + i / 16) (i % 16) := by
  rcases k5 hx.1 hx.2 with rfl | rfl | rfl | rfl | rfl
  · exact wl_b (wl_b e)
  · exact wl_b e
  · exact e
  · exact wr_b e
  · exact wr_b (wr_b e)
theorem ma_in {h : AH} {P : Option Value → AH → Prop} {b r w : Nat} {x : Int32} (B : Bo h b r) (hw : w < 4) (hx : ¬ x < -2 ∧ ¬ 2 < x) (k : ∀ h3, Fr [r] h h3 → gL h3 r w = mva x (gL h r w) → (∀ v, v ≠ w → gL h3 r v = gL h r v) → Rr mX0_moveAcross 0 0 2 [(0, .ref b), (1, .int x), (2, .int (nI (w + 1)))] [] h3 P) : Rr mX0_moveAcross 0 0 9 [(0, .ref b), (1, .int x), (2, .int (nI w)), (3, .int 0)] [] h P := by
  have a1 : (0 : Int32) + 1 = 1 := rfl
  have a2 : (1 : Int32) + 1 = 2 := rfl
  have iw := in4n hw
  have st : ∀ (h2 : AH), Fr [r] h h2 → (∀ v, v ≠ w → gL h2 r v = gL h r v) → ∀ z : Int64, Fr [r] h (sL h2 r w z) ∧ (∀ v, v ≠ w → gL (sL h2 r w z) r v = gL h r v) := fun h2 F e z => ⟨F.tr (Fr.sL (List.mem_cons_self ..)), fun v hv => (ld_k hv).trans (e v hv)⟩
  -- to the right
  have R1 : ∀ {Q : Prop} (h2 : AH) (n : Int32), Fr [r] h h2 → ¬ x ≤ n → (Rr mX0_moveAcross 0 0 9 [(0, .ref b), (1, .int x), (2, .int (nI w)), (3, .int (n + 1))] [] (sL h2 r w (wr (gL h2 r w))) P) → Rr mX0_moveAcross 0 0 9 [(0, .ref b), (1, .int x), (2, .int (nI w)), (3, .int n)] [] h2 P := fun {Q} h2 n F c kk => by
    have B2 := B.fr F
    refine sX0_moveAcross_9 h2 b _ _ _ ⟨fun q => absurd q c, fun _ => ?_⟩
    rw [B2.2.1, B2.2.2.2, nI_clamp (by omega)]
    exact ⟨B2.1, B2.2.2.1, iw, kk⟩
  have L1 : ∀ {Q : Prop} (h2 : AH) (n : Int32), Fr [r] h h2 → ¬ -x ≤ n → (Rr mX0_moveAcross 0 0 40 [(0, .ref b), (1, .int x), (2, .int (nI w)), (3, .int (n + 1))] [] (sL h2 r w (wl (gL h2 r w))) P) → Rr mX0_moveAcross 0 0 40 [(0, .ref b), (1, .int x), (2, .int (nI w)), (3, .int n)] [] h2 P := fun {Q} h2 n F c kk => by
    have B2 := B.fr F
    refine sX0_moveAcross_40 h2 b _ _ _ ⟨fun q => absurd q c, fun _ => ?_⟩
    rw [B2.2.1, B2.2.2.2, nI_clamp (by omega)]
    exact ⟨B2.1, B2.2.2.1, iw, kk⟩
  have fin : ∀ (h2 : AH) (n : Int32), -x ≤ n → Fr [r] h h2 → gL h2 r w = mva x (gL h r w) → (∀ v, v ≠ w → gL h2 r v = gL h r v) → Rr mX0_moveAcross 0 0 40 [(0, .ref b), (1, .int x), (2, .int (nI w)), (3, .int n)] [] h2 P := fun h2 n c F e1 e2 => by
    refine sX0_moveAcross_40 h2 b _ _ _ ⟨fun _ => ?_, fun q => absurd c q⟩
    rw [nI_1]
    exact k h2 F e1 e2
  have s0 : ∀ v, v ≠ w → gL h r v = gL h r v := fun _ _ => rfl
  rcases k5 hx.1 hx.2 with rfl | rfl | rfl | rfl | rfl
  · refine sX0_moveAcross_9 h b _ _ _ ⟨fun _ => ?_, fun q => absurd (by decide) q⟩
    obtain ⟨F1, e1⟩ := st h Fr.rf s0 (wl (gL h r w))
    refine L1 (Q := True) h 0 Fr.rf (by decide) ?_
    rw [a1]
    refine L1 (Q := True) _ 1 F1 (by decide) ?_
    obtain ⟨F2, e2⟩ := st _ F1 e1 (wl (gL (sL h r w (wl (gL h r w))) r w))
    rw [a2]
    refine fin _ 2 (by decide) F2 ?_ e2
    rw [ld_h, ld_h]
    rfl
  · refine sX0_moveAcross_9 h b _ _ _ ⟨fun _ => ?_, fun q => absurd (by decide) q⟩
    obtain ⟨F1, e1⟩ := st h Fr.rf s0 (wl (gL h r w))
    refine L1 (Q := True) h 0 Fr.rf (by decide) ?_
    rw [a1]
    refine fin _ 1 (by decide) F1 ?_ e1
    rw [ld_h]
    rfl
  · refine sX0_moveAcross_9 h b _ _ _ ⟨fun _ => ?_, fun q => absurd (by decide) q⟩
    exact fin _ 0 (by decide) Fr.rf rfl s0
  · obtain ⟨F1, e1⟩ := st h Fr.rf s0 (wr (gL h r w))
    refine R1 (Q := True) h 0 Fr.rf (by decide) ?_
    rw [a1]
    refine sX0_moveAcross_9 _ b _ _ _ ⟨fun _ => ?_, fun q => absurd (by decide) q⟩
    refine fin _ 0 (by decide) F1 ?_ e1
    rw [ld_h]
    rfl
  · obtain ⟨F1, e1⟩ := st h Fr.rf s0 (wr (gL h r w))
    refine R1 (Q := True) h 0 Fr.rf (by decide) ?_
    rw [a1]
    refine R1 (Q := True) _ 1 F1 (by decide) ?_
    obtain ⟨F2, e2⟩ := st _ F1 e1 (wr (gL (sL h r w (wr (gL h r w))) r w))
    rw [a2]
    refine sX0_moveAcross_9 _ b _ _ _ ⟨fun _ => ?_, fun q => absurd (by decide) q⟩
    refine fin _ 0 (by decide) F2 ?_ e2
    rw [ld_h, ld_h]
    rfl
theorem ma_loop {h : AH} {P : Option Value → AH → Prop} {b r : Nat} {x : Int32} (B : Bo h b r) (hx : ¬ x < -2 ∧ ¬ 2 < x) (k : ∀ h3, Fr [r] h h3 → (∀ v, v < 4 → gL h3 r v = mva x (gL h r v)) → P none h3) : ∀ (m w : Nat) (h2 : AH), w + m = 4 → Fr [r] h h2 → (∀ v, v < w → gL h2 r v = mva x (gL h r v)) → (∀ v, w ≤ v → gL h2 r v = gL h r v) → Rr mX0_moveAcross 0 0 2 [(0, .ref b), (1, .int x), (2, .int (nI w))] [] h2 P
  | 0, w, h2, hw, F, e1, e2 => by
    have e : w = 4 := by omega
    subst e
    exact sX0_moveAcross_2 h2 b _ _ ⟨fun _ => k h2 F e1, fun q => absurd (by decide) q⟩
  | m + 1, w, h2, hw, F, e1, e2 => by
    refine sX0_moveAcross_2 h2 b _ _ ⟨fun q => absurd q (n4le (by omega)), fun _ => ?_⟩
    refine ma_in (B.fr F) (by omega) hx (fun h3 F3 e3 e4 => ?_)
    refine ma_loop B hx k m (w + 1) h3 (by omega) (F.tr F3) (fun v hv => ?_) (fun v hv => (e4 v (by omega)).trans (e2 v (by omega)))
    by_cases c : v = w
    · subst c
      rw [e3, e2 v (Nat.le_refl v)]
    · exact (e4 v c).trans (e1 v (by omega))
theorem c0_across {h : AH} {P : Option Value → AH → Prop} {b r : Nat} {f : Nat → Nat → Bool} {x : Int32} (B : Bo h b r) (hf : Bd h r f) (hx : ¬ x < -2 ∧ ¬ 2 < x) (k : ∀ h3, Fr [r] h h3 → Bd h3 r (mvx x f) → P none h3) : Call mX0_moveAcross [.ref b, .int x] h P := by
  refine Call.ofR (by decide +kernel) (Nat.le_of_ble_eq_true rfl) (sX0_moveAcross_0 h b x ?_)
  refine ma_loop B hx (fun h3 F e => k h3 F (Bd.of (fun w i hw hi => ?_))) 4 0 h rfl Fr.rf (fun v hv => absurd hv (Nat.not_lt_zero v)) (fun v _ => rfl)
  rw [e w hw]
  exact mva_b hx (fun i hi => hf.word hw hi) i hi
theorem four {p : Nat → Prop} (h0 : p 0) (h1 : p 1) (h2 : p 2) (h3 : p 3) : ∀ w, w < 4 → p w := fun w hw => by
  rcases (show w = 0 ∨ w = 1 ∨ w = 2 ∨ w = 3 by omega) with rfl | rfl | rfl | rfl
  · exact h0
  · exact h1
  · exact h2
  · exact h3
theorem or_0 (x : Int64) : x = x ||| (lushr 0 48) := by
  apply l_ext
  intro i hi
  rw [lb_or, lb_u48, lb_0, Bool.or_false]
theorem or_0b (x : Int64) : x = x ||| (lshl 0 48) := by
  apply l_ext
  intro i hi
  rw [lb_or, lb_s48 _ hi, lb_0, Bool.and_false, Bool.or_false]
theorem c0_up {h : AH} {P : Option Value → AH → Prop} {b r : Nat} {f : Nat → Nat → Bool} (B : Bo h b r) (hf : Bd h r f) (k : ∀ h3, Fr [r] h h3 → Bd h3 r (uu f) → P none h3) : Call mX0_moveUpOnce [.ref b] h P := by
  refine Call.ofR (by decide +kernel) (Nat.le_of_ble_eq_true rfl) (sX0_moveUpOnce_0 h b ?_)
  have l4 := B.2.2.2
  have s1 : (3 : Int32) + (-1) = 2 := rfl
  have s2 : (2 : Int32) + (-1) = 1 := rfl
  have s3 : (1 : Int32) + (-1) = 0 := rfl
  have t1 : (3 : Int32) - 1 = 2 := rfl
  have t2 : (2 : Int32) - 1 = 1 := rfl
  have t3 : (1 : Int32) - 1 = 0 := rfl
  refine sX0_moveUpOnce_2 h b _ ⟨fun q => absurd q (by decide), fun _ => ?_⟩
  rw [B.2.1, l4, s1, t1, cl3, cl2]
  refine ⟨B.1, B.2.2.1, in4_3, in4_2, ?_⟩
  have F1 : Fr [r] h (sL h r 3 (lshl (gL h r 3) 16 ||| lushr (gL h r 2) 48)) := Fr.sL (List.mem_cons_self ..)
  have B1 := B.fr F1
  refine sX0_moveUpOnce_2 _ b _ ⟨fun q => absurd q (by decide), fun _ => ?_⟩
  rw [B1.2.1, l4, s2, t2, cl2, cl1]
  refine ⟨B1.1, B1.2.2.1, in4_2, in4_1, ?_⟩
  rw [ld_k (k2 := 2) (by decide), ld_k (k2 := 1) (by decide)]
  have F2 : Fr [r] h (sL (sL h r 3 (lshl (gL h r 3) 16 ||| lushr (gL h r 2) 48)) r 2 (lshl (gL h r 2) 16 ||| lushr (gL h r 1) 48)) := F1.tr (Fr.sL (List.mem_cons_self ..))
  have B2 := B.fr F2
  refine sX0_moveUpOnce_2 _ b _ ⟨fun q => absurd q (by decide), fun _ => ?_⟩
  rw [B2.2.1, l4, s3, t3, cl1, cl0]
  refine ⟨B2.1, B2.2.2.1, in4_1, in4_0, ?_⟩
  rw [ld_k (k2 := 1) (by decide), ld_k (k2 := 1) (by decide), ld_k (k2 := 0) (by decide), ld_k (k2 := 0) (by decide)]
  have F3 : Fr [r] h (sL (sL (sL h r 3 (lshl (gL h r 3) 16 ||| lushr (gL h r 2) 48)) r 2 (lshl (gL h r 2) 16 ||| lushr (gL h r 1) 48)) r 1 (lshl (gL h r 1) 16 ||| lushr (gL h r 0) 48)) := F2.tr (Fr.sL (List.mem_cons_self ..))
  have B3 := B.fr F3
  refine sX0_moveUpOnce_2 _ b _ ⟨fun _ => ?_, fun q => absurd (by decide) q⟩
  rw [B3.2.1, l4, cl0]
  refine ⟨B3.1, B3.2.2.1, in4_0, ?_⟩
  rw [ld_k (k2 := 0) (by decide), ld_k (k2 := 0) (by decide), ld_k (k2 := 0) (by decide)]
  refine k _ (F3.tr (Fr.sL (List.mem_cons_self ..))) (Bd.of (fun w i hw hi => ?_))
  have q : ∀ w, w < 4 → gL (sL (sL (sL (sL h r 3 (lshl (gL h r 3) 16 ||| lushr (gL h r 2) 48)) r 2 (lshl (gL h r 2) 16 ||| lushr (gL h r 1) 48)) r 1 (lshl (gL h r 1) 16 ||| lushr (gL h r 0) 48)) r 0 (lshl (gL h r 0) 16)) r w = (lshl (gL h r w) 16) ||| (lushr (if w = 0 then 0 else gL h r (w - 1)) 48) := by
    refine four ?_ ?_ ?_ ?_
    · rw [ld_h]
      exact or_0 _
    · rw [ld_k (by decide), ld_h]
      rfl
    · rw [ld_k (by decide), ld_k (by decide), ld_h]
      rfl
    · rw [ld_k (by decide), ld_k (by decide), ld_k (by decide), ld_h]
      rfl
  rw [q w hw]
  exact wu_b hf hw rfl i hi
theorem c0_down {h : AH} {P : Option Value → AH → Prop} {b r : Nat} {f : Nat → Nat → Bool} (B : Bo h b r) (hf : Bd h r f) (k : ∀ h3, Fr [r] h h3 → Bd h3 r (dd f) → P none h3) : Call mX0_moveDownOnce [.ref b] h P := by
  refine Call.ofR (by decide +kernel) (Nat.le_of_ble_eq_true rfl) (sX0_moveDownOnce_0 h b ?_)
  have l4 := B.2.2.2
  have a1 : (0 : Int32) + 1 = 1 := rfl
  have a2 : (1 : Int32) + 1 = 2 := rfl
  have a3 : (2 : Int32) + 1 = 3 := rfl
  refine sX0_moveDownOnce_2 h b _ ⟨fun q => absurd q (by decide), fun _ => ?_⟩
  rw [B.2.1, l4, a1, cl0, cl1]
  refine ⟨B.1, B.2.2.1, in4_0, in4_1, ?_⟩
  have F1 : Fr [r] h (sL h r 0 (lushr (gL h r 0) 16 ||| lshl (gL h r 1) 48)) := Fr.sL (List.mem_cons_self ..)
  have B1 := B.fr F1
  refine sX0_moveDownOnce_2 _ b _ ⟨fun q => absurd q (by decide), fun _ => ?_⟩
  rw [B1.2.1, l4, a2, cl1, cl2]
  refine ⟨B1.1, B1.2.2.1, in4_1, in4_2, ?_⟩
  rw [ld_k (k2 := 1) (by decide), ld_k (k2 := 2) (by decide)]
  have F2 : Fr [r] h (sL (sL h r 0 (lushr (gL h r 0) 16 ||| lshl (gL h r 1) 48)) r 1 (lushr (gL h r 1) 16 ||| lshl (gL h r 2) 48)) := F1.tr (Fr.sL (List.mem_cons_self ..))
  have B2 := B.fr F2
  refine sX0_moveDownOnce_2 _ b _ ⟨fun q => absurd q (by decide), fun _ => ?_⟩
  rw [B2.2.1, l4, a3, cl2, cl3]
  refine ⟨B2.1, B2.2.2.1, in4_2, in4_3, ?_⟩
  rw [ld_k (k2 := 2) (by decide), ld_k (k2 := 2) (by decide), ld_k (k2 := 3) (by decide), ld_k (k2 := 3) (by decide)]
  have F3 : Fr [r] h (sL (sL (sL h r 0 (lushr (gL h r 0) 16 ||| lshl (gL h r 1) 48)) r 1 (lushr (gL h r 1) 16 ||| lshl (gL h r 2) 48)) r 2 (lushr (gL h r 2) 16 ||| lshl (gL h r 3) 48)) := F2.tr (Fr.sL (List.mem_cons_self ..))
  have B3 := B.fr F3
  refine sX0_moveDownOnce_2 _ b _ ⟨fun _ => ?_, fun q => absurd (by decide) q⟩
  rw [B3.2.1, l4, cl3]
  refine ⟨B3.1, B3.2.2.1, in4_3, ?_⟩
  rw [ld_k (k2 := 3) (by decide), ld_k (k2 := 3) (by decide), ld_k (k2 := 3) (by decide)]
  refine k _ (F3.tr (Fr.sL (List.mem_cons_self ..))) (Bd.of (fun w i hw hi => ?_))
  have q : ∀ w, w < 4 → gL (sL (sL (sL (sL h r 0 (lushr (gL h r 0) 16 ||| lshl (gL h r 1) 48)) r 1 (lushr (gL h r 1) 16 ||| lshl (gL h r 2) 48)) r 2 (lushr (gL h r 2) 16 ||| lshl (gL h r 3) 48)) r 3 (lushr (gL h r 3) 16)) r w = (lushr (gL h r w) 16) ||| (lshl (if w = 3 then 0 else gL h r (w + 1)) 48) := by
    refine four ?_ ?_ ?_ ?_
    · rw [ld_k (by decide), ld_k (by decide), ld_k (by decide), ld_h]
      rfl
    · rw [ld_k (by decide), ld_k (by decide), ld_h]
      rfl
    · rw [ld_k (by decide), ld_h]
      rfl
    · rw [ld_h]
      exact or_0b _
  rw [q w hw]
  exact wd_b hf hw rfl i hi
theorem c0_move {h : AH} {P : Option Value → AH → Prop} {b r : Nat} {f : Nat → Nat → Bool} {x y : Int32} (B : Bo h b r) (hf : Bd h r f) (hx : ¬ x < -2 ∧ ¬ 2 < x) (hy : ¬ y < -2 ∧ ¬ 2 < y) (k : ∀ h3, Fr [r] h h3 → Bd h3 r (mvy y (mvx x f)) → P none h3) : Call mX0_move [.ref b, .int x, .int y] h P := by
  have a1 : (0 : Int32) + 1 = 1 := rfl
  have a2 : (1 : Int32) + 1 = 2 := rfl
  refine Call.ofR (by decide +kernel) (Nat.le_of_ble_eq_true rfl) (sX0_move_0 h b x y ⟨B.1, c0_across B hf hx (fun h1 F1 e1 => ⟨rfl, ?_⟩)⟩)
  have B1 := B.fr F1
  rcases k5 hy.1 hy.2 with rfl | rfl | rfl | rfl | rfl
  · refine sX0_move_7 h1 b _ _ ⟨fun _ => ?_, fun q => absurd (by decide) q⟩
    refine sX0_move_24 h1 b _ _ ⟨fun q => absurd q (by decide), fun _ => ⟨B1.1, c0_down B1 e1 (fun h2 F2 e2 => ⟨rfl, ?_⟩)⟩⟩
    rw [a1]
    have B2 := B1.fr F2
    refine sX0_move_24 h2 b _ _ ⟨fun q => absurd q (by decide), fun _ => ⟨B2.1, c0_down B2 e2 (fun h3 F3 e3 => ⟨rfl, ?_⟩)⟩⟩
    rw [a2]
    exact sX0_move_24 h3 b _ _ ⟨fun _ => k h3 ((F1.tr F2).tr F3) e3, fun q => absurd (by decide) q⟩
  · refine sX0_move_7 h1 b _ _ ⟨fun _ => ?_, fun q => absurd (by decide) q⟩
    refine sX0_move_24 h1 b _ _ ⟨fun q => absurd q (by decide), fun _ => ⟨B1.1, c0_down B1 e1 (fun h2 F2 e2 => ⟨rfl, ?_⟩)⟩⟩
    rw [a1]
    exact sX0_move_24 h2 b _ _ ⟨fun _ => k h2 (F1.tr F2) e2, fun q => absurd (by decide) q⟩
  · refine sX0_move_7 h1 b _ _ ⟨fun _ => ?_, fun q => absurd (by decide) q⟩
    exact sX0_move_24 h1 b _ _ ⟨fun _ => k h1 F1 e1, fun q => absurd (by decide) q⟩
  · refine sX0_move_7 h1 b _ _ ⟨fun q => absurd q (by decide), fun _ => ⟨B1.1, c0_up B1 e1 (fun h2 F2 e2 => ⟨rfl, ?_⟩)⟩⟩
    rw [a1]
    refine sX0_move_7 h2 b _ _ ⟨fun _ => ?_, fun q => absurd (by decide) q⟩
    exact sX0_move_24 h2 b _ _ ⟨fun _ => k h2 (F1.tr F2) e2, fun q => absurd (by decide) q⟩
  · refine sX0_move_7 h1 b _ _ ⟨fun q => absurd q (by decide), fun _ => ⟨B1.1, c0_up B1 e1 (fun h2 F2 e2 => ⟨rfl, ?_⟩)⟩⟩
    rw [a1]
    have B2 := B1.fr F2
    refine sX0_move_7 h2 b _ _ ⟨fun q => absurd q (by decide), fun _ => ⟨B2.1, c0_up B2 e2 (fun h3 F3 e3 => ⟨rfl, ?_⟩)⟩⟩
    rw [a2]
    refine sX0_move_7 h3 b _ _ ⟨fun _ => ?_, fun q => absurd (by decide) q⟩
    exact sX0_move_24 h3 b _ _ ⟨fun _ => k h3 ((F1.tr F2).tr F3) e3, fun q => absurd (by decide) q⟩
