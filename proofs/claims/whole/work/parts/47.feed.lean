def apC (h : AH) (b : Int32) : AH := sI (sI h 3 (gI h 2 2).toNatClampNeg b) 2 2 (gI h 2 2 + 1)
def apM (h : AH) (b : Int32) : AH := sI (sI h 117 (gI h 116 1).toNatClampNeg b) 116 1 (gI h 116 1 + 1)
def by8 (x s : Int32) : Int32 := (iushr x s).toInt8.toInt32
def bys (x : Int32) : List Int32 := [by8 x 24, by8 x 16, by8 x 8, by8 x 0]
theorem i8_i8 (x : Int32) : x.toInt8.toInt32.toInt8.toInt32 = x.toInt8.toInt32 := by simp
theorem byM (x : Int32) {n : Nat} (hn : n ≤ 24) : (x >>> (nI n &&& 31)).toInt8 = (iushr x (nI n)).toInt8 := by
  refine toI8_eq (fun i hi => ?_)
  unfold iushr
  rw [b_sshr n (by omega) x (by omega), b_ushr n (by omega) x i, if_pos (by omega)]
theorem by8_r (x s : Int32) : inr (by8 x s) (-128) 127 := by
  unfold by8 inr
  generalize (iushr x s).toInt8 = y
  have h1 : y.toInt32.toInt = y.toInt := Int8.toInt_toInt32 y
  have h2 := Int8.le_toInt y
  have h3 := Int8.toInt_lt y
  rw [ti_le, ti_le, h1]
  have e1 : (-128 : Int32).toInt = -128 := rfl
  have e2 : (127 : Int32).toInt = 127 := rfl
  omega
theorem apC_wf {h : AH} {b : Int32} (w : Wf h) : Wf (apC h b) := ⟨w.1, w.2.1, w.2.2⟩
theorem apM_wf {h : AH} {b : Int32} (w : Wf h) : Wf (apM h b) := ⟨w.1, w.2.1, w.2.2⟩
theorem apC_len (h : AH) (b : Int32) : gI (apC h b) 2 2 = gI h 2 2 + 1 := rd_h
theorem apM_len (h : AH) (b : Int32) : gI (apM h b) 116 1 = gI h 116 1 + 1 := rd_h
theorem put_step {h : AH} {P : Option Value → AH → Prop} {x s : Int32} {n : Nat} (w : Wf h) (hs : s = nI n) (hn : n ≤ 24) (h0 : 0 ≤ gI h 2 2) (h9 : gI h 2 2 < 900) (k : Rr mX9_put 0 0 3 [(0, .ref 2), (1, .int x), (2, .int (s + (-8)))] [] (apC h (by8 x s)) P) : Rr mX9_put 0 0 3 [(0, .ref 2), (1, .int x), (2, .int s)] [] h P := by
  refine sX9_put_3 h 2 x s ⟨fun c => absurd c (by rw [hs]; exact nI_pos (by omega)), fun _ => ⟨w.o (by decide) rfl, fun c => absurd c (by grind), fun _ => ?_⟩⟩
  rw [w.f2_0, i8_i8]
  exact ⟨w.a (by decide) rfl, by show vp_in _ 900; rw [vin_900]; exact ⟨h0, h9⟩, k⟩
theorem c9_put {h : AH} {P : Option Value → AH → Prop} {x : Int32} (w : Wf h) (h0 : 0 ≤ gI h 2 2) (h9 : gI h 2 2 ≤ 896) (k : P none ((bys x).foldl apC h)) : Call mX9_put [.ref 2, .int x] h P := by
  refine Call.ofR (by decide +kernel) (Nat.le_of_ble_eq_true rfl) (sX9_put_0 h 2 x ?_)
  refine put_step (n := 24) w rfl (by decide) h0 (by grind) ?_
  have e1 := apC_len h (by8 x 24)
  rw [show (24 : Int32) + (-8) = 16 from rfl]
  refine put_step (n := 16) (apC_wf w) rfl (by decide) (by rw [e1]; grind) (by rw [e1]; grind) ?_
  have e2 := apC_len (apC h (by8 x 24)) (by8 x 16)
  rw [show (16 : Int32) + (-8) = 8 from rfl]
  refine put_step (n := 8) (apC_wf (apC_wf w)) rfl (by decide) (by rw [e2, e1]; grind) (by rw [e2, e1]; grind) ?_
  have e3 := apC_len (apC (apC h (by8 x 24)) (by8 x 16)) (by8 x 8)
  rw [show (8 : Int32) + (-8) = 0 from rfl]
  refine put_step (n := 0) (apC_wf (apC_wf (apC_wf w))) rfl (by decide) (by rw [e3, e2, e1]; grind) (by rw [e3, e2, e1]; grind) ?_
  refine sX9_put_3 _ 2 x _ ⟨fun _ => k, fun c => absurd (by decide) c⟩
theorem feed_step {h : AH} {P : Option Value → AH → Prop} {x1 x2 x3 x4 x5 x6 x s : Int32} {n : Nat} (w : Wf h) (hs : s = nI n) (hn : n ≤ 24) (h0 : 0 ≤ gI h 116 1) (h9 : gI h 116 1 < 900) (k : Rr mX12_feed 0 0 73 [(0, .ref 116), (1, .int x1), (2, .int x2), (3, .int x3), (4, .int x4), (5, .int x5), (6, .int x6), (7, .int x), (8, .int (s + (-8)))] [] (apM h (by8 x s)) P) : Rr mX12_feed 0 0 73 [(0, .ref 116), (1, .int x1), (2, .int x2), (3, .int x3), (4, .int x4), (5, .int x5), (6, .int x6), (7, .int x), (8, .int s)] [] h P := by
  refine sX12_feed_73 h 116 x1 x2 x3 x4 x5 x6 x s ⟨fun c => absurd c (by rw [hs]; exact nI_pos (by omega)), fun _ => ⟨w.o (by decide) rfl, ?_⟩⟩
  have e : (x >>> (s &&& 31)).toInt8.toInt32.toInt8.toInt32 = by8 x s := by
    rw [i8_i8, hs, byM x hn]
    rfl
  rw [w.f116_0, e]
  exact ⟨w.a (by decide) rfl, by show vp_in _ 900; rw [vin_900]; exact ⟨h0, h9⟩, k⟩
theorem feed_four {h : AH} {P : Option Value → AH → Prop} {x1 x2 x3 x4 x5 x6 x : Int32} (w : Wf h) (h0 : 0 ≤ gI h 116 1) (h9 : gI h 116 1 ≤ 896) (k : Rr mX12_feed 0 0 19 [(0, .ref 116), (1, .int x1), (2, .int x2), (3, .int x3), (4, .int x4), (5, .int x5), (6, .int (x6 + 1))] [] ((bys x).foldl apM h) P) : Rr mX12_feed 0 0 73 [(0, .ref 116), (1, .int x1), (2, .int x2), (3, .int x3), (4, .int x4), (5, .int x5), (6, .int x6), (7, .int x), (8, .int 24)] [] h P := by
  refine feed_step (n := 24) w rfl (by decide) h0 (by grind) ?_
  have e1 := apM_len h (by8 x 24)
  rw [show (24 : Int32) + (-8) = 16 from rfl]
  refine feed_step (n := 16) (apM_wf w) rfl (by decide) (by rw [e1]; grind) (by rw [e1]; grind) ?_
  have e2 := apM_len (apM h (by8 x 24)) (by8 x 16)
  rw [show (16 : Int32) + (-8) = 8 from rfl]
  refine feed_step (n := 8) (apM_wf (apM_wf w)) rfl (by decide) (by rw [e2, e1]; grind) (by rw [e2, e1]; grind) ?_
  have e3 := apM_len (apM (apM h (by8 x 24)) (by8 x 16)) (by8 x 8)
  rw [show (8 : Int32) + (-8) = 0 from rfl]
  refine feed_step (n := 0) (apM_wf (apM_wf (apM_wf w))) rfl (by decide) (by rw [e3, e2, e1]; grind) (by rw [e3, e2, e1]; grind) ?_
  exact sX12_feed_73 _ 116 x1 x2 x3 x4 x5 x6 x _ ⟨fun _ => k, fun c => absurd (by decide) c⟩
theorem fold_wfC : ∀ (bs : List Int32) {h : AH}, Wf h → Wf (bs.foldl apC h) ∧ gI (bs.foldl apC h) 2 2 = gI h 2 2 + nI bs.length
  | [], h, w => ⟨w, by show gI h 2 2 = gI h 2 2 + 0; grind⟩
  | b :: bs, h, w => by
    have q := fold_wfC bs (apC_wf (b := b) w)
    refine ⟨q.1, ?_⟩
    show gI (bs.foldl apC (apC h b)) 2 2 = _
    rw [q.2, apC_len, List.length_cons, ← nI_1]
    grind
theorem fold_wfM : ∀ (bs : List Int32) {h : AH}, Wf h → Wf (bs.foldl apM h) ∧ gI (bs.foldl apM h) 116 1 = gI h 116 1 + nI bs.length
  | [], h, w => ⟨w, by show gI h 116 1 = gI h 116 1 + 0; grind⟩
  | b :: bs, h, w => by
    have q := fold_wfM bs (apM_wf (b := b) w)
    refine ⟨q.1, ?_⟩
    show gI (bs.foldl apM (apM h b)) 116 1 = _
    rw [q.2, apM_len, List.length_cons, ← nI_1]
    grind
theorem ap_comm (g : AH) (b c : Int32) : apM (apC g c) b = apC (apM g b) c := by
  have e1 : gI (apC g c) 116 1 = gI g 116 1 := by unfold apC; rw [rd_r (by decide), rd_r (by decide)]
  have e2 : gI (apM g b) 2 2 = gI g 2 2 := by unfold apM; rw [rd_r (by decide), rd_r (by decide)]
  refine ah_ext rfl (fun r k => ?_) (fun _ _ => rfl) (fun _ _ => rfl)
  show gI (sI (sI (apC g c) 117 (gI (apC g c) 116 1).toNatClampNeg b) 116 1 (gI (apC g c) 116 1 + 1)) r k = gI (sI (sI (apM g b) 3 (gI (apM g b) 2 2).toNatClampNeg c) 2 2 (gI (apM g b) 2 2 + 1)) r k
  rw [e1, e2]
  unfold apC apM
  simp only [gI_sI']
  by_cases a1 : r = 116
  · subst a1; simp
  · by_cases a2 : r = 117
    · subst a2; simp
    · simp [a1, a2]
theorem ap_foldM (bs : List Int32) : ∀ (g : AH) (c : Int32), bs.foldl apM (apC g c) = apC (bs.foldl apM g) c := by
  induction bs with
  | nil => intro g c; rfl
  | cons b t ih =>
    intro g c
    show t.foldl apM (apM (apC g c) b) = apC (t.foldl apM (apM g b)) c
    rw [ap_comm, ih]
theorem ap_foldC (bs : List Int32) : ∀ (g : AH) (b : Int32), apM (bs.foldl apC g) b = bs.foldl apC (apM g b) := by
  induction bs with
  | nil => intro g b; rfl
  | cons c t ih =>
    intro g b
    show apM (t.foldl apC (apC g c)) b = t.foldl apC (apC (apM g b) c)
    rw [ih, ap_comm]
theorem ap_both : ∀ (bs : List Int32) (g : AH), bs.foldl apM (bs.foldl apC g) = bs.foldl (fun g b => apM (apC g b) b) g
  | [], _ => rfl
  | b :: t, g => by
    show t.foldl apM (apM (t.foldl apC (apC g b)) b) = t.foldl (fun g b => apM (apC g b) b) (apM (apC g b) b)
    rw [ap_foldC, ap_both t]
theorem ap_inv {j : Nat} {h : AH} (I : Inv j h) {b : Int32} (hb : inr b (-128) 127) (h9 : gI h 2 2 < 900) : Inv j (apM (apC h b) b) ∧ gI (apM (apC h b) b) 2 2 = gI h 2 2 + 1 := by
  obtain ⟨w, hj, ⟨t1, t2, t3⟩, fi, ji, ri, mi, si, pi, li⟩ := I
  have hjj := jcase w hj
  generalize hL : gI h 2 2 = L at *
  generalize hN : L.toNatClampNeg = N at *
  have s2 : ∀ r k, gI (apM (apC h b) b) r k = if r = 116 then (if k = 1 then L + 1 else gI h 116 k) else if r = 2 then (if k = 2 then L + 1 else gI h 2 k) else if k = N ∧ (r = 3 ∨ r = 117) then b else gI h r k := fun r k => by
    have e1 : gI (apC h b) 116 1 = L := by unfold apC; rw [rd_r (by decide), rd_r (by decide), t2]
    show gI (sI (sI (apC h b) 117 (gI (apC h b) 116 1).toNatClampNeg b) 116 1 (gI (apC h b) 116 1 + 1)) r k = _
    rw [e1, hN]
    unfold apC
    rw [hL, hN]
    simp only [gI_sI']
    by_cases a1 : r = 116
    · subst a1; simp
    · by_cases a2 : r = 2
      · subst a2; simp
      · simp only [a1, a2, false_and, if_false]
        by_cases a3 : k = N <;> by_cases a4 : r = 117 <;> by_cases a5 : r = 3 <;> simp [a3, a4, a5]
  have F : Fr [2, 3, 116, 117] h (apM (apC h b) b) := (((Fr.sI (by decide)).tr (Fr.sI (by decide))).tr (Fr.sI (by decide))).tr (Fr.sI (by decide))
  generalize apM (apC h b) b = h2 at s2 F ⊢
  have s116 : ∀ k, k ≠ 1 → gI h2 116 k = gI h 116 k := fun k q => by simp [s2, q]
  have e22 : gI h2 2 2 = L + 1 := by simp [s2]
  unfold inr at t1
  refine ⟨⟨F.wf w, (F.2.1 0 2).trans hj, ⟨?_, ?_, ?_⟩, fi.keep (F.I (by decide) _) (F.I (by decide) _) (s116 _ (by decide)) (s116 _ (by decide)), ji.keep (fun r hr => F.ag (by rcases hjj with rfl | rfl <;> revert r <;> decide)) (s116 _ (by decide)), ri.keep (fun r hr => F.ag (by revert r; decide)) (F.I (by rcases hjj with rfl | rfl <;> decide) _) (s116 _ (by decide)) (s116 _ (by decide)) (s116 _ (by decide)), mi.keep (F.I (by decide) _) (F.ag (by decide)) (s116 _ (by decide)) (F.ag (by decide)), si.keep (F.I (by decide) _) (F.I (by decide) _) (F.I (by decide) _) (s116 _ (by decide)) (s116 _ (by decide)) (s116 _ (by decide)), pi.keep (F.I (by decide) _) (s116 _ (by decide)) (fun r hr => F.ag (by revert r; decide)), li.keep (F.I (by decide) _) (F.I (by decide) _) (F.ag (by decide)) (s116 _ (by decide)) (F.ag (by decide))⟩, e22⟩
  · rw [e22]
    unfold inr
    grind
  · simp [s2]
  · intro x p1 p2
    rw [e22] at p2
    have p3 : x < L ∨ x = L := by grind
    rcases p3 with p3 | p3
    · have ne : x.toNatClampNeg ≠ N := fun e => by
        have := cl_inj p1 t1.1 (e.trans hN.symm)
        grind
      simp only [s2, ne, false_and, reduceIte, Nat.reduceEqDiff]
      exact t3 x p1 p3
    · rw [p3, hN]
      simp [s2]
      exact hb
theorem ap_invs {j : Nat} : ∀ (bs : List Int32) {h : AH}, Inv j h → (∀ b ∈ bs, inr b (-128) 127) → bs.length ≤ 20 → gI h 2 2 ≤ nI (900 - bs.length) → Inv j (bs.foldl (fun g b => apM (apC g b) b) h)
  | [], _, I, _, _, _ => I
  | b :: t, h, I, hb, hl, h9 => by
    have hl2 : t.length + 1 ≤ 20 := hl
    have t1 := I.2.2.1.1
    unfold inr at t1
    have h9' : gI h 2 2 ≤ nI (900 - (t.length + 1)) := h9
    have h8 : gI h 2 2 < nI (900 - t.length) := by
      have : nI (900 - (t.length + 1)) < nI (900 - t.length) := nI_lt (by omega) (by omega)
      rw [ti_le] at h9'
      rw [ti_lt] at this ⊢
      omega
    have h7 : nI (900 - t.length) ≤ 900 := by
      have e : (900 : Int32) = nI 900 := rfl
      rw [e]
      exact nI_le (by omega) (by decide)
    have q := ap_inv I (hb b List.mem_cons_self) (by rw [ti_lt] at h8 ⊢; rw [ti_le] at h7; omega)
    refine ap_invs t q.1 (fun c hc => hb c (List.mem_cons_of_mem _ hc)) (by omega) ?_
    show gI (apM (apC h b) b) 2 2 ≤ _
    rw [q.2]
    have r := ti_rng (gI h 2 2)
    rw [ti_lt] at h8
    rw [ti_le] at t1
    have h6 := t1.1
    have e0 : (0 : Int32).toInt = 0 := rfl
    have e1 : (1 : Int32).toInt = 1 := rfl
    rw [nI_toInt (by omega)] at h8
    rw [ti_le, ti_add (by omega) (by omega), nI_toInt (by omega), e1]
    omega
