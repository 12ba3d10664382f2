/-! BOARDS of the press -/
def Bo (h : AH) (b r : Nat) : Prop := isO h 0 b ∧ gF h b 0 = r ∧ isA h 1 r ∧ ln r = 4
theorem Bo.fr {S : List Nat} {h h2 : AH} {b r : Nat} (B : Bo h b r) (F : Fr S h h2) : Bo h2 b r := ⟨⟨by rw [F.1]; exact B.1.1, B.1.2⟩, (F.2.1 b 0).trans B.2.1, ⟨by rw [F.1]; exact B.2.2.1.1, B.2.2.1.2⟩, B.2.2.2⟩
def ng (f : Nat → Nat → Bool) : Nat → Nat → Bool := fun y x => !f y x
def gr (f : Nat → Nat → Bool) : Nat → Nat → Bool := fun y x => f y x || (decide (0 < x) && f y (x - 1)) || (decide (x < 15) && f y (x + 1)) || (decide (0 < y) && f (y - 1) x) || (decide (y < 15) && f (y + 1) x)
def rt (f : Nat → Nat → Bool) : Nat → Nat → Bool := fun y x => decide (0 < x) && f y (x - 1)
def lf (f : Nat → Nat → Bool) : Nat → Nat → Bool := fun y x => decide (x < 15) && f y (x + 1)
def uu (f : Nat → Nat → Bool) : Nat → Nat → Bool := fun y x => decide (0 < y) && f (y - 1) x
def dd (f : Nat → Nat → Bool) : Nat → Nat → Bool := fun y x => decide (y < 15) && f (y + 1) x
theorem i16 : (16 : Int32) = nI 16 := rfl
theorem i48 : (48 : Int32) = nI 48 := rfl
theorem lb_s1 (x : Int64) {i : Nat} (hi : i < 64) : lb (lshl x 1) i = (decide (1 ≤ i) && lb x (i - 1)) := lb_shl 1 (by decide) x hi
theorem lb_s16 (x : Int64) {i : Nat} (hi : i < 64) : lb (lshl x 16) i = (decide (16 ≤ i) && lb x (i - 16)) := lb_shl 16 (by decide) x hi
theorem lb_s48 (x : Int64) {i : Nat} (hi : i < 64) : lb (lshl x 48) i = (decide (48 ≤ i) && lb x (i - 48)) := lb_shl 48 (by decide) x hi
theorem lb_u1 (x : Int64) (i : Nat) : lb (lushr x 1) i = lb x (1 + i) := lb_ushr 1 (by decide) x i
theorem lb_u16 (x : Int64) (i : Nat) : lb (lushr x 16) i = lb x (16 + i) := lb_ushr 16 (by decide) x i
theorem lb_u48 (x : Int64) (i : Nat) : lb (lushr x 48) i = lb x (48 + i) := lb_ushr 48 (by decide) x i
def wr (v : Int64) : Int64 := (lshl v 1) &&& (-281479271743490)
def wl (v : Int64) : Int64 := (lushr v 1) &&& 9223231297218904063
theorem wr_b {v : Int64} {g : Nat → Nat → Bool} {w : Nat} (e : ∀ i, i < 64 → lb v i = g (4 * w + i / 16) (i % 16)) : ∀ i, i < 64 → lb (wr v) i = rt g (4 * w + i / 16) (i % 16) := fun i hi => by
  unfold wr rt
  rw [lb_and, lb_s1 v hi, lb_bf hi]
  by_cases c : i % 16 = 0
  · rw [decide_eq_false (p := i % 16 ≠ 0) (by omega), decide_eq_false (p := 0 < i % 16) (by omega), Bool.and_false, Bool.false_and]
  · rw [decide_eq_true (p := i % 16 ≠ 0) (by omega), decide_eq_true (p := 0 < i % 16) (by omega), decide_eq_true (p := 1 ≤ i) (by omega), Bool.and_true, Bool.true_and, Bool.true_and, e (i - 1) (by omega), show (i - 1) / 16 = i / 16 by omega, show (i - 1) % 16 = i % 16 - 1 by omega]
theorem wl_b {v : Int64} {g : Nat → Nat → Bool} {w : Nat} (e : ∀ i, i < 64 → lb v i = g (4 * w + i / 16) (i % 16)) : ∀ i, i < 64 → lb (wl v) i = lf g (4 * w + i / 16) (i % 16) := fun i hi => by
  unfold wl lf
  rw [lb_and, lb_u1 v, lb_bl hi]
  by_cases c : i % 16 = 15
  · rw [decide_eq_false (p := i % 16 ≠ 15) (by omega), decide_eq_false (p := i % 16 < 15) (by omega), Bool.and_false, Bool.false_and]
  · rw [decide_eq_true (p := i % 16 ≠ 15) (by omega), decide_eq_true (p := i % 16 < 15) (by omega), Bool.and_true, Bool.true_and, e (1 + i) (by omega), show (1 + i) / 16 = i / 16 by omega, show (1 + i) % 16 = i % 16 + 1 by omega]
theorem wu_b {h : AH} {r : Nat} {f : Nat → Nat → Bool} (hb : Bd h r f) {w : Nat} (hw : w < 4) {bl : Int64} (e : bl = if w = 0 then 0 else gL h r (w - 1)) : ∀ i, i < 64 → lb ((lshl (gL h r w) 16) ||| (lushr bl 48)) i = uu f (4 * w + i / 16) (i % 16) := fun i hi => by
  unfold uu
  rw [lb_or, lb_s16 _ hi, lb_u48]
  by_cases c : 16 ≤ i
  · rw [decide_eq_true c, lb_big (x := bl) (by omega), Bool.true_and, Bool.or_false, hb.word hw (by omega), decide_eq_true (by omega), Bool.true_and, show (i - 16) % 16 = i % 16 by omega, show 4 * w + (i - 16) / 16 = 4 * w + i / 16 - 1 by omega]
  · rw [decide_eq_false c, Bool.false_and, Bool.false_or, e]
    by_cases c2 : w = 0
    · rw [if_pos c2, lb_0, decide_eq_false (by omega), Bool.false_and]
    · rw [if_neg c2, hb.word (by omega) (by omega), decide_eq_true (by omega), Bool.true_and, show (48 + i) % 16 = i % 16 by omega, show 4 * (w - 1) + (48 + i) / 16 = 4 * w + i / 16 - 1 by omega]
theorem wd_b {h : AH} {r : Nat} {f : Nat → Nat → Bool} (hb : Bd h r f) {w : Nat} (hw : w < 4) {ab : Int64} (e : ab = if w = 3 then 0 else gL h r (w + 1)) : ∀ i, i < 64 → lb ((lushr (gL h r w) 16) ||| (lshl ab 48)) i = dd f (4 * w + i / 16) (i % 16) := fun i hi => by
  unfold dd
  rw [lb_or, lb_s48 _ hi, lb_u16]
  by_cases c : 48 ≤ i
  · rw [lb_big (by omega), Bool.false_or, decide_eq_true c, Bool.true_and, e]
    by_cases c2 : w = 3
    · rw [if_pos c2, lb_0, decide_eq_false (by omega), Bool.false_and]
    · rw [if_neg c2, hb.word (by omega) (by omega), decide_eq_true (by omega), Bool.true_and, show (i - 48) % 16 = i % 16 by omega, show 4 * (w + 1) + (i - 48) / 16 = 4 * w + i / 16 + 1 by omega]
  · rw [decide_eq_false c, Bool.false_and, Bool.or_false, hb.word hw (by omega), decide_eq_true (by omega), Bool.true_and, show (16 + i) % 16 = i % 16 by omega, show 4 * w + (16 + i) / 16 = 4 * w + i / 16 + 1 by omega]
theorem in4n {w : Nat} (hw : w < 4) : vp_in (nI w) 4 := vin_4.mpr ⟨nI_pos' (by omega), nI_lt (b := 4) hw (by decide)⟩
theorem n4le {w : Nat} (hw : w < 4) : ¬ 4 ≤ nI w := by
  rw [show (4 : Int32) = nI 4 from rfl, nI_leI (by decide) (by omega)]
  omega
/-- a loop over the four words: what one step must do -/
theorem inv_loop {h : AH} {P : Option Value → AH → Prop} {b r : Nat} (B : Bo h b r) (k : ∀ h3, Fr [r] h h3 → (∀ v, v < 4 → gL h3 r v = gL h r v ^^^ (-1)) → P none h3) : ∀ (m w : Nat) (h2 : AH), w + m = 4 → Fr [r] h h2 → (∀ v, v < w → gL h2 r v = gL h r v ^^^ (-1)) → (∀ v, w ≤ v → gL h2 r v = gL h r v) → Rr mX0_invert 0 0 2 [(0, .ref b), (1, .int (nI w))] [] h2 P
  | 0, w, h2, hw, F, e1, e2 => by
    have e : w = 4 := by omega
    subst e
    exact sX0_invert_2 h2 b _ ⟨fun _ => k h2 F e1, fun q => absurd (by decide) q⟩
  | m + 1, w, h2, hw, F, e1, e2 => by
    have B2 := B.fr F
    refine sX0_invert_2 h2 b _ ⟨fun q => absurd q (n4le (by omega)), fun _ => ?_⟩
    rw [B2.2.1, B2.2.2.2, nI_clamp (by omega), nI_1, e2 w (Nat.le_refl w)]
    refine ⟨B2.1, B2.2.2.1, in4n (by omega), ?_⟩
    refine inv_loop B k m (w + 1) _ (by omega) (F.tr (Fr.sL (List.mem_cons_self ..))) (fun v hv => ?_) (fun v hv => (ld_k (by omega)).trans (e2 v (by omega)))
    by_cases c : v = w
    · subst c
      exact ld_h
    · exact (ld_k c).trans (e1 v (by omega))
theorem c0_invert {h : AH} {P : Option Value → AH → Prop} {b r : Nat} {f : Nat → Nat → Bool} (B : Bo h b r) (hf : Bd h r f) (k : ∀ h3, Fr [r] h h3 → Bd h3 r (ng f) → P none h3) : Call mX0_invert [.ref b] h P := by
  refine Call.ofR (by decide +kernel) (Nat.le_of_ble_eq_true rfl) (sX0_invert_0 h b ?_)
  refine inv_loop B (fun h3 F e => k h3 F (Bd.of (fun w i hw hi => ?_))) 4 0 h rfl Fr.rf (fun v hv => absurd hv (Nat.not_lt_zero v)) (fun v _ => rfl)
  rw [e w hw, lb_xor, lb_m1 hi, hf.word hw hi, Bool.xor_true]
  rfl
def gw (hr : Nat → Int64) (w : Nat) : Int64 := (((hr w) ||| (wr (hr w) ||| wl (hr w))) ||| ((lshl (hr w) 16) ||| (lushr (if w = 0 then 0 else hr (w - 1)) 48))) ||| ((lushr (hr w) 16) ||| (lshl (if w = 3 then 0 else hr (w + 1)) 48))
theorem gr_loop {h : AH} {P : Option Value → AH → Prop} {b r : Nat} (B : Bo h b r) (k : ∀ h3, Fr [r] h h3 → (∀ v, v < 4 → gL h3 r v = gw (gL h r) v) → P none h3) : ∀ (m w : Nat) (h2 : AH), w + m = 4 → Fr [r] h h2 → (∀ v, v < w → gL h2 r v = gw (gL h r) v) → (∀ v, w ≤ v → gL h2 r v = gL h r v) → Rr mX0_growOnce 0 0 4 [(0, .ref b), (1, .long (if w = 0 then 0 else gL h r (w - 1))), (3, .int (nI w))] [] h2 P
  | 0, w, h2, hw, F, e1, e2 => by
    have e : w = 4 := by omega
    subst e
    exact sX0_growOnce_4 h2 b _ _ ⟨fun _ => k h2 F e1, fun q => absurd (by decide) q⟩
  | m + 1, w, h2, hw, F, e1, e2 => by
    have B2 := B.fr F
    refine sX0_growOnce_4 h2 b _ _ ⟨fun q => absurd q (n4le (by omega)), fun _ => ?_⟩
    rw [B2.2.1, B2.2.2.2, nI_clamp (by omega), nI_1, e2 w (Nat.le_refl w)]
    have c4 : (4 : Int32) ≤ nI (w + 1) ↔ w = 3 := by
      rw [show (4 : Int32) = nI 4 from rfl, nI_leI (by decide) (by omega)]
      omega
    refine ⟨B2.1, B2.2.2.1, in4n (by omega), fun q => in4n ?_, fun w7 h7 v8 h8 => ?_⟩
    · rw [c4] at q
      omega
    have e7 : w7 = if w = 3 then 0 else gL h r (w + 1) := by
      rw [h7]
      by_cases c : w = 3
      · rw [if_pos c, if_pos (c4.mpr c)]
      · rw [if_neg c, if_neg (fun q => c (c4.mp q)), nI_clamp (by omega), e2 _ (by omega)]
    rw [e7, h8]
    have st : (if w + 1 = 0 then (0 : Int64) else gL h r (w + 1 - 1)) = gL h r w := by rw [if_neg (by omega)]; rfl
    have nx := gr_loop B k m (w + 1) (sL h2 r w (gw (gL h r) w)) (by omega) (F.tr (Fr.sL (List.mem_cons_self ..))) (fun v hv => by
      by_cases c : v = w
      · subst c
        exact ld_h
      · exact (ld_k c).trans (e1 v (by omega))) (fun v hv => (ld_k (by omega)).trans (e2 v (by omega)))
    rw [st] at nx
    exact nx
theorem c0_growOnce {h : AH} {P : Option Value → AH → Prop} {b r : Nat} {f : Nat → Nat → Bool} (B : Bo h b r) (hf : Bd h r f) (k : ∀ h3, Fr [r] h h3 → Bd h3 r (gr f) → P none h3) : Call mX0_growOnce [.ref b] h P := by
  refine Call.ofR (by decide +kernel) (Nat.le_of_ble_eq_true rfl) (sX0_growOnce_0 h b ?_)
  refine gr_loop B (fun h3 F e => k h3 F (Bd.of (fun w i hw hi => ?_))) 4 0 h rfl Fr.rf (fun v hv => absurd hv (Nat.not_lt_zero v)) (fun v _ => rfl)
  have e0 : ∀ i, i < 64 → lb (gL h r w) i = f (4 * w + i / 16) (i % 16) := fun i hi => hf.word hw hi
  rw [e w hw]
  unfold gw
  rw [lb_or, lb_or, lb_or, lb_or, wr_b e0 i hi, wl_b e0 i hi, wu_b hf hw rfl i hi, wd_b hf hw rfl i hi, e0 i hi]
  unfold gr rt lf uu dd
  simp only [Bool.or_assoc]
def spr (k : Int32) (f : Nat → Nat → Bool) : Nat → Nat → Bool := if k = 1 then gr f else if k = 2 then gr (gr f) else if k = -1 then ng (gr (ng f)) else if k = -2 then ng (gr (gr (ng f))) else f
theorem k5 {k : Int32} (h1 : ¬ k < -2) (h2 : ¬ 2 < k) : k = -2 ∨ k = -1 ∨ k = 0 ∨ k = 1 ∨ k = 2 := by grind
theorem c0_grow {h : AH} {P : Option Value → AH → Prop} {b r : Nat} {f : Nat → Nat → Bool} {x : Int32} (B : Bo h b r) (hf : Bd h r f) (hx : ¬ x < -2 ∧ ¬ 2 < x) (k : ∀ h3, Fr [r] h h3 → Bd h3 r (spr x f) → P none h3) : Call mX0_grow [.ref b, .int x] h P := by
  have a1 : (0 : Int32) + 1 = 1 := rfl
  have a2 : (1 : Int32) + 1 = 2 := rfl
  rcases k5 hx.1 hx.2 with rfl | rfl | rfl | rfl | rfl
  · refine Call.ofR (by decide +kernel) (Nat.le_of_ble_eq_true rfl) (sX0_grow_0 h b _ ⟨fun q => absurd q (by decide), fun _ => ⟨B.1, ?_⟩⟩)
    refine c0_invert B hf (fun h1 F1 e1 => ⟨rfl, ?_⟩)
    refine sX0_grow_10 h1 b _ _ ⟨fun q => absurd q (by decide), fun _ => ⟨(B.fr F1).1, c0_growOnce (B.fr F1) e1 (fun h2 F2 e2 => ⟨rfl, ?_⟩)⟩⟩
    have G2 := F1.tr F2
    rw [a1]
    refine sX0_grow_10 h2 b _ _ ⟨fun q => absurd q (by decide), fun _ => ⟨(B.fr G2).1, c0_growOnce (B.fr G2) e2 (fun h3 F3 e3 => ⟨rfl, ?_⟩)⟩⟩
    have G3 := G2.tr F3
    rw [a2]
    exact sX0_grow_10 h3 b _ _ ⟨fun _ => ⟨fun q => absurd q (by decide), fun _ => ⟨(B.fr G3).1, c0_invert (B.fr G3) e3 (fun h4 F4 e4 => ⟨rfl, k h4 (G3.tr F4) e4⟩)⟩⟩, fun q => absurd (by decide) q⟩
  · refine Call.ofR (by decide +kernel) (Nat.le_of_ble_eq_true rfl) (sX0_grow_0 h b _ ⟨fun q => absurd q (by decide), fun _ => ⟨B.1, ?_⟩⟩)
    refine c0_invert B hf (fun h1 F1 e1 => ⟨rfl, ?_⟩)
    refine sX0_grow_10 h1 b _ _ ⟨fun q => absurd q (by decide), fun _ => ⟨(B.fr F1).1, c0_growOnce (B.fr F1) e1 (fun h2 F2 e2 => ⟨rfl, ?_⟩)⟩⟩
    have G3 := F1.tr F2
    rw [a1]
    exact sX0_grow_10 h2 b _ _ ⟨fun _ => ⟨fun q => absurd q (by decide), fun _ => ⟨(B.fr G3).1, c0_invert (B.fr G3) e2 (fun h4 F4 e4 => ⟨rfl, k h4 (G3.tr F4) e4⟩)⟩⟩, fun q => absurd (by decide) q⟩
  · exact Call.ofR (by decide +kernel) (Nat.le_of_ble_eq_true rfl) (sX0_grow_0 h b _ ⟨fun _ => sX0_grow_10 h b _ _ ⟨fun _ => ⟨fun _ => k h Fr.rf hf, fun q => absurd (by decide) q⟩, fun q => absurd (by decide) q⟩, fun q => absurd (by decide) q⟩)
  · refine Call.ofR (by decide +kernel) (Nat.le_of_ble_eq_true rfl) (sX0_grow_0 h b _ ⟨fun _ => ?_, fun q => absurd (by decide) q⟩)
    refine sX0_grow_10 h b _ _ ⟨fun q => absurd q (by decide), fun _ => ⟨B.1, c0_growOnce B hf (fun h2 F2 e2 => ⟨rfl, ?_⟩)⟩⟩
    rw [a1]
    exact sX0_grow_10 h2 b _ _ ⟨fun _ => ⟨fun _ => k h2 F2 e2, fun q => absurd (by decide) q⟩, fun q => absurd (by decide) q⟩
  · refine Call.ofR (by decide +kernel) (Nat.le_of_ble_eq_true rfl) (sX0_grow_0 h b _ ⟨fun _ => ?_, fun q => absurd (by decide) q⟩)
    refine sX0_grow_10 h b _ _ ⟨fun q => absurd q (by decide), fun _ => ⟨B.1, c0_growOnce B hf (fun h2 F2 e2 => ⟨rfl, ?_⟩)⟩⟩
    rw [a1]
    refine sX0_grow_10 h2 b _ _ ⟨fun q => absurd q (by decide), fun _ => ⟨(B.fr F2).1, c0_growOnce (B.fr F2) e2 (fun h3 F3 e3 => ⟨rfl, ?_⟩)⟩⟩
    rw [a2]
    exact sX0_grow_10 h3 b _ _ ⟨fun _ => ⟨fun _ => k h3 (F2.tr F3) e3, fun q => absurd (by decide) q⟩, fun q => absurd (by decide) q⟩
