def mm6 (B : Nat → Nat → Int32) (a b c d : Nat) : Int32 := imin (imin (imin (imin (imin (imin 1000000 (B b a)) (B c a)) (B c b)) (B d a)) (B d b)) (B d c)
theorem mm6_eq {B : Nat → Nat → Int32} (hB : ∀ k l, B k l = B l k) {a b c d : Nat} (hh : B a b ≤ 7200) : mm6 B a b c d = m6 B a b c d := by
  rw [ti_eq, m6_t]
  unfold mm6
  simp only [imin_t]
  rw [ti_le] at hh
  have e1 : (7200 : Int32).toInt = 7200 := rfl
  have e2 : (1000000 : Int32).toInt = 1000000 := rfl
  rw [hB b a, hB c a, hB c b, hB d a, hB d b, hB d c]
  omega
theorem cl0 : Int32.toNatClampNeg 0 = 0 := rfl
theorem cl1 : Int32.toNatClampNeg 1 = 1 := rfl
theorem cl2 : Int32.toNatClampNeg 2 = 2 := rfl
theorem cl3 : Int32.toNatClampNeg 3 = 3 := rfl
theorem in4_0 : vp_in 0 4 := by rw [vin_4]; decide
theorem in4_1 : vp_in 1 4 := by rw [vin_4]; decide
theorem in4_2 : vp_in 2 4 := by rw [vin_4]; decide
theorem in4_3 : vp_in 3 4 := by rw [vin_4]; decide
theorem st_inner {h : AH} {P : Option Value → AH → Prop} (w : Wf h) (x1 x2 x3 x4 x5 : Int32) {a b c d : Nat} (ha : a < 8) (hb : b < 8) (hc : c < 8) (hd : d < 8) (e0 : gI h 149 0 = nI a) (e1 : gI h 149 1 = nI b) (e2 : gI h 149 2 = nI c) (e3 : gI h 149 3 = nI d)
    (k : ∀ (z7 M z5 z6 : Int32), (z7 = 0 ↔ ¬ (a ≠ b ∧ a ≠ c ∧ a ≠ d ∧ b ≠ c ∧ b ≠ d ∧ c ≠ d)) → M = mm6 (bB (gI h 124) (gI h 125)) a b c d → z5 = (if z7 = 0 then x3 else (if x3 = (-1) then x5 else (if x4 < M then x5 else x3))) → z6 = (if z7 = 0 then x4 else (if x3 = (-1) then M else (if x4 < M then M else x4))) → Rr mX12_setting 0 0 35 [(0, .ref 116), (1, .int x1), (2, .int x2), (3, .int z5), (4, .int z6), (5, .int (x5 + 1))] [] h P) :
    Rr mX12_setting 0 0 93 [(0, .ref 116), (1, .int x1), (2, .int x2), (3, .int x3), (4, .int x4), (5, .int x5), (7, .int 1), (8, .int 1000000), (9, .int 0)] [] h P := by
  have r : ∀ m : Nat, m < 8 → 0 ≤ nI m ∧ nI m < 8 := fun m hm => ⟨nI_pos' (by omega), nI_lt (b := 8) hm (by decide)⟩
  have bt : ∀ {Q : Option Value → AH → Prop} (x y : Nat), x < 8 → y < 8 → Q (some (.int (bB (gI h 124) (gI h 125) x y))) h → Call mX12_beatOf [.ref 116, .int (nI x), .int (nI y)] h Q := fun {Q} x y hx hy hq => by
    refine c12_beat w (r x hx) (r y hy) ?_
    rw [nI_clamp (by omega), nI_clamp (by omega)]
    exact hq
  have wo : isO h 12 116 := w.o (by decide) rfl
  have wa : isA h 0 149 := w.a (by decide) rfl
  have l4 : ln 149 = 4 := rfl
  have a1 : (0 : Int32) + 1 = 1 := rfl
  have a2 : (1 : Int32) + 1 = 2 := rfl
  have a3 : (2 : Int32) + 1 = 3 := rfl
  have a4 : (3 : Int32) + 1 = 4 := rfl
  have ne : ∀ x y : Nat, x < 8 → y < 8 → (nI x = nI y ↔ x = y) := fun x y hx hy => nI_eq (by omega) (by omega)
  refine sX12_setting_93 h 116 x1 x2 x3 x4 x5 _ _ _ ⟨fun q => absurd q (by decide), fun _ => ?_⟩
  refine sX12_setting_102 h 116 x1 x2 x3 x4 x5 _ _ _ _ ⟨fun _ => ?_, fun q => absurd (by decide) q⟩
  rw [a1]
  refine sX12_setting_93 h 116 x1 x2 x3 x4 x5 _ _ _ ⟨fun q => absurd q (by decide), fun _ => ?_⟩
  refine sX12_setting_102 h 116 x1 x2 x3 x4 x5 _ _ _ _ ⟨fun q => absurd q (by decide), fun _ => ?_⟩
  simp only [w.f116_58, cl0, cl1, cl2, cl3, e0, e1, e2, e3, l4]
  refine ⟨wo, wa, fun _ => in4_1, fun _ => in4_0, in4_1, in4_0, bt b a hb ha ⟨_, rfl, fun m0 hm0 => ?_⟩⟩
  rw [← imin_le] at hm0
  rw [a1]
  refine sX12_setting_102 h 116 x1 x2 x3 x4 x5 _ _ _ _ ⟨fun _ => ?_, fun q => absurd (by decide) q⟩
  rw [a2]
  refine sX12_setting_93 h 116 x1 x2 x3 x4 x5 _ _ _ ⟨fun q => absurd q (by decide), fun _ => ?_⟩
  refine sX12_setting_102 h 116 x1 x2 x3 x4 x5 _ _ _ _ ⟨fun q => absurd q (by decide), fun _ => ?_⟩
  simp only [w.f116_58, cl0, cl1, cl2, cl3, e0, e1, e2, e3, l4]
  refine ⟨wo, wa, fun _ => in4_2, fun _ => in4_0, in4_2, in4_0, bt c a hc ha ⟨_, rfl, fun m1 hm1 => ?_⟩⟩
  rw [← imin_le] at hm1
  rw [a1]
  refine sX12_setting_102 h 116 x1 x2 x3 x4 x5 _ _ _ _ ⟨fun q => absurd q (by decide), fun _ => ?_⟩
  simp only [w.f116_58, cl0, cl1, cl2, cl3, e0, e1, e2, e3, l4]
  refine ⟨wo, wa, fun _ => in4_2, fun _ => in4_1, in4_2, in4_1, bt c b hc hb ⟨_, rfl, fun m2 hm2 => ?_⟩⟩
  rw [← imin_le] at hm2
  rw [a2]
  refine sX12_setting_102 h 116 x1 x2 x3 x4 x5 _ _ _ _ ⟨fun _ => ?_, fun q => absurd (by decide) q⟩
  rw [a3]
  refine sX12_setting_93 h 116 x1 x2 x3 x4 x5 _ _ _ ⟨fun q => absurd q (by decide), fun _ => ?_⟩
  refine sX12_setting_102 h 116 x1 x2 x3 x4 x5 _ _ _ _ ⟨fun q => absurd q (by decide), fun _ => ?_⟩
  simp only [w.f116_58, cl0, cl1, cl2, cl3, e0, e1, e2, e3, l4]
  refine ⟨wo, wa, fun _ => in4_3, fun _ => in4_0, in4_3, in4_0, bt d a hd ha ⟨_, rfl, fun m3 hm3 => ?_⟩⟩
  rw [← imin_le] at hm3
  rw [a1]
  refine sX12_setting_102 h 116 x1 x2 x3 x4 x5 _ _ _ _ ⟨fun q => absurd q (by decide), fun _ => ?_⟩
  simp only [w.f116_58, cl0, cl1, cl2, cl3, e0, e1, e2, e3, l4]
  refine ⟨wo, wa, fun _ => in4_3, fun _ => in4_1, in4_3, in4_1, bt d b hd hb ⟨_, rfl, fun m4 hm4 => ?_⟩⟩
  rw [← imin_le] at hm4
  rw [a2]
  refine sX12_setting_102 h 116 x1 x2 x3 x4 x5 _ _ _ _ ⟨fun q => absurd q (by decide), fun _ => ?_⟩
  simp only [w.f116_58, cl0, cl1, cl2, cl3, e0, e1, e2, e3, l4]
  refine ⟨wo, wa, fun _ => in4_3, fun _ => in4_2, in4_3, in4_2, bt d c hd hc ⟨_, rfl, fun m5 hm5 => ?_⟩⟩
  rw [← imin_le] at hm5
  rw [a3]
  refine sX12_setting_102 h 116 x1 x2 x3 x4 x5 _ _ _ _ ⟨fun _ => ?_, fun q => absurd (by decide) q⟩
  rw [a4]
  refine sX12_setting_93 h 116 x1 x2 x3 x4 x5 _ _ _ ⟨fun _ => ?_, fun q => absurd (by decide) q⟩
  intro z5 hz5 z6 hz6
  refine k _ m5 z5 z6 ?_ ?_ hz5 hz6
  · simp only [bi_0, ne b a hb ha, ne c a hc ha, ne c b hc hb, ne d a hd ha, ne d b hd hb, ne d c hd hc]
    have z1 : ¬ (1 : Int32) = 0 := by decide
    simp only [z1]
    clear k bt hz5 hz6 hm0 hm1 hm2 hm3 hm4 hm5
    constructor
    · intro q q2
      exact q ⟨fun q3 => q3 ⟨fun q4 => q4 ⟨fun q5 => q5 ⟨fun q6 => q6 ⟨fun q7 => q7 ⟨fun q8 => q8, by omega⟩, by omega⟩, by omega⟩, by omega⟩, by omega⟩, by omega⟩
    · intro q q2
      apply q
      obtain ⟨q2, r6⟩ := q2
      obtain ⟨q2, r5⟩ := Classical.not_not.mp q2
      obtain ⟨q2, r4⟩ := Classical.not_not.mp q2
      obtain ⟨q2, r3⟩ := Classical.not_not.mp q2
      obtain ⟨q2, r2⟩ := Classical.not_not.mp q2
      obtain ⟨q2, r1⟩ := Classical.not_not.mp q2
      omega
  · rw [hm5, hm4, hm3, hm2, hm1, hm0]
    rfl
