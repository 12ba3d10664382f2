theorem md10 {x : Int32} (h : 0 ≤ x) : 0 ≤ x % 10 ∧ x % 10 < 10 := by
  have e : (x % 10).toInt = x.toInt.tmod 10 := Int32.toInt_mod x 10
  rw [ti_le] at h
  have e0 : (0 : Int32).toInt = 0 := rfl
  have e1 : (10 : Int32).toInt = 10 := rfl
  rw [ti_le, ti_lt, e, Int.tmod_eq_emod_of_nonneg (by omega)]
  omega
theorem md10s {x c : Int32} (h : c ≤ x) (h2 : x < 100) (hc : c = 40 ∨ c = 60) : (x - c) % 10 = x % 10 := by
  have e : (x % 10).toInt = x.toInt.tmod 10 := Int32.toInt_mod x 10
  have e2 : ((x - c) % 10).toInt = (x - c).toInt.tmod 10 := Int32.toInt_mod (x - c) 10
  rw [ti_le] at h
  rw [ti_lt] at h2
  have e4 : (40 : Int32).toInt = 40 := rfl
  have e6 : (60 : Int32).toInt = 60 := rfl
  have e1 : (100 : Int32).toInt = 100 := rfl
  rw [ti_eq, e, e2]
  rcases hc with rfl | rfl
  · rw [ti_sub (by omega) (by omega), Int.tmod_eq_emod_of_nonneg (by omega), Int.tmod_eq_emod_of_nonneg (by omega)]
    omega
  · rw [ti_sub (by omega) (by omega), Int.tmod_eq_emod_of_nonneg (by omega), Int.tmod_eq_emod_of_nonneg (by omega)]
    omega
theorem split16 {y : Int32} (h : 0 ≤ y) (h2 : y < 16) : ∃ a b : Int32, (0 ≤ a ∧ a < 4) ∧ (0 ≤ b ∧ b < 4) ∧ y = 4 * a + b ∧ y / 4 = a ∧ y % 4 = b := by
  have h3 : y.toNatClampNeg < 16 := by
    rw [ti_lt] at h2
    rw [ti_le] at h
    have e0 : (0 : Int32).toInt = 0 := rfl
    have e1 : (16 : Int32).toInt = 16 := rfl
    show y.toInt.toNat < 16
    omega
  rw [← cl_nI h]
  generalize y.toNatClampNeg = k at h3
  have all : ∀ k : Fin 16, 0 ≤ nI k / 4 ∧ nI k / 4 < 4 ∧ 0 ≤ nI k % 4 ∧ nI k % 4 < 4 ∧ nI k = 4 * (nI k / 4) + nI k % 4 := by decide +kernel
  have q := all ⟨k, h3⟩
  exact ⟨nI k / 4, nI k % 4, ⟨q.1, q.2.1⟩, ⟨q.2.2.1, q.2.2.2.1⟩, q.2.2.2.2, rfl, rfl⟩
theorem cl_lit9 {x : Int32} (h : 0 ≤ x) (h2 : x < 9) : (x = 0 ∧ x.toNatClampNeg = 0) ∨ (x = 1 ∧ x.toNatClampNeg = 1) ∨ (x = 2 ∧ x.toNatClampNeg = 2) ∨ (x = 3 ∧ x.toNatClampNeg = 3) ∨ (x = 4 ∧ x.toNatClampNeg = 4) ∨ (x = 5 ∧ x.toNatClampNeg = 5) ∨ (x = 6 ∧ x.toNatClampNeg = 6) ∨ (x = 7 ∧ x.toNatClampNeg = 7) ∨ (x = 8 ∧ x.toNatClampNeg = 8) := by
  have q : x = 0 ∨ x = 1 ∨ x = 2 ∨ x = 3 ∨ x = 4 ∨ x = 5 ∨ x = 6 ∨ x = 7 ∨ x = 8 := by grind
  rcases q with rfl | rfl | rfl | rfl | rfl | rfl | rfl | rfl | rfl <;> decide
def toldV (h : AH) (j : Nat) (x : Int32) : Int32 :=
  if x < 10 then (if x = 0 then gI h j 1 else if x = 1 then gI h j 2 else if x = 2 then gI h j 3 else if x = 3 then gI h j 6 else if x = 4 then gI h j 9 else if x = 5 then gI h j 10 else if x = 6 then gI h j 12 else if x = 7 then gI h j 13 else if x = 8 then gI h (j + 14) 0 else -1)
  else if x < 14 then gI h (j + 3) (x - 10).toNatClampNeg
  else if x < 20 then -1
  else if x < 36 then (if (x - 20) / 4 = (x - 20) % 4 then -1 else gI h (j + 18) (x - 20).toNatClampNeg)
  else if x < 40 then -1
  else if x < 60 then (if x % 10 < gI h j 3 then (if x < 50 then gI h (j + 1) (x % 10).toNatClampNeg else gI h (j + 2) (x % 10).toNatClampNeg) else -1)
  else if x < 80 then (if x % 10 < gI h (j + 14) 0 then (if x < 70 then gI h (j + 15) (x % 10).toNatClampNeg else gI h (j + 16) (x % 10).toNatClampNeg) else -1)
  else -1
theorem tv_a {h : AH} {j : Nat} {x : Int32} (a : x < 10) : toldV h j x = (if x = 0 then gI h j 1 else if x = 1 then gI h j 2 else if x = 2 then gI h j 3 else if x = 3 then gI h j 6 else if x = 4 then gI h j 9 else if x = 5 then gI h j 10 else if x = 6 then gI h j 12 else if x = 7 then gI h j 13 else if x = 8 then gI h (j + 14) 0 else -1) := by
  unfold toldV
  rw [if_pos a]
theorem tv_b {h : AH} {j : Nat} {x : Int32} (a : 10 ≤ x) (b : x < 14) : toldV h j x = gI h (j + 3) (x - 10).toNatClampNeg := by
  unfold toldV
  rw [if_neg (by grind), if_pos b]
theorem tv_c {h : AH} {j : Nat} {x : Int32} (a : 20 ≤ x) (b : x < 36) : toldV h j x = if (x - 20) / 4 = (x - 20) % 4 then -1 else gI h (j + 18) (x - 20).toNatClampNeg := by
  unfold toldV
  rw [if_neg (by grind), if_neg (by grind), if_neg (by grind), if_pos b]
theorem tv_d {h : AH} {j : Nat} {x : Int32} (a : 40 ≤ x) (b : x < 60) : toldV h j x = if x % 10 < gI h j 3 then (if x < 50 then gI h (j + 1) (x % 10).toNatClampNeg else gI h (j + 2) (x % 10).toNatClampNeg) else -1 := by
  unfold toldV
  rw [if_neg (by grind), if_neg (by grind), if_neg (by grind), if_neg (by grind), if_neg (by grind), if_pos b]
theorem tv_e {h : AH} {j : Nat} {x : Int32} (a : 60 ≤ x) (b : x < 80) : toldV h j x = if x % 10 < gI h (j + 14) 0 then (if x < 70 then gI h (j + 15) (x % 10).toNatClampNeg else gI h (j + 16) (x % 10).toNatClampNeg) else -1 := by
  unfold toldV
  rw [if_neg (by grind), if_neg (by grind), if_neg (by grind), if_neg (by grind), if_neg (by grind), if_neg (by grind), if_pos b]
theorem tv_n {h : AH} {j : Nat} {x : Int32} (a : x < 0 ∨ x = 9 ∨ (14 ≤ x ∧ x < 20) ∨ (36 ≤ x ∧ x < 40) ∨ 80 ≤ x) : toldV h j x = -1 := by
  by_cases c : x < 10
  · rw [tv_a c]
    have q : x ≠ 0 ∧ x ≠ 1 ∧ x ≠ 2 ∧ x ≠ 3 ∧ x ≠ 4 ∧ x ≠ 5 ∧ x ≠ 6 ∧ x ≠ 7 ∧ x ≠ 8 := by grind
    rw [if_neg q.1, if_neg q.2.1, if_neg q.2.2.1, if_neg q.2.2.2.1, if_neg q.2.2.2.2.1, if_neg q.2.2.2.2.2.1, if_neg q.2.2.2.2.2.2.1, if_neg q.2.2.2.2.2.2.2.1, if_neg q.2.2.2.2.2.2.2.2]
  · unfold toldV
    rw [if_neg c, if_neg (by grind)]
    by_cases c2 : x < 20
    · rw [if_pos c2]
    · rw [if_neg c2, if_neg (by grind)]
      by_cases c3 : x < 40
      · rw [if_pos c3]
      · rw [if_neg c3, if_neg (by grind), if_neg (by grind)]
theorem told_ref {j : Nat} {h : AH} (I : Inv j h) (x v : Int32) (hv : v = toldV h j x) : Call mX12_told [.ref 116, .int x] h (fun v2 h2 => v2 = some (.int v) ∧ (∃ z : Int32, some (Value.int v) = some (.int z)) ∧ ∃ j, Inv j h2) := by
  have w := I.1
  obtain ⟨-, hj, -, -, ⟨⟨-, n0, n1, n2, n3, n4, n5, n6, n7, n8⟩, ⟨jm, js, -, jp, jl⟩, -⟩, -, -, -, -, -⟩ := id I
  have done : ∀ u : Int32, u = v → (fun (v2 : Option Value) (h2 : AH) => v2 = some (.int v) ∧ (∃ z : Int32, some (Value.int v) = some (.int z)) ∧ ∃ j, Inv j h2) (some (.int u)) h := fun u hu => ⟨by rw [hu], ⟨_, rfl⟩, j, I⟩
  generalize (fun (v2 : Option Value) (h2 : AH) => v2 = some (.int v) ∧ (∃ z : Int32, some (Value.int v) = some (.int z)) ∧ ∃ j, Inv j h2) = P at done ⊢
  clear I
  refine Call.ofR (by decide +kernel) (Nat.le_of_ble_eq_true rfl) (sX12_told_0 h 116 x ?_)
  rw [w.f116_11, w.f116_12, w.f116_13, w.f116_14, w.f116_17, w.f116_18, w.f116_19]
  have c2 : (Int32.toNatClampNeg 2) = 2 := rfl
  have c8 : (Int32.toNatClampNeg 8) = 8 := rfl
  rw [c2, c8, ← n2.1, ← n8.1]
  have hm : inr (gI h j 3) 0 8 := n2.2
  have hs : inr (gI h (j + 14) 0) 0 8 := n8.2
  unfold inr at hm hs
  refine ⟨fun a1 => ⟨fun a2 => ⟨fun a3 => ⟨fun a4 => ⟨w.o (by decide) rfl, w.a (by decide) rfl, ?_, w.a (by decide) rfl, ?_, w.a (by decide) rfl, ?_, ?_⟩, fun a4 => ⟨w.o (by decide) rfl, w.a (by decide) rfl, ?_, w.a (by decide) rfl, ?_, w.a (by decide) rfl, ?_, ?_⟩⟩, fun a3 => ⟨w.o (by decide) rfl, w.a (by decide) rfl, ?_, ?_⟩⟩, fun a2 => ⟨w.o (by decide) rfl, w.a (by decide) rfl, ?_, ?_⟩⟩, fun a1 => ⟨w.o (by decide) rfl, w.a (by decide) rfl, ?_, ?_⟩⟩
  · intro _; show vp_in 8 18; rw [vin_18]; decide
  · intro b1 b2 _; show vp_in _ 16; rw [vin_16]; have := md10 (x := x) (by grind); grind
  · intro b1 b2 _; show vp_in _ 16; rw [vin_16]; have := md10 (x := x) (by grind); grind
  · rintro z rfl
    refine done _ ?_
    rw [hv]
    clear done hv n0 n1 n2 n3 n4 n5 n6 n7 n8 jm js jl w hj
    by_cases b : ¬ x < 60 ∧ ¬ 79 < x
    · have q := md10 (x := x) (by grind)
      have q2 := jp (x % 10) q.1
      rw [tv_e (by grind) (by grind), if_pos b]
      clear jp
      grind
    · rw [tv_n (by grind), if_neg b]
  · show vp_in 2 18; rw [vin_18]; decide
  · intro b1 _; show vp_in _ 16; rw [vin_16]; have := md10 (x := x) (by grind); grind
  · intro b1 _; show vp_in _ 16; rw [vin_16]; have := md10 (x := x) (by grind); grind
  · rintro z rfl
    refine done _ ?_
    rw [hv]
    clear done hv n0 n1 n2 n3 n4 n5 n6 n7 n8 jp js jl w hj
    have q := md10 (x := x) (by grind)
    have q2 := jm (x % 10) q.1
    rw [tv_d (by grind) (by grind)]
    clear jm
    grind
  · show vp_in _ 32; rw [vin_32]; grind
  · refine done _ ?_
    rw [hv]
    clear done hv n0 n1 n2 n3 n4 n5 n6 n7 n8 jp js jm w hj
    rw [tv_c (by grind) (by grind)]
    obtain ⟨a, b, ha, hb, e1, e2, e3⟩ := split16 (y := x - 20) (by grind) (by grind)
    have q := jl a b ha.1 ha.2 hb.1 hb.2
    rw [← e1] at q
    rw [e2, e3]
    grind
  · show vp_in _ 8; rw [vin_8]; grind
  · refine done _ ?_
    rw [hv, tv_b (by grind) (by grind)]
    exact (js (x - 10) (by grind) (by grind)).1.symm
  · show vp_in _ 18; rw [vin_18]; grind
  · refine done _ ?_
    rw [hv, tv_a (by grind)]
    rcases cl_lit9 (x := x) (by grind) (by grind) with ⟨rfl, q⟩ | ⟨rfl, q⟩ | ⟨rfl, q⟩ | ⟨rfl, q⟩ | ⟨rfl, q⟩ | ⟨rfl, q⟩ | ⟨rfl, q⟩ | ⟨rfl, q⟩ | ⟨rfl, q⟩ <;> rw [q]
    · exact n0.1.symm
    · exact n1.1.symm
    · exact n2.1.symm
    · exact n3.1.symm
    · exact n4.1.symm
    · exact n5.1.symm
    · exact n6.1.symm
    · exact n7.1.symm
    · exact n8.1.symm
theorem pr_told {j : Nat} {h : AH} (I : Inv j h) (x : Int32) : Pair mX11_told mX12_told [.int x] h := by
  have w := I.1
  obtain ⟨-, hj, -, -, ⟨⟨-, -, -, n2, -, -, -, -, -, n8⟩, -⟩, -, -, -, -, -⟩ := id I
  obtain ⟨hO, hO8, f4, f5, f7, f8, f11, f14, f15, g1, g2, g3⟩ := job_refs w hj
  obtain ⟨⟨a1, l1⟩, ⟨a2, l2⟩, ⟨a3, l3⟩, -, -, ⟨a15, l15⟩, ⟨a16, l16⟩, -, ⟨a18, l18⟩⟩ := job_arrs w hj
  have ref := told_ref I x
  have hm : inr (gI h j 3) 0 8 := n2.2
  have hs : inr (gI h (j + 14) 0) 0 8 := n8.2
  unfold inr at hm hs
  clear I n2 n8
  refine Call.ofR (by decide +kernel) (Nat.le_of_ble_eq_true rfl) (sX11_told_0 h 0 x ?_)
  rw [hj, f14, f15, f7, l3, l18, show Int32.ofNat 16 = 16 from rfl]
  have wo : isO h 11 0 := w.o (by decide) rfl
  refine ⟨fun b1 => ⟨fun b2 => ⟨fun b3 => ⟨fun b4 => ⟨fun b5 => ⟨fun b6 => ⟨fun b7 => ref _ (by rw [tv_n (by grind)]), fun b7 => ⟨wo, hO, hO8, ?_⟩⟩, fun b6 => ⟨wo, hO, ?_⟩⟩, fun b5 => ref _ (by rw [tv_n (by grind)])⟩, fun b4 => ⟨wo, hO, a18, ?_, ?_⟩⟩, fun b3 => ref _ (by rw [tv_n (by grind)])⟩, fun b2 => ⟨wo, hO, a3, ?_, ?_⟩⟩, fun b1 => ⟨wo, hO, ?_⟩⟩
  · have q := md10 (x := x) (by grind)
    rw [md10s (x := x) (c := 60) (by grind) (by grind) (Or.inr rfl)]
    refine Call.ofR (by decide +kernel) (Nat.le_of_ble_eq_true rfl) (sX8_stepOf_0 h (j + 14) _ _ ?_)
    rw [g1, g2, l15, l16]
    refine ⟨hO8, fun c => ⟨a15, fun _ => by rw [vin_8]; grind, a16, fun _ => by rw [vin_8]; grind, ?_⟩, fun c => ⟨_, rfl, ref _ (by rw [tv_e (by grind) (by grind), if_neg (by grind)])⟩⟩
    rintro z rfl
    refine ⟨_, rfl, ref _ ?_⟩
    rw [tv_e (by grind) (by grind), if_pos (show x % 10 < gI h (j + 14) 0 by grind)]
    unfold bi
    grind
  · have q := md10 (x := x) (by grind)
    rw [md10s (x := x) (c := 40) (by grind) (by grind) (Or.inl rfl)]
    refine Call.ofR (by decide +kernel) (Nat.le_of_ble_eq_true rfl) (sX3_markNumber_0 h j _ _ ?_)
    rw [f4, f5, l1, l2]
    refine ⟨fun c => absurd c (by grind), fun c => ⟨hO, fun c2 => ⟨a1, fun _ => by rw [vin_8]; grind, a2, fun _ => by rw [vin_8]; grind, ?_⟩, fun c2 => ⟨_, rfl, ref _ (by rw [tv_d (by grind) (by grind), if_neg (by grind)])⟩⟩⟩
    rintro z rfl
    refine ⟨_, rfl, ref _ ?_⟩
    rw [tv_d (by grind) (by grind), if_pos (show x % 10 < gI h j 3 by grind)]
    unfold bi
    grind
  · rw [vin_16]; grind
  · refine ref _ ?_
    rw [tv_c (by grind) (by grind)]
    have e : ¬ (x - 20) < 0 ∧ ¬ 16 ≤ (x - 20) := by grind
    grind
  · rw [vin_4]; grind
  · exact ref _ (by rw [tv_b (by grind) (by grind)])
  · refine aX3_plainNumber hO (by rw [f14]; exact hO8) ?_
    rw [f14]
    exact ⟨_, rfl, ref _ (by rw [tv_a (by grind)])⟩
