/-! JOB, the class: the start -/
theorem fg_loop {h0 hs : AH} {P : Option Value → AH → Prop} {d : Nat} (hd : d = 4 ∨ d = 23) (kk : ∀ h9, Fr (dr d) h0 h9 → gI h9 = gI hs → (∀ i q, i < 4 → q < 4 → gL h9 (d + 7 + 2 * i) q = 0) → P none (fillI (sI (sI (sI h9 d 12 3) d 13 1) (d + 14) 0 0) (d + 18) 100 0)) : ∀ (m i : Nat) (h : AH), i + m = 4 → Wf h → Fr (dr d) h0 h → gI h = gI hs → (∀ j q, j < i → q < 4 → gL h (d + 7 + 2 * j) q = 0) → Rr mX3_forget 0 0 47 [(0, .ref d), (1, .int (nI i))] [] h P
  | 0, i, h, hi, w, F, e, z => by
    have ei : i = 4 := by omega
    subst ei
    refine sX3_forget_47 h d _ ⟨fun _ => ?_, fun q => absurd (by decide) q⟩
    have w2 : Wf (sI (sI (sI h d 12 3) d 13 1) (d + 14) 0 0) := (((Fr.sI (by simp [dr])).tr (Fr.sI (by simp [dr]))).tr (Fr.sI (S := dr d) (by simp [dr]))).wf w
    rw [(jf w hd).2.2.2.2.2.1, (jf w hd).2.2.2.2.2.2.1]
    exact ⟨(jo w hd).1, (jo w hd).2.1, c_fillI (jo w2 hd).2.2.2.2.2.2.2.2.2 ⟨rfl, kk h F e z⟩⟩
  | m + 1, i, h, hi, w, F, e, z => by
    have i4 : i < 4 := by omega
    have B := jb w hd i4
    refine sX3_forget_47 h d _ ⟨fun q => absurd q ?_, fun _ => ?_⟩
    · show ¬ nI 4 ≤ nI i
      rw [nI_leI (by omega) (by omega)]
      omega
    rw [(jf w hd).2.2.2.2.1, (jl hd).2.2.2.2.1, nI_clamp (by omega), B.1]
    refine ⟨(jo w hd).1, (jo w hd).2.2.2.2.2.2.1, vp_in_nI i4 (by decide), B.2.2.1, ?_⟩
    refine Call.ofR (by decide +kernel) (Nat.le_of_ble_eq_true rfl) (sX0_clear_0 h _ ⟨B.2.2.1, ?_⟩)
    rw [B.2.1]
    refine c_fillL B.2.2.2.1 ⟨rfl, rfl, ?_⟩
    have F2 : Fr (dr d) h (fillL h (d + 7 + 2 * i) 0 0) := Fr.rL (by simp [dr]; omega)
    rw [nI_1]
    refine fg_loop hd kk m (i + 1) _ (by omega) (F2.wf w) (F.tr F2) e fun j q hj hq => ?_
    unfold fillL
    rw [gL_rL]
    by_cases c : d + 7 + 2 * j = d + 7 + 2 * i
    · rw [if_pos c, if_pos ⟨Nat.zero_le _, by rw [B.2.2.2.2]; exact hq⟩]
    · rw [if_neg c]
      exact z j q (by omega) hq
/-- a fresh draft -/
def J0 (D : DD) : Prop := (D 0 0 = 0 ∧ D 0 1 = 100 ∧ D 0 2 = 100 ∧ D 0 3 = 0 ∧ D 0 6 = 1 ∧ D 0 9 = 2 ∧ D 0 10 = 0 ∧ D 0 12 = 3 ∧ D 0 13 = 1 ∧ D 14 0 = 0) ∧ (∀ i, i < 4 → D 3 i = 0) ∧ (∀ i y, i < 4 → y < 16 → D (100 + i) y = 0) ∧ (∀ q, q < 16 → D 18 q = 100)
/-- the draft that stands in the cells -/
def dof (h : AH) (d : Nat) : DD := fun r k => if r < 19 then gI h (d + r) k else if r = 200 then gI h 1 k else brow h (d + 7 + 2 * (r - 100)) k
theorem dof_DC (h : AH) (d : Nat) : DC h d (dof h d) := by
  refine ⟨fun r k hr => ?_, fun i y hi hy => ?_, rfl, rfl⟩
  · rw [dof, if_pos hr]
  · rw [dof, if_neg (by omega), if_neg (by omega), show 100 + i - 100 = i by omega]
theorem brow_0 {h : AH} {r y : Nat} (hy : y < 16) (e : ∀ q, q < 4 → gL h r q = 0) : brow h r y = 0 := by
  refine b_ext fun i hi => ?_
  rw [brow_bt, e _ (by omega), lb_0, b_0, Bool.and_false]
theorem c3_forget {h : AH} {P : Option Value → AH → Prop} (w : Wf h) {d : Nat} (hd : d = 4 ∨ d = 23) (k : ∀ h3, Fr (dr d) h h3 → (∀ q, gI h3 2 q = gI h 2 q) → J0 (dof h3 d) → P none h3) : Call mX3_forget [.ref d] h P := by
  refine Call.ofR (by decide +kernel) (Nat.le_of_ble_eq_true rfl) (sX3_forget_0 h d ?_)
  rw [(jf w hd).2.2.1]
  have F1 : Fr (dr d) h (sI (sI (sI (sI (sI h d 0 0) d 1 100) d 2 100) d 3 0) d 6 1) := ((((Fr.sI (by simp [dr])).tr (Fr.sI (by simp [dr]))).tr (Fr.sI (by simp [dr]))).tr (Fr.sI (by simp [dr]))).tr (Fr.sI (by simp [dr]))
  refine ⟨(jo w hd).1, c_fillI (jo (F1.wf w) hd).2.2.2.2.1 ⟨rfl, ?_⟩⟩
  have F2 : Fr (dr d) h (fillI (sI (sI (sI (sI (sI h d 0 0) d 1 100) d 2 100) d 3 0) d 6 1) (d + 3) 0 0) := F1.tr (Fr.rI (by simp [dr]))
  have F3 := (F2.tr (Fr.sI (r := d) (k := 9) (x := 2) (by simp [dr]))).tr (Fr.sI (r := d) (k := 10) (x := 0) (by simp [dr]))
  refine ⟨(jo (F2.wf w) hd).1, ?_⟩
  refine fg_loop (h0 := h) hd (fun h9 F9 e9 z9 => k _ ((((F9.tr (Fr.sI (by simp [dr]))).tr (Fr.sI (by simp [dr]))).tr (Fr.sI (by simp [dr]))).tr (Fr.rI (by simp [dr]))) (fun q => by rcases hd with rfl | rfl <;> exact congrFun (congrFun e9 2) q) ?_) 4 0 _ rfl (F3.wf w) F3 rfl (fun j q hj => absurd hj (by omega))
  have z : ∀ i y, i < 4 → y < 16 → brow h9 (d + 7 + 2 * i) y = 0 := fun i y hi hy => brow_0 hy fun q hq => z9 i q hi hq
  refine ⟨?_, fun i hi => ?_, fun i y hi hy => ?_, fun q hq => ?_⟩
  · rcases hd with rfl | rfl
    · exact ⟨congrFun (congrFun e9 4) 0, congrFun (congrFun e9 4) 1, congrFun (congrFun e9 4) 2, congrFun (congrFun e9 4) 3, congrFun (congrFun e9 4) 6, congrFun (congrFun e9 4) 9, congrFun (congrFun e9 4) 10, rfl, rfl, rfl⟩
    · exact ⟨congrFun (congrFun e9 23) 0, congrFun (congrFun e9 23) 1, congrFun (congrFun e9 23) 2, congrFun (congrFun e9 23) 3, congrFun (congrFun e9 23) 6, congrFun (congrFun e9 23) 9, congrFun (congrFun e9 23) 10, rfl, rfl, rfl⟩
  · have i4 : i = 0 ∨ i = 1 ∨ i = 2 ∨ i = 3 := by omega
    rcases hd with rfl | rfl
    · rcases i4 with rfl | rfl | rfl | rfl
      · exact congrFun (congrFun e9 7) 0
      · exact congrFun (congrFun e9 7) 1
      · exact congrFun (congrFun e9 7) 2
      · exact congrFun (congrFun e9 7) 3
    · rcases i4 with rfl | rfl | rfl | rfl
      · exact congrFun (congrFun e9 26) 0
      · exact congrFun (congrFun e9 26) 1
      · exact congrFun (congrFun e9 26) 2
      · exact congrFun (congrFun e9 26) 3
  · rw [dof, if_neg (by omega), if_neg (by omega), show 100 + i - 100 = i by omega]
    exact z i y hi hy
  · rw [dof, if_pos (by decide)]
    unfold fillI
    rw [gI_rI, if_pos rfl, if_pos ⟨Nat.zero_le _, by rw [(jl hd).2.2.2.2.2.2.2]; exact hq⟩]
