/-! what the class reads, clause by clause -/
def CX (h : AH) (b : Nat → Int32) (L d : Nat) (x : JS × DD) : Prop := Wf h ∧ (d = 4 ∨ d = 23) ∧ gF h 1 3 = d ∧ gI h 3 = b ∧ L ≤ 900 ∧ CS h L x.1 ∧ DC h d x.2
theorem CX.d4 {h : AH} {b : Nat → Int32} {L d : Nat} {x : JS × DD} (X : CX h b L d x) : 4 ≤ d := by
  rcases X.2.1 with e | e <;> omega
theorem jf {h : AH} (w : Wf h) {d : Nat} (hd : d = 4 ∨ d = 23) : gF h d 4 = d + 1 ∧ gF h d 5 = d + 2 ∧ gF h d 7 = d + 3 ∧ gF h d 8 = d + 4 ∧ gF h d 11 = d + 5 ∧ gF h d 14 = d + 14 ∧ gF h d 15 = d + 18 ∧ gF h (d + 14) 1 = d + 15 ∧ gF h (d + 14) 2 = d + 16 := by
  rcases hd with rfl | rfl
  · exact ⟨w.f4_4, w.f4_5, w.f4_7, w.f4_8, w.f4_11, w.f4_14, w.f4_15, w.f18_1, w.f18_2⟩
  · exact ⟨w.f23_4, w.f23_5, w.f23_7, w.f23_8, w.f23_11, w.f23_14, w.f23_15, w.f37_1, w.f37_2⟩
theorem jb {h : AH} (w : Wf h) {d : Nat} (hd : d = 4 ∨ d = 23) {i : Nat} (hi : i < 4) : gF h (d + 5) i = d + 6 + 2 * i ∧ gF h (d + 6 + 2 * i) 0 = d + 7 + 2 * i ∧ isO h 0 (d + 6 + 2 * i) ∧ isA h 1 (d + 7 + 2 * i) ∧ ln (d + 7 + 2 * i) = 4 := by
  have hi4 : i = 0 ∨ i = 1 ∨ i = 2 ∨ i = 3 := by omega
  rcases hd with rfl | rfl
  · rcases hi4 with rfl | rfl | rfl | rfl
    · exact ⟨w.f9_0, w.f10_0, w.o (by decide) rfl, w.a (by decide) rfl, rfl⟩
    · exact ⟨w.f9_1, w.f12_0, w.o (by decide) rfl, w.a (by decide) rfl, rfl⟩
    · exact ⟨w.f9_2, w.f14_0, w.o (by decide) rfl, w.a (by decide) rfl, rfl⟩
    · exact ⟨w.f9_3, w.f16_0, w.o (by decide) rfl, w.a (by decide) rfl, rfl⟩
  · rcases hi4 with rfl | rfl | rfl | rfl
    · exact ⟨w.f28_0, w.f29_0, w.o (by decide) rfl, w.a (by decide) rfl, rfl⟩
    · exact ⟨w.f28_1, w.f31_0, w.o (by decide) rfl, w.a (by decide) rfl, rfl⟩
    · exact ⟨w.f28_2, w.f33_0, w.o (by decide) rfl, w.a (by decide) rfl, rfl⟩
    · exact ⟨w.f28_3, w.f35_0, w.o (by decide) rfl, w.a (by decide) rfl, rfl⟩
theorem jo {h : AH} (w : Wf h) {d : Nat} (hd : d = 4 ∨ d = 23) : isO h 3 d ∧ isO h 8 (d + 14) ∧ isA h 0 (d + 1) ∧ isA h 0 (d + 2) ∧ isA h 0 (d + 3) ∧ isA h 0 (d + 4) ∧ isA h 3 (d + 5) ∧ isA h 0 (d + 15) ∧ isA h 0 (d + 16) ∧ isA h 0 (d + 18) := by
  rcases hd with rfl | rfl
  · exact ⟨w.o (by decide) rfl, w.o (by decide) rfl, w.a (by decide) rfl, w.a (by decide) rfl, w.a (by decide) rfl, w.a (by decide) rfl, w.a (by decide) rfl, w.a (by decide) rfl, w.a (by decide) rfl, w.a (by decide) rfl⟩
  · exact ⟨w.o (by decide) rfl, w.o (by decide) rfl, w.a (by decide) rfl, w.a (by decide) rfl, w.a (by decide) rfl, w.a (by decide) rfl, w.a (by decide) rfl, w.a (by decide) rfl, w.a (by decide) rfl, w.a (by decide) rfl⟩
theorem jl {d : Nat} (hd : d = 4 ∨ d = 23) : ln (d + 1) = 8 ∧ ln (d + 2) = 8 ∧ ln (d + 3) = 4 ∧ ln (d + 4) = 36 ∧ ln (d + 5) = 4 ∧ ln (d + 15) = 8 ∧ ln (d + 16) = 8 ∧ ln (d + 18) = 16 := by
  rcases hd with rfl | rfl
  · exact ⟨rfl, rfl, rfl, rfl, rfl, rfl, rfl, rfl⟩
  · exact ⟨rfl, rfl, rfl, rfl, rfl, rfl, rfl, rfl⟩
theorem CX.kt {h h3 : AH} {b : Nat → Int32} {L d : Nat} {s s2 : JS} {D : DD} (X : CX h b L d (s, D)) (K : KT h h3) (C : CS h3 L s2) : CX h3 b L d (s2, D) :=
  ⟨K.w X.1, X.2.1, (K.1.2.1 1 3).trans X.2.2.1, K.b.trans X.2.2.2.1, X.2.2.2.2.1, C, X.2.2.2.2.2.2.ag X.d4 K⟩
theorem CX.set {h : AH} {b : Nat → Int32} {L d : Nat} {s : JS} {D : DD} (X : CX h b L d (s, D)) {r k : Nat} (hr : r < 19) (hr2 : d + r ∈ dr d) (v : Int32) : CX (sI h (d + r) k v) b L d (s, u D r k v) := by
  have d4 := X.d4
  have e : ∀ q, q < 4 → gI (sI h (d + r) k v) q = gI h q := fun q hq => funext fun z => rd_r (by omega)
  exact ⟨(Fr.sI hr2).wf X.1, X.2.1, X.2.2.1, (e 3 (by omega)).trans X.2.2.2.1, X.2.2.2.2.1, X.2.2.2.2.2.1.ag (congrFun (e 1 (by omega)) 4) (congrFun (e 1 (by omega)) 5) (e 2 (by omega)) (e 3 (by omega)), X.2.2.2.2.2.2.set d4 hr v⟩
theorem CX.msk {h : AH} {b : Nat → Int32} {L d : Nat} {s : JS} {D : DD} (X : CX h b L d (s, D)) {k : Nat} (hk : k = 1 ∨ k = 2) (v : Int32) : CX (sI h 1 k v) b L d (s, u D 200 k v) := by
  have d4 := X.d4
  refine ⟨(Fr.sI (S := dr d) (by simp [dr])).wf X.1, X.2.1, X.2.2.1, X.2.2.2.1, X.2.2.2.2.1, X.2.2.2.2.2.1.ag ?_ ?_ rfl rfl, X.2.2.2.2.2.2.msk d4 hk v⟩
  · exact rd_k (by omega)
  · exact rd_k (by omega)
theorem k_nb {h : AH} {P : Option Value → AH → Prop} {b : Nat → Int32} {L d : Nat} {s : JS} {D : DD} (X : CX h b L d (s, D)) {lo hi : Int32} (k : ∀ h3, Fr (dr d) h h3 → CX h3 b L d ((jnb b L lo hi s).2, D) → P (some (.int (jnb b L lo hi s).1)) h3) : Call mX4_number [.ref 1, .int lo, .int hi] h P := by
  obtain ⟨w, hd, g, hb, hL, C, H⟩ := id X
  subst hb
  exact c4_nb w hL C fun h3 K A => k h3 K.jd (X.kt K A)
theorem k_sg {h : AH} {P : Option Value → AH → Prop} {b : Nat → Int32} {L d : Nat} {s : JS} {D : DD} (X : CX h b L d (s, D)) {hi : Int32} (k : ∀ h3, Fr (dr d) h h3 → CX h3 b L d ((jsg b L hi s).2, D) → P (some (.int (jsg b L hi s).1)) h3) : Call mX4_signedNumber [.ref 1, .int hi] h P := by
  obtain ⟨w, hd, g, hb, hL, C, H⟩ := id X
  subst hb
  exact c4_sg w hL C fun h3 K A => k h3 K.jd (X.kt K A)
theorem k_nk {h : AH} {P : Option Value → AH → Prop} {b : Nat → Int32} {L d : Nat} {s : JS} {D : DD} (X : CX h b L d (s, D)) (k : ∀ h3, Fr (dr d) h h3 → CX h3 b L d ((jnk b L s).2, D) → P (some (.int (jnk b L s).1)) h3) : Call mX4_ink [.ref 1] h P := by
  obtain ⟨w, hd, g, hb, hL, C, H⟩ := id X
  subst hb
  exact c4_nk w hL C fun h3 K A => k h3 K.jd (X.kt K A)
theorem k_ref {h : AH} {P : Option Value → AH → Prop} {b : Nat → Int32} {L d : Nat} {s : JS} {D : DD} (X : CX h b L d (s, D)) {x : Int32} (k : ∀ h3, Fr (dr d) h h3 → CX h3 b L d (jrf b L x s, D) → P none h3) : Call mX4_refuse [.ref 1, .int x] h P := by
  obtain ⟨w, hd, g, hb, hL, C, H⟩ := id X
  subst hb
  exact c4_ref w C fun h3 F a1 a2 A => k h3 (KT.jd ⟨F.sub (by decide), a1, a2⟩) (X.kt ⟨F.sub (by decide), a1, a2⟩ A)
def jtw (b : Nat → Int32) (L : Nat) (c : Int32) (x : JS × DD) : JS × DD := (if ((x.2 200 1) >>> (c &&& 31)) &&& 1 = 0 then x.1 else jrf b L 3 x.1, u x.2 200 1 ((x.2 200 1) ||| ((1 : Int32) <<< (c &&& 31))))
theorem k_tw {h : AH} {P : Option Value → AH → Prop} {b : Nat → Int32} {L d : Nat} {s : JS} {D : DD} (X : CX h b L d (s, D)) {c : Int32} (k : ∀ h3, Fr (dr d) h h3 → CX h3 b L d (jtw b L c (s, D)) → P none h3) : Call mX4_refuseTwice [.ref 1, .int c] h P := by
  have w := X.1
  have e1 := X.2.2.2.2.2.2.2.2.1
  refine Call.ofR (by decide +kernel) (Nat.le_of_ble_eq_true rfl) (sX4_refuseTwice_0 h 1 c ?_)
  rw [e1]
  refine ⟨w.o (by decide) rfl, fun e => ?_, fun e => ?_⟩
  · refine k _ (Fr.sI (by simp [dr])) ?_
    rw [jtw, if_pos e]
    exact X.msk (Or.inl rfl) _
  · refine k_ref X fun h3 F Y => ⟨rfl, Y.1.o (by decide) rfl, k _ (F.tr (Fr.sI (by simp [dr]))) ?_⟩
    rw [jtw, if_neg e, Y.2.2.2.2.2.2.2.2.1]
    exact Y.msk (Or.inl rfl) _
