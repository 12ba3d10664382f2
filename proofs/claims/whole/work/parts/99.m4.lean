/-! the draft keeps its ranges -/
theorem i4c {b : Nat → Int32} {L : Nat} {s : JS} : (jnk b L s).1.toNatClampNeg < 4 := by
  have := vp_in_iff.1 (vin_4.2 (jnk_rng b L s))
  show (jnk b L s).1.toInt.toNat < 4
  omega
theorem dok_one {b : Nat → Int32} {L : Nat} {c hi : Int32} {q : Nat} {x : JS × DD} (K : DOK x.2) (h : (q = 6 ∧ hi = 9) ∨ (q = 9 ∧ hi = 4) ∨ (q = 12 ∧ hi = 99) ∨ (q = 13 ∧ hi = 99)) : DOK (jone b L c hi q x).2 := by
  have K2 : DOK (jtw b L c x).2 := dok_200 K
  refine dok_n K2 ?_
  rcases h with ⟨rfl, rfl⟩ | ⟨rfl, rfl⟩ | ⟨rfl, rfl⟩ | ⟨rfl, rfl⟩
  · exact Or.inr (Or.inr (Or.inl ⟨rfl, jnb_rng b L (by decide) _⟩))
  · exact Or.inr (Or.inr (Or.inr (Or.inl ⟨rfl, jnb_rng b L (by decide) _⟩)))
  · exact Or.inr (Or.inr (Or.inr (Or.inr (Or.inr (Or.inl ⟨rfl, jnb_rng b L (by decide) _⟩)))))
  · exact Or.inr (Or.inr (Or.inr (Or.inr (Or.inr (Or.inr (Or.inl ⟨rfl, jnb_rng b L (by decide) _⟩))))))
theorem le_200 {v w : Int32} (a : 0 ≤ v ∧ v ≤ w) (c : w ≤ 200) : inr v 0 200 := ⟨a.1, by have := a.2; grind⟩
theorem ge_10 {w : Int32} (c : 10 ≤ w) : 0 ≤ w := by grind
theorem in_18 {k : Int32} (c : 0 ≤ k) (d : k < 8) : inr (k + 1) 0 8 := ⟨by grind, by grind⟩
theorem dok_cl {b : Nat → Int32} {L : Nat} {z : Int32} {x : JS × DD} (K : DOK x.2) : DOK (jcl b L z x).2 := by
  unfold jcl
  split
  · unfold jsheet jsh2
    exact dok_n (dok_n (dok_200 K) (Or.inl ⟨rfl, jnb_rng b L (by decide) _⟩)) (Or.inr (Or.inl ⟨rfl, jnb_rng b L (by decide) _⟩))
  split
  · exact dok_one K (by decide)
  split
  · exact dok_one K (by decide)
  split
  · exact dok_one K (by decide)
  split
  · exact dok_one K (by decide)
  split
  · unfold jmark
    split
    · next q => exact dok_1 K rfl q (le_200 (jnb_rng b L (ge_10 K.1.1.1) _) K.1.1.2) (le_200 (jnb_rng b L (ge_10 K.1.2.1.1) _) K.1.2.1.2)
    · exact K
  split
  · unfold jscrew
    split
    · next q => exact dok_4 K (jnk_rng b L x.1) rfl ⟨(K.2.2.1 _ i4c).1, q⟩ (jsg_rng _) (jsg_rng _) (jsg_rng _)
    · exact K
  split
  · unfold jbox
    split
    · next q =>
      unfold jbox2
      exact dok_n (dok_bx K i4c) (Or.inr (Or.inr (Or.inr (Or.inr (Or.inl ⟨rfl, in_18 K.1.2.2.2.2.2.1.1 q⟩)))))
    · exact K
  split
  · unfold jscreen
    split
    · next q => exact dok_15 K rfl q (jnb_rng b L (by decide) _) (jnb_rng b L (by decide) _)
    · exact K
  split
  · exact dok_18 (dok_200 K) (jnb_rng b L (by decide) _)
  · exact K
theorem dok_se {b : Nat → Int32} {L : Nat} {x : JS × DD} (K : DOK x.2) : DOK (jse b L x).2 := by
  unfold jse
  split
  · split
    · exact dok_n K (by simp)
    · exact K
  · exact K
theorem m_kc {h : AH} {b : Nat → Int32} {L q : Nat} (X : MX h b L q) : (∃ c, c < 10 ∧ (if gI h 116 3 = 1 then gI h 116 4 else -1) = nI (kc 0 c) ∧ wrd b L 0 q = nI c) ∨ ((∀ v : Nat, 4 ≤ v → v ≤ 13 → ¬ (if gI h 116 3 = 1 then gI h 116 4 else -1) = nI v) ∧ wrd b L 0 q = -1) := by
  have A := X.2.2.2.2.2
  have s10 : sln 0 / 8 = 10 := by decide
  by_cases h1 : tk b L q = 1
  · have e1 : gI h 116 3 = 1 := by rw [A.2.1]; exact (ms_2 b L q).2.2.2.1.2 h1
    have K := A.2.2.2.2.1 h1
    rw [if_pos e1]
    rcases wrd_key (j := 0) (by decide) h1 K with ⟨c, c1, c2, c3⟩ | ⟨c1, c2⟩
    · exact Or.inl ⟨c, by omega, c2, c3⟩
    · refine Or.inr ⟨fun v v4 v13 e => ?_, c2⟩
      have t : ∀ v : Fin 14, 4 ≤ v.val → ∃ c : Fin 10, kc 0 c.val = v.val := by decide
      obtain ⟨c, hc⟩ := t ⟨v, by omega⟩ v4
      refine c1 c.val (by rw [s10]; exact c.isLt) ?_
      rw [e, hc]
  · have e1 : ¬ gI h 116 3 = 1 := fun q2 => h1 ((ms_2 b L q).2.2.2.1.1 (by rw [← A.2.1]; exact q2))
    rw [if_neg e1]
    refine Or.inr ⟨fun v v4 v13 e => ?_, by rw [wrd, if_neg h1]⟩
    exact nI_ne1 (o := v) (by omega) e.symm
theorem jcl_0 {b : Nat → Int32} {L : Nat} {x : JS × DD} : jcl b L (nI 0) x = jsheet b L x := by
  rw [jcl, if_pos (show nI 0 = 0 by decide)]
theorem jcl_1 {b : Nat → Int32} {L : Nat} {x : JS × DD} : jcl b L (nI 1) x = jone b L 1 9 6 x := by
  rw [jcl, if_neg (show ¬ nI 1 = 0 by decide), if_pos (show nI 1 = 1 by decide)]
theorem jcl_2 {b : Nat → Int32} {L : Nat} {x : JS × DD} : jcl b L (nI 2) x = jone b L 2 4 9 x := by
  rw [jcl, if_neg (show ¬ nI 2 = 0 by decide), if_neg (show ¬ nI 2 = 1 by decide), if_pos (show nI 2 = 2 by decide)]
theorem jcl_3 {b : Nat → Int32} {L : Nat} {x : JS × DD} : jcl b L (nI 3) x = jone b L 3 99 12 x := by
  rw [jcl, if_neg (show ¬ nI 3 = 0 by decide), if_neg (show ¬ nI 3 = 1 by decide), if_neg (show ¬ nI 3 = 2 by decide), if_pos (show nI 3 = 3 by decide)]
theorem jcl_4 {b : Nat → Int32} {L : Nat} {x : JS × DD} : jcl b L (nI 4) x = jone b L 4 99 13 x := by
  rw [jcl, if_neg (show ¬ nI 4 = 0 by decide), if_neg (show ¬ nI 4 = 1 by decide), if_neg (show ¬ nI 4 = 2 by decide), if_neg (show ¬ nI 4 = 3 by decide), if_pos (show nI 4 = 4 by decide)]
theorem jcl_5 {b : Nat → Int32} {L : Nat} {x : JS × DD} : jcl b L (nI 5) x = jmark b L x := by
  rw [jcl, if_neg (show ¬ nI 5 = 0 by decide), if_neg (show ¬ nI 5 = 1 by decide), if_neg (show ¬ nI 5 = 2 by decide), if_neg (show ¬ nI 5 = 3 by decide), if_neg (show ¬ nI 5 = 4 by decide), if_pos (show nI 5 = 5 by decide)]
theorem jcl_6 {b : Nat → Int32} {L : Nat} {x : JS × DD} : jcl b L (nI 6) x = jscrew b L x := by
  rw [jcl, if_neg (show ¬ nI 6 = 0 by decide), if_neg (show ¬ nI 6 = 1 by decide), if_neg (show ¬ nI 6 = 2 by decide), if_neg (show ¬ nI 6 = 3 by decide), if_neg (show ¬ nI 6 = 4 by decide), if_neg (show ¬ nI 6 = 5 by decide), if_pos (show nI 6 = 6 by decide)]
theorem jcl_7 {b : Nat → Int32} {L : Nat} {x : JS × DD} : jcl b L (nI 7) x = jbox b L x := by
  rw [jcl, if_neg (show ¬ nI 7 = 0 by decide), if_neg (show ¬ nI 7 = 1 by decide), if_neg (show ¬ nI 7 = 2 by decide), if_neg (show ¬ nI 7 = 3 by decide), if_neg (show ¬ nI 7 = 4 by decide), if_neg (show ¬ nI 7 = 5 by decide), if_neg (show ¬ nI 7 = 6 by decide), if_pos (show nI 7 = 7 by decide)]
theorem jcl_8 {b : Nat → Int32} {L : Nat} {x : JS × DD} : jcl b L (nI 8) x = jscreen b L x := by
  rw [jcl, if_neg (show ¬ nI 8 = 0 by decide), if_neg (show ¬ nI 8 = 1 by decide), if_neg (show ¬ nI 8 = 2 by decide), if_neg (show ¬ nI 8 = 3 by decide), if_neg (show ¬ nI 8 = 4 by decide), if_neg (show ¬ nI 8 = 5 by decide), if_neg (show ¬ nI 8 = 6 by decide), if_neg (show ¬ nI 8 = 7 by decide), if_pos (show nI 8 = 8 by decide)]
theorem jcl_9 {b : Nat → Int32} {L : Nat} {x : JS × DD} : jcl b L (nI 9) x = jlies b L x := by
  rw [jcl, if_neg (show ¬ nI 9 = 0 by decide), if_neg (show ¬ nI 9 = 1 by decide), if_neg (show ¬ nI 9 = 2 by decide), if_neg (show ¬ nI 9 = 3 by decide), if_neg (show ¬ nI 9 = 4 by decide), if_neg (show ¬ nI 9 = 5 by decide), if_neg (show ¬ nI 9 = 6 by decide), if_neg (show ¬ nI 9 = 7 by decide), if_neg (show ¬ nI 9 = 8 by decide), if_pos (show nI 9 = 9 by decide)]
theorem jcl_n {b : Nat → Int32} {L : Nat} {x : JS × DD} : jcl b L (-1) x = (jrf b L 1 x.1, x.2) := by
  rw [jcl, if_neg (show ¬ (-1 : Int32) = 0 by decide), if_neg (show ¬ (-1 : Int32) = 1 by decide), if_neg (show ¬ (-1 : Int32) = 2 by decide), if_neg (show ¬ (-1 : Int32) = 3 by decide), if_neg (show ¬ (-1 : Int32) = 4 by decide), if_neg (show ¬ (-1 : Int32) = 5 by decide), if_neg (show ¬ (-1 : Int32) = 6 by decide), if_neg (show ¬ (-1 : Int32) = 7 by decide), if_neg (show ¬ (-1 : Int32) = 8 by decide), if_neg (show ¬ (-1 : Int32) = 9 by decide)]
theorem m_clause {h : AH} {P : Option Value → AH → Prop} {b : Nat → Int32} {L : Nat} {x : JS × DD} (s0 : x.1.1 = 0) (X : MX h b L x.1.2.2) (H : DM h x.2) (K : DOK x.2)
    (k1 : ∀ h3, LH h h3 → (jcl b L (wrd b L 0 x.1.2.2) x).1.1 = 0 → MX h3 b L (te b L (jcl b L (wrd b L 0 x.1.2.2) x).1.2.2) → DM h3 (jcl b L (wrd b L 0 x.1.2.2) x).2 → P (some (.int 1)) h3)
    (k0 : ∀ h3, LH h h3 → ¬ (jcl b L (wrd b L 0 x.1.2.2) x).1.1 = 0 → gI h3 116 8 = (jcl b L (wrd b L 0 x.1.2.2) x).1.1 → gI h3 116 9 = (jcl b L (wrd b L 0 x.1.2.2) x).1.2.1 → P (some (.int 0)) h3) : Call mX12_readClause [.ref 116] h P := by
  refine Call.ofR (by decide +kernel) (Nat.le_of_ble_eq_true rfl) (sX12_readClause_0 h 116 ?_)
  refine ⟨X.1.o (by decide) rfl, fun z hz => ?_⟩
  have KD := K.dk
  rcases m_kc X with ⟨c, c10, ez, ew⟩ | ⟨nz, ew⟩
  · rw [ew] at k1 k0
    rw [ez] at hz
    subst hz
    clear ez ew
    rcases (show c = 0 ∨ c = 1 ∨ c = 2 ∨ c = 3 ∨ c = 4 ∨ c = 5 ∨ c = 6 ∨ c = 7 ∨ c = 8 ∨ c = 9 by omega) with rfl | rfl | rfl | rfl | rfl | rfl | rfl | rfl | rfl | rfl
    · rw [jcl_0] at k1 k0
      rw [show nI (kc 0 0) = (4 : Int32) from rfl]
      exact ⟨fun _ => m_sheet s0 X H (fun h3 l a Y D => ⟨_, rfl, Or.inr rfl, k1 h3 l a Y D⟩) (fun h3 l n a8 a9 => ⟨_, rfl, Or.inl rfl, k0 h3 l n a8 a9⟩), fun e => absurd rfl e⟩
    · rw [jcl_1] at k1 k0
      rw [show nI (kc 0 1) = (6 : Int32) from rfl]
      exact ⟨fun e => absurd e (by decide), fun _ => ⟨fun e => absurd e (by decide), fun _ => ⟨fun _ => m_one (c := 1) (hi := 9) (w := 3) (q := 6) s0 X H (by decide) (by decide) (fun h3 l a Y D => ⟨_, rfl, Or.inr rfl, k1 h3 l a Y D⟩) (fun h3 l n a8 a9 => ⟨_, rfl, Or.inl rfl, k0 h3 l n a8 a9⟩), fun e => absurd rfl e⟩⟩⟩
    · rw [jcl_2] at k1 k0
      rw [show nI (kc 0 2) = (8 : Int32) from rfl]
      exact ⟨fun e => absurd e (by decide), fun _ => ⟨fun e => absurd e (by decide), fun _ => ⟨fun e => absurd e (by decide), fun _ => ⟨fun e => absurd e (by decide), fun _ => ⟨fun _ => m_one (c := 2) (hi := 4) (w := 4) (q := 9) s0 X H (by decide) (by decide) (fun h3 l a Y D => ⟨_, rfl, Or.inr rfl, k1 h3 l a Y D⟩) (fun h3 l n a8 a9 => ⟨_, rfl, Or.inl rfl, k0 h3 l n a8 a9⟩), fun e => absurd rfl e⟩⟩⟩⟩⟩
    · rw [jcl_3] at k1 k0
      rw [show nI (kc 0 3) = (10 : Int32) from rfl]
      exact ⟨fun e => absurd e (by decide), fun _ => ⟨fun e => absurd e (by decide), fun _ => ⟨fun e => absurd e (by decide), fun _ => ⟨fun e => absurd e (by decide), fun _ => ⟨fun e => absurd e (by decide), fun _ => ⟨fun e => absurd e (by decide), fun _ => ⟨fun _ => m_one (c := 3) (hi := 99) (w := 6) (q := 12) s0 X H (by decide) (by decide) (fun h3 l a Y D => ⟨_, rfl, Or.inr rfl, k1 h3 l a Y D⟩) (fun h3 l n a8 a9 => ⟨_, rfl, Or.inl rfl, k0 h3 l n a8 a9⟩), fun e => absurd rfl e⟩⟩⟩⟩⟩⟩⟩
    · rw [jcl_4] at k1 k0
      rw [show nI (kc 0 4) = (11 : Int32) from rfl]
      exact ⟨fun e => absurd e (by decide), fun _ => ⟨fun e => absurd e (by decide), fun _ => ⟨fun e => absurd e (by decide), fun _ => ⟨fun e => absurd e (by decide), fun _ => ⟨fun e => absurd e (by decide), fun _ => ⟨fun e => absurd e (by decide), fun _ => ⟨fun e => absurd e (by decide), fun _ => ⟨fun _ => m_one (c := 4) (hi := 99) (w := 7) (q := 13) s0 X H (by decide) (by decide) (fun h3 l a Y D => ⟨_, rfl, Or.inr rfl, k1 h3 l a Y D⟩) (fun h3 l n a8 a9 => ⟨_, rfl, Or.inl rfl, k0 h3 l n a8 a9⟩), fun e => absurd rfl e⟩⟩⟩⟩⟩⟩⟩⟩
    · rw [jcl_5] at k1 k0
      rw [show nI (kc 0 5) = (5 : Int32) from rfl]
      exact ⟨fun e => absurd e (by decide), fun _ => ⟨fun _ => m_mark s0 X H KD (fun h3 l a Y D => ⟨_, rfl, Or.inr rfl, k1 h3 l a Y D⟩) (fun h3 l n a8 a9 => ⟨_, rfl, Or.inl rfl, k0 h3 l n a8 a9⟩), fun e => absurd rfl e⟩⟩
    · rw [jcl_6] at k1 k0
      rw [show nI (kc 0 6) = (7 : Int32) from rfl]
      exact ⟨fun e => absurd e (by decide), fun _ => ⟨fun e => absurd e (by decide), fun _ => ⟨fun e => absurd e (by decide), fun _ => ⟨fun _ => m_screw s0 X H KD (fun h3 l a Y D => ⟨_, rfl, Or.inr rfl, k1 h3 l a Y D⟩) (fun h3 l n a8 a9 => ⟨_, rfl, Or.inl rfl, k0 h3 l n a8 a9⟩), fun e => absurd rfl e⟩⟩⟩⟩
    · rw [jcl_7] at k1 k0
      rw [show nI (kc 0 7) = (9 : Int32) from rfl]
      exact ⟨fun e => absurd e (by decide), fun _ => ⟨fun e => absurd e (by decide), fun _ => ⟨fun e => absurd e (by decide), fun _ => ⟨fun e => absurd e (by decide), fun _ => ⟨fun e => absurd e (by decide), fun _ => ⟨fun _ => m_box s0 X H K.1.2.2.2.2.2.1 (fun h3 l a Y D => ⟨_, rfl, Or.inr rfl, k1 h3 l a Y D⟩) (fun h3 l n a8 a9 => ⟨_, rfl, Or.inl rfl, k0 h3 l n a8 a9⟩), fun e => absurd rfl e⟩⟩⟩⟩⟩⟩
    · rw [jcl_8] at k1 k0
      rw [show nI (kc 0 8) = (12 : Int32) from rfl]
      exact ⟨fun e => absurd e (by decide), fun _ => ⟨fun e => absurd e (by decide), fun _ => ⟨fun e => absurd e (by decide), fun _ => ⟨fun e => absurd e (by decide), fun _ => ⟨fun e => absurd e (by decide), fun _ => ⟨fun e => absurd e (by decide), fun _ => ⟨fun e => absurd e (by decide), fun _ => ⟨fun e => absurd e (by decide), fun _ => ⟨fun _ => m_screen s0 X H KD (fun h3 l a Y D => ⟨_, rfl, Or.inr rfl, k1 h3 l a Y D⟩) (fun h3 l n a8 a9 => ⟨_, rfl, Or.inl rfl, k0 h3 l n a8 a9⟩), fun e => absurd rfl e⟩⟩⟩⟩⟩⟩⟩⟩⟩
    · rw [jcl_9] at k1 k0
      rw [show nI (kc 0 9) = (13 : Int32) from rfl]
      exact ⟨fun e => absurd e (by decide), fun _ => ⟨fun e => absurd e (by decide), fun _ => ⟨fun e => absurd e (by decide), fun _ => ⟨fun e => absurd e (by decide), fun _ => ⟨fun e => absurd e (by decide), fun _ => ⟨fun e => absurd e (by decide), fun _ => ⟨fun e => absurd e (by decide), fun _ => ⟨fun e => absurd e (by decide), fun _ => ⟨fun e => absurd e (by decide), fun _ => ⟨fun _ => m_lies s0 X H (fun h3 l a Y D => ⟨_, rfl, Or.inr rfl, k1 h3 l a Y D⟩) (fun h3 l n a8 a9 => ⟨_, rfl, Or.inl rfl, k0 h3 l n a8 a9⟩), fun e => absurd rfl e⟩⟩⟩⟩⟩⟩⟩⟩⟩⟩
  · rw [ew, jcl_n] at k0
    exact ⟨fun e => absurd (hz.symm.trans e) (nz 4 (by decide) (by decide)), fun _ => ⟨fun e => absurd (hz.symm.trans e) (nz 5 (by decide) (by decide)), fun _ => ⟨fun e => absurd (hz.symm.trans e) (nz 6 (by decide) (by decide)), fun _ => ⟨fun e => absurd (hz.symm.trans e) (nz 7 (by decide) (by decide)), fun _ => ⟨fun e => absurd (hz.symm.trans e) (nz 8 (by decide) (by decide)), fun _ => ⟨fun e => absurd (hz.symm.trans e) (nz 9 (by decide) (by decide)), fun _ => ⟨fun e => absurd (hz.symm.trans e) (nz 10 (by decide) (by decide)), fun _ => ⟨fun e => absurd (hz.symm.trans e) (nz 11 (by decide) (by decide)), fun _ => ⟨fun e => absurd (hz.symm.trans e) (nz 12 (by decide) (by decide)), fun _ => ⟨fun e => absurd (hz.symm.trans e) (nz 13 (by decide) (by decide)), fun _ => m_fl X LH.rf (by decide) (jrf_0 s0) k0⟩⟩⟩⟩⟩⟩⟩⟩⟩⟩
