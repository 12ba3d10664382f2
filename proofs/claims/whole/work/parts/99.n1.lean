/-! JOB: both sides -/
theorem J0.ok {D : DD} (J : J0 D) : DOK D := by
  obtain ⟨⟨j0, j1, j2, j3, j4, j5, j6, j7, j8, j9⟩, d1, d2, d3⟩ := J
  refine ⟨⟨?_, ?_, ?_, ?_, ?_, ?_, ?_, ?_, ?_⟩, fun x x0 xm => ?_, fun i hi => ?_, fun i k w p1 p2 p3 p4 p5 p6 => ?_, fun x x0 xm => ?_, fun q hq => ?_⟩
  · rw [j1]; exact ⟨by decide, by decide⟩
  · rw [j2]; exact ⟨by decide, by decide⟩
  · rw [j3]; exact ⟨by decide, by decide⟩
  · rw [j4]; exact ⟨by decide, by decide⟩
  · rw [j5]; exact ⟨by decide, by decide⟩
  · rw [j6]; exact ⟨by decide, by decide⟩
  · rw [j7]; exact ⟨by decide, by decide⟩
  · rw [j8]; exact ⟨by decide, by decide⟩
  · rw [j9]; exact ⟨by decide, by decide⟩
  · rw [j3] at xm
    exact absurd x0 (nle.2 xm)
  · rw [d1 i hi]; exact ⟨by decide, by decide⟩
  · obtain ⟨n, n3, rfl⟩ := to4 ⟨p1, p2⟩
    rw [nI_clamp (by omega), d1 n (by omega)] at p4
    exact absurd p3 (nle.2 p4)
  · rw [j9] at xm
    exact absurd x0 (nle.2 xm)
  · rw [d3 q hq]; exact ⟨by decide, by decide⟩
theorem mrw_lo {h7 h8 : AH} (S : SE h7 h8) : ∀ r k, 118 ≤ r → r ≤ 126 → k < lo2 r → gI h8 r k = gI h7 r (lo2 r + k) := by
  obtain ⟨-, -, -, s1, s2, s3, s4, s5, s6, s7, s8, s9⟩ := S
  intro r k h1 h2 hk
  rcases (show r = 118 ∨ r = 119 ∨ r = 120 ∨ r = 121 ∨ r = 122 ∨ r = 123 ∨ r = 124 ∨ r = 125 ∨ r = 126 by omega) with rfl | rfl | rfl | rfl | rfl | rfl | rfl | rfl | rfl
  · exact s1 k hk
  · exact s2 k hk
  · exact s3 k hk
  · exact s4 k hk
  · exact s5 k hk
  · exact s6 k hk
  · exact s7 k hk
  · exact s8 k hk
  · exact s9 k hk
theorem m_job {h1 : AH} {P : Option Value → AH → Prop} {b : Nat → Int32} {L : Nat} {D : DD} (w1 : Wf h1) (hL : L ≤ 900) (h1L : gI h1 116 1 = nI L) (hb : ByOK h1 L) (eq : ∀ x, x < L → gI h1 117 x = b x) (J : J0 D) (e1 : D 200 1 = 0) (e2 : D 200 2 = 0)
    (k1 : (jrun b L 900 ((0, -1, 0), D)).1.1 = 0 → (jrun b L 900 ((0, -1, 0), D)).1.2.1 = -1 → ∀ h7 h9, Fr mrw h1 h9 → gI h9 116 1 = 0 → gI h9 116 8 = 0 → gI h9 116 9 = -1 → gI h9 116 20 = (jrun b L 900 ((0, -1, 0), D)).2 0 0 → (gI h9 116 23 = 0 ∧ gI h9 116 24 = 0 ∧ gI h9 116 25 = 0 ∧ gI h9 116 43 = 0 ∧ gI h9 116 48 = 0 ∧ gI h9 116 55 = 0) → gI h9 116 51 = gI h1 116 51 → DM h7 (jrun b L 900 ((0, -1, 0), D)).2 → DOK (jrun b L 900 ((0, -1, 0), D)).2 → (∀ r k, 118 ≤ r → r ≤ 126 → k < lo2 r → gI h9 r k = gI h7 r (lo2 r + k)) → P (some (.int ((jrun b L 900 ((0, -1, 0), D)).2 0 0))) h9)
    (k0 : ¬ (jrun b L 900 ((0, -1, 0), D)).1.1 = 0 → ∀ h7, Fr mrw h1 h7 → gI h7 116 1 = 0 → (∀ z, z = 20 ∨ 22 < z → gI h7 116 z = gI h1 116 z) → gI h7 116 8 = (jrun b L 900 ((0, -1, 0), D)).1.1 → gI h7 116 9 = (jrun b L 900 ((0, -1, 0), D)).1.2.1 → (∀ r k, r ≠ 116 → k < lo2 r → gI h7 r k = gI h1 r k) → P (some (.int (-1))) h7) : Call mX12_job [.ref 116] h1 P := by
  refine Call.ofR (by decide +kernel) (Nat.le_of_ble_eq_true rfl) (sX12_job_0 h1 116 ⟨w1.o (by decide) rfl, ?_⟩)
  refine c12_start w1 hL h1L hb (fun h5 F5 t1 tz A5 => ?_)
  have w5 := F5.wf w1
  refine ⟨rfl, w5.o (by decide) rfl, ?_⟩
  have Fs : Fr [116] h5 (sI (sI h5 116 8 0) 116 9 (-1)) := (Fr.sI (by decide)).tr (Fr.sI (by decide))
  refine m_begin (Fs.wf w5) fun h6 F6 z6 l6 B6 => ⟨rfl, ?_⟩
  have w6 := F6.wf (Fs.wf w5)
  have F16 : Fr mrw h1 h6 := ((F5.sub (by decide)).tr (Fs.sub (by decide))).tr (F6.sub (by decide))
  have q6 : ∀ z, z ≠ 21 → z ≠ 22 → z ≠ 8 → z ≠ 9 → gI h6 116 z = gI h5 116 z := fun z a1 a2 a8 a9 => by
    rw [z6 z a1 a2, rd_k a9, rd_k a8]
  have e17 : gI h6 117 = gI h1 117 := (F6.2.2 117 (by decide)).1.trans ((Fs.2.2 117 (by decide)).1.trans (F5.2.2 117 (by decide)).1)
  have A6 : MAt h6 L 0 (gI h1 117) := by
    obtain ⟨c1, c2, c3, c4, c5, c6⟩ := A5
    refine ⟨?_, ?_, ?_, ?_, fun q => ?_, fun q => ?_⟩
    · rw [q6 2 (by decide) (by decide) (by decide) (by decide)]; exact c1
    · rw [q6 3 (by decide) (by decide) (by decide) (by decide)]; exact c2
    · rw [q6 5 (by decide) (by decide) (by decide) (by decide)]; exact c3
    · rw [q6 6 (by decide) (by decide) (by decide) (by decide)]; exact c4
    · rw [q6 4 (by decide) (by decide) (by decide) (by decide)]; exact c5 q
    · rw [q6 7 (by decide) (by decide) (by decide) (by decide)]; exact c6 q
  have f8 : gI h6 116 8 = 0 := by rw [z6 8 (by decide) (by decide), rd_k (by decide), rd_h]
  have f9 : gI h6 116 9 = -1 := by rw [z6 9 (by decide) (by decide), rd_h]
  have X6 : MX h6 b L 0 := ⟨w6, hL, Nat.zero_le L, ⟨fun x hx => by rw [e17]; exact hb x hx, f8, f9⟩, fun x hx => by rw [e17]; exact eq x hx, A6.cg (Nat.zero_le L) eq⟩
  rw [← J.1.1]
  refine m_run (h0 := h6) (P := P) (b := b) (L := L) 900 h6 ((0, -1, 0), D) rfl (by omega) LH.rf X6 (B6.dm J e1 e2) J.ok rfl (fun h7 l7 r0 rp g8 g9 H7 K7 => ?_) (fun h7 l7 rn g8 g9 => ?_)
  · refine m_settle (l7.1.wf w6) fun h8 S8 => ⟨rfl, (S8.1.wf (l7.1.wf w6)).o (by decide) rfl, ?_⟩
    have zz := S8.2.1
    refine k1 r0 rp h7 _ (((F16.tr l7.1).tr S8.1).tr (Fr.sI (by decide))) ?_ ?_ ?_ rd_h S8.2.2.1 ?_ H7 K7 (fun r k a1 a2 hk => (rd_r (by omega)).trans (mrw_lo S8 r k a1 a2 hk))
    · rw [rd_k (by decide), zz 1 (by decide) (by decide) (by decide) (by decide) (by decide) (by decide), l7.2.1 1 (by decide), q6 1 (by decide) (by decide) (by decide) (by decide)]
      exact t1
    · rw [rd_k (by decide), zz 8 (by decide) (by decide) (by decide) (by decide) (by decide) (by decide)]
      exact g8
    · rw [rd_k (by decide), zz 9 (by decide) (by decide) (by decide) (by decide) (by decide) (by decide)]
      exact g9
    · rw [rd_k (by decide), zz 51 (by decide) (by decide) (by decide) (by decide) (by decide) (by decide), l7.2.1 51 (by decide), q6 51 (by decide) (by decide) (by decide) (by decide)]
      exact tz 51 (by decide)
  · refine k0 rn h7 (F16.tr l7.1) ?_ (fun z hz => ?_) g8 g9 (fun r k hr hk => ?_)
    · rw [l7.2.1 1 (by decide), q6 1 (by decide) (by decide) (by decide) (by decide)]
      exact t1
    · rw [l7.2.1 z (by omega), q6 z (by omega) (by omega) (by omega) (by omega)]
      exact tz z (by omega)
    · rw [l7.2.2 r k hr hk, l6 r k hr hk, rd_r hr, rd_r hr]
      exact F5.I (by simp; exact hr) k
theorem v_0 {x : Int32} (a : 0 ≤ x) (c : x < 0) : False := absurd a (nle.2 c)
theorem in_00 {b : Int32} (h : 0 ≤ b) : inr 0 0 b := ⟨by decide, h⟩
theorem pr_job {j : Nat} {h : AH} (I : Inv j h) : Pair mX11_job mX12_job [] h := by
  have w := I.1
  have hj := I.2.1
  obtain ⟨L, hL, h2L, h1L, eq, hb⟩ := tape_ok I
  obtain ⟨d, g, c⟩ : ∃ d, gF h 1 3 = d ∧ ((d = 4 ∧ j = 23) ∨ (d = 23 ∧ j = 4)) := by
    rcases w.2.2 with q | q
    · exact ⟨23, q.2, Or.inr ⟨rfl, hj.symm.trans q.1⟩⟩
    · exact ⟨4, q.2, Or.inl ⟨rfl, hj.symm.trans q.1⟩⟩
  have hd : d = 4 ∨ d = 23 := by omega
  have d23 : d ≤ 23 := by omega
  have d4 : 4 ≤ d := by omega
  refine k_X11 w hj g hd hL h2L fun h3 D F J e1 e2 X => ⟨fun r0 => ?_, fun rn => ?_⟩
  · have wH := HS_wf X.1 c
    have n3 : ∀ r, 116 ≤ r → r ∉ dr d := fun r hr => dr_not (by omega)
    have eH : ∀ r, 116 ≤ r → gI (HS h3 d j) r = gI h r := fun r hr => (HS_r (by omega)).trans (F.2.2 r (n3 r hr)).1
    refine m_job (b := gI h 3) (D := D) wH hL (by rw [eH 116 (by decide)]; exact h1L) (fun x hx => by rw [eH 117 (by decide)]; exact hb x hx) (fun x hx => by rw [eH 117 (by decide)]; exact (eq x hx).symm) J e1 e2 (fun _ rp h7 h9 F9 t1 t8 t9 t20 tz t51 H7 K7 S => ⟨rfl, ⟨_, rfl⟩, d, ?_⟩) (fun q => absurd r0 q)
    generalize jrun (gI h 3) L 900 ((0, -1, 0), D) = R at *
    have CC := X.2.2.2.2.2.2
    have CS0 := X.2.2.2.2.2.1
    have lo9 : ∀ r, r < 116 → gI h9 r = gI (HS h3 d j) r := fun r hr => (F9.2.2 r (by unfold mrw; simp; omega)).1
    have lo9L : ∀ r, r < 116 → gL h9 r = gL h3 r := fun r hr => (F9.2.2 r (by unfold mrw; simp; omega)).2
    obtain ⟨-, -, -, fi, ji, ri, mi, si, pi, li⟩ := I
    refine ⟨F9.wf wH, (F9.2.1 0 2).trans rfl, ⟨?_, ?_, ?_⟩, ⟨?_, ?_⟩, jobI_new (h7 := h7) (fun r k hr => ?_) (fun i y hi hy => ?_) S H7 K7 t20, ⟨?_, ?_, ?_, ?_, ?_, ?_, ?_, ?_⟩, ⟨?_, ?_, ?_⟩, ⟨?_, Or.inl ?_⟩, pi.keep ?_ ?_ ?_, ⟨?_, ?_, ?_, ?_⟩⟩
    · rw [lo9 2 (by decide)]; exact in_00 (by decide)
    · rw [lo9 2 (by decide)]; exact t1
    · intro x x0 xm
      rw [lo9 2 (by decide)] at xm
      exact (v_0 x0 xm).elim
    · rw [lo9 1 (by decide), HS_r (by decide), t8]; exact CS0.1.trans r0
    · rw [lo9 1 (by decide), HS_r (by decide), t9]; exact CS0.2.1.trans rp
    · rw [lo9 _ (by omega), HS_r (by omega)]
      exact CC.1 r k hr
    · rw [brow, lo9L _ (by omega)]
      exact CC.2.1 i y hi hy
    · rw [lo9 42 (by decide)]; exact in_00 (by decide)
    · rw [lo9 42 (by decide)]; exact in_00 (by decide)
    · rw [lo9 42 (by decide)]; exact tz.1
    · rw [lo9 42 (by decide)]; exact tz.2.1
    · rw [lo9 42 (by decide)]; exact tz.2.2.1.symm
    · rw [lo9 42 (by decide)]; exact in_00 (by decide)
    · intro x x0 xm
      rw [lo9 42 (by decide)] at xm
      exact (v_0 x0 xm).elim
    · intro x x0 xm
      rw [lo9 42 (by decide)] at xm
      exact (v_0 x0 xm).elim
    · rw [lo9 59 (by decide)]; exact tz.2.2.2.1.symm
    · rw [lo9 59 (by decide)]; exact in_00 (by decide)
    · intro x x0 xm
      rw [lo9 59 (by decide)] at xm
      exact (v_0 x0 xm).elim
    · rw [lo9 62 (by decide)]; exact tz.2.2.2.2.1.symm
    · rw [lo9 62 (by decide)]; rfl
    · rw [lo9 0 (by decide), HS_r (by decide)]
      exact F.I (dr_not (by omega)) 8
    · rw [t51]
      exact congrFun (eH 116 (by decide)) 51
    · intro r hr
      have rr : r = 73 ∨ r = 75 ∨ r = 77 ∨ r = 79 ∨ r = 144 := by simpa using hr
      have F9r := F9.ag (r := r) (by unfold mrw; simp; omega)
      have Fr3 := F.ag (r := r) (dr_not (by omega))
      exact ⟨F9r.1.trans ((HS_r (by omega)).trans Fr3.1), F9r.2.trans Fr3.2⟩
    · rw [lo9 88 (by decide)]; exact in_00 (by decide)
    · rw [lo9 88 (by decide)]; exact tz.2.2.2.2.2
    · intro x x0 xm
      rw [lo9 88 (by decide)] at xm
      exact (v_0 x0 xm).elim
    · intro q
      rw [lo9 88 (by decide)] at q
      exact absurd q (by decide : ¬ (0 : Int32) < 0)
  · have F2 : Fr (dr d) h (sI h3 2 2 0) := F.tr (Fr.sI (by simp [dr]))
    have eH : ∀ r, 116 ≤ r → gI (sI h3 2 2 0) r = gI h r := fun r hr => (F2.2.2 r (dr_not (by omega))).1
    refine m_job (b := gI h 3) (D := D) (F2.wf w) hL (by rw [eH 116 (by decide)]; exact h1L) (fun x hx => by rw [eH 117 (by decide)]; exact hb x hx) (fun x hx => by rw [eH 117 (by decide)]; exact (eq x hx).symm) J e1 e2 (fun q => absurd q rn) (fun _ h7 F7 t1 tz t8 t9 lo => ⟨rfl, ⟨_, rfl⟩, j, ?_⟩)
    generalize jrun (gI h 3) L 900 ((0, -1, 0), D) = R at *
    have CS0 := X.2.2.2.2.2.1
    have lo9 : ∀ r, r < 116 → gI h7 r = gI (sI h3 2 2 0) r := fun r hr => (F7.2.2 r (by unfold mrw; simp; omega)).1
    have z16 : ∀ z, z = 20 ∨ 22 < z → gI h7 116 z = gI h 116 z := fun z hz => (tz z hz).trans (congrFun (eH 116 (by decide)) z)
    have ag : ∀ r, r ∉ mrw → r ∉ dr d → Ag h h7 r := fun r a1 a2 => ⟨(F7.2.2 r a1).1.trans (F2.2.2 r a2).1, (F7.2.2 r a1).2.trans (F2.2.2 r a2).2⟩
    have nm : ∀ r, r < 116 ∨ 126 < r → r ∉ mrw := fun r hr => by unfold mrw; simp; omega
    have fo : ∀ r, (r < 116 ∨ 126 < r) → (r ≠ 1 ∧ r ≠ 2 ∧ (r < d ∨ d + 18 < r)) → Ag h h7 r := fun r a1 a2 => ag r (nm r a1) (dr_not a2)
    obtain ⟨-, -, -, fi, ji, ri, mi, si, pi, li⟩ := I
    refine ⟨F7.wf (F2.wf w), (F7.2.1 0 2).trans ((F2.2.1 0 2).trans hj), ⟨?_, ?_, ?_⟩, ⟨?_, ?_⟩, ji.lo (fun r hr => fo r (Or.inl ?_) ?_) (z16 20 (by decide)) (fun r k a1 a2 hk => (lo r k (by omega) hk).trans (congrFun (eH r (by omega)) k)), ri.keep (fun r hr => fo r ?_ ?_) ((fo j (by omega) (by omega)).i 3) (z16 23 (by decide)) (z16 24 (by decide)) (z16 25 (by decide)), mi.keep ((fo 59 (by decide) (by omega)).i 5) (fo 61 (by decide) (by omega)) (z16 43 (by decide)) (fo 142 (by decide) (by omega)), si.keep ((fo 62 (by decide) (by omega)).i 9) ((fo 62 (by decide) (by omega)).i 10) ((fo 62 (by decide) (by omega)).i 11) (z16 48 (by decide)) (z16 49 (by decide)) (z16 50 (by decide)), pi.keep ((fo 0 (by decide) (by omega)).i 8) (z16 51 (by decide)) (fun r hr => fo r ?_ ?_), li.keep ((fo 88 (by decide) (by omega)).i 4) ((fo 88 (by decide) (by omega)).i 6) (fo 114 (by decide) (by omega)) (z16 55 (by decide)) (fo 147 (by decide) (by omega))⟩
    · rw [lo9 2 (by decide)]; exact in_00 (by decide)
    · rw [lo9 2 (by decide)]; exact t1
    · intro x x0 xm
      rw [lo9 2 (by decide)] at xm
      exact (v_0 x0 xm).elim
    · rw [lo9 1 (by decide), t8]; exact CS0.1
    · rw [lo9 1 (by decide), t9]; exact CS0.2.1
    · simp only [List.mem_cons, List.not_mem_nil, or_false] at hr
      omega
    · simp only [List.mem_cons, List.not_mem_nil, or_false] at hr
      omega
    · simp only [List.mem_cons, List.not_mem_nil, or_false] at hr
      omega
    · simp only [List.mem_cons, List.not_mem_nil, or_false] at hr
      omega
    · simp only [List.mem_cons, List.not_mem_nil, or_false] at hr
      omega
    · simp only [List.mem_cons, List.not_mem_nil, or_false] at hr
      omega
