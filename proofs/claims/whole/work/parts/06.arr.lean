def isA (h : AH) (t r : Nat) : Prop := r < h.1 ∧ kd r = 100 + t
theorem ent_arr (G : GH) (h : AH) {r t : Nat} (hk : kd r = 100 + t) : ent G h r = .inl (G.2.2.1 t, ln r, if t = 1 then .inr (.inl (gL h r)) else if t < 3 then .inl (gI h r) else .inr (.inr (.inr (.inr (fun j => ro G (gF h r j)))))) := by
  unfold ent
  rw [if_neg (by omega), hk, show 100 + t - 100 = t by omega]
  congr 3
  by_cases e : t = 1
  · subst e; rfl
  · rw [if_neg (by omega), if_neg e]
    by_cases e2 : t < 3
    · rw [if_pos (by omega), if_pos e2]
    · rw [if_neg (by omega), if_neg e2]
theorem gI_sI (h : AH) (r k : Nat) (x : Int32) : gI (sI h r k x) r = upd (gI h r) k x := by
  funext j
  simp [gI, sI, up2, upd]
theorem gL_sL (h : AH) (r k : Nat) (x : Int64) : gL (sL h r k x) r = vp_updL (gL h r) k x := by
  funext j
  simp [gL, sL, up2, vp_updL]
section ARULES
variable {M : MI} {kc ks pc : Nat} {ls : List (Nat × Value)} {st : List Value} {h : AH} {P : Option Value → AH → Prop}
theorem R_iaload {r : Nat} {i : Int32} (hd : decode M.2.1 pc = .ok (.iaload, 1)) (ho : isA h 0 r) (hi : vp_in i (ln r)) (kk : Rr M kc ks (pc + 1) ls (.int (gI h r i.toNatClampNeg) :: st) h P) : Rr M kc ks pc ls (.int i :: .ref r :: st) h P := by
  intro G p l e Rm s m args below meth c H locs cells slots Q la X hp h1 h2 hr hl
  have hr0 : r < 1000 := Nat.lt_of_lt_of_le ho.1 hp.2.1
  rw [List.map_cons, List.map_cons, tv_ref G hr0]
  have he := cells_at G h ho.1
  rw [ent_arr G h ho.2] at he
  exact va_iald (D := G.2.1) X.1 X.2.1 X.2.2.2.2.2.2.2.2.2.2.1.1 hp.2.2.1 r 0 he rfl hi hd (kk G p l e Rm s m args below meth c H locs cells slots Q la X hp h1 h2 hr hl)
theorem R_baload {r : Nat} {i : Int32} (hd : decode M.2.1 pc = .ok (.baload, 1)) (ho : isA h 2 r) (hi : vp_in i (ln r)) (kk : Rr M kc ks (pc + 1) ls (.int (gI h r i.toNatClampNeg) :: st) h P) : Rr M kc ks pc ls (.int i :: .ref r :: st) h P := by
  intro G p l e Rm s m args below meth c H locs cells slots Q la X hp h1 h2 hr hl
  have hr0 : r < 1000 := Nat.lt_of_lt_of_le ho.1 hp.2.1
  rw [List.map_cons, List.map_cons, tv_ref G hr0]
  have he := cells_at G h ho.1
  rw [ent_arr G h ho.2] at he
  exact va_bald (D := G.2.1) X.1 X.2.1 X.2.2.2.2.2.2.2.2.2.2.1.1 hp.2.2.1 r 2 he rfl hi hd (kk G p l e Rm s m args below meth c H locs cells slots Q la X hp h1 h2 hr hl)
theorem R_laload {r : Nat} {i : Int32} (hd : decode M.2.1 pc = .ok (.laload, 1)) (ho : isA h 1 r) (hi : vp_in i (ln r)) (kk : Rr M kc ks (pc + 1) ls (.long (gL h r i.toNatClampNeg) :: st) h P) : Rr M kc ks pc ls (.int i :: .ref r :: st) h P := by
  intro G p l e Rm s m args below meth c H locs cells slots Q la X hp h1 h2 hr hl
  have hr0 : r < 1000 := Nat.lt_of_lt_of_le ho.1 hp.2.1
  rw [List.map_cons, List.map_cons, tv_ref G hr0]
  have he := cells_at G h ho.1
  rw [ent_arr G h ho.2] at he
  exact va_lald (D := G.2.1) X.1 X.2.1 X.2.2.2.2.2.2.2.2.2.2.1.1 hp.2.2.1 r 1 he rfl hi hd (kk G p l e Rm s m args below meth c H locs cells slots Q la X hp h1 h2 hr hl)
theorem R_aaload {r t : Nat} {i : Int32} (ht : t = 3 ∨ t = 4) (hd : decode M.2.1 pc = .ok (.aaload, 1)) (ho : isA h t r) (hi : vp_in i (ln r)) (kk : Rr M kc ks (pc + 1) ls (.ref (gF h r i.toNatClampNeg) :: st) h P) : Rr M kc ks pc ls (.int i :: .ref r :: st) h P := by
  intro G p l e Rm s m args below meth c H locs cells slots Q la X hp h1 h2 hr hl
  have hr0 : r < 1000 := Nat.lt_of_lt_of_le ho.1 hp.2.1
  rw [List.map_cons, List.map_cons, tv_ref G hr0]
  have he := cells_at G h ho.1
  rw [ent_arr G h ho.2] at he
  have hlt : i.toNatClampNeg < ln r := Nat.not_le.mp fun q => hi (Or.inr q)
  have h9 := kk G p l e Rm s m args below meth c H locs cells slots Q la X hp h1 h2 hr hl
  have hP := hp.2.2.1 r _ he
  have hK := X.2.2.2.2.2.2.2.2.2.2.1.1
  rcases ht with rfl | rfl
  · exact va_aldq (D := G.2.1) X.1 X.2.1 hK hp.2.2.1 r 3 he rfl hi hd h9
  · exact W.aald (v := va_rf (ro G (gF h r i.toNatClampNeg))) (ty := .array .int) X.1 X.2.1 hP ((hK.2 4 _ rfl).1 (ln r) (fun j => va_rf (ro G (gF h r j)))) rfl (fun q => by cases q) (by show ¬ (i < 0 ∨ (arrV _ _ _).slots.size ≤ _); rw [arrV_size]; exact hi) (by show (arrV _ _ _).slots[_]? = _; rw [arrV_read _ _ hlt]) rfl rfl hd h9
theorem R_alen {r t : Nat} {v : Int32} (ht : t < 5) (hd : decode M.2.1 pc = .ok (.arraylength, 1)) (ho : isA h t r) (hv : Int32.ofNat (ln r) = v) (kk : Rr M kc ks (pc + 1) ls (.int v :: st) h P) : Rr M kc ks pc ls (.ref r :: st) h P := by
  intro G p l e Rm s m args below meth c H locs cells slots Q la X hp h1 h2 hr hl
  have hr0 : r < 1000 := Nat.lt_of_lt_of_le ho.1 hp.2.1
  rw [List.map_cons, tv_ref G hr0]
  have he := cells_at G h ho.1
  rw [ent_arr G h ho.2] at he
  obtain ⟨ty, hty⟩ : ∃ ty, (tyL G)[t]? = some (G.2.2.1 t, ty) := by
    rcases (show t = 0 ∨ t = 1 ∨ t = 2 ∨ t = 3 ∨ t = 4 by omega) with rfl | rfl | rfl | rfl | rfl <;> exact ⟨_, rfl⟩
  exact va_alen (D := G.2.1) X.1 X.2.1 X.2.2.2.2.2.2.2.2.2.2.1.1 hp.2.2.1 r t he hty hv hd (kk G p l e Rm s m args below meth c H locs cells slots Q la X hp h1 h2 hr hl)
/-- an array's cell behind a store: the world of the new heap -/
theorem put_arr {G : GH} {h h2 : AH} {r : Nat} {s : State} {H H1 : Heap} {locs : List Loc} {k : Nat} {e2 : va_E} (hp : Hp G h s H locs) (hr : r < h.1) (hn : h2.1 = h.1) (he2 : ent G h2 r = e2) (ho : ∀ i, i ≠ r → ent G h2 i = ent G h i) (hc : va_at G.2.1 clsL (G.1 + r, e2) H1) (hz : H1.size = H.size) (oq : ∀ q : Nat, q ≠ G.1 + r → H1[q]? = H[q]?) : Hp G h2 s H1 (locs ++ [⟨G.1 + r, k⟩]) := by
  have he := cells_at G h hr
  refine ⟨by rw [hz, hn]; exact hp.1, by rw [hn]; exact hp.2.1, ?_, hp.2.2.2.put hz oq (Nat.le_add_right _ _)⟩
  rw [← cells_set G hn r he2 ho]
  exact hp.2.2.1.set (cells_D G h) he hc oq
theorem R_iastore {r : Nat} {i x : Int32} (hd : decode M.2.1 pc = .ok (.iastore, 1)) (ho : isA h 0 r) (hi : vp_in i (ln r)) (kk : Rr M kc ks (pc + 1) ls st (sI h r i.toNatClampNeg x) P) : Rr M kc ks pc ls (.int x :: .int i :: .ref r :: st) h P := by
  intro G p l e Rm s m args below meth c H locs cells slots Q la X hp h1 h2 hr hl
  have hr0 : r < 1000 := Nat.lt_of_lt_of_le ho.1 hp.2.1
  rw [List.map_cons, List.map_cons, List.map_cons, tv_ref G hr0]
  have he := cells_at G h ho.1
  rw [ent_arr G h ho.2] at he
  have hP := hp.2.2.1 r _ he
  have hK := X.2.2.2.2.2.2.2.2.2.2.1.1
  refine W.iast X.1 X.2.1 hP ((hK.2 0 _ rfl).1 (ln r) (fun j => .int (gI h r j))) (fun q => by cases q) (by show ¬ (i < 0 ∨ (arrV _ _ _).slots.size ≤ _); rw [arrV_size]; exact hi) rfl rfl hd fun H1 e1 z oq => ?_
  refine kk G p l e Rm s m args below meth c H1 _ cells slots Q la X (put_arr hp ho.1 rfl (ent_arr G _ ho.2) (fun i hi => ent_congr G (up2_r _ _ _ hi) rfl rfl) ?_ z oq) h1 h2 hr hl
  show H1[G.1 + r]? = some (vp_cell _ _)
  rw [e1]
  show some ((vp_cell (G.2.2.1 0) (ln r, .inl (gI h r))).setSlot i.toNatClampNeg (.int x)) = some (vp_cell (G.2.2.1 0) (ln r, .inl (gI (sI h r i.toNatClampNeg x) r)))
  rw [gI_sI, vp_cell_i, vp_cell_i, arrV_store]
  congr 2
  funext q
  by_cases hq : q = i.toNatClampNeg
  · subst hq
    simp [updV, upd]
  · simp [updV, upd, hq]
theorem R_bastore {r : Nat} {i x : Int32} (hd : decode M.2.1 pc = .ok (.bastore, 1)) (ho : isA h 2 r) (hi : vp_in i (ln r)) (kk : Rr M kc ks (pc + 1) ls st (sI h r i.toNatClampNeg x.toInt8.toInt32) P) : Rr M kc ks pc ls (.int x :: .int i :: .ref r :: st) h P := by
  intro G p l e Rm s m args below meth c H locs cells slots Q la X hp h1 h2 hr hl
  have hr0 : r < 1000 := Nat.lt_of_lt_of_le ho.1 hp.2.1
  rw [List.map_cons, List.map_cons, List.map_cons, tv_ref G hr0]
  have he := cells_at G h ho.1
  rw [ent_arr G h ho.2] at he
  have hP := hp.2.2.1 r _ he
  have hK := X.2.2.2.2.2.2.2.2.2.2.1.1
  refine W.bast X.1 X.2.1 hP ((hK.2 2 _ rfl).1 (ln r) (fun j => .int (gI h r j))) (fun q => by cases q) (by show ¬ (i < 0 ∨ (arrV _ _ _).slots.size ≤ _); rw [arrV_size]; exact hi) rfl rfl hd fun H1 e1 z oq => ?_
  refine kk G p l e Rm s m args below meth c H1 _ cells slots Q la X (put_arr hp ho.1 rfl (ent_arr G _ ho.2) (fun i hi => ent_congr G (up2_r _ _ _ hi) rfl rfl) ?_ z oq) h1 h2 hr hl
  show H1[G.1 + r]? = some (vp_cell _ _)
  rw [e1]
  show _ = some (vp_cell (G.2.2.1 2) (ln r, .inl (gI (sI h r i.toNatClampNeg x.toInt8.toInt32) r)))
  rw [gI_sI, vp_cell_i]
  show some ((vp_cell (G.2.2.1 2) (ln r, .inl (gI h r))).setSlot i.toNatClampNeg _) = _
  rw [vp_cell_i, arrV_store]
  congr 2
  funext q
  by_cases hq : q = i.toNatClampNeg
  · subst hq
    simp [updV, upd]
    try rfl
  · simp [updV, upd, hq]
theorem R_lastore {r : Nat} {i : Int32} {x : Int64} (hd : decode M.2.1 pc = .ok (.lastore, 1)) (ho : isA h 1 r) (hi : vp_in i (ln r)) (kk : Rr M kc ks (pc + 1) ls st (sL h r i.toNatClampNeg x) P) : Rr M kc ks pc ls (.long x :: .int i :: .ref r :: st) h P := by
  intro G p l e Rm s m args below meth c H locs cells slots Q la X hp h1 h2 hr hl
  have hr0 : r < 1000 := Nat.lt_of_lt_of_le ho.1 hp.2.1
  rw [List.map_cons, List.map_cons, List.map_cons, tv_ref G hr0]
  have he := cells_at G h ho.1
  rw [ent_arr G h ho.2] at he
  have hP := hp.2.2.1 r _ he
  have hK := X.2.2.2.2.2.2.2.2.2.2.1.1
  refine W.last X.1 X.2.1 hP ((hK.2 1 _ rfl).1 (ln r) (fun j => .long (gL h r j))) (fun q => by cases q) (by show ¬ (i < 0 ∨ (arrV _ _ _).slots.size ≤ _); rw [arrV_size]; exact hi) rfl rfl hd fun H1 e1 z oq => ?_
  refine kk G p l e Rm s m args below meth c H1 _ cells slots Q la X (put_arr hp ho.1 rfl (ent_arr G _ ho.2) (fun i hi => ent_congr G rfl (up2_r _ _ _ hi) rfl) ?_ z oq) h1 h2 hr hl
  show H1[G.1 + r]? = some (vp_cell _ _)
  rw [e1]
  show some ((vp_cell (G.2.2.1 1) (ln r, .inr (.inl (gL h r)))).setSlot i.toNatClampNeg (.long x)) = some (vp_cell (G.2.2.1 1) (ln r, .inr (.inl (gL (sL h r i.toNatClampNeg x) r))))
  rw [gL_sL, vp_cell_l, vp_cell_l, arrV_store]
  congr 2
  funext q
  by_cases hq : q = i.toNatClampNeg
  · subst hq
    simp [updV, vp_updL]
  · simp [updV, vp_updL, hq]
end ARULES
