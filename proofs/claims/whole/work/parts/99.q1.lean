/-! MAKING: new cells -/
def nw (h : AH) (n : Nat) : AH := (n + 1, up1 h.2.1 n (fun _ => 0), up1 h.2.2.1 n (fun _ => 0), up1 h.2.2.2 n (fun _ => 5000))
theorem up1_at {α : Type} (f : Nat → Nat → α) (r : Nat) (g : Nat → α) : up1 f r g r = g := if_pos rfl
theorem up1_o {α : Type} (f : Nat → Nat → α) {r r2 : Nat} (g : Nat → α) (h : r2 ≠ r) : up1 f r g r2 = f r2 := if_neg h
theorem kd_lt {i : Nat} (h : kd i ≠ 99) : i < 150 := by
  rcases Nat.lt_or_ge i 150 with q | q
  · exact q
  · refine absurd ?_ h
    have e : SH.length = 150 := by decide +kernel
    unfold kd
    rw [List.getD_eq_getElem?_getD, List.getElem?_eq_none (by omega)]
    rfl
theorem Hp_push {G : GH} {h : AH} {s : State} {H H1 : Heap} {locs : List Loc} {n : Nat} (hp : Hp G h s H locs) (hn : h.1 = n) (h9 : n < 150) (z : H1.size = H.size + 1) (o : ∀ q, q < H.size → H1[q]? = H[q]?) (ha : va_at G.2.1 clsL (G.1 + n, ent G (nw h n) n) H1) : Hp G (nw h n) s H1 locs := by
  have hz : H.size = G.1 + n := by rw [← hn]; exact hp.1
  refine ⟨?_, by show n + 1 ≤ 1000; omega, ?_, ?_⟩
  · show H1.size = G.1 + (n + 1)
    omega
  · have e : cellsOf G h ++ [(G.1 + h.1, ent G (nw h n) n)] = cellsOf G (nw h n) := cells_push G (h2 := nw h n) (by show n + 1 = h.1 + 1; rw [hn]) (by rw [hn]) (fun i hi => ent_congr G (up1_o _ _ (by omega)) (up1_o _ _ (by omega)) (up1_o _ _ (by omega)))
    rw [← e]
    refine (hp.2.2.1.kept (fun k q hq => ?_)).app (fun k q hq => ?_)
    · obtain ⟨hk, rfl⟩ := cells_spec hq
      exact o _ (by show G.1 + k < H.size; omega)
    · have hz : k < 1 := (List.getElem?_eq_some_iff.mp hq).1
      rw [show k = 0 by omega] at hq
      cases hq
      rw [hn]
      exact ha
  · exact ⟨Nat.le_trans hp.2.2.2.1 (by omega), fun q h1 h2 => (o q (Nat.lt_of_lt_of_le h1 hp.2.2.2.1)).trans (hp.2.2.2.2.1 q h1 h2), hp.2.2.2.2.2⟩
section MAKE
variable {M : MI} {kc ks pc : Nat} {ls : List (Nat × Value)} {st : List Value} {h : AH} {P : Option Value → AH → Prop}
theorem tv_new (G : GH) {n : Nat} (h9 : n < 150) {H : Heap} (hz : H.size = G.1 + n) : Value.ref H.size = tv G (.ref n) := by
  rw [tv_ref G (by omega), hz]
theorem R_newI {x : Int32} {n N kc2 ks2 : Nat} (hd : decode M.2.1 pc = .ok (.newarray .int, 2)) (hn : h.1 = n) (hk : kd n = 100) (hl : ln n = N) (hx : ¬ x < 0) (hN : x.toNatClampNeg = N) (hN9 : N ≤ 900) (hkc : 1 + kc2 = kc) (hks : N + ks2 = ks) (kk : Rr M kc2 ks2 (pc + 2) ls (.ref n :: st) (nw h n) P) : Rr M kc ks pc ls (.int x :: st) h P := by
  intro G p l e Rm s m args below meth c H locs cells slots Q la X hp h1 h2 hr hl2
  have n9 : n < 150 := kd_lt (by rw [hk]; decide)
  have hz : H.size = G.1 + n := by rw [← hn]; exact hp.1
  refine va_newaK (atype := .int) X.1 X.2.1 (X.2.2.2.2.2.1 _ (tg1 87 (by decide +kernel) rfl)) rfl hd rfl hx hN (by show N * 4 ≤ _; omega) (by omega) (by omega) (h := H.size) rfl fun H1 cA e1 z1 o1 hAr hNm => ?_
  have hc : cA = G.2.2.1 0 := Option.some.inj (hNm.symm.trans (X.2.2.2.2.2.2.2.2.2.2.1.1.2 0 _ rfl).2)
  have e9 : cells + 1 + kc2 = cells + kc := by omega
  have e8 : slots + N + ks2 = slots + ks := by omega
  have K := kk G p l e Rm s m args below meth c H1 locs (cells + 1) (slots + N) Q la X (Hp_push hp hn n9 z1 o1 ?_) (by omega) (by omega) (by rw [e9, e8]; exact hr) hl2
  · rw [List.map_cons, ← tv_new G n9 hz] at K
    exact K
  · rw [ent_arr G (nw h n) (t := 0) hk, if_neg (by decide), if_pos (by decide), hl, ← hz]
    show H1[H.size]? = some (vp_cell _ _)
    rw [e1, hc, show gI (nw h n) n = fun _ => 0 from up1_at _ _ _]
    rfl
theorem R_newL {x : Int32} {n N kc2 ks2 : Nat} (hd : decode M.2.1 pc = .ok (.newarray .long, 2)) (hn : h.1 = n) (hk : kd n = 101) (hl : ln n = N) (hx : ¬ x < 0) (hN : x.toNatClampNeg = N) (hN9 : N ≤ 900) (hkc : 1 + kc2 = kc) (hks : N + ks2 = ks) (kk : Rr M kc2 ks2 (pc + 2) ls (.ref n :: st) (nw h n) P) : Rr M kc ks pc ls (.int x :: st) h P := by
  intro G p l e Rm s m args below meth c H locs cells slots Q la X hp h1 h2 hr hl2
  have n9 : n < 150 := kd_lt (by rw [hk]; decide)
  have hz : H.size = G.1 + n := by rw [← hn]; exact hp.1
  refine va_newaK (atype := .long) X.1 X.2.1 (X.2.2.2.2.2.1 _ (tg1 88 (by decide +kernel) rfl)) rfl hd rfl hx hN (by show N * 8 ≤ _; omega) (by omega) (by omega) (h := H.size) rfl fun H1 cA e1 z1 o1 hAr hNm => ?_
  have hc : cA = G.2.2.1 1 := Option.some.inj (hNm.symm.trans (X.2.2.2.2.2.2.2.2.2.2.1.1.2 1 _ rfl).2)
  have e9 : cells + 1 + kc2 = cells + kc := by omega
  have e8 : slots + N + ks2 = slots + ks := by omega
  have K := kk G p l e Rm s m args below meth c H1 locs (cells + 1) (slots + N) Q la X (Hp_push hp hn n9 z1 o1 ?_) (by omega) (by omega) (by rw [e9, e8]; exact hr) hl2
  · rw [List.map_cons, ← tv_new G n9 hz] at K
    exact K
  · rw [ent_arr G (nw h n) (t := 1) hk, if_pos rfl, hl, ← hz]
    show H1[H.size]? = some (vp_cell _ _)
    rw [e1, hc, show gL (nw h n) n = fun _ => 0 from up1_at _ _ _]
    rfl
theorem R_newB {x : Int32} {n N kc2 ks2 : Nat} (hd : decode M.2.1 pc = .ok (.newarray .byte, 2)) (hn : h.1 = n) (hk : kd n = 102) (hl : ln n = N) (hx : ¬ x < 0) (hN : x.toNatClampNeg = N) (hN9 : N ≤ 900) (hkc : 1 + kc2 = kc) (hks : N + ks2 = ks) (kk : Rr M kc2 ks2 (pc + 2) ls (.ref n :: st) (nw h n) P) : Rr M kc ks pc ls (.int x :: st) h P := by
  intro G p l e Rm s m args below meth c H locs cells slots Q la X hp h1 h2 hr hl2
  have n9 : n < 150 := kd_lt (by rw [hk]; decide)
  have hz : H.size = G.1 + n := by rw [← hn]; exact hp.1
  refine va_newaK (atype := .byte) X.1 X.2.1 (X.2.2.2.2.2.1 _ (tg1 65 (by decide +kernel) rfl)) rfl hd rfl hx hN (by show N * 1 ≤ _; omega) (by omega) (by omega) (h := H.size) rfl fun H1 cA e1 z1 o1 hAr hNm => ?_
  have hc : cA = G.2.2.1 2 := Option.some.inj (hNm.symm.trans (X.2.2.2.2.2.2.2.2.2.2.1.1.2 2 _ rfl).2)
  have e9 : cells + 1 + kc2 = cells + kc := by omega
  have e8 : slots + N + ks2 = slots + ks := by omega
  have K := kk G p l e Rm s m args below meth c H1 locs (cells + 1) (slots + N) Q la X (Hp_push hp hn n9 z1 o1 ?_) (by omega) (by omega) (by rw [e9, e8]; exact hr) hl2
  · rw [List.map_cons, ← tv_new G n9 hz] at K
    exact K
  · rw [ent_arr G (nw h n) (t := 2) hk, if_neg (by decide), if_pos (by decide), hl, ← hz]
    show H1[H.size]? = some (vp_cell _ _)
    rw [e1, hc, show gI (nw h n) n = fun _ => 0 from up1_at _ _ _]
    rfl
/-- the row of boards -/
theorem R_newQ {x : Int32} {i n N kc2 ks2 : Nat} (hd : decode M.2.1 pc = .ok (.anewarray i, 3)) (hw : Cond.classLink M.1.cls i "FourInks$Board" ∈ TBG) (hn : h.1 = n) (hk : kd n = 103) (hl : ln n = N) (hx : ¬ x < 0) (hN : x.toNatClampNeg = N) (hN9 : N ≤ 900) (hkc : 1 + kc2 = kc) (hks : N + ks2 = ks) (kk : Rr M kc2 ks2 (pc + 3) ls (.ref n :: st) (nw h n) P) : Rr M kc ks pc ls (.int x :: st) h P := by
  intro G p l e Rm s m args below meth c H locs cells slots Q la X hp h1 h2 hr hl2
  have n9 : n < 150 := kd_lt (by rw [hk]; decide)
  have hz : H.size = G.1 + n := by rw [← hn]; exact hp.1
  refine W.anew X.1 X.2.1 X.2.2.2.2.1 (X.2.2.2.2.2.1 _ hw) (va_AO.use X.2.2.2.2.2.2.2.2.2.2.1.2.2.2.1) rfl hd rfl hx (by rw [hN]; omega) (by omega) (by rw [hN]; omega) fun cA kA comp f1 f2 f3 f4 => ?_
  generalize hH1 : H.push ({ cls := cA, slots := Array.replicate x.toNatClampNeg .null, vm := .none } : Cell) = H1
  have z1 : H1.size = H.size + 1 := by rw [← hH1, Array.size_push]
  have eA : H1[H.size]? = some (arrV cA N (fun _ => .null)) := by rw [← hH1, Array.getElem?_push_size, ← arrV_new, hN]
  have o1 : ∀ q : Nat, q < H.size → H1[q]? = H[q]? := fun q hq => by rw [← hH1, Array.getElem?_push, if_neg (Nat.ne_of_lt hq)]
  have hc : cA = G.2.2.1 3 := by
    obtain ⟨kA', comp', q1, q2, q3, q4⟩ := (X.2.2.2.2.2.2.2.2.2.2.1.1.2 3 _ rfl).2
    exact Option.some.inj (f1.symm.trans q4)
  have e9 : cells + 1 + kc2 = cells + kc := by omega
  have e8 : slots + N + ks2 = slots + ks := by omega
  have K := kk G p l e Rm s m args below meth c H1 locs (cells + 1) (slots + N) Q la X (Hp_push hp hn n9 z1 o1 ?_) (by omega) (by omega) (by rw [e9, e8]; exact hr) hl2
  · rw [List.map_cons, ← tv_new G n9 hz] at K
    rw [hN]
    exact K
  · rw [ent_arr G (nw h n) (t := 3) hk, if_neg (by decide), if_neg (by decide), hl, ← hz]
    show H1[H.size]? = some (vp_cell _ _)
    have en : (fun j => ro G (gF (nw h n) n j)) = fun _ => none := by
      funext j
      rw [show gF (nw h n) n j = 5000 from congrFun (up1_at _ _ _) j]
      rfl
    rw [eA, hc, en]
    rfl
/-- a board into a row of boards -/
theorem R_aastore {r v : Nat} {x : Int32} (hd : decode M.2.1 pc = .ok (.aastore, 1)) (ho : isA h 3 r) (hv : isO h 0 v) (hi : vp_in x (ln r)) (kk : Rr M kc ks (pc + 1) ls st (sF h r x.toNatClampNeg v) P) : Rr M kc ks pc ls (.ref v :: .int x :: .ref r :: st) h P := by
  intro G p l e Rm s m args below meth c H locs cells slots Q la X hp h1 h2 hr hl
  have hr0 : r < 1000 := Nat.lt_of_lt_of_le ho.1 hp.2.1
  have hv0 : v < 1000 := Nat.lt_of_lt_of_le hv.1 hp.2.1
  rw [List.map_cons, List.map_cons, List.map_cons, tv_ref G hr0, tv_ref G hv0]
  have he := cells_at G h ho.1
  rw [ent_arr G h ho.2, if_neg (by decide), if_neg (by decide)] at he
  have hve := cells_at G h hv.1
  rw [ent_obj G h hv.2 (by decide)] at hve
  have hK := X.2.2.2.2.2.2.2.2.2.2.1.1
  obtain ⟨cell, g1, g2, g3⟩ := va_recv hK hp.2.2.1 (show clsL[0]? = some (RX0, TX0, 1) from rfl) hve
  obtain ⟨kC, hkC, -⟩ := Vm.findClass_spec g3
  obtain ⟨kA, comp, k1, k2, k3, -⟩ := (hK.2 3 _ rfl).2
  have ec : comp = cell.cls := Option.some.inj (k3.symm.trans g3)
  have hlt : x.toNatClampNeg < ln r := Nat.not_le.mp fun q => hi (Or.inr q)
  refine W.aast X.1 X.2.1 (hp.2.2.1 r _ he) (fun q h => by cases h) (fun h => by cases h) k1 k2 rfl (by rw [ec]; exact hkC) ⟨fun q => hi (Or.inl q), by show _ < (arrV _ _ _).slots.size; rw [arrV_size]; exact hlt⟩ g1 (fun q h => by rw [h] at g2; cases g2) hkC (by rw [ec]; exact va_asg _ _) rfl rfl hd fun H1 e1 z oq => ?_
  refine kk G p l e Rm s m args below meth c H1 _ cells slots Q la X (put_arr (h2 := sF h r x.toNatClampNeg v) hp ho.1 rfl rfl (fun i hi2 => ent_congr G rfl rfl (up2_r _ _ _ hi2)) ?_ z oq) h1 h2 hr hl
  rw [ent_arr G (sF h r x.toNatClampNeg v) ho.2, if_neg (by decide), if_neg (by decide)]
  show H1[G.1 + r]? = some (vp_cell _ _)
  rw [e1]
  rw [vp_cell_q, vp_cell_q, arrV_store]
  congr 2
  funext q
  by_cases hq : q = x.toNatClampNeg
  · subst hq
    rw [show gF (sF h r x.toNatClampNeg v) r x.toNatClampNeg = v from up2_at _ _ _ _]
    simp [updV, va_rf, ro, hv0]
  · rw [show gF (sF h r x.toNatClampNeg v) r q = gF h r q from up2_k _ _ _ hq]
    simp [updV, hq]
def dv0 (t : Nat) : Value := match t with
  | 0 => .int 0
  | 1 => .long 0
  | _ => .null
theorem R_new {i n ci N kc2 ks2 : Nat} {C : String} {T : u_T} {ty : Nat → FieldType} (F : ClsOK ci C T N) (hty : ∀ k, k < N → parseFieldDescriptor (T k).2.2.1 = some (ty k)) (hdv : ∀ k, k < N → ∃ t, (tgL.getD ci [])[k]? = some t ∧ defaultValue (ty k) = dv0 t) (hd : decode M.2.1 pc = .ok (.new i, 3)) (hw : Cond.classLink M.1.cls i C ∈ TBG) (hw2 : Cond.instantiable C N ∈ TBG) (hw3 : Cond.initialized C ∈ TBG) (hn : h.1 = n) (hk : kd n = ci) (hkc : 1 + kc2 = kc) (hks : N + ks2 = ks) (kk : Rr M kc2 ks2 (pc + 3) ls (.ref n :: st) (nw h n) P) : Rr M kc ks pc ls st h P := by
  intro G p l e Rm s m args below meth c H locs cells slots Q la X hp h1 h2 hr hl2
  have c13 := F.lt
  have n9 : n < 150 := kd_lt (by omega)
  have hz : H.size = G.1 + n := by rw [← hn]; exact hp.1
  have hKn := X.2.2.2.2.2.2.2.2.2.2.1.1.1 ci _ F.1
  refine W.newcK X.1 X.2.1 X.2.2.2.2.1 (X.2.2.2.2.2.1 _ hw) (X.2.2.2.2.2.1 _ hw2) (X.2.2.2.2.2.1 _ hw3) rfl hd (by omega) (by omega) hKn.2.1 rfl fun H1 kC hkC e1 z1 o1 => ?_
  have e9 : cells + 1 + kc2 = cells + kc := by omega
  have e8 : slots + N + ks2 = slots + ks := by omega
  have K := kk G p l e Rm s m args below meth c H1 locs (cells + 1) (slots + N) Q la X (Hp_push hp hn n9 z1 o1 ?_) (by omega) (by omega) (by rw [e9, e8]; exact hr) hl2
  · rw [List.map_cons, ← tv_new G n9 hz] at K
    exact K
  · rw [ent_obj G (nw h n) hk (by omega), ← hz]
    refine ⟨_, F.1, (u_born ty X.2.2.2.2.2.1 F.2.1 hKn hkC e1 hty).to (fun k hk2 => ?_)⟩
    obtain ⟨t, ht, hdt⟩ := hdv k hk2
    rw [hdt]
    have e5 : vp_V ((tgL.getD ci []).mapIdx (fun k t => fv G (nw h n) n k t)) k = fv G (nw h n) n k t := by
      unfold vp_V
      rw [List.getD_eq_getElem?_getD, List.getElem?_mapIdx, ht]
      rfl
    rw [e5]
    rcases t with _ | _ | t
    · show Value.int 0 = Value.int (gI (nw h n) n k)
      rw [show gI (nw h n) n k = 0 from congrFun (up1_at _ _ _) k]
    · show Value.long 0 = Value.long (gL (nw h n) n k)
      rw [show gL (nw h n) n k = 0 from congrFun (up1_at _ _ _) k]
    · show Value.null = va_rf (ro G (gF (nw h n) n k))
      rw [show gF (nw h n) n k = 5000 from congrFun (up1_at _ _ _) k]
      rfl
end MAKE
