/-! THE LAW, from its entry to its loop -/
def LV (G : GH) (b L : Nat) (xs : Nat → Int32) (kc ks pc : Nat) (ls : List (Nat × Value)) (st : List Value) (h : AH) : Prop :=
  ∀ (p : Program) (l : Launch) (e : Env) (s : State) (m : MethodId) (below : List Frame) (meth : Method) (c : Code) (H : Heap) (locs : List Loc) (la : Array Slot),
    LC G b L xs p s m meth c → Hp G h s H locs → lv_has la 4 ls →
    W p l e room_1 s m #[Value.ref b] below meth c H locs kc ks (lw_Z below #[Value.ref b] s) (F0 m pc la st)
section LAWS
variable {G : GH} {b L : Nat} {xs : Nat → Int32} {kc ks pc : Nat} {ls : List (Nat × Value)} {st : List Value} {h : AH}
theorem LV.dup {v : Value} (hd : decode code pc = .ok (.dup, 1)) (hc : v.category = 1) (k : LV G b L xs kc ks (pc + 1) ls (v :: v :: st) h) : LV G b L xs kc ks pc ls (v :: st) h :=
  fun p l e s m below meth c H locs la X hp hl => lv_dup X.1.1 X.1.2.1 hd hc (k p l e s m below meth c H locs la X hp hl)
theorem LV.ic {n : Int} {v : Int32} (hd : decode code pc = .ok (.iconst n, 1)) (hv : Int32.ofInt n = v) (k : LV G b L xs kc ks (pc + 1) ls (.int v :: st) h) : LV G b L xs kc ks pc ls st h :=
  fun p l e s m below meth c H locs la X hp hl => lv_iconst X.1.1 X.1.2.1 hd hv (k p l e s m below meth c H locs la X hp hl)
theorem LV.ast {j : Fin 4} {i r : Nat} {ls2 : List (Nat × Value)} (hd : decode code pc = .ok (.astore_n j, 1)) (hi : (j : Nat) = i) (hn : i < 4) (he : (i, .ref r) :: ls.filter (fun q => !(q.1 == i) && !(q.1 + 1 == i && q.2.category == 2)) = ls2) (k : LV G b L xs kc ks (pc + 1) ls2 st h) : LV G b L xs kc ks pc ls (.ref r :: st) h :=
  fun p l e s m below meth c H locs la X hp hl => lv_astore_n X.1.1 X.1.2.1 hd hi hl hn he (fun la2 hl2 => k p l e s m below meth c H locs la2 X hp hl2)
theorem LV.ist {j : Fin 4} {i : Nat} {x : Int32} {ls2 : List (Nat × Value)} (hd : decode code pc = .ok (.istore_n j, 1)) (hi : (j : Nat) = i) (hn : i < 4) (he : (i, .int x) :: ls.filter (fun q => !(q.1 == i) && !(q.1 + 1 == i && q.2.category == 2)) = ls2) (k : LV G b L xs kc ks (pc + 1) ls2 st h) : LV G b L xs kc ks pc ls (.int x :: st) h :=
  fun p l e s m below meth c H locs la X hp hl => lv_istore_n X.1.1 X.1.2.1 hd hi hl hn he (fun la2 hl2 => k p l e s m below meth c H locs la2 X hp hl2)
theorem LV.new {i n ci N kc2 ks2 : Nat} {C : String} {T : u_T} {ty : Nat → FieldType} (F : ClsOK ci C T N) (hty : ∀ k, k < N → parseFieldDescriptor (T k).2.2.1 = some (ty k)) (hdv : ∀ k, k < N → ∃ t, (tgL.getD ci [])[k]? = some t ∧ defaultValue (ty k) = dv0 t) (hd : decode code pc = .ok (.new i, 3)) (hw : Cond.classLink RLw i C ∈ TBG) (hw2 : Cond.instantiable C N ∈ TBG) (hw3 : Cond.initialized C ∈ TBG) (hn : h.1 = n) (hk : kd n = ci) (hkc : kc + 1 = kc2) (hks : ks + N = ks2) (b1 : kc2 ≤ 150) (b2 : ks2 ≤ 3961) (kk : LV G b L xs kc2 ks2 (pc + 3) ls (.ref (G.1 + n) :: st) (nw h n)) : LV G b L xs kc ks pc ls st h := by
  intro p l e s m below meth c H locs la X hp hl2
  subst hkc
  subst hks
  have c13 := F.lt
  have n9 : n < 150 := kd_lt (by omega)
  have hz : H.size = G.1 + n := by rw [← hn]; exact hp.1
  have Y := X.1
  have hKn := Y.2.2.2.2.2.2.2.2.2.2.1.1.1 ci _ F.1
  refine W.newcK Y.1 Y.2.1 Y.2.2.2.2.1 (Y.2.2.2.2.2.1 _ hw) (Y.2.2.2.2.2.1 _ hw2) (Y.2.2.2.2.2.1 _ hw3) rfl hd (Nat.le_trans b1 (Nat.le_of_ble_eq_true rfl)) (Nat.le_trans b2 (Nat.le_of_ble_eq_true rfl)) hKn.2.1 rfl fun H1 kC hkC e1 z1 o1 => ?_
  have K := kk p l e s m below meth c H1 locs la X (Hp_push hp hn n9 z1 o1 ?_) hl2
  · rw [← hz] at K
    exact K
  · rw [ent_obj G (nw h n) hk (by omega), ← hz]
    refine ⟨_, F.1, (u_born ty Y.2.2.2.2.2.1 F.2.1 hKn hkC e1 hty).to (fun k hk2 => ?_)⟩
    obtain ⟨t, ht, hdt⟩ := hdv k hk2
    rw [hdt]
    have e5 : vp_V ((tgL.getD ci []).mapIdx (fun k t => fv G (nw h n) n k t)) k = fv G (nw h n) n k t := by
      unfold vp_V
      rw [List.getD_eq_getElem?_getD, List.getElem?_mapIdx, ht]
      rfl
    rw [e5]
    rcases t with _ | _ | t
    · show Value.int 0 = Value.int (gI (nw h n) n k)
      rw [show gI (nw h n) n k = 0 from congrFun (up1_at _ _ _) k]
    · show Value.long 0 = Value.long (gL (nw h n) n k)
      rw [show gL (nw h n) n k = 0 from congrFun (up1_at _ _ _) k]
    · show Value.null = va_rf (ro G (gF (nw h n) n k))
      rw [show gF (nw h n) n k = 5000 from congrFun (up1_at _ _ _) k]
      rfl
theorem LV.callI {N : MI} {i r kc2 ks2 : Nat} {rest : List Value} (hd : decode code pc = .ok (.invokespecial i, 3)) (hw : Cond.methodLink RLw i N.1 ∈ TBG) (ok : OkI N 0) (hrk : N.2.2.2.2.1 + 1 ≤ 14) (hrest : (rest.map fun v => v.category).sum ≤ 8) (hkc : kc + N.2.2.2.2.2.1 = kc2) (hks : ks + N.2.2.2.2.2.2 = ks2) (b1 : kc2 ≤ 150) (b2 : ks2 ≤ 3961) (hr9 : r < h.1)
    (hc : Call N [.ref r] h (fun v h2 => LV G b L xs kc2 ks2 (pc + 3) ls ((v.map (tv G)).toList ++ rest) h2)) : LV G b L xs kc ks pc ls (.ref (G.1 + r) :: rest) h := by
  intro p l e s m below meth c H locs la X hp hl
  subst hkc
  subst hks
  have hr0 : r < 1000 := Nat.lt_of_lt_of_le hr9 hp.2.1
  have hargs : [Value.ref (G.1 + r)] = ([Value.ref r] : List Value).map (tv G) := by rw [List.map_cons, tv_ref G hr0]; rfl
  have Y := X.1
  have run : va_Run p l e room_1 s m #[Value.ref b] below meth c H locs kc ks N.2.2.2.2.2.1 N.2.2.2.2.2.2 (F0 m pc la (.ref (G.1 + r) :: rest)) rest (QcM G (fun v h2 => LV G b L xs (kc + N.2.2.2.2.2.1) (ks + N.2.2.2.2.2.2) (pc + 3) ls ((v.map (tv G)).toList ++ rest) h2) ([Value.ref (G.1 + r)] : List Value).toArray) (AM G) := by
    refine va_runI (As := []) ⟨Y.1, Y.2.1, Y.2.2.2.1, Y.2.2.2.2.1, Y.2.2.2.2.2.1⟩ (hc l G) ⟨callB_of 0 Y.2.2.2.2.2.1 (tb_good (ws_tb ok.1)) (by rw [← ok.2.2.2]; rfl) rfl rfl (Y.2.2.2.2.2.1 _ ok.1.2.1) (Y.2.2.2.2.2.1 _ hw) ok.1.2.2.1 (room_ok (M := mLw meth.name) hrk ok.1.2.2.2 Y.2.2.2.2.2.2.2.2.1 Y.2.2.2.2.2.2.2.2.2.1), ok.2.2.1, Y.2.2.2.2.2.1 _ ok.2.1⟩ ⟨pc_blind G _ h, ?_⟩ rfl rfl hl.1 rfl (lv_room hrest) hd ⟨Nat.le_trans b1 (Nat.le_of_ble_eq_true rfl), Nat.le_trans b2 (Nat.le_of_ble_eq_true rfl)⟩
    rw [hargs]
    exact pc_now Y.2.2.2.2.2.2.2.2.2.2.1 Y.2.2.2.2.2.2.2.2.2.2.2.1 hp
  exact run_back run hp.2.2.2 fun v h9 H1 locs1 hR hp1 => hR p l e s m below meth c H1 locs1 la X hp1 hl
end LAWS
theorem lw_begin {G : GH} {b L : Nat} {xs : Nat → Int32} (hL : L ≤ 4096) : LV G b L xs 0 0 0 [(0, .ref b)] [] h00 := by
  refine LV.new (pc := 0) (i := 7) (n := 0) (kc2 := 1) (ks2 := 15) ok11 tyX11_ok dv_X11 (by decide +kernel) (tg1 22 (by decide +kernel) rfl) (tg1 23 (by decide +kernel) rfl) (tg1 1 (by decide +kernel) rfl) rfl rfl rfl rfl (Nat.le_of_ble_eq_true rfl) (Nat.le_of_ble_eq_true rfl) ?_
  refine LV.dup (pc := 3) (by decide +kernel) rfl ?_
  refine LV.callI (pc := 4) (N := mX11_init) (i := 9) (r := 0) (kc2 := 116) (ks2 := 1973) (by decide +kernel) lmLw_9 oX11_init (Nat.le_of_ble_eq_true rfl) (Nat.le_of_ble_eq_true rfl) rfl rfl (Nat.le_of_ble_eq_true rfl) (Nat.le_of_ble_eq_true rfl) (by decide) ?_
  refine i_X11 rfl ?_
  refine LV.ast (pc := 7) (j := 1) (i := 1) (ls2 := [(1, .ref (G.1 + 0)), (0, .ref b)]) (by decide +kernel) rfl (by decide) rfl ?_
  refine LV.new (pc := 8) (i := 10) (n := 116) (kc2 := 117) (ks2 := 2032) ok12 tyX12_ok dv_X12 (by decide +kernel) (tg5 230 (by decide +kernel) rfl) (tg5 231 (by decide +kernel) rfl) (tg1 14 (by decide +kernel) rfl) rfl rfl rfl rfl (Nat.le_of_ble_eq_true rfl) (Nat.le_of_ble_eq_true rfl) ?_
  refine LV.dup (pc := 11) (by decide +kernel) rfl ?_
  refine LV.callI (pc := 12) (N := mX12_init) (i := 12) (r := 116) (kc2 := 150) (ks2 := 3961) (by decide +kernel) lmLw_12 oX12_init (Nat.le_of_ble_eq_true rfl) (Nat.le_of_ble_eq_true rfl) rfl rfl (Nat.le_of_ble_eq_true rfl) (Nat.le_of_ble_eq_true rfl) (by decide) ?_
  refine i_X12 rfl HB_wf fun h7 h9 F7 z7 B7 S9 => ?_
  refine LV.ast (pc := 15) (j := 2) (i := 2) (ls2 := [(2, .ref (G.1 + 116)), (1, .ref (G.1 + 0)), (0, .ref b)]) (by decide +kernel) rfl (by decide) rfl ?_
  refine LV.ic (pc := 16) (n := 0) (v := 0) (by decide +kernel) rfl ?_
  refine LV.ist (pc := 17) (j := 3) (i := 3) (ls2 := lwl G b 0) (by decide +kernel) rfl (by decide) rfl ?_
  exact lw_loop hL (L + 1) 0 23 h9 (by omega) (by omega) (inv_start F7 z7 B7 S9)
