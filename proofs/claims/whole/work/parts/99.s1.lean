/-! THE LAW: its own judgement, with the script beside the world -/
def mLw (nm : String) : MI := (⟨R_law, nm, "([I)Z"⟩, code, 4, ret, 14, 0, 0)
def LC (G : GH) (b L : Nat) (xs : Nat → Int32) (p : Program) (s : State) (m : MethodId) (meth : Method) (c : Code) : Prop :=
  Cx (mLw meth.name) G p room_1 s m #[.ref b] meth c ∧ va_X b L xs s s.heap ∧ b < s.heap.size ∧ G.1 = s.heap.size
def LW (G : GH) (b L : Nat) (xs : Nat → Int32) (pc : Nat) (ls : List (Nat × Value)) (st : List Value) (h : AH) : Prop :=
  ∀ (p : Program) (l : Launch) (e : Env) (s : State) (m : MethodId) (below : List Frame) (meth : Method) (c : Code) (H : Heap) (locs : List Loc) (la : Array Slot),
    LC G b L xs p s m meth c → Hp G h s H locs → lv_has la 4 ls →
    W p l e room_1 s m #[Value.ref b] below meth c H locs 150 3961 (lw_Z below #[Value.ref b] s) (F0 m pc la st)
theorem LC.nb {G : GH} {b L : Nat} {xs : Nat → Int32} {p : Program} {s : State} {m : MethodId} {meth : Method} {c : Code} (X : LC G b L xs p s m meth c) : ¬ AM G b := by
  unfold AM
  have h1 := X.2.2.1
  have h2 := X.2.2.2
  omega
theorem lg_same (x : Int64) : lg_cmp x x = 0 := by
  unfold lg_cmp
  rw [if_neg (by grind), if_pos rfl]
section LAWR
variable {G : GH} {b L : Nat} {xs : Nat → Int32} {pc : Nat} {ls : List (Nat × Value)} {st : List Value} {h : AH}
theorem LW.il {j : Fin 4} {i q : Nat} {x : Int32} (hd : decode code pc = .ok (.iload_n j, 1)) (hi : (j : Nat) = i) (hq : ls[q]? = some (i, .int x)) (k : LW G b L xs (pc + 1) ls (.int x :: st) h) : LW G b L xs pc ls st h :=
  fun p l e s m below meth c H locs la X hp hl => lv_iload_n X.1.1 X.1.2.1 hd hi (lv_at hl q hq) (k p l e s m below meth c H locs la X hp hl)
theorem LW.al {j : Fin 4} {i q x : Nat} (hd : decode code pc = .ok (.aload_n j, 1)) (hi : (j : Nat) = i) (hq : ls[q]? = some (i, .ref x)) (k : LW G b L xs (pc + 1) ls (.ref x :: st) h) : LW G b L xs pc ls st h :=
  fun p l e s m below meth c H locs la X hp hl => lv_aload_n X.1.1 X.1.2.1 hd hi (lv_at hl q hq) (k p l e s m below meth c H locs la X hp hl)
theorem LW.len (hd : decode code pc = .ok (.arraylength, 1)) (k : LW G b L xs (pc + 1) ls (.int (nI L) :: st) h) : LW G b L xs pc ls (.ref b :: st) h :=
  fun p l e s m below meth c H locs la X hp hl => va_slen X.1.1 X.1.2.1 X.2.1 X.2.2.1 X.nb hp.2.2.2 hd (k p l e s m below meth c H locs la X hp hl)
theorem LW.ld {i : Nat} (hi : i < L) (hL : L ≤ 4096) (hd : decode code pc = .ok (.iaload, 1)) (k : LW G b L xs (pc + 1) ls (.int (xs i) :: st) h) : LW G b L xs pc ls (.int (nI i) :: .ref b :: st) h :=
  fun p l e s m below meth c H locs la X hp hl => va_sld X.1.1 X.1.2.1 X.2.1 X.2.2.1 X.nb hp.2.2.2 (vp_in_nI hi (by omega)) hd (by rw [nI_clamp (by omega)]; exact k p l e s m below meth c H locs la X hp hl)
theorem LW.ic {n : Int} {v : Int32} (hd : decode code pc = .ok (.iconst n, 1)) (hv : Int32.ofInt n = v) (k : LW G b L xs (pc + 1) ls (.int v :: st) h) : LW G b L xs pc ls st h :=
  fun p l e s m below meth c H locs la X hp hl => lv_iconst X.1.1 X.1.2.1 hd hv (k p l e s m below meth c H locs la X hp hl)
theorem LW.bp {n : Int} {v : Int32} (hd : decode code pc = .ok (.bipush n, 2)) (hv : (Int8.ofInt n).toInt32 = v) (k : LW G b L xs (pc + 2) ls (.int v :: st) h) : LW G b L xs pc ls st h :=
  fun p l e s m below meth c H locs la X hp hl => lv_bipush X.1.1 X.1.2.1 hd hv (k p l e s m below meth c H locs la X hp hl)
theorem LW.ad {x y : Int32} (hd : decode code pc = .ok (.iadd, 1)) (k : LW G b L xs (pc + 1) ls (.int (x + y) :: st) h) : LW G b L xs pc ls (.int y :: .int x :: st) h :=
  fun p l e s m below meth c H locs la X hp hl => lv_iadd X.1.1 X.1.2.1 hd (k p l e s m below meth c H locs la X hp hl)
theorem LW.sb {x y : Int32} (hd : decode code pc = .ok (.isub, 1)) (k : LW G b L xs (pc + 1) ls (.int (x - y) :: st) h) : LW G b L xs pc ls (.int y :: .int x :: st) h :=
  fun p l e s m below meth c H locs la X hp hl => lv_isub X.1.1 X.1.2.1 hd (k p l e s m below meth c H locs la X hp hl)
theorem LW.an {x y : Int32} (hd : decode code pc = .ok (.iand, 1)) (k : LW G b L xs (pc + 1) ls (.int (x &&& y) :: st) h) : LW G b L xs pc ls (.int y :: .int x :: st) h :=
  fun p l e s m below meth c H locs la X hp hl => lv_iand X.1.1 X.1.2.1 hd (k p l e s m below meth c H locs la X hp hl)
theorem LW.gt {x y : Int32} {off : Int} {tgt : Nat} (hd : decode code pc = .ok (.if_icmp .gt off, 3)) (ht : (pc : Int) + off = (tgt : Int)) (kt : y < x → LW G b L xs tgt ls st h) (kf : ¬ y < x → LW G b L xs (pc + 3) ls st h) : LW G b L xs pc ls (.int y :: .int x :: st) h :=
  fun p l e s m below meth c H locs la X hp hl => lv_icmp_gt X.1.1 X.1.2.1 hd ht (fun q => kt q p l e s m below meth c H locs la X hp hl) (fun q => kf q p l e s m below meth c H locs la X hp hl)
theorem LW.same {x : Int32} {off : Int} {tgt : Nat} (hd : decode code pc = .ok (.if_icmp .eq off, 3)) (ht : (pc : Int) + off = (tgt : Int)) (kt : LW G b L xs tgt ls st h) : LW G b L xs pc ls (.int x :: .int x :: st) h :=
  fun p l e s m below meth c H locs la X hp hl => lv_icmp_eq X.1.1 X.1.2.1 hd ht (fun _ => kt p l e s m below meth c H locs la X hp hl) (fun q => absurd rfl q)
theorem LW.sameL {x : Int64} {off : Int} {tgt : Nat} (hd : decode code pc = .ok (.lcmp, 1)) (hd2 : decode code (pc + 1) = .ok (.ifCond .eq off, 3)) (ht : ((pc + 1 : Nat) : Int) + off = (tgt : Int)) (kt : LW G b L xs tgt ls st h) : LW G b L xs pc ls (.long x :: .long x :: st) h :=
  fun p l e s m below meth c H locs la X hp hl => W.lcmp X.1.1 X.1.2.1 hd (lv_if_eq X.1.1 X.1.2.1 hd2 ht (fun _ => kt p l e s m below meth c H locs la X hp hl) (fun q => absurd (lg_same x) q))
theorem LW.sw {x : Int32} {dflt lo hi off : Int} {offs : Array Int} {len tgt : Nat} (hd : decode code pc = .ok (.tableswitch dflt lo hi offs, len)) (h1 : ¬ x.toInt < lo) (h2 : ¬ hi < x.toInt) (ho : offs[(x.toInt - lo).toNat]? = some off) (ht : (pc : Int) + off = (tgt : Int)) (k : LW G b L xs tgt ls st h) : LW G b L xs pc ls (.int x :: st) h :=
  fun p l e s m below meth c H locs la X hp hl => lv_tableIn X.1.1 X.1.2.1 hd h1 h2 ho ht (k p l e s m below meth c H locs la X hp hl)
theorem LW.sw0 {x : Int32} {dflt lo hi : Int} {offs : Array Int} {len tgt : Nat} (hd : decode code pc = .ok (.tableswitch dflt lo hi offs, len)) (h1 : x.toInt < lo ∨ hi < x.toInt) (ht : (pc : Int) + dflt = (tgt : Int)) (k : LW G b L xs tgt ls st h) : LW G b L xs pc ls (.int x :: st) h :=
  fun p l e s m below meth c H locs la X hp hl => lv_tableOut X.1.1 X.1.2.1 hd h1 ht (k p l e s m below meth c H locs la X hp hl)
theorem LW.gotoo {off : Int} {tgt : Nat} (hd : decode code pc = .ok (.goto off, 3)) (ht : (pc : Int) + off = (tgt : Int)) (k : LW G b L xs tgt ls st h) : LW G b L xs pc ls st h :=
  fun p l e s m below meth c H locs la X hp hl => lv_goto X.1.1 X.1.2.1 hd ht (k p l e s m below meth c H locs la X hp hl)
theorem LW.end1 (hd : decode code pc = .ok (.ireturn, 1)) : LW G b L xs pc ls [.int 1] h := by
  intro p l e s m below meth c H locs la X hp hl
  refine va_forget (fun q hq => ?_) (W.widen (Nat.le_of_ble_eq_true rfl) (Nat.le_of_ble_eq_true rfl) (lw_ret X.1.1 X.1.2.1 X.1.2.2.1 X.1.2.2.2.2.2.2.1 hd))
  have := hp.2.2.2.2.2 q hq
  have h2 := X.2.2.2
  unfold AM at this
  omega
/-- one number of the script -/
theorem LW.arg1 {i k q0 q3 : Nat} {n : Int} (hL : L ≤ 4096) (hi : i + k < L) (h0 : ls[q0]? = some (0, .ref b)) (h3 : ls[q3]? = some (3, .int (nI i))) (d0 : decode code pc = .ok (.aload_n 0, 1)) (d1 : decode code (pc + 1) = .ok (.iload_n 3, 1)) (d2 : decode code (pc + 2) = .ok (.iconst n, 1)) (hn : Int32.ofInt n = nI k) (d3 : decode code (pc + 3) = .ok (.iadd, 1)) (d4 : decode code (pc + 4) = .ok (.iaload, 1)) (kk : LW G b L xs (pc + 5) ls (.int (xs (i + k)) :: st) h) : LW G b L xs pc ls st h := by
  refine LW.al (j := 0) (i := 0) d0 rfl h0 (LW.il (j := 3) (i := 3) d1 rfl h3 (LW.ic d2 hn (LW.ad d3 ?_)))
  rw [nI_add]
  exact LW.ld hi hL d4 kk
theorem LW.arg2 {i k q0 q3 : Nat} {n : Int} (hL : L ≤ 4096) (hi : i + k < L) (h0 : ls[q0]? = some (0, .ref b)) (h3 : ls[q3]? = some (3, .int (nI i))) (d0 : decode code pc = .ok (.aload_n 0, 1)) (d1 : decode code (pc + 1) = .ok (.iload_n 3, 1)) (d2 : decode code (pc + 2) = .ok (.bipush n, 2)) (hn : (Int8.ofInt n).toInt32 = nI k) (d3 : decode code (pc + 4) = .ok (.iadd, 1)) (d4 : decode code (pc + 5) = .ok (.iaload, 1)) (kk : LW G b L xs (pc + 6) ls (.int (xs (i + k)) :: st) h) : LW G b L xs pc ls st h := by
  refine LW.al (j := 0) (i := 0) d0 rfl h0 (LW.il (j := 3) (i := 3) d1 rfl h3 (LW.bp d2 hn (LW.ad d3 ?_)))
  rw [nI_add]
  exact LW.ld hi hL d4 kk
theorem LW.inc {i : Nat} {n : Int} {x v : Int32} {ls2 : List (Nat × Value)} (hd : decode code pc = .ok (.iinc i n, 3)) (q : Nat) (hq : ls[q]? = some (i, .int x)) (hv : x + Int32.ofInt n = v) (hn : i < 4) (he : (i, Value.int v) :: ls.filter (fun q => !(q.1 == i) && !(q.1 + 1 == i && q.2.category == 2)) = ls2) (k : LW G b L xs (pc + 3) ls2 st h) : LW G b L xs pc ls st h :=
  fun p l e s m below meth c H locs la X hp hl => lv_iinc X.1.1 X.1.2.1 hd hl hq hv hn he (fun la2 hl2 => k p l e s m below meth c H locs la2 X hp hl2)
theorem LW.sub {ls2 : List (Nat × Value)} (ks : List Nat) (he : lv_pick ls ks = ls2) (k : LW G b L xs pc ls2 st h) : LW G b L xs pc ls st h :=
  fun p l e s m below meth c H locs la X hp hl => k p l e s m below meth c H locs la X hp (lv_sub hl ks he)
/-- a call, behind which no cell is gone -/
theorem LW.call {N : MI} {i r n ci : Nat} {as rest : List Value} {T : u_T} {nf : Nat} (hd : decode code pc = .ok (.invokevirtual i, 3)) (hw : Cond.methodLink RLw i N.1 ∈ TBG) (ok : OkV N n) (hrk : N.2.2.2.2.1 + 1 ≤ 14) (hn : as.length = n) (hs : st = as.reverse ++ .ref (G.1 + r) :: rest) (hrest : (rest.map fun v => v.category).sum ≤ 8) (z1 : N.2.2.2.2.2.1 = 0) (z2 : N.2.2.2.2.2.2 = 0) (hti : ∀ v ∈ as, ∃ x : Int32, v = .int x) (ho : isO h ci r) (F : ClsOK ci N.1.cls T nf)
    (hc : Call N (.ref r :: as) h (fun v h2 => h.1 ≤ h2.1 → LW G b L xs (pc + 3) ls ((v.map (tv G)).toList ++ rest) h2)) : LW G b L xs pc ls st h := by
  intro p l e s m below meth c H locs la X hp hl
  subst hs
  have hr0 : r < 1000 := Nat.lt_of_lt_of_le ho.1 hp.2.1
  have he := cells_at G h ho.1
  rw [ent_obj G h ho.2 (Nat.lt_trans F.lt (by decide))] at he
  have hta : as.map (tv G) = as := by
    have : as.map (tv G) = as.map id := List.map_congr_left (fun v hv => by
      obtain ⟨x, rfl⟩ := hti v hv
      rfl)
    rw [this, List.map_id]
  have hT : GoodIn TBG (wsV RLw i N.1.cls N.1 (wsM N)) := tb_good (fun w hw2 => by
    rcases List.mem_append.mp hw2 with h | h
    · simp only [List.mem_cons, List.not_mem_nil, or_false] at h
      rcases h with rfl | rfl | rfl | rfl
      · exact hw
      · exact ok.2.1
      · exact ok.2.2
      · exact ok.1.2.1
    · exact ws_tb ok.1 w h)
  have hargs : (Value.ref (G.1 + r) :: as) = (Value.ref r :: as).map (tv G) := by rw [List.map_cons, tv_ref G hr0, hta]
  have Y := X.1
  have hM := hc l G
  rw [z1, z2] at hM
  have run : va_Run p l e room_1 s m #[Value.ref b] below meth c H locs 150 3961 0 0 (F0 m pc la (as.reverse ++ .ref (G.1 + r) :: rest)) rest (QcM G (fun v h2 => h.1 ≤ h2.1 → LW G b L xs (pc + 3) ls ((v.map (tv G)).toList ++ rest) h2) (Value.ref (G.1 + r) :: as).toArray) (AM G) := by
    refine va_runV (As := as) ⟨Y.1, Y.2.1, Y.2.2.2.1, Y.2.2.2.2.1, Y.2.2.2.2.2.1⟩ hM (cwV n Y.2.2.2.2.2.1 hT rfl z1 z2 ⟨rfl, ok.1.2.2.1⟩ (room_ok (M := mLw meth.name) hrk ok.1.2.2.2 Y.2.2.2.2.2.2.2.2.1 Y.2.2.2.2.2.2.2.2.2.1)) ⟨pc_blind G _ h, va_recv Y.2.2.2.2.2.2.2.2.2.2.1.1 hp.2.2.1 F.1 he, ?_⟩ rfl hn hl.1 rfl (lv_room hrest) hd ⟨Nat.le_of_ble_eq_true rfl, Nat.le_of_ble_eq_true rfl⟩
    rw [hargs]
    exact pc_now Y.2.2.2.2.2.2.2.2.2.2.1 Y.2.2.2.2.2.2.2.2.2.2.2.1 hp
  intro T hT2 X2
  obtain ⟨v, st₀, t, T', L2, h0, X', hL, e1, e2, ⟨⟨v2, h2, hv, hP, hw1, hw2, hw3, hw4, hw5⟩, hz, hk⟩, st⟩ := run T hT2 X2
  have hv2 : v = v2.map (tv G) := by injection hv
  subst hv2
  rw [h0] at hz hk
  have hle : h.1 ≤ h2.1 := by
    have a1 := hp.1
    omega
  obtain ⟨t2, a1, b1⟩ := hP hle p l e s m below meth c T'.heap (locs ++ L2) la X ⟨by rw [e1]; exact hw1, hw2, by rw [e1]; exact hw3,
    ⟨Nat.le_trans hp.2.2.2.1 (by rw [e1]; exact hz), fun q h1 h2 => by rw [e1, hk q (Nat.lt_of_lt_of_le h1 hp.2.2.2.1) h2]; exact hp.2.2.2.2.1 q h1 h2, fun q hq => by
      rcases List.mem_append.mp hq with h | h
      · exact hp.2.2.2.2.2 q h
      · exact hL q h⟩⟩ hl T' rfl X'
  exact ⟨t2, st t2 a1, b1⟩
end LAWR
