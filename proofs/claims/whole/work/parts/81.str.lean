/-! TEXTS -/
def sln (j : Nat) : Nat := [80, 32, 78].getD j 0
def sch (j k : Nat) : Int32 := (strBL.getD j []).getD k 0
def RX (M : MI) (G : GH) (pc : Nat) (ls : List (Nat × Value)) (st : List Value) (h : AH) (P : Option Value → AH → Prop) : Prop :=
  ∀ (p : Program) (l : Launch) (e : Env) (Rm : Room) (s : State) (m : MethodId) (args : Array Value) (below : List Frame) (meth : Method) (c : Code) (H : Heap) (locs : List Loc) (cells slots : Nat) (Q : State → Prop) (la : Array Slot),
    Cx M G p Rm s m args meth c → Hp G h s H locs → cells + 0 ≤ Rm.cells → slots + 0 ≤ Rm.slots →
    (∀ (v : Option Value) (h2 : AH) (H2 : Heap) (locs2 : List Loc) (la2 : Array Slot) (pc2 : Nat), P v h2 → Hp G h2 s H2 locs2 → RetI M pc2 v → W p l e Rm s m args below meth c H2 locs2 (cells + 0) (slots + 0) Q (F0 m pc2 la2 (v.toList.map (tv G)))) →
    lv_has la M.2.2.1 ls →
    W p l e Rm s m args below meth c H locs cells slots Q (F0 m pc la st)
def PcX (G : GH) (as : List Value) (h : AH) : Array Value → State → Prop := fun v U => v = as.toArray ∧ Wd G h U
theorem RX.met {M : MI} {G : GH} {as : List Value} {h : AH} {P : Option Value → AH → Prop} {l : Launch} (hy : plainName M.1.cls = true) (hlen : (lg_sl as).length ≤ M.2.2.1) (hR : RX M G 0 (lv_args 0 as) [] h P) : Met l M.1 (wsM M) (rmM M) (PcX G as h) (QcM G P) 0 0 (AM G) := by
  refine Met.ofW (cc := M.2.1) (maxL := M.2.2.1) (ret := M.2.2.2.1) hy rfl ?_
  intro p e s m args below meth c s₁ B hml hv
  obtain ⟨rfl, hsz, h1000, hP, hC, hSt⟩ := hv
  have hts := atoms_spec (ws := wsM M) B.pre
  have hown : s.vm.findClass M.1.cls = some m.cls := findClass_of_methodNamed B.named
  have hlocks := B.notSynchronized
  have hnm : meth.name = M.1.name := (name_of_methodNamed B.named B.method).1
  have hcx : Cx M G p (headSpec (wsM M) (rmM M)).room s m as.toArray meth c := ⟨B.exec, B.bytes, B.returns, hml, hown, fun w hw => hts w (List.mem_cons_of_mem _ hw), hlocks, hnm, Nat.le_refl _, Nat.le_refl _, hC, hSt, by omega⟩
  have hl := lv_entry as (n := M.2.2.1) hlen
  rw [lg_entry_eq]
  refine hR p l e _ s m _ below meth c s.heap [] 0 0 _ _ hcx ⟨hsz, h1000, hP, va_S.rf⟩ (Nat.zero_le _) (Nat.zero_le _) ?_ hl
  intro v h2 H2 locs2 la2 pc2 hPv hH hret
  have hend : ∀ t : State, t.heap = H2 → s.WarmedH t.vm → QcM G P as.toArray s (.returned (v.map (tv G))) t := fun t ht hW =>
    ⟨⟨v, h2, rfl, hPv, by rw [ht]; exact hH.1, hH.2.1, by rw [ht]; exact hH.2.2.1, hC.warm hW, by rw [ht]; exact (hSt.moved hW.alike).kept hH.2.2.2.2.1⟩, hH.2.2.2.F ht⟩
  rcases hret with ⟨rfl, hr, hd⟩ | ⟨x, ty, rfl, hr, hn, hd⟩ | ⟨x, rfl, hr, hd⟩ | ⟨i, ty, rfl, hr, hty, hd⟩
  · exact W.vret B.exec B.bytes (B.returns.trans hr) hend hH.2.2.2.2.2 hd hlocks
  · exact W.zret B.exec B.bytes (B.returns.trans hr) hn hend hH.2.2.2.2.2 hd hlocks
  · exact W.lret2 B.exec B.bytes (B.returns.trans hr) hend hH.2.2.2.2.2 hd hlocks
  · refine W.aret (v := va_rf (ro G i)) B.exec B.bytes (B.returns.trans hr) hty ?_ hend hH.2.2.2.2.2 hd hlocks
    cases ro G i with
    | none => exact Or.inl rfl
    | some a => exact Or.inr ⟨a, rfl⟩
theorem pcx_blind (G : GH) (as : List Value) (h : AH) : FrameBlind (PcX G as h) := fun a U g mk q => by
  obtain ⟨q0, q1, q2, q3, q4, q5⟩ := q
  exact ⟨q0, q1, q2, q3, Cs.same (u := U) (U := U.calling g mk a) rfl q4, St.moved (u := U) (U := U.calling g mk a) (Vm.Alike.refl U.vm) q5⟩
theorem pcx_now {G : GH} {as : List Value} {h : AH} {s : State} {H : Heap} {locs : List Loc} (hC : Cs G s) (hS : St G s s.heap) (hp : Hp G h s H locs) : ∀ U : State, U.heap = H → s.WarmedH U.vm → PcX G as h as.toArray U := fun U hU hW =>
  ⟨rfl, by rw [hU]; exact hp.1, hp.2.1, by rw [hU]; exact hp.2.2.1, hC.warm hW, by rw [hU]; exact (hS.moved hW.alike).kept hp.2.2.2.2.1⟩
/-- a static call with raw arguments -/
theorem RX.call {M N : MI} {G : GH} {pc i n : Nat} {ls : List (Nat × Value)} {as rest : List Value} {h : AH} {P : Option Value → AH → Prop} (hd : decode M.2.1 pc = .ok (.invokestatic i, 3)) (hw : Cond.methodLink M.1.cls i N.1 ∈ TBG) (ok : OkS N n) (hrk : N.2.2.2.2.1 + 1 ≤ M.2.2.2.2.1) (hn : as.length = n) (hrest : (rest.map fun v => v.category).sum ≤ 8) (z1 : N.2.2.2.2.2.1 = 0) (z2 : N.2.2.2.2.2.2 = 0)
    (hc : ∀ l, Met l N.1 (wsM N) (rmM N) (PcX G as h) (QcM G (fun v h2 => RX M G (pc + 3) ls ((v.map (tv G)).toList ++ rest) h2 P)) 0 0 (AM G)) : RX M G pc ls (as.reverse ++ rest) h P := by
  intro p l e Rm s m args below meth c H locs cells slots Q la X hp h1 h2 hr hl
  refine run_back (va_runS (As := as) ⟨X.1, X.2.1, X.2.2.2.1, X.2.2.2.2.1, X.2.2.2.2.2.1⟩ (hc l) ⟨callB_of n X.2.2.2.2.2.1 (tb_good (ws_tb ok.1)) rfl z1 z2 (X.2.2.2.2.2.1 _ ok.1.2.1) (X.2.2.2.2.2.1 _ hw) ok.1.2.2.1 (room_ok hrk ok.1.2.2.2 X.2.2.2.2.2.2.2.2.1 X.2.2.2.2.2.2.2.2.2.1), X.2.2.2.2.2.1 _ ok.2⟩ ⟨pcx_blind G _ h, pcx_now X.2.2.2.2.2.2.2.2.2.2.1 X.2.2.2.2.2.2.2.2.2.2.2.1 hp⟩ rfl hn hl.1 rfl (lv_room hrest) hd ⟨h1, h2⟩) hp.2.2.2 fun v h9 H1 locs1 hR hp1 => ?_
  exact hR p l e Rm s m args below meth c H1 locs1 (cells + 0) (slots + 0) Q la X hp1 h1 h2 hr hl
theorem RX.of {M : MI} {G : GH} {pc : Nat} {ls : List (Nat × Value)} {st : List Value} {h : AH} {P : Option Value → AH → Prop} (k : Rr M 0 0 pc ls st h P) : RX M G pc (ls.map (fun q => (q.1, tv G q.2))) (st.map (tv G)) h P := k G
theorem RX.ret {M : MI} {G : GH} {pc : Nat} {ls : List (Nat × Value)} {h : AH} {P : Option Value → AH → Prop} {x : Int32} {ty : FieldType} (ht : M.2.2.2.1 = some ty) (hn : narrow ty (.int x) = .int x) (hd : decode M.2.1 pc = .ok (.ireturn, 1)) (k : P (some (.int x)) h) : RX M G pc ls [.int x] h P :=
  fun p l e Rm s m args below meth c H locs cells slots Q la X hp h1 h2 hr hl => hr (some (.int x)) h H locs la pc k hp (Or.inr (Or.inl ⟨x, ty, rfl, ht, hn, hd⟩))
theorem st_V {G : GH} {s : State} (h : St G s s.heap) {j : Nat} (hj : j < 3) : va_T .byte (G.2.2.2.2 j) (sln j) (fun q => .int (sch j q)) (AM G) s s.heap := (h.1.1 j hj).2.2.2
/-- Preconditions.checkIndex inside its bounds -/
theorem c_J3 {h : AH} {P : Option Value → AH → Prop} {G : GH} {l : Launch} {a b : Int32} {v : Value} (hv : v = .null ∨ ∃ t, v = .ref t) (h0 : ¬ a < 0) (hb : a < b) (k : P (some (.int a)) h) : Met l mJ3_checkIndex_8e157.1 (wsM mJ3_checkIndex_8e157) (rmM mJ3_checkIndex_8e157) (PcX G [.int a, .int b, v] h) (QcM G P) 0 0 (AM G) := by
  refine RX.met (M := mJ3_checkIndex_8e157) (by decide +kernel) ?_ ?_
  · rcases hv with rfl | ⟨t, rfl⟩
    · exact Nat.le_of_ble_eq_true rfl
    · exact Nat.le_of_ble_eq_true rfl
  · have R : Rr mJ3_checkIndex_8e157 0 0 0 [(0, .int a), (1, .int b)] [] h P := by
      refine R_iload_n (j := 0) (i := 0) (by decide +kernel) rfl 0 rfl ?_
      refine R_if_lt (off := 8) (tgt := 9) (by decide +kernel) rfl (fun q => absurd q h0) (fun _ => ?_)
      refine R_iload_n (j := 0) (i := 0) (by decide +kernel) rfl 0 rfl ?_
      refine R_iload_n (j := 1) (i := 1) (by decide +kernel) rfl 1 rfl ?_
      refine R_icmp_lt (off := 10) (tgt := 16) (by decide +kernel) rfl (fun _ => ?_) (fun q => absurd hb q)
      refine R_iload_n (j := 0) (i := 0) (by decide +kernel) rfl 0 rfl ?_
      exact fun G p l e Rm s m args below meth c H locs cells slots Q la X hp h1 h2 hr hl => hr (some (.int a)) h H locs la 17 k hp (Or.inr (Or.inl ⟨a, .int, rfl, rfl, rfl, by decide +kernel⟩))
    intro p l e Rm s m args below meth c H locs cells slots Q la X hp h1 h2 hr hl
    refine R G p l e Rm s m args below meth c H locs cells slots Q la X hp h1 h2 hr (lv_sub hl [0, 1] ?_)
    rfl
theorem RX.iload {M : MI} {G : GH} {pc : Nat} {ls : List (Nat × Value)} {st : List Value} {h : AH} {P : Option Value → AH → Prop} {j : Fin 4} {i : Nat} {x : Int32} (hd : decode M.2.1 pc = .ok (.iload_n j, 1)) (hi : (j : Nat) = i) (q : Nat) (hq : ls[q]? = some (i, .int x)) (k : RX M G (pc + 1) ls (.int x :: st) h P) : RX M G pc ls st h P :=
  fun p l e Rm s m args below meth c H locs cells slots Q la X hp h1 h2 hr hl => lv_iload_n X.1 X.2.1 hd hi (lv_at hl q hq) (k p l e Rm s m args below meth c H locs cells slots Q la X hp h1 h2 hr hl)
theorem RX.aload {M : MI} {G : GH} {pc : Nat} {ls : List (Nat × Value)} {st : List Value} {h : AH} {P : Option Value → AH → Prop} {j : Fin 4} {i x : Nat} (hd : decode M.2.1 pc = .ok (.aload_n j, 1)) (hi : (j : Nat) = i) (q : Nat) (hq : ls[q]? = some (i, .ref x)) (k : RX M G (pc + 1) ls (.ref x :: st) h P) : RX M G pc ls st h P :=
  fun p l e Rm s m args below meth c H locs cells slots Q la X hp h1 h2 hr hl => lv_aload_n X.1 X.2.1 hd hi (lv_at hl q hq) (k p l e Rm s m args below meth c H locs cells slots Q la X hp h1 h2 hr hl)
theorem c_J0 {h : AH} {P : Option Value → AH → Prop} {G : GH} {l : Launch} {a b : Int32} (h0 : ¬ a < 0) (hb : a < b) (k : P none h) : Met l mJ0_checkIndex_df160.1 (wsM mJ0_checkIndex_df160) (rmM mJ0_checkIndex_df160) (PcX G [.int a, .int b] h) (QcM G P) 0 0 (AM G) := by
  refine RX.met (M := mJ0_checkIndex_df160) (by decide +kernel) (Nat.le_of_ble_eq_true rfl) ?_
  refine RX.iload (j := 0) (i := 0) (by decide +kernel) rfl 0 rfl ?_
  refine RX.iload (j := 1) (i := 1) (by decide +kernel) rfl 1 rfl ?_
  intro p l e Rm s m args below meth c H locs cells slots Q la X hp h1 h2 hr hl
  have go : ∀ v : Value, (v = .null ∨ ∃ t, v = .ref t) → va_Z "jdk/internal/util/Preconditions" "SIOOBE_FORMATTER" "Ljava/util/function/BiFunction;" v (AM G) s s.heap → W p l e Rm s m args below meth c H locs cells slots Q (F0 m 2 la [.int b, .int a]) := fun v hv hZ => by
    refine va_gets X.1 X.2.1 (own := "java/lang/String") (index := 1053) (ref := "jdk/internal/util/Preconditions") hZ hp.2.2.2 X.2.2.2.2.1 (X.2.2.2.2.2.1 _ (tg3 116 (by decide +kernel) rfl)) (fun _ q => q) (by decide +kernel) ?_
    refine RX.call (M := mJ0_checkIndex_df160) (N := mJ3_checkIndex_8e157) (G := G) (pc := 5) (i := 1059) (n := 3) (as := [.int a, .int b, v]) (rest := []) (h := h) (P := P) (ls := lv_args 0 [.int a, .int b]) (by decide +kernel) lmJ0_1059 oJ3_checkIndex_8e157 (Nat.le_of_ble_eq_true rfl) rfl (Nat.le_of_ble_eq_true rfl) rfl rfl (fun l => c_J3 hv h0 hb ?_) p l e Rm s m args below meth c H locs cells slots Q la X hp h1 h2 hr hl
    intro p l e Rm s m args below meth c H locs cells slots Q la X hp h1 h2 hr hl
    refine lv_pop X.1 X.2.1 (va := .int a) (by decide +kernel) rfl ?_
    exact hr none h H locs la 9 k hp (Or.inl ⟨rfl, rfl, by decide +kernel⟩)
  rcases X.2.2.2.2.2.2.2.2.2.2.2.1.2.2 with hZ | ⟨t, hZ⟩
  · exact go _ (Or.inl rfl) hZ
  · exact go _ (Or.inr ⟨t, rfl⟩) hZ
theorem chr_tab : ∀ j : Fin 3, ∀ k : Fin 80, k.val < sln j.val → ((sch j.val k.val &&& 255).toUInt32 % 65536).toInt32 = sch j.val k.val ∧ (sch j.val k.val).toUInt32.toUInt16.toUInt32.toInt32 = sch j.val k.val := by decide +kernel
theorem sln_80 {j : Nat} (hj : j < 3) : sln j ≤ 80 := by
  have : ∀ x : Fin 3, sln x.val ≤ 80 := by decide
  exact this ⟨j, hj⟩
theorem c_J1 {h : AH} {P : Option Value → AH → Prop} {G : GH} {l : Launch} {j k : Nat} (hj : j < 3) (hk : k < sln j) (kk : P (some (.int (sch j k))) h) : Met l mJ1_charAt_3b067.1 (wsM mJ1_charAt_3b067) (rmM mJ1_charAt_3b067) (PcX G [.ref (G.2.2.2.2 j), .int (nI k)] h) (QcM G P) 0 0 (AM G) := by
  have s8 := sln_80 hj
  have T := chr_tab ⟨j, hj⟩ ⟨k, by omega⟩ hk
  simp only at T
  refine RX.met (M := mJ1_charAt_3b067) (by decide +kernel) (Nat.le_of_ble_eq_true rfl) ?_
  refine RX.iload (j := 1) (i := 1) (by decide +kernel) rfl 1 rfl ?_
  refine RX.aload (j := 0) (i := 0) (by decide +kernel) rfl 0 rfl ?_
  intro p l e Rm s m args below meth c H locs cells slots Q la X hp h1 h2 hr hl
  refine va_tlen X.1 X.2.1 (st_V X.2.2.2.2.2.2.2.2.2.2.2.1 hj) hp.2.2.2 (v := nI (sln j)) rfl (by decide +kernel) ?_
  refine RX.call (M := mJ1_charAt_3b067) (N := mJ0_checkIndex_df160) (G := G) (pc := 3) (i := 9) (n := 2) (as := [.int (nI k), .int (nI (sln j))]) (rest := []) (h := h) (P := P) (ls := lv_args 0 [.ref (G.2.2.2.2 j), .int (nI k)]) (by decide +kernel) lmJ1_9 oJ0_checkIndex_df160 (Nat.le_of_ble_eq_true rfl) rfl (Nat.le_of_ble_eq_true rfl) rfl rfl (fun l => c_J0 (fun q => absurd (nI_pos' (n := k) (by omega)) (nle.2 q)) (nI_lt hk (by omega)) ?_) p l e Rm s m args below meth c H locs cells slots Q la X hp h1 h2 hr hl
  refine RX.aload (j := 0) (i := 0) (by decide +kernel) rfl 0 rfl ?_
  refine RX.iload (j := 1) (i := 1) (by decide +kernel) rfl 1 rfl ?_
  intro p l e Rm s m args below meth c H locs cells slots Q la X hp h1 h2 hr hl
  refine va_tb X.1 X.2.1 (st_V X.2.2.2.2.2.2.2.2.2.2.2.1 hj) hp.2.2.2 (i := nI k) (vp_in_nI hk (by omega)) (v := .int (sch j k)) (by rw [nI_clamp (by omega)]) (by decide +kernel) ?_
  refine lv_sipush X.1 X.2.1 (n := 255) (v := 255) (by decide +kernel) rfl ?_
  refine lv_iand X.1 X.2.1 (by decide +kernel) ?_
  refine lv_i2c X.1 X.2.1 (v := sch j k) (by decide +kernel) T.1 ?_
  refine hr (some (.int (sch j k))) h H locs la 14 kk hp (Or.inr (Or.inl ⟨_, .char, rfl, rfl, ?_, by decide +kernel⟩))
  show Value.int _ = _
  rw [T.2]
section STRS
variable {M : MI} {pc : Nat} {ls : List (Nat × Value)} {st : List Value} {h : AH} {P : Option Value → AH → Prop}
theorem R_gsC (hm : M.1.cls = "java/lang/String") (hd : decode M.2.1 pc = .ok (.getstatic 38, 3)) (k : Rr M 0 0 (pc + 3) ls (.int 1 :: st) h P) : Rr M 0 0 pc ls st h P :=
  fun G p l e Rm s m args below meth c H locs cells slots Q la X hp h1 h2 hr hl => va_gets X.1 X.2.1 (own := "java/lang/String") (index := 38) (ref := "java/lang/String") X.2.2.2.2.2.2.2.2.2.2.2.1.2.1 hp.2.2.2 (hm ▸ X.2.2.2.2.1) (X.2.2.2.2.2.1 _ (tg3 96 (by decide +kernel) rfl)) (fun _ q => q) hd (k G p l e Rm s m args below meth c H locs cells slots Q la X hp h1 h2 hr hl)
theorem str_tv (G : GH) {j : Nat} (hj : j < 3) : tv G (.ref (1000 + j)) = .ref (G.2.2.2.1 j) := str_ro G (q := strL[j]'hj) (List.getElem?_eq_getElem hj)
theorem R_cod {j : Nat} (hj : j < 3) (hm : M.1.cls = "java/lang/String") (hd : decode M.2.1 pc = .ok (.getfield 15, 3)) (k : Rr M 0 0 (pc + 3) ls (.int 0 :: st) h P) : Rr M 0 0 pc ls (.ref (1000 + j) :: st) h P := by
  intro G p l e Rm s m args below meth c H locs cells slots Q la X hp h1 h2 hr hl
  rw [List.map_cons, str_tv G hj]
  exact vk_getf X.1 X.2.1 (own := "java/lang/String") (index := 15) (ref := "java/lang/String") (X.2.2.2.2.2.2.2.2.2.2.2.1.1.1 j hj).2.1 hp.2.2.2 (hm ▸ X.2.2.2.2.1) (X.2.2.2.2.2.1 _ (tg8 5 (by decide +kernel) rfl)) (fun _ q => q) hd (k G p l e Rm s m args below meth c H locs cells slots Q la X hp h1 h2 hr hl)
theorem R_vln {j : Nat} (hj : j < 3) (hm : M.1.cls = "java/lang/String") (hd : decode M.2.1 pc = .ok (.getfield 9, 3)) (hd2 : decode M.2.1 (pc + 3) = .ok (.arraylength, 1)) (k : Rr M 0 0 (pc + 4) ls (.int (nI (sln j)) :: st) h P) : Rr M 0 0 pc ls (.ref (1000 + j) :: st) h P := by
  intro G p l e Rm s m args below meth c H locs cells slots Q la X hp h1 h2 hr hl
  rw [List.map_cons, str_tv G hj]
  refine vk_getf X.1 X.2.1 (own := "java/lang/String") (index := 9) (ref := "java/lang/String") (X.2.2.2.2.2.2.2.2.2.2.2.1.1.1 j hj).2.2.1 hp.2.2.2 (hm ▸ X.2.2.2.2.1) (X.2.2.2.2.2.1 _ (tg8 4 (by decide +kernel) rfl)) (fun _ q => q) hd ?_
  exact va_tlen X.1 X.2.1 (st_V X.2.2.2.2.2.2.2.2.2.2.2.1 hj) hp.2.2.2 (v := nI (sln j)) rfl hd2 (k G p l e Rm s m args below meth c H locs cells slots Q la X hp h1 h2 hr hl)
end STRS
theorem c_lat {h : AH} {P : Option Value → AH → Prop} {j : Nat} (hj : j < 3) (k : P (some (.int 1)) h) : Call mJ0_isLatin1_aae02 [.ref (1000 + j)] h P := by
  refine Call.ofR (by decide +kernel) (Nat.le_of_ble_eq_true rfl) ?_
  refine R_gsC rfl (by decide +kernel) ?_
  refine R_if_eq (off := 14) (tgt := 17) (by decide +kernel) rfl (fun q => absurd q (by decide)) (fun _ => ?_)
  refine R_aload_n (j := 0) (i := 0) (by decide +kernel) rfl 0 rfl ?_
  refine R_cod hj rfl (by decide +kernel) ?_
  refine R_if_ne (off := 7) (tgt := 17) (by decide +kernel) rfl (fun q => absurd rfl q) (fun _ => ?_)
  refine R_iconst (n := 1) (v := 1) (by decide +kernel) rfl ?_
  refine R_goto (off := 4) (tgt := 18) (by decide +kernel) rfl ?_
  exact R_iret (ty := .boolean) (by decide +kernel) rfl rfl k
theorem c_cod {h : AH} {P : Option Value → AH → Prop} {j : Nat} (hj : j < 3) (k : P (some (.int 0)) h) : Call mJ0_coder_7d493 [.ref (1000 + j)] h P := by
  refine Call.ofR (by decide +kernel) (Nat.le_of_ble_eq_true rfl) ?_
  refine R_gsC rfl (by decide +kernel) ?_
  refine R_if_eq (off := 10) (tgt := 13) (by decide +kernel) rfl (fun q => absurd q (by decide)) (fun _ => ?_)
  refine R_aload_n (j := 0) (i := 0) (by decide +kernel) rfl 0 rfl ?_
  refine R_cod hj rfl (by decide +kernel) ?_
  refine R_goto (off := 4) (tgt := 14) (by decide +kernel) rfl ?_
  exact R_iret (ty := .byte) (by decide +kernel) rfl rfl k
theorem c_len {h : AH} {P : Option Value → AH → Prop} {j : Nat} (hj : j < 3) (k : P (some (.int (nI (sln j)))) h) : Call mJ0_length_8abf5 [.ref (1000 + j)] h P := by
  refine Call.ofR (by decide +kernel) (Nat.le_of_ble_eq_true rfl) ?_
  refine R_aload_n (j := 0) (i := 0) (by decide +kernel) rfl 0 rfl ?_
  refine R_vln hj rfl (by decide +kernel) (by decide +kernel) ?_
  refine R_aload_n (j := 0) (i := 0) (by decide +kernel) rfl 0 rfl ?_
  refine R_callStr (N := mJ0_coder_7d493) (i := 335) (n := 0) (j := j) (as := []) (rest := [.int (nI (sln j))]) (kc2 := 0) (ks2 := 0) (by decide +kernel) lmJ0_335 oJ0_coder_7d493 rfl (Nat.le_of_ble_eq_true rfl) rfl rfl (Nat.le_of_ble_eq_true rfl) rfl rfl hj (c_cod hj ?_)
  refine R_ishr (by decide +kernel) ?_
  have t : ∀ x : Fin 3, nI (sln x.val) >>> ((0 : Int32) &&& 31) = nI (sln x.val) := by decide +kernel
  rw [t ⟨j, hj⟩]
  exact R_iret (ty := .int) (by decide +kernel) rfl rfl k
theorem c_chr {h : AH} {P : Option Value → AH → Prop} {j k : Nat} (hj : j < 3) (hk : k < sln j) (kk : P (some (.int (sch j k))) h) : Call mJ0_charAt_5068e [.ref (1000 + j), .int (nI k)] h P := by
  have s8 := sln_80 hj
  have T := chr_tab ⟨j, hj⟩ ⟨k, by omega⟩ hk
  simp only at T
  refine Call.ofR (by decide +kernel) (Nat.le_of_ble_eq_true rfl) ?_
  refine R_aload_n (j := 0) (i := 0) (by decide +kernel) rfl 0 rfl ?_
  refine R_callStr (N := mJ0_isLatin1_aae02) (i := 492) (n := 0) (j := j) (as := []) (rest := []) (kc2 := 0) (ks2 := 0) (by decide +kernel) lmJ0_492 oJ0_isLatin1_aae02 rfl (Nat.le_of_ble_eq_true rfl) rfl rfl (Nat.le_of_ble_eq_true rfl) rfl rfl hj (c_lat hj ?_)
  refine R_if_eq (off := 12) (tgt := 16) (by decide +kernel) rfl (fun q => absurd q (by decide)) (fun _ => ?_)
  refine R_aload_n (j := 0) (i := 0) (by decide +kernel) rfl 0 rfl ?_
  intro G p l e Rm s m args below meth c H locs cells slots Q la X hp h1 h2 hr hl
  rw [List.map_cons, str_tv G hj]
  refine vk_getf X.1 X.2.1 (own := "java/lang/String") (index := 9) (ref := "java/lang/String") (X.2.2.2.2.2.2.2.2.2.2.2.1.1.1 j hj).2.2.1 hp.2.2.2 X.2.2.2.2.1 (X.2.2.2.2.2.1 _ (tg8 4 (by decide +kernel) rfl)) (fun _ q => q) (by decide +kernel) ?_
  refine lv_iload_n X.1 X.2.1 (k := 1) (i := 1) (x := nI k) (by decide +kernel) rfl (lv_at hl 1 rfl) ?_
  refine RX.call (M := mJ0_charAt_5068e) (N := mJ1_charAt_3b067) (G := G) (pc := 12) (i := 495) (n := 2) (as := [.ref (G.2.2.2.2 j), .int (nI k)]) (rest := []) (h := h) (P := P) (by decide +kernel) lmJ0_495 oJ1_charAt_3b067 (Nat.le_of_ble_eq_true rfl) rfl (Nat.le_of_ble_eq_true rfl) rfl rfl (fun l => c_J1 hj hk ?_) p l e Rm s m args below meth c H locs cells slots Q la X hp h1 h2 hr hl
  refine RX.ret (ty := .char) rfl ?_ (by decide +kernel) kk
  show Value.int _ = _
  rw [T.2]
