/-- rows of a row: its cells n + 1 .. -/
def nwm (h : AH) (n : Nat) : Nat → AH
  | 0 => nw h n
  | j + 1 => sF (nw (nwm h n j) (n + 1 + j)) n j (n + 1 + j)
def MK (n : Nat) : Prop := ∀ j, j < 21 → kd (n + 1 + j) = 100 ∧ ln (n + 1 + j) = 10
theorem sh_multi : MK 92 := by
  have t : ∀ j : Fin 21, kd (92 + 1 + j.val) = 100 ∧ ln (92 + 1 + j.val) = 10 := by decide +kernel
  exact fun j hj => t ⟨j, hj⟩
/-! rows of a row: 21 rows of 10 ints -/
def mrw2 (a i j : Nat) : Value := if j < i then .ref (a + 1 + j) else .null
def mkT (T : State) (cA cI : ClassId) : Nat → State
  | 0 => T.pushCell (arrV cA 21 (mrw2 T.heap.size 0))
  | i + 1 => ((mkT T cA cI i).pushCell (arrV cI 10 (fun _ => .int 0))).setCell T.heap.size (arrV cA 21 (mrw2 T.heap.size (i + 1)))
def mkL (a : Nat) : Nat → List Loc
  | 0 => []
  | i + 1 => mkL a i ++ [⟨a, i⟩]
theorem mkT_f (T : State) (cA cI : ClassId) : ∀ i, (mkT T cA cI i).heap.size = T.heap.size + 1 + i ∧ (mkT T cA cI i).heap[T.heap.size]? = some (arrV cA 21 (mrw2 T.heap.size i)) ∧ (mkT T cA cI i).vm = T.vm ∧ (mkT T cA cI i).slotsUsed = T.slotsUsed + 21 + i * 10
  | 0 => ⟨by simp [mkT], by simp [mkT], rfl, by simp [mkT, arrV_size]⟩
  | i + 1 => by
    obtain ⟨f1, f2, f3, f4⟩ := mkT_f T cA cI i
    have hlt : T.heap.size < (mkT T cA cI i).heap.size := by omega
    refine ⟨?_, ?_, ?_, ?_⟩
    · simp [mkT, State.setCell, f1]
      omega
    · exact State.heap_setCell_self (by rw [State.heap_pushCell_of_lt (h := hlt)]; exact f2)
    · simp [mkT, f3]
    · simp [mkT, f4, arrV_size]
      omega
theorem mkT_top (T : State) (f : JFrame) (cA cI : ClassId) : ∀ i, mkT (T.setTop f) cA cI i = (mkT T cA cI i).setTop f
  | 0 => rfl
  | i + 1 => by simp only [mkT, mkT_top T f cA cI i, State.heap_setTop, State.pushCell_setTop, State.setCell_setTop]
theorem mrw_set (cA : ClassId) (a i : Nat) : (arrV cA 21 (mrw2 a i)).setSlot i (.ref (a + 1 + i)) = arrV cA 21 (mrw2 a (i + 1)) := by
  rw [arrV_store]
  congr 1
  funext j
  unfold updV mrw2
  by_cases h : j = i
  · subst h
    rw [if_pos rfl, if_pos (by omega)]
  · rw [if_neg h]
    by_cases h2 : j < i
    · rw [if_pos h2, if_pos (by omega)]
    · rw [if_neg h2, if_neg (by omega)]
theorem mkT_X {p : Program} {l : Launch} {e : Env} {R : Room} {s : State} {m : MethodId} {args : Array Value} {below : List Frame} {meth : Method} {c : Code} {T : State} {locs : List Loc} {cells slots : Nat} (X : Stand p l e R s m args below meth c T locs cells slots) (cA cI : ClassId) : ∀ i, Stand p l e R s m args below meth c (mkT T cA cI i) (locs ++ mkL T.heap.size i) (cells + (1 + i)) (slots + (21 + i * 10))
  | 0 => by
    have h := X.pushed (arrV cA 21 (mrw2 T.heap.size 0))
    rw [arrV_size] at h
    rw [mkL, List.append_nil]
    exact h
  | i + 1 => by
    have Xi := mkT_X X cA cI i
    obtain ⟨f1, f2, f3, f4⟩ := mkT_f T cA cI i
    have hlt : T.heap.size < (mkT T cA cI i).heap.size := by omega
    have hc : ((mkT T cA cI i).pushCell (arrV cI 10 (fun _ => .int 0))).heap[T.heap.size]? = some (arrV cA 21 (mrw2 T.heap.size i)) := by rw [State.heap_pushCell_of_lt (h := hlt)]; exact f2
    have h := (Xi.pushed (arrV cI 10 (fun _ => .int 0))).stored hc i (.ref (T.heap.size + 1 + i))
    rw [arrV_size, mrw_set] at h
    have e1 : cells + (1 + i) + 1 = cells + (1 + (i + 1)) := by omega
    have e2 : slots + (21 + i * 10) + 10 = slots + (21 + (i + 1) * 10) := by omega
    rw [e1, e2, List.append_assoc] at h
    exact h
theorem nwm_1 (h : AH) (n : Nat) : ∀ i, (nwm h n i).1 = n + 1 + i
  | 0 => rfl
  | i + 1 => by
    show n + 1 + i + 1 = n + 1 + (i + 1)
    omega
theorem nwm_F (h : AH) (n : Nat) : ∀ i j, gF (nwm h n i) n j = if j < i then n + 1 + j else 5000
  | 0, j => by
    rw [if_neg (by omega)]
    exact congrFun (up1_at _ _ _) j
  | i + 1, j => by
    have ih := nwm_F h n i j
    show up2 (nw (nwm h n i) (n + 1 + i)).2.2.2 n i (n + 1 + i) n j = _
    by_cases hj : j = i
    · subst hj
      rw [up2_at, if_pos (by omega)]
    · rw [up2_k _ _ _ hj]
      have e : (nw (nwm h n i) (n + 1 + i)).2.2.2 n j = gF (nwm h n i) n j := congrFun (up1_o _ _ (by omega)) j
      rw [e, ih]
      by_cases h2 : j < i
      · rw [if_pos h2, if_pos (by omega)]
      · rw [if_neg h2, if_neg (by omega)]
theorem mk_cell (G : GH) (h : AH) {n i : Nat} (n9 : n < 150) (hi : i ≤ 21) (cA : ClassId) : vp_cell cA (21, .inr (.inr (.inr (.inr (fun j => ro G (gF (nwm h n i) n j)))))) = arrV cA 21 (mrw2 (G.1 + n) i) := by
  rw [vp_cell_q]
  congr 1
  funext j
  rw [nwm_F]
  unfold mrw2
  by_cases h2 : j < i
  · rw [if_pos h2, if_pos h2]
    unfold ro
    rw [if_pos (by omega)]
    show Value.ref (G.1 + (n + 1 + j)) = _
    rw [show G.1 + (n + 1 + j) = G.1 + n + 1 + j by omega]
  · rw [if_neg h2, if_neg h2]
    rfl
theorem mkT_Hp {G : GH} {h : AH} {s T : State} {locs : List Loc} {n : Nat} (hp : Hp G h s T.heap locs) (hn : h.1 = n) (hk : kd n = 104) (hl : ln n = 21) (hm : MK n) : ∀ i, i ≤ 21 → Hp G (nwm h n i) s (mkT T (G.2.2.1 4) (G.2.2.1 0) i).heap (locs ++ mkL T.heap.size i)
  | 0, _ => by
    have n9 : n < 150 := kd_lt (by rw [hk]; decide)
    have hz : T.heap.size = G.1 + n := by rw [← hn]; exact hp.1
    rw [mkL, List.append_nil]
    refine Hp_push hp hn n9 (by simp [mkT]) (fun q hq => State.heap_pushCell_of_lt _ _ hq) ?_
    have e := mk_cell G h n9 (show 0 ≤ 21 by omega) (G.2.2.1 4)
    rw [ent_arr G (nw h n) (t := 4) hk, if_neg (by decide), if_neg (by decide), hl]
    show (mkT T _ _ 0).heap[G.1 + n]? = some (vp_cell (G.2.2.1 4) (21, .inr (.inr (.inr (.inr (fun j => ro G (gF (nwm h n 0) n j)))))))
    rw [e, ← hz]
    exact (mkT_f T _ _ 0).2.1
  | i + 1, hi => by
    have n9 : n < 150 := kd_lt (by rw [hk]; decide)
    have hz : T.heap.size = G.1 + n := by rw [← hn]; exact hp.1
    have ih := mkT_Hp hp hn hk hl hm i (by omega)
    obtain ⟨f1, f2, f3, f4⟩ := mkT_f T (G.2.2.1 4) (G.2.2.1 0) i
    have h1 := nwm_1 h n i
    have hm1 := hm i (by omega)
    have n10 : n + 1 + i < 150 := kd_lt (by rw [hm1.1]; decide)
    have hp1 : Hp G (nw (nwm h n i) (n + 1 + i)) s ((mkT T (G.2.2.1 4) (G.2.2.1 0) i).pushCell (arrV (G.2.2.1 0) 10 (fun _ => .int 0))).heap (locs ++ mkL T.heap.size i) := by
      refine Hp_push ih h1 n10 (by simp) (fun q hq => State.heap_pushCell_of_lt _ _ hq) ?_
      rw [ent_arr G (nw (nwm h n i) (n + 1 + i)) (t := 0) hm1.1, if_neg (by decide), if_pos (by decide), hm1.2]
      show ((mkT T (G.2.2.1 4) (G.2.2.1 0) i).pushCell (arrV (G.2.2.1 0) 10 (fun _ => .int 0))).heap[G.1 + (n + 1 + i)]? = some (vp_cell _ _)
      rw [show gI (nw (nwm h n i) (n + 1 + i)) (n + 1 + i) = fun _ => 0 from up1_at _ _ _, show G.1 + (n + 1 + i) = (mkT T (G.2.2.1 4) (G.2.2.1 0) i).heap.size by omega]
      show ((mkT T (G.2.2.1 4) (G.2.2.1 0) i).heap.push _)[(mkT T (G.2.2.1 4) (G.2.2.1 0) i).heap.size]? = _
      rw [Array.getElem?_push_size]
      rfl
    have hlt : T.heap.size < ((mkT T (G.2.2.1 4) (G.2.2.1 0) i).pushCell (arrV (G.2.2.1 0) 10 (fun _ => .int 0))).heap.size := by simp [f1]; omega
    have r := put_arr (k := i) (r := n) (H1 := (mkT T (G.2.2.1 4) (G.2.2.1 0) (i + 1)).heap) (h2 := nwm h n (i + 1)) hp1 (by show n < n + 1 + i + 1; omega) rfl rfl (fun q hq => ent_congr G rfl rfl (up2_r _ _ _ hq)) ?_ (by simp [mkT, State.setCell]) (fun q hq => ?_)
    · rw [mkL, ← List.append_assoc, hz]
      rw [hz] at r
      exact r
    · rw [ent_arr G (nwm h n (i + 1)) (t := 4) hk, if_neg (by decide), if_neg (by decide), hl]
      show (mkT T (G.2.2.1 4) (G.2.2.1 0) (i + 1)).heap[G.1 + n]? = some (vp_cell (G.2.2.1 4) (21, .inr (.inr (.inr (.inr (fun j => ro G (gF (nwm h n (i + 1)) n j)))))))
      rw [mk_cell G h n9 hi (G.2.2.1 4), ← hz]
      exact (mkT_f T _ _ (i + 1)).2.1
    · exact State.heap_setCell_other (by rw [hz]; exact Ne.symm hq)
theorem mk_arr {E : CtlPost} {e : Env} {d : Bool} {acts : List Action} {s : State} {c cc : ClassId} {k : Class} {ty : FieldType} {N : Nat} {v : Value} (hk : s.vm.classes[c]? = some k) (hkd : k.kind = .array cc ty) (l1 : ¬ N > e.platform.arrayLengthLimit) (l2 : ¬ N * componentBytes ty > e.platform.maxHeapBytes) (hf : fits ty v = true) {Q : Addr → Pre} (r1 : s.heap.size < e.platform.maxCells) (r2 : s.slotsUsed + N ≤ e.platform.maxSlots) (hq : ∀ acts', Q s.heap.size d acts' (s.pushCell (arrV c N (fun _ => v)))) : wp (Jvm.newArray c N v) Q E e d acts s := by
  have l3 : ¬ N > e.platform.maxSlots := by omega
  have hfit : ∀ i w, (Array.replicate N v)[i]? = some w → s.fitsSlot c .none i w = true := fun i w hw => by
    rw [Array.getElem?_replicate] at hw
    split at hw
    · cases hw
      simp [State.fitsSlot, State.slotType?, hk, hkd, hf]
    · cases hw
  simp only [Jvm.newArray, Jvm.arrayFits, wp_bind', W.ask, W.ite, wp_pure', W.theClass, W.alloc, if_neg l1, hk, hkd, if_neg l2, if_neg l3, Option.some.injEq, exists_eq_left', Array.size_replicate]
  refine ⟨r1, r2, hfit, ?_⟩
  rw [arrV_new]
  exact hq _
theorem mk_multi {E : CtlPost} {e : Env} {d : Bool} {acts : List Action} {T : State} {cA cI pI : ClassId} {kA kI : Class} (hA : T.vm.classes[cA]? = some kA) (kA1 : kA.kind = .array cI (.array .int)) (hI : T.vm.classes[cI]? = some kI) (kI1 : kI.kind = .array pI .int) (l1 : 21 ≤ e.platform.arrayLengthLimit) (l2 : 84 ≤ e.platform.maxHeapBytes) (r1 : T.heap.size + 22 ≤ e.platform.maxCells) (r2 : T.slotsUsed + 231 ≤ e.platform.maxSlots) {Q : Addr → Pre} (hq : ∀ d' acts', Q T.heap.size d' acts' (mkT T cA cI 21)) : wp (multianewarray.make cA [21, 10]) Q E e d acts T := by
  have n1 : ¬ (21 : Int32) < 0 := by decide
  have n2 : ¬ (10 : Int32) < 0 := by decide
  have t1 : (21 : Int32).toNatClampNeg = 21 := rfl
  have t2 : (10 : Int32).toNatClampNeg = 10 := rfl
  rw [multianewarray.make]
  simp only [wp_bind', W.ite, if_neg n1, wp_pure', W.theClass, hA, kA1, Option.some.injEq, exists_eq_left', t1]
  refine mk_arr hA kA1 (by omega) (by show ¬ 21 * 4 > _; omega) rfl (by omega) (by omega) fun acts1 => ?_
  have e0 : ((21 : Int32) == 0) = false := by decide
  simp only [e0, Bool.false_eq_true, if_false]
  rw [wp_bind', Std.Legacy.Range.forIn_eq_forIn_range']
  have hsz : ([:21] : Std.Legacy.Range).size = 21 := by simp [Std.Legacy.Range.size]
  rw [hsz]
  show wp (forIn (List.range' 0 21 1) PUnit.unit _) _ E e _ _ _
  refine wp_forIn_inv (fun rest s' => ∃ i, i + rest.length = 21 ∧ rest = List.range' i rest.length ∧ s' = mkT T cA cI i) _ _ ⟨0, rfl, rfl, ?_⟩ ?_ ?_
  · show _ = T.pushCell (arrV cA 21 (mrw2 T.heap.size 0))
    congr 1
  · rintro x rest s' d' acts' Q' ⟨i, hi, hl, rfl⟩ hnext
    rw [List.length_cons, List.range'_succ] at hl
    obtain ⟨rfl, hrest⟩ := List.cons.inj hl
    rw [List.length_cons] at hi
    obtain ⟨f1, f2, f3, f4⟩ := mkT_f T cA cI x
    simp only [wp_bind']
    rw [multianewarray.make]
    simp only [wp_bind', W.ite, if_neg n2, wp_pure', W.theClass, f3, hI, kI1, Option.some.injEq, exists_eq_left', t2]
    refine mk_arr (by rw [f3]; exact hI) kI1 (by omega) (by show ¬ 10 * 4 > _; omega) rfl (by omega) (by omega) fun acts2 => ?_
    have hlt : T.heap.size < (mkT T cA cI x).heap.size := by omega
    simp only [wp_bind', W.writeLoc, wp_pure']
    refine ⟨arrV cA 21 (mrw2 T.heap.size x), by rw [State.heap_pushCell_of_lt (h := hlt)]; exact f2, by simp [arrV], by rw [arrV_size]; omega, ?_, hnext _ _ _ ⟨x + 1, by omega, hrest, ?_⟩⟩
    · simp [State.fitsSlot, State.slotType?, arrV, f3, hA, kA1]
      rfl
    · rw [f1, mrw_set]
      rfl
  · rintro s' d' acts' ⟨i, hi, -, rfl⟩
    obtain rfl : i = 21 := by simpa using hi
    simp only [wp_pure']
    exact hq _ _
theorem R_multi {M : MI} {kc ks pc : Nat} {ls : List (Nat × Value)} {st : List Value} {h : AH} {P : Option Value → AH → Prop} {i n kc2 ks2 : Nat} (hd : decode M.2.1 pc = .ok (.multianewarray i 2, 4)) (hw : Cond.classLink M.1.cls i "[[I" ∈ TBG) (hn : h.1 = n) (hk : kd n = 104) (hl : ln n = 21) (hm : MK n) (hkc : 22 + kc2 = kc) (hks : 231 + ks2 = ks) (kk : Rr M kc2 ks2 (pc + 4) ls (.ref n :: st) (nwm h n 21) P) : Rr M kc ks pc ls (.int 10 :: .int 21 :: st) h P := by
  intro G p l e Rm s m args below meth c H locs cells slots Q la X hp h1 h2 hr hl2 T hT X0
  subst hT
  have n9 : n < 150 := kd_lt (by rw [hk]; decide)
  have hz : T.heap.size = G.1 + n := by rw [← hn]; exact hp.1
  have hC : Cs G s := X.2.2.2.2.2.2.2.2.2.2.1
  have hpl : e.platform.magicAccessors = ({} : Platform).magicAccessors := by rw [X0.admits.platform]
  obtain ⟨kA, hkA, hkindA⟩ := hC.2.2.2.2
  have nmA : s.vm.findClass "[[I" = some (G.2.2.1 4) := (hC.1.2 4 _ rfl).2
  obtain ⟨-, kI, hkI, pI, hkindI⟩ := (hC.1.2 0 _ rfl).1 0 (fun _ => .null)
  obtain ⟨c0, hfc0, hcl⟩ := Cond.classLink_spec X.2.2.2.2.1 (X.2.2.2.2.2.1 _ hw) e.platform hpl
  cases nmA.symm.trans hfc0
  obtain ⟨hg₁, hwarm₁, hready₁⟩ := State.classEntry (e := e) X0.warmed hcl
  generalize T.vm.noted m.cls i (.cls (G.2.2.1 4)) = vm₁ at hg₁ hwarm₁ hready₁
  have hal : s.vm.Alike vm₁ := hwarm₁.alike
  obtain ⟨kA₁, hkA₁, heA⟩ := hal.2.2 _ _ hkA
  obtain ⟨kI₁, hkI₁, heI⟩ := hal.2.2 _ _ hkI
  have hkindA₁ : kA₁.kind = .array (G.2.2.1 0) (.array .int) := by rw [heA]; exact hkindA
  have hkindI₁ : kI₁.kind = .array pI .int := by rw [heI]; exact hkindI
  have X₁ := X0.noted hwarm₁
  obtain ⟨hr1, hr2⟩ := X0.roomAbove (a := 22) (b := 231) (by omega) (by omega)
  have e9 : cells + (1 + 21) + kc2 = cells + kc := by omega
  have e8 : slots + (21 + 21 * 10) + ks2 = slots + ks := by omega
  have XF := mkT_X X₁ (G.2.2.1 4) (G.2.2.1 0) 21
  have K := kk G p l e Rm s m args below meth c (mkT (T.setVm vm₁) (G.2.2.1 4) (G.2.2.1 0) 21).heap _ (cells + (1 + 21)) (slots + (21 + 21 * 10)) Q la X (mkT_Hp (T := T.setVm vm₁) hp hn hk hl hm 21 (Nat.le_refl _)) (by omega) (by omega) (by rw [e9, e8]; exact hr) hl2
  rw [List.map_cons, tv_ref G (by omega), ← hz] at K
  obtain ⟨t, a1, b1⟩ := K (mkT (T.setVm vm₁) (G.2.2.1 4) (G.2.2.1 0) 21) rfl XF
  refine ⟨t, ?_, b1⟩
  have hdg : decode c.code pc = .ok (.multianewarray i 2, 4) := by rw [X.2.1]; exact hd
  have l1 : 21 ≤ e.platform.arrayLengthLimit := by rw [Launch.admits_arrayLengthLimit X0.admits]; omega
  have l2 : 84 ≤ e.platform.maxHeapBytes := by rw [Launch.admits_maxHeapBytes X0.admits]; omega
  show Steps p.tables e below (T.setTop (F0 m pc la (.int 10 :: .int 21 :: st.map (tv G)))) t
  generalize hg : F0 m pc la (.int 10 :: .int 21 :: st.map (tv G)) = g
  have g1 : g.method = m := by rw [← hg]
  have g2 : g.pc = pc := by rw [← hg]
  have g3 : g.stack = .int 10 :: .int 21 :: st.map (tv G) := by rw [← hg]
  have g4 : F0 m (pc + 4) la (.ref T.heap.size :: st.map (tv G)) = { g with pc := g.pc + 4, stack := .ref T.heap.size :: st.map (tv G) } := by rw [← hg]
  rw [g4] at a1
  rw [← g2] at hdg
  rw [← g1] at hg₁
  have hh : Jvm.At T g.method c below := by rw [g1]; exact X0.here
  jvm_step hh [X.1, hdg]
  simp only [multianewarray.sem, wp_bind', W.resolveClassAt_links (State.method?_setTop g X0.here.top) hg₁]
  rw [W.popN, if_neg (by decide)]
  refine ⟨g, State.topJava?_setTop' (s := T.setVm vm₁) g X0.here.top, [.int 21, .int 10], st.map (tv G), rfl, g3, ?_⟩
  simp only [List.mapM_cons, List.mapM_nil, wp_bind', wp_pure']
  refine mk_multi (kA := kA₁) (kI := kI₁) (cI := G.2.2.1 0) (pI := pI) hkA₁ hkindA₁ hkI₁ hkindI₁ l1 l2 (by show T.heap.size + 22 ≤ _; exact hr1) (by show T.slotsUsed + 231 ≤ _; exact hr2) (fun d' acts' => ?_)
  have eS : ((T.setTop g).setVm vm₁).setTop { g with stack := st.map (tv G) } = (T.setVm vm₁).setTop { g with stack := st.map (tv G) } := by
    show ((T.setVm vm₁).setTop g).setTop _ = _
    rw [State.setTop_setTop]
  rw [eS, mkT_top]
  simp only [wp_bind', W.mark, W.pushRef, State.topJava?_setTop' _ XF.here.top, Option.some.injEq, exists_eq_left', State.setTop_setTop, State.heap_setTop]
  intro acts
  simp [jvm, XF.here.top]
  exact a1
