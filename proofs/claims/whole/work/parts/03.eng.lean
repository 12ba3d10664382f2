/-! THE ENGINE: an abstract heap of numbered cells (their shapes are the list SH), and a judgement over it for a method's code -/
abbrev AH : Type := Nat × (Nat → Nat → Int32) × (Nat → Nat → Int64) × (Nat → Nat → Nat)
abbrev GH : Type := Nat × va_G × (Nat → ClassId) × (Nat → Nat) × (Nat → Nat)
abbrev MI : Type := MethodName × ByteArray × Nat × Option FieldType × Nat × Nat × Nat
def gI (h : AH) (r k : Nat) : Int32 := h.2.1 r k
def gL (h : AH) (r k : Nat) : Int64 := h.2.2.1 r k
def gF (h : AH) (r k : Nat) : Nat := h.2.2.2 r k
def up2 {α : Type} (f : Nat → Nat → α) (r k : Nat) (v : α) : Nat → Nat → α := fun r2 k2 => if r2 = r ∧ k2 = k then v else f r2 k2
def up1 {α : Type} (f : Nat → Nat → α) (r : Nat) (g : Nat → α) : Nat → Nat → α := fun r2 => if r2 = r then g else f r2
def sI (h : AH) (r k : Nat) (v : Int32) : AH := (h.1, up2 h.2.1 r k v, h.2.2.1, h.2.2.2)
def sL (h : AH) (r k : Nat) (v : Int64) : AH := (h.1, h.2.1, up2 h.2.2.1 r k v, h.2.2.2)
def sF (h : AH) (r k : Nat) (v : Nat) : AH := (h.1, h.2.1, h.2.2.1, up2 h.2.2.2 r k v)
def rI (h : AH) (r : Nat) (g : Nat → Int32) : AH := (h.1, up1 h.2.1 r g, h.2.2.1, h.2.2.2)
def rL (h : AH) (r : Nat) (g : Nat → Int64) : AH := (h.1, h.2.1, up1 h.2.2.1 r g, h.2.2.2)
def kd (i : Nat) : Nat := (SH.getD i (99, 0)).1
def ln (i : Nat) : Nat := (SH.getD i (99, 0)).2
def ro (G : GH) (i : Nat) : Option Nat := if i < 1000 then some (G.1 + i) else if i < 2000 then some (G.2.2.2.1 (i - 1000)) else none
def tv (G : GH) : Value → Value
  | .ref i => va_rf (ro G i)
  | v => v
def fv (G : GH) (h : AH) (i k t : Nat) : Value := match t with
  | 0 => .int (gI h i k)
  | 1 => .long (gL h i k)
  | _ => va_rf (ro G (gF h i k))
def ent (G : GH) (h : AH) (i : Nat) : va_E :=
  if kd i < 100 then .inr (kd i, (tgL.getD (kd i) []).mapIdx (fun k t => fv G h i k t))
  else .inl (G.2.2.1 (kd i - 100), ln i, if kd i = 101 then .inr (.inl (gL h i)) else if kd i < 103 then .inl (gI h i) else .inr (.inr (.inr (.inr (fun j => ro G (gF h i j))))))
def cellsOf (G : GH) (h : AH) : va_W := (List.range h.1).map (fun i => (G.1 + i, ent G h i))
def AM (G : GH) : Nat → Prop := fun q => G.1 ≤ q
def tyL (G : GH) : List (ClassId × FieldType) := [(G.2.2.1 0, .int), (G.2.2.1 1, .long), (G.2.2.1 2, .byte), (G.2.2.1 3, .object "FourInks$Board"), (G.2.2.1 4, .array .int)]
theorem cells_at (G : GH) (h : AH) {i : Nat} (hi : i < h.1) : (cellsOf G h)[i]? = some (G.1 + i, ent G h i) := by
  simp [cellsOf, hi]
theorem cells_spec {G : GH} {h : AH} {i : Nat} {q : Nat × va_E} (hq : (cellsOf G h)[i]? = some q) : i < h.1 ∧ q = (G.1 + i, ent G h i) := by
  have hl : i < (cellsOf G h).length := (List.getElem?_eq_some_iff.mp hq).1
  have hi : i < h.1 := by simpa [cellsOf] using hl
  rw [cells_at G h hi] at hq
  exact ⟨hi, (Option.some.inj hq).symm⟩
theorem cells_set (G : GH) {h h2 : AH} (hn : h2.1 = h.1) (r : Nat) {e : va_E} (he : ent G h2 r = e) (ho : ∀ i, i ≠ r → ent G h2 i = ent G h i) : (cellsOf G h).set r (G.1 + r, e) = cellsOf G h2 := by
  apply List.ext_getElem?
  intro i
  by_cases hi : i < h.1
  · rw [cells_at G h2 (by omega)]
    by_cases hr : r = i
    · subst hr
      rw [List.getElem?_set_self (by simpa [cellsOf] using hi), he]
    · rw [List.getElem?_set_ne hr, cells_at G h hi, ho i (Ne.symm hr)]
  · rw [List.getElem?_eq_none (by simp [cellsOf]; omega), List.getElem?_eq_none (by simp [cellsOf]; omega)]
theorem cells_D (G : GH) (h : AH) : va_D (AM G) (cellsOf G h) := by
  refine ⟨fun i j p q hp hq e => ?_, fun k q hq => ?_⟩
  · obtain ⟨-, rfl⟩ := cells_spec hp
    obtain ⟨-, rfl⟩ := cells_spec hq
    have e2 : G.1 + i = G.1 + j := e
    omega
  · obtain ⟨-, rfl⟩ := cells_spec hq
    exact Nat.le_add_right _ _
theorem cells_push (G : GH) {h h2 : AH} (hn : h2.1 = h.1 + 1) {e : va_E} (he : ent G h2 h.1 = e) (ho : ∀ i, i < h.1 → ent G h2 i = ent G h i) : cellsOf G h ++ [(G.1 + h.1, e)] = cellsOf G h2 := by
  unfold cellsOf
  rw [hn, List.range_succ, List.map_append]
  congr 1
  · apply List.map_congr_left
    intro i hi
    rw [ho i (List.mem_range.mp hi)]
  · simp [he]
theorem tv_cat (G : GH) (v : Value) : (tv G v).category = v.category := by
  cases v <;> try rfl
  rename_i a
  simp only [tv]
  cases ro G a <;> rfl
theorem tv_cats (G : GH) (l : List Value) : ((l.map (tv G)).map fun v => v.category).sum = (l.map fun v => v.category).sum := by
  rw [List.map_map]
  congr 1
  apply List.map_congr_left
  intro v _
  exact tv_cat G v
/-- the words on a private member of a nest mate -/
def isNest : Cond → Bool
  | .methodLinkNest .. => true
  | _ => false
def NWL : List Cond := lw_tbl.filter isNest
def strL : List (String × Nat × String) := [("FourInks$JobText", 59, "sheet   slack   turns   white   over    mark    screw   box     screen  lies    "), ("FourInks$JobText", 171, "blue    red     yellow  black   "), ("FourInksModel", 127, "blue red yellow black sheet mark slack screw turns box white over screen lies ")]
def strB (i : Nat) : List Int32 := ((strL.getD i ("", 0, "")).2.2.toList.map (fun ch => Int32.ofNat ch.toNat))
def strBL : List (List Int32) := [strB 0, strB 1, strB 2]
/-- the row of rows: its component class is that of the rows of ints -/
def AA (G : GH) (s : State) : Prop := ∃ k : Class, s.vm.classes[G.2.2.1 4]? = some k ∧ k.kind = .array (G.2.2.1 0) (.array .int)
theorem AA.moved {G : GH} {u U : State} (hvm : u.vm.Alike U.vm) (h : AA G u) : AA G U := by
  obtain ⟨k, h1, h2⟩ := h
  obtain ⟨k2, h3, h4⟩ := hvm.2.2 _ _ h1
  exact ⟨k2, h3, by rw [h4]; exact h2⟩
def Cs (G : GH) (s : State) : Prop :=
  va_K G.2.1 clsL (tyL G) s ∧ (∀ w ∈ NWL, va_Nw w s) ∧ (∀ (i : Nat) (q : String × Nat × String), strL[i]? = some q → vk_R q.1 q.2.1 q.2.2 (G.2.2.2.1 i) s) ∧ va_AO "FourInks$Board" s ∧ AA G s
def St (G : GH) (s : State) (H : Heap) : Prop :=
  vk_S 3 [80, 32, 78] strBL G.2.2.2.1 G.2.2.2.2 (AM G) s H ∧ va_Z "java/lang/String" "COMPACT_STRINGS" "Z" (.int 1) (AM G) s H ∧ va_Zq "jdk/internal/util/Preconditions" "SIOOBE_FORMATTER" "Ljava/util/function/BiFunction;" (AM G) s H
theorem nest_form {w : Cond} (h : w ∈ NWL) : ∃ (a : String) (i : Nat) (x : MethodName) (b : String), w = .methodLinkNest a i x b := by
  have h1 := (List.mem_filter.mp h).2
  cases w <;> first | exact ⟨_, _, _, _, rfl⟩ | (simp [isNest] at h1; done)
theorem Cs.warm {G : GH} {s U : State} (hW : s.WarmedH U.vm) (h : Cs G s) : Cs G U := by
  refine ⟨va_K.moved hW.alike h.1, fun w hw => ?_, fun i q hq => vk_R.warm hW (h.2.2.1 i q hq), va_AO.moved hW.alike h.2.2.2.1, h.2.2.2.2.moved hW.alike⟩
  obtain ⟨a, i, x, b, rfl⟩ := nest_form hw
  exact va_Nw.warmM hW (h.2.1 _ hw)
theorem Cs.same {G : GH} {u U : State} (hv : U.vm = u.vm) (h : Cs G u) : Cs G U := by
  have hal : u.vm.Alike U.vm := by rw [hv]; exact Vm.Alike.refl u.vm
  refine ⟨va_K.moved hal h.1, fun w hw => ?_, fun i q hq => vk_R.same hv (h.2.2.1 i q hq), va_AO.moved hal h.2.2.2.1, h.2.2.2.2.moved hal⟩
  obtain ⟨a, i, x, b, rfl⟩ := nest_form hw
  exact va_Nw.same rfl hv.symm (h.2.1 _ hw)
theorem St.moved {G : GH} {u U : State} {H : Heap} (hvm : u.vm.Alike U.vm) (h : St G u H) : St G U H :=
  ⟨vk_S.moved hvm h.1, va_Z.moved hvm h.2.1, va_Zq.moved hvm h.2.2⟩
theorem St.kept {G : GH} {U : State} {H H1 : Heap} (h : St G U H) (hq : ∀ a : Nat, a < H.size → ¬ AM G a → H1[a]? = H[a]?) : St G U H1 :=
  ⟨vk_S.kept h.1 hq, va_Z.kept h.2.1 hq, va_Zq.kept h.2.2 hq⟩
def wsM (M : MI) : List Cond := .code M.1 M.2.1 M.2.2.1 M.2.2.2.1 :: TBG
def rmM (M : MI) : Room := { frames := M.2.2.2.2.1, cells := M.2.2.2.2.2.1, slots := M.2.2.2.2.2.2, locals := 38 * M.2.2.2.2.1 }
/-- the world at a state -/
def Wd (G : GH) (h : AH) (U : State) : Prop :=
  U.heap.size = G.1 + h.1 ∧ h.1 ≤ 1000 ∧ va_P G.2.1 clsL (cellsOf G h) U.heap ∧ Cs G U ∧ St G U U.heap
def PcM (G : GH) (as : List Value) (h : AH) : Array Value → State → Prop := fun v U => v = (as.map (tv G)).toArray ∧ Wd G h U
def QcM (G : GH) (P : Option Value → AH → Prop) : Array Value → State → Outcome → State → Prop := fun _ st oc t =>
  (∃ (v : Option Value) (h2 : AH), oc = .returned (v.map (tv G)) ∧ P v h2 ∧ Wd G h2 t) ∧ va_F (AM G) st t
/-- a call of M with these arguments over this heap comes back, with P of its answer and of the heap then -/
def Call (M : MI) (as : List Value) (h : AH) (P : Option Value → AH → Prop) : Prop :=
  ∀ (l : Launch) (G : GH), Met l M.1 (wsM M) (rmM M) (PcM G as h) (QcM G P) M.2.2.2.2.2.1 M.2.2.2.2.2.2 (AM G)
def Cx (M : MI) (G : GH) (p : Program) (Rm : Room) (s : State) (m : MethodId) (args : Array Value) (meth : Method) (c : Code) : Prop :=
  p.tables.exec = Jvm.exec ∧ c.code = M.2.1 ∧ meth.sig.returnType = M.2.2.2.1 ∧ c.maxLocals = M.2.2.1 ∧ s.vm.findClass M.1.cls = some m.cls ∧ (∀ w ∈ TBG, w.before args s = true) ∧ meth.locks = false ∧ meth.name = M.1.name ∧ M.2.2.2.2.1 ≤ Rm.frames ∧ 38 * M.2.2.2.2.1 ≤ Rm.locals ∧ Cs G s ∧ St G s s.heap ∧ G.1 ≤ s.heap.size
def Hp (G : GH) (h : AH) (s : State) (H : Heap) (locs : List Loc) : Prop :=
  H.size = G.1 + h.1 ∧ h.1 ≤ 1000 ∧ va_P G.2.1 clsL (cellsOf G h) H ∧ va_S (AM G) s.heap H locs
def RetI (M : MI) (pc : Nat) (v : Option Value) : Prop :=
  (v = none ∧ M.2.2.2.1 = none ∧ decode M.2.1 pc = .ok (.return_, 1)) ∨
  (∃ (x : Int32) (ty : FieldType), v = some (.int x) ∧ M.2.2.2.1 = some ty ∧ narrow ty (.int x) = .int x ∧ decode M.2.1 pc = .ok (.ireturn, 1)) ∨
  (∃ x : Int64, v = some (.long x) ∧ M.2.2.2.1 = some .long ∧ decode M.2.1 pc = .ok (.lreturn, 1)) ∨
  (∃ (i : Nat) (ty : FieldType), v = some (.ref i) ∧ M.2.2.2.1 = some ty ∧ ((∃ n, ty = .object n) ∨ ∃ t, ty = .array t) ∧ decode M.2.1 pc = .ok (.areturn, 1))
/-- what M's code does from pc on, with these locals, this operand stack, this heap: it comes to its return with P; kc cells of ks slots may still be made -/
def Rr (M : MI) (kc ks pc : Nat) (ls : List (Nat × Value)) (st : List Value) (h : AH) (P : Option Value → AH → Prop) : Prop :=
  ∀ (G : GH) (p : Program) (l : Launch) (e : Env) (Rm : Room) (s : State) (m : MethodId) (args : Array Value) (below : List Frame) (meth : Method) (c : Code) (H : Heap) (locs : List Loc) (cells slots : Nat) (Q : State → Prop) (la : Array Slot),
    Cx M G p Rm s m args meth c → Hp G h s H locs → cells + kc ≤ Rm.cells → slots + ks ≤ Rm.slots →
    (∀ (v : Option Value) (h2 : AH) (H2 : Heap) (locs2 : List Loc) (la2 : Array Slot) (pc2 : Nat), P v h2 → Hp G h2 s H2 locs2 → RetI M pc2 v → W p l e Rm s m args below meth c H2 locs2 (cells + kc) (slots + ks) Q (F0 m pc2 la2 (v.toList.map (tv G)))) →
    lv_has la M.2.2.1 (ls.map (fun q => (q.1, tv G q.2))) →
    W p l e Rm s m args below meth c H locs cells slots Q (F0 m pc la (st.map (tv G)))
theorem W.lret2 {p : Program} {l : Launch} {e : Env} {R : Room} {s : State} {m : MethodId} {args : Array Value} {below : List Frame} {meth : Method} {c : Code} {H : Heap} {locs : List Loc} {cells slots : Nat} {cc : ByteArray} {Qc : Array Value → State → Outcome → State → Prop} {free : Addr → Prop} {v : Int64} (hexec : p.tables.exec = Jvm.exec) (hb : c.code = cc) (hr : meth.sig.returnType = some .long)
    (hq : ∀ t : State, t.heap = H → s.WarmedH t.vm → Qc args s (.returned (some (.long v))) t) (hf : ∀ q ∈ locs, free q.base)
    {pc : Nat} {ls : Array Slot} (hdg : decode cc pc = .ok (.lreturn, 1)) (hlocks : meth.locks = false) : W p l e R s m args below meth c H locs cells slots (MQ below Qc args s cells slots free) (F0 m pc ls [.long v]) := by
  first
    | exact W.lret hexec hb hr hq hf hdg
    | exact W.lret hexec hb hr hq hf hdg hlocks
theorem sl_len (G : GH) : ∀ as : List Value, (lg_sl (as.map (tv G))).length = (lg_sl as).length
  | [] => rfl
  | a :: t => by
    have ih := sl_len G t
    simp only [lg_sl, List.map_cons, List.flatMap_cons, List.length_append, tv_cat] at ih ⊢
    rw [ih]
    congr 1
    split <;> rfl
theorem Call.ofR {M : MI} {as : List Value} {h : AH} {P : Option Value → AH → Prop} (hy : plainName M.1.cls = true) (hlen : (lg_sl as).length ≤ M.2.2.1) (hR : Rr M M.2.2.2.2.2.1 M.2.2.2.2.2.2 0 (lv_args 0 as) [] h P) : Call M as h P := by
  intro l G
  refine Met.ofW (cc := M.2.1) (maxL := M.2.2.1) (ret := M.2.2.2.1) hy rfl ?_
  intro p e s m args below meth c s₁ B hml hv
  obtain ⟨rfl, hsz, h1000, hP, hC, hSt⟩ := hv
  have hts := atoms_spec (ws := wsM M) B.pre
  have hown : s.vm.findClass M.1.cls = some m.cls := findClass_of_methodNamed B.named
  have hlocks := B.notSynchronized
  have hnm : meth.name = M.1.name := (name_of_methodNamed B.named B.method).1
  have hcx : Cx M G p (headSpec (wsM M) (rmM M)).room s m (as.map (tv G)).toArray meth c := ⟨B.exec, B.bytes, B.returns, hml, hown, fun w hw => hts w (List.mem_cons_of_mem _ hw), hlocks, hnm, Nat.le_refl _, Nat.le_refl _, hC, hSt, by omega⟩
  have hsl : (lg_sl (as.map (tv G))).length = (lg_sl as).length := sl_len G as
  have hargs : ∀ (as : List Value) (i : Nat), lv_args i (as.map (tv G)) = (lv_args i as).map (fun q => (q.1, tv G q.2)) := by
    intro as
    induction as with
    | nil => intro i; rfl
    | cons a t ih =>
      intro i
      simp only [List.map_cons, lv_args, tv_cat, ih]
  have hl := lv_entry (as.map (tv G)) (n := M.2.2.1) (by rw [hsl]; exact hlen)
  rw [lg_entry_eq]
  rw [hargs] at hl
  refine hR G p l e _ s m _ below meth c s.heap [] 0 0 _ _ hcx ⟨hsz, h1000, hP, va_S.rf⟩ (by rw [Nat.zero_add]; exact Nat.le_refl _) (by rw [Nat.zero_add]; exact Nat.le_refl _) ?_ hl
  intro v h2 H2 locs2 la2 pc2 hPv hH hret
  rw [Nat.zero_add, Nat.zero_add]
  have hend : ∀ t : State, t.heap = H2 → s.WarmedH t.vm → QcM G P (as.map (tv G)).toArray s (.returned (v.map (tv G))) t := fun t ht hW =>
    ⟨⟨v, h2, rfl, hPv, by rw [ht]; exact hH.1, hH.2.1, by rw [ht]; exact hH.2.2.1, hC.warm hW, by rw [ht]; exact (hSt.moved hW.alike).kept hH.2.2.2.2.1⟩, hH.2.2.2.F ht⟩
  rcases hret with ⟨rfl, hr, hd⟩ | ⟨x, ty, rfl, hr, hn, hd⟩ | ⟨x, rfl, hr, hd⟩ | ⟨i, ty, rfl, hr, hty, hd⟩
  · exact W.vret B.exec B.bytes (B.returns.trans hr) hend hH.2.2.2.2.2 hd hlocks
  · exact W.zret B.exec B.bytes (B.returns.trans hr) hn hend hH.2.2.2.2.2 hd hlocks
  · exact W.lret2 B.exec B.bytes (B.returns.trans hr) hend hH.2.2.2.2.2 hd hlocks
  · refine W.aret (v := va_rf (ro G i)) B.exec B.bytes (B.returns.trans hr) hty ?_ hend hH.2.2.2.2.2 hd hlocks
    cases ro G i with
    | none => exact Or.inl rfl
    | some a => exact Or.inr ⟨a, rfl⟩
