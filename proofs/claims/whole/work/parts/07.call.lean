def OkB (N : MI) (n : Nat) : Prop :=
  Cond.code N.1 N.2.1 N.2.2.1 N.2.2.2.1 ∈ TBG ∧ Cond.initialized N.1.cls ∈ TBG ∧ (N.1.cls ≠ "java/lang/invoke/MethodHandle" ∧ N.1.cls ≠ "java/lang/invoke/VarHandle" ∧ (parseMethodDescriptor N.1.desc).map (fun d => d.parameters.length) = some n) ∧ N.2.2.1 ≤ 19
def OkV (N : MI) (n : Nat) : Prop := OkB N n ∧ Cond.instanceMethod N.1 ∈ TBG ∧ Cond.selects N.1.cls N.1 N.1 ∈ TBG
def OkS (N : MI) (n : Nat) : Prop := OkB N n ∧ Cond.static N.1 ∈ TBG
def OkI (N : MI) (n : Nat) : Prop := OkB N n ∧ Cond.instanceMethod N.1 ∈ TBG ∧ N.1.name = "<init>" ∧ N.2.2.2.1 = none
theorem tb_good {ws : List Cond} (h : ∀ w ∈ ws, w ∈ TBG) : GoodIn TBG ws := fun w hw => ⟨h w hw, good_of_word (tbg_good (h w hw))⟩
theorem ws_tb {N : MI} {n : Nat} (h : OkB N n) : ∀ w ∈ wsM N, w ∈ TBG := fun w hw => by
  rcases List.mem_cons.mp hw with rfl | hw
  · exact h.1
  · exact hw
theorem pc_blind (G : GH) (as : List Value) (h : AH) : FrameBlind (PcM G as h) := fun a U g mk q => by
  obtain ⟨q0, q1, q2, q3, q4, q5⟩ := q
  exact ⟨q0, q1, q2, q3, Cs.same (u := U) (U := U.calling g mk a) rfl q4, St.moved (u := U) (U := U.calling g mk a) (Vm.Alike.refl U.vm) q5⟩
theorem pc_now {G : GH} {as : List Value} {h : AH} {s : State} {H : Heap} {locs : List Loc} (hC : Cs G s) (hS : St G s s.heap) (hp : Hp G h s H locs) : ∀ U : State, U.heap = H → s.WarmedH U.vm → PcM G as h (as.map (tv G)).toArray U := fun U hU hW =>
  ⟨rfl, by rw [hU]; exact hp.1, hp.2.1, by rw [hU]; exact hp.2.2.1, hC.warm hW, by rw [hU]; exact (hS.moved hW.alike).kept hp.2.2.2.2.1⟩
section CBACK
variable {p : Program} {l : Launch} {e : Env} {R : Room} {s : State} {m : MethodId} {args : Array Value} {below : List Frame} {meth : Method} {c : Code} {H : Heap} {locs : List Loc} {cells slots : Nat} {Q : State → Prop}
theorem run_back {G : GH} {P : Option Value → AH → Prop} {a : Array Value} {mc ms pc : Nat} {la : Array Slot} {st0 rst : List Value} (hr : va_Run p l e R s m args below meth c H locs cells slots mc ms (F0 m pc la st0) rst (QcM G P a) (AM G)) (hS : va_S (AM G) s.heap H locs)
    (kk : ∀ (v : Option Value) (h2 : AH) (H1 : Heap) (locs1 : List Loc), P v h2 → Hp G h2 s H1 locs1 → W p l e R s m args below meth c H1 locs1 (cells + mc) (slots + ms) Q (F0 m (pc + 3) la ((v.map (tv G)).toList ++ rst))) : W p l e R s m args below meth c H locs cells slots Q (F0 m pc la st0) := by
  intro T hT X
  obtain ⟨v, st₀, t, T', L, h0, X', hL, e1, e2, ⟨⟨v2, h2, hv, hp, hw1, hw2, hw3, hw4, hw5⟩, hz, hk⟩, st⟩ := hr T hT X
  have hv2 : v = v2.map (tv G) := by injection hv
  subst hv2
  rw [h0] at hz hk
  obtain ⟨t2, a1, b1⟩ := kk v2 h2 T'.heap (locs ++ L) hp ⟨by rw [e1]; exact hw1, hw2, by rw [e1]; exact hw3,
    ⟨Nat.le_trans hS.1 (by rw [e1]; exact hz), fun q h1 h2 => by rw [e1, hk q (Nat.lt_of_lt_of_le h1 hS.1) h2]; exact hS.2.1 q h1 h2, fun q hq => by
      rcases List.mem_append.mp hq with h | h
      · exact hS.2.2 q h
      · exact hL q h⟩⟩ T' rfl X'
  exact ⟨t2, st t2 a1, b1⟩
end CBACK
section COPYZ
variable {p : Program} {l : Launch} {e : Env} {R : Room} {s : State} {m : MethodId} {args : Array Value} {below : List Frame} {meth : Method} {c : Code} {H : Heap} {locs : List Loc} {cells slots : Nat} {Q : State → Prop}
variable {pc : Nat} {ls : Array Slot} {rest : List Value} {D : va_G} {cl : List vw_C} {A : Nat → Prop} {a : Nat} {tys : List (ClassId × FieldType)} {ws : va_W} {H0 : Heap}
theorem va_copyi_sz {cc : ByteArray} (hexec : p.tables.exec = Jvm.exec) (hb : c.code = cc) (hml : c.maxLocals = ls.size) {own : String} {index : Nat} (hown : s.vm.findClass own = some m.cls) (hlink : (Cond.methodLink own index arraycopyName).before args s = true) (hnat : (Cond.native arraycopyName).before args s = true) (hstat : (Cond.static arraycopyName).before args s = true) (hini : (Cond.initialized "java/lang/System").before args s = true)
    (hK : va_K D cl tys s) (hP : va_P D cl ws H) (hD : va_D A ws) (hS : va_S A H0 H locs) (q0 q1 t0 t1 : Nat) {a0 : Nat} {c0 c1 : ClassId} {n0 n1 : Nat} {f g : Nat → Int32} {ty : FieldType} (ha0 : ws[q0]? = some (a0, .inl (c0, n0, .inl f))) (ha1 : ws[q1]? = some (a, .inl (c1, n1, .inl g))) (ht0 : tys[t0]? = some (c0, ty)) (ht1 : tys[t1]? = some (c1, ty)) (hprim : refKind ty = false)
    {sp dp n : Int32} (h1 : ¬ sp < 0) (h2 : ¬ dp < 0) (h3 : ¬ n < 0) (h4 : sp.toNatClampNeg + n.toNatClampNeg ≤ n0) (h5 : dp.toNatClampNeg + n.toNatClampNeg ≤ n1) (hfit : ∀ i, i < n.toNatClampNeg → fits ty (.int (f (sp.toNatClampNeg + i))) = true)
    (hframes : 1 ≤ R.frames) (hlocals : (rest.map fun v => v.category).sum + (nativeFrameWords "java/lang/System" "arraycopy" 5 + 11) ≤ R.locals) (hdg : decode cc pc = .ok (.invokestatic index, 3))
    (kk : ∀ (H1 : Heap) (locs1 : List Loc), va_P D cl (ws.set q1 (a, .inl (c1, n1, .inl (va_cpy f g sp.toNatClampNeg dp.toNatClampNeg n.toNatClampNeg)))) H1 → H1.size = H.size → va_S A H0 H1 locs1 → W p l e R s m args below meth c H1 locs1 cells slots Q (F0 m (pc + 3) ls rest)) : W p l e R s m args below meth c H locs cells slots Q (F0 m pc ls (.int n :: .int dp :: .ref a :: .int sp :: .ref a0 :: rest)) := by
  have nn : ∀ z : Int32, ¬ z < 0 → z.toInt = (z.toNatClampNeg : Int) := by
    intro z hz
    have hz0 : (0 : Int) ≤ z.toInt := by
      have := Int32.not_lt.mp hz
      simpa using Int32.le_iff_toInt_le.mp this
    show z.toInt = ((z.toInt.toNat : Nat) : Int)
    omega
  intro T hT X
  have hc0 : H[a0]? = some (vp_cell c0 (n0, .inl f)) := hP q0 _ ha0
  have hc1 : H[a]? = some (vp_cell c1 (n1, .inl g)) := hP q1 _ ha1
  obtain ⟨-, k0, hk0, cm0, hkk0⟩ := (hK.2 t0 _ ht0).1 n0 (fun j => .int (f j))
  obtain ⟨-, k1, hk1, cm1, hkk1⟩ := (hK.2 t1 _ ht1).1 n1 (fun j => .int (g j))
  obtain ⟨vm', X', step⟩ := X.arraycopy hexec hown hlink hnat hstat hini (src := a0) (dst := a) (cs := vp_cell c0 (n0, .inl f)) (cd := vp_cell c1 (n1, .inl g)) (srcPos := sp) (destPos := dp) (n := n) (by rw [hT]; exact hc0) (by rw [hT]; exact hc1)
    (fun _ h => by cases h) (fun _ h => by cases h) (fun h => by cases h) (fun h => by cases h) hk0 hk1 hkk0 hkk1 (by simp [hprim]) h1 h2 h3
    (by rw [nn sp h1, nn n h3]; show ¬ _ > ((arrV c0 n0 (fun j => .int (f j))).slots.size : Int); rw [arrV_size]; omega)
    (by rw [nn dp h2, nn n h3]; show ¬ _ > ((arrV c1 n1 (fun j => .int (g j))).slots.size : Int); rw [arrV_size]; omega)
    (fun vm₁ _ i hi => by
      have e : (vp_cell c0 (n0, .inl f)).slots.getD (sp.toNatClampNeg + i) .null = .int (f (sp.toNatClampNeg + i)) := by
        show (arrV c0 n0 (fun j => .int (f j))).slots.getD _ _ = _
        rw [Array.getD_eq_getD_getElem?, arrV_read _ _ (by omega)]
        rfl
      refine ⟨?_, ?_⟩
      · rw [e]
        exact hfit i hi
      · rw [e]
        exact trivial)
    (g := F0 m pc ls (.int n :: .int dp :: .ref a :: .int sp :: .ref a0 :: rest)) rfl (by rw [hml]) (rest := rest) rfl (by rw [hb]; exact hdg) hframes (by show 2 * 0 + _ + _ ≤ _; omega)
  have e1 : copied (vp_cell c0 (n0, .inl f)) (vp_cell c1 (n1, .inl g)) sp dp n = vp_cell c1 (n1, .inl (va_cpy f g sp.toNatClampNeg dp.toNatClampNeg n.toNatClampNeg)) := va_copied (fun z => .int z) c0 c1 f g h4
  rw [e1] at X' step
  have hl : a < H.size := (Array.getElem?_eq_some_iff.mp hc1).1
  have hheap : ((T.setVm vm').setCell a (vp_cell c1 (n1, .inl (va_cpy f g sp.toNatClampNeg dp.toNatClampNeg n.toNatClampNeg)))).heap = H.setIfInBounds a (vp_cell c1 (n1, .inl (va_cpy f g sp.toNatClampNeg dp.toNatClampNeg n.toNatClampNeg))) := by rw [← hT]; rfl
  have oq : ∀ q : Nat, q ≠ a → (H.setIfInBounds a (vp_cell c1 (n1, .inl (va_cpy f g sp.toNatClampNeg dp.toNatClampNeg n.toNatClampNeg))))[q]? = H[q]? := fun q hq => by simp [Array.getElem?_setIfInBounds, Ne.symm hq]
  obtain ⟨t, a1, b1⟩ := kk _ _ (hP.set hD ha1 (show (H.setIfInBounds a _)[a]? = some _ by simp [Array.getElem?_setIfInBounds, hl]) oq) (by simp) ⟨by simp; exact hS.1, fun q g1 g2 => by
      rw [oq q (fun e => g2 (by rw [e]; exact hD.2 q1 _ ha1))]
      exact hS.2.1 q g1 g2, fun q hq => by
      rcases List.mem_append.mp hq with h | h
      · exact hS.2.2 q h
      · obtain ⟨z, -, hz⟩ := List.mem_map.mp h
        rw [← hz]
        exact hD.2 q1 _ ha1⟩ _ hheap X'
  exact ⟨t, step t a1, b1⟩
theorem va_copyl_sz {cc : ByteArray} (hexec : p.tables.exec = Jvm.exec) (hb : c.code = cc) (hml : c.maxLocals = ls.size) {own : String} {index : Nat} (hown : s.vm.findClass own = some m.cls) (hlink : (Cond.methodLink own index arraycopyName).before args s = true) (hnat : (Cond.native arraycopyName).before args s = true) (hstat : (Cond.static arraycopyName).before args s = true) (hini : (Cond.initialized "java/lang/System").before args s = true)
    (hK : va_K D cl tys s) (hP : va_P D cl ws H) (hD : va_D A ws) (hS : va_S A H0 H locs) (q0 q1 t0 t1 : Nat) {a0 : Nat} {c0 c1 : ClassId} {n0 n1 : Nat} {f g : Nat → Int64} {ty : FieldType} (ha0 : ws[q0]? = some (a0, .inl (c0, n0, .inr (.inl f)))) (ha1 : ws[q1]? = some (a, .inl (c1, n1, .inr (.inl g)))) (ht0 : tys[t0]? = some (c0, ty)) (ht1 : tys[t1]? = some (c1, ty)) (hprim : refKind ty = false)
    {sp dp n : Int32} (h1 : ¬ sp < 0) (h2 : ¬ dp < 0) (h3 : ¬ n < 0) (h4 : sp.toNatClampNeg + n.toNatClampNeg ≤ n0) (h5 : dp.toNatClampNeg + n.toNatClampNeg ≤ n1) (hfit : ∀ i, i < n.toNatClampNeg → fits ty (.long (f (sp.toNatClampNeg + i))) = true)
    (hframes : 1 ≤ R.frames) (hlocals : (rest.map fun v => v.category).sum + (nativeFrameWords "java/lang/System" "arraycopy" 5 + 11) ≤ R.locals) (hdg : decode cc pc = .ok (.invokestatic index, 3))
    (kk : ∀ (H1 : Heap) (locs1 : List Loc), va_P D cl (ws.set q1 (a, .inl (c1, n1, .inr (.inl (va_cpy f g sp.toNatClampNeg dp.toNatClampNeg n.toNatClampNeg))))) H1 → H1.size = H.size → va_S A H0 H1 locs1 → W p l e R s m args below meth c H1 locs1 cells slots Q (F0 m (pc + 3) ls rest)) : W p l e R s m args below meth c H locs cells slots Q (F0 m pc ls (.int n :: .int dp :: .ref a :: .int sp :: .ref a0 :: rest)) := by
  have nn : ∀ z : Int32, ¬ z < 0 → z.toInt = (z.toNatClampNeg : Int) := by
    intro z hz
    have hz0 : (0 : Int) ≤ z.toInt := by
      have := Int32.not_lt.mp hz
      simpa using Int32.le_iff_toInt_le.mp this
    show z.toInt = ((z.toInt.toNat : Nat) : Int)
    omega
  intro T hT X
  have hc0 : H[a0]? = some (vp_cell c0 (n0, .inr (.inl f))) := hP q0 _ ha0
  have hc1 : H[a]? = some (vp_cell c1 (n1, .inr (.inl g))) := hP q1 _ ha1
  obtain ⟨-, k0, hk0, cm0, hkk0⟩ := (hK.2 t0 _ ht0).1 n0 (fun j => .long (f j))
  obtain ⟨-, k1, hk1, cm1, hkk1⟩ := (hK.2 t1 _ ht1).1 n1 (fun j => .long (g j))
  obtain ⟨vm', X', step⟩ := X.arraycopy hexec hown hlink hnat hstat hini (src := a0) (dst := a) (cs := vp_cell c0 (n0, .inr (.inl f))) (cd := vp_cell c1 (n1, .inr (.inl g))) (srcPos := sp) (destPos := dp) (n := n) (by rw [hT]; exact hc0) (by rw [hT]; exact hc1)
    (fun _ h => by cases h) (fun _ h => by cases h) (fun h => by cases h) (fun h => by cases h) hk0 hk1 hkk0 hkk1 (by simp [hprim]) h1 h2 h3
    (by rw [nn sp h1, nn n h3]; show ¬ _ > ((arrV c0 n0 (fun j => .long (f j))).slots.size : Int); rw [arrV_size]; omega)
    (by rw [nn dp h2, nn n h3]; show ¬ _ > ((arrV c1 n1 (fun j => .long (g j))).slots.size : Int); rw [arrV_size]; omega)
    (fun vm₁ _ i hi => by
      have e : (vp_cell c0 (n0, .inr (.inl f))).slots.getD (sp.toNatClampNeg + i) .null = .long (f (sp.toNatClampNeg + i)) := by
        show (arrV c0 n0 (fun j => .long (f j))).slots.getD _ _ = _
        rw [Array.getD_eq_getD_getElem?, arrV_read _ _ (by omega)]
        rfl
      refine ⟨?_, ?_⟩
      · rw [e]
        exact hfit i hi
      · rw [e]
        exact trivial)
    (g := F0 m pc ls (.int n :: .int dp :: .ref a :: .int sp :: .ref a0 :: rest)) rfl (by rw [hml]) (rest := rest) rfl (by rw [hb]; exact hdg) hframes (by show 2 * 0 + _ + _ ≤ _; omega)
  have e1 : copied (vp_cell c0 (n0, .inr (.inl f))) (vp_cell c1 (n1, .inr (.inl g))) sp dp n = vp_cell c1 (n1, .inr (.inl (va_cpy f g sp.toNatClampNeg dp.toNatClampNeg n.toNatClampNeg))) := va_copied (fun z => .long z) c0 c1 f g h4
  rw [e1] at X' step
  have hl : a < H.size := (Array.getElem?_eq_some_iff.mp hc1).1
  have hheap : ((T.setVm vm').setCell a (vp_cell c1 (n1, .inr (.inl (va_cpy f g sp.toNatClampNeg dp.toNatClampNeg n.toNatClampNeg))))).heap = H.setIfInBounds a (vp_cell c1 (n1, .inr (.inl (va_cpy f g sp.toNatClampNeg dp.toNatClampNeg n.toNatClampNeg)))) := by rw [← hT]; rfl
  have oq : ∀ q : Nat, q ≠ a → (H.setIfInBounds a (vp_cell c1 (n1, .inr (.inl (va_cpy f g sp.toNatClampNeg dp.toNatClampNeg n.toNatClampNeg)))))[q]? = H[q]? := fun q hq => by simp [Array.getElem?_setIfInBounds, Ne.symm hq]
  obtain ⟨t, a1, b1⟩ := kk _ _ (hP.set hD ha1 (show (H.setIfInBounds a _)[a]? = some _ by simp [Array.getElem?_setIfInBounds, hl]) oq) (by simp) ⟨by simp; exact hS.1, fun q g1 g2 => by
      rw [oq q (fun e => g2 (by rw [e]; exact hD.2 q1 _ ha1))]
      exact hS.2.1 q g1 g2, fun q hq => by
      rcases List.mem_append.mp hq with h | h
      · exact hS.2.2 q h
      · obtain ⟨z, -, hz⟩ := List.mem_map.mp h
        rw [← hz]
        exact hD.2 q1 _ ha1⟩ _ hheap X'
  exact ⟨t, step t a1, b1⟩
end COPYZ
section CRULES
variable {M N : MI} {kc ks pc : Nat} {ls : List (Nat × Value)} {st : List Value} {h : AH} {P : Option Value → AH → Prop}
theorem room_ok {Rm : Room} (hrk : N.2.2.2.2.1 + 1 ≤ M.2.2.2.2.1) (hmx : N.2.2.1 ≤ 19) (h1 : M.2.2.2.2.1 ≤ Rm.frames) (h2 : 38 * M.2.2.2.2.1 ≤ Rm.locals) : (rmM N).frames + 1 ≤ Rm.frames ∧ 8 + (N.2.2.1 + 11) + (rmM N).locals ≤ Rm.locals := by
  unfold rmM
  dsimp only
  omega
theorem call_go {kc2 ks2 : Nat} {rest : List Value} {G : GH} {p : Program} {l : Launch} {e : Env} {Rm : Room} {s : State} {m : MethodId} {args : Array Value} {below : List Frame} {meth : Method} {c : Code} {H : Heap} {locs : List Loc} {cells slots : Nat} {Q : State → Prop} {la : Array Slot} {a : Array Value} {st0 : List Value}
    (hkc : N.2.2.2.2.2.1 + kc2 = kc) (hks : N.2.2.2.2.2.2 + ks2 = ks)
    (X : Cx M G p Rm s m args meth c) (hp : Hp G h s H locs) (h1 : cells + kc ≤ Rm.cells) (h2 : slots + ks ≤ Rm.slots)
    (hr : ∀ (v : Option Value) (h2 : AH) (H2 : Heap) (locs2 : List Loc) (la2 : Array Slot) (pc2 : Nat), P v h2 → Hp G h2 s H2 locs2 → RetI M pc2 v → W p l e Rm s m args below meth c H2 locs2 (cells + kc) (slots + ks) Q (F0 m pc2 la2 (v.toList.map (tv G))))
    (hl : lv_has la M.2.2.1 (ls.map (fun q => (q.1, tv G q.2))))
    (hrun : va_Run p l e Rm s m args below meth c H locs cells slots N.2.2.2.2.2.1 N.2.2.2.2.2.2 (F0 m pc la st0) (rest.map (tv G)) (QcM G (fun v h2 => Rr M kc2 ks2 (pc + 3) ls (v.toList ++ rest) h2 P) a) (AM G)) :
    W p l e Rm s m args below meth c H locs cells slots Q (F0 m pc la st0) := by
  refine run_back hrun hp.2.2.2 fun v h9 H1 locs1 hR hp1 => ?_
  have e1 : cells + N.2.2.2.2.2.1 + kc2 = cells + kc := by omega
  have e2 : slots + N.2.2.2.2.2.2 + ks2 = slots + ks := by omega
  have h9 := hR G p l e Rm s m args below meth c H1 locs1 (cells + N.2.2.2.2.2.1) (slots + N.2.2.2.2.2.2) Q la X hp1 (by omega) (by omega) (by rw [e1, e2]; exact hr) hl
  rw [List.map_append] at h9
  cases v with
  | none => exact h9
  | some v => exact h9
theorem R_callV {i r n ci kc2 ks2 : Nat} {as rest : List Value} {T : u_T} {nf : Nat} (hd : decode M.2.1 pc = .ok (.invokevirtual i, 3)) (hw : Cond.methodLink M.1.cls i N.1 ∈ TBG) (ok : OkV N n) (hrk : N.2.2.2.2.1 + 1 ≤ M.2.2.2.2.1) (hn : as.length = n) (hs : st = as.reverse ++ .ref r :: rest) (hrest : (rest.map fun v => v.category).sum ≤ 8) (hkc : N.2.2.2.2.2.1 + kc2 = kc) (hks : N.2.2.2.2.2.2 + ks2 = ks) (ho : isO h ci r) (F : ClsOK ci N.1.cls T nf)
    (hc : Call N (.ref r :: as) h (fun v h2 => Rr M kc2 ks2 (pc + 3) ls (v.toList ++ rest) h2 P)) : Rr M kc ks pc ls st h P := by
  intro G p l e Rm s m args below meth c H locs cells slots Q la X hp h1 h2 hr hl
  have hr0 : r < 1000 := Nat.lt_of_lt_of_le ho.1 hp.2.1
  have he := cells_at G h ho.1
  rw [ent_obj G h ho.2 (Nat.lt_trans F.lt (by decide))] at he
  have hst : st.map (tv G) = (as.map (tv G)).reverse ++ .ref (G.1 + r) :: rest.map (tv G) := by
    rw [hs, List.map_append, List.map_cons, tv_ref G hr0, List.map_reverse]
  rw [hst]
  have hT : GoodIn TBG (wsV M.1.cls i N.1.cls N.1 (wsM N)) := tb_good (fun w hw2 => by
    rcases List.mem_append.mp hw2 with h | h
    · simp only [List.mem_cons, List.not_mem_nil, or_false] at h
      rcases h with rfl | rfl | rfl | rfl
      · exact hw
      · exact ok.2.1
      · exact ok.2.2
      · exact ok.1.2.1
    · exact ws_tb ok.1 w h)
  have hargs : (Value.ref (G.1 + r) :: as.map (tv G)) = (Value.ref r :: as).map (tv G) := by rw [List.map_cons, tv_ref G hr0]
  refine call_go (N := N) hkc hks X hp h1 h2 hr hl (va_runV (As := as.map (tv G)) ⟨X.1, X.2.1, X.2.2.2.1, X.2.2.2.2.1, X.2.2.2.2.2.1⟩ (hc l G) (cwV n X.2.2.2.2.2.1 hT rfl rfl rfl ⟨rfl, ok.1.2.2.1⟩ (room_ok hrk ok.1.2.2.2 X.2.2.2.2.2.2.2.2.1 X.2.2.2.2.2.2.2.2.2.1)) ⟨pc_blind G _ h, va_recv X.2.2.2.2.2.2.2.2.2.2.1.1 hp.2.2.1 F.1 he, ?_⟩ rfl (by rw [List.length_map]; exact hn) hl.1 rfl (lv_room (by rw [tv_cats]; exact hrest)) hd ⟨by omega, by omega⟩)
  rw [hargs]
  exact pc_now X.2.2.2.2.2.2.2.2.2.2.1 X.2.2.2.2.2.2.2.2.2.2.2.1 hp
theorem R_callS {i n kc2 ks2 : Nat} {as rest : List Value} (hd : decode M.2.1 pc = .ok (.invokestatic i, 3)) (hw : Cond.methodLink M.1.cls i N.1 ∈ TBG) (ok : OkS N n) (hrk : N.2.2.2.2.1 + 1 ≤ M.2.2.2.2.1) (hn : as.length = n) (hs : st = as.reverse ++ rest) (hrest : (rest.map fun v => v.category).sum ≤ 8) (hkc : N.2.2.2.2.2.1 + kc2 = kc) (hks : N.2.2.2.2.2.2 + ks2 = ks)
    (hc : Call N as h (fun v h2 => Rr M kc2 ks2 (pc + 3) ls (v.toList ++ rest) h2 P)) : Rr M kc ks pc ls st h P := by
  intro G p l e Rm s m args below meth c H locs cells slots Q la X hp h1 h2 hr hl
  have hst : st.map (tv G) = (as.map (tv G)).reverse ++ rest.map (tv G) := by
    rw [hs, List.map_append, List.map_reverse]
  rw [hst]
  exact call_go (N := N) hkc hks X hp h1 h2 hr hl (va_runS (As := as.map (tv G)) ⟨X.1, X.2.1, X.2.2.2.1, X.2.2.2.2.1, X.2.2.2.2.2.1⟩ (hc l G) ⟨callB_of n X.2.2.2.2.2.1 (tb_good (ws_tb ok.1)) rfl rfl rfl (X.2.2.2.2.2.1 _ ok.1.2.1) (X.2.2.2.2.2.1 _ hw) ok.1.2.2.1 (room_ok hrk ok.1.2.2.2 X.2.2.2.2.2.2.2.2.1 X.2.2.2.2.2.2.2.2.2.1), X.2.2.2.2.2.1 _ ok.2⟩ ⟨pc_blind G _ h, pc_now X.2.2.2.2.2.2.2.2.2.2.1 X.2.2.2.2.2.2.2.2.2.2.2.1 hp⟩ rfl (by rw [List.length_map]; exact hn) hl.1 rfl (lv_room (by rw [tv_cats]; exact hrest)) hd ⟨by omega, by omega⟩)
theorem R_callSN {i n kc2 ks2 : Nat} {as rest : List Value} {host : String} (hd : decode M.2.1 pc = .ok (.invokestatic i, 3)) (hw : Cond.methodLinkNest M.1.cls i N.1 host ∈ NWL) (ok : OkS N n) (hrk : N.2.2.2.2.1 + 1 ≤ M.2.2.2.2.1) (hn : as.length = n) (hs : st = as.reverse ++ rest) (hrest : (rest.map fun v => v.category).sum ≤ 8) (hkc : N.2.2.2.2.2.1 + kc2 = kc) (hks : N.2.2.2.2.2.2 + ks2 = ks)
    (hc : Call N as h (fun v h2 => Rr M kc2 ks2 (pc + 3) ls (v.toList ++ rest) h2 P)) : Rr M kc ks pc ls st h P := by
  intro G p l e Rm s m args below meth c H locs cells slots Q la X hp h1 h2 hr hl
  have hst : st.map (tv G) = (as.map (tv G)).reverse ++ rest.map (tv G) := by
    rw [hs, List.map_append, List.map_reverse]
  rw [hst]
  exact call_go (N := N) hkc hks X hp h1 h2 hr hl (va_runSN (As := as.map (tv G)) ⟨X.1, X.2.1, X.2.2.2.1, X.2.2.2.2.1, X.2.2.2.2.2.1⟩ (hc l G) ⟨va_cnB n X.2.2.2.2.2.1 (tb_good (ws_tb ok.1)) rfl rfl rfl (X.2.2.2.2.2.2.2.2.2.2.1.2.1 _ hw) (X.2.2.2.2.2.1 _ ok.1.2.1) ok.1.2.2.1 (room_ok hrk ok.1.2.2.2 X.2.2.2.2.2.2.2.2.1 X.2.2.2.2.2.2.2.2.2.1), X.2.2.2.2.2.1 _ ok.2, trivial⟩ ⟨pc_blind G _ h, pc_now X.2.2.2.2.2.2.2.2.2.2.1 X.2.2.2.2.2.2.2.2.2.2.2.1 hp⟩ rfl (by rw [List.length_map]; exact hn) hl.1 rfl (lv_room (by rw [tv_cats]; exact hrest)) hd ⟨by omega, by omega⟩)
theorem R_callI {i r n kc2 ks2 : Nat} {as rest : List Value} (hd : decode M.2.1 pc = .ok (.invokespecial i, 3)) (hw : Cond.methodLink M.1.cls i N.1 ∈ TBG) (ok : OkI N n) (hrk : N.2.2.2.2.1 + 1 ≤ M.2.2.2.2.1) (hn : as.length = n) (hs : st = as.reverse ++ .ref r :: rest) (hrest : (rest.map fun v => v.category).sum ≤ 8) (hkc : N.2.2.2.2.2.1 + kc2 = kc) (hks : N.2.2.2.2.2.2 + ks2 = ks) (hr9 : r < h.1)
    (hc : Call N (.ref r :: as) h (fun v h2 => Rr M kc2 ks2 (pc + 3) ls (v.toList ++ rest) h2 P)) : Rr M kc ks pc ls st h P := by
  intro G p l e Rm s m args below meth c H locs cells slots Q la X hp h1 h2 hr hl
  have hr0 : r < 1000 := Nat.lt_of_lt_of_le hr9 hp.2.1
  have hst : st.map (tv G) = (as.map (tv G)).reverse ++ .ref (G.1 + r) :: rest.map (tv G) := by
    rw [hs, List.map_append, List.map_cons, tv_ref G hr0, List.map_reverse]
  rw [hst]
  have hargs : (Value.ref (G.1 + r) :: as.map (tv G)) = (Value.ref r :: as).map (tv G) := by rw [List.map_cons, tv_ref G hr0]
  refine call_go (N := N) hkc hks X hp h1 h2 hr hl (va_runI (As := as.map (tv G)) ⟨X.1, X.2.1, X.2.2.2.1, X.2.2.2.2.1, X.2.2.2.2.2.1⟩ (hc l G) ⟨callB_of n X.2.2.2.2.2.1 (tb_good (ws_tb ok.1)) (by rw [← ok.2.2.2]; rfl) rfl rfl (X.2.2.2.2.2.1 _ ok.1.2.1) (X.2.2.2.2.2.1 _ hw) ok.1.2.2.1 (room_ok hrk ok.1.2.2.2 X.2.2.2.2.2.2.2.2.1 X.2.2.2.2.2.2.2.2.2.1), ok.2.2.1, X.2.2.2.2.2.1 _ ok.2.1⟩ ⟨pc_blind G _ h, ?_⟩ rfl (by rw [List.length_map]; exact hn) hl.1 rfl (lv_room (by rw [tv_cats]; exact hrest)) hd ⟨by omega, by omega⟩)
  rw [hargs]
  exact pc_now X.2.2.2.2.2.2.2.2.2.2.1 X.2.2.2.2.2.2.2.2.2.2.2.1 hp
theorem R_callIN {i r n kc2 ks2 : Nat} {as rest : List Value} {host : String} (hd : decode M.2.1 pc = .ok (.invokespecial i, 3)) (hw : Cond.methodLinkNest M.1.cls i N.1 host ∈ NWL) (ok : OkI N n) (hrk : N.2.2.2.2.1 + 1 ≤ M.2.2.2.2.1) (hn : as.length = n) (hs : st = as.reverse ++ .ref r :: rest) (hrest : (rest.map fun v => v.category).sum ≤ 8) (hkc : N.2.2.2.2.2.1 + kc2 = kc) (hks : N.2.2.2.2.2.2 + ks2 = ks) (hr9 : r < h.1)
    (hc : Call N (.ref r :: as) h (fun v h2 => Rr M kc2 ks2 (pc + 3) ls (v.toList ++ rest) h2 P)) : Rr M kc ks pc ls st h P := by
  intro G p l e Rm s m args below meth c H locs cells slots Q la X hp h1 h2 hr hl
  have hr0 : r < 1000 := Nat.lt_of_lt_of_le hr9 hp.2.1
  have hst : st.map (tv G) = (as.map (tv G)).reverse ++ .ref (G.1 + r) :: rest.map (tv G) := by
    rw [hs, List.map_append, List.map_cons, tv_ref G hr0, List.map_reverse]
  rw [hst]
  have hargs : (Value.ref (G.1 + r) :: as.map (tv G)) = (Value.ref r :: as).map (tv G) := by rw [List.map_cons, tv_ref G hr0]
  refine call_go (N := N) hkc hks X hp h1 h2 hr hl (va_runIN (As := as.map (tv G)) ⟨X.1, X.2.1, X.2.2.2.1, X.2.2.2.2.1, X.2.2.2.2.2.1⟩ (hc l G) ⟨va_cnB n X.2.2.2.2.2.1 (tb_good (ws_tb ok.1)) (by rw [← ok.2.2.2]; rfl) rfl rfl (X.2.2.2.2.2.2.2.2.2.2.1.2.1 _ hw) (X.2.2.2.2.2.1 _ ok.1.2.1) ok.1.2.2.1 (room_ok hrk ok.1.2.2.2 X.2.2.2.2.2.2.2.2.1 X.2.2.2.2.2.2.2.2.2.1), ok.2.2.1, X.2.2.2.2.2.1 _ ok.2.1⟩ ⟨pc_blind G _ h, ?_⟩ rfl (by rw [List.length_map]; exact hn) hl.1 rfl (lv_room (by rw [tv_cats]; exact hrest)) hd ⟨by omega, by omega⟩)
  rw [hargs]
  exact pc_now X.2.2.2.2.2.2.2.2.2.2.1 X.2.2.2.2.2.2.2.2.2.2.2.1 hp
theorem R_callStr {i n j kc2 ks2 : Nat} {as rest : List Value} (hd : decode M.2.1 pc = .ok (.invokevirtual i, 3)) (hw : Cond.methodLink M.1.cls i N.1 ∈ TBG) (ok : OkV N n) (hcl : N.1.cls = "java/lang/String") (hrk : N.2.2.2.2.1 + 1 ≤ M.2.2.2.2.1) (hn : as.length = n) (hs : st = as.reverse ++ .ref (1000 + j) :: rest) (hrest : (rest.map fun v => v.category).sum ≤ 8) (hkc : N.2.2.2.2.2.1 + kc2 = kc) (hks : N.2.2.2.2.2.2 + ks2 = ks) (hj : j < 3)
    (hc : Call N (.ref (1000 + j) :: as) h (fun v h2 => Rr M kc2 ks2 (pc + 3) ls (v.toList ++ rest) h2 P)) : Rr M kc ks pc ls st h P := by
  intro G p l e Rm s m args below meth c H locs cells slots Q la X hp h1 h2 hr hl
  have hjs : tv G (.ref (1000 + j)) = .ref (G.2.2.2.1 j) := str_ro G (q := strL[j]'hj) (List.getElem?_eq_getElem hj)
  have hst : st.map (tv G) = (as.map (tv G)).reverse ++ .ref (G.2.2.2.1 j) :: rest.map (tv G) := by
    rw [hs, List.map_append, List.map_cons, hjs, List.map_reverse]
  rw [hst]
  have hT : GoodIn TBG (wsV M.1.cls i N.1.cls N.1 (wsM N)) := tb_good (fun w hw2 => by
    rcases List.mem_append.mp hw2 with h | h
    · simp only [List.mem_cons, List.not_mem_nil, or_false] at h
      rcases h with rfl | rfl | rfl | rfl
      · exact hw
      · exact ok.2.1
      · exact ok.2.2
      · exact ok.1.2.1
    · exact ws_tb ok.1 w h)
  have hargs : (Value.ref (G.2.2.2.1 j) :: as.map (tv G)) = (Value.ref (1000 + j) :: as).map (tv G) := by rw [List.map_cons, hjs]
  refine call_go (N := N) hkc hks X hp h1 h2 hr hl (va_runV (As := as.map (tv G)) ⟨X.1, X.2.1, X.2.2.2.1, X.2.2.2.2.1, X.2.2.2.2.2.1⟩ (hc l G) (cwV n X.2.2.2.2.2.1 hT rfl rfl rfl ⟨rfl, ok.1.2.2.1⟩ (room_ok hrk ok.1.2.2.2 X.2.2.2.2.2.2.2.2.1 X.2.2.2.2.2.2.2.2.2.1)) ⟨pc_blind G _ h, ?_, ?_⟩ rfl (by rw [List.length_map]; exact hn) hl.1 rfl (lv_room (by rw [tv_cats]; exact hrest)) hd ⟨by omega, by omega⟩)
  · rw [hcl]
    exact vk_recv X.2.2.2.2.2.2.2.2.2.2.2.1.1 hj hp.2.2.2
  · rw [hargs]
    exact pc_now X.2.2.2.2.2.2.2.2.2.2.1 X.2.2.2.2.2.2.2.2.2.2.2.1 hp
theorem R_objInit {i r : Nat} (hd : decode M.2.1 pc = .ok (.invokespecial i, 3)) (hw : Cond.methodLink M.1.cls i Lib.objectInit ∈ TBG) (hw2 : Cond.instanceMethod Lib.objectInit ∈ TBG) (hw3 : Cond.code Lib.objectInit ⟨#[0xb1]⟩ 1 none ∈ TBG) (hrk : 1 ≤ M.2.2.2.2.1) (hrest : (st.map fun v => v.category).sum ≤ 8) (hr9 : r < h.1)
    (kk : Rr M kc ks (pc + 3) ls st h P) : Rr M kc ks pc ls (.ref r :: st) h P := by
  intro G p l e Rm s m args below meth c H locs cells slots Q la X hp h1 h2 hr hl
  have hr0 : r < 1000 := Nat.lt_of_lt_of_le hr9 hp.2.1
  rw [List.map_cons, tv_ref G hr0]
  have q1 := X.2.2.2.2.2.2.2.2.1
  have q2 := X.2.2.2.2.2.2.2.2.2.1
  refine W.objInit X.1 X.2.1 X.2.2.2.2.1 (X.2.2.2.2.2.1 _ hw) (X.2.2.2.2.2.1 _ hw2) (X.2.2.2.2.2.1 _ hw3) rfl (by rw [X.2.2.2.1]; exact hl.1) rfl hd (by omega) ?_ ?_
  · have q3 := lv_room (m := m) (pc := pc) (ls := la) (rest := Value.ref (G.1 + r) :: st.map (tv G)) (st := st.map (tv G)) (by rw [tv_cats]; exact hrest)
    omega
  · exact kk G p l e Rm s m args below meth c H locs cells slots Q la X hp h1 h2 hr hl
theorem R_copyI {i r r2 : Nat} {sp dp n : Int32} (hd : decode M.2.1 pc = .ok (.invokestatic i, 3)) (hw : Cond.methodLink M.1.cls i arraycopyName ∈ TBG) (hw2 : Cond.native arraycopyName ∈ TBG) (hw3 : Cond.static arraycopyName ∈ TBG) (hw4 : Cond.initialized "java/lang/System" ∈ TBG) (hrk : 1 ≤ M.2.2.2.2.1) (hst : st = [])
    (ho : isA h 0 r) (ho2 : isA h 0 r2) (g1 : ¬ sp < 0) (g2 : ¬ dp < 0) (g3 : ¬ n < 0) (g4 : sp.toNatClampNeg + n.toNatClampNeg ≤ ln r) (g5 : dp.toNatClampNeg + n.toNatClampNeg ≤ ln r2)
    (kk : Rr M kc ks (pc + 3) ls st (rI h r2 (va_cpy (gI h r) (gI h r2) sp.toNatClampNeg dp.toNatClampNeg n.toNatClampNeg)) P) : Rr M kc ks pc ls (.int n :: .int dp :: .ref r2 :: .int sp :: .ref r :: st) h P := by
  subst hst
  intro G p l e Rm s m args below meth c H locs cells slots Q la X hp h1 h2 hr hl
  have hr0 : r < 1000 := Nat.lt_of_lt_of_le ho.1 hp.2.1
  have hr2 : r2 < 1000 := Nat.lt_of_lt_of_le ho2.1 hp.2.1
  show W p l e Rm s m args below meth c H locs cells slots Q (F0 m pc la (.int n :: .int dp :: tv G (.ref r2) :: .int sp :: tv G (.ref r) :: []))
  rw [tv_ref G hr0, tv_ref G hr2]
  have he := cells_at G h ho.1
  rw [ent_arr G h ho.2] at he
  have he2 := cells_at G h ho2.1
  rw [ent_arr G h ho2.2] at he2
  have q1 := X.2.2.2.2.2.2.2.2.1
  have q2 := X.2.2.2.2.2.2.2.2.2.1
  refine va_copyi_sz (D := G.2.1) (A := AM G) (H0 := s.heap) X.1 X.2.1 (by rw [X.2.2.2.1]; exact hl.1.symm) X.2.2.2.2.1 (X.2.2.2.2.2.1 _ hw) (X.2.2.2.2.2.1 _ hw2) (X.2.2.2.2.2.1 _ hw3) (X.2.2.2.2.2.1 _ hw4) X.2.2.2.2.2.2.2.2.2.2.1.1 hp.2.2.1 (cells_D G h) hp.2.2.2 r r2 0 0 he he2 rfl rfl rfl g1 g2 g3 g4 g5 (fun _ _ => rfl) (by omega) (by show 0 + (nativeFrameWords "java/lang/System" "arraycopy" 5 + 11) ≤ _; rw [show nativeFrameWords "java/lang/System" "arraycopy" 5 = 7 by decide]; omega) hd fun H1 locs1 w1 w2 w3 => ?_
  refine kk G p l e Rm s m args below meth c H1 locs1 cells slots Q la X ⟨w2.trans hp.1, hp.2.1, ?_, w3⟩ h1 h2 hr hl
  rw [← cells_set G (h := h) (h2 := rI h r2 (va_cpy (gI h r) (gI h r2) sp.toNatClampNeg dp.toNatClampNeg n.toNatClampNeg)) rfl r2 (ent_arr G _ ho2.2) (fun i hi => ent_congr G (by simp [rI, up1, hi]) rfl rfl)]
  have e9 : gI (rI h r2 (va_cpy (gI h r) (gI h r2) sp.toNatClampNeg dp.toNatClampNeg n.toNatClampNeg)) r2 = va_cpy (gI h r) (gI h r2) sp.toNatClampNeg dp.toNatClampNeg n.toNatClampNeg := by funext j; simp [gI, rI, up1]
  rw [e9]
  exact w1
theorem R_copyL {i r r2 : Nat} {sp dp n : Int32} (hd : decode M.2.1 pc = .ok (.invokestatic i, 3)) (hw : Cond.methodLink M.1.cls i arraycopyName ∈ TBG) (hw2 : Cond.native arraycopyName ∈ TBG) (hw3 : Cond.static arraycopyName ∈ TBG) (hw4 : Cond.initialized "java/lang/System" ∈ TBG) (hrk : 1 ≤ M.2.2.2.2.1) (hst : st = [])
    (ho : isA h 1 r) (ho2 : isA h 1 r2) (g1 : ¬ sp < 0) (g2 : ¬ dp < 0) (g3 : ¬ n < 0) (g4 : sp.toNatClampNeg + n.toNatClampNeg ≤ ln r) (g5 : dp.toNatClampNeg + n.toNatClampNeg ≤ ln r2)
    (kk : Rr M kc ks (pc + 3) ls st (rL h r2 (va_cpy (gL h r) (gL h r2) sp.toNatClampNeg dp.toNatClampNeg n.toNatClampNeg)) P) : Rr M kc ks pc ls (.int n :: .int dp :: .ref r2 :: .int sp :: .ref r :: st) h P := by
  subst hst
  intro G p l e Rm s m args below meth c H locs cells slots Q la X hp h1 h2 hr hl
  have hr0 : r < 1000 := Nat.lt_of_lt_of_le ho.1 hp.2.1
  have hr2 : r2 < 1000 := Nat.lt_of_lt_of_le ho2.1 hp.2.1
  show W p l e Rm s m args below meth c H locs cells slots Q (F0 m pc la (.int n :: .int dp :: tv G (.ref r2) :: .int sp :: tv G (.ref r) :: []))
  rw [tv_ref G hr0, tv_ref G hr2]
  have he := cells_at G h ho.1
  rw [ent_arr G h ho.2] at he
  have he2 := cells_at G h ho2.1
  rw [ent_arr G h ho2.2] at he2
  have q1 := X.2.2.2.2.2.2.2.2.1
  have q2 := X.2.2.2.2.2.2.2.2.2.1
  refine va_copyl_sz (D := G.2.1) (A := AM G) (H0 := s.heap) X.1 X.2.1 (by rw [X.2.2.2.1]; exact hl.1.symm) X.2.2.2.2.1 (X.2.2.2.2.2.1 _ hw) (X.2.2.2.2.2.1 _ hw2) (X.2.2.2.2.2.1 _ hw3) (X.2.2.2.2.2.1 _ hw4) X.2.2.2.2.2.2.2.2.2.2.1.1 hp.2.2.1 (cells_D G h) hp.2.2.2 r r2 1 1 he he2 rfl rfl rfl g1 g2 g3 g4 g5 (fun _ _ => rfl) (by omega) (by show 0 + (nativeFrameWords "java/lang/System" "arraycopy" 5 + 11) ≤ _; rw [show nativeFrameWords "java/lang/System" "arraycopy" 5 = 7 by decide]; omega) hd fun H1 locs1 w1 w2 w3 => ?_
  refine kk G p l e Rm s m args below meth c H1 locs1 cells slots Q la X ⟨w2.trans hp.1, hp.2.1, ?_, w3⟩ h1 h2 hr hl
  rw [← cells_set G (h := h) (h2 := rL h r2 (va_cpy (gL h r) (gL h r2) sp.toNatClampNeg dp.toNatClampNeg n.toNatClampNeg)) rfl r2 (ent_arr G _ ho2.2) (fun i hi => ent_congr G rfl (by simp [rL, up1, hi]) rfl)]
  have e9 : gL (rL h r2 (va_cpy (gL h r) (gL h r2) sp.toNatClampNeg dp.toNatClampNeg n.toNatClampNeg)) r2 = va_cpy (gL h r) (gL h r2) sp.toNatClampNeg dp.toNatClampNeg n.toNatClampNeg := by funext j; simp [gL, rL, up1]
  rw [e9]
  exact w1
end CRULES
