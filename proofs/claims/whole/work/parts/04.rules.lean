theorem str_at {G : GH} {s : State} {j : Nat} {o tx : String} {i : Nat} (h : Cs G s) (hj : strL[j]? = some (o, i, tx)) : vk_R o i tx (G.2.2.2.1 j) s := h.2.2.1 j _ hj
theorem str_ro (G : GH) {j : Nat} {q : String × Nat × String} (hj : strL[j]? = some q) : tv G (.ref (1000 + j)) = .ref (G.2.2.2.1 j) := by
  have hl : j < 3 := (List.getElem?_eq_some_iff.mp hj).1
  simp only [tv, ro]
  rw [if_neg (by omega), if_pos (by omega), show 1000 + j - 1000 = j by omega]
  rfl
theorem ref_str {p : Program} {l : Launch} {e : Env} {R : Room} {s : State} {m : MethodId} {args : Array Value} {below : List Frame} {meth : Method} {c : Code} {H : Heap} {locs : List Loc} {cells slots pc : Nat} {Q : State → Prop} {la : Array Slot} {st : List Value} {G : GH} {j : Nat} {q : String × Nat × String} (hj : strL[j]? = some q) (k : W p l e R s m args below meth c H locs cells slots Q (F0 m pc la ((Value.ref (1000 + j) :: st).map (tv G)))) : W p l e R s m args below meth c H locs cells slots Q (F0 m pc la (.ref (G.2.2.2.1 j) :: st.map (tv G))) := by
  rw [List.map_cons, str_ro G hj] at k
  exact k
section RULES
variable {M : MI} {kc ks pc : Nat} {ls : List (Nat × Value)} {st : List Value} {h : AH} {P : Option Value → AH → Prop}
theorem R_iadd {x y : Int32} (hd : decode M.2.1 pc = .ok (.iadd, 1))  (k : Rr M kc ks (pc + 1) ls (.int (x + y) :: st) h P) : Rr M kc ks pc ls (.int y :: .int x :: st) h P :=
  fun G p l e Rm s m args below meth c H locs cells slots Q la C hp h1 h2 hr hl => lv_iadd C.1 C.2.1 hd (k G p l e Rm s m args below meth c H locs cells slots Q la C hp h1 h2 hr hl)
theorem R_isub {x y : Int32} (hd : decode M.2.1 pc = .ok (.isub, 1))  (k : Rr M kc ks (pc + 1) ls (.int (x - y) :: st) h P) : Rr M kc ks pc ls (.int y :: .int x :: st) h P :=
  fun G p l e Rm s m args below meth c H locs cells slots Q la C hp h1 h2 hr hl => lv_isub C.1 C.2.1 hd (k G p l e Rm s m args below meth c H locs cells slots Q la C hp h1 h2 hr hl)
theorem R_imul {x y : Int32} (hd : decode M.2.1 pc = .ok (.imul, 1))  (k : Rr M kc ks (pc + 1) ls (.int (x * y) :: st) h P) : Rr M kc ks pc ls (.int y :: .int x :: st) h P :=
  fun G p l e Rm s m args below meth c H locs cells slots Q la C hp h1 h2 hr hl => lv_imul C.1 C.2.1 hd (k G p l e Rm s m args below meth c H locs cells slots Q la C hp h1 h2 hr hl)
theorem R_iand {x y : Int32} (hd : decode M.2.1 pc = .ok (.iand, 1))  (k : Rr M kc ks (pc + 1) ls (.int (x &&& y) :: st) h P) : Rr M kc ks pc ls (.int y :: .int x :: st) h P :=
  fun G p l e Rm s m args below meth c H locs cells slots Q la C hp h1 h2 hr hl => lv_iand C.1 C.2.1 hd (k G p l e Rm s m args below meth c H locs cells slots Q la C hp h1 h2 hr hl)
theorem R_ior {x y : Int32} (hd : decode M.2.1 pc = .ok (.ior, 1))  (k : Rr M kc ks (pc + 1) ls (.int (x ||| y) :: st) h P) : Rr M kc ks pc ls (.int y :: .int x :: st) h P :=
  fun G p l e Rm s m args below meth c H locs cells slots Q la C hp h1 h2 hr hl => lv_ior C.1 C.2.1 hd (k G p l e Rm s m args below meth c H locs cells slots Q la C hp h1 h2 hr hl)
theorem R_ixor {x y : Int32} (hd : decode M.2.1 pc = .ok (.ixor, 1))  (k : Rr M kc ks (pc + 1) ls (.int (x ^^^ y) :: st) h P) : Rr M kc ks pc ls (.int y :: .int x :: st) h P :=
  fun G p l e Rm s m args below meth c H locs cells slots Q la C hp h1 h2 hr hl => lv_ixor C.1 C.2.1 hd (k G p l e Rm s m args below meth c H locs cells slots Q la C hp h1 h2 hr hl)
theorem R_ishl {x y : Int32} (hd : decode M.2.1 pc = .ok (.ishl, 1))  (k : Rr M kc ks (pc + 1) ls (.int (x <<< (y &&& 31)) :: st) h P) : Rr M kc ks pc ls (.int y :: .int x :: st) h P :=
  fun G p l e Rm s m args below meth c H locs cells slots Q la C hp h1 h2 hr hl => lv_ishl C.1 C.2.1 hd (k G p l e Rm s m args below meth c H locs cells slots Q la C hp h1 h2 hr hl)
theorem R_ishr {x y : Int32} (hd : decode M.2.1 pc = .ok (.ishr, 1))  (k : Rr M kc ks (pc + 1) ls (.int (x >>> (y &&& 31)) :: st) h P) : Rr M kc ks pc ls (.int y :: .int x :: st) h P :=
  fun G p l e Rm s m args below meth c H locs cells slots Q la C hp h1 h2 hr hl => lv_ishr C.1 C.2.1 hd (k G p l e Rm s m args below meth c H locs cells slots Q la C hp h1 h2 hr hl)
theorem R_idiv {x y : Int32} (hd : decode M.2.1 pc = .ok (.idiv, 1)) (hne : ¬ y = 0) (k : Rr M kc ks (pc + 1) ls (.int (x / y) :: st) h P) : Rr M kc ks pc ls (.int y :: .int x :: st) h P :=
  fun G p l e Rm s m args below meth c H locs cells slots Q la C hp h1 h2 hr hl => lv_idiv C.1 C.2.1 hd hne (k G p l e Rm s m args below meth c H locs cells slots Q la C hp h1 h2 hr hl)
theorem R_irem {x y : Int32} (hd : decode M.2.1 pc = .ok (.irem, 1)) (hne : ¬ y = 0) (k : Rr M kc ks (pc + 1) ls (.int (x % y) :: st) h P) : Rr M kc ks pc ls (.int y :: .int x :: st) h P :=
  fun G p l e Rm s m args below meth c H locs cells slots Q la C hp h1 h2 hr hl => lv_irem C.1 C.2.1 hd hne (by rw [irem_eq_mod]; exact k G p l e Rm s m args below meth c H locs cells slots Q la C hp h1 h2 hr hl)
theorem R_ineg {x : Int32} (hd : decode M.2.1 pc = .ok (.ineg, 1))  (k : Rr M kc ks (pc + 1) ls (.int (-x) :: st) h P) : Rr M kc ks pc ls (.int x :: st) h P :=
  fun G p l e Rm s m args below meth c H locs cells slots Q la C hp h1 h2 hr hl => lv_ineg C.1 C.2.1 hd (k G p l e Rm s m args below meth c H locs cells slots Q la C hp h1 h2 hr hl)
theorem R_ladd {x y : Int64} (hd : decode M.2.1 pc = .ok (.ladd, 1))  (k : Rr M kc ks (pc + 1) ls (.long (x + y) :: st) h P) : Rr M kc ks pc ls (.long y :: .long x :: st) h P :=
  fun G p l e Rm s m args below meth c H locs cells slots Q la C hp h1 h2 hr hl => lv_ladd C.1 C.2.1 hd (k G p l e Rm s m args below meth c H locs cells slots Q la C hp h1 h2 hr hl)
theorem R_lsub {x y : Int64} (hd : decode M.2.1 pc = .ok (.lsub, 1))  (k : Rr M kc ks (pc + 1) ls (.long (x - y) :: st) h P) : Rr M kc ks pc ls (.long y :: .long x :: st) h P :=
  fun G p l e Rm s m args below meth c H locs cells slots Q la C hp h1 h2 hr hl => lv_lsub C.1 C.2.1 hd (k G p l e Rm s m args below meth c H locs cells slots Q la C hp h1 h2 hr hl)
theorem R_lmul {x y : Int64} (hd : decode M.2.1 pc = .ok (.lmul, 1))  (k : Rr M kc ks (pc + 1) ls (.long (x * y) :: st) h P) : Rr M kc ks pc ls (.long y :: .long x :: st) h P :=
  fun G p l e Rm s m args below meth c H locs cells slots Q la C hp h1 h2 hr hl => lv_lmul C.1 C.2.1 hd (k G p l e Rm s m args below meth c H locs cells slots Q la C hp h1 h2 hr hl)
theorem R_land {x y : Int64} (hd : decode M.2.1 pc = .ok (.land, 1))  (k : Rr M kc ks (pc + 1) ls (.long (x &&& y) :: st) h P) : Rr M kc ks pc ls (.long y :: .long x :: st) h P :=
  fun G p l e Rm s m args below meth c H locs cells slots Q la C hp h1 h2 hr hl => lv_land C.1 C.2.1 hd (k G p l e Rm s m args below meth c H locs cells slots Q la C hp h1 h2 hr hl)
theorem R_lor {x y : Int64} (hd : decode M.2.1 pc = .ok (.lor, 1))  (k : Rr M kc ks (pc + 1) ls (.long (x ||| y) :: st) h P) : Rr M kc ks pc ls (.long y :: .long x :: st) h P :=
  fun G p l e Rm s m args below meth c H locs cells slots Q la C hp h1 h2 hr hl => lv_lor C.1 C.2.1 hd (k G p l e Rm s m args below meth c H locs cells slots Q la C hp h1 h2 hr hl)
theorem R_lxor {x y : Int64} (hd : decode M.2.1 pc = .ok (.lxor, 1))  (k : Rr M kc ks (pc + 1) ls (.long (x ^^^ y) :: st) h P) : Rr M kc ks pc ls (.long y :: .long x :: st) h P :=
  fun G p l e Rm s m args below meth c H locs cells slots Q la C hp h1 h2 hr hl => lv_lxor C.1 C.2.1 hd (k G p l e Rm s m args below meth c H locs cells slots Q la C hp h1 h2 hr hl)
theorem R_i2l {x : Int32} (hd : decode M.2.1 pc = .ok (.i2l, 1))  (k : Rr M kc ks (pc + 1) ls (.long x.toInt64 :: st) h P) : Rr M kc ks pc ls (.int x :: st) h P :=
  fun G p l e Rm s m args below meth c H locs cells slots Q la C hp h1 h2 hr hl => lv_i2l C.1 C.2.1 hd rfl (k G p l e Rm s m args below meth c H locs cells slots Q la C hp h1 h2 hr hl)
theorem R_l2i {x : Int64} (hd : decode M.2.1 pc = .ok (.l2i, 1))  (k : Rr M kc ks (pc + 1) ls (.int x.toInt32 :: st) h P) : Rr M kc ks pc ls (.long x :: st) h P :=
  fun G p l e Rm s m args below meth c H locs cells slots Q la C hp h1 h2 hr hl => lv_l2i C.1 C.2.1 hd rfl (k G p l e Rm s m args below meth c H locs cells slots Q la C hp h1 h2 hr hl)
theorem R_i2b {x : Int32} (hd : decode M.2.1 pc = .ok (.i2b, 1))  (k : Rr M kc ks (pc + 1) ls (.int x.toInt8.toInt32 :: st) h P) : Rr M kc ks pc ls (.int x :: st) h P :=
  fun G p l e Rm s m args below meth c H locs cells slots Q la C hp h1 h2 hr hl => lv_i2b C.1 C.2.1 hd rfl (k G p l e Rm s m args below meth c H locs cells slots Q la C hp h1 h2 hr hl)
def iushr (x y : Int32) : Int32 := (x.toUInt32 >>> (y.toUInt32 &&& Int32.toUInt32 31)).toInt32
def lushr (x : Int64) (y : Int32) : Int64 := (x.toUInt64 >>> (y.toInt64.toUInt64 &&& Int64.toUInt64 63)).toInt64
def lshl (x : Int64) (y : Int32) : Int64 := x <<< (y.toInt64 &&& 63)
theorem R_iushr {x y : Int32} (hd : decode M.2.1 pc = .ok (.iushr, 1))  (k : Rr M kc ks (pc + 1) ls (.int (iushr x y) :: st) h P) : Rr M kc ks pc ls (.int y :: .int x :: st) h P :=
  fun G p l e Rm s m args below meth c H locs cells slots Q la C hp h1 h2 hr hl => lv_iushr C.1 C.2.1 hd rfl (k G p l e Rm s m args below meth c H locs cells slots Q la C hp h1 h2 hr hl)
theorem R_lushr {x : Int64} {y : Int32} (hd : decode M.2.1 pc = .ok (.lushr, 1))  (k : Rr M kc ks (pc + 1) ls (.long (lushr x y) :: st) h P) : Rr M kc ks pc ls (.int y :: .long x :: st) h P :=
  fun G p l e Rm s m args below meth c H locs cells slots Q la C hp h1 h2 hr hl => lv_lushr C.1 C.2.1 hd rfl (k G p l e Rm s m args below meth c H locs cells slots Q la C hp h1 h2 hr hl)
theorem R_lshl {x : Int64} {y : Int32} (hd : decode M.2.1 pc = .ok (.lshl, 1))  (k : Rr M kc ks (pc + 1) ls (.long (lshl x y) :: st) h P) : Rr M kc ks pc ls (.int y :: .long x :: st) h P :=
  fun G p l e Rm s m args below meth c H locs cells slots Q la C hp h1 h2 hr hl => lv_lshl C.1 C.2.1 hd rfl (k G p l e Rm s m args below meth c H locs cells slots Q la C hp h1 h2 hr hl)
theorem R_lcmp {x y : Int64} (hd : decode M.2.1 pc = .ok (.lcmp, 1))  (k : Rr M kc ks (pc + 1) ls (.int (lg_cmp x y) :: st) h P) : Rr M kc ks pc ls (.long y :: .long x :: st) h P :=
  fun G p l e Rm s m args below meth c H locs cells slots Q la C hp h1 h2 hr hl => W.lcmp C.1 C.2.1 hd (k G p l e Rm s m args below meth c H locs cells slots Q la C hp h1 h2 hr hl)
theorem R_iconst {n : Int} {v : Int32} (hd : decode M.2.1 pc = .ok (.iconst n, 1)) (hv : Int32.ofInt n = v) (k : Rr M kc ks (pc + 1) ls (.int v :: st) h P) : Rr M kc ks pc ls (st) h P :=
  fun G p l e Rm s m args below meth c H locs cells slots Q la C hp h1 h2 hr hl => lv_iconst C.1 C.2.1 hd hv (k G p l e Rm s m args below meth c H locs cells slots Q la C hp h1 h2 hr hl)
theorem R_bipush {n : Int} {v : Int32} (hd : decode M.2.1 pc = .ok (.bipush n, 2)) (hv : (Int8.ofInt n).toInt32 = v) (k : Rr M kc ks (pc + 2) ls (.int v :: st) h P) : Rr M kc ks pc ls (st) h P :=
  fun G p l e Rm s m args below meth c H locs cells slots Q la C hp h1 h2 hr hl => lv_bipush C.1 C.2.1 hd hv (k G p l e Rm s m args below meth c H locs cells slots Q la C hp h1 h2 hr hl)
theorem R_sipush {n : Int} {v : Int32} (hd : decode M.2.1 pc = .ok (.sipush n, 3)) (hv : (Int16.ofInt n).toInt32 = v) (k : Rr M kc ks (pc + 3) ls (.int v :: st) h P) : Rr M kc ks pc ls (st) h P :=
  fun G p l e Rm s m args below meth c H locs cells slots Q la C hp h1 h2 hr hl => lv_sipush C.1 C.2.1 hd hv (k G p l e Rm s m args below meth c H locs cells slots Q la C hp h1 h2 hr hl)
theorem R_lconst {n : Fin 2} {v : Int64} (hd : decode M.2.1 pc = .ok (.lconst n, 1)) (hv : Int64.ofNat (n : Nat) = v) (k : Rr M kc ks (pc + 1) ls (.long v :: st) h P) : Rr M kc ks pc ls (st) h P :=
  fun G p l e Rm s m args below meth c H locs cells slots Q la C hp h1 h2 hr hl => lv_lconst C.1 C.2.1 hd hv (k G p l e Rm s m args below meth c H locs cells slots Q la C hp h1 h2 hr hl)
theorem R_ldc {i : Nat} {v : Int32} (hd : decode M.2.1 pc = .ok (.ldc i, 2)) (hw : Cond.constant M.1.cls i v ∈ TBG) (k : Rr M kc ks (pc + 2) ls (.int v :: st) h P) : Rr M kc ks pc ls (st) h P :=
  fun G p l e Rm s m args below meth c H locs cells slots Q la C hp h1 h2 hr hl => lv_ldc C.1 C.2.1 C.2.2.2.2.1 (C.2.2.2.2.2.1 _ hw) hd (k G p l e Rm s m args below meth c H locs cells slots Q la C hp h1 h2 hr hl)
theorem R_ldcw {i : Nat} {v : Int32} (hd : decode M.2.1 pc = .ok (.ldc_w i, 3)) (hw : Cond.constant M.1.cls i v ∈ TBG) (k : Rr M kc ks (pc + 3) ls (.int v :: st) h P) : Rr M kc ks pc ls (st) h P :=
  fun G p l e Rm s m args below meth c H locs cells slots Q la C hp h1 h2 hr hl => lv_ldcw C.1 C.2.1 C.2.2.2.2.1 (C.2.2.2.2.2.1 _ hw) hd (k G p l e Rm s m args below meth c H locs cells slots Q la C hp h1 h2 hr hl)
theorem R_ldc2 {i : Nat} {v : Int64} (hd : decode M.2.1 pc = .ok (.ldc2_w i, 3)) (hw : Cond.constantLong M.1.cls i v ∈ TBG) (k : Rr M kc ks (pc + 3) ls (.long v :: st) h P) : Rr M kc ks pc ls (st) h P :=
  fun G p l e Rm s m args below meth c H locs cells slots Q la C hp h1 h2 hr hl => lv_ldc2 C.1 C.2.1 C.2.2.2.2.1 (C.2.2.2.2.2.1 _ hw) hd (k G p l e Rm s m args below meth c H locs cells slots Q la C hp h1 h2 hr hl)
theorem R_ldcS {i : Nat} {tx : String} (j : Nat) (hd : decode M.2.1 pc = .ok (.ldc i, 2)) (hj : strL[j]? = some (M.1.cls, i, tx)) (k : Rr M kc ks (pc + 2) ls (.ref (1000 + j) :: st) h P) : Rr M kc ks pc ls (st) h P :=
  fun G p l e Rm s m args below meth c H locs cells slots Q la C hp h1 h2 hr hl => va_ldcS C.1 C.2.1 C.2.2.2.2.1 (str_at C.2.2.2.2.2.2.2.2.2.2.1 hj) hd (ref_str hj (k G p l e Rm s m args below meth c H locs cells slots Q la C hp h1 h2 hr hl))
theorem R_iload_n {j : Fin 4} {i : Nat} {x : Int32} (hd : decode M.2.1 pc = .ok (.iload_n j, 1)) (hi : (j : Nat) = i) (q : Nat) (hq : ls[q]? = some (i, .int x)) (k : Rr M kc ks (pc + 1) ls (.int x :: st) h P) : Rr M kc ks pc ls (st) h P :=
  fun G p l e Rm s m args below meth c H locs cells slots Q la C hp h1 h2 hr hl => lv_iload_n C.1 C.2.1 hd hi (lv_at hl q (by rw [List.getElem?_map, hq]; rfl)) (k G p l e Rm s m args below meth c H locs cells slots Q la C hp h1 h2 hr hl)
theorem R_iload {i : Nat} {x : Int32} (hd : decode M.2.1 pc = .ok (.iload i, 2)) (q : Nat) (hq : ls[q]? = some (i, .int x)) (k : Rr M kc ks (pc + 2) ls (.int x :: st) h P) : Rr M kc ks pc ls (st) h P :=
  fun G p l e Rm s m args below meth c H locs cells slots Q la C hp h1 h2 hr hl => lv_iload C.1 C.2.1 hd (lv_at hl q (by rw [List.getElem?_map, hq]; rfl)) (k G p l e Rm s m args below meth c H locs cells slots Q la C hp h1 h2 hr hl)
theorem R_lload_n {j : Fin 4} {i : Nat} {x : Int64} (hd : decode M.2.1 pc = .ok (.lload_n j, 1)) (hi : (j : Nat) = i) (q : Nat) (hq : ls[q]? = some (i, .long x)) (k : Rr M kc ks (pc + 1) ls (.long x :: st) h P) : Rr M kc ks pc ls (st) h P :=
  fun G p l e Rm s m args below meth c H locs cells slots Q la C hp h1 h2 hr hl => lv_lload_n C.1 C.2.1 hd hi (lv_at hl q (by rw [List.getElem?_map, hq]; rfl)) (k G p l e Rm s m args below meth c H locs cells slots Q la C hp h1 h2 hr hl)
theorem R_lload {i : Nat} {x : Int64} (hd : decode M.2.1 pc = .ok (.lload i, 2)) (q : Nat) (hq : ls[q]? = some (i, .long x)) (k : Rr M kc ks (pc + 2) ls (.long x :: st) h P) : Rr M kc ks pc ls (st) h P :=
  fun G p l e Rm s m args below meth c H locs cells slots Q la C hp h1 h2 hr hl => lv_lload C.1 C.2.1 hd (lv_at hl q (by rw [List.getElem?_map, hq]; rfl)) (k G p l e Rm s m args below meth c H locs cells slots Q la C hp h1 h2 hr hl)
theorem R_aload_n {j : Fin 4} {i r : Nat} (hd : decode M.2.1 pc = .ok (.aload_n j, 1)) (hi : (j : Nat) = i) (q : Nat) (hq : ls[q]? = some (i, .ref r)) (k : Rr M kc ks (pc + 1) ls (.ref r :: st) h P) : Rr M kc ks pc ls st h P := by
  intro G p l e Rm s m args below meth c H locs cells slots Q la C hp h1 h2 hr hl
  have h9 := k G p l e Rm s m args below meth c H locs cells slots Q la C hp h1 h2 hr hl
  have hat := lv_at (i := i) (v := va_rf (ro G r)) hl q (by rw [List.getElem?_map, hq]; rfl)
  rw [List.map_cons] at h9
  change W p l e Rm s m args below meth c H locs cells slots Q (F0 m (pc + 1) la (va_rf (ro G r) :: st.map (tv G))) at h9
  cases hro : ro G r with
  | none => rw [hro] at h9 hat; exact lv_aload_nN C.1 C.2.1 hd hi hat h9
  | some a => rw [hro] at h9 hat; exact lv_aload_n C.1 C.2.1 hd hi hat h9
theorem R_aload {i r : Nat} (hd : decode M.2.1 pc = .ok (.aload i, 2)) (q : Nat) (hq : ls[q]? = some (i, .ref r)) (k : Rr M kc ks (pc + 2) ls (.ref r :: st) h P) : Rr M kc ks pc ls st h P := by
  intro G p l e Rm s m args below meth c H locs cells slots Q la C hp h1 h2 hr hl
  have h9 := k G p l e Rm s m args below meth c H locs cells slots Q la C hp h1 h2 hr hl
  have hat := lv_at (i := i) (v := va_rf (ro G r)) hl q (by rw [List.getElem?_map, hq]; rfl)
  rw [List.map_cons] at h9
  change W p l e Rm s m args below meth c H locs cells slots Q (F0 m (pc + 2) la (va_rf (ro G r) :: st.map (tv G))) at h9
  cases hro : ro G r with
  | none => rw [hro] at h9 hat; exact lv_aloadN C.1 C.2.1 hd hat h9
  | some a => rw [hro] at h9 hat; exact lv_aload C.1 C.2.1 hd hat h9
theorem rl_fm1 (G : GH) (i : Nat) (v : Value) : ((i, tv G v) :: (ls.map (fun q => (q.1, tv G q.2))).filter (fun q => !(q.1 == i) && !(q.1 + 1 == i && q.2.category == 2))) = ((i, v) :: ls.filter (fun q => !(q.1 == i) && !(q.1 + 1 == i && q.2.category == 2))).map (fun q => (q.1, tv G q.2)) := by
  rw [List.map_cons, List.filter_map]
  congr 2
  apply List.filter_congr
  intro q _
  simp [tv_cat]
theorem rl_fm2 (G : GH) (i : Nat) (v : Value) : ((i, tv G v) :: (ls.map (fun q => (q.1, tv G q.2))).filter (fun q => !(q.1 == i) && (!(q.1 == i + 1) && !(q.1 + 1 == i && q.2.category == 2)))) = ((i, v) :: ls.filter (fun q => !(q.1 == i) && (!(q.1 == i + 1) && !(q.1 + 1 == i && q.2.category == 2)))).map (fun q => (q.1, tv G q.2)) := by
  rw [List.map_cons, List.filter_map]
  congr 2
  apply List.filter_congr
  intro q _
  simp [tv_cat]
theorem R_istore_n {j : Fin 4} {i : Nat} {x : Int32} {ls2 : List (Nat × Value)} (hd : decode M.2.1 pc = .ok (.istore_n j, 1)) (hi : (j : Nat) = i) (hn : i < M.2.2.1) (he : (i, .int x) :: ls.filter (fun q => !(q.1 == i) && !(q.1 + 1 == i && q.2.category == 2)) = ls2) (k : Rr M kc ks (pc + 1) ls2 st h P) : Rr M kc ks pc ls (.int x :: st) h P := by
  intro G p l e Rm s m args below meth c H locs cells slots Q la C hp h1 h2 hr hl
  refine lv_istore_n C.1 C.2.1 hd hi hl hn (rl_fm1 G i (.int x)) (fun la2 hl2 => ?_)
  rw [he] at hl2
  exact k G p l e Rm s m args below meth c H locs cells slots Q la2 C hp h1 h2 hr hl2
theorem R_istore {i : Nat} {x : Int32} {ls2 : List (Nat × Value)} (hd : decode M.2.1 pc = .ok (.istore i, 2)) (hn : i < M.2.2.1) (he : (i, .int x) :: ls.filter (fun q => !(q.1 == i) && !(q.1 + 1 == i && q.2.category == 2)) = ls2) (k : Rr M kc ks (pc + 2) ls2 st h P) : Rr M kc ks pc ls (.int x :: st) h P := by
  intro G p l e Rm s m args below meth c H locs cells slots Q la C hp h1 h2 hr hl
  refine lv_istore C.1 C.2.1 hd hl hn (rl_fm1 G i (.int x)) (fun la2 hl2 => ?_)
  rw [he] at hl2
  exact k G p l e Rm s m args below meth c H locs cells slots Q la2 C hp h1 h2 hr hl2
theorem R_lstore_n {j : Fin 4} {i : Nat} {x : Int64} {ls2 : List (Nat × Value)} (hd : decode M.2.1 pc = .ok (.lstore_n j, 1)) (hi : (j : Nat) = i) (hn : i + 1 < M.2.2.1) (he : (i, .long x) :: ls.filter (fun q => !(q.1 == i) && (!(q.1 == i + 1) && !(q.1 + 1 == i && q.2.category == 2))) = ls2) (k : Rr M kc ks (pc + 1) ls2 st h P) : Rr M kc ks pc ls (.long x :: st) h P := by
  intro G p l e Rm s m args below meth c H locs cells slots Q la C hp h1 h2 hr hl
  refine lv_lstore_n C.1 C.2.1 hd hi hl hn (rl_fm2 G i (.long x)) (fun la2 hl2 => ?_)
  rw [he] at hl2
  exact k G p l e Rm s m args below meth c H locs cells slots Q la2 C hp h1 h2 hr hl2
theorem R_lstore {i : Nat} {x : Int64} {ls2 : List (Nat × Value)} (hd : decode M.2.1 pc = .ok (.lstore i, 2)) (hn : i + 1 < M.2.2.1) (he : (i, .long x) :: ls.filter (fun q => !(q.1 == i) && (!(q.1 == i + 1) && !(q.1 + 1 == i && q.2.category == 2))) = ls2) (k : Rr M kc ks (pc + 2) ls2 st h P) : Rr M kc ks pc ls (.long x :: st) h P := by
  intro G p l e Rm s m args below meth c H locs cells slots Q la C hp h1 h2 hr hl
  refine lv_lstore C.1 C.2.1 hd hl hn (rl_fm2 G i (.long x)) (fun la2 hl2 => ?_)
  rw [he] at hl2
  exact k G p l e Rm s m args below meth c H locs cells slots Q la2 C hp h1 h2 hr hl2
theorem R_astore_n {j : Fin 4} {i r : Nat} {ls2 : List (Nat × Value)} (hd : decode M.2.1 pc = .ok (.astore_n j, 1)) (hi : (j : Nat) = i) (hn : i < M.2.2.1) (he : (i, .ref r) :: ls.filter (fun q => !(q.1 == i) && !(q.1 + 1 == i && q.2.category == 2)) = ls2) (k : Rr M kc ks (pc + 1) ls2 st h P) : Rr M kc ks pc ls (.ref r :: st) h P := by
  intro G p l e Rm s m args below meth c H locs cells slots Q la C hp h1 h2 hr hl
  have h9 := rl_fm1 (ls := ls) G i (.ref r)
  rw [he] at h9
  change W p l e Rm s m args below meth c H locs cells slots Q (F0 m pc la (va_rf (ro G r) :: st.map (tv G)))
  change (i, va_rf (ro G r)) :: _ = _ at h9
  cases hro : ro G r with
  | none => rw [hro] at h9; exact lv_astore_nN C.1 C.2.1 hd hi hl hn h9 (fun la2 hl2 => k G p l e Rm s m args below meth c H locs cells slots Q la2 C hp h1 h2 hr hl2)
  | some a => rw [hro] at h9; exact lv_astore_n C.1 C.2.1 hd hi hl hn h9 (fun la2 hl2 => k G p l e Rm s m args below meth c H locs cells slots Q la2 C hp h1 h2 hr hl2)
theorem R_astore {i r : Nat} {ls2 : List (Nat × Value)} (hd : decode M.2.1 pc = .ok (.astore i, 2)) (hn : i < M.2.2.1) (he : (i, .ref r) :: ls.filter (fun q => !(q.1 == i) && !(q.1 + 1 == i && q.2.category == 2)) = ls2) (k : Rr M kc ks (pc + 2) ls2 st h P) : Rr M kc ks pc ls (.ref r :: st) h P := by
  intro G p l e Rm s m args below meth c H locs cells slots Q la C hp h1 h2 hr hl
  have h9 := rl_fm1 (ls := ls) G i (.ref r)
  rw [he] at h9
  change W p l e Rm s m args below meth c H locs cells slots Q (F0 m pc la (va_rf (ro G r) :: st.map (tv G)))
  change (i, va_rf (ro G r)) :: _ = _ at h9
  cases hro : ro G r with
  | none => rw [hro] at h9; exact lv_astoreN C.1 C.2.1 hd hl hn h9 (fun la2 hl2 => k G p l e Rm s m args below meth c H locs cells slots Q la2 C hp h1 h2 hr hl2)
  | some a => rw [hro] at h9; exact lv_astore C.1 C.2.1 hd hl hn h9 (fun la2 hl2 => k G p l e Rm s m args below meth c H locs cells slots Q la2 C hp h1 h2 hr hl2)
theorem R_iinc {i : Nat} {n : Int} {x v : Int32} {ls2 : List (Nat × Value)} (hd : decode M.2.1 pc = .ok (.iinc i n, 3)) (q : Nat) (hq : ls[q]? = some (i, .int x)) (hv : x + Int32.ofInt n = v) (hn : i < M.2.2.1) (he : (i, .int v) :: ls.filter (fun q => !(q.1 == i) && !(q.1 + 1 == i && q.2.category == 2)) = ls2) (k : Rr M kc ks (pc + 3) ls2 st h P) : Rr M kc ks pc ls st h P := by
  intro G p l e Rm s m args below meth c H locs cells slots Q la C hp h1 h2 hr hl
  refine lv_iinc C.1 C.2.1 hd hl (k := q) (x := x) (by rw [List.getElem?_map, hq]; rfl) hv hn (rl_fm1 G i (.int v)) (fun la2 hl2 => ?_)
  rw [he] at hl2
  exact k G p l e Rm s m args below meth c H locs cells slots Q la2 C hp h1 h2 hr hl2
theorem R_dup {v : Value} (hd : decode M.2.1 pc = .ok (.dup, 1)) (hc : v.category = 1) (k : Rr M kc ks (pc + 1) ls (v :: v :: st) h P) : Rr M kc ks pc ls (v :: st) h P :=
  fun G p l e Rm s m args below meth c H locs cells slots Q la C hp h1 h2 hr hl => lv_dup C.1 C.2.1 hd (by rw [tv_cat]; exact hc) (k G p l e Rm s m args below meth c H locs cells slots Q la C hp h1 h2 hr hl)
theorem R_pop {v : Value} (hd : decode M.2.1 pc = .ok (.pop, 1)) (hc : v.category = 1) (k : Rr M kc ks (pc + 1) ls st h P) : Rr M kc ks pc ls (v :: st) h P :=
  fun G p l e Rm s m args below meth c H locs cells slots Q la C hp h1 h2 hr hl => lv_pop C.1 C.2.1 hd (by rw [tv_cat]; exact hc) (k G p l e Rm s m args below meth c H locs cells slots Q la C hp h1 h2 hr hl)
theorem R_dup2 {v w : Value} (hd : decode M.2.1 pc = .ok (.dup2, 1)) (hc : v.category = 1) (hc2 : w.category = 1) (k : Rr M kc ks (pc + 1) ls (v :: w :: v :: w :: st) h P) : Rr M kc ks pc ls (v :: w :: st) h P :=
  fun G p l e Rm s m args below meth c H locs cells slots Q la C hp h1 h2 hr hl => lv_dup2_11 C.1 C.2.1 hd (by rw [tv_cat]; exact hc) (by rw [tv_cat]; exact hc2) (k G p l e Rm s m args below meth c H locs cells slots Q la C hp h1 h2 hr hl)
theorem R_if_eq {x : Int32} {off : Int} {tgt : Nat} (hd : decode M.2.1 pc = .ok (.ifCond .eq off, 3)) (ht : (pc : Int) + off = (tgt : Int)) (kt : x = 0 → Rr M kc ks tgt ls st h P) (kf : ¬ x = 0 → Rr M kc ks (pc + 3) ls st h P) : Rr M kc ks pc ls (.int x :: st) h P :=
  fun G p l e Rm s m args below meth c H locs cells slots Q la C hp h1 h2 hr hl => lv_if_eq C.1 C.2.1 hd ht (fun z => kt z G p l e Rm s m args below meth c H locs cells slots Q la C hp h1 h2 hr hl) (fun z => kf z G p l e Rm s m args below meth c H locs cells slots Q la C hp h1 h2 hr hl)
theorem R_if_ne {x : Int32} {off : Int} {tgt : Nat} (hd : decode M.2.1 pc = .ok (.ifCond .ne off, 3)) (ht : (pc : Int) + off = (tgt : Int)) (kt : ¬ x = 0 → Rr M kc ks tgt ls st h P) (kf : x = 0 → Rr M kc ks (pc + 3) ls st h P) : Rr M kc ks pc ls (.int x :: st) h P :=
  fun G p l e Rm s m args below meth c H locs cells slots Q la C hp h1 h2 hr hl => lv_if_ne C.1 C.2.1 hd ht (fun z => kt z G p l e Rm s m args below meth c H locs cells slots Q la C hp h1 h2 hr hl) (fun z => kf z G p l e Rm s m args below meth c H locs cells slots Q la C hp h1 h2 hr hl)
theorem R_if_lt {x : Int32} {off : Int} {tgt : Nat} (hd : decode M.2.1 pc = .ok (.ifCond .lt off, 3)) (ht : (pc : Int) + off = (tgt : Int)) (kt : x < 0 → Rr M kc ks tgt ls st h P) (kf : ¬ x < 0 → Rr M kc ks (pc + 3) ls st h P) : Rr M kc ks pc ls (.int x :: st) h P :=
  fun G p l e Rm s m args below meth c H locs cells slots Q la C hp h1 h2 hr hl => lv_if_lt C.1 C.2.1 hd ht (fun z => kt z G p l e Rm s m args below meth c H locs cells slots Q la C hp h1 h2 hr hl) (fun z => kf z G p l e Rm s m args below meth c H locs cells slots Q la C hp h1 h2 hr hl)
theorem R_if_ge {x : Int32} {off : Int} {tgt : Nat} (hd : decode M.2.1 pc = .ok (.ifCond .ge off, 3)) (ht : (pc : Int) + off = (tgt : Int)) (kt : 0 ≤ x → Rr M kc ks tgt ls st h P) (kf : ¬ 0 ≤ x → Rr M kc ks (pc + 3) ls st h P) : Rr M kc ks pc ls (.int x :: st) h P :=
  fun G p l e Rm s m args below meth c H locs cells slots Q la C hp h1 h2 hr hl => lv_if_ge C.1 C.2.1 hd ht (fun z => kt z G p l e Rm s m args below meth c H locs cells slots Q la C hp h1 h2 hr hl) (fun z => kf z G p l e Rm s m args below meth c H locs cells slots Q la C hp h1 h2 hr hl)
theorem R_if_gt {x : Int32} {off : Int} {tgt : Nat} (hd : decode M.2.1 pc = .ok (.ifCond .gt off, 3)) (ht : (pc : Int) + off = (tgt : Int)) (kt : 0 < x → Rr M kc ks tgt ls st h P) (kf : ¬ 0 < x → Rr M kc ks (pc + 3) ls st h P) : Rr M kc ks pc ls (.int x :: st) h P :=
  fun G p l e Rm s m args below meth c H locs cells slots Q la C hp h1 h2 hr hl => lv_if_gt C.1 C.2.1 hd ht (fun z => kt z G p l e Rm s m args below meth c H locs cells slots Q la C hp h1 h2 hr hl) (fun z => kf z G p l e Rm s m args below meth c H locs cells slots Q la C hp h1 h2 hr hl)
theorem R_if_le {x : Int32} {off : Int} {tgt : Nat} (hd : decode M.2.1 pc = .ok (.ifCond .le off, 3)) (ht : (pc : Int) + off = (tgt : Int)) (kt : x ≤ 0 → Rr M kc ks tgt ls st h P) (kf : ¬ x ≤ 0 → Rr M kc ks (pc + 3) ls st h P) : Rr M kc ks pc ls (.int x :: st) h P :=
  fun G p l e Rm s m args below meth c H locs cells slots Q la C hp h1 h2 hr hl => lv_if_le C.1 C.2.1 hd ht (fun z => kt z G p l e Rm s m args below meth c H locs cells slots Q la C hp h1 h2 hr hl) (fun z => kf z G p l e Rm s m args below meth c H locs cells slots Q la C hp h1 h2 hr hl)
theorem R_icmp_eq {x y : Int32} {off : Int} {tgt : Nat} (hd : decode M.2.1 pc = .ok (.if_icmp .eq off, 3)) (ht : (pc : Int) + off = (tgt : Int)) (kt : x = y → Rr M kc ks tgt ls st h P) (kf : ¬ x = y → Rr M kc ks (pc + 3) ls st h P) : Rr M kc ks pc ls (.int y :: .int x :: st) h P :=
  fun G p l e Rm s m args below meth c H locs cells slots Q la C hp h1 h2 hr hl => lv_icmp_eq C.1 C.2.1 hd ht (fun z => kt z G p l e Rm s m args below meth c H locs cells slots Q la C hp h1 h2 hr hl) (fun z => kf z G p l e Rm s m args below meth c H locs cells slots Q la C hp h1 h2 hr hl)
theorem R_icmp_ne {x y : Int32} {off : Int} {tgt : Nat} (hd : decode M.2.1 pc = .ok (.if_icmp .ne off, 3)) (ht : (pc : Int) + off = (tgt : Int)) (kt : ¬ x = y → Rr M kc ks tgt ls st h P) (kf : x = y → Rr M kc ks (pc + 3) ls st h P) : Rr M kc ks pc ls (.int y :: .int x :: st) h P :=
  fun G p l e Rm s m args below meth c H locs cells slots Q la C hp h1 h2 hr hl => lv_icmp_ne C.1 C.2.1 hd ht (fun z => kt z G p l e Rm s m args below meth c H locs cells slots Q la C hp h1 h2 hr hl) (fun z => kf z G p l e Rm s m args below meth c H locs cells slots Q la C hp h1 h2 hr hl)
theorem R_icmp_lt {x y : Int32} {off : Int} {tgt : Nat} (hd : decode M.2.1 pc = .ok (.if_icmp .lt off, 3)) (ht : (pc : Int) + off = (tgt : Int)) (kt : x < y → Rr M kc ks tgt ls st h P) (kf : ¬ x < y → Rr M kc ks (pc + 3) ls st h P) : Rr M kc ks pc ls (.int y :: .int x :: st) h P :=
  fun G p l e Rm s m args below meth c H locs cells slots Q la C hp h1 h2 hr hl => lv_icmp_lt C.1 C.2.1 hd ht (fun z => kt z G p l e Rm s m args below meth c H locs cells slots Q la C hp h1 h2 hr hl) (fun z => kf z G p l e Rm s m args below meth c H locs cells slots Q la C hp h1 h2 hr hl)
theorem R_icmp_ge {x y : Int32} {off : Int} {tgt : Nat} (hd : decode M.2.1 pc = .ok (.if_icmp .ge off, 3)) (ht : (pc : Int) + off = (tgt : Int)) (kt : y ≤ x → Rr M kc ks tgt ls st h P) (kf : ¬ y ≤ x → Rr M kc ks (pc + 3) ls st h P) : Rr M kc ks pc ls (.int y :: .int x :: st) h P :=
  fun G p l e Rm s m args below meth c H locs cells slots Q la C hp h1 h2 hr hl => lv_icmp_ge C.1 C.2.1 hd ht (fun z => kt z G p l e Rm s m args below meth c H locs cells slots Q la C hp h1 h2 hr hl) (fun z => kf z G p l e Rm s m args below meth c H locs cells slots Q la C hp h1 h2 hr hl)
theorem R_icmp_gt {x y : Int32} {off : Int} {tgt : Nat} (hd : decode M.2.1 pc = .ok (.if_icmp .gt off, 3)) (ht : (pc : Int) + off = (tgt : Int)) (kt : y < x → Rr M kc ks tgt ls st h P) (kf : ¬ y < x → Rr M kc ks (pc + 3) ls st h P) : Rr M kc ks pc ls (.int y :: .int x :: st) h P :=
  fun G p l e Rm s m args below meth c H locs cells slots Q la C hp h1 h2 hr hl => lv_icmp_gt C.1 C.2.1 hd ht (fun z => kt z G p l e Rm s m args below meth c H locs cells slots Q la C hp h1 h2 hr hl) (fun z => kf z G p l e Rm s m args below meth c H locs cells slots Q la C hp h1 h2 hr hl)
theorem R_icmp_le {x y : Int32} {off : Int} {tgt : Nat} (hd : decode M.2.1 pc = .ok (.if_icmp .le off, 3)) (ht : (pc : Int) + off = (tgt : Int)) (kt : x ≤ y → Rr M kc ks tgt ls st h P) (kf : ¬ x ≤ y → Rr M kc ks (pc + 3) ls st h P) : Rr M kc ks pc ls (.int y :: .int x :: st) h P :=
  fun G p l e Rm s m args below meth c H locs cells slots Q la C hp h1 h2 hr hl => lv_icmp_le C.1 C.2.1 hd ht (fun z => kt z G p l e Rm s m args below meth c H locs cells slots Q la C hp h1 h2 hr hl) (fun z => kf z G p l e Rm s m args below meth c H locs cells slots Q la C hp h1 h2 hr hl)
theorem R_goto {off : Int} {tgt : Nat} (hd : decode M.2.1 pc = .ok (.goto off, 3)) (ht : (pc : Int) + off = (tgt : Int)) (k : Rr M kc ks tgt ls st h P) : Rr M kc ks pc ls st h P :=
  fun G p l e Rm s m args below meth c H locs cells slots Q la C hp h1 h2 hr hl => lv_goto C.1 C.2.1 hd ht (k G p l e Rm s m args below meth c H locs cells slots Q la C hp h1 h2 hr hl)
theorem R_tableOut {dflt lo hi : Int} {offs : Array Int} {len : Nat} {x : Int32} {tgt : Nat} (hd : decode M.2.1 pc = .ok (.tableswitch dflt lo hi offs, len)) (hx : x.toInt < lo ∨ hi < x.toInt) (ht : (pc : Int) + dflt = (tgt : Int)) (k : Rr M kc ks tgt ls st h P) : Rr M kc ks pc ls (.int x :: st) h P :=
  fun G p l e Rm s m args below meth c H locs cells slots Q la C hp h1 h2 hr hl => lv_tableOut C.1 C.2.1 hd hx ht (k G p l e Rm s m args below meth c H locs cells slots Q la C hp h1 h2 hr hl)
theorem R_tableIn {dflt lo hi : Int} {offs : Array Int} {len : Nat} {x : Int32} {off : Int} {tgt : Nat} (hd : decode M.2.1 pc = .ok (.tableswitch dflt lo hi offs, len)) (hx1 : ¬ x.toInt < lo) (hx2 : ¬ hi < x.toInt) (ho : offs[(x.toInt - lo).toNat]? = some off) (ht : (pc : Int) + off = (tgt : Int)) (k : Rr M kc ks tgt ls st h P) : Rr M kc ks pc ls (.int x :: st) h P :=
  fun G p l e Rm s m args below meth c H locs cells slots Q la C hp h1 h2 hr hl => lv_tableIn C.1 C.2.1 hd hx1 hx2 ho ht (k G p l e Rm s m args below meth c H locs cells slots Q la C hp h1 h2 hr hl)
theorem R_lookup {dflt : Int} {ps : Array (Int × Int)} {len : Nat} {x : Int32} {off : Int} {tgt : Nat} (hd : decode M.2.1 pc = .ok (.lookupswitch dflt ps, len)) (hp : (ps.toList.zip (ps.toList.drop 1)).all (fun (a, next) => a.1 < next.1) = true) (ho : Op.lookupswitch.offset ps.toList dflt x.toInt = off) (ht : (pc : Int) + off = (tgt : Int)) (k : Rr M kc ks tgt ls st h P) : Rr M kc ks pc ls (.int x :: st) h P :=
  fun G p l e Rm s m args below meth c H locs cells slots Q la C hp9 h1 h2 hr hl => lv_lookup C.1 C.2.1 hd hp ho ht (k G p l e Rm s m args below meth c H locs cells slots Q la C hp9 h1 h2 hr hl)
theorem R_sub (ps : List Nat) {ls2 : List (Nat × Value)} (he : lv_pick ls ps = ls2) (k : Rr M kc ks pc ls2 st h P) : Rr M kc ks pc ls st h P := by
  intro G p l e Rm s m args below meth c H locs cells slots Q la C hp h1 h2 hr hl
  refine k G p l e Rm s m args below meth c H locs cells slots Q la C hp h1 h2 hr (lv_sub hl ps ?_)
  rw [← he]
  unfold lv_pick
  rw [List.map_filterMap]
  congr 1
  funext j
  rw [List.getElem?_map]
theorem R_ret (hd : decode M.2.1 pc = .ok (.return_, 1)) (hty : M.2.2.2.1 = none) (k : P none h) : Rr M kc ks pc ls [] h P :=
  fun G p l e Rm s m args below meth c H locs cells slots Q la C hp h1 h2 hr hl => W.widen (Nat.le_add_right _ _) (Nat.le_add_right _ _) (hr none h H locs la pc k hp (Or.inl ⟨rfl, hty, hd⟩))
theorem R_iret {x : Int32} {ty : FieldType} (hd : decode M.2.1 pc = .ok (.ireturn, 1)) (hty : M.2.2.2.1 = some ty) (hn : narrow ty (.int x) = .int x) (k : P (some (.int x)) h) : Rr M kc ks pc ls [.int x] h P :=
  fun G p l e Rm s m args below meth c H locs cells slots Q la C hp h1 h2 hr hl => W.widen (Nat.le_add_right _ _) (Nat.le_add_right _ _) (hr (some (.int x)) h H locs la pc k hp (Or.inr (Or.inl ⟨x, ty, rfl, hty, hn, hd⟩)))
theorem R_lret {x : Int64} (hd : decode M.2.1 pc = .ok (.lreturn, 1)) (hty : M.2.2.2.1 = some .long) (k : P (some (.long x)) h) : Rr M kc ks pc ls [.long x] h P :=
  fun G p l e Rm s m args below meth c H locs cells slots Q la C hp h1 h2 hr hl => W.widen (Nat.le_add_right _ _) (Nat.le_add_right _ _) (hr (some (.long x)) h H locs la pc k hp (Or.inr (Or.inr (Or.inl ⟨x, rfl, hty, hd⟩))))
theorem R_aret {i : Nat} {ty : FieldType} (hd : decode M.2.1 pc = .ok (.areturn, 1)) (hty : M.2.2.2.1 = some ty) (ht : (∃ n, ty = .object n) ∨ ∃ t, ty = .array t) (k : P (some (.ref i)) h) : Rr M kc ks pc ls [.ref i] h P :=
  fun G p l e Rm s m args below meth c H locs cells slots Q la C hp h1 h2 hr hl => W.widen (Nat.le_add_right _ _) (Nat.le_add_right _ _) (hr (some (.ref i)) h H locs la pc k hp (Or.inr (Or.inr (Or.inr ⟨i, ty, rfl, hty, ht, hd⟩))))
end RULES
