def isO (h : AH) (ci r : Nat) : Prop := r < h.1 ∧ kd r = ci
theorem tv_ref (G : GH) {r : Nat} (hr : r < 1000) : tv G (.ref r) = .ref (G.1 + r) := by
  simp only [tv, ro]
  rw [if_pos hr]
  rfl
theorem up2_at {α : Type} (f : Nat → Nat → α) (r k : Nat) (v : α) : up2 f r k v r k = v := if_pos ⟨rfl, rfl⟩
theorem up2_r {α : Type} (f : Nat → Nat → α) {r r2 : Nat} (k : Nat) (v : α) (h : r2 ≠ r) : up2 f r k v r2 = f r2 := by
  funext k2
  exact if_neg (fun q => h q.1)
theorem up2_k {α : Type} (f : Nat → Nat → α) (r : Nat) {k k2 : Nat} (v : α) (h : k2 ≠ k) : up2 f r k v r k2 = f r k2 := if_neg (fun q => h q.2)
/-- a class's table: the words of its fields are there, their names differ, their types are known -/
def ClsOK (ci : Nat) (C : String) (T : u_T) (N : Nat) : Prop :=
  clsL[ci]? = some (C, T, N) ∧ (∀ w ∈ u_ws C T N, w ∈ TBG) ∧ (∃ ty0 : Nat → FieldType, ∀ k, k < N → parseFieldDescriptor (T k).2.2.1 = some (ty0 k)) ∧ (∀ a, a < N → ∀ b, b < N → a ≠ b → (T a).2.1 ≠ (T b).2.1)
theorem ClsOK.lt {ci : Nat} {C : String} {T : u_T} {N : Nat} (h : ClsOK ci C T N) : ci < 13 := (List.getElem?_eq_some_iff.mp h.1).1
theorem ok0 : ClsOK 0 RX0 TX0 1 := ⟨rfl, inT0, ⟨_, tyX0_ok⟩, nmX0⟩
theorem ok1 : ClsOK 1 RX1 TX1 12 := ⟨rfl, inT1, ⟨_, tyX1_ok⟩, nmX1⟩
theorem ok2 : ClsOK 2 RX2 TX2 4 := ⟨rfl, inT2, ⟨_, tyX2_ok⟩, nmX2⟩
theorem ok3 : ClsOK 3 RX3 TX3 16 := ⟨rfl, inT3, ⟨_, tyX3_ok⟩, nmX3⟩
theorem ok4 : ClsOK 4 RX4 TX4 6 := ⟨rfl, inT4, ⟨_, tyX4_ok⟩, nmX4⟩
theorem ok5 : ClsOK 5 RX5 TX5 12 := ⟨rfl, inT5, ⟨_, tyX5_ok⟩, nmX5⟩
theorem ok6 : ClsOK 6 RX6 TX6 7 := ⟨rfl, inT6, ⟨_, tyX6_ok⟩, nmX6⟩
theorem ok7 : ClsOK 7 RX7 TX7 12 := ⟨rfl, inT7, ⟨_, tyX7_ok⟩, nmX7⟩
theorem ok8 : ClsOK 8 RX8 TX8 4 := ⟨rfl, inT8, ⟨_, tyX8_ok⟩, nmX8⟩
theorem ok9 : ClsOK 9 RX9 TX9 6 := ⟨rfl, inT9, ⟨_, tyX9_ok⟩, nmX9⟩
theorem ok10 : ClsOK 10 RX10 TX10 7 := ⟨rfl, inT10, ⟨_, tyX10_ok⟩, nmX10⟩
theorem ok11 : ClsOK 11 RX11 TX11 15 := ⟨rfl, inT11, ⟨_, tyX11_ok⟩, nmX11⟩
theorem ok12 : ClsOK 12 RX12 TX12 59 := ⟨rfl, inT12, ⟨_, tyX12_ok⟩, nmX12⟩
theorem ent_obj (G : GH) (h : AH) {r ci : Nat} (hk : kd r = ci) (hc : ci < 100) : ent G h r = .inr (ci, (tgL.getD ci []).mapIdx (fun k t => fv G h r k t)) := by
  unfold ent
  rw [if_pos (by rw [hk]; exact hc), hk]
theorem ent_sI (G : GH) (h : AH) {r ci k : Nat} {x : Int32} (hk : kd r = ci) (hc : ci < 100) (ht : (tgL.getD ci [])[k]? = some 0) : ent G (sI h r k x) r = .inr (ci, ((tgL.getD ci []).mapIdx (fun k t => fv G h r k t)).set k (.int x)) := by
  rw [ent_obj G _ hk hc]
  congr 2
  apply List.ext_getElem?
  intro j
  rw [List.getElem?_mapIdx]
  by_cases e : k = j
  · subst e
    have hl : k < (tgL.getD ci []).length := (List.getElem?_eq_some_iff.mp ht).1
    rw [List.getElem?_set_self (by simpa using hl), ht]
    simp [fv, gI, sI, up2_at]
  · rw [List.getElem?_set_ne e, List.getElem?_mapIdx]
    congr 1
    funext t
    match t with
    | 0 => simp [fv, gI, sI, up2_k _ _ _ (Ne.symm e)]
    | 1 => rfl
    | t + 2 => rfl
theorem ent_sL (G : GH) (h : AH) {r ci k : Nat} {x : Int64} (hk : kd r = ci) (hc : ci < 100) (ht : (tgL.getD ci [])[k]? = some 1) : ent G (sL h r k x) r = .inr (ci, ((tgL.getD ci []).mapIdx (fun k t => fv G h r k t)).set k (.long x)) := by
  rw [ent_obj G _ hk hc]
  congr 2
  apply List.ext_getElem?
  intro j
  rw [List.getElem?_mapIdx]
  by_cases e : k = j
  · subst e
    have hl : k < (tgL.getD ci []).length := (List.getElem?_eq_some_iff.mp ht).1
    rw [List.getElem?_set_self (by simpa using hl), ht]
    simp [fv, gL, sL, up2_at]
  · rw [List.getElem?_set_ne e, List.getElem?_mapIdx]
    congr 1
    funext t
    match t with
    | 0 => rfl
    | 1 => simp [fv, gL, sL, up2_k _ _ _ (Ne.symm e)]
    | t + 2 => rfl
theorem ent_sF (G : GH) (h : AH) {r ci k x : Nat} (hk : kd r = ci) (hc : ci < 100) (ht : (tgL.getD ci [])[k]? = some 2) : ent G (sF h r k x) r = .inr (ci, ((tgL.getD ci []).mapIdx (fun k t => fv G h r k t)).set k (va_rf (ro G x))) := by
  rw [ent_obj G _ hk hc]
  congr 2
  apply List.ext_getElem?
  intro j
  rw [List.getElem?_mapIdx]
  by_cases e : k = j
  · subst e
    have hl : k < (tgL.getD ci []).length := (List.getElem?_eq_some_iff.mp ht).1
    rw [List.getElem?_set_self (by simpa using hl), ht]
    simp [fv, gF, sF, up2_at]
  · rw [List.getElem?_set_ne e, List.getElem?_mapIdx]
    congr 1
    funext t
    match t with
    | 0 => rfl
    | 1 => rfl
    | t + 2 => simp [fv, gF, sF, up2_k _ _ _ (Ne.symm e)]
theorem ent_congr (G : GH) {h h2 : AH} {i : Nat} (h1 : h2.2.1 i = h.2.1 i) (h3 : h2.2.2.1 i = h.2.2.1 i) (h4 : h2.2.2.2 i = h.2.2.2 i) : ent G h2 i = ent G h i := by
  have e1 : gI h2 i = gI h i := h1
  have e2 : gL h2 i = gL h i := h3
  have e3 : gF h2 i = gF h i := h4
  unfold ent
  rw [e1, e2]
  have e4 : ∀ k t, fv G h2 i k t = fv G h i k t := by
    intro k t
    unfold fv
    rw [e1, e2, e3]
  simp only [e4, e3]
section VALZ
variable {p : Program} {l : Launch} {e : Env} {R : Room} {s : State} {m : MethodId} {args : Array Value} {below : List Frame} {meth : Method} {c : Code} {H : Heap} {locs : List Loc} {cells slots : Nat} {Q : State → Prop}
variable {cc : ByteArray} {pc : Nat} {ls : Array Slot} {rest : List Value} {D : va_G} {cl : List vw_C} {A : Nat → Prop} {a : Nat} {tys : List (ClassId × FieldType)} {ws : va_W} {H0 : Heap}
theorem va_put_sz (hexec : p.tables.exec = Jvm.exec) (hb : c.code = cc) {own ref C : String} {T : u_T} {N ci index : Nat} {Ts : List Cond} (hts : ∀ w ∈ Ts, w.before args s = true) (hin : ∀ w ∈ u_ws C T N, w ∈ Ts) (ty0 : Nat → FieldType) (hty : ∀ k, k < N → parseFieldDescriptor (T k).2.2.1 = some (ty0 k)) (hnm : ∀ a, a < N → ∀ b, b < N → a ≠ b → (T a).2.1 ≠ (T b).2.1) (hown : s.vm.findClass own = some m.cls) (hK : va_K D cl tys s) (hP : va_P D cl ws H) (hD : va_D A ws) (hS0 : va_S A H0 H locs) (q0 : Nat) {fs : List Value} (he : ws[q0]? = some (a, .inr (ci, fs))) (hc : cl[ci]? = some (C, T, N)) (k : Nat) (hk : k < N) (hlink : (Cond.fieldLink own index ref (T k).2.1 (T k).2.2.1).before args s = true) (hsame : ∀ x, s.fieldFound? (T k).1 (T k).2.1 (T k).2.2.1 = some x → s.fieldFound? ref (T k).2.1 (T k).2.2.1 = some x) (hfin : (T k).2.2.2 = false) {ty : FieldType} {v : Value} (hd : parseFieldDescriptor (T k).2.2.1 = some ty) (hn : narrow ty v = v) (hfit : fits ty v = true) (hl : k < fs.length)
    (hdg : decode cc pc = .ok (.putfield index, 3)) (kk : ∀ (H1 : Heap) (locs1 : List Loc), va_P D cl (ws.set q0 (a, .inr (ci, fs.set k v))) H1 → H1.size = H.size → va_S A H0 H1 locs1 → W p l e R s m args below meth c H1 locs1 cells slots Q (F0 m (pc + 3) ls rest)) : W p l e R s m args below meth c H locs cells slots Q (F0 m pc ls (v :: .ref a :: rest)) := by
  have hap := va_apart (own := own) hts hin ty0 hty hnm hK hc
  obtain ⟨r, h1, cell, q1, q2, q3, q4⟩ := hP q0 _ he
  have hr : r = (C, T, N) := Option.some.inj (h1.symm.trans hc)
  subst hr
  obtain ⟨hS, hfc, kC, hkC, hkind⟩ := hK.1 ci _ hc
  obtain ⟨cf, kf, fi, f, hi, hsl⟩ := hS k hk
  have hlay := hts _ (hin _ (u_in_lay hk))
  unfold u_lay at hlay
  rw [if_neg (by rw [hfin]; decide)] at hlay
  have hst := (u_facts hfc hkC (u_lays hts hin hk) hi).1
  have h6 := u_store hfc hkC hkind hlay hi hd hn hfit
  refine W.putK hexec hb (f := f) ⟨hown, hlink, ⟨_, _, _, hsame _ hi⟩, hst⟩ (by rw [q2]; exact h6) q1 q3 (by rw [hsl]; exact k2_hasslot (q4 k hk)) rfl rfl hdg fun H' e1 e2 e3 => ?_
  rw [hsl] at e1 ⊢
  exact kk H' _ (hP.set hD he ⟨_, hc, t_OB.to (V := updV (vp_V fs) k v) ⟨_, e1, q2, q3, t_set q4 hap hk v⟩ (fun j _ => vp_updV_set hl v j)⟩ e3) e2 (hS0.put e2 e3 (hD.2 q0 _ he))
theorem va_putF_sz (hexec : p.tables.exec = Jvm.exec) (hb : c.code = cc) {own ref C : String} {T : u_T} {N ci index : Nat} {Ts : List Cond} (hts : ∀ w ∈ Ts, w.before args s = true) (hin : ∀ w ∈ u_ws C T N, w ∈ Ts) (ty0 : Nat → FieldType) (hty : ∀ k, k < N → parseFieldDescriptor (T k).2.2.1 = some (ty0 k)) (hnm : ∀ a, a < N → ∀ b, b < N → a ≠ b → (T a).2.1 ≠ (T b).2.1) (hown : s.vm.findClass own = some m.cls) (hK : va_K D cl tys s) (hP : va_P D cl ws H) (hD : va_D A ws) (hS0 : va_S A H0 H locs) (q0 : Nat) {fs : List Value} (he : ws[q0]? = some (a, .inr (ci, fs))) (hc : cl[ci]? = some (C, T, N)) (k : Nat) (hk : k < N) (hlink : (Cond.fieldLink own index ref (T k).2.1 (T k).2.2.1).before args s = true) (hsame : ∀ x, s.fieldFound? (T k).1 (T k).2.1 (T k).2.2.1 = some x → s.fieldFound? ref (T k).2.1 (T k).2.2.1 = some x) (hfin : (T k).2.2.2 = true) (hin2 : meth.name = "<init>") (hdecl : (T k).1 = own) {ty : FieldType} {v : Value} (hd : parseFieldDescriptor (T k).2.2.1 = some ty) (hn : narrow ty v = v) (hfit : fits ty v = true) (hl : k < fs.length)
    (hdg : decode cc pc = .ok (.putfield index, 3)) (kk : ∀ (H1 : Heap) (locs1 : List Loc), va_P D cl (ws.set q0 (a, .inr (ci, fs.set k v))) H1 → H1.size = H.size → va_S A H0 H1 locs1 → W p l e R s m args below meth c H1 locs1 cells slots Q (F0 m (pc + 3) ls rest)) : W p l e R s m args below meth c H locs cells slots Q (F0 m pc ls (v :: .ref a :: rest)) := by
  have hap := va_apart (own := own) hts hin ty0 hty hnm hK hc
  obtain ⟨r, h1, cell, q1, q2, q3, q4⟩ := hP q0 _ he
  have hr : r = (C, T, N) := Option.some.inj (h1.symm.trans hc)
  subst hr
  obtain ⟨hS, hfc, kC, hkC, hkind⟩ := hK.1 ci _ hc
  obtain ⟨cf, kf, fi, f, hi, hsl⟩ := hS k hk
  have hlay := hts _ (hin _ (u_in_lay hk))
  unfold u_lay at hlay
  rw [if_pos hfin] at hlay
  have hst := (u_facts hfc hkC (u_lays hts hin hk) hi).1
  have hcf : m.cls = cf := by
    obtain ⟨_, _, c', _, _, _, -, -, hf', -, -, -, hown2, -⟩ := Cond.laysFinal_spec hlay
    have e1 : c' = cf := by have := hi.symm.trans hf'; simp at this; exact this.1.symm
    rw [hdecl] at hown2
    rw [← e1]; exact Option.some.inj (hown.symm.trans hown2)
  have h6 := u_fits hfc hkC hkind (Or.inr hlay) hi hd hn hfit
  refine W.putFinK hexec hb hown hlink (hsame _ hi) hst hcf hin2 (by rw [q2]; exact h6) q1 q3 (by rw [hsl]; exact k2_hasslot (q4 k hk)) rfl rfl hdg fun H' e1 e2 e3 => ?_
  rw [hsl] at e1 ⊢
  exact kk H' _ (hP.set hD he ⟨_, hc, t_OB.to (V := updV (vp_V fs) k v) ⟨_, e1, q2, q3, t_set q4 hap hk v⟩ (fun j _ => vp_updV_set hl v j)⟩ e3) e2 (hS0.put e2 e3 (hD.2 q0 _ he))
end VALZ
section HRULES
variable {M : MI} {kc ks pc : Nat} {ls : List (Nat × Value)} {st : List Value} {h : AH} {P : Option Value → AH → Prop} {C : String} {T : u_T} {N : Nat}
theorem R_get {i r : Nat} {n dd : String} {fin : Bool} (ci k t : Nat) (F : ClsOK ci C T N) (hk : k < N) (hT : T k = (C, n, dd, fin)) (ht : (tgL.getD ci [])[k]? = some t) (hd : decode M.2.1 pc = .ok (.getfield i, 3)) (hw : Cond.fieldLink M.1.cls i C n dd ∈ TBG) (ho : isO h ci r)
    {v : Value} (hv : ∀ G : GH, tv G v = fv G h r k t) (kk : Rr M kc ks (pc + 3) ls (v :: st) h P) : Rr M kc ks pc ls (.ref r :: st) h P := by
  intro G p l e Rm s m args below meth c H locs cells slots Q la X hp h1 h2 hr hl
  have hr0 : r < 1000 := Nat.lt_of_lt_of_le ho.1 hp.2.1
  rw [List.map_cons, tv_ref G hr0]
  have he := cells_at G h ho.1
  rw [ent_obj G h ho.2 (Nat.lt_trans F.lt (by decide))] at he
  refine va_get (D := G.2.1) (v := fv G h r k t) X.1 X.2.1 X.2.2.2.2.2.1 F.2.1 X.2.2.2.2.1 X.2.2.2.2.2.2.2.2.2.2.1.1 hp.2.2.1 r he F.1 k hk (ref := C) (by rw [hT]; exact X.2.2.2.2.2.1 _ hw) (fun x hx => by rw [hT] at hx ⊢; exact hx) (by rw [List.getElem?_mapIdx, ht]; rfl) hd ?_
  have h9 := kk G p l e Rm s m args below meth c H locs cells slots Q la X hp h1 h2 hr hl
  rw [List.map_cons, hv G] at h9
  exact h9
theorem R_getI {i r : Nat} {n dd : String} {fin : Bool} (ci k : Nat) (F : ClsOK ci C T N) (hk : k < N) (hT : T k = (C, n, dd, fin)) (ht : (tgL.getD ci [])[k]? = some 0) (hd : decode M.2.1 pc = .ok (.getfield i, 3)) (hw : Cond.fieldLink M.1.cls i C n dd ∈ TBG) (ho : isO h ci r)
    (kk : Rr M kc ks (pc + 3) ls (.int (gI h r k) :: st) h P) : Rr M kc ks pc ls (.ref r :: st) h P := R_get ci k 0 F hk hT ht hd hw ho (fun _ => rfl) kk
theorem R_getL {i r : Nat} {n dd : String} {fin : Bool} (ci k : Nat) (F : ClsOK ci C T N) (hk : k < N) (hT : T k = (C, n, dd, fin)) (ht : (tgL.getD ci [])[k]? = some 1) (hd : decode M.2.1 pc = .ok (.getfield i, 3)) (hw : Cond.fieldLink M.1.cls i C n dd ∈ TBG) (ho : isO h ci r)
    (kk : Rr M kc ks (pc + 3) ls (.long (gL h r k) :: st) h P) : Rr M kc ks pc ls (.ref r :: st) h P := R_get ci k 1 F hk hT ht hd hw ho (fun _ => rfl) kk
theorem R_getF {i r : Nat} {n dd : String} {fin : Bool} (ci k : Nat) (F : ClsOK ci C T N) (hk : k < N) (hT : T k = (C, n, dd, fin)) (ht : (tgL.getD ci [])[k]? = some 2) (hd : decode M.2.1 pc = .ok (.getfield i, 3)) (hw : Cond.fieldLink M.1.cls i C n dd ∈ TBG) (ho : isO h ci r)
    (kk : Rr M kc ks (pc + 3) ls (.ref (gF h r k) :: st) h P) : Rr M kc ks pc ls (.ref r :: st) h P := R_get ci k 2 F hk hT ht hd hw ho (fun _ => rfl) kk
theorem R_put {i r : Nat} {n dd : String} {fin : Bool} {h2 : AH} {v : Value} {ty : FieldType} (ci k : Nat) (F : ClsOK ci C T N) (hk : k < N) (hT : T k = (C, n, dd, fin)) (hl0 : k < (tgL.getD ci []).length) (hd : decode M.2.1 pc = .ok (.putfield i, 3)) (hw : Cond.fieldLink M.1.cls i C n dd ∈ TBG) (hfin : fin = false ∨ (M.1.name = "<init>" ∧ C = M.1.cls)) (ho : isO h ci r)
    (hty : parseFieldDescriptor dd = some ty) (hn : ∀ G : GH, narrow ty (tv G v) = tv G v) (hft : ∀ G : GH, fits ty (tv G v) = true) (hn2 : h2.1 = h.1) (he2 : ∀ G : GH, ent G h2 r = .inr (ci, ((tgL.getD ci []).mapIdx (fun k t => fv G h r k t)).set k (tv G v))) (ho2 : ∀ (G : GH) (i : Nat), i ≠ r → ent G h2 i = ent G h i)
    (kk : Rr M kc ks (pc + 3) ls st h2 P) : Rr M kc ks pc ls (v :: .ref r :: st) h P := by
  intro G p l e Rm s m args below meth c H locs cells slots Q la X hp h1 h3 hr hl
  have hr0 : r < 1000 := Nat.lt_of_lt_of_le ho.1 hp.2.1
  rw [List.map_cons, List.map_cons, tv_ref G hr0]
  have he := cells_at G h ho.1
  rw [ent_obj G h ho.2 (Nat.lt_trans F.lt (by decide))] at he
  obtain ⟨ty0, hty0⟩ := F.2.2.1
  have hgo : ∀ (H1 : Heap) (locs1 : List Loc), va_P G.2.1 clsL ((cellsOf G h).set r (G.1 + r, .inr (ci, ((tgL.getD ci []).mapIdx (fun k t => fv G h r k t)).set k (tv G v)))) H1 → H1.size = H.size → va_S (AM G) s.heap H1 locs1 → W p l e Rm s m args below meth c H1 locs1 cells slots Q (F0 m (pc + 3) la (st.map (tv G))) := by
    intro H1 locs1 q1 q2 q3
    rw [cells_set G hn2 r (he2 G) (ho2 G)] at q1
    exact kk G p l e Rm s m args below meth c H1 locs1 cells slots Q la X ⟨by rw [q2, hn2]; exact hp.1, by rw [hn2]; exact hp.2.1, q1, q3⟩ h1 h3 hr hl
  cases fin with
  | false =>
    refine va_put_sz (D := G.2.1) X.1 X.2.1 X.2.2.2.2.2.1 F.2.1 ty0 hty0 F.2.2.2 X.2.2.2.2.1 X.2.2.2.2.2.2.2.2.2.2.1.1 hp.2.2.1 (cells_D G h) hp.2.2.2 r he F.1 k hk (ref := C) (by rw [hT]; exact X.2.2.2.2.2.1 _ hw) (fun x hx => by rw [hT] at hx ⊢; exact hx) (by rw [hT]) (ty := ty) (by rw [hT]; exact hty) (hn G) (hft G) (by rw [List.length_mapIdx]; exact hl0) hd hgo
  | true =>
    have hf : M.1.name = "<init>" ∧ C = M.1.cls := hfin.resolve_left (by decide)
    refine va_putF_sz (D := G.2.1) X.1 X.2.1 X.2.2.2.2.2.1 F.2.1 ty0 hty0 F.2.2.2 X.2.2.2.2.1 X.2.2.2.2.2.2.2.2.2.2.1.1 hp.2.2.1 (cells_D G h) hp.2.2.2 r he F.1 k hk (ref := C) (by rw [hT]; exact X.2.2.2.2.2.1 _ hw) (fun x hx => by rw [hT] at hx ⊢; exact hx) (by rw [hT]) (by rw [X.2.2.2.2.2.2.2.1]; exact hf.1) (by rw [hT]; exact hf.2) (ty := ty) (by rw [hT]; exact hty) (hn G) (hft G) (by rw [List.length_mapIdx]; exact hl0) hd hgo
theorem R_putI {i r : Nat} {n dd : String} {fin : Bool} {x : Int32} {ty : FieldType} (ci k : Nat) (F : ClsOK ci C T N) (hk : k < N) (hT : T k = (C, n, dd, fin)) (ht : (tgL.getD ci [])[k]? = some 0) (hd : decode M.2.1 pc = .ok (.putfield i, 3)) (hw : Cond.fieldLink M.1.cls i C n dd ∈ TBG) (hfin : fin = false ∨ (M.1.name = "<init>" ∧ C = M.1.cls)) (ho : isO h ci r)
    (hty : parseFieldDescriptor dd = some ty) (hn : narrow ty (.int x) = .int x) (hft : fits ty (.int x) = true)
    (kk : Rr M kc ks (pc + 3) ls st (sI h r k x) P) : Rr M kc ks pc ls (.int x :: .ref r :: st) h P :=
  R_put (v := .int x) (h2 := sI h r k x) ci k F hk hT (List.getElem?_eq_some_iff.mp ht).1 hd hw hfin ho hty (fun _ => hn) (fun _ => hft) rfl (fun G => ent_sI G h ho.2 (Nat.lt_trans F.lt (by decide)) ht) (fun G i hi => ent_congr G (up2_r _ _ _ hi) rfl rfl) kk
theorem R_putL {i r : Nat} {n dd : String} {fin : Bool} {x : Int64} {ty : FieldType} (ci k : Nat) (F : ClsOK ci C T N) (hk : k < N) (hT : T k = (C, n, dd, fin)) (ht : (tgL.getD ci [])[k]? = some 1) (hd : decode M.2.1 pc = .ok (.putfield i, 3)) (hw : Cond.fieldLink M.1.cls i C n dd ∈ TBG) (hfin : fin = false ∨ (M.1.name = "<init>" ∧ C = M.1.cls)) (ho : isO h ci r)
    (hty : parseFieldDescriptor dd = some ty) (hn : narrow ty (.long x) = .long x) (hft : fits ty (.long x) = true)
    (kk : Rr M kc ks (pc + 3) ls st (sL h r k x) P) : Rr M kc ks pc ls (.long x :: .ref r :: st) h P :=
  R_put (v := .long x) (h2 := sL h r k x) ci k F hk hT (List.getElem?_eq_some_iff.mp ht).1 hd hw hfin ho hty (fun _ => hn) (fun _ => hft) rfl (fun G => ent_sL G h ho.2 (Nat.lt_trans F.lt (by decide)) ht) (fun G i hi => ent_congr G rfl (up2_r _ _ _ hi) rfl) kk
theorem R_putF {i r x : Nat} {n dd : String} {fin : Bool} {ty : FieldType} (ci k : Nat) (F : ClsOK ci C T N) (hk : k < N) (hT : T k = (C, n, dd, fin)) (ht : (tgL.getD ci [])[k]? = some 2) (hd : decode M.2.1 pc = .ok (.putfield i, 3)) (hw : Cond.fieldLink M.1.cls i C n dd ∈ TBG) (hfin : fin = false ∨ (M.1.name = "<init>" ∧ C = M.1.cls)) (ho : isO h ci r)
    (hty : parseFieldDescriptor dd = some ty) (hrf : (∃ n, ty = .object n) ∨ ∃ t, ty = .array t)
    (kk : Rr M kc ks (pc + 3) ls st (sF h r k x) P) : Rr M kc ks pc ls (.ref x :: .ref r :: st) h P :=
  R_put (v := .ref x) (h2 := sF h r k x) ci k F hk hT (List.getElem?_eq_some_iff.mp ht).1 hd hw hfin ho hty (fun G => by rcases hrf with ⟨_, rfl⟩ | ⟨_, rfl⟩ <;> simp only [tv] <;> cases ro G x <;> rfl) (fun G => by rcases hrf with ⟨_, rfl⟩ | ⟨_, rfl⟩ <;> simp only [tv] <;> cases ro G x <;> rfl) rfl (fun G => ent_sF G h ho.2 (Nat.lt_trans F.lt (by decide)) ht) (fun G i hi => ent_congr G rfl rfl (up2_r _ _ _ hi)) kk
end HRULES
