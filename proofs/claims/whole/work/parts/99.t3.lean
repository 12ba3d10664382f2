/-! THE WORLD AT THE START -/
theorem tl1 {w : Cond} (i : Nat) (h : tables_1_1[i]? = some w) : w ∈ lw_tbl := List.mem_append_right _ (List.mem_append_left _ (List.mem_of_getElem? h))
theorem tl2 {w : Cond} (i : Nat) (h : tables_1_2[i]? = some w) : w ∈ lw_tbl := List.mem_append_right _ (List.mem_append_right _ (List.mem_append_left _ (List.mem_of_getElem? h)))
theorem tl3 {w : Cond} (i : Nat) (h : tables_1_3[i]? = some w) : w ∈ lw_tbl := List.mem_append_right _ (List.mem_append_right _ (List.mem_append_right _ (List.mem_append_left _ (List.mem_of_getElem? h))))
theorem tl6 {w : Cond} (i : Nat) (h : tables_1_6[i]? = some w) : w ∈ lw_tbl := List.mem_append_right _ (List.mem_append_right _ (List.mem_append_right _ (List.mem_append_right _ (List.mem_append_right _ (List.mem_append_right _ (List.mem_append_left _ (List.mem_of_getElem? h)))))))
def stm (i : Nat) : Term := match i with
  | 0 => .string "FourInks$JobText" 59
  | 1 => .string "FourInks$JobText" 171
  | _ => .string "FourInksModel" 127
def stl : List Nat := [80, 32, 78]
def stp : Cond := Jvm.Cond.and given_1 narrow_1
def ste (i j : Nat) : Cond := .eq (.elem (.field (stm i) "java/lang/String" "value" "[B") (.int (Int32.ofNat j))) (.int ((strBL.getD i []).getD j 0))
theorem ste_0 : ∀ j : Fin 80, ste 0 j.val ∈ flatC stp := by decide +kernel
theorem ste_1 : ∀ j : Fin 32, ste 1 j.val ∈ flatC stp := by decide +kernel
theorem ste_2 : ∀ j : Fin 78, ste 2 j.val ∈ flatC stp := by decide +kernel
theorem ste_a : ∀ i : Fin 3, Cond.exactly (stm i.val) "java/lang/String" ∈ flatC stp ∧ Cond.eq (.field (stm i.val) "java/lang/String" "coder" "B") (.int 0) ∈ flatC stp ∧ Cond.arrayOf (.field (stm i.val) "java/lang/String" "value" "[B") .byte ∈ flatC stp ∧ Cond.eq (.length (.field (stm i.val) "java/lang/String" "value" "[B")) (.int (Int32.ofNat (stl.getD i.val 0))) ∈ flatC stp := by decide +kernel
theorem ste_n : Cond.not (.eq (stm 0) (stm 1)) ∈ flatC stp ∧ Cond.not (.eq (stm 0) (stm 2)) ∈ flatC stp ∧ Cond.not (.eq (stm 1) (stm 2)) ∈ flatC stp := by decide +kernel
theorem ste_z : Cond.eq (.static "java/lang/String" "COMPACT_STRINGS" "Z") (.int 1) ∈ flatC stp ∧ Cond.isRef (.static "jdk/internal/util/Preconditions" "SIOOBE_FORMATTER" "Ljava/util/function/BiFunction;") ∈ flatC stp := by decide +kernel
theorem st_strings {s : State} {b : Nat} (hgv : stp.before #[Value.ref b] s = true) : ∃ adK adV : Nat → Nat, vk_S 3 [80, 32, 78] strBL adK adV (fun q => s.heap.size ≤ q) s s.heap ∧ ∀ i : Nat, i < 3 → (stm i).eval #[Value.ref b] s none [] s = some (.ref (adK i)) := by
  have hg := flat_of_before _ hgv
  refine vk_Sof (args := #[Value.ref b]) (N := 3) (tm := stm) (len := [80, 32, 78]) (byt := strBL) (fun i hi => ?_) (fun i hi => hg _ (ste_a ⟨i, hi⟩).1) (fun i hi => hg _ (ste_a ⟨i, hi⟩).2.1) (fun i hi => hg _ (ste_a ⟨i, hi⟩).2.2.1) (fun i hi => hg _ (ste_a ⟨i, hi⟩).2.2.2) (fun i hi j hj => ?_) (fun i j hi hj hij => ?_) (fun a h => Nat.not_le.mpr h)
  · rcases (show i = 0 ∨ i = 1 ∨ i = 2 by omega) with rfl | rfl | rfl <;> exact Nat.le_of_ble_eq_true rfl
  · rcases (show i = 0 ∨ i = 1 ∨ i = 2 by omega) with rfl | rfl | rfl
    · exact hg _ (ste_0 ⟨j, hj⟩)
    · exact hg _ (ste_1 ⟨j, hj⟩)
    · exact hg _ (ste_2 ⟨j, hj⟩)
  · rcases (show i = 0 ∧ j = 1 ∨ i = 0 ∧ j = 2 ∨ i = 1 ∧ j = 2 ∨ i = 1 ∧ j = 0 ∨ i = 2 ∧ j = 0 ∨ i = 2 ∧ j = 1 by omega) with ⟨rfl, rfl⟩ | ⟨rfl, rfl⟩ | ⟨rfl, rfl⟩ | ⟨rfl, rfl⟩ | ⟨rfl, rfl⟩ | ⟨rfl, rfl⟩
    · exact Or.inl (hg _ ste_n.1)
    · exact Or.inl (hg _ ste_n.2.1)
    · exact Or.inl (hg _ ste_n.2.2)
    · exact Or.inr (hg _ ste_n.1)
    · exact Or.inr (hg _ ste_n.2.1)
    · exact Or.inr (hg _ ste_n.2.2)
theorem st_classes {s : State} {b : Nat} (htb : ∀ w ∈ TBG, w.before #[Value.ref b] s = true) : ∃ (dC : Nat → ClassId) (dI : Nat → Nat → Nat), ∀ (k : Nat) (q : vw_C), clsL[k]? = some q → u_Kn s q.1 q.2.1 q.2.2 (dC k) (dI k) := by
  obtain ⟨c0, d0, k0⟩ := u_known (C := RX0) (T := TX0) (N := 1) (n := 1) htb inT0 (htb _ (tg1 77 (by decide +kernel) rfl))
  obtain ⟨c1, d1, k1⟩ := u_known (C := RX1) (T := TX1) (N := 12) (n := 12) htb inT1 (htb _ (tg2 40 (by decide +kernel) rfl))
  obtain ⟨c2, d2, k2⟩ := u_known (C := RX2) (T := TX2) (N := 4) (n := 4) htb inT2 (htb _ (tg2 169 (by decide +kernel) rfl))
  obtain ⟨c3, d3, k3⟩ := u_known (C := RX3) (T := TX3) (N := 16) (n := 16) htb inT3 (htb _ (tg1 67 (by decide +kernel) rfl))
  obtain ⟨c4, d4, k4⟩ := u_known (C := RX4) (T := TX4) (N := 6) (n := 6) htb inT4 (htb _ (tg1 31 (by decide +kernel) rfl))
  obtain ⟨c5, d5, k5⟩ := u_known (C := RX5) (T := TX5) (N := 12) (n := 12) htb inT5 (htb _ (tg2 116 (by decide +kernel) rfl))
  obtain ⟨c6, d6, k6⟩ := u_known (C := RX6) (T := TX6) (N := 7) (n := 7) htb inT6 (htb _ (tg2 86 (by decide +kernel) rfl))
  obtain ⟨c7, d7, k7⟩ := u_known (C := RX7) (T := TX7) (N := 12) (n := 12) htb inT7 (htb _ (tg1 234 (by decide +kernel) rfl))
  obtain ⟨c8, d8, k8⟩ := u_known (C := RX8) (T := TX8) (N := 4) (n := 4) htb inT8 (htb _ (tg1 90 (by decide +kernel) rfl))
  obtain ⟨c9, d9, k9⟩ := u_known (C := RX9) (T := TX9) (N := 6) (n := 6) htb inT9 (htb _ (tg1 37 (by decide +kernel) rfl))
  obtain ⟨c10, d10, k10⟩ := u_known (C := RX10) (T := TX10) (N := 7) (n := 7) htb inT10 (htb _ (tg2 190 (by decide +kernel) rfl))
  obtain ⟨c11, d11, k11⟩ := u_known (C := RX11) (T := TX11) (N := 15) (n := 15) htb inT11 (htb _ (tg1 23 (by decide +kernel) rfl))
  obtain ⟨c12, d12, k12⟩ := u_known (C := RX12) (T := TX12) (N := 59) (n := 59) htb inT12 (htb _ (tg5 231 (by decide +kernel) rfl))
  refine ⟨fun k => [c0, c1, c2, c3, c4, c5, c6, c7, c8, c9, c10, c11, c12].getD k c0, fun k => [d0, d1, d2, d3, d4, d5, d6, d7, d8, d9, d10, d11, d12].getD k d0, fun k q hq => ?_⟩
  match k, hq with
  | 0, hq => cases hq; exact k0
  | 1, hq => cases hq; exact k1
  | 2, hq => cases hq; exact k2
  | 3, hq => cases hq; exact k3
  | 4, hq => cases hq; exact k4
  | 5, hq => cases hq; exact k5
  | 6, hq => cases hq; exact k6
  | 7, hq => cases hq; exact k7
  | 8, hq => cases hq; exact k8
  | 9, hq => cases hq; exact k9
  | 10, hq => cases hq; exact k10
  | 11, hq => cases hq; exact k11
  | 12, hq => cases hq; exact k12
  | k + 13, hq => simp [clsL] at hq
theorem st_world {s : State} {b : Nat} (hts : ∀ w ∈ lw_tbl, w.before #[Value.ref b] s = true) (hgv : stp.before #[Value.ref b] s = true) : ∃ G : GH, G.1 = s.heap.size ∧ Cs G s ∧ St G s s.heap := by
  have htb : ∀ w ∈ TBG, w.before #[Value.ref b] s = true := fun w hw => hts w (List.mem_filter.mp hw).1
  have hg := flat_of_before _ hgv
  obtain ⟨adK, adV, hS, hE⟩ := st_strings hgv
  obtain ⟨dC, dI, hK⟩ := st_classes htb
  obtain ⟨cI, kI, pI, i1, i2, i3⟩ := Cond.arrayClass_spec (htb _ (tg1 87 (by decide +kernel) rfl) : (Cond.arrayClass .int).before #[Value.ref b] s = true)
  obtain ⟨cL, kL, pL, l1, l2, l3⟩ := Cond.arrayClass_spec (htb _ (tg1 88 (by decide +kernel) rfl) : (Cond.arrayClass .long).before #[Value.ref b] s = true)
  obtain ⟨cB, kB, pB, b1, b2, b3⟩ := Cond.arrayClass_spec (htb _ (tg1 65 (by decide +kernel) rfl) : (Cond.arrayClass .byte).before #[Value.ref b] s = true)
  have wQ : (Cond.arrayOver (.object "FourInks$Board")).before #[Value.ref b] s = true := hts _ (tl1 76 (by decide +kernel))
  obtain ⟨pQ, cQ, kQ, q1, q2, q3, q4, q5⟩ := Cond.arrayOver_spec wQ
  have wA : (Cond.arrayOver (.array .int)).before #[Value.ref b] s = true := hts _ (tl2 196 (by decide +kernel))
  obtain ⟨pA, cA, kA, a1, a2, a3, a4, a5⟩ := arrayOverA_spec wA
  have eA : pA = cI := Option.some.inj (a1.symm.trans i1)
  refine ⟨(s.heap.size, (dC, dI), fun k => [cI, cL, cB, cQ, cA].getD k cI, adK, adV), rfl, ⟨⟨hK, fun k q hq => ?_⟩, fun w hw => ?_, fun i q hq => ?_, va_AO.of wQ, kA, a3, by rw [a4, eA]; rfl⟩, ⟨hS, va_Zof (hts _ (tl3 97 (by decide +kernel))) (htb _ (tg1 15 (by decide +kernel) rfl)) (va_eqt (hg _ ste_z.1)) (fun a h => Nat.not_le.mpr h), va_Zqof (hts _ (tl3 117 (by decide +kernel))) (htb _ (tg1 17 (by decide +kernel) rfl)) (hg _ ste_z.2) (fun a h => Nat.not_le.mpr h)⟩⟩
  · match k, hq with
    | 0, hq => cases hq; exact ⟨fun N z => ⟨(fun k h => by cases h), kI, i2, pI, i3⟩, i1⟩
    | 1, hq => cases hq; exact ⟨fun N z => ⟨(fun k h => by cases h), kL, l2, pL, l3⟩, l1⟩
    | 2, hq => cases hq; exact ⟨fun N z => ⟨(fun k h => by cases h), kB, b2, pB, b3⟩, b1⟩
    | 3, hq => cases hq; exact ⟨fun N z => ⟨(fun k h => by cases h), kQ, q3, pQ, q4⟩, kQ, pQ, q3, q4, q1, q5⟩
    | 4, hq => cases hq; exact ⟨fun N z => ⟨(fun k h => by cases h), kA, a3, pA, a4⟩, a5⟩
    | k + 5, hq => simp [tyL] at hq
  · obtain ⟨a, i, x, d, rfl⟩ := nest_form hw
    exact va_Nw.of rfl (hts _ (List.mem_filter.mp hw).1)
  · match i, hq with
    | 0, hq => cases hq; exact vk_R.of (hts _ (tl3 83 (by decide +kernel))) (hE 0 (by decide))
    | 1, hq => cases hq; exact vk_R.of (hts _ (tl3 176 (by decide +kernel))) (hE 1 (by decide))
    | 2, hq => cases hq; exact vk_R.of (hts _ (tl6 220 (by decide +kernel))) (hE 2 (by decide))
    | i + 3, hq => simp [strL] at hq
theorem whole_start {p : Program} {e : Env} {s : State} {m : MethodId} {below : List Frame} {meth : Method} {c : Code} (l : Launch) (hflags : l.flags = flags0) {b L : Nat} {xs : Nat → Int32} (hL : L ≤ 4096) (C0 : lw_At p s m meth c b L xs) : W p l e room_1 s m #[Value.ref b] below meth c s.heap [] 0 0 (lw_Z below #[Value.ref b] s) (entryFrame m ([Value.ref b] : List Value).toArray 4) := by
  obtain ⟨hx, hb, hr, hml, hown, hts, hX, hbl, hlocks, hgv⟩ := C0
  obtain ⟨G, g1, hC, hSt⟩ := st_world hts hgv
  have hl := lv_entry ([.ref b]) (n := 4) (Nat.le_of_ble_eq_true rfl)
  rw [lg_entry_eq]
  exact lw_begin (G := G) hL p l e s m below meth c s.heap [] _ ⟨⟨hx, hb, hr, hml, hown, fun w hw => hts w (List.mem_filter.mp hw).1, hlocks, rfl, Nat.le_of_ble_eq_true rfl, Nat.le_of_ble_eq_true rfl, hC, hSt, Nat.le_of_eq g1⟩, hX, hbl, g1⟩ ⟨by rw [g1]; rfl, Nat.zero_le _, fun k q h => by simp [cellsOf, h00] at h, va_S.rf⟩ hl
