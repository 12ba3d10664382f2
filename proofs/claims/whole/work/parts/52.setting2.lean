def vC (h : AH) (j n : Nat) : Nat → Int32 := v6 (bB (gI h (j + 15)) (gI h (j + 16))) n
def ZH (j n : Nat) (h h2 : AH) (s : Int32 × Int32) : Prop := Fr [j + 17] h h2 ∧ -1 ≤ s.2 ∧ (s.2 = -1 ∨ ∃ x : Nat, x < 4096 ∧ s.1 = nI x ∧ gI h2 (j + 17) 0 = nI (dg0 n x) ∧ gI h2 (j + 17) 1 = nI (dg1 n x) ∧ gI h2 (j + 17) 2 = nI (dg2 n x) ∧ gI h2 (j + 17) 3 = nI (dg3 n x))
theorem c8_least {j : Nat} {h : AH} {P : Option Value → AH → Prop} {a b c d : Nat} (w : Wf h) (hj : gF h 0 2 = j) (ha : a < 8) (hb : b < 8) (hc : c < 8) (hd : d < 8) (k : P (some (.int (m6 (bB (gI h (j + 15)) (gI h (j + 16))) a b c d))) h) : Call mX8_leastBeat [.ref (j + 14), .int (nI a), .int (nI b), .int (nI c), .int (nI d)] h P := by
  obtain ⟨-, hO8, -, -, -, -, -, -, -, -, -, -⟩ := job_refs w hj
  have r : ∀ m : Nat, m < 8 → 0 ≤ nI m ∧ nI m < 8 := fun m hm => ⟨nI_pos' (by omega), nI_lt (b := 8) hm (by decide)⟩
  have bt : ∀ {Q : Option Value → AH → Prop} (x y : Nat), x < 8 → y < 8 → Q (some (.int (bB (gI h (j + 15)) (gI h (j + 16)) x y))) h → Call mX8_beatOf [.ref (j + 14), .int (nI x), .int (nI y)] h Q := fun {Q} x y hx hy hq => by
    refine c8_beat w hj (r x hx) (r y hy) ?_
    rw [nI_clamp (by omega), nI_clamp (by omega)]
    exact hq
  refine Call.ofR (by decide +kernel) (Nat.le_of_ble_eq_true rfl) (sX8_leastBeat_0 h (j + 14) _ _ _ _ ?_)
  refine ⟨hO8, bt a b ha hb ⟨_, rfl, hO8, bt a c ha hc ⟨_, rfl, hO8, bt a d ha hd ⟨_, rfl, hO8, bt b c hb hc ⟨_, rfl, hO8, bt b d hb hd ⟨_, rfl, hO8, bt c d hc hd ⟨_, rfl, k⟩⟩⟩⟩⟩⟩⟩
theorem n4_le {n : Nat} (hn : n ≤ 8) : n * n * n * n ≤ 4096 := Nat.mul_le_mul (Nat.mul_le_mul (Nat.mul_le_mul hn hn) hn) hn
theorem fs44 {j n : Nat} {h : AH} {P : Option Value → AH → Prop} (w : Wf h) (hj : gF h 0 2 = j) (hn : n ≤ 8) (hs : gI h (j + 14) 0 = nI n) {a b c : Nat} (ha : a < n) (hb : b < n) (hc : c < n) : ∀ (m d : Nat) (s : Int32 × Int32) (h2 : AH), d + m = n → ZH j n h h2 s →
    (∀ s2 h3, s2 = (((List.range' d m).map (cd4 n a b c)).foldl (vup (vC h j n)) s) → ZH j n h h3 s2 → Rr mX8_findSetting 0 0 29 [(0, .ref (j + 14)), (1, .int s2.2), (2, .int (nI a)), (3, .int (nI b)), (4, .int (nI (c + 1)))] [] h3 P) →
    Rr mX8_findSetting 0 0 44 [(0, .ref (j + 14)), (1, .int s.2), (2, .int (nI a)), (3, .int (nI b)), (4, .int (nI c)), (5, .int (nI d))] [] h2 P := by
  intro m
  induction m with
  | zero =>
    intro d s h2 hd ho k
    obtain ⟨F, -, -⟩ := id ho
    have w2 := F.wf w
    have jb := jcase w hj
    have hj2 : gF h2 0 2 = j := (F.2.1 0 2).trans hj
    obtain ⟨-, hO8, -, -, -, -, -, -, -, -, -, -⟩ := job_refs w2 hj2
    have e14 : gI h2 (j + 14) 0 = nI n := (F.I (by rcases jb with rfl | rfl <;> decide) 0).trans hs
    refine sX8_findSetting_44 h2 (j + 14) _ _ _ _ _ ⟨hO8, fun _ => ?_, fun q => absurd ?_ q⟩
    · rw [← nI_succ]
      exact k s h2 (List.foldl_nil ..).symm ho
    · rw [e14, show d = n by omega]
      exact Int32.le_refl _
  | succ m ih =>
    intro d s h2 hd ho k
    obtain ⟨F, ho1, ho2⟩ := id ho
    have w2 := F.wf w
    have jb := jcase w hj
    have hj2 : gF h2 0 2 = j := (F.2.1 0 2).trans hj
    obtain ⟨-, hO8, -, -, -, -, -, -, -, -, -, g3⟩ := job_refs w2 hj2
    have e14 : gI h2 (j + 14) 0 = nI n := (F.I (by rcases jb with rfl | rfl <;> decide) 0).trans hs
    have e15 : gI h2 (j + 15) = gI h (j + 15) := (F.2.2 (j + 15) (by rcases jb with rfl | rfl <;> decide)).1
    have e16 : gI h2 (j + 16) = gI h (j + 16) := (F.2.2 (j + 16) (by rcases jb with rfl | rfl <;> decide)).1
    have hr : List.range' d (m + 1) = d :: List.range' (d + 1) m := rfl
    rw [hr, List.map_cons, List.foldl_cons] at k
    refine sX8_findSetting_44 h2 (j + 14) _ _ _ _ _ ⟨hO8, fun q => absurd q ?_, fun q => ?_⟩
    · rw [e14, nI_leI (by omega) (by omega)]
      omega
    obtain ⟨d0, d1, d2, d3⟩ := cd_dg ha hb hc (show d < n by omega)
    refine c8_least w2 hj2 (by omega) (by omega) (by omega) (by omega) ?_
    have ev : m6 (bB (gI h2 (j + 15)) (gI h2 (j + 16))) a b c d = vC h j n (cd4 n a b c d) := by
      unfold vC v6
      rw [e15, e16, d0, d1, d2, d3]
    rw [ev, ← nI_succ]
    refine ⟨_, rfl, fun q => ?_, fun q => ?_⟩
    · rw [vup_no q] at k
      exact ih (d + 1) s h2 (by omega) ho k
    · have e : vup (vC h j n) s (cd4 n a b c d) = (nI (cd4 n a b c d), vC h j n (cd4 n a b c d)) := if_pos (by clear k; grind)
      rw [e] at k
      clear e ev
      generalize vC h j n (cd4 n a b c d) = vv at k q ⊢
      rw [g3]
      have l17 : isA h2 0 (j + 17) ∧ ln (j + 17) = 4 := by
        rcases jb with rfl | rfl
        · exact ⟨w2.a (by decide) rfl, rfl⟩
        · exact ⟨w2.a (by decide) rfl, rfl⟩
      rw [l17.2]
      have c4 := cd_hi ha hb hc (show d < n by omega)
      have c5 := n4_le hn
      refine ⟨hO8, l17.1, by rw [vin_4]; decide, by rw [vin_4]; decide, by rw [vin_4]; decide, by rw [vin_4]; decide, ?_⟩
      refine ih (d + 1) (nI (cd4 n a b c d), vv) _ (by omega) ⟨((((F.tr (Fr.sI (List.mem_cons_self ..))).tr (Fr.sI (List.mem_cons_self ..))).tr (Fr.sI (List.mem_cons_self ..))).tr (Fr.sI (List.mem_cons_self ..))), by clear k; grind, Or.inr ⟨cd4 n a b c d, by omega, rfl, ?_⟩⟩ k
      rw [d0, d1, d2, d3]
      exact ⟨(rd_k (by decide)).trans ((rd_k (by decide)).trans ((rd_k (by decide)).trans rd_h)), (rd_k (by decide)).trans ((rd_k (by decide)).trans rd_h), (rd_k (by decide)).trans rd_h, rd_h⟩
theorem fs_O {j n : Nat} {h h2 : AH} {s : Int32 × Int32} (w : Wf h) (hj : gF h 0 2 = j) (hs : gI h (j + 14) 0 = nI n) (ho : ZH j n h h2 s) : isO h2 8 (j + 14) ∧ gI h2 (j + 14) 0 = nI n := by
  obtain ⟨F, -, -⟩ := id ho
  have w2 := F.wf w
  have jb := jcase w hj
  have hj2 : gF h2 0 2 = j := (F.2.1 0 2).trans hj
  obtain ⟨-, hO8, -, -, -, -, -, -, -, -, -, -⟩ := job_refs w2 hj2
  exact ⟨hO8, (F.I (by rcases jb with rfl | rfl <;> decide) 0).trans hs⟩
theorem fs29 {j n : Nat} {h : AH} {P : Option Value → AH → Prop} (w : Wf h) (hj : gF h 0 2 = j) (hn : n ≤ 8) (hs : gI h (j + 14) 0 = nI n) {a b : Nat} (ha : a < n) (hb : b < n) : ∀ (m c : Nat) (s : Int32 × Int32) (h2 : AH), c + m = n → ZH j n h h2 s →
    (∀ s2 h3, s2 = (((List.range' c m).flatMap (q4 n a b)).foldl (vup (vC h j n)) s) → ZH j n h h3 s2 → Rr mX8_findSetting 0 0 16 [(0, .ref (j + 14)), (1, .int s2.2), (2, .int (nI a)), (3, .int (nI (b + 1)))] [] h3 P) →
    Rr mX8_findSetting 0 0 29 [(0, .ref (j + 14)), (1, .int s.2), (2, .int (nI a)), (3, .int (nI b)), (4, .int (nI c))] [] h2 P
  | 0, c, s, h2, hd, ho, k => by
    obtain ⟨hO8, e14⟩ := fs_O w hj hs ho
    refine sX8_findSetting_29 h2 (j + 14) _ _ _ _ ⟨hO8, fun _ => ?_, fun q => absurd ?_ q⟩
    · rw [← nI_succ]
      exact k s h2 (List.foldl_nil ..).symm ho
    · rw [e14, show c = n by omega]
      exact Int32.le_refl _
  | m + 1, c, s, h2, hd, ho, k => by
    obtain ⟨hO8, e14⟩ := fs_O w hj hs ho
    have hr : List.range' c (m + 1) = c :: List.range' (c + 1) m := rfl
    rw [hr, List.flatMap_cons, List.foldl_append] at k
    refine sX8_findSetting_29 h2 (j + 14) _ _ _ _ ⟨hO8, fun q => absurd q ?_, fun q => ?_⟩
    · rw [e14, nI_leI (by omega) (by omega)]
      omega
    rw [← nI_succ]
    refine fs44 w hj hn hs ha hb (by omega) (n - (c + 1)) (c + 1) s h2 (by omega) ho (fun s2 h3 hs2 ho2 => ?_)
    refine fs29 w hj hn hs ha hb m (c + 1) s2 h3 (by omega) ho2 (fun s4 h4 hs4 ho4 => k s4 h4 ?_ ho4)
    rw [hs4, hs2]
    rfl
theorem fs16 {j n : Nat} {h : AH} {P : Option Value → AH → Prop} (w : Wf h) (hj : gF h 0 2 = j) (hn : n ≤ 8) (hs : gI h (j + 14) 0 = nI n) {a : Nat} (ha : a < n) : ∀ (m b : Nat) (s : Int32 × Int32) (h2 : AH), b + m = n → ZH j n h h2 s →
    (∀ s2 h3, s2 = (((List.range' b m).flatMap (q3 n a)).foldl (vup (vC h j n)) s) → ZH j n h h3 s2 → Rr mX8_findSetting 0 0 4 [(0, .ref (j + 14)), (1, .int s2.2), (2, .int (nI (a + 1)))] [] h3 P) →
    Rr mX8_findSetting 0 0 16 [(0, .ref (j + 14)), (1, .int s.2), (2, .int (nI a)), (3, .int (nI b))] [] h2 P
  | 0, c, s, h2, hd, ho, k => by
    obtain ⟨hO8, e14⟩ := fs_O w hj hs ho
    refine sX8_findSetting_16 h2 (j + 14) _ _ _ ⟨hO8, fun _ => ?_, fun q => absurd ?_ q⟩
    · rw [← nI_succ]
      exact k s h2 (List.foldl_nil ..).symm ho
    · rw [e14, show c = n by omega]
      exact Int32.le_refl _
  | m + 1, c, s, h2, hd, ho, k => by
    obtain ⟨hO8, e14⟩ := fs_O w hj hs ho
    have hr : List.range' c (m + 1) = c :: List.range' (c + 1) m := rfl
    rw [hr, List.flatMap_cons, List.foldl_append] at k
    refine sX8_findSetting_16 h2 (j + 14) _ _ _ ⟨hO8, fun q => absurd q ?_, fun q => ?_⟩
    · rw [e14, nI_leI (by omega) (by omega)]
      omega
    rw [← nI_succ]
    refine fs29 w hj hn hs ha (by omega) (n - (c + 1)) (c + 1) s h2 (by omega) ho (fun s2 h3 hs2 ho2 => ?_)
    refine fs16 w hj hn hs ha m (c + 1) s2 h3 (by omega) ho2 (fun s4 h4 hs4 ho4 => k s4 h4 ?_ ho4)
    rw [hs4, hs2]
    rfl
theorem fs4 {j n : Nat} {h : AH} {P : Option Value → AH → Prop} (w : Wf h) (hj : gF h 0 2 = j) (hn : n ≤ 8) (hs : gI h (j + 14) 0 = nI n) : ∀ (m a : Nat) (s : Int32 × Int32) (h2 : AH), a + m = n → ZH j n h h2 s →
    (∀ s2 h3, s2 = (((List.range' a m).flatMap (q2 n)).foldl (vup (vC h j n)) s) → ZH j n h h3 s2 → P (some (.int s2.2)) h3) →
    Rr mX8_findSetting 0 0 4 [(0, .ref (j + 14)), (1, .int s.2), (2, .int (nI a))] [] h2 P
  | 0, c, s, h2, hd, ho, k => by
    obtain ⟨hO8, e14⟩ := fs_O w hj hs ho
    refine sX8_findSetting_4 h2 (j + 14) _ _ ⟨hO8, fun _ => k s h2 (List.foldl_nil ..).symm ho, fun q => absurd ?_ q⟩
    rw [e14, show c = n by omega]
    exact Int32.le_refl _
  | m + 1, c, s, h2, hd, ho, k => by
    obtain ⟨hO8, e14⟩ := fs_O w hj hs ho
    have hr : List.range' c (m + 1) = c :: List.range' (c + 1) m := rfl
    rw [hr, List.flatMap_cons, List.foldl_append] at k
    refine sX8_findSetting_4 h2 (j + 14) _ _ ⟨hO8, fun q => absurd q ?_, fun q => ?_⟩
    · rw [e14, nI_leI (by omega) (by omega)]
      omega
    rw [← nI_succ]
    refine fs16 w hj hn hs (by omega) (n - (c + 1)) (c + 1) s h2 (by omega) ho (fun s2 h3 hs2 ho2 => ?_)
    refine fs4 w hj hn hs m (c + 1) s2 h3 (by omega) ho2 (fun s4 h4 hs4 ho4 => k s4 h4 ?_ ho4)
    rw [hs4, hs2]
    rfl
