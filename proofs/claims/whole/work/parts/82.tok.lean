/-! TOKENS of the tape -/
def blnk (x : Int32) : Bool := decide (x = 32) || decide (x = 10)
def lett (x : Int32) : Bool := decide (¬ x < 97 ∧ ¬ 122 < x)
def digi (x : Int32) : Bool := decide (¬ x < 48 ∧ ¬ 57 < x)
/-- how far a kind of byte goes -/
def rn (q : Int32 → Bool) (b : Nat → Int32) : Nat → Nat → Nat
  | 0, p => p
  | n + 1, p => if q (b p) = true then rn q b n (p + 1) else p
theorem rn_rng (q : Int32 → Bool) (b : Nat → Int32) : ∀ n p, p ≤ rn q b n p ∧ rn q b n p ≤ p + n
  | 0, p => ⟨Nat.le_refl _, Nat.le_refl _⟩
  | n + 1, p => by
    have := rn_rng q b n (p + 1)
    show p ≤ (if q (b p) = true then rn q b n (p + 1) else p) ∧ (if q (b p) = true then rn q b n (p + 1) else p) ≤ p + (n + 1)
    split <;> omega
theorem rn_c {q : Int32 → Bool} {b b2 : Nat → Int32} : ∀ {n p}, (∀ i, p ≤ i → i < p + n → b i = b2 i) → rn q b n p = rn q b2 n p
  | 0, p, _ => rfl
  | n + 1, p, e => by
    show (if q (b p) = true then rn q b n (p + 1) else p) = (if q (b2 p) = true then rn q b2 n (p + 1) else p)
    rw [e p (Nat.le_refl p) (by omega), rn_c (fun i h1 h2 => e i (by omega) (by omega))]
theorem rn_in {q : Int32 → Bool} {b : Nat → Int32} : ∀ {n p i}, p ≤ i → i < rn q b n p → q (b i) = true
  | 0, p, i, h1, h2 => by
    have h3 : i < p := h2
    omega
  | n + 1, p, i, h1, h2 => by
    have h3 : i < (if q (b p) = true then rn q b n (p + 1) else p) := h2
    by_cases c : q (b p) = true
    · rw [if_pos c] at h3
      by_cases e : i = p
      · rw [e]; exact c
      · exact rn_in (n := n) (p := p + 1) (by omega) h3
    · rw [if_neg c] at h3
      omega
theorem rn_out {q : Int32 → Bool} {b : Nat → Int32} : ∀ {n p}, rn q b n p = p + n ∨ ¬ q (b (rn q b n p)) = true
  | 0, p => Or.inl rfl
  | n + 1, p => by
    have ih := rn_out (q := q) (b := b) (n := n) (p := p + 1)
    show (if q (b p) = true then rn q b n (p + 1) else p) = p + (n + 1) ∨ ¬ q (b (if q (b p) = true then rn q b n (p + 1) else p)) = true
    by_cases c : q (b p) = true
    · rw [if_pos c]
      rcases ih with ih | ih
      · left; omega
      · exact Or.inr ih
    · rw [if_neg c]
      exact Or.inr c
/-- of the next token: where it begins, where it ends, its kind, what it tells -/
def ts (b : Nat → Int32) (L p : Nat) : Nat := rn blnk b (L - p) p
def te (b : Nat → Int32) (L p : Nat) : Nat := if ts b L p = L then ts b L p else if lett (b (ts b L p)) = true then rn lett b (L - ts b L p) (ts b L p) else if digi (b (ts b L p)) = true then rn digi b (L - ts b L p) (ts b L p) else ts b L p + 1
def tk (b : Nat → Int32) (L p : Nat) : Int32 := if ts b L p = L then 0 else if lett (b (ts b L p)) = true then (if 8 < te b L p - ts b L p then 5 else 1) else if digi (b (ts b L p)) = true then (if 4 < te b L p - ts b L p then 5 else 2) else if b (ts b L p) = 45 then 4 else if b (ts b L p) = 59 then 3 else 5
def dv (b : Nat → Int32) (s : Nat) : Nat → Int32
  | 0 => 0
  | n + 1 => (dv b s n * 10 + b (s + n)) - 48
theorem ts_rng {b : Nat → Int32} {L p : Nat} (hp : p ≤ L) : p ≤ ts b L p ∧ ts b L p ≤ L := by
  have := rn_rng blnk b (L - p) p
  unfold ts
  omega
theorem te_rng {b : Nat → Int32} {L p : Nat} (hp : p ≤ L) : ts b L p ≤ te b L p ∧ te b L p ≤ L := by
  have h1 := ts_rng (b := b) hp
  have h2 := rn_rng lett b (L - ts b L p) (ts b L p)
  have h3 := rn_rng digi b (L - ts b L p) (ts b L p)
  unfold te
  split
  · omega
  · split
    · omega
    · split <;> omega
theorem te_lt {b : Nat → Int32} {L p : Nat} (hp : p ≤ L) (h : ts b L p ≠ L) : ts b L p < te b L p := by
  have h1 := ts_rng (b := b) hp
  have st : ∀ q : Int32 → Bool, q (b (ts b L p)) = true → ts b L p < rn q b (L - ts b L p) (ts b L p) := fun q hq => by
    obtain ⟨m, hm⟩ : ∃ m, L - ts b L p = m + 1 := ⟨L - ts b L p - 1, by omega⟩
    rw [hm]
    show ts b L p < (if q (b (ts b L p)) = true then rn q b m (ts b L p + 1) else ts b L p)
    rw [if_pos hq]
    have := rn_rng q b m (ts b L p + 1)
    omega
  unfold te
  rw [if_neg h]
  split
  · rename_i c; exact st _ c
  · split
    · rename_i c; exact st _ c
    · omega
theorem nle_L {p L : Nat} (hL : L ≤ 900) (hp : p ≤ L) : (nI L ≤ nI p ↔ p = L) ∧ (nI p < nI L ↔ p < L) := by
  rw [nI_leI (by omega) (by omega), nI_ltI (by omega) (by omega)]
  omega
theorem in900 {p L : Nat} (hL : L ≤ 900) (hp : p < L) : vp_in (nI p) 900 := vp_in_nI (by omega) (by decide)
/-- the press: a word -/
theorem tw_loop {h : AH} {P : Option Value → AH → Prop} (w : Wf h) {L s : Nat} (hL : L ≤ 900) (h2L : gI h 2 2 = nI L) (hs : gI h 2 4 = nI s) (hsL : s ≤ L) (kk : ∀ h3, Fr [2] h h3 → gI h3 2 1 = nI (rn lett (gI h 3) (L - s) s) → gI h3 2 3 = (if 8 < rn lett (gI h 3) (L - s) s - s then 5 else 1) → (∀ z, z ≠ 1 → z ≠ 3 → gI h3 2 z = gI h 2 z) → P none h3) : ∀ (m p : Nat) (h2 : AH), p + m = L → s ≤ p → Fr [2] h h2 → gI h2 2 1 = nI p → (∀ z, z ≠ 1 → z ≠ 3 → gI h2 2 z = gI h 2 z) → rn lett (gI h 3) (L - s) s = rn lett (gI h 3) m p → Rr mX9_takeWord 0 0 0 [(0, .ref 2)] [] h2 P := by
  have fin : ∀ (p : Nat) (h2 : AH), s ≤ p → p ≤ L → Fr [2] h h2 → gI h2 2 1 = nI p → (∀ z, z ≠ 1 → z ≠ 3 → gI h2 2 z = gI h 2 z) → rn lett (gI h 3) (L - s) s = p → ∀ z4 : Int32, z4 = (if 8 < (gI h2 2 1 - gI h2 2 4) then 5 else 1) → P none (sI h2 2 3 z4) := fun p h2 h1 h3 F e1 ez er z4 h4 => by
    refine kk _ (F.tr (Fr.sI (by decide))) ?_ ?_ (fun z z1 z3 => (rd_k z3).trans (ez z z1 z3))
    · rw [rd_k (by decide), e1, er]
    · rw [rd_h, h4, e1, ez 4 (by decide) (by decide), hs, er]
      have e : nI p - nI s = nI (p - s) := by
        have := nI_add (p - s) s
        rw [show p - s + s = p by omega] at this
        rw [← this]
        grind
      rw [e, show (8 : Int32) = nI 8 from rfl]
      by_cases c : 8 < p - s
      · rw [if_pos c, if_pos (by rw [nI_ltI (by decide) (by omega)]; exact c)]
      · rw [if_neg c, if_neg (by rw [nI_ltI (by decide) (by omega)]; exact c)]
  intro m
  induction m with
  | zero =>
    intro p h2 hp hsp F e1 ez er
    have w2 := F.wf w
    refine sX9_takeWord_0 h2 2 ⟨w2.o (by decide) rfl, fun _ => fin p h2 hsp (by omega) F e1 ez er, fun q => absurd ?_ q⟩
    rw [e1, ez 2 (by decide) (by decide), h2L]
    exact (nle_L hL (by omega)).1.mpr (by omega)
  | succ m ih =>
    intro p h2 hp hsp F e1 ez er
    have w2 := F.wf w
    refine sX9_takeWord_0 h2 2 ⟨w2.o (by decide) rfl, fun q => absurd q ?_, fun _ => ?_⟩
    · rw [e1, ez 2 (by decide) (by decide), h2L]
      intro z
      have := (nle_L hL (by omega)).1.mp z
      omega
    have st : rn lett (gI h 3) (m + 1) p = if lett (gI h 3 p) = true then rn lett (gI h 3) m (p + 1) else p := rfl
    rw [st] at er
    have fin' := fin p h2 hsp (by omega) F e1 ez
    rw [e1] at fin'
    rw [w2.f2_0, e1, nI_clamp (by omega), F.I (r := 3) (by decide), nI_1]
    refine ⟨w2.a (by decide) rfl, in900 hL (by omega), fun c => ?_, fun c => ?_⟩
    · have lc : ¬ lett (gI h 3 p) = true := by
        unfold lett
        rw [decide_eq_true_eq]
        exact c
      rw [if_neg lc] at er
      exact fin' er
    · have lc : lett (gI h 3 p) = true := by
        unfold lett
        rw [decide_eq_true_eq]
        exact c
      rw [if_pos lc] at er
      exact ih (p + 1) _ (by omega) (by omega) (F.tr (Fr.sI (by decide))) rd_h (fun z z1 z3 => (rd_k z1).trans (ez z z1 z3)) er
/-- the press: a number -/
theorem tn_loop {h : AH} {P : Option Value → AH → Prop} (w : Wf h) {L s : Nat} (hL : L ≤ 900) (h2L : gI h 2 2 = nI L) (hs : gI h 2 4 = nI s) (hsL : s ≤ L) (kk : ∀ h3, Fr [2] h h3 → gI h3 2 1 = nI (rn digi (gI h 3) (L - s) s) → gI h3 2 3 = (if 4 < rn digi (gI h 3) (L - s) s - s then 5 else 2) → gI h3 2 5 = dv (gI h 3) s (rn digi (gI h 3) (L - s) s - s) → (∀ z, z ≠ 1 → z ≠ 3 → z ≠ 5 → gI h3 2 z = gI h 2 z) → P none h3) : ∀ (m p : Nat) (h2 : AH), p + m = L → s ≤ p → Fr [2] h h2 → gI h2 2 1 = nI p → gI h2 2 5 = dv (gI h 3) s (p - s) → (∀ z, z ≠ 1 → z ≠ 3 → z ≠ 5 → gI h2 2 z = gI h 2 z) → rn digi (gI h 3) (L - s) s = rn digi (gI h 3) m p → Rr mX9_takeNumber 0 0 0 [(0, .ref 2)] [] h2 P := by
  have fin : ∀ (p : Nat) (h2 : AH), s ≤ p → p ≤ L → Fr [2] h h2 → gI h2 2 1 = nI p → gI h2 2 5 = dv (gI h 3) s (p - s) → (∀ z, z ≠ 1 → z ≠ 3 → z ≠ 5 → gI h2 2 z = gI h 2 z) → rn digi (gI h 3) (L - s) s = p → ∀ z4 : Int32, z4 = (if 4 < (gI h2 2 1 - gI h2 2 4) then 5 else 2) → P none (sI h2 2 3 z4) := fun p h2 h1 h3 F e1 e5 ez er z4 h4 => by
    refine kk _ (F.tr (Fr.sI (by decide))) ?_ ?_ ?_ (fun z z1 z3 z5 => (rd_k z3).trans (ez z z1 z3 z5))
    · rw [rd_k (by decide), e1, er]
    · rw [rd_h, h4, e1, ez 4 (by decide) (by decide) (by decide), hs, er]
      have e : nI p - nI s = nI (p - s) := by
        have := nI_add (p - s) s
        rw [show p - s + s = p by omega] at this
        rw [← this]
        grind
      rw [e, show (4 : Int32) = nI 4 from rfl]
      by_cases c : 4 < p - s
      · rw [if_pos c, if_pos (by rw [nI_ltI (by decide) (by omega)]; exact c)]
      · rw [if_neg c, if_neg (by rw [nI_ltI (by decide) (by omega)]; exact c)]
    · rw [rd_k (by decide), e5, er]
  intro m
  induction m with
  | zero =>
    intro p h2 hp hsp F e1 e5 ez er
    have w2 := F.wf w
    refine sX9_takeNumber_0 h2 2 ⟨w2.o (by decide) rfl, fun _ => fin p h2 hsp (by omega) F e1 e5 ez er, fun q => absurd ?_ q⟩
    rw [e1, ez 2 (by decide) (by decide) (by decide), h2L]
    exact (nle_L hL (by omega)).1.mpr (by omega)
  | succ m ih =>
    intro p h2 hp hsp F e1 e5 ez er
    have w2 := F.wf w
    refine sX9_takeNumber_0 h2 2 ⟨w2.o (by decide) rfl, fun q => absurd q ?_, fun _ => ?_⟩
    · rw [e1, ez 2 (by decide) (by decide) (by decide), h2L]
      intro z
      have := (nle_L hL (by omega)).1.mp z
      omega
    have st : rn digi (gI h 3) (m + 1) p = if digi (gI h 3 p) = true then rn digi (gI h 3) m (p + 1) else p := rfl
    rw [st] at er
    have fin' := fin p h2 hsp (by omega) F e1 e5 ez
    rw [e1] at fin'
    rw [w2.f2_0, e1, nI_clamp (by omega), F.I (r := 3) (by decide), nI_1]
    refine ⟨w2.a (by decide) rfl, in900 hL (by omega), fun c => ?_, fun c => ?_⟩
    · have lc : ¬ digi (gI h 3 p) = true := by
        unfold digi
        rw [decide_eq_true_eq]
        exact c
      rw [if_neg lc] at er
      exact fin' er
    · have lc : digi (gI h 3 p) = true := by
        unfold digi
        rw [decide_eq_true_eq]
        exact c
      rw [if_pos lc] at er
      refine ih (p + 1) _ (by omega) (by omega) ((F.tr (Fr.sI (by decide))).tr (Fr.sI (by decide))) rd_h ?_ (fun z z1 z3 z5 => (rd_k z1).trans ((rd_k z5).trans (ez z z1 z3 z5))) er
      rw [rd_k (by decide), rd_h, e5, show p + 1 - s = (p - s) + 1 by omega]
      show _ = (dv (gI h 3) s (p - s) * 10 + gI h 3 (s + (p - s))) - 48
      rw [show s + (p - s) = p by omega]
