/-! TISSUE: pure -/
def cst (a l : Nat) : Nat := 1000 * (l - a)
def fw (V : Nat → Nat) (a l : Nat) : Nat := cst a l + l + V l
/-- the first of the least -/
def lt1 (f : Nat → Nat) (lo : Nat) : Nat → Nat
  | 0 => lo
  | m + 1 => if f (lt1 f lo m) ≤ f (lo + m + 1) then lt1 f lo m else lo + m + 1
theorem lt1_s (f : Nat → Nat) (lo : Nat) : ∀ m, lo ≤ lt1 f lo m ∧ lt1 f lo m ≤ lo + m ∧ (∀ x, lo ≤ x → x ≤ lo + m → f (lt1 f lo m) ≤ f x) ∧ (∀ x, lo ≤ x → x < lt1 f lo m → f (lt1 f lo m) < f x)
  | 0 => ⟨Nat.le_refl _, Nat.le_refl _, fun x h1 h2 => by
      have e : x = lo := by omega
      rw [e]
      exact Nat.le_refl _, fun x h1 h2 => by
      have h3 : x < lo := h2
      omega⟩
  | m + 1 => by
    obtain ⟨a1, a2, a3, a4⟩ := lt1_s f lo m
    show lo ≤ (if f (lt1 f lo m) ≤ f (lo + m + 1) then lt1 f lo m else lo + m + 1) ∧ (if f (lt1 f lo m) ≤ f (lo + m + 1) then lt1 f lo m else lo + m + 1) ≤ lo + (m + 1) ∧ (∀ x, lo ≤ x → x ≤ lo + (m + 1) → f (if f (lt1 f lo m) ≤ f (lo + m + 1) then lt1 f lo m else lo + m + 1) ≤ f x) ∧ (∀ x, lo ≤ x → x < (if f (lt1 f lo m) ≤ f (lo + m + 1) then lt1 f lo m else lo + m + 1) → f (if f (lt1 f lo m) ≤ f (lo + m + 1) then lt1 f lo m else lo + m + 1) < f x)
    by_cases c : f (lt1 f lo m) ≤ f (lo + m + 1)
    · rw [if_pos c]
      refine ⟨a1, by omega, fun x h1 h2 => ?_, a4⟩
      by_cases e : x = lo + m + 1
      · rw [e]; exact c
      · exact a3 x h1 (by omega)
    · rw [if_neg c]
      refine ⟨by omega, by omega, fun x h1 h2 => ?_, fun x h1 h2 => ?_⟩
      · by_cases e : x = lo + m + 1
        · rw [e]; exact Nat.le_refl _
        · have := a3 x h1 (by omega)
          omega
      · have := a3 x h1 (by omega)
        omega
/-- the least weight of the last m zones, by the layers ahead of them; z is how many zones there are -/
def Vw (lo hi : Nat → Nat) (n : Nat) : Nat → Nat → Nat
  | 0, _ => 0
  | m + 1, a => fw (Vw lo hi n m) a (lt1 (fw (Vw lo hi n m) a) (lo (n - 1 - m)) (hi (n - 1 - m) - lo (n - 1 - m)))
def bly (lo hi : Nat → Nat) (n m a : Nat) : Nat := lt1 (fw (Vw lo hi n m) a) (lo (n - 1 - m)) (hi (n - 1 - m) - lo (n - 1 - m))
theorem Vw_s (lo hi : Nat → Nat) (n m a : Nat) : Vw lo hi n (m + 1) a = fw (Vw lo hi n m) a (bly lo hi n m a) := rfl
/-- zones whose layers may be lo .. hi -/
def FZ (lo hi : Nat → Nat) (n : Nat) : Prop := ∀ z, z < n → lo z ≤ hi z ∧ hi z ≤ 9
theorem bly_r {lo hi : Nat → Nat} {n m a : Nat} (hz : FZ lo hi n) (hm : m < n) : lo (n - 1 - m) ≤ bly lo hi n m a ∧ bly lo hi n m a ≤ hi (n - 1 - m) := by
  have z := hz (n - 1 - m) (by omega)
  have s := lt1_s (fw (Vw lo hi n m) a) (lo (n - 1 - m)) (hi (n - 1 - m) - lo (n - 1 - m))
  unfold bly
  omega
theorem Vw_le {lo hi : Nat → Nat} {n : Nat} (hz : FZ lo hi n) : ∀ m a, m ≤ n → Vw lo hi n m a ≤ 9009 * m
  | 0, a, _ => Nat.zero_le _
  | m + 1, a, h => by
    have r := bly_r (a := a) hz (show m < n by omega)
    have z := hz (n - 1 - m) (by omega)
    have ih := Vw_le hz m (bly lo hi n m a) (by omega)
    rw [Vw_s]
    unfold fw cst
    omega
/-- the least of the first k, a million at most -/
def lst (v : Nat → Nat) : Nat → Nat
  | 0 => 1000000
  | k + 1 => if lst v k ≤ v k then lst v k else v k
theorem lst_le (v : Nat → Nat) : ∀ k, lst v k ≤ 1000000 ∧ ∀ i, i < k → lst v k ≤ v i
  | 0 => ⟨Nat.le_refl _, fun i hi => absurd hi (Nat.not_lt_zero i)⟩
  | k + 1 => by
    obtain ⟨a, b⟩ := lst_le v k
    show (if lst v k ≤ v k then lst v k else v k) ≤ 1000000 ∧ ∀ i, i < k + 1 → (if lst v k ≤ v k then lst v k else v k) ≤ v i
    by_cases c : lst v k ≤ v k
    · rw [if_pos c]
      refine ⟨a, fun i hi => ?_⟩
      by_cases e : i = k
      · rw [e]; exact c
      · exact b i (by omega)
    · rw [if_neg c]
      refine ⟨by omega, fun i hi => ?_⟩
      by_cases e : i = k
      · rw [e]; exact Nat.le_refl _
      · have := b i (by omega)
        omega
theorem le_lst {v : Nat → Nat} {m : Nat} (h0 : m ≤ 1000000) : ∀ {k}, (∀ i, i < k → m ≤ v i) → m ≤ lst v k
  | 0, _ => h0
  | k + 1, h => by
    have ih := le_lst h0 (k := k) (fun i hi => h i (by omega))
    show m ≤ (if lst v k ≤ v k then lst v k else v k)
    split
    · exact ih
    · exact h k (by omega)
/-- the reference's numbers: of the zone that m zones follow -/
def Gt (may : Nat → Nat → Bool) (n : Nat) : Nat → Nat → Nat
  | 0, l => if may (n - 1) l = true then l else 1000000
  | m + 1, l => if may (n - 1 - (m + 1)) l = true then (if lst (fun q => cst l q + Gt may n m q) 10 < 1000000 then l + lst (fun q => cst l q + Gt may n m q) 10 else 1000000) else 1000000
theorem Gt_hi {may : Nat → Nat → Bool} {n : Nat} : ∀ {m l}, Gt may n m l ≤ 1000000 + l
  | 0, l => by
    unfold Gt
    split <;> omega
  | m + 1, l => by
    unfold Gt
    split
    · split
      · omega
      · omega
    · omega
/-- a zone that can't be: all ahead of it can't -/
theorem Gt_bad {may : Nat → Nat → Bool} {n z : Nat} (hz : z < n) (hb : ∀ l, l < 10 → ¬ may z l = true) : ∀ m, n - 1 - z ≤ m → m < n → ∀ l, l < 10 → Gt may n m l = 1000000 := by
  intro m
  induction m with
  | zero =>
    intro h1 h2 l hl
    have e : n - 1 = z := by omega
    unfold Gt
    rw [e, if_neg (hb l hl)]
  | succ m ih =>
    intro h1 h2 l hl
    unfold Gt
    by_cases e : n - 1 - (m + 1) = z
    · rw [e, if_neg (hb l hl)]
    · have st := ih (by omega) (by omega)
      have lm : ¬ lst (fun q => cst l q + Gt may n m q) 10 < 1000000 := by
        have := le_lst (v := fun q => cst l q + Gt may n m q) (m := 1000000) (Nat.le_refl _) (k := 10) (fun i hi => by
          show 1000000 ≤ cst l i + Gt may n m i
          rw [st i hi]
          omega)
        omega
      rw [if_neg lm]
      split <;> rfl
/-- where all zones can be -/
theorem min_is {lo hi : Nat → Nat} {n m a : Nat} {g : Nat → Nat} (hz : FZ lo hi n) (n20 : n ≤ 20) (hm : m < n) (hg : ∀ l, l < 10 → (lo (n - 1 - m) ≤ l ∧ l ≤ hi (n - 1 - m) → g l = l + Vw lo hi n m l) ∧ (¬ (lo (n - 1 - m) ≤ l ∧ l ≤ hi (n - 1 - m)) → g l = 1000000)) : lst (fun q => cst a q + g q) 10 = Vw lo hi n (m + 1) a := by
  have z := hz (n - 1 - m) (by omega)
  have r := bly_r (a := a) hz hm
  have s := lt1_s (fw (Vw lo hi n m) a) (lo (n - 1 - m)) (hi (n - 1 - m) - lo (n - 1 - m))
  have vl := Vw_le hz (m + 1) a (by omega)
  have vq : ∀ q, q < 10 → lo (n - 1 - m) ≤ q ∧ q ≤ hi (n - 1 - m) → cst a q + g q = fw (Vw lo hi n m) a q := fun q hq hr => by
    rw [(hg q hq).1 hr]
    unfold fw
    omega
  apply Nat.le_antisymm
  · have := (lst_le (fun q => cst a q + g q) 10).2 (bly lo hi n m a) (by omega)
    have e := vq (bly lo hi n m a) (by omega) r
    rw [Vw_s, ← e]
    exact this
  · refine le_lst (by omega) (fun q hq => ?_)
    by_cases c : lo (n - 1 - m) ≤ q ∧ q ≤ hi (n - 1 - m)
    · show _ ≤ cst a q + g q
      rw [vq q hq c, Vw_s]
      exact s.2.2.1 q c.1 (by omega)
    · show _ ≤ cst a q + g q
      rw [(hg q hq).2 c]
      omega
theorem Gt_ok {may : Nat → Nat → Bool} {lo hi : Nat → Nat} {n : Nat} (hz : FZ lo hi n) (n20 : n ≤ 20) (hmay : ∀ z l, z < n → l < 10 → (may z l = true ↔ lo z ≤ l ∧ l ≤ hi z)) : ∀ m, m < n → ∀ l, l < 10 → (lo (n - 1 - m) ≤ l ∧ l ≤ hi (n - 1 - m) → Gt may n m l = l + Vw lo hi n m l) ∧ (¬ (lo (n - 1 - m) ≤ l ∧ l ≤ hi (n - 1 - m)) → Gt may n m l = 1000000) := by
  intro m
  induction m with
  | zero =>
    intro hm l hl
    have q := hmay (n - 1) l (by omega) hl
    rw [Nat.sub_zero]
    refine ⟨fun c => ?_, fun c => ?_⟩
    · unfold Gt
      rw [if_pos (q.mpr c)]
      rfl
    · unfold Gt
      rw [if_neg (fun z => c (q.mp z))]
  | succ m ih =>
    intro hm l hl
    have q := hmay (n - 1 - (m + 1)) l (by omega) hl
    have mi := min_is (a := l) (g := Gt may n m) hz n20 (show m < n by omega) (ih (by omega))
    have vl := Vw_le hz (m + 1) l (by omega)
    refine ⟨fun c => ?_, fun c => ?_⟩
    · unfold Gt
      rw [if_pos (q.mpr c), mi, if_pos (by omega)]
    · unfold Gt
      rw [if_neg (fun z => c (q.mp z))]
