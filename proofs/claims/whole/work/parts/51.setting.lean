def vup (v : Nat → Int32) (s : Int32 × Int32) (n : Nat) : Int32 × Int32 := if s.2 < v n then (nI n, v n) else s
theorem vup_le (v : Nat → Int32) (s : Int32 × Int32) (n : Nat) : s.2 ≤ (vup v s n).2 ∧ v n ≤ (vup v s n).2 := by
  unfold vup
  by_cases c : s.2 < v n
  · rw [if_pos c]
    exact ⟨Int32.le_of_lt c, Int32.le_refl _⟩
  · rw [if_neg c]
    exact ⟨Int32.le_refl _, by grind⟩
theorem vup_no {v : Nat → Int32} {s : Int32 × Int32} {n : Nat} (h : v n ≤ s.2) : vup v s n = s := if_neg (by grind)
theorem vup_mono (v : Nat → Int32) (L : List Nat) : ∀ s : Int32 × Int32, s.2 ≤ (L.foldl (vup v) s).2 := by
  induction L with
  | nil => intro s; exact Int32.le_refl _
  | cons n L ih =>
    intro s
    rw [List.foldl_cons]
    exact Int32.le_trans (vup_le v s n).1 (ih _)
theorem vup_mem (v : Nat → Int32) (L : List Nat) : ∀ s : Int32 × Int32, ∀ n ∈ L, v n ≤ (L.foldl (vup v) s).2 := by
  induction L with
  | nil => intro s n hn; exact absurd hn (List.not_mem_nil)
  | cons m L ih =>
    intro s n hn
    rw [List.foldl_cons]
    rcases List.mem_cons.mp hn with rfl | hn
    · exact Int32.le_trans (vup_le v s n).2 (vup_mono v L _)
    · exact ih _ n hn
/-- what isn't the first of its like may be passed over -/
theorem vup_skip (v : Nat → Int32) (u p : Nat → Bool) (hp : ∀ x, p x = true → u x = true) : ∀ (n i : Nat) (s : Int32 × Int32), (∀ y, y < i → u y = true → v y ≤ s.2) → (∀ x, x < i + n → u x = true → p x = false → ∃ y, y < x ∧ u y = true ∧ v x ≤ v y) →
    ((List.range' i n).filter u).foldl (vup v) s = ((List.range' i n).filter p).foldl (vup v) s
  | 0, i, s, _, _ => rfl
  | n + 1, i, s, h1, h2 => by
    have hr : List.range' i (n + 1) = i :: List.range' (i + 1) n := rfl
    rw [hr]
    have nx := fun s2 h3 => vup_skip v u p hp n (i + 1) s2 h3 (fun x hx => h2 x (by omega))
    cases hu : u i with
    | false =>
      have hpi : p i = false := by
        cases q : p i with
        | false => rfl
        | true => rw [hp i q] at hu; exact absurd hu (by decide)
      rw [List.filter_cons_of_neg (by rw [hu]; decide), List.filter_cons_of_neg (by rw [hpi]; decide)]
      exact nx s (fun y hy hyu => by
        rcases Nat.lt_or_ge y i with q | q
        · exact h1 y q hyu
        · have e : y = i := by omega
          rw [e, hu] at hyu
          exact absurd hyu (by decide))
    | true =>
      rw [List.filter_cons_of_pos hu]
      cases hpi : p i with
      | true =>
        rw [List.filter_cons_of_pos hpi, List.foldl_cons, List.foldl_cons]
        exact nx _ (fun y hy hyu => by
          rcases Nat.lt_or_ge y i with q | q
          · exact Int32.le_trans (h1 y q hyu) (vup_le v s i).1
          · have e : y = i := by omega
            rw [e]
            exact (vup_le v s i).2)
      | false =>
        obtain ⟨y, hy, hyu, hv⟩ := h2 i (by omega) hu hpi
        have hle : v i ≤ s.2 := Int32.le_trans hv (h1 y hy hyu)
        rw [List.filter_cons_of_neg (by rw [hpi]; decide), List.foldl_cons, vup_no hle]
        exact nx s (fun y hy hyu => by
          rcases Nat.lt_or_ge y i with q | q
          · exact h1 y q hyu
          · have e : y = i := by omega
            rw [e]
            exact hle)
def cd4 (n a b c d : Nat) : Nat := ((a * n + b) * n + c) * n + d
def dg0 (n x : Nat) : Nat := x / n / n / n % n
def dg1 (n x : Nat) : Nat := x / n / n % n
def dg2 (n x : Nat) : Nat := x / n % n
def dg3 (n x : Nat) : Nat := x % n
def m6 (B : Nat → Nat → Int32) (a b c d : Nat) : Int32 := imin (imin (B a b) (imin (B a c) (B a d))) (imin (B b c) (imin (B b d) (B c d)))
def v6 (B : Nat → Nat → Int32) (n x : Nat) : Int32 := m6 B (dg0 n x) (dg1 n x) (dg2 n x) (dg3 n x)
def unl (n x : Nat) : Bool := decide (dg0 n x ≠ dg1 n x ∧ dg0 n x ≠ dg2 n x ∧ dg0 n x ≠ dg3 n x ∧ dg1 n x ≠ dg2 n x ∧ dg1 n x ≠ dg3 n x ∧ dg2 n x ≠ dg3 n x)
def ris (n x : Nat) : Bool := decide (dg0 n x < dg1 n x ∧ dg1 n x < dg2 n x ∧ dg2 n x < dg3 n x)
theorem qdiv {n x d : Nat} (hd : d < n) : (x * n + d) / n = x ∧ (x * n + d) % n = d := by
  have hn : 0 < n := by omega
  constructor
  · rw [Nat.add_comm, Nat.add_mul_div_right _ _ hn, Nat.div_eq_of_lt hd, Nat.zero_add]
  · rw [Nat.add_comm, Nat.add_mul_mod_self_right, Nat.mod_eq_of_lt hd]
theorem cd_dg {n a b c d : Nat} (ha : a < n) (hb : b < n) (hc : c < n) (hd : d < n) : dg0 n (cd4 n a b c d) = a ∧ dg1 n (cd4 n a b c d) = b ∧ dg2 n (cd4 n a b c d) = c ∧ dg3 n (cd4 n a b c d) = d := by
  unfold dg0 dg1 dg2 dg3 cd4
  rw [(qdiv hd).1, (qdiv hd).2, (qdiv hc).1, (qdiv hc).2, (qdiv hb).1, (qdiv hb).2, Nat.mod_eq_of_lt ha]
  exact ⟨rfl, rfl, rfl, rfl⟩
theorem cd_of {n x : Nat} (hn : 0 < n) (hx : x < n * n * n * n) : x = cd4 n (dg0 n x) (dg1 n x) (dg2 n x) (dg3 n x) := by
  unfold cd4 dg0 dg1 dg2 dg3
  have h0 : x / n / n / n < n := by
    have e : n * n * n * n = n * (n * (n * n)) := by rw [Nat.mul_assoc, Nat.mul_assoc]
    rw [Nat.div_div_eq_div_mul, Nat.div_div_eq_div_mul, Nat.div_lt_iff_lt_mul (Nat.mul_pos hn (Nat.mul_pos hn hn)), ← e]
    exact hx
  rw [Nat.mod_eq_of_lt h0]
  have e := fun y : Nat => Nat.div_add_mod' y n
  rw [e, e, e]
theorem cd_lt {n a b c d a' b' c' d' : Nat} (hd : d < n) (hc : c < n) (hb : b < n) (h : a < a' ∨ (a = a' ∧ (b < b' ∨ (b = b' ∧ (c < c' ∨ (c = c' ∧ d < d')))))) : cd4 n a b c d < cd4 n a' b' c' d' := by
  have st : ∀ {x y u v : Nat}, u < n → x < y → x * n + u < y * n + v := fun {x y u v} hu hxy => by
    have h1 : (x + 1) * n ≤ y * n := Nat.mul_le_mul_right n hxy
    rw [Nat.add_mul, Nat.one_mul] at h1
    omega
  unfold cd4
  rcases h with h | ⟨rfl, h | ⟨rfl, h | ⟨rfl, h⟩⟩⟩
  · exact st hd (st hc (st hb h))
  · exact st hd (st hc (by omega))
  · exact st hd (by omega)
  · omega
theorem cd_hi {n a b c d : Nat} (ha : a < n) (hb : b < n) (hc : c < n) (hd : d < n) : cd4 n a b c d < n * n * n * n := by
  have st : ∀ {x u N : Nat}, u < n → x < N → x * n + u < N * n := fun {x u N} hu hx => by
    have h1 : (x + 1) * n ≤ N * n := Nat.mul_le_mul_right n hx
    rw [Nat.add_mul, Nat.one_mul] at h1
    omega
  exact st hd (st hc (st hb ha))
theorem m6_t (B : Nat → Nat → Int32) (a b c d : Nat) : (m6 B a b c d).toInt = min (min (B a b).toInt (min (B a c).toInt (B a d).toInt)) (min (B b c).toInt (min (B b d).toInt (B c d).toInt)) := by
  unfold m6
  simp only [imin_t]
theorem m6_s1 {B : Nat → Nat → Int32} (hB : ∀ k l, B k l = B l k) (a b c d : Nat) : m6 B b a c d = m6 B a b c d := by
  rw [ti_eq, m6_t, m6_t, hB b a]
  omega
theorem m6_s2 {B : Nat → Nat → Int32} (hB : ∀ k l, B k l = B l k) (a b c d : Nat) : m6 B a c b d = m6 B a b c d := by
  rw [ti_eq, m6_t, m6_t, hB c b]
  omega
theorem m6_s3 {B : Nat → Nat → Int32} (hB : ∀ k l, B k l = B l k) (a b c d : Nat) : m6 B a b d c = m6 B a b c d := by
  rw [ti_eq, m6_t, m6_t, hB d c]
  omega
theorem v6_skip {B : Nat → Nat → Int32} (hB : ∀ k l, B k l = B l k) {n : Nat} (hn : 0 < n) (s : Int32 × Int32) : ((List.range' 0 (n * n * n * n)).filter (unl n)).foldl (vup (v6 B n)) s = ((List.range' 0 (n * n * n * n)).filter (ris n)).foldl (vup (v6 B n)) s := by
  refine vup_skip _ _ _ (fun x hx => ?_) _ _ _ (fun y hy => absurd hy (Nat.not_lt_zero y)) (fun x hx hu hr => ?_)
  · unfold ris at hx
    unfold unl
    rw [decide_eq_true_eq] at hx ⊢
    omega
  · rw [Nat.zero_add] at hx
    have l0 : dg0 n x < n := Nat.mod_lt _ hn
    have l1 : dg1 n x < n := Nat.mod_lt _ hn
    have l2 : dg2 n x < n := Nat.mod_lt _ hn
    have l3 : dg3 n x < n := Nat.mod_lt _ hn
    have ex := cd_of hn hx
    unfold unl at hu
    unfold ris at hr
    rw [decide_eq_true_eq] at hu
    rw [decide_eq_false_iff_not] at hr
    have fin : ∀ a b c d : Nat, a < n → b < n → c < n → d < n → (a ≠ b ∧ a ≠ c ∧ a ≠ d ∧ b ≠ c ∧ b ≠ d ∧ c ≠ d) → cd4 n a b c d < cd4 n (dg0 n x) (dg1 n x) (dg2 n x) (dg3 n x) → m6 B a b c d = v6 B n x → ∃ y, y < x ∧ unl n y = true ∧ v6 B n x ≤ v6 B n y := fun a b c d ha hb hc hd hne hlt hv => by
      obtain ⟨e0, e1, e2, e3⟩ := cd_dg ha hb hc hd
      refine ⟨cd4 n a b c d, Nat.lt_of_lt_of_eq hlt ex.symm, ?_, ?_⟩
      · unfold unl
        rw [decide_eq_true_eq, e0, e1, e2, e3]
        exact hne
      · rw [← hv]
        unfold v6
        rw [e0, e1, e2, e3]
        exact Int32.le_refl _
    by_cases c1 : dg1 n x < dg0 n x
    · exact fin (dg1 n x) (dg0 n x) (dg2 n x) (dg3 n x) l1 l0 l2 l3 (by omega) (cd_lt l3 l2 l0 (Or.inl c1)) (m6_s1 hB _ _ _ _)
    by_cases c2 : dg2 n x < dg1 n x
    · exact fin (dg0 n x) (dg2 n x) (dg1 n x) (dg3 n x) l0 l2 l1 l3 (by omega) (cd_lt l3 l1 l2 (Or.inr ⟨rfl, Or.inl c2⟩)) (m6_s2 hB _ _ _ _)
    · exact fin (dg0 n x) (dg1 n x) (dg3 n x) (dg2 n x) l0 l1 l3 l2 (by omega) (cd_lt l2 l3 l1 (Or.inr ⟨rfl, Or.inr ⟨rfl, Or.inl (by omega)⟩⟩)) (m6_s3 hB _ _ _ _)
def q4 (n a b c : Nat) : List Nat := (List.range' (c + 1) (n - (c + 1))).map (cd4 n a b c)
def q3 (n a b : Nat) : List Nat := (List.range' (b + 1) (n - (b + 1))).flatMap (q4 n a b)
def q2 (n a : Nat) : List Nat := (List.range' (a + 1) (n - (a + 1))).flatMap (q3 n a)
def q1 (n : Nat) : List Nat := (List.range' 0 n).flatMap (q2 n)
theorem q1_eq4 : q1 4 = (List.range' 0 (4 * 4 * 4 * 4)).filter (ris 4) := by decide +kernel
theorem q1_eq5 : q1 5 = (List.range' 0 (5 * 5 * 5 * 5)).filter (ris 5) := by decide +kernel
theorem q1_eq6 : q1 6 = (List.range' 0 (6 * 6 * 6 * 6)).filter (ris 6) := by decide +kernel
theorem q1_eq7 : q1 7 = (List.range' 0 (7 * 7 * 7 * 7)).filter (ris 7) := by decide +kernel
theorem q1_eq8 : q1 8 = (List.range' 0 (8 * 8 * 8 * 8)).filter (ris 8) := by decide +kernel
theorem q1_eq {n : Nat} (h1 : 4 ≤ n) (h2 : n ≤ 8) : q1 n = (List.range' 0 (n * n * n * n)).filter (ris n) := by
  rcases (show n = 4 ∨ n = 5 ∨ n = 6 ∨ n = 7 ∨ n = 8 by omega) with rfl | rfl | rfl | rfl | rfl
  · exact q1_eq4
  · exact q1_eq5
  · exact q1_eq6
  · exact q1_eq7
  · exact q1_eq8
def bB (P Q : Nat → Int32) (k l : Nat) : Int32 := b4 (P k) (Q k) (P l) (Q l)
theorem imin_c (a b : Int32) : imin a b = imin b a := by
  rw [ti_eq, imin_t, imin_t]
  omega
theorem b4_c (p q P Q : Int32) : b4 p q P Q = b4 P Q p q := by
  have e1 : sq2 (p - P) (q - Q) = sq2 (P - p) (Q - q) := by unfold sq2; grind
  have e2 : sq2 (p - -P) (q - -Q) = sq2 (P - -p) (Q - -q) := by unfold sq2; grind
  have e3 : sq2 (p - -Q) (q - P) = sq2 (P - q) (Q - -p) := by unfold sq2; grind
  have e4 : sq2 (p - Q) (q - -P) = sq2 (P - -q) (Q - p) := by unfold sq2; grind
  unfold b4
  rw [e1, e2, e3, e4, imin_c (sq2 (P - q) (Q - -p))]
theorem bB_c (P Q : Nat → Int32) (k l : Nat) : bB P Q k l = bB P Q l k := b4_c _ _ _ _
theorem sq_121 : ∀ k : Fin 121, 0 ≤ (nI k - 60) * (nI k - 60) ∧ (nI k - 60) * (nI k - 60) ≤ 3600 := by decide +kernel
theorem sq_rng {x : Int32} (h1 : -60 ≤ x) (h2 : x ≤ 60) : 0 ≤ x * x ∧ x * x ≤ 3600 := by
  have h3 : 0 ≤ x + 60 := by grind
  have h4 : x + 60 ≤ 120 := by grind
  have e := cl_nI h3
  have hk : (x + 60).toNatClampNeg < 121 := by
    rw [ti_le] at h3 h4
    have e0 : (0 : Int32).toInt = 0 := rfl
    have e1 : (120 : Int32).toInt = 120 := rfl
    show (x + 60).toInt.toNat < 121
    omega
  have := sq_121 ⟨(x + 60).toNatClampNeg, hk⟩
  simp only [e] at this
  have e2 : x + 60 - 60 = x := by grind
  rw [e2] at this
  exact this
theorem b4_rng {p q P Q : Int32} (h1 : inr p 1 30) (h2 : inr q 1 30) (h3 : inr P 1 30) (h4 : inr Q 1 30) : 0 ≤ b4 p q P Q ∧ b4 p q P Q ≤ 7200 := by
  unfold inr at h1 h2 h3 h4
  have s : ∀ a b : Int32, -60 ≤ a → a ≤ 60 → -60 ≤ b → b ≤ 60 → 0 ≤ sq2 a b ∧ sq2 a b ≤ 7200 := fun a b ha ha2 hb hb2 => by
    have q1 := sq_rng ha ha2
    have q2 := sq_rng hb hb2
    unfold sq2
    generalize a * a = A at q1 ⊢
    generalize b * b = B at q2 ⊢
    grind
  have s1 := s (p - P) (q - Q) (by grind) (by grind) (by grind) (by grind)
  have s2 := s (p - -P) (q - -Q) (by grind) (by grind) (by grind) (by grind)
  have s3 := s (p - -Q) (q - P) (by grind) (by grind) (by grind) (by grind)
  have s4 := s (p - Q) (q - -P) (by grind) (by grind) (by grind) (by grind)
  unfold b4
  rw [imin_le, imin_le, imin_le]
  clear s h1 h2 h3 h4
  generalize sq2 (p - P) (q - Q) = A at s1 ⊢
  generalize sq2 (p - -P) (q - -Q) = B at s2 ⊢
  generalize sq2 (p - -Q) (q - P) = C at s3 ⊢
  generalize sq2 (p - Q) (q - -P) = D at s4 ⊢
  grind
