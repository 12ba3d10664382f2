/-! SLIPS THAT FIT -/
abbrev T4 : Type := Int32 × Int32 × Int32 × Int32
def tA (r s : Int32) (q : Qd) : Int32 := ((s * q.1) - (r * q.2.1)) / 100
def tU (r s : Int32) (q : Qd) : Int32 := ((r * q.1) + (s * q.2.1)) / 100
def QG (q : Qd) : Prop := inr q.1 0 200 ∧ inr q.2.1 0 200 ∧ inr q.2.2.1 (-99) 99 ∧ inr q.2.2.2 (-99) 99
theorem div_rng {z : Int} (h1 : -3600 ≤ z) (h2 : z ≤ 3600) : -36 ≤ iI z / 100 ∧ iI z / 100 ≤ 36 := by
  have e : (100 : Int32) = iI 100 := rfl
  rw [e, iI_div (by omega) (by omega) (by omega) (by omega)]
  have n : (z.tdiv 100).natAbs = z.natAbs / 100 := Int.natAbs_tdiv z 100
  have b : -36 ≤ z.tdiv 100 ∧ z.tdiv 100 ≤ 36 := by omega
  have e1 : (-36 : Int32) = iI (-36) := rfl
  have e2 : (36 : Int32) = iI 36 := rfl
  rw [e1, e2, iI_le (by omega) (by omega) (by omega) (by omega), iI_le (by omega) (by omega) (by omega) (by omega)]
  exact b
theorem mul_rng {a b m : Int} (h1 : -9 ≤ a) (h2 : a ≤ 9) (h3 : 0 ≤ b) (h4 : b ≤ 200) : -1800 ≤ a * b ∧ a * b ≤ 1800 := by
  have h5 : a * b ≤ 9 * b := Int.mul_le_mul_of_nonneg_right h2 h3
  have h6 : -9 * b ≤ a * b := Int.mul_le_mul_of_nonneg_right h1 h3
  omega
theorem t_rng {r s : Int32} {q : Qd} (hr : inr r (-9) 9) (hs : inr s 0 9) (hq : QG q) : (-36 ≤ tA r s q ∧ tA r s q ≤ 36) ∧ (-36 ≤ tU r s q ∧ tU r s q ≤ 36) := by
  obtain ⟨⟨x1, x2⟩, ⟨y1, y2⟩, -, -⟩ := hq
  obtain ⟨r1, r2⟩ := hr
  obtain ⟨s1, s2⟩ := hs
  rw [ti_le] at x1 x2 y1 y2 r1 r2 s1 s2
  have z0 : (0 : Int32).toInt = 0 := rfl
  have z9 : (9 : Int32).toInt = 9 := rfl
  have zm : (-9 : Int32).toInt = -9 := rfl
  have z2 : (200 : Int32).toInt = 200 := rfl
  rw [z0] at x1 y1 s1
  rw [z2] at x2 y2
  rw [z9] at r2 s2
  rw [zm] at r1
  have a1 := mul_rng (m := 0) (a := s.toInt) (b := q.1.toInt) (by omega) (by omega) x1 x2
  have a2 := mul_rng (m := 0) (a := r.toInt) (b := q.2.1.toInt) (by omega) (by omega) y1 y2
  have a3 := mul_rng (m := 0) (a := r.toInt) (b := q.1.toInt) (by omega) (by omega) x1 x2
  have a4 := mul_rng (m := 0) (a := s.toInt) (b := q.2.1.toInt) (by omega) (by omega) y1 y2
  unfold tA tU
  rw [iI_of r, iI_of s, iI_of q.1, iI_of q.2.1, iI_mul, iI_mul, iI_mul, iI_mul, iI_sub, iI_add]
  exact ⟨div_rng (by omega) (by omega), div_rng (by omega) (by omega)⟩
def bs1 (r s sl : Int32) (t : T4) (q : Qd) : T4 := (imax t.1 ((q.2.2.1 - tA r s q) - sl), imin t.2.1 ((q.2.2.1 - tA r s q) + sl), imax t.2.2.1 ((q.2.2.2 - tU r s q) - sl), imin t.2.2.2 ((q.2.2.2 - tU r s q) + sl))
def bsh (r s sl : Int32) (L : List Qd) : T4 := L.foldl (bs1 r s sl) (-9, 9, -9, 9)
def okA (r s sl a : Int32) (q : Qd) : Prop := (if 0 ≤ ((a + tA r s q) - q.2.2.1) then ((a + tA r s q) - q.2.2.1) else (-((a + tA r s q) - q.2.2.1))) ≤ sl
def okU (r s sl b : Int32) (q : Qd) : Prop := (if 0 ≤ ((b + tU r s q) - q.2.2.2) then ((b + tU r s q) - q.2.2.2) else (-((b + tU r s q) - q.2.2.2))) ≤ sl
theorem ok_ar {a t v sl : Int32} (h1 : inr a (-9) 9) (h2 : -36 ≤ t ∧ t ≤ 36) (h3 : inr v (-99) 99) (h4 : inr sl 0 9) : ((if 0 ≤ ((a + t) - v) then ((a + t) - v) else (-((a + t) - v))) ≤ sl) ↔ (((v - t) - sl) ≤ a ∧ a ≤ ((v - t) + sl)) := by
  obtain ⟨a1, a2⟩ := h1
  obtain ⟨t1, t2⟩ := h2
  obtain ⟨v1, v2⟩ := h3
  obtain ⟨s1, s2⟩ := h4
  rw [ti_le] at a1 a2 t1 t2 v1 v2 s1 s2
  have z0 : (0 : Int32).toInt = 0 := rfl
  have z9 : (9 : Int32).toInt = 9 := rfl
  have z9m : (-9 : Int32).toInt = -9 := rfl
  have z36 : (36 : Int32).toInt = 36 := rfl
  have z36m : (-36 : Int32).toInt = -36 := rfl
  have z99 : (99 : Int32).toInt = 99 := rfl
  have z99m : (-99 : Int32).toInt = -99 := rfl
  rw [z9m] at a1
  rw [z9] at a2 s2
  rw [z36m] at t1
  rw [z36] at t2
  rw [z99m] at v1
  rw [z99] at v2
  rw [z0] at s1
  have e1 : (a + t).toInt = a.toInt + t.toInt := ti_add (by omega) (by omega)
  have e2 : (a + t - v).toInt = a.toInt + t.toInt - v.toInt := by rw [ti_sub (by omega) (by omega), e1]
  have e3 : (-(a + t - v)).toInt = -(a.toInt + t.toInt - v.toInt) := by rw [ti_neg (by omega), e2]
  have e4 : (v - t).toInt = v.toInt - t.toInt := ti_sub (by omega) (by omega)
  have e5 : (v - t - sl).toInt = v.toInt - t.toInt - sl.toInt := by rw [ti_sub (by omega) (by omega), e4]
  have e6 : (v - t + sl).toInt = v.toInt - t.toInt + sl.toInt := by rw [ti_add (by omega) (by omega), e4]
  by_cases c : 0 ≤ (a + t) - v
  · rw [if_pos c]
    rw [ti_le, z0, e2] at c
    rw [ti_le, ti_le, ti_le, e2, e5, e6]
    omega
  · rw [if_neg c]
    rw [ti_le, z0, e2] at c
    rw [ti_le, ti_le, ti_le, e3, e5, e6]
    omega
theorem imax_iff (a b c : Int32) : imax a b ≤ c ↔ a ≤ c ∧ b ≤ c := by
  unfold imax
  split <;> grind
theorem imin_iff (a b c : Int32) : c ≤ imin a b ↔ c ≤ a ∧ c ≤ b := by
  unfold imin
  split <;> grind
/-- within the bounds -/
def inT (t : T4) (a b : Int32) : Prop := (t.1 ≤ a ∧ a ≤ t.2.1) ∧ (t.2.2.1 ≤ b ∧ b ≤ t.2.2.2)
theorem fold_in {r s sl a b : Int32} (hr : inr r (-9) 9) (hs : inr s 0 9) (hsl : inr sl 0 9) (ha : inr a (-9) 9) (hb : inr b (-9) 9) : ∀ (L : List Qd) (t : T4), (∀ q ∈ L, QG q) → (inT (L.foldl (bs1 r s sl) t) a b ↔ inT t a b ∧ ∀ q ∈ L, okA r s sl a q ∧ okU r s sl b q)
  | [], t, _ => ⟨fun h => ⟨h, fun q hq => absurd hq (List.not_mem_nil)⟩, fun h => h.1⟩
  | q :: L, t, hL => by
    rw [List.foldl_cons, fold_in hr hs hsl ha hb L (bs1 r s sl t q) (fun p hp => hL p (List.mem_cons_of_mem _ hp))]
    have hq := hL q (List.mem_cons_self ..)
    obtain ⟨t1, t2⟩ := t_rng hr hs hq
    have i1 := ok_ar ha t1 hq.2.2.1 hsl
    have i2 := ok_ar hb t2 hq.2.2.2 hsl
    have st : inT (bs1 r s sl t q) a b ↔ inT t a b ∧ (okA r s sl a q ∧ okU r s sl b q) := by
      unfold okA okU
      rw [i1, i2]
      show (imax t.1 _ ≤ a ∧ a ≤ imin t.2.1 _) ∧ (imax t.2.2.1 _ ≤ b ∧ b ≤ imin t.2.2.2 _) ↔ ((t.1 ≤ a ∧ a ≤ t.2.1) ∧ (t.2.2.1 ≤ b ∧ b ≤ t.2.2.2)) ∧ _
      rw [imax_iff, imin_iff, imax_iff, imin_iff]
      constructor
      · rintro ⟨⟨⟨a1, a2⟩, a3, a4⟩, ⟨a5, a6⟩, a7, a8⟩
        exact ⟨⟨⟨a1, a3⟩, a5, a7⟩, ⟨a2, a4⟩, a6, a8⟩
      · rintro ⟨⟨⟨a1, a3⟩, a5, a7⟩, ⟨a2, a4⟩, a6, a8⟩
        exact ⟨⟨⟨a1, a2⟩, a3, a4⟩, ⟨a5, a6⟩, a7, a8⟩
    rw [st]
    constructor
    · rintro ⟨⟨a1, a2⟩, a3⟩
      refine ⟨a1, fun p hp => ?_⟩
      rcases List.mem_cons.mp hp with rfl | hp
      · exact a2
      · exact a3 p hp
    · rintro ⟨a1, a3⟩
      exact ⟨⟨a1, a3 q (List.mem_cons_self ..)⟩, fun p hp => a3 p (List.mem_cons_of_mem _ hp)⟩
theorem bsh_in {r s sl a b : Int32} (hr : inr r (-9) 9) (hs : inr s 0 9) (hsl : inr sl 0 9) (ha : inr a (-9) 9) (hb : inr b (-9) 9) {L : List Qd} (hL : ∀ q ∈ L, QG q) : inT (bsh r s sl L) a b ↔ ∀ q ∈ L, okA r s sl a q ∧ okU r s sl b q := by
  unfold bsh
  rw [fold_in hr hs hsl ha hb L _ hL]
  constructor
  · exact fun h => h.2
  · exact fun h => ⟨⟨ha, hb⟩, h⟩
/-- bounds that are within -9 .. 9 on their own side -/
def okT (t : T4) : Prop := -9 ≤ t.1 ∧ t.2.1 ≤ 9 ∧ -9 ≤ t.2.2.1 ∧ t.2.2.2 ≤ 9
theorem bsh_ok (r s sl : Int32) (L : List Qd) : okT (bsh r s sl L) := by
  have st : ∀ (L : List Qd) (t : T4), okT t → okT (L.foldl (bs1 r s sl) t) := by
    intro L
    induction L with
    | nil => intro t h; exact h
    | cons q L ih =>
      intro t h
      rw [List.foldl_cons]
      refine ih _ ?_
      obtain ⟨h1, h2, h3, h4⟩ := h
      have m1 := (imax_iff t.1 ((q.2.2.1 - tA r s q) - sl) _).mp (Int32.le_refl _)
      have m2 := (imin_iff t.2.1 ((q.2.2.1 - tA r s q) + sl) _).mp (Int32.le_refl _)
      have m3 := (imax_iff t.2.2.1 ((q.2.2.2 - tU r s q) - sl) _).mp (Int32.le_refl _)
      have m4 := (imin_iff t.2.2.2 ((q.2.2.2 - tU r s q) + sl) _).mp (Int32.le_refl _)
      exact ⟨Int32.le_trans h1 m1.1, Int32.le_trans m2.1 h2, Int32.le_trans h3 m3.1, Int32.le_trans m4.1 h4⟩
  exact st L _ ⟨by decide, by decide, by decide, by decide⟩
/-! what is known of a set of slips: the least and the greatest of each number -/
def co (c u v i k : Nat) : Int32 := if c = 0 then nI u - 9 else if c = 1 then nI v - 9 else if c = 2 then nI i - 9 else nI k
def Ac (D : Nat → Nat → Nat → Nat → Prop) (lo hi : Nat → Int32) : Prop := ∀ c, c < 4 → (∀ u v i k, D u v i k → lo c ≤ co c u v i k ∧ co c u v i k ≤ hi c) ∧ (∃ u v i k, D u v i k ∧ co c u v i k = lo c) ∧ (∃ u v i k, D u v i k ∧ co c u v i k = hi c)
theorem Ac.uniq {D D2 : Nat → Nat → Nat → Nat → Prop} {lo hi lo2 hi2 : Nat → Int32} (a : Ac D lo hi) (b : Ac D2 lo2 hi2) (e : ∀ u v i k, D u v i k ↔ D2 u v i k) {c : Nat} (hc : c < 4) : lo c = lo2 c ∧ hi c = hi2 c := by
  obtain ⟨a1, ⟨u1, v1, i1, k1, d1, e1⟩, ⟨u2, v2, i2, k2, d2, e2⟩⟩ := a c hc
  obtain ⟨b1, ⟨u3, v3, i3, k3, d3, e3⟩, ⟨u4, v4, i4, k4, d4, e4⟩⟩ := b c hc
  have f1 := (b1 _ _ _ _ ((e _ _ _ _).mp d1)).1
  have f2 := (b1 _ _ _ _ ((e _ _ _ _).mp d2)).2
  have f3 := (a1 _ _ _ _ ((e _ _ _ _).mpr d3)).1
  have f4 := (a1 _ _ _ _ ((e _ _ _ _).mpr d4)).2
  rw [e1] at f1
  rw [e2] at f2
  rw [e3] at f3
  rw [e4] at f4
  exact ⟨Int32.le_antisymm f3 f1, Int32.le_antisymm f2 f4⟩
theorem imin_e (a b : Int32) : imin a b = a ∨ imin a b = b := by unfold imin; split; exact Or.inr rfl; exact Or.inl rfl
theorem imax_e (a b : Int32) : imax a b = a ∨ imax a b = b := by unfold imax; split; exact Or.inr rfl; exact Or.inl rfl
theorem Ac.or {D E D2 : Nat → Nat → Nat → Nat → Prop} {lo hi lo2 hi2 lo3 hi3 : Nat → Int32} (a : Ac D lo hi) (b : Ac E lo2 hi2) (e : ∀ u v i k, D2 u v i k ↔ D u v i k ∨ E u v i k) (e1 : ∀ c, c < 4 → lo3 c = imin (lo c) (lo2 c)) (e2 : ∀ c, c < 4 → hi3 c = imax (hi c) (hi2 c)) : Ac D2 lo3 hi3 := by
  intro c hc
  obtain ⟨a1, ⟨u1, v1, i1, k1, d1, q1⟩, ⟨u2, v2, i2, k2, d2, q2⟩⟩ := a c hc
  obtain ⟨b1, ⟨u3, v3, i3, k3, d3, q3⟩, ⟨u4, v4, i4, k4, d4, q4⟩⟩ := b c hc
  have m1 := (imin_iff (lo c) (lo2 c) _).mp (Int32.le_refl _)
  have m2 := (imax_iff (hi c) (hi2 c) _).mp (Int32.le_refl _)
  rw [e1 c hc, e2 c hc]
  refine ⟨fun u v i k d => ?_, ?_, ?_⟩
  · rcases (e _ _ _ _).mp d with d | d
    · exact ⟨Int32.le_trans m1.1 (a1 _ _ _ _ d).1, Int32.le_trans (a1 _ _ _ _ d).2 m2.1⟩
    · exact ⟨Int32.le_trans m1.2 (b1 _ _ _ _ d).1, Int32.le_trans (b1 _ _ _ _ d).2 m2.2⟩
  · rcases imin_e (lo c) (lo2 c) with z | z
    · exact ⟨u1, v1, i1, k1, (e _ _ _ _).mpr (Or.inl d1), by rw [z]; exact q1⟩
    · exact ⟨u3, v3, i3, k3, (e _ _ _ _).mpr (Or.inr d3), by rw [z]; exact q3⟩
  · rcases imax_e (hi c) (hi2 c) with z | z
    · exact ⟨u2, v2, i2, k2, (e _ _ _ _).mpr (Or.inl d2), by rw [z]; exact q2⟩
    · exact ⟨u4, v4, i4, k4, (e _ _ _ _).mpr (Or.inr d4), by rw [z]; exact q4⟩
theorem Ac.eq {E D2 : Nat → Nat → Nat → Nat → Prop} {lo2 hi2 lo3 hi3 : Nat → Int32} (b : Ac E lo2 hi2) (e : ∀ u v i k, D2 u v i k ↔ E u v i k) (e1 : ∀ c, c < 4 → lo3 c = lo2 c) (e2 : ∀ c, c < 4 → hi3 c = hi2 c) : Ac D2 lo3 hi3 := by
  intro c hc
  obtain ⟨b1, ⟨u3, v3, i3, k3, d3, q3⟩, ⟨u4, v4, i4, k4, d4, q4⟩⟩ := b c hc
  rw [e1 c hc, e2 c hc]
  exact ⟨fun u v i k d => b1 _ _ _ _ ((e _ _ _ _).mp d), ⟨u3, v3, i3, k3, (e _ _ _ _).mpr d3, q3⟩, ⟨u4, v4, i4, k4, (e _ _ _ _).mpr d4, q4⟩⟩
/-- so many, and what is known of them if there is one -/
def Kn (D : Nat → Nat → Nat → Nat → Prop) (n : Nat) (lo hi : Nat → Int32) : Prop := (n = 0 ∧ ∀ u v i k, ¬ D u v i k) ∨ (0 < n ∧ Ac D lo hi)
theorem Kn.add {D E D2 : Nat → Nat → Nat → Nat → Prop} {n m : Nat} {lo hi lo2 hi2 lo3 hi3 : Nat → Int32} (a : Kn D n lo hi) (b : Ac E lo2 hi2) (hm : 0 < m) (n31 : n < 2 ^ 31) (e : ∀ u v i k, D2 u v i k ↔ D u v i k ∨ E u v i k) (e1 : ∀ c, c < 4 → lo3 c = if nI n = 0 then lo2 c else imin (lo c) (lo2 c)) (e2 : ∀ c, c < 4 → hi3 c = if nI n = 0 then hi2 c else imax (hi c) (hi2 c)) : Kn D2 (n + m) lo3 hi3 := by
  refine Or.inr ⟨by omega, ?_⟩
  rcases a with ⟨a1, a2⟩ | ⟨a1, a2⟩
  · have z : nI n = 0 := by rw [a1]; rfl
    refine b.eq (fun u v i k => ?_) (fun c hc => by rw [e1 c hc, if_pos z]) (fun c hc => by rw [e2 c hc, if_pos z])
    rw [e]
    exact ⟨fun d => d.elim (fun d => absurd d (a2 _ _ _ _)) id, Or.inr⟩
  · have z : ¬ nI n = 0 := nI_ne0 a1 n31
    exact a2.or b e (fun c hc => by rw [e1 c hc, if_neg z]) (fun c hc => by rw [e2 c hc, if_neg z])
theorem Kn.same {D D2 : Nat → Nat → Nat → Nat → Prop} {n : Nat} {lo hi lo3 hi3 : Nat → Int32} (a : Kn D n lo hi) (e : ∀ u v i k, D2 u v i k ↔ D u v i k) (e1 : ∀ c, c < 4 → lo3 c = lo c) (e2 : ∀ c, c < 4 → hi3 c = hi c) : Kn D2 n lo3 hi3 := by
  rcases a with ⟨a1, a2⟩ | ⟨a1, a2⟩
  · exact Or.inl ⟨a1, fun u v i k d => a2 _ _ _ _ ((e _ _ _ _).mp d)⟩
  · exact Or.inr ⟨a1, a2.eq e e1 e2⟩
/-! sums -/
def nsum (f : Nat → Nat) : Nat → Nat
  | 0 => 0
  | n + 1 => nsum f n + f n
theorem nsum_c {f g : Nat → Nat} : ∀ {n : Nat}, (∀ i, i < n → f i = g i) → nsum f n = nsum g n
  | 0, _ => rfl
  | n + 1, e => by
    show nsum f n + f n = nsum g n + g n
    rw [nsum_c (fun i hi => e i (by omega)), e n (by omega)]
theorem nsum_split (f : Nat → Nat) (a : Nat) : ∀ b : Nat, nsum f (a + b) = nsum f a + nsum (fun i => f (a + i)) b
  | 0 => rfl
  | b + 1 => by
    show nsum f (a + b) + f (a + b) = nsum f a + (nsum (fun i => f (a + i)) b + f (a + b))
    rw [nsum_split f a b, Nat.add_assoc]
theorem nsum_grid (f : Nat → Nat) (b : Nat) : ∀ a : Nat, nsum f (a * b) = nsum (fun i => nsum (fun j => f (i * b + j)) b) a
  | 0 => by rw [Nat.zero_mul]; rfl
  | a + 1 => by
    rw [Nat.add_mul, Nat.one_mul, nsum_split, nsum_grid f b a]
    rfl
theorem nsum_addf (f g : Nat → Nat) : ∀ n : Nat, nsum (fun i => f i + g i) n = nsum f n + nsum g n
  | 0 => rfl
  | n + 1 => by
    show nsum (fun i => f i + g i) n + (f n + g n) = nsum f n + f n + (nsum g n + g n)
    rw [nsum_addf f g n]
    omega
theorem nsum_0 : ∀ n : Nat, nsum (fun _ => 0) n = 0
  | 0 => rfl
  | n + 1 => by show nsum (fun _ => 0) n + 0 = 0; rw [nsum_0 n]
theorem nsum_comm (f : Nat → Nat → Nat) (b : Nat) : ∀ a : Nat, nsum (fun i => nsum (f i) b) a = nsum (fun j => nsum (fun i => f i j) a) b
  | 0 => (nsum_0 b).symm
  | a + 1 => by
    show nsum (fun i => nsum (f i) b) a + nsum (f a) b = nsum (fun j => nsum (fun i => f i j) a + f a j) b
    rw [nsum_addf, nsum_comm f b a]
theorem nsum_mulr (f : Nat → Nat) (c : Nat) : ∀ n : Nat, nsum (fun i => f i * c) n = nsum f n * c
  | 0 => (Nat.zero_mul c).symm
  | n + 1 => by
    show nsum (fun i => f i * c) n + f n * c = (nsum f n + f n) * c
    rw [nsum_mulr f c n, Nat.add_mul]
theorem nsum_mull (f : Nat → Nat) (c : Nat) : ∀ n : Nat, nsum (fun i => c * f i) n = c * nsum f n
  | 0 => rfl
  | n + 1 => by
    show nsum (fun i => c * f i) n + c * f n = c * (nsum f n + f n)
    rw [nsum_mull f c n, Nat.mul_add]
theorem nsum_le {f : Nat → Nat} {b : Nat} (h : ∀ i, f i ≤ b) : ∀ n : Nat, nsum f n ≤ n * b
  | 0 => by rw [Nat.zero_mul]; exact Nat.le_refl _
  | n + 1 => by
    have := nsum_le h n
    have := h n
    show nsum f n + f n ≤ (n + 1) * b
    rw [Nat.add_mul]
    omega
theorem nsum_pos {f : Nat → Nat} : ∀ {n : Nat}, nsum f n = 0 → ∀ i, i < n → f i = 0
  | 0, _, i, hi => absurd hi (Nat.not_lt_zero i)
  | n + 1, e, i, hi => by
    have e2 : nsum f n + f n = 0 := e
    by_cases c : i = n
    · subst c; omega
    · exact nsum_pos (n := n) (by omega) i (by omega)
/-! counting what lies between bounds -/
def gA (t : T4) (u : Nat) : Nat := (decide (t.1 ≤ nI u - 9 ∧ nI u - 9 ≤ t.2.1)).toNat
def gB (t : T4) (v : Nat) : Nat := (decide (t.2.2.1 ≤ nI v - 9 ∧ nI v - 9 ≤ t.2.2.2)).toNat
theorem cnt19 : ∀ p q : Fin 19, p ≤ q → nsum (fun u => (decide (nI p - 9 ≤ nI u - 9 ∧ nI u - 9 ≤ nI q - 9)).toNat) 19 = q.val - p.val + 1 ∧ (nI q - 9) - (nI p - 9) + 1 = nI (q.val - p.val + 1) := by decide +kernel
theorem idx9 {x : Int32} (h1 : -9 ≤ x) (h2 : x ≤ 9) : ∃ p : Nat, p < 19 ∧ x = nI p - 9 := by
  obtain ⟨p, hp, e⟩ : ∃ n : Nat, n ≤ 18 ∧ x + 9 = nI n := nI_of2 (M := 18) rfl (by grind) (by grind)
  exact ⟨p, by omega, by rw [← e]; grind⟩
theorem idx_le : ∀ p q : Fin 19, (nI p - 9 ≤ nI q - 9 ↔ p ≤ q) := by decide +kernel
theorem rng9 : ∀ p : Fin 19, -9 ≤ nI p - 9 ∧ nI p - 9 ≤ 9 := by decide +kernel
theorem cnt_in {a b : Int32} (h1 : -9 ≤ a) (h2 : b ≤ 9) (h3 : a ≤ b) : 0 < nsum (fun u => (decide (a ≤ nI u - 9 ∧ nI u - 9 ≤ b)).toNat) 19 ∧ nsum (fun u => (decide (a ≤ nI u - 9 ∧ nI u - 9 ≤ b)).toNat) 19 ≤ 19 ∧ (b - a) + 1 = nI (nsum (fun u => (decide (a ≤ nI u - 9 ∧ nI u - 9 ≤ b)).toNat) 19) := by
  obtain ⟨p, hp, rfl⟩ := idx9 h1 (Int32.le_trans h3 h2)
  obtain ⟨q, hq, rfl⟩ := idx9 (Int32.le_trans h1 h3) h2
  have hpq : (⟨p, hp⟩ : Fin 19) ≤ ⟨q, hq⟩ := (idx_le ⟨p, hp⟩ ⟨q, hq⟩).mp h3
  have c := cnt19 ⟨p, hp⟩ ⟨q, hq⟩ hpq
  simp only at c
  rw [c.1, c.2]
  have : p ≤ q := hpq
  exact ⟨by omega, by omega, rfl⟩
theorem cnt_out {a b : Int32} (h3 : ¬ a ≤ b) (n : Nat) : nsum (fun u => (decide (a ≤ nI u - 9 ∧ nI u - 9 ≤ b)).toNat) n = 0 := by
  rw [nsum_c (g := fun _ => 0) (fun u _ => ?_), nsum_0]
  rw [decide_eq_false]
  · rfl
  · intro q
    exact h3 (Int32.le_trans q.1 q.2)
