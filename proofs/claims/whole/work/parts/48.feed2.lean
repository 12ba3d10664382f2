def by20 (a b c d e : Int32) : List Int32 := bys a ++ (bys b ++ (bys c ++ (bys d ++ bys e)))
theorem by20_r (a b c d e : Int32) : ∀ x ∈ by20 a b c d e, inr x (-128) 127 := by
  intro x hx
  simp only [by20, bys, List.mem_append, List.mem_cons, List.not_mem_nil, or_false] at hx
  rcases hx with (rfl | rfl | rfl | rfl) | (rfl | rfl | rfl | rfl) | (rfl | rfl | rfl | rfl) | (rfl | rfl | rfl | rfl) | (rfl | rfl | rfl | rfl) <;> exact by8_r _ _
theorem c11_feed {h : AH} {P : Option Value → AH → Prop} {a b c d e : Int32} (w : Wf h) (h0 : 0 ≤ gI h 2 2) (h9 : gI h 2 2 ≤ 880) (k : P (some (.int (gI ((by20 a b c d e).foldl apC h) 2 2))) ((by20 a b c d e).foldl apC h)) : Call mX11_feed [.ref 0, .int a, .int b, .int c, .int d, .int e] h P := by
  have e4 : ∀ x : Int32, nI (bys x).length = 4 := fun _ => rfl
  have w1 := fold_wfC (bys a) w
  have w2 := fold_wfC (bys b) w1.1
  have w3 := fold_wfC (bys c) w2.1
  have w4 := fold_wfC (bys d) w3.1
  have w5 := fold_wfC (bys e) w4.1
  have l1 := w1.2; have l2 := w2.2; have l3 := w3.2; have l4 := w4.2
  rw [e4] at l1 l2 l3 l4
  have n1 : 0 ≤ gI ((bys a).foldl apC h) 2 2 ∧ gI ((bys a).foldl apC h) 2 2 ≤ 884 := by rw [l1]; clear l1 l2 l3 l4 k; grind
  have n2 : 0 ≤ gI ((bys b).foldl apC ((bys a).foldl apC h)) 2 2 ∧ gI ((bys b).foldl apC ((bys a).foldl apC h)) 2 2 ≤ 888 := by rw [l2]; generalize gI ((bys a).foldl apC h) 2 2 = z at n1 ⊢; clear l1 l2 l3 l4 k; grind
  have n3 : 0 ≤ gI ((bys c).foldl apC ((bys b).foldl apC ((bys a).foldl apC h))) 2 2 ∧ gI ((bys c).foldl apC ((bys b).foldl apC ((bys a).foldl apC h))) 2 2 ≤ 892 := by rw [l3]; generalize gI ((bys b).foldl apC ((bys a).foldl apC h)) 2 2 = z at n2 ⊢; clear l1 l2 l3 l4 k; grind
  have n4 : 0 ≤ gI ((bys d).foldl apC ((bys c).foldl apC ((bys b).foldl apC ((bys a).foldl apC h)))) 2 2 ∧ gI ((bys d).foldl apC ((bys c).foldl apC ((bys b).foldl apC ((bys a).foldl apC h)))) 2 2 ≤ 896 := by rw [l4]; generalize gI ((bys c).foldl apC ((bys b).foldl apC ((bys a).foldl apC h))) 2 2 = z at n3 ⊢; clear l1 l2 l3 l4 k; grind
  refine Call.ofR (by decide +kernel) (Nat.le_of_ble_eq_true rfl) (sX11_feed_0 h 0 a b c d e ?_)
  rw [w.f0_1]
  refine ⟨w.o (by decide) rfl, w.o (by decide) rfl, fun _ => ?_, fun q => absurd (by clear l1 l2 l3 l4 n1 n2 n3 n4 k; grind) q⟩
  refine c9_put w h0 (by clear l1 l2 l3 l4 n1 n2 n3 n4 k; grind) ⟨rfl, ?_⟩
  rw [w1.1.f0_1]
  refine ⟨w1.1.o (by decide) rfl, w1.1.o (by decide) rfl, c9_put w1.1 n1.1 (by clear l1 l2 l3 l4 n2 n3 n4 k; grind) ⟨rfl, ?_⟩⟩
  rw [w2.1.f0_1]
  refine ⟨w2.1.o (by decide) rfl, w2.1.o (by decide) rfl, c9_put w2.1 n2.1 (by clear l1 l2 l3 l4 n1 n3 n4 k; grind) ⟨rfl, ?_⟩⟩
  rw [w3.1.f0_1]
  refine ⟨w3.1.o (by decide) rfl, w3.1.o (by decide) rfl, c9_put w3.1 n3.1 (by clear l1 l2 l3 l4 n1 n2 n4 k; grind) ⟨rfl, ?_⟩⟩
  rw [w4.1.f0_1]
  refine ⟨w4.1.o (by decide) rfl, w4.1.o (by decide) rfl, c9_put w4.1 n4.1 n4.2 ⟨rfl, ?_⟩⟩
  rw [w5.1.f0_1]
  refine ⟨w5.1.o (by decide) rfl, w5.1.o (by decide) rfl, ?_⟩
  unfold by20 at k
  simp only [List.foldl_append] at k
  exact k
theorem c12_feed {h : AH} {P : Option Value → AH → Prop} {a b c d e : Int32} (w : Wf h) (h0 : 0 ≤ gI h 116 1) (h9 : gI h 116 1 ≤ 880) (k : P (some (.int (gI ((by20 a b c d e).foldl apM h) 116 1))) ((by20 a b c d e).foldl apM h)) : Call mX12_feed [.ref 116, .int a, .int b, .int c, .int d, .int e] h P := by
  have e4 : ∀ x : Int32, nI (bys x).length = 4 := fun _ => rfl
  have w1 := fold_wfM (bys a) w
  have w2 := fold_wfM (bys b) w1.1
  have w3 := fold_wfM (bys c) w2.1
  have w4 := fold_wfM (bys d) w3.1
  have w5 := fold_wfM (bys e) w4.1
  have l1 := w1.2; have l2 := w2.2; have l3 := w3.2; have l4 := w4.2
  rw [e4] at l1 l2 l3 l4
  have n1 : 0 ≤ gI ((bys a).foldl apM h) 116 1 ∧ gI ((bys a).foldl apM h) 116 1 ≤ 884 := by rw [l1]; clear l1 l2 l3 l4 k; grind
  have n2 : 0 ≤ gI ((bys b).foldl apM ((bys a).foldl apM h)) 116 1 ∧ gI ((bys b).foldl apM ((bys a).foldl apM h)) 116 1 ≤ 888 := by rw [l2]; generalize gI ((bys a).foldl apM h) 116 1 = z at n1 ⊢; clear l1 l2 l3 l4 k; grind
  have n3 : 0 ≤ gI ((bys c).foldl apM ((bys b).foldl apM ((bys a).foldl apM h))) 116 1 ∧ gI ((bys c).foldl apM ((bys b).foldl apM ((bys a).foldl apM h))) 116 1 ≤ 892 := by rw [l3]; generalize gI ((bys b).foldl apM ((bys a).foldl apM h)) 116 1 = z at n2 ⊢; clear l1 l2 l3 l4 k; grind
  have n4 : 0 ≤ gI ((bys d).foldl apM ((bys c).foldl apM ((bys b).foldl apM ((bys a).foldl apM h)))) 116 1 ∧ gI ((bys d).foldl apM ((bys c).foldl apM ((bys b).foldl apM ((bys a).foldl apM h)))) 116 1 ≤ 896 := by rw [l4]; generalize gI ((bys c).foldl apM ((bys b).foldl apM ((bys a).foldl apM h))) 116 1 = z at n3 ⊢; clear l1 l2 l3 l4 k; grind
  refine Call.ofR (by decide +kernel) (Nat.le_of_ble_eq_true rfl) (sX12_feed_0 h 116 a b c d e ⟨w.o (by decide) rfl, fun _ => ?_, fun q => absurd (by clear l1 l2 l3 l4 n1 n2 n3 n4 k; grind) q⟩)
  refine sX12_feed_19 h 116 a b c d e _ ⟨fun q => absurd q (by decide), fun _ => ?_⟩
  intro z hz
  rw [hz, if_pos (show (0 : Int32) = 0 by decide)]
  refine feed_four w h0 (by clear l1 l2 l3 l4 n1 n2 n3 n4 k; grind) ?_
  refine sX12_feed_19 _ 116 a b c d e _ ⟨fun q => absurd q (by decide), fun _ => ?_⟩
  intro z hz
  rw [hz, if_neg (show ¬ ((0 : Int32) + 1 = 0) by decide), if_pos (show (0 : Int32) + 1 = 1 by decide)]
  refine feed_four w1.1 n1.1 (by clear l1 l2 l3 l4 n2 n3 n4 k; grind) ?_
  refine sX12_feed_19 _ 116 a b c d e _ ⟨fun q => absurd q (by decide), fun _ => ?_⟩
  intro z hz
  rw [hz, if_neg (show ¬ ((0 : Int32) + 1 + 1 = 0) by decide), if_neg (show ¬ ((0 : Int32) + 1 + 1 = 1) by decide), if_pos (show (0 : Int32) + 1 + 1 = 2 by decide)]
  refine feed_four w2.1 n2.1 (by clear l1 l2 l3 l4 n1 n3 n4 k; grind) ?_
  refine sX12_feed_19 _ 116 a b c d e _ ⟨fun q => absurd q (by decide), fun _ => ?_⟩
  intro z hz
  rw [hz, if_neg (show ¬ ((0 : Int32) + 1 + 1 + 1 = 0) by decide), if_neg (show ¬ ((0 : Int32) + 1 + 1 + 1 = 1) by decide), if_neg (show ¬ ((0 : Int32) + 1 + 1 + 1 = 2) by decide), if_pos (show (0 : Int32) + 1 + 1 + 1 = 3 by decide)]
  refine feed_four w3.1 n3.1 (by clear l1 l2 l3 l4 n1 n2 n4 k; grind) ?_
  refine sX12_feed_19 _ 116 a b c d e _ ⟨fun q => absurd q (by decide), fun _ => ?_⟩
  intro z hz
  rw [hz, if_neg (show ¬ ((0 : Int32) + 1 + 1 + 1 + 1 = 0) by decide), if_neg (show ¬ ((0 : Int32) + 1 + 1 + 1 + 1 = 1) by decide), if_neg (show ¬ ((0 : Int32) + 1 + 1 + 1 + 1 = 2) by decide), if_neg (show ¬ ((0 : Int32) + 1 + 1 + 1 + 1 = 3) by decide)]
  refine feed_four w4.1 n4.1 n4.2 ?_
  refine sX12_feed_19 _ 116 a b c d e _ ⟨fun _ => ⟨w5.1.o (by decide) rfl, ?_⟩, fun q => absurd (by decide) q⟩
  unfold by20 at k
  simp only [List.foldl_append] at k
  exact k
theorem pr_feed {j : Nat} {h : AH} (I : Inv j h) (a b c d e : Int32) : Pair mX11_feed mX12_feed [.int a, .int b, .int c, .int d, .int e] h := by
  have w := I.1
  obtain ⟨-, -, ⟨t1, t2, -⟩, -⟩ := id I
  unfold inr at t1
  by_cases c9 : gI h 2 2 ≤ 880
  · refine c11_feed w t1.1 c9 ?_
    have q := fold_wfC (by20 a b c d e) w
    have e116 : gI ((by20 a b c d e).foldl apC h) 116 1 = gI h 116 1 := by
      have gen : ∀ (bs : List Int32) (g : AH), gI (bs.foldl apC g) 116 1 = gI g 116 1 := by
        intro bs
        induction bs with
        | nil => intro g; rfl
        | cons x t ih => intro g; rw [List.foldl_cons, ih]; unfold apC; rw [rd_r (by decide), rd_r (by decide)]
      exact gen _ h
    refine c12_feed q.1 (by rw [e116, t2]; exact t1.1) (by rw [e116, t2]; exact c9) ?_
    have e20 : (by20 a b c d e).length = 20 := by unfold by20 bys; simp
    have e88 : nI (900 - 20) = 880 := by decide
    have J := ap_invs (by20 a b c d e) I (by20_r a b c d e) (by rw [e20]; exact Nat.le_refl 20) (by rw [e20, e88]; exact c9)
    rw [← ap_both] at J
    refine ⟨?_, ⟨_, rfl⟩, j, J⟩
    have e2 : gI ((by20 a b c d e).foldl apM ((by20 a b c d e).foldl apC h)) 2 2 = gI ((by20 a b c d e).foldl apC h) 2 2 := by
      have gen : ∀ (bs : List Int32) (g : AH), gI (bs.foldl apM g) 2 2 = gI g 2 2 := by
        intro bs
        induction bs with
        | nil => intro g; rfl
        | cons x t ih => intro g; rw [List.foldl_cons, ih]; unfold apM; rw [rd_r (by decide), rd_r (by decide)]
      exact gen _ _
    rw [J.2.2.1.2.1, e2]
  · have c8 : ¬ (gI h 2 2 + 20) ≤ 900 := by clear I; grind
    refine Call.ofR (by decide +kernel) (Nat.le_of_ble_eq_true rfl) (sX11_feed_0 h 0 a b c d e ?_)
    rw [w.f0_1]
    refine ⟨w.o (by decide) rfl, w.o (by decide) rfl, fun q => absurd q c8, fun _ => ?_⟩
    exact Call.ofR (by decide +kernel) (Nat.le_of_ble_eq_true rfl) (sX12_feed_0 h 116 a b c d e ⟨w.o (by decide) rfl, fun q => absurd (by rw [← t2]; exact q) c8, fun _ => ⟨rfl, ⟨_, rfl⟩, j, I⟩⟩)
