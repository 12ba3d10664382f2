def IRL (j : Nat) : List Nat := 3 :: 42 :: 43 :: 44 :: 45 :: 46 :: 47 :: 48 :: 49 :: 50 :: 51 :: 61 :: 73 :: 75 :: 77 :: 79 :: 114 :: 117 :: 127 :: 128 :: 129 :: 130 :: 131 :: 132 :: 133 :: 134 :: 135 :: 142 :: 144 :: 147 :: jrows j
def IPS : List (Nat × Nat) := [(0, 8), (1, 4), (1, 5), (2, 2), (59, 5), (62, 9), (62, 10), (62, 11), (88, 4), (88, 6), (116, 1), (116, 8), (116, 9), (116, 20), (116, 23), (116, 24), (116, 25), (116, 43), (116, 48), (116, 49), (116, 50), (116, 51), (116, 55)]
/-- nothing that the invariant speaks of has changed -/
theorem inv_keep {j : Nat} {h h2 : AH} {S : List Nat} (I : Inv j h) (F : Fr S h h2) (a : ∀ r ∈ IRL j, r ∉ S) (p : ∀ q ∈ IPS, gI h2 q.1 q.2 = gI h q.1 q.2) : Inv j h2 := by
  obtain ⟨w, hj, ti, fi, ji, ri, mi, si, pi, li⟩ := I
  have ag : ∀ r ∈ IRL j, Ag h h2 r := fun r hr => F.ag (a r hr)
  have agj : ∀ r ∈ jrows j, Ag h h2 r := fun r hr => ag r (by
    unfold IRL
    simp only [List.mem_cons]
    simp only [hr, or_true])
  have g : ∀ (i : Nat) {q : Nat}, (IRL j)[i]? = some q → Ag h h2 q := fun i q hq => ag q (List.mem_of_getElem? hq)
  have e : ∀ (i : Nat) {q : Nat × Nat}, IPS[i]? = some q → gI h2 q.1 q.2 = gI h q.1 q.2 := fun i q hq => p q (List.mem_of_getElem? hq)
  refine ⟨F.wf w, (F.2.1 0 2).trans hj, ti.keep (e 3 rfl) (g 0 rfl) (e 10 rfl) (g 17 rfl), fi.keep (e 1 rfl) (e 2 rfl) (e 11 rfl) (e 12 rfl), ji.keep agj (e 13 rfl), ri.keep (fun r hr => ?_) ?_ (e 14 rfl) (e 15 rfl) (e 16 rfl), mi.keep (e 4 rfl) (g 11 rfl) (e 17 rfl) (g 27 rfl), si.keep (e 5 rfl) (e 6 rfl) (e 7 rfl) (e 18 rfl) (e 19 rfl) (e 20 rfl), pi.keep (e 0 rfl) (e 21 rfl) (fun r hr => ?_), li.keep (e 8 rfl) (e 9 rfl) (g 16 rfl) (e 22 rfl) (g 29 rfl)⟩
  · refine ag r ?_
    unfold IRL
    simp only [List.mem_cons, List.not_mem_nil, or_false] at hr ⊢
    omega
  · exact (agj j (List.mem_of_getElem? (i := 0) rfl)).i 3
  · refine ag r ?_
    unfold IRL
    simp only [List.mem_cons, List.not_mem_nil, or_false] at hr ⊢
    omega
