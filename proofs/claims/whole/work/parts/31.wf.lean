def RFL : List (Nat × Nat × Nat) := [(0, 0, 1), (0, 1, 2), (0, 3, 42), (0, 4, 52), (0, 5, 59), (0, 6, 62), (0, 7, 71), (0, 9, 80), (0, 10, 82), (0, 11, 84), (0, 12, 85), (0, 13, 88), (0, 14, 115), (1, 0, 2), (2, 0, 3), (4, 4, 5), (4, 5, 6), (4, 7, 7), (4, 8, 8), (4, 11, 9), (4, 14, 18), (4, 15, 22), (9, 0, 10), (9, 1, 12), (9, 2, 14), (9, 3, 16), (10, 0, 11), (12, 0, 13), (14, 0, 15), (16, 0, 17), (18, 1, 19), (18, 2, 20), (18, 3, 21), (23, 4, 24), (23, 5, 25), (23, 7, 26), (23, 8, 27), (23, 11, 28), (23, 14, 37), (23, 15, 41), (28, 0, 29), (28, 1, 31), (28, 2, 33), (28, 3, 35), (29, 0, 30), (31, 0, 32), (33, 0, 34), (35, 0, 36), (37, 1, 38), (37, 2, 39), (37, 3, 40), (42, 3, 43), (42, 4, 44), (42, 5, 45), (42, 6, 46), (42, 7, 47), (42, 8, 48), (42, 9, 49), (42, 10, 50), (42, 11, 51), (52, 1, 53), (52, 2, 54), (52, 3, 55), (52, 4, 56), (52, 10, 57), (52, 11, 58), (59, 4, 60), (59, 6, 61), (62, 2, 63), (62, 3, 64), (62, 4, 65), (62, 5, 67), (62, 6, 69), (65, 0, 66), (67, 0, 68), (69, 0, 70), (71, 0, 72), (71, 1, 74), (71, 2, 76), (71, 3, 78), (72, 0, 73), (74, 0, 75), (76, 0, 77), (78, 0, 79), (80, 0, 81), (82, 0, 83), (85, 0, 86), (85, 1, 87), (88, 0, 89), (88, 1, 90), (88, 2, 91), (88, 3, 92), (88, 5, 114), (92, 0, 93), (92, 1, 94), (92, 2, 95), (92, 3, 96), (92, 4, 97), (92, 5, 98), (92, 6, 99), (92, 7, 100), (92, 8, 101), (92, 9, 102), (92, 10, 103), (92, 11, 104), (92, 12, 105), (92, 13, 106), (92, 14, 107), (92, 15, 108), (92, 16, 109), (92, 17, 110), (92, 18, 111), (92, 19, 112), (92, 20, 113), (116, 0, 117), (116, 11, 118), (116, 12, 119), (116, 13, 120), (116, 14, 121), (116, 15, 122), (116, 16, 123), (116, 17, 124), (116, 18, 125), (116, 19, 126), (116, 26, 127), (116, 27, 128), (116, 28, 129), (116, 29, 130), (116, 30, 131), (116, 31, 132), (116, 32, 133), (116, 33, 134), (116, 34, 135), (116, 36, 136), (116, 37, 137), (116, 38, 138), (116, 39, 139), (116, 41, 140), (116, 42, 141), (116, 44, 142), (116, 45, 143), (116, 52, 144), (116, 53, 145), (116, 54, 146), (116, 56, 147), (116, 57, 148), (116, 58, 149)]
/-- the world as the constructors leave it: 150 cells, references that never change, two jobs of which one is the press's, one the draft -/
def Wf (h : AH) : Prop := h.1 = 150 ∧ (∀ q ∈ RFL, gF h q.1 q.2.1 = q.2.2) ∧ ((gF h 0 2 = 4 ∧ gF h 1 3 = 23) ∨ (gF h 0 2 = 23 ∧ gF h 1 3 = 4))
theorem Wf.rf {h : AH} (w : Wf h) (i : Nat) {a b c : Nat} (hi : RFL[i]? = some (a, b, c)) : gF h a b = c := w.2.1 _ (List.mem_of_getElem? hi)
theorem Wf.f0_0 {h : AH} (w : Wf h) : gF h 0 0 = 1 := w.rf 0 rfl
theorem Wf.f0_1 {h : AH} (w : Wf h) : gF h 0 1 = 2 := w.rf 1 rfl
theorem Wf.f0_3 {h : AH} (w : Wf h) : gF h 0 3 = 42 := w.rf 2 rfl
theorem Wf.f0_4 {h : AH} (w : Wf h) : gF h 0 4 = 52 := w.rf 3 rfl
theorem Wf.f0_5 {h : AH} (w : Wf h) : gF h 0 5 = 59 := w.rf 4 rfl
theorem Wf.f0_6 {h : AH} (w : Wf h) : gF h 0 6 = 62 := w.rf 5 rfl
theorem Wf.f0_7 {h : AH} (w : Wf h) : gF h 0 7 = 71 := w.rf 6 rfl
theorem Wf.f0_9 {h : AH} (w : Wf h) : gF h 0 9 = 80 := w.rf 7 rfl
theorem Wf.f0_10 {h : AH} (w : Wf h) : gF h 0 10 = 82 := w.rf 8 rfl
theorem Wf.f0_11 {h : AH} (w : Wf h) : gF h 0 11 = 84 := w.rf 9 rfl
theorem Wf.f0_12 {h : AH} (w : Wf h) : gF h 0 12 = 85 := w.rf 10 rfl
theorem Wf.f0_13 {h : AH} (w : Wf h) : gF h 0 13 = 88 := w.rf 11 rfl
theorem Wf.f0_14 {h : AH} (w : Wf h) : gF h 0 14 = 115 := w.rf 12 rfl
theorem Wf.f1_0 {h : AH} (w : Wf h) : gF h 1 0 = 2 := w.rf 13 rfl
theorem Wf.f2_0 {h : AH} (w : Wf h) : gF h 2 0 = 3 := w.rf 14 rfl
theorem Wf.f4_4 {h : AH} (w : Wf h) : gF h 4 4 = 5 := w.rf 15 rfl
theorem Wf.f4_5 {h : AH} (w : Wf h) : gF h 4 5 = 6 := w.rf 16 rfl
theorem Wf.f4_7 {h : AH} (w : Wf h) : gF h 4 7 = 7 := w.rf 17 rfl
theorem Wf.f4_8 {h : AH} (w : Wf h) : gF h 4 8 = 8 := w.rf 18 rfl
theorem Wf.f4_11 {h : AH} (w : Wf h) : gF h 4 11 = 9 := w.rf 19 rfl
theorem Wf.f4_14 {h : AH} (w : Wf h) : gF h 4 14 = 18 := w.rf 20 rfl
theorem Wf.f4_15 {h : AH} (w : Wf h) : gF h 4 15 = 22 := w.rf 21 rfl
theorem Wf.f9_0 {h : AH} (w : Wf h) : gF h 9 0 = 10 := w.rf 22 rfl
theorem Wf.f9_1 {h : AH} (w : Wf h) : gF h 9 1 = 12 := w.rf 23 rfl
theorem Wf.f9_2 {h : AH} (w : Wf h) : gF h 9 2 = 14 := w.rf 24 rfl
theorem Wf.f9_3 {h : AH} (w : Wf h) : gF h 9 3 = 16 := w.rf 25 rfl
theorem Wf.f10_0 {h : AH} (w : Wf h) : gF h 10 0 = 11 := w.rf 26 rfl
theorem Wf.f12_0 {h : AH} (w : Wf h) : gF h 12 0 = 13 := w.rf 27 rfl
theorem Wf.f14_0 {h : AH} (w : Wf h) : gF h 14 0 = 15 := w.rf 28 rfl
theorem Wf.f16_0 {h : AH} (w : Wf h) : gF h 16 0 = 17 := w.rf 29 rfl
theorem Wf.f18_1 {h : AH} (w : Wf h) : gF h 18 1 = 19 := w.rf 30 rfl
theorem Wf.f18_2 {h : AH} (w : Wf h) : gF h 18 2 = 20 := w.rf 31 rfl
theorem Wf.f18_3 {h : AH} (w : Wf h) : gF h 18 3 = 21 := w.rf 32 rfl
theorem Wf.f23_4 {h : AH} (w : Wf h) : gF h 23 4 = 24 := w.rf 33 rfl
theorem Wf.f23_5 {h : AH} (w : Wf h) : gF h 23 5 = 25 := w.rf 34 rfl
theorem Wf.f23_7 {h : AH} (w : Wf h) : gF h 23 7 = 26 := w.rf 35 rfl
theorem Wf.f23_8 {h : AH} (w : Wf h) : gF h 23 8 = 27 := w.rf 36 rfl
theorem Wf.f23_11 {h : AH} (w : Wf h) : gF h 23 11 = 28 := w.rf 37 rfl
theorem Wf.f23_14 {h : AH} (w : Wf h) : gF h 23 14 = 37 := w.rf 38 rfl
theorem Wf.f23_15 {h : AH} (w : Wf h) : gF h 23 15 = 41 := w.rf 39 rfl
theorem Wf.f28_0 {h : AH} (w : Wf h) : gF h 28 0 = 29 := w.rf 40 rfl
theorem Wf.f28_1 {h : AH} (w : Wf h) : gF h 28 1 = 31 := w.rf 41 rfl
theorem Wf.f28_2 {h : AH} (w : Wf h) : gF h 28 2 = 33 := w.rf 42 rfl
theorem Wf.f28_3 {h : AH} (w : Wf h) : gF h 28 3 = 35 := w.rf 43 rfl
theorem Wf.f29_0 {h : AH} (w : Wf h) : gF h 29 0 = 30 := w.rf 44 rfl
theorem Wf.f31_0 {h : AH} (w : Wf h) : gF h 31 0 = 32 := w.rf 45 rfl
theorem Wf.f33_0 {h : AH} (w : Wf h) : gF h 33 0 = 34 := w.rf 46 rfl
theorem Wf.f35_0 {h : AH} (w : Wf h) : gF h 35 0 = 36 := w.rf 47 rfl
theorem Wf.f37_1 {h : AH} (w : Wf h) : gF h 37 1 = 38 := w.rf 48 rfl
theorem Wf.f37_2 {h : AH} (w : Wf h) : gF h 37 2 = 39 := w.rf 49 rfl
theorem Wf.f37_3 {h : AH} (w : Wf h) : gF h 37 3 = 40 := w.rf 50 rfl
theorem Wf.f42_3 {h : AH} (w : Wf h) : gF h 42 3 = 43 := w.rf 51 rfl
theorem Wf.f42_4 {h : AH} (w : Wf h) : gF h 42 4 = 44 := w.rf 52 rfl
theorem Wf.f42_5 {h : AH} (w : Wf h) : gF h 42 5 = 45 := w.rf 53 rfl
theorem Wf.f42_6 {h : AH} (w : Wf h) : gF h 42 6 = 46 := w.rf 54 rfl
theorem Wf.f42_7 {h : AH} (w : Wf h) : gF h 42 7 = 47 := w.rf 55 rfl
theorem Wf.f42_8 {h : AH} (w : Wf h) : gF h 42 8 = 48 := w.rf 56 rfl
theorem Wf.f42_9 {h : AH} (w : Wf h) : gF h 42 9 = 49 := w.rf 57 rfl
theorem Wf.f42_10 {h : AH} (w : Wf h) : gF h 42 10 = 50 := w.rf 58 rfl
theorem Wf.f42_11 {h : AH} (w : Wf h) : gF h 42 11 = 51 := w.rf 59 rfl
theorem Wf.f52_1 {h : AH} (w : Wf h) : gF h 52 1 = 53 := w.rf 60 rfl
theorem Wf.f52_2 {h : AH} (w : Wf h) : gF h 52 2 = 54 := w.rf 61 rfl
theorem Wf.f52_3 {h : AH} (w : Wf h) : gF h 52 3 = 55 := w.rf 62 rfl
theorem Wf.f52_4 {h : AH} (w : Wf h) : gF h 52 4 = 56 := w.rf 63 rfl
theorem Wf.f52_10 {h : AH} (w : Wf h) : gF h 52 10 = 57 := w.rf 64 rfl
theorem Wf.f52_11 {h : AH} (w : Wf h) : gF h 52 11 = 58 := w.rf 65 rfl
theorem Wf.f59_4 {h : AH} (w : Wf h) : gF h 59 4 = 60 := w.rf 66 rfl
theorem Wf.f59_6 {h : AH} (w : Wf h) : gF h 59 6 = 61 := w.rf 67 rfl
theorem Wf.f62_2 {h : AH} (w : Wf h) : gF h 62 2 = 63 := w.rf 68 rfl
theorem Wf.f62_3 {h : AH} (w : Wf h) : gF h 62 3 = 64 := w.rf 69 rfl
theorem Wf.f62_4 {h : AH} (w : Wf h) : gF h 62 4 = 65 := w.rf 70 rfl
theorem Wf.f62_5 {h : AH} (w : Wf h) : gF h 62 5 = 67 := w.rf 71 rfl
theorem Wf.f62_6 {h : AH} (w : Wf h) : gF h 62 6 = 69 := w.rf 72 rfl
theorem Wf.f65_0 {h : AH} (w : Wf h) : gF h 65 0 = 66 := w.rf 73 rfl
theorem Wf.f67_0 {h : AH} (w : Wf h) : gF h 67 0 = 68 := w.rf 74 rfl
theorem Wf.f69_0 {h : AH} (w : Wf h) : gF h 69 0 = 70 := w.rf 75 rfl
theorem Wf.f71_0 {h : AH} (w : Wf h) : gF h 71 0 = 72 := w.rf 76 rfl
theorem Wf.f71_1 {h : AH} (w : Wf h) : gF h 71 1 = 74 := w.rf 77 rfl
theorem Wf.f71_2 {h : AH} (w : Wf h) : gF h 71 2 = 76 := w.rf 78 rfl
theorem Wf.f71_3 {h : AH} (w : Wf h) : gF h 71 3 = 78 := w.rf 79 rfl
theorem Wf.f72_0 {h : AH} (w : Wf h) : gF h 72 0 = 73 := w.rf 80 rfl
theorem Wf.f74_0 {h : AH} (w : Wf h) : gF h 74 0 = 75 := w.rf 81 rfl
theorem Wf.f76_0 {h : AH} (w : Wf h) : gF h 76 0 = 77 := w.rf 82 rfl
theorem Wf.f78_0 {h : AH} (w : Wf h) : gF h 78 0 = 79 := w.rf 83 rfl
theorem Wf.f80_0 {h : AH} (w : Wf h) : gF h 80 0 = 81 := w.rf 84 rfl
theorem Wf.f82_0 {h : AH} (w : Wf h) : gF h 82 0 = 83 := w.rf 85 rfl
theorem Wf.f85_0 {h : AH} (w : Wf h) : gF h 85 0 = 86 := w.rf 86 rfl
theorem Wf.f85_1 {h : AH} (w : Wf h) : gF h 85 1 = 87 := w.rf 87 rfl
theorem Wf.f88_0 {h : AH} (w : Wf h) : gF h 88 0 = 89 := w.rf 88 rfl
theorem Wf.f88_1 {h : AH} (w : Wf h) : gF h 88 1 = 90 := w.rf 89 rfl
theorem Wf.f88_2 {h : AH} (w : Wf h) : gF h 88 2 = 91 := w.rf 90 rfl
theorem Wf.f88_3 {h : AH} (w : Wf h) : gF h 88 3 = 92 := w.rf 91 rfl
theorem Wf.f88_5 {h : AH} (w : Wf h) : gF h 88 5 = 114 := w.rf 92 rfl
theorem Wf.f92_0 {h : AH} (w : Wf h) : gF h 92 0 = 93 := w.rf 93 rfl
theorem Wf.f92_1 {h : AH} (w : Wf h) : gF h 92 1 = 94 := w.rf 94 rfl
theorem Wf.f92_2 {h : AH} (w : Wf h) : gF h 92 2 = 95 := w.rf 95 rfl
theorem Wf.f92_3 {h : AH} (w : Wf h) : gF h 92 3 = 96 := w.rf 96 rfl
theorem Wf.f92_4 {h : AH} (w : Wf h) : gF h 92 4 = 97 := w.rf 97 rfl
theorem Wf.f92_5 {h : AH} (w : Wf h) : gF h 92 5 = 98 := w.rf 98 rfl
theorem Wf.f92_6 {h : AH} (w : Wf h) : gF h 92 6 = 99 := w.rf 99 rfl
theorem Wf.f92_7 {h : AH} (w : Wf h) : gF h 92 7 = 100 := w.rf 100 rfl
theorem Wf.f92_8 {h : AH} (w : Wf h) : gF h 92 8 = 101 := w.rf 101 rfl
theorem Wf.f92_9 {h : AH} (w : Wf h) : gF h 92 9 = 102 := w.rf 102 rfl
theorem Wf.f92_10 {h : AH} (w : Wf h) : gF h 92 10 = 103 := w.rf 103 rfl
theorem Wf.f92_11 {h : AH} (w : Wf h) : gF h 92 11 = 104 := w.rf 104 rfl
theorem Wf.f92_12 {h : AH} (w : Wf h) : gF h 92 12 = 105 := w.rf 105 rfl
theorem Wf.f92_13 {h : AH} (w : Wf h) : gF h 92 13 = 106 := w.rf 106 rfl
theorem Wf.f92_14 {h : AH} (w : Wf h) : gF h 92 14 = 107 := w.rf 107 rfl
theorem Wf.f92_15 {h : AH} (w : Wf h) : gF h 92 15 = 108 := w.rf 108 rfl
theorem Wf.f92_16 {h : AH} (w : Wf h) : gF h 92 16 = 109 := w.rf 109 rfl
theorem Wf.f92_17 {h : AH} (w : Wf h) : gF h 92 17 = 110 := w.rf 110 rfl
theorem Wf.f92_18 {h : AH} (w : Wf h) : gF h 92 18 = 111 := w.rf 111 rfl
theorem Wf.f92_19 {h : AH} (w : Wf h) : gF h 92 19 = 112 := w.rf 112 rfl
theorem Wf.f92_20 {h : AH} (w : Wf h) : gF h 92 20 = 113 := w.rf 113 rfl
theorem Wf.f116_0 {h : AH} (w : Wf h) : gF h 116 0 = 117 := w.rf 114 rfl
theorem Wf.f116_11 {h : AH} (w : Wf h) : gF h 116 11 = 118 := w.rf 115 rfl
theorem Wf.f116_12 {h : AH} (w : Wf h) : gF h 116 12 = 119 := w.rf 116 rfl
theorem Wf.f116_13 {h : AH} (w : Wf h) : gF h 116 13 = 120 := w.rf 117 rfl
theorem Wf.f116_14 {h : AH} (w : Wf h) : gF h 116 14 = 121 := w.rf 118 rfl
theorem Wf.f116_15 {h : AH} (w : Wf h) : gF h 116 15 = 122 := w.rf 119 rfl
theorem Wf.f116_16 {h : AH} (w : Wf h) : gF h 116 16 = 123 := w.rf 120 rfl
theorem Wf.f116_17 {h : AH} (w : Wf h) : gF h 116 17 = 124 := w.rf 121 rfl
theorem Wf.f116_18 {h : AH} (w : Wf h) : gF h 116 18 = 125 := w.rf 122 rfl
theorem Wf.f116_19 {h : AH} (w : Wf h) : gF h 116 19 = 126 := w.rf 123 rfl
theorem Wf.f116_26 {h : AH} (w : Wf h) : gF h 116 26 = 127 := w.rf 124 rfl
theorem Wf.f116_27 {h : AH} (w : Wf h) : gF h 116 27 = 128 := w.rf 125 rfl
theorem Wf.f116_28 {h : AH} (w : Wf h) : gF h 116 28 = 129 := w.rf 126 rfl
theorem Wf.f116_29 {h : AH} (w : Wf h) : gF h 116 29 = 130 := w.rf 127 rfl
theorem Wf.f116_30 {h : AH} (w : Wf h) : gF h 116 30 = 131 := w.rf 128 rfl
theorem Wf.f116_31 {h : AH} (w : Wf h) : gF h 116 31 = 132 := w.rf 129 rfl
theorem Wf.f116_32 {h : AH} (w : Wf h) : gF h 116 32 = 133 := w.rf 130 rfl
theorem Wf.f116_33 {h : AH} (w : Wf h) : gF h 116 33 = 134 := w.rf 131 rfl
theorem Wf.f116_34 {h : AH} (w : Wf h) : gF h 116 34 = 135 := w.rf 132 rfl
theorem Wf.f116_36 {h : AH} (w : Wf h) : gF h 116 36 = 136 := w.rf 133 rfl
theorem Wf.f116_37 {h : AH} (w : Wf h) : gF h 116 37 = 137 := w.rf 134 rfl
theorem Wf.f116_38 {h : AH} (w : Wf h) : gF h 116 38 = 138 := w.rf 135 rfl
theorem Wf.f116_39 {h : AH} (w : Wf h) : gF h 116 39 = 139 := w.rf 136 rfl
theorem Wf.f116_41 {h : AH} (w : Wf h) : gF h 116 41 = 140 := w.rf 137 rfl
theorem Wf.f116_42 {h : AH} (w : Wf h) : gF h 116 42 = 141 := w.rf 138 rfl
theorem Wf.f116_44 {h : AH} (w : Wf h) : gF h 116 44 = 142 := w.rf 139 rfl
theorem Wf.f116_45 {h : AH} (w : Wf h) : gF h 116 45 = 143 := w.rf 140 rfl
theorem Wf.f116_52 {h : AH} (w : Wf h) : gF h 116 52 = 144 := w.rf 141 rfl
theorem Wf.f116_53 {h : AH} (w : Wf h) : gF h 116 53 = 145 := w.rf 142 rfl
theorem Wf.f116_54 {h : AH} (w : Wf h) : gF h 116 54 = 146 := w.rf 143 rfl
theorem Wf.f116_56 {h : AH} (w : Wf h) : gF h 116 56 = 147 := w.rf 144 rfl
theorem Wf.f116_57 {h : AH} (w : Wf h) : gF h 116 57 = 148 := w.rf 145 rfl
theorem Wf.f116_58 {h : AH} (w : Wf h) : gF h 116 58 = 149 := w.rf 146 rfl
theorem Wf.o {h : AH} (w : Wf h) {ci r : Nat} (hr : r < 150) (hk : kd r = ci) : isO h ci r := ⟨by rw [w.1]; exact hr, hk⟩
theorem Wf.a {h : AH} (w : Wf h) {t r : Nat} (hr : r < 150) (hk : kd r = 100 + t) : isA h t r := ⟨by rw [w.1]; exact hr, hk⟩
/-- h2 is h but for the rows of S; no reference changed -/
def Fr (S : List Nat) (h h2 : AH) : Prop := h2.1 = h.1 ∧ (∀ r k, gF h2 r k = gF h r k) ∧ ∀ r, r ∉ S → gI h2 r = gI h r ∧ gL h2 r = gL h r
theorem Fr.rf {S : List Nat} {h : AH} : Fr S h h := ⟨rfl, fun _ _ => rfl, fun _ _ => ⟨rfl, rfl⟩⟩
theorem Fr.tr {S : List Nat} {h h2 h3 : AH} (a : Fr S h h2) (b : Fr S h2 h3) : Fr S h h3 := ⟨b.1.trans a.1, fun r k => (b.2.1 r k).trans (a.2.1 r k), fun r hr => ⟨(b.2.2 r hr).1.trans (a.2.2 r hr).1, (b.2.2 r hr).2.trans (a.2.2 r hr).2⟩⟩
theorem Fr.up {S S2 : List Nat} {h h2 : AH} (a : Fr S h h2) (hs : ∀ r, r ∈ S → r ∈ S2) : Fr S2 h h2 := ⟨a.1, a.2.1, fun r hr => a.2.2 r (fun q => hr (hs r q))⟩
theorem Fr.sI {S : List Nat} {h : AH} {r k : Nat} {x : Int32} (hr : r ∈ S) : Fr S h (sI h r k x) := ⟨rfl, fun _ _ => rfl, fun r2 h2 => ⟨by funext k2; rw [gI_sI', if_neg]; intro q; exact h2 (q.1 ▸ hr), rfl⟩⟩
theorem Fr.sL {S : List Nat} {h : AH} {r k : Nat} {x : Int64} (hr : r ∈ S) : Fr S h (sL h r k x) := ⟨rfl, fun _ _ => rfl, fun r2 h2 => ⟨rfl, by funext k2; rw [gL_sL', if_neg]; intro q; exact h2 (q.1 ▸ hr)⟩⟩
theorem Fr.rI {S : List Nat} {h : AH} {r : Nat} {g : Nat → Int32} (hr : r ∈ S) : Fr S h (rI h r g) := ⟨rfl, fun _ _ => rfl, fun r2 h2 => ⟨by funext k2; rw [gI_rI, if_neg]; intro q; exact h2 (q ▸ hr), rfl⟩⟩
theorem Fr.rL {S : List Nat} {h : AH} {r : Nat} {g : Nat → Int64} (hr : r ∈ S) : Fr S h (rL h r g) := ⟨rfl, fun _ _ => rfl, fun r2 h2 => ⟨rfl, by funext k2; rw [gL_rL, if_neg]; intro q; exact h2 (q ▸ hr)⟩⟩
theorem Fr.wf {S : List Nat} {h h2 : AH} (a : Fr S h h2) (w : Wf h) : Wf h2 := ⟨a.1.trans w.1, fun q hq => (a.2.1 _ _).trans (w.2.1 q hq), by rw [a.2.1, a.2.1]; exact w.2.2⟩
theorem Fr.I {S : List Nat} {h h2 : AH} (a : Fr S h h2) {r : Nat} (hr : r ∉ S) (k : Nat) : gI h2 r k = gI h r k := congrFun (a.2.2 r hr).1 k
theorem Fr.L {S : List Nat} {h h2 : AH} (a : Fr S h h2) {r : Nat} (hr : r ∉ S) (k : Nat) : gL h2 r k = gL h r k := congrFun (a.2.2 r hr).2 k
