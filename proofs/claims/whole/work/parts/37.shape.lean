/-! the cells that are made once: the class from 1 on (1 itself, 2 tape, 3 reader, 9 site, 14 reckoner, 16 marks, 17 19 plays, 21 ways, 23 doable, 24 drawable, 31 33 35 37 marks), the reference from 39 on, the law's row 73 -/
def shC_R : List (Nat × Nat × Nat) := [(1, 0, 2), (1, 2, 3), (1, 4, 9), (1, 5, 16), (1, 6, 17), (1, 7, 19), (1, 8, 21), (1, 9, 23), (1, 11, 24), (3, 4, 4), (3, 5, 5), (3, 6, 6), (3, 7, 7), (9, 0, 10), (9, 4, 11), (9, 5, 12), (9, 6, 13), (9, 7, 14), (14, 0, 15), (16, 0, 31), (16, 1, 33), (16, 2, 35), (16, 3, 37), (31, 1, 32), (33, 1, 34), (35, 1, 36), (37, 1, 38), (17, 0, 18), (19, 0, 20), (21, 0, 22)]
def shC_K : List (Nat × Nat × Nat) := [(1, 7, 12), (2, 102, 1000), (3, 2, 19), (4, 100, 6), (5, 100, 6), (6, 101, 6), (7, 100, 1000), (8, 102, 0), (9, 4, 8), (10, 100, 60), (11, 100, 2), (12, 100, 10), (13, 100, 10), (14, 3, 2), (15, 100, 32), (16, 105, 4), (17, 1, 4), (18, 100, 6250), (19, 1, 4), (20, 100, 6250), (21, 6, 1), (22, 100, 3125), (23, 100, 250), (24, 100, 250), (31, 0, 3), (32, 100, 60), (33, 0, 3), (34, 100, 60), (35, 0, 3), (36, 100, 60), (37, 0, 3), (38, 100, 60)]
def ShC (S : St) : Prop := (∀ q ∈ shC_R, gR S q.1 q.2.1 = q.2.2) ∧ ∀ q ∈ shC_K, gK S q.1 = q.2.1 ∧ gN S q.1 = q.2.2
theorem ShC.of {S S' : St} (h : ShC S) (e : S'.2.2 = S.2.2) : ShC S' := by
  unfold ShC gR gK gN at h ⊢
  rw [e]
  exact h
theorem ShC.r1_0 {S : St} (h : ShC S) : gR S 1 0 = 2 := h.1 (1, 0, 2) (by decide)
theorem ShC.r1_2 {S : St} (h : ShC S) : gR S 1 2 = 3 := h.1 (1, 2, 3) (by decide)
theorem ShC.r1_4 {S : St} (h : ShC S) : gR S 1 4 = 9 := h.1 (1, 4, 9) (by decide)
theorem ShC.r1_5 {S : St} (h : ShC S) : gR S 1 5 = 16 := h.1 (1, 5, 16) (by decide)
theorem ShC.r1_6 {S : St} (h : ShC S) : gR S 1 6 = 17 := h.1 (1, 6, 17) (by decide)
theorem ShC.r1_7 {S : St} (h : ShC S) : gR S 1 7 = 19 := h.1 (1, 7, 19) (by decide)
theorem ShC.r1_8 {S : St} (h : ShC S) : gR S 1 8 = 21 := h.1 (1, 8, 21) (by decide)
theorem ShC.r1_9 {S : St} (h : ShC S) : gR S 1 9 = 23 := h.1 (1, 9, 23) (by decide)
theorem ShC.r1_11 {S : St} (h : ShC S) : gR S 1 11 = 24 := h.1 (1, 11, 24) (by decide)
theorem ShC.r3_4 {S : St} (h : ShC S) : gR S 3 4 = 4 := h.1 (3, 4, 4) (by decide)
theorem ShC.r3_5 {S : St} (h : ShC S) : gR S 3 5 = 5 := h.1 (3, 5, 5) (by decide)
theorem ShC.r3_6 {S : St} (h : ShC S) : gR S 3 6 = 6 := h.1 (3, 6, 6) (by decide)
theorem ShC.r3_7 {S : St} (h : ShC S) : gR S 3 7 = 7 := h.1 (3, 7, 7) (by decide)
theorem ShC.r9_0 {S : St} (h : ShC S) : gR S 9 0 = 10 := h.1 (9, 0, 10) (by decide)
theorem ShC.r9_4 {S : St} (h : ShC S) : gR S 9 4 = 11 := h.1 (9, 4, 11) (by decide)
theorem ShC.r9_5 {S : St} (h : ShC S) : gR S 9 5 = 12 := h.1 (9, 5, 12) (by decide)
theorem ShC.r9_6 {S : St} (h : ShC S) : gR S 9 6 = 13 := h.1 (9, 6, 13) (by decide)
theorem ShC.r9_7 {S : St} (h : ShC S) : gR S 9 7 = 14 := h.1 (9, 7, 14) (by decide)
theorem ShC.r14_0 {S : St} (h : ShC S) : gR S 14 0 = 15 := h.1 (14, 0, 15) (by decide)
theorem ShC.r16_0 {S : St} (h : ShC S) : gR S 16 0 = 31 := h.1 (16, 0, 31) (by decide)
theorem ShC.r16_1 {S : St} (h : ShC S) : gR S 16 1 = 33 := h.1 (16, 1, 33) (by decide)
theorem ShC.r16_2 {S : St} (h : ShC S) : gR S 16 2 = 35 := h.1 (16, 2, 35) (by decide)
theorem ShC.r16_3 {S : St} (h : ShC S) : gR S 16 3 = 37 := h.1 (16, 3, 37) (by decide)
theorem ShC.r31_1 {S : St} (h : ShC S) : gR S 31 1 = 32 := h.1 (31, 1, 32) (by decide)
theorem ShC.r33_1 {S : St} (h : ShC S) : gR S 33 1 = 34 := h.1 (33, 1, 34) (by decide)
theorem ShC.r35_1 {S : St} (h : ShC S) : gR S 35 1 = 36 := h.1 (35, 1, 36) (by decide)
theorem ShC.r37_1 {S : St} (h : ShC S) : gR S 37 1 = 38 := h.1 (37, 1, 38) (by decide)
theorem ShC.r17_0 {S : St} (h : ShC S) : gR S 17 0 = 18 := h.1 (17, 0, 18) (by decide)
theorem ShC.r19_0 {S : St} (h : ShC S) : gR S 19 0 = 20 := h.1 (19, 0, 20) (by decide)
theorem ShC.r21_0 {S : St} (h : ShC S) : gR S 21 0 = 22 := h.1 (21, 0, 22) (by decide)
theorem ShC.k1 {S : St} (h : ShC S) : gK S 1 = 7 := (h.2 (1, 7, 12) (by decide)).1
theorem ShC.n1 {S : St} (h : ShC S) : gN S 1 = 12 := (h.2 (1, 7, 12) (by decide)).2
theorem ShC.k2 {S : St} (h : ShC S) : gK S 2 = 102 := (h.2 (2, 102, 1000) (by decide)).1
theorem ShC.n2 {S : St} (h : ShC S) : gN S 2 = 1000 := (h.2 (2, 102, 1000) (by decide)).2
theorem ShC.k3 {S : St} (h : ShC S) : gK S 3 = 2 := (h.2 (3, 2, 19) (by decide)).1
theorem ShC.n3 {S : St} (h : ShC S) : gN S 3 = 19 := (h.2 (3, 2, 19) (by decide)).2
theorem ShC.k4 {S : St} (h : ShC S) : gK S 4 = 100 := (h.2 (4, 100, 6) (by decide)).1
theorem ShC.n4 {S : St} (h : ShC S) : gN S 4 = 6 := (h.2 (4, 100, 6) (by decide)).2
theorem ShC.k5 {S : St} (h : ShC S) : gK S 5 = 100 := (h.2 (5, 100, 6) (by decide)).1
theorem ShC.n5 {S : St} (h : ShC S) : gN S 5 = 6 := (h.2 (5, 100, 6) (by decide)).2
theorem ShC.k6 {S : St} (h : ShC S) : gK S 6 = 101 := (h.2 (6, 101, 6) (by decide)).1
theorem ShC.n6 {S : St} (h : ShC S) : gN S 6 = 6 := (h.2 (6, 101, 6) (by decide)).2
theorem ShC.k7 {S : St} (h : ShC S) : gK S 7 = 100 := (h.2 (7, 100, 1000) (by decide)).1
theorem ShC.n7 {S : St} (h : ShC S) : gN S 7 = 1000 := (h.2 (7, 100, 1000) (by decide)).2
theorem ShC.k8 {S : St} (h : ShC S) : gK S 8 = 102 := (h.2 (8, 102, 0) (by decide)).1
theorem ShC.n8 {S : St} (h : ShC S) : gN S 8 = 0 := (h.2 (8, 102, 0) (by decide)).2
theorem ShC.k9 {S : St} (h : ShC S) : gK S 9 = 4 := (h.2 (9, 4, 8) (by decide)).1
theorem ShC.n9 {S : St} (h : ShC S) : gN S 9 = 8 := (h.2 (9, 4, 8) (by decide)).2
theorem ShC.k10 {S : St} (h : ShC S) : gK S 10 = 100 := (h.2 (10, 100, 60) (by decide)).1
theorem ShC.n10 {S : St} (h : ShC S) : gN S 10 = 60 := (h.2 (10, 100, 60) (by decide)).2
theorem ShC.k11 {S : St} (h : ShC S) : gK S 11 = 100 := (h.2 (11, 100, 2) (by decide)).1
theorem ShC.n11 {S : St} (h : ShC S) : gN S 11 = 2 := (h.2 (11, 100, 2) (by decide)).2
theorem ShC.k12 {S : St} (h : ShC S) : gK S 12 = 100 := (h.2 (12, 100, 10) (by decide)).1
theorem ShC.n12 {S : St} (h : ShC S) : gN S 12 = 10 := (h.2 (12, 100, 10) (by decide)).2
theorem ShC.k13 {S : St} (h : ShC S) : gK S 13 = 100 := (h.2 (13, 100, 10) (by decide)).1
theorem ShC.n13 {S : St} (h : ShC S) : gN S 13 = 10 := (h.2 (13, 100, 10) (by decide)).2
theorem ShC.k14 {S : St} (h : ShC S) : gK S 14 = 3 := (h.2 (14, 3, 2) (by decide)).1
theorem ShC.n14 {S : St} (h : ShC S) : gN S 14 = 2 := (h.2 (14, 3, 2) (by decide)).2
theorem ShC.k15 {S : St} (h : ShC S) : gK S 15 = 100 := (h.2 (15, 100, 32) (by decide)).1
theorem ShC.n15 {S : St} (h : ShC S) : gN S 15 = 32 := (h.2 (15, 100, 32) (by decide)).2
theorem ShC.k16 {S : St} (h : ShC S) : gK S 16 = 105 := (h.2 (16, 105, 4) (by decide)).1
theorem ShC.n16 {S : St} (h : ShC S) : gN S 16 = 4 := (h.2 (16, 105, 4) (by decide)).2
theorem ShC.k17 {S : St} (h : ShC S) : gK S 17 = 1 := (h.2 (17, 1, 4) (by decide)).1
theorem ShC.n17 {S : St} (h : ShC S) : gN S 17 = 4 := (h.2 (17, 1, 4) (by decide)).2
theorem ShC.k18 {S : St} (h : ShC S) : gK S 18 = 100 := (h.2 (18, 100, 6250) (by decide)).1
theorem ShC.n18 {S : St} (h : ShC S) : gN S 18 = 6250 := (h.2 (18, 100, 6250) (by decide)).2
theorem ShC.k19 {S : St} (h : ShC S) : gK S 19 = 1 := (h.2 (19, 1, 4) (by decide)).1
theorem ShC.n19 {S : St} (h : ShC S) : gN S 19 = 4 := (h.2 (19, 1, 4) (by decide)).2
theorem ShC.k20 {S : St} (h : ShC S) : gK S 20 = 100 := (h.2 (20, 100, 6250) (by decide)).1
theorem ShC.n20 {S : St} (h : ShC S) : gN S 20 = 6250 := (h.2 (20, 100, 6250) (by decide)).2
theorem ShC.k21 {S : St} (h : ShC S) : gK S 21 = 6 := (h.2 (21, 6, 1) (by decide)).1
theorem ShC.n21 {S : St} (h : ShC S) : gN S 21 = 1 := (h.2 (21, 6, 1) (by decide)).2
theorem ShC.k22 {S : St} (h : ShC S) : gK S 22 = 100 := (h.2 (22, 100, 3125) (by decide)).1
theorem ShC.n22 {S : St} (h : ShC S) : gN S 22 = 3125 := (h.2 (22, 100, 3125) (by decide)).2
theorem ShC.k23 {S : St} (h : ShC S) : gK S 23 = 100 := (h.2 (23, 100, 250) (by decide)).1
theorem ShC.n23 {S : St} (h : ShC S) : gN S 23 = 250 := (h.2 (23, 100, 250) (by decide)).2
theorem ShC.k24 {S : St} (h : ShC S) : gK S 24 = 100 := (h.2 (24, 100, 250) (by decide)).1
theorem ShC.n24 {S : St} (h : ShC S) : gN S 24 = 250 := (h.2 (24, 100, 250) (by decide)).2
theorem ShC.k31 {S : St} (h : ShC S) : gK S 31 = 0 := (h.2 (31, 0, 3) (by decide)).1
theorem ShC.n31 {S : St} (h : ShC S) : gN S 31 = 3 := (h.2 (31, 0, 3) (by decide)).2
theorem ShC.k32 {S : St} (h : ShC S) : gK S 32 = 100 := (h.2 (32, 100, 60) (by decide)).1
theorem ShC.n32 {S : St} (h : ShC S) : gN S 32 = 60 := (h.2 (32, 100, 60) (by decide)).2
theorem ShC.k33 {S : St} (h : ShC S) : gK S 33 = 0 := (h.2 (33, 0, 3) (by decide)).1
theorem ShC.n33 {S : St} (h : ShC S) : gN S 33 = 3 := (h.2 (33, 0, 3) (by decide)).2
theorem ShC.k34 {S : St} (h : ShC S) : gK S 34 = 100 := (h.2 (34, 100, 60) (by decide)).1
theorem ShC.n34 {S : St} (h : ShC S) : gN S 34 = 60 := (h.2 (34, 100, 60) (by decide)).2
theorem ShC.k35 {S : St} (h : ShC S) : gK S 35 = 0 := (h.2 (35, 0, 3) (by decide)).1
theorem ShC.n35 {S : St} (h : ShC S) : gN S 35 = 3 := (h.2 (35, 0, 3) (by decide)).2
theorem ShC.k36 {S : St} (h : ShC S) : gK S 36 = 100 := (h.2 (36, 100, 60) (by decide)).1
theorem ShC.n36 {S : St} (h : ShC S) : gN S 36 = 60 := (h.2 (36, 100, 60) (by decide)).2
theorem ShC.k37 {S : St} (h : ShC S) : gK S 37 = 0 := (h.2 (37, 0, 3) (by decide)).1
theorem ShC.n37 {S : St} (h : ShC S) : gN S 37 = 3 := (h.2 (37, 0, 3) (by decide)).2
theorem ShC.k38 {S : St} (h : ShC S) : gK S 38 = 100 := (h.2 (38, 100, 60) (by decide)).1
theorem ShC.n38 {S : St} (h : ShC S) : gN S 38 = 60 := (h.2 (38, 100, 60) (by decide)).2
def shM_R : List (Nat × Nat × Nat) := [(39, 2, 40), (39, 10, 41), (39, 11, 42), (39, 12, 43), (39, 13, 44), (39, 14, 45), (39, 15, 46), (39, 16, 47), (39, 17, 48), (39, 18, 49), (39, 19, 50), (39, 23, 51), (39, 24, 52), (39, 25, 53), (39, 26, 54), (39, 27, 55), (39, 28, 56), (39, 29, 57), (39, 30, 58), (39, 31, 59), (39, 32, 60), (39, 33, 61), (39, 34, 62), (39, 36, 63), (39, 37, 64), (39, 42, 65), (39, 43, 66), (39, 45, 67), (39, 46, 68), (39, 47, 69), (39, 49, 70), (39, 50, 71), (39, 51, 72)]
def shM_K : List (Nat × Nat × Nat) := [(39, 8, 52), (40, 100, 1000), (41, 100, 6), (42, 100, 6), (43, 100, 6), (44, 100, 6), (45, 100, 36), (46, 100, 36), (47, 101, 6), (48, 100, 6), (49, 100, 6), (50, 100, 6000), (51, 100, 7), (52, 104, 7), (53, 100, 7), (54, 100, 7), (55, 100, 7), (56, 100, 7), (57, 100, 7), (58, 100, 7), (59, 100, 7), (60, 100, 7), (61, 100, 7), (62, 100, 20), (63, 100, 2560), (64, 100, 3840), (65, 103, 65536), (66, 103, 65536), (67, 103, 65536), (68, 100, 65536), (69, 100, 65536), (70, 104, 4), (71, 100, 15616), (72, 100, 4)]
def ShM (S : St) : Prop := (∀ q ∈ shM_R, gR S q.1 q.2.1 = q.2.2) ∧ ∀ q ∈ shM_K, gK S q.1 = q.2.1 ∧ gN S q.1 = q.2.2
theorem ShM.of {S S' : St} (h : ShM S) (e : S'.2.2 = S.2.2) : ShM S' := by
  unfold ShM gR gK gN at h ⊢
  rw [e]
  exact h
theorem ShM.r39_2 {S : St} (h : ShM S) : gR S 39 2 = 40 := h.1 (39, 2, 40) (by decide)
theorem ShM.r39_10 {S : St} (h : ShM S) : gR S 39 10 = 41 := h.1 (39, 10, 41) (by decide)
theorem ShM.r39_11 {S : St} (h : ShM S) : gR S 39 11 = 42 := h.1 (39, 11, 42) (by decide)
theorem ShM.r39_12 {S : St} (h : ShM S) : gR S 39 12 = 43 := h.1 (39, 12, 43) (by decide)
theorem ShM.r39_13 {S : St} (h : ShM S) : gR S 39 13 = 44 := h.1 (39, 13, 44) (by decide)
theorem ShM.r39_14 {S : St} (h : ShM S) : gR S 39 14 = 45 := h.1 (39, 14, 45) (by decide)
theorem ShM.r39_15 {S : St} (h : ShM S) : gR S 39 15 = 46 := h.1 (39, 15, 46) (by decide)
theorem ShM.r39_16 {S : St} (h : ShM S) : gR S 39 16 = 47 := h.1 (39, 16, 47) (by decide)
theorem ShM.r39_17 {S : St} (h : ShM S) : gR S 39 17 = 48 := h.1 (39, 17, 48) (by decide)
theorem ShM.r39_18 {S : St} (h : ShM S) : gR S 39 18 = 49 := h.1 (39, 18, 49) (by decide)
theorem ShM.r39_19 {S : St} (h : ShM S) : gR S 39 19 = 50 := h.1 (39, 19, 50) (by decide)
theorem ShM.r39_23 {S : St} (h : ShM S) : gR S 39 23 = 51 := h.1 (39, 23, 51) (by decide)
theorem ShM.r39_24 {S : St} (h : ShM S) : gR S 39 24 = 52 := h.1 (39, 24, 52) (by decide)
theorem ShM.r39_25 {S : St} (h : ShM S) : gR S 39 25 = 53 := h.1 (39, 25, 53) (by decide)
theorem ShM.r39_26 {S : St} (h : ShM S) : gR S 39 26 = 54 := h.1 (39, 26, 54) (by decide)
theorem ShM.r39_27 {S : St} (h : ShM S) : gR S 39 27 = 55 := h.1 (39, 27, 55) (by decide)
theorem ShM.r39_28 {S : St} (h : ShM S) : gR S 39 28 = 56 := h.1 (39, 28, 56) (by decide)
theorem ShM.r39_29 {S : St} (h : ShM S) : gR S 39 29 = 57 := h.1 (39, 29, 57) (by decide)
theorem ShM.r39_30 {S : St} (h : ShM S) : gR S 39 30 = 58 := h.1 (39, 30, 58) (by decide)
theorem ShM.r39_31 {S : St} (h : ShM S) : gR S 39 31 = 59 := h.1 (39, 31, 59) (by decide)
theorem ShM.r39_32 {S : St} (h : ShM S) : gR S 39 32 = 60 := h.1 (39, 32, 60) (by decide)
theorem ShM.r39_33 {S : St} (h : ShM S) : gR S 39 33 = 61 := h.1 (39, 33, 61) (by decide)
theorem ShM.r39_34 {S : St} (h : ShM S) : gR S 39 34 = 62 := h.1 (39, 34, 62) (by decide)
theorem ShM.r39_36 {S : St} (h : ShM S) : gR S 39 36 = 63 := h.1 (39, 36, 63) (by decide)
theorem ShM.r39_37 {S : St} (h : ShM S) : gR S 39 37 = 64 := h.1 (39, 37, 64) (by decide)
theorem ShM.r39_42 {S : St} (h : ShM S) : gR S 39 42 = 65 := h.1 (39, 42, 65) (by decide)
theorem ShM.r39_43 {S : St} (h : ShM S) : gR S 39 43 = 66 := h.1 (39, 43, 66) (by decide)
theorem ShM.r39_45 {S : St} (h : ShM S) : gR S 39 45 = 67 := h.1 (39, 45, 67) (by decide)
theorem ShM.r39_46 {S : St} (h : ShM S) : gR S 39 46 = 68 := h.1 (39, 46, 68) (by decide)
theorem ShM.r39_47 {S : St} (h : ShM S) : gR S 39 47 = 69 := h.1 (39, 47, 69) (by decide)
theorem ShM.r39_49 {S : St} (h : ShM S) : gR S 39 49 = 70 := h.1 (39, 49, 70) (by decide)
theorem ShM.r39_50 {S : St} (h : ShM S) : gR S 39 50 = 71 := h.1 (39, 50, 71) (by decide)
theorem ShM.r39_51 {S : St} (h : ShM S) : gR S 39 51 = 72 := h.1 (39, 51, 72) (by decide)
theorem ShM.k39 {S : St} (h : ShM S) : gK S 39 = 8 := (h.2 (39, 8, 52) (by decide)).1
theorem ShM.n39 {S : St} (h : ShM S) : gN S 39 = 52 := (h.2 (39, 8, 52) (by decide)).2
theorem ShM.k40 {S : St} (h : ShM S) : gK S 40 = 100 := (h.2 (40, 100, 1000) (by decide)).1
theorem ShM.n40 {S : St} (h : ShM S) : gN S 40 = 1000 := (h.2 (40, 100, 1000) (by decide)).2
theorem ShM.k41 {S : St} (h : ShM S) : gK S 41 = 100 := (h.2 (41, 100, 6) (by decide)).1
theorem ShM.n41 {S : St} (h : ShM S) : gN S 41 = 6 := (h.2 (41, 100, 6) (by decide)).2
theorem ShM.k42 {S : St} (h : ShM S) : gK S 42 = 100 := (h.2 (42, 100, 6) (by decide)).1
theorem ShM.n42 {S : St} (h : ShM S) : gN S 42 = 6 := (h.2 (42, 100, 6) (by decide)).2
theorem ShM.k43 {S : St} (h : ShM S) : gK S 43 = 100 := (h.2 (43, 100, 6) (by decide)).1
theorem ShM.n43 {S : St} (h : ShM S) : gN S 43 = 6 := (h.2 (43, 100, 6) (by decide)).2
theorem ShM.k44 {S : St} (h : ShM S) : gK S 44 = 100 := (h.2 (44, 100, 6) (by decide)).1
theorem ShM.n44 {S : St} (h : ShM S) : gN S 44 = 6 := (h.2 (44, 100, 6) (by decide)).2
theorem ShM.k45 {S : St} (h : ShM S) : gK S 45 = 100 := (h.2 (45, 100, 36) (by decide)).1
theorem ShM.n45 {S : St} (h : ShM S) : gN S 45 = 36 := (h.2 (45, 100, 36) (by decide)).2
theorem ShM.k46 {S : St} (h : ShM S) : gK S 46 = 100 := (h.2 (46, 100, 36) (by decide)).1
theorem ShM.n46 {S : St} (h : ShM S) : gN S 46 = 36 := (h.2 (46, 100, 36) (by decide)).2
theorem ShM.k47 {S : St} (h : ShM S) : gK S 47 = 101 := (h.2 (47, 101, 6) (by decide)).1
theorem ShM.n47 {S : St} (h : ShM S) : gN S 47 = 6 := (h.2 (47, 101, 6) (by decide)).2
theorem ShM.k48 {S : St} (h : ShM S) : gK S 48 = 100 := (h.2 (48, 100, 6) (by decide)).1
theorem ShM.n48 {S : St} (h : ShM S) : gN S 48 = 6 := (h.2 (48, 100, 6) (by decide)).2
theorem ShM.k49 {S : St} (h : ShM S) : gK S 49 = 100 := (h.2 (49, 100, 6) (by decide)).1
theorem ShM.n49 {S : St} (h : ShM S) : gN S 49 = 6 := (h.2 (49, 100, 6) (by decide)).2
theorem ShM.k50 {S : St} (h : ShM S) : gK S 50 = 100 := (h.2 (50, 100, 6000) (by decide)).1
theorem ShM.n50 {S : St} (h : ShM S) : gN S 50 = 6000 := (h.2 (50, 100, 6000) (by decide)).2
theorem ShM.k51 {S : St} (h : ShM S) : gK S 51 = 100 := (h.2 (51, 100, 7) (by decide)).1
theorem ShM.n51 {S : St} (h : ShM S) : gN S 51 = 7 := (h.2 (51, 100, 7) (by decide)).2
theorem ShM.k52 {S : St} (h : ShM S) : gK S 52 = 104 := (h.2 (52, 104, 7) (by decide)).1
theorem ShM.n52 {S : St} (h : ShM S) : gN S 52 = 7 := (h.2 (52, 104, 7) (by decide)).2
theorem ShM.k53 {S : St} (h : ShM S) : gK S 53 = 100 := (h.2 (53, 100, 7) (by decide)).1
theorem ShM.n53 {S : St} (h : ShM S) : gN S 53 = 7 := (h.2 (53, 100, 7) (by decide)).2
theorem ShM.k54 {S : St} (h : ShM S) : gK S 54 = 100 := (h.2 (54, 100, 7) (by decide)).1
theorem ShM.n54 {S : St} (h : ShM S) : gN S 54 = 7 := (h.2 (54, 100, 7) (by decide)).2
theorem ShM.k55 {S : St} (h : ShM S) : gK S 55 = 100 := (h.2 (55, 100, 7) (by decide)).1
theorem ShM.n55 {S : St} (h : ShM S) : gN S 55 = 7 := (h.2 (55, 100, 7) (by decide)).2
theorem ShM.k56 {S : St} (h : ShM S) : gK S 56 = 100 := (h.2 (56, 100, 7) (by decide)).1
theorem ShM.n56 {S : St} (h : ShM S) : gN S 56 = 7 := (h.2 (56, 100, 7) (by decide)).2
theorem ShM.k57 {S : St} (h : ShM S) : gK S 57 = 100 := (h.2 (57, 100, 7) (by decide)).1
theorem ShM.n57 {S : St} (h : ShM S) : gN S 57 = 7 := (h.2 (57, 100, 7) (by decide)).2
theorem ShM.k58 {S : St} (h : ShM S) : gK S 58 = 100 := (h.2 (58, 100, 7) (by decide)).1
theorem ShM.n58 {S : St} (h : ShM S) : gN S 58 = 7 := (h.2 (58, 100, 7) (by decide)).2
theorem ShM.k59 {S : St} (h : ShM S) : gK S 59 = 100 := (h.2 (59, 100, 7) (by decide)).1
theorem ShM.n59 {S : St} (h : ShM S) : gN S 59 = 7 := (h.2 (59, 100, 7) (by decide)).2
theorem ShM.k60 {S : St} (h : ShM S) : gK S 60 = 100 := (h.2 (60, 100, 7) (by decide)).1
theorem ShM.n60 {S : St} (h : ShM S) : gN S 60 = 7 := (h.2 (60, 100, 7) (by decide)).2
theorem ShM.k61 {S : St} (h : ShM S) : gK S 61 = 100 := (h.2 (61, 100, 7) (by decide)).1
theorem ShM.n61 {S : St} (h : ShM S) : gN S 61 = 7 := (h.2 (61, 100, 7) (by decide)).2
theorem ShM.k62 {S : St} (h : ShM S) : gK S 62 = 100 := (h.2 (62, 100, 20) (by decide)).1
theorem ShM.n62 {S : St} (h : ShM S) : gN S 62 = 20 := (h.2 (62, 100, 20) (by decide)).2
theorem ShM.k63 {S : St} (h : ShM S) : gK S 63 = 100 := (h.2 (63, 100, 2560) (by decide)).1
theorem ShM.n63 {S : St} (h : ShM S) : gN S 63 = 2560 := (h.2 (63, 100, 2560) (by decide)).2
theorem ShM.k64 {S : St} (h : ShM S) : gK S 64 = 100 := (h.2 (64, 100, 3840) (by decide)).1
theorem ShM.n64 {S : St} (h : ShM S) : gN S 64 = 3840 := (h.2 (64, 100, 3840) (by decide)).2
theorem ShM.k65 {S : St} (h : ShM S) : gK S 65 = 103 := (h.2 (65, 103, 65536) (by decide)).1
theorem ShM.n65 {S : St} (h : ShM S) : gN S 65 = 65536 := (h.2 (65, 103, 65536) (by decide)).2
theorem ShM.k66 {S : St} (h : ShM S) : gK S 66 = 103 := (h.2 (66, 103, 65536) (by decide)).1
theorem ShM.n66 {S : St} (h : ShM S) : gN S 66 = 65536 := (h.2 (66, 103, 65536) (by decide)).2
theorem ShM.k67 {S : St} (h : ShM S) : gK S 67 = 103 := (h.2 (67, 103, 65536) (by decide)).1
theorem ShM.n67 {S : St} (h : ShM S) : gN S 67 = 65536 := (h.2 (67, 103, 65536) (by decide)).2
theorem ShM.k68 {S : St} (h : ShM S) : gK S 68 = 100 := (h.2 (68, 100, 65536) (by decide)).1
theorem ShM.n68 {S : St} (h : ShM S) : gN S 68 = 65536 := (h.2 (68, 100, 65536) (by decide)).2
theorem ShM.k69 {S : St} (h : ShM S) : gK S 69 = 100 := (h.2 (69, 100, 65536) (by decide)).1
theorem ShM.n69 {S : St} (h : ShM S) : gN S 69 = 65536 := (h.2 (69, 100, 65536) (by decide)).2
theorem ShM.k70 {S : St} (h : ShM S) : gK S 70 = 104 := (h.2 (70, 104, 4) (by decide)).1
theorem ShM.n70 {S : St} (h : ShM S) : gN S 70 = 4 := (h.2 (70, 104, 4) (by decide)).2
theorem ShM.k71 {S : St} (h : ShM S) : gK S 71 = 100 := (h.2 (71, 100, 15616) (by decide)).1
theorem ShM.n71 {S : St} (h : ShM S) : gN S 71 = 15616 := (h.2 (71, 100, 15616) (by decide)).2
theorem ShM.k72 {S : St} (h : ShM S) : gK S 72 = 100 := (h.2 (72, 100, 4) (by decide)).1
theorem ShM.n72 {S : St} (h : ShM S) : gN S 72 = 4 := (h.2 (72, 100, 4) (by decide)).2
