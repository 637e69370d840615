/-! one call of the law after another (printed by gen/ops.py) -/
theorem ThP_m : ∀ a k, ThP a k ∨ nol a k → 39 ≤ a ∧ a ≤ 72 := fun a k z => by
  rcases z with z | z
  · have z : (a = 39 ∧ k = 0) := z
    omega
  · exact z.elim
theorem SmP_m : ∀ a k, SmP a k ∨ nol a k → 39 ≤ a ∧ a ≤ 72 := fun a k z => by
  rcases z with z | z
  · have z : (a = 64 ∨ (a = 39 ∧ (k = 0 ∨ (38 ≤ k ∧ k ≤ 41))) ∨ (53 ≤ a ∧ a ≤ 63)) := z
    omega
  · exact z.elim
theorem TaP_m : ∀ a k, TaP a k ∨ nol a k → 39 ≤ a ∧ a ≤ 72 := fun a k z => by
  rcases z with z | z
  · have z : (a = 39 ∧ (k = 0 ∨ (39 ≤ k ∧ k ≤ 41))) := z
    omega
  · exact z.elim
theorem NoP_m : ∀ a k, NoP a k ∨ nol a k → 39 ≤ a ∧ a ≤ 72 := fun a k z => by
  rcases z with z | z
  · have z : ((a = 63 ∧ 64 ≤ k) ∨ (53 ≤ a ∧ a ≤ 62) ∨ (a = 39 ∧ (k = 0 ∨ (39 ≤ k ∧ k ≤ 41) ∨ k = 44)) ∨ a = 65 ∨ a = 66) := z
    omega
  · exact z.elim
theorem MnP_m : ∀ a k, MnP a k ∨ nol a k → 39 ≤ a ∧ a ≤ 72 := fun a k z => by
  rcases z with z | z
  · have z : ((a = 63 ∧ 64 ≤ k) ∨ (53 ≤ a ∧ a ≤ 62) ∨ (a = 39 ∧ (k = 0 ∨ (39 ≤ k ∧ k ≤ 41))) ∨ a = 67) := z
    omega
  · exact z.elim
theorem WyQ_m : ∀ a k, WyQ a k ∨ nol a k → 39 ≤ a ∧ a ≤ 72 := fun a k z => by
  rcases z with z | z
  · have z : ((a = 63 ∧ 64 ≤ k) ∨ (53 ≤ a ∧ a ≤ 62) ∨ (a = 39 ∧ (k = 0 ∨ (39 ≤ k ∧ k ≤ 41))) ∨ a = 68 ∨ a = 69) := z
    omega
  · exact z.elim
theorem LoP_m : ∀ a k, LoP a k ∨ LoL a k → 39 ≤ a ∧ a ≤ 72 := fun a k z => by
  rcases z with z | z
  · have z : ((a = 63 ∧ 64 ≤ k) ∨ (53 ≤ a ∧ a ≤ 62) ∨ (a = 39 ∧ (k = 0 ∨ (39 ≤ k ∧ k ≤ 41)))) := z
    omega
  · have z : (a = 39 ∧ k = 48) := z
    omega
theorem MaK_m : ∀ a k, MaK a k ∨ nol a k → 39 ≤ a ∧ a ≤ 72 := fun a k z => by
  rcases z with z | z
  · have z : ((41 ≤ a ∧ a ≤ 50) ∨ (a = 63 ∧ k < 64) ∨ a = 64 ∨ (70 ≤ a ∧ a ≤ 72) ∨ (a = 39 ∧ (k = 0 ∨ k = 38 ∨ k = 44))) := z
    omega
  · exact z.elim
theorem FdP_m : ∀ a k, FdP a k ∨ nol a k → 39 ≤ a ∧ a ≤ 72 := fun a k z => by
  rcases z with z | z
  · have z : (a = 40 ∨ (a = 39 ∧ (k = 0 ∨ k = 1))) := z
    omega
  · exact z.elim
theorem SmP_k : ∀ a k, SmP a k → ¬ (a = 39 ∧ k = 44) ∧ a ≠ 65 ∧ a ≠ 66 := fun a k z => by
  have z : (a = 64 ∨ (a = 39 ∧ (k = 0 ∨ (38 ≤ k ∧ k ≤ 41))) ∨ (53 ≤ a ∧ a ≤ 63)) := z
  omega
theorem FdP_k : ∀ a k, FdP a k → ¬ (a = 39 ∧ k = 44) ∧ a ≠ 65 ∧ a ≠ 66 := fun a k z => by
  have z : (a = 40 ∨ (a = 39 ∧ (k = 0 ∨ k = 1))) := z
  omega
theorem inx {n c L : Nat} {cc : Int32} (hc : cc = nI c) (h : 7 * n + c < L) (hL : L ≤ 3584) : inB (nI (7 * n) + cc) L := by
  rw [hc, nI_add]
  exact inB_n h (by omega)
section OPS
variable {L n : Nat} {sx : Nat → Int32} {S : St} {z5 z6 : Value} {Q : Option Value → St → Prop}
abbrev OpN (L n : Nat) (sx : Nat → Int32) (Q : Option Value → St → Prop) : Prop := ∀ (S' : St) (z5 z6 : Value), LIv S' (n + 1) → WP (PL L sx (F 1000)) (25, lsL (nI (7 * n)) z5 z6, [], S') Q
set_option maxRecDepth 4096 in
theorem op4 (hL : L ≤ 3584) (hn : 7 * n + 7 ≤ L) (h : LIv S n) (next : OpN L n sx Q) : WP (PL L sx (F 1000)) (4, lsL (nI (7 * n)) z5 z6, [], S) Q := by
  obtain ⟨tp, T, E, A, mk, hc, hr, hw⟩ := h
  refine WP.of (t := BL_4 L sx (F 1000) (lsL (nI (7 * n)) z5 z6) [] S) rfl ?_
  unfold BL_4
  refine wr_a1 <| wr_x (inx (c := 1) (by decide) (by omega) hL) <| wr_x (inx (c := 2) (by decide) (by omega) hL) <| ?_
  refine wr_c rfl hc.1.k1 rfl (f89 (d := 999) hc) ?_
  refine wr_a2 <| wr_x (inx (c := 1) (by decide) (by omega) hL) <| wr_x (inx (c := 2) (by decide) (by omega) hL) <| ?_
  obtain ⟨v2, S2, e2, y2, rfl, hy2, f2⟩ := f156 (d := 998) (x1 := sx (nI (7 * n) + 1).toNatClampNeg) (x2 := sx (nI (7 * n) + 2).toNatClampNeg) hr.1
  refine wr_c rfl hr.1.1.k39 rfl e2 ?_
  exact wr_eq hy2.symm (next S2 _ _ (LIv.go hw hc FX.rf ⟨by omega, by omega⟩ (hr.th f2 (fun a k z => ⟨z.1, Or.inl z.2⟩)) f2 ThP_m))
set_option maxRecDepth 4096 in
theorem op5 (hL : L ≤ 3584) (hn : 7 * n + 7 ≤ L) (h : LIv S n) (next : OpN L n sx Q) : WP (PL L sx (F 1000)) (5, lsL (nI (7 * n)) z5 z6, [], S) Q := by
  obtain ⟨tp, T, E, A, mk, hc, hr, hw⟩ := h
  refine WP.of (t := BL_5 L sx (F 1000) (lsL (nI (7 * n)) z5 z6) [] S) rfl ?_
  unfold BL_5
  refine wr_a1 <| wr_x (inx (c := 1) (by decide) (by omega) hL) <| wr_x (inx (c := 2) (by decide) (by omega) hL) <| wr_x (inx (c := 3) (by decide) (by omega) hL) <| ?_
  obtain ⟨v1, S1, e1, y1, rfl, hy1, f1, c1⟩ := f90 (d := 993) (x1 := sx (nI (7 * n) + 1).toNatClampNeg) (x2 := sx (nI (7 * n) + 2).toNatClampNeg) (x3 := sx (nI (7 * n) + 3).toNatClampNeg) hc
  refine wr_c rfl hc.1.k1 rfl e1 ?_
  have r1 := hr.c f1 hw
  refine wr_a2 <| wr_x (inx (c := 1) (by decide) (by omega) hL) <| wr_x (inx (c := 2) (by decide) (by omega) hL) <| wr_x (inx (c := 3) (by decide) (by omega) hL) <| ?_
  obtain ⟨v2, S2, e2, y2, rfl, hy2, f2, r2⟩ := f157 (d := 992) (x1 := sx (nI (7 * n) + 1).toNatClampNeg) (x2 := sx (nI (7 * n) + 2).toNatClampNeg) (x3 := sx (nI (7 * n) + 3).toNatClampNeg) r1.1
  refine wr_c rfl r1.1.1.k39 rfl e2 ?_
  exact wr_eq (hy1.trans hy2.symm) (next S2 _ _ (LIv.go' hw c1 f1 ⟨r2, r1.2.fr f2 SmP_k⟩ f2 SmP_m))
set_option maxRecDepth 4096 in
theorem op6 (hL : L ≤ 3584) (hn : 7 * n + 7 ≤ L) (h : LIv S n) (next : OpN L n sx Q) : WP (PL L sx (F 1000)) (6, lsL (nI (7 * n)) z5 z6, [], S) Q := by
  obtain ⟨tp, T, E, A, mk, hc, hr, hw⟩ := h
  refine WP.of (t := BL_6 L sx (F 1000) (lsL (nI (7 * n)) z5 z6) [] S) rfl ?_
  unfold BL_6
  refine wr_a1 <| wr_x (inx (c := 1) (by decide) (by omega) hL) <| ?_
  obtain ⟨v1, S1, e1, y1, rfl, hy1, f1, c1⟩ := f91 (d := 993) (x := sx (nI (7 * n) + 1).toNatClampNeg) hc
  refine wr_c rfl hc.1.k1 rfl e1 ?_
  have r1 := hr.c f1 hw
  refine wr_a2 <| wr_x (inx (c := 1) (by decide) (by omega) hL) <| ?_
  obtain ⟨v2, S2, e2, y2, rfl, hy2, f2, r2⟩ := f158 (d := 992) (x := sx (nI (7 * n) + 1).toNatClampNeg) r1.1
  refine wr_c rfl r1.1.1.k39 rfl e2 ?_
  exact wr_eq (hy1.trans hy2.symm) (next S2 _ _ (LIv.go' hw c1 f1 ⟨r2, r1.2.fr f2 SmP_k⟩ f2 SmP_m))
set_option maxRecDepth 4096 in
theorem op7 (hL : L ≤ 3584) (hn : 7 * n + 7 ≤ L) (h : LIv S n) (next : OpN L n sx Q) : WP (PL L sx (F 1000)) (7, lsL (nI (7 * n)) z5 z6, [], S) Q := by
  obtain ⟨tp, T, E, A, mk, hc, hr, hw⟩ := h
  refine WP.of (t := BL_7 L sx (F 1000) (lsL (nI (7 * n)) z5 z6) [] S) rfl ?_
  unfold BL_7
  refine wr_a1 <| wr_x (inx (c := 1) (by decide) (by omega) hL) <| wr_x (inx (c := 2) (by decide) (by omega) hL) <| wr_x (inx (c := 3) (by decide) (by omega) hL) <| ?_
  refine wr_c rfl hc.1.k1 rfl (f92 (d := 996) hc) ?_
  refine wr_a2 <| wr_x (inx (c := 1) (by decide) (by omega) hL) <| wr_x (inx (c := 2) (by decide) (by omega) hL) <| wr_x (inx (c := 3) (by decide) (by omega) hL) <| ?_
  obtain ⟨v2, S2, e2, y2, rfl, hy2, f2⟩ := f159 (d := 996) (x1 := sx (nI (7 * n) + 1).toNatClampNeg) (x2 := sx (nI (7 * n) + 2).toNatClampNeg) (x3 := sx (nI (7 * n) + 3).toNatClampNeg) hr.1
  refine wr_c rfl hr.1.1.k39 rfl e2 ?_
  exact wr_eq hy2.symm (next S2 _ _ (LIv.go hw hc FX.rf ⟨by omega, by omega⟩ (hr.th f2 (fun a k z => ⟨z.1, Or.inl z.2⟩)) f2 ThP_m))
set_option maxRecDepth 4096 in
theorem op8 (hL : L ≤ 3584) (hn : 7 * n + 7 ≤ L) (h : LIv S n) (next : OpN L n sx Q) : WP (PL L sx (F 1000)) (8, lsL (nI (7 * n)) z5 z6, [], S) Q := by
  obtain ⟨tp, T, E, A, mk, hc, hr, hw⟩ := h
  refine WP.of (t := BL_8 L sx (F 1000) (lsL (nI (7 * n)) z5 z6) [] S) rfl ?_
  unfold BL_8
  refine wr_a1 <| ?_
  obtain ⟨v1, S1, e1, y1, rfl, hy1, f1, c1⟩ := f93 (d := 993) hc
  refine wr_c rfl hc.1.k1 rfl e1 ?_
  have r1 := hr.c f1 hw
  refine wr_a2 <| ?_
  obtain ⟨v2, S2, e2, y2, rfl, hy2, f2, r2⟩ := f160 (d := 999)  r1.1
  refine wr_c rfl r1.1.1.k39 rfl e2 ?_
  exact wr_eq (hy1.trans hy2.symm) (next S2 _ _ (LIv.go' hw c1 f1 ⟨r2, r1.2.fr f2 SmP_k⟩ f2 SmP_m))
set_option maxRecDepth 4096 in
theorem op9 (hL : L ≤ 3584) (hn : 7 * n + 7 ≤ L) (h : LIv S n) (next : OpN L n sx Q) : WP (PL L sx (F 1000)) (9, lsL (nI (7 * n)) z5 z6, [], S) Q := by
  obtain ⟨tp, T, E, A, mk, hc, hr, hw⟩ := h
  refine WP.of (t := BL_9 L sx (F 1000) (lsL (nI (7 * n)) z5 z6) [] S) rfl ?_
  unfold BL_9
  refine wr_a1 <| wr_x (inx (c := 1) (by decide) (by omega) hL) <| wr_x (inx (c := 2) (by decide) (by omega) hL) <| ?_
  refine wr_c rfl hc.1.k1 rfl (f94 (d := 998) hc) ?_
  refine wr_a2 <| wr_x (inx (c := 1) (by decide) (by omega) hL) <| wr_x (inx (c := 2) (by decide) (by omega) hL) <| ?_
  obtain ⟨v2, S2, e2, y2, rfl, hy2, f2⟩ := f161 (d := 998) (x1 := sx (nI (7 * n) + 1).toNatClampNeg) (x2 := sx (nI (7 * n) + 2).toNatClampNeg) hr.1
  refine wr_c rfl hr.1.1.k39 rfl e2 ?_
  exact wr_eq hy2.symm (next S2 _ _ (LIv.go hw hc FX.rf ⟨by omega, by omega⟩ (hr.th f2 (fun a k z => ⟨z.1, Or.inl z.2⟩)) f2 ThP_m))
set_option maxRecDepth 4096 in
theorem op12 (hL : L ≤ 3584) (hn : 7 * n + 7 ≤ L) (h : LIv S n) (next : OpN L n sx Q) : WP (PL L sx (F 1000)) (12, lsL (nI (7 * n)) z5 z6, [], S) Q := by
  obtain ⟨tp, T, E, A, mk, hc, hr, hw⟩ := h
  refine WP.of (t := BL_12 L sx (F 1000) (lsL (nI (7 * n)) z5 z6) [] S) rfl ?_
  unfold BL_12
  refine wr_a1 <| wr_x (inx (c := 1) (by decide) (by omega) hL) <| wr_x (inx (c := 2) (by decide) (by omega) hL) <| ?_
  refine wr_c rfl hc.1.k1 rfl (f95 (d := 997) hc) ?_
  refine wr_a2 <| wr_x (inx (c := 1) (by decide) (by omega) hL) <| wr_x (inx (c := 2) (by decide) (by omega) hL) <| ?_
  obtain ⟨v2, S2, e2, y2, rfl, hy2, f2⟩ := f164 (d := 994) (x1 := sx (nI (7 * n) + 1).toNatClampNeg) (x2 := sx (nI (7 * n) + 2).toNatClampNeg) hr.1
  refine wr_c rfl hr.1.1.k39 rfl e2 ?_
  exact wr_eq hy2.symm (next S2 _ _ (LIv.go hw hc FX.rf ⟨by omega, by omega⟩ (hr.th f2 (fun a k z => z)) f2 TaP_m))
set_option maxRecDepth 4096 in
theorem op13 (hL : L ≤ 3584) (hn : 7 * n + 7 ≤ L) (h : LIv S n) (next : OpN L n sx Q) : WP (PL L sx (F 1000)) (13, lsL (nI (7 * n)) z5 z6, [], S) Q := by
  obtain ⟨tp, T, E, A, mk, hc, hr, hw⟩ := h
  refine WP.of (t := BL_13 L sx (F 1000) (lsL (nI (7 * n)) z5 z6) [] S) rfl ?_
  unfold BL_13
  refine wr_a1 <| ?_
  obtain ⟨v1, S1, e1, y1, rfl, hy1, f1, c1⟩ := f96 (d := 961) hc
  refine wr_c rfl hc.1.k1 rfl e1 ?_
  have r1 := hr.c f1 hw
  refine wr_a2 <| ?_
  obtain ⟨v2, S2, e2, y2, rfl, hy2, f2, r2⟩ := f174 (d := 975)  r1
  refine wr_c rfl r1.1.1.k39 rfl e2 ?_
  exact wr_eq (hy1.trans hy2.symm) (next S2 _ _ (LIv.go' hw c1 f1 r2 f2 NoP_m))
set_option maxRecDepth 4096 in
theorem op14 (hL : L ≤ 3584) (hn : 7 * n + 7 ≤ L) (h : LIv S n) (next : OpN L n sx Q) : WP (PL L sx (F 1000)) (14, lsL (nI (7 * n)) z5 z6, [], S) Q := by
  obtain ⟨tp, T, E, A, mk, hc, hr, hw⟩ := h
  refine WP.of (t := BL_14 L sx (F 1000) (lsL (nI (7 * n)) z5 z6) [] S) rfl ?_
  unfold BL_14
  refine wr_a1 <| ?_
  obtain ⟨v1, S1, e1, y1, rfl, hy1, f1, c1⟩ := f97 (d := 961) hc
  refine wr_c rfl hc.1.k1 rfl e1 ?_
  have r1 := hr.c f1 hw
  refine wr_a2 <| ?_
  obtain ⟨v2, S2, e2, y2, rfl, hy2, f2, r2⟩ := f175 (d := 975)  r1
  refine wr_c rfl r1.1.1.k39 rfl e2 ?_
  exact wr_eq (hy1.trans hy2.symm) (next S2 _ _ (LIv.go' hw c1 f1 r2 f2 NoP_m))
set_option maxRecDepth 4096 in
theorem op15 (hL : L ≤ 3584) (hn : 7 * n + 7 ≤ L) (h : LIv S n) (next : OpN L n sx Q) : WP (PL L sx (F 1000)) (15, lsL (nI (7 * n)) z5 z6, [], S) Q := by
  obtain ⟨tp, T, E, A, mk, hc, hr, hw⟩ := h
  refine WP.of (t := BL_15 L sx (F 1000) (lsL (nI (7 * n)) z5 z6) [] S) rfl ?_
  unfold BL_15
  refine wr_a1 <| ?_
  obtain ⟨v1, S1, e1, y1, rfl, hy1, f1, c1⟩ := f98 (d := 961) hc
  refine wr_c rfl hc.1.k1 rfl e1 ?_
  have r1 := hr.c f1 hw
  refine wr_a2 <| ?_
  obtain ⟨v2, S2, e2, y2, rfl, hy2, f2, r2⟩ := f177 (d := 975)  r1
  refine wr_c rfl r1.1.1.k39 rfl e2 ?_
  exact wr_eq (aBest_uni hy1 hy2) (next S2 _ _ (LIv.go' hw c1 f1 r2 f2 NoP_m))
set_option maxRecDepth 4096 in
theorem op16 (hL : L ≤ 3584) (hn : 7 * n + 7 ≤ L) (h : LIv S n) (next : OpN L n sx Q) : WP (PL L sx (F 1000)) (16, lsL (nI (7 * n)) z5 z6, [], S) Q := by
  obtain ⟨tp, T, E, A, mk, hc, hr, hw⟩ := h
  refine WP.of (t := BL_16 L sx (F 1000) (lsL (nI (7 * n)) z5 z6) [] S) rfl ?_
  unfold BL_16
  refine wr_a1 <| wr_x (inx (c := 1) (by decide) (by omega) hL) <| ?_
  obtain ⟨v1, S1, e1, y1, rfl, hy1, f1, c1⟩ := f99 (d := 961) (x := sx (nI (7 * n) + 1).toNatClampNeg) hc
  refine wr_c rfl hc.1.k1 rfl e1 ?_
  have r1 := hr.c f1 hw
  refine wr_a2 <| wr_x (inx (c := 1) (by decide) (by omega) hL) <| ?_
  obtain ⟨v2, S2, e2, y2, rfl, hy2, f2, r2⟩ := f178 (d := 975) (x := sx (nI (7 * n) + 1).toNatClampNeg) r1
  refine wr_c rfl r1.1.1.k39 rfl e2 ?_
  exact wr_eq (hy1.trans hy2.symm) (next S2 _ _ (LIv.go' hw c1 f1 r2 f2 NoP_m))
set_option maxRecDepth 4096 in
theorem op17 (hL : L ≤ 3584) (hn : 7 * n + 7 ≤ L) (h : LIv S n) (next : OpN L n sx Q) : WP (PL L sx (F 1000)) (17, lsL (nI (7 * n)) z5 z6, [], S) Q := by
  obtain ⟨tp, T, E, A, mk, hc, hr, hw⟩ := h
  refine WP.of (t := BL_17 L sx (F 1000) (lsL (nI (7 * n)) z5 z6) [] S) rfl ?_
  unfold BL_17
  refine wr_a1 <| wr_x (inx (c := 1) (by decide) (by omega) hL) <| wr_x (inx (c := 2) (by decide) (by omega) hL) <| ?_
  obtain ⟨v1, S1, e1, y1, rfl, hy1, f1, c1⟩ := f100 (d := 962) (x1 := sx (nI (7 * n) + 1).toNatClampNeg) (x2 := sx (nI (7 * n) + 2).toNatClampNeg) hc
  refine wr_c rfl hc.1.k1 rfl e1 ?_
  have r1 := hr.c f1 hw
  refine wr_a2 <| wr_x (inx (c := 1) (by decide) (by omega) hL) <| wr_x (inx (c := 2) (by decide) (by omega) hL) <| ?_
  obtain ⟨v2, S2, e2, y2, rfl, hy2, f2, r2⟩ := f181 (d := 976) (x1 := sx (nI (7 * n) + 1).toNatClampNeg) (x2 := sx (nI (7 * n) + 2).toNatClampNeg) r1
  refine wr_c rfl r1.1.1.k39 rfl e2 ?_
  exact wr_eq (hy1.trans hy2.symm) (next S2 _ _ (LIv.go' hw c1 f1 r2 f2 MnP_m))
set_option maxRecDepth 4096 in
theorem op18 (hL : L ≤ 3584) (hn : 7 * n + 7 ≤ L) (h : LIv S n) (next : OpN L n sx Q) : WP (PL L sx (F 1000)) (18, lsL (nI (7 * n)) z5 z6, [], S) Q := by
  obtain ⟨tp, T, E, A, mk, hc, hr, hw⟩ := h
  refine WP.of (t := BL_18 L sx (F 1000) (lsL (nI (7 * n)) z5 z6) [] S) rfl ?_
  unfold BL_18
  refine wr_a1 <| wr_x (inx (c := 1) (by decide) (by omega) hL) <| ?_
  obtain ⟨v1, S1, e1, y1, rfl, hy1, f1, c1⟩ := f101 (d := 992) (x := sx (nI (7 * n) + 1).toNatClampNeg) hc
  refine wr_c rfl hc.1.k1 rfl e1 ?_
  have r1 := hr.c f1 hw
  refine wr_a2 <| wr_x (inx (c := 1) (by decide) (by omega) hL) <| ?_
  obtain ⟨v2, S2, e2, y2, rfl, hy2, f2, r2⟩ := f183 (d := 991) (x := sx (nI (7 * n) + 1).toNatClampNeg) r1
  refine wr_c rfl r1.1.1.k39 rfl e2 ?_
  exact wr_eq (hy1.trans hy2.symm) (next S2 _ _ (LIv.go' hw c1 f1 r2 f2 WyQ_m))
set_option maxRecDepth 4096 in
theorem op19 (hL : L ≤ 3584) (hn : 7 * n + 7 ≤ L) (h : LIv S n) (next : OpN L n sx Q) : WP (PL L sx (F 1000)) (19, lsL (nI (7 * n)) z5 z6, [], S) Q := by
  obtain ⟨tp, T, E, A, mk, hc, hr, hw⟩ := h
  refine WP.of (t := BL_19 L sx (F 1000) (lsL (nI (7 * n)) z5 z6) [] S) rfl ?_
  unfold BL_19
  refine wr_a1 <| wr_x (inx (c := 1) (by decide) (by omega) hL) <| ?_
  obtain ⟨v1, S1, e1, y1, rfl, hy1, f1, c1⟩ := f102 (d := 992) (x := sx (nI (7 * n) + 1).toNatClampNeg) hc
  refine wr_c rfl hc.1.k1 rfl e1 ?_
  have r1 := hr.c f1 hw
  refine wr_a2 <| wr_x (inx (c := 1) (by decide) (by omega) hL) <| ?_
  obtain ⟨v2, S2, e2, y2, rfl, hy2, f2, r2⟩ := f184 (d := 991) (x := sx (nI (7 * n) + 1).toNatClampNeg) r1
  refine wr_c rfl r1.1.1.k39 rfl e2 ?_
  exact wr_eq (hy1.trans hy2.symm) (next S2 _ _ (LIv.go' hw c1 f1 r2 f2 WyQ_m))
set_option maxRecDepth 4096 in
theorem op20 (hL : L ≤ 3584) (hn : 7 * n + 7 ≤ L) (h : LIv S n) (next : OpN L n sx Q) : WP (PL L sx (F 1000)) (20, lsL (nI (7 * n)) z5 z6, [], S) Q := by
  obtain ⟨tp, T, E, A, mk, hc, hr, hw⟩ := h
  refine WP.of (t := BL_20 L sx (F 1000) (lsL (nI (7 * n)) z5 z6) [] S) rfl ?_
  unfold BL_20
  refine wr_a1 <| wr_x (inx (c := 1) (by decide) (by omega) hL) <| wr_x (inx (c := 2) (by decide) (by omega) hL) <| wr_x (inx (c := 3) (by decide) (by omega) hL) <| ?_
  obtain ⟨v1, S1, e1, y1, rfl, hy1, f1, c1⟩ := f103 (d := 994) (x1 := sx (nI (7 * n) + 1).toNatClampNeg) (x2 := sx (nI (7 * n) + 2).toNatClampNeg) (x3 := sx (nI (7 * n) + 3).toNatClampNeg) hc
  refine wr_c rfl hc.1.k1 rfl e1 ?_
  have r1 := hr.c f1 hw
  refine wr_a2 <| wr_x (inx (c := 1) (by decide) (by omega) hL) <| wr_x (inx (c := 2) (by decide) (by omega) hL) <| wr_x (inx (c := 3) (by decide) (by omega) hL) <| ?_
  obtain ⟨v2, S2, e2, y2, rfl, hy2, f2, r2⟩ := f186 (d := 992) (x1 := sx (nI (7 * n) + 1).toNatClampNeg) (x2 := sx (nI (7 * n) + 2).toNatClampNeg) (x3 := sx (nI (7 * n) + 3).toNatClampNeg) r1
  refine wr_c rfl r1.1.1.k39 rfl e2 ?_
  exact wr_eq (hy1.trans hy2.symm) (next S2 _ _ (LIv.go' hw c1 f1 r2 f2 LoP_m))
set_option maxRecDepth 4096 in
theorem op24 (hL : L ≤ 3584) (hn : 7 * n + 7 ≤ L) (h : LIv S n) (next : OpN L n sx Q) : WP (PL L sx (F 1000)) (24, lsL (nI (7 * n)) z5 z6, [], S) Q := by
  obtain ⟨tp, T, E, A, mk, hc, hr, hw⟩ := h
  refine WP.of (t := BL_24 L sx (F 1000) (lsL (nI (7 * n)) z5 z6) [] S) rfl ?_
  unfold BL_24
  refine wr_a1 <| wr_x (inx (c := 1) (by decide) (by omega) hL) <| ?_
  refine wr_c rfl hc.1.k1 rfl (f105 (d := 999) hc) ?_
  refine wr_a2 <| wr_x (inx (c := 1) (by decide) (by omega) hL) <| ?_
  obtain ⟨v2, S2, e2, y2, rfl, hy2, f2⟩ := f188 (d := 998) (x := sx (nI (7 * n) + 1).toNatClampNeg) hr.1
  refine wr_c rfl hr.1.1.k39 rfl e2 ?_
  exact wr_eq hy2.symm (next S2 _ _ (LIv.go hw hc FX.rf ⟨by omega, by omega⟩ (hr.th f2 (fun a k z => ⟨z.1, Or.inl z.2⟩)) f2 ThP_m))
end OPS
