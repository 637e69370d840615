/-! the calls that need a word more: feed, truce, state, mark; the loop; the beginning -/
section OPS
variable {L n : Nat} {sx : Nat → Int32} {S S1 S2 : St} {z5 z6 : Value} {Q : Option Value → St → Prop} {md : Nat → K} {i : Int32} {st : List Value} {k : K} {orc : Orc}
theorem LIv.go2 {tp : List Nat} {T : TD} {E : Env → Int32} {A : List Nat} {mk : Nat → Option MkD} {P0 P PL : Nat → Nat → Prop} (hL : Lw S n) (c1 : CI S1 tp T E A mk) (f1 : FX P0 S S1) (hg : gZ S1 ≤ gZ S + 6 ∧ gU S1 ≤ gU S + 1600) (r2 : RI S2 tp T E A mk) (f2 : Fr P PL S1 S2) (hP : ∀ a k, P a k ∨ PL a k → 39 ≤ a ∧ a ≤ 72) : LIv S2 (n + 1) := by
  obtain ⟨l1, l2, l3, l4, l5⟩ := hL
  have f3 : FX (fun a _ => 39 ≤ a ∧ a ≤ 72) S1 S2 := f2.X (fun a k _ z => hP a k z)
  refine ⟨tp, T, E, A, mk, c1.fx f3 (c1.2.1.Z (by rw [f2.2.2])) (fun a k z => ⟨z.1, by have := z.2; omega⟩), r2, by rw [f2.K, f1.K l3]; exact l1, by rw [f2.N, f1.N l3]; exact l2, by rw [f2.Z]; exact Nat.le_trans l3 f1.1.1, by rw [f2.Z]; omega, by rw [f2.U]; omega⟩
set_option maxRecDepth 4096 in
theorem op3 (h : LIv S n) (next : OpN L n sx Q) : WP (PL L sx (F 1000)) (3, lsL (nI (7 * n)) z5 z6, [], S) Q := by
  obtain ⟨tp, T, E, A, mk, hc, hr, hw⟩ := h
  refine WP.of (t := BL_3 L sx (F 1000) (lsL (nI (7 * n)) z5 z6) [] S) rfl ?_
  unfold BL_3
  refine wr_a1 ?_
  obtain ⟨v1, S1, e1, f1, g1, res, hres, hm⟩ := f88 (d := 960) hc hw.2.2.1
  have r1 := hr.fx f1 (by have := hw.2.2.1; omega) CP_m
  have hMP : ∀ a k, MP a k ∨ MP a k → 39 ≤ a ∧ a ≤ 72 := fun a k z => z.elim id id
  obtain ⟨v2, S2, e2, y2, rfl, f2, hm2⟩ := f138 (D := 992) r1 hc.2.2.1.2.2.1 hres
  cases res with
  | inl f =>
    obtain ⟨rfl, c1⟩ := hm
    obtain ⟨hy2, r2⟩ := hm2
    refine wr_c rfl hc.1.k1 rfl e1 ?_
    refine wr_a2 ?_
    refine wr_c rfl r1.1.1.k39 rfl e2 ?_
    exact wr_eq hy2.symm (next S2 _ _ (LIv.go2 hw c1 f1 g1 r2 f2 hMP))
  | inr z =>
    obtain ⟨w, hh, s⟩ := z
    obtain ⟨rfl, c1⟩ := hm
    obtain ⟨hy2, r2⟩ := hm2
    refine wr_c rfl hc.1.k1 rfl e1 ?_
    refine wr_a2 ?_
    refine wr_c rfl r1.1.1.k39 rfl e2 ?_
    exact wr_eq hy2.symm (next S2 _ _ (LIv.go2 hw c1 f1 g1 r2 f2 hMP))
/-- two ints of the script as one long -/
def lx (sx : Nat → Int32) (i c1 c2 : Int32) : Int64 := ((sx (i + c1).toNatClampNeg).toInt64 <<< ((32 : Int32).toInt64 &&& 63)) ||| ((sx (i + c2).toNatClampNeg).toInt64 &&& 4294967295)
theorem wr_xl {c1 c2 : Int32} (h1 : inB (i + c1) L) (h2 : inB (i + c2) L) (h : WR md (k (lsL i z5 z6) (.long (lx sx i c1 c2) :: st) S) Q) : WR md (o_sload 0 (o_iload 4 (o_iconst c1 (o_i2 (fun x y => x + y) (o_xld L sx (o_i2l (o_iconst 32 (o_lsh (fun x y => x <<< (y.toInt64 &&& 63)) (o_sload 0 (o_iload 4 (o_iconst c2 (o_i2 (fun x y => x + y) (o_xld L sx (o_i2l (o_lconst 4294967295 (o_l2 (fun x y => x &&& y) (o_l2 (fun x y => x ||| y) k)))))))))))))))) (lsL i z5 z6) st S) Q := by
  show WR md (if 30 = 30 ∧ inB (i + c1) L then (if 30 = 30 ∧ inB (i + c2) L then k (lsL i z5 z6) (.long (lx sx i c1 c2) :: st) S else none) else none) Q
  rw [if_pos ⟨rfl, h1⟩, if_pos ⟨rfl, h2⟩]
  exact h
set_option maxRecDepth 4096 in
theorem op2 (hL : L ≤ 3584) (hn : 7 * n + 7 ≤ L) (h : LIv S n) (next : OpN L n sx Q) : WP (PL L sx (F 1000)) (2, lsL (nI (7 * n)) z5 z6, [], S) Q := by
  obtain ⟨tp, T, E, A, mk, hc, hr, hw⟩ := h
  refine WP.of (t := BL_2 L sx (F 1000) (lsL (nI (7 * n)) z5 z6) [] S) rfl ?_
  unfold BL_2
  have i1 : inB (nI (7 * n) + 1) L := inx (c := 1) (by decide) (by omega) hL
  have i2 : inB (nI (7 * n) + 2) L := inx (c := 2) (by decide) (by omega) hL
  have i3 : inB (nI (7 * n) + 3) L := inx (c := 3) (by decide) (by omega) hL
  have i4 : inB (nI (7 * n) + 4) L := inx (c := 4) (by decide) (by omega) hL
  have i5 : inB (nI (7 * n) + 5) L := inx (c := 5) (by decide) (by omega) hL
  have i6 : inB (nI (7 * n) + 6) L := inx (c := 6) (by decide) (by omega) hL
  refine wr_a1 (wr_xl i1 i2 (wr_xl i3 i4 (wr_xl i5 i6 ?_)))
  obtain ⟨a, ha, ea⟩ := wb_of (lx sx (nI (7 * n)) 1 2)
  obtain ⟨b, hb, eb⟩ := wb_of (lx sx (nI (7 * n)) 3 4)
  obtain ⟨c, hcc, ec⟩ := wb_of (lx sx (nI (7 * n)) 5 6)
  have q1 := f87 (d := 998) hc ha hb hcc
  rw [← ea, ← eb, ← ec] at q1
  obtain ⟨v1, S1, e1, y1, rfl, hy1, f1, c1⟩ := q1
  refine wr_c rfl hc.1.k1 rfl e1 ?_
  have r1 := hr.c f1 hw
  refine wr_a2 (wr_xl i1 i2 (wr_xl i3 i4 (wr_xl i5 i6 ?_)))
  have q2 := f115 (d := 999) r1.1 hc.2.2.1.2.2.1 ha hb hcc
  rw [← ea, ← eb, ← ec] at q2
  obtain ⟨v2, S2, e2, y2, rfl, hy2, f2, r2⟩ := q2
  refine wr_c rfl r1.1.1.k39 rfl e2 ?_
  exact wr_eq (hy1.trans hy2.symm) (next S2 _ _ (LIv.go' hw c1 f1 ⟨r2, r1.2.fr f2 FdP_k⟩ f2 FdP_m))
theorem wr_if {b : Nat} {x : Int32} {ls : List Value} (h : WP md (b, ls, .int (if x = 0 then 0 else 1) :: st, S) Q) : WR md (o_if0 (o_iconst 0 (o_jmp b)) (o_iconst 1 (o_jmp b)) ls (.int x :: st) S) Q := by
  show WR md (if x = 0 then some (.inl (b, ls, .int 0 :: st, S)) else some (.inl (b, ls, .int 1 :: st, S))) Q
  by_cases q : x = 0
  · rw [if_pos q] at h ⊢; exact h
  · rw [if_neg q] at h ⊢; exact h
set_option maxRecDepth 4096 in
theorem op21 (hL : L ≤ 3584) (hn : 7 * n + 7 ≤ L) (h : LIv S n) (next : OpN L n sx Q) : WP (PL L sx (F 1000)) (21, lsL (nI (7 * n)) z5 z6, [], S) Q := by
  obtain ⟨tp, T, E, A, mk, hc, hr, hw⟩ := h
  have i1 : inB (nI (7 * n) + 1) L := inx (c := 1) (by decide) (by omega) hL
  have i2 : inB (nI (7 * n) + 2) L := inx (c := 2) (by decide) (by omega) hL
  refine WP.of (t := BL_21 L sx (F 1000) (lsL (nI (7 * n)) z5 z6) [] S) rfl ?_
  unfold BL_21
  refine wr_a1 (wr_x i1 (wr_x i2 (wr_if ?_)))
  generalize hb : (if sx (nI (7 * n) + 2).toNatClampNeg = 0 then (0 : Int32) else 1) = b2
  refine WP.of (t := BL_22 L sx (F 1000) (lsL (nI (7 * n)) z5 z6) [.int b2, .int (sx (nI (7 * n) + 1).toNatClampNeg), .ref 1] S) rfl ?_
  unfold BL_22
  obtain ⟨v1, S1, e1, y1, rfl, hy1, f1, c1⟩ := f104 (d := 993) (x1 := sx (nI (7 * n) + 1).toNatClampNeg) (x2 := b2) hc
  refine wr_c rfl hc.1.k1 rfl e1 ?_
  have r1 := hr.c f1 hw
  refine wr_a2 (wr_x i1 (wr_x i2 (wr_if ?_)))
  rw [hb]
  refine WP.of (t := BL_23 L sx (F 1000) (lsL (nI (7 * n)) z5 z6) [.int b2, .int (sx (nI (7 * n) + 1).toNatClampNeg), .ref 39, .int y1] S1) rfl ?_
  unfold BL_23
  obtain ⟨v2, S2, e2, y2, rfl, hy2, f2, r2⟩ := f187 (d := 997) (x1 := sx (nI (7 * n) + 1).toNatClampNeg) (x2 := b2) r1
  refine wr_c rfl r1.1.1.k39 rfl e2 ?_
  exact wr_eq (hy1.trans hy2.symm) (next S2 _ _ (LIv.go' hw c1 f1 r2 f2 MaK_m))
theorem x_in {x : Int32} (h : ¬ (x.toInt < 0 ∨ 9 < x.toInt)) : x = 0 ∨ x = 1 ∨ x = 2 ∨ x = 3 ∨ x = 4 ∨ x = 5 ∨ x = 6 ∨ x = 7 ∨ x = 8 ∨ x = 9 := by
  have e : ∀ y : Int32, x.toInt = y.toInt → x = y := fun y hy => Int32.toInt_inj.mp hy
  have h0 : (0 : Int32).toInt = 0 := by decide
  have h1 : (1 : Int32).toInt = 1 := by decide
  have h2 : (2 : Int32).toInt = 2 := by decide
  have h3 : (3 : Int32).toInt = 3 := by decide
  have h4 : (4 : Int32).toInt = 4 := by decide
  have h5 : (5 : Int32).toInt = 5 := by decide
  have h6 : (6 : Int32).toInt = 6 := by decide
  have h7 : (7 : Int32).toInt = 7 := by decide
  have h8 : (8 : Int32).toInt = 8 := by decide
  have h9 : (9 : Int32).toInt = 9 := by decide
  rcases (show x.toInt = 0 ∨ x.toInt = 1 ∨ x.toInt = 2 ∨ x.toInt = 3 ∨ x.toInt = 4 ∨ x.toInt = 5 ∨ x.toInt = 6 ∨ x.toInt = 7 ∨ x.toInt = 8 ∨ x.toInt = 9 by omega) with z | z | z | z | z | z | z | z | z | z
  · exact Or.inl (e 0 (by rw [z, h0]))
  · exact Or.inr (Or.inl (e 1 (by rw [z, h1])))
  · exact Or.inr (Or.inr (Or.inl (e 2 (by rw [z, h2]))))
  · exact Or.inr (Or.inr (Or.inr (Or.inl (e 3 (by rw [z, h3])))))
  · exact Or.inr (Or.inr (Or.inr (Or.inr (Or.inl (e 4 (by rw [z, h4]))))))
  · exact Or.inr (Or.inr (Or.inr (Or.inr (Or.inr (Or.inl (e 5 (by rw [z, h5])))))))
  · exact Or.inr (Or.inr (Or.inr (Or.inr (Or.inr (Or.inr (Or.inl (e 6 (by rw [z, h6]))))))))
  · exact Or.inr (Or.inr (Or.inr (Or.inr (Or.inr (Or.inr (Or.inr (Or.inl (e 7 (by rw [z, h7])))))))))
  · exact Or.inr (Or.inr (Or.inr (Or.inr (Or.inr (Or.inr (Or.inr (Or.inr (Or.inl (e 8 (by rw [z, h8]))))))))))
  · exact Or.inr (Or.inr (Or.inr (Or.inr (Or.inr (Or.inr (Or.inr (Or.inr (Or.inr (e 9 (by rw [z, h9]))))))))))
theorem x_rg {x : Int32} : (¬ x < 0 ∧ ¬ (9 : Int32) < x) ↔ ¬ (x.toInt < 0 ∨ 9 < x.toInt) := by
  rw [Int32.lt_iff_toInt_lt, Int32.lt_iff_toInt_lt, show (0 : Int32).toInt = 0 from by decide, show (9 : Int32).toInt = 9 from by decide]
  omega
theorem ls_in {x y : Int32} (hk1 : gK S 1 = 7) (h194 : F 1000 194 [.ref 1, .int x] S = some (some (.int y), S)) (h73 : gK S 73 = 101) (n73 : gN S 73 = 1) (hx : ¬ (x.toInt < 0 ∨ 9 < x.toInt)) : orL (F 1000) 195 [.ref 1, .int x, .ref 73] S = some (some (.int 0), pL S 73 0 y.toInt64) := by
  have e : Bls (F 1000) (en 4 [.ref 1, .int x, .ref 73]) [] S = some (.inr (some (.int 0), pL S 73 0 y.toInt64)) := by
    show (if x.toInt < 0 ∨ 9 < x.toInt then o_thr (o_iconst 1 o_iret) (en 4 [.ref 1, .int x, .ref 73]) [.int x, .ref 1, .int 0, .ref 73] S else (if gK S 1 = 7 then ckn 2 [.int x, .ref 1, .int 0, .ref 73] (eI (F 1000 194 [.ref 1, .int x] S) fun v S => if gK S 73 = 101 ∧ inB 0 (gN S 73) then (some (.inr (some (.int 0), pL S 73 (0 : Int32).toNatClampNeg v.toInt64)) : Option Rs) else none) else none)) = _
    rw [if_neg hx, if_pos hk1, h194]
    show (if gK S 73 = 101 ∧ inB 0 (gN S 73) then (some (.inr (some (.int 0), pL S 73 (0 : Int32).toNatClampNeg y.toInt64)) : Option Rs) else none) = _
    rw [if_pos ⟨h73, by rw [n73]; exact inB_n (n := 0) (by decide) (by decide)⟩]
    rfl
  show lsF (F 1000) [.ref 1, .int x, .ref 73] S = _
  unfold lsF
  rw [e]
  exact if_pos ⟨⟨Nat.le_refl _, Nat.le_refl _⟩, Nat.le_succ 3⟩
theorem ls_out {x : Int32} (hk1 : gK S 1 = 7) (hx : x.toInt < 0 ∨ 9 < x.toInt) : orL (F 1000) 195 [.ref 1, .int x, .ref 73] S = some (some (.int 1), nw S 9 6) := by
  have e : Bls (F 1000) (en 4 [.ref 1, .int x, .ref 73]) [] S = some (.inr (some (.int 1), nw S 9 6)) := by
    show (if x.toInt < 0 ∨ 9 < x.toInt then (if gK S 1 = 7 ∧ (x.toInt < 0 ∨ 9 < x.toInt) then (some (.inr (some (.int 1), nw S 9 6)) : Option Rs) else none) else _) = _
    rw [if_pos hx, if_pos ⟨hk1, hx⟩]
  show lsF (F 1000) [.ref 1, .int x, .ref 73] S = _
  unfold lsF
  rw [e]
  exact if_pos ⟨⟨Nat.le_succ _, Nat.le_add_right _ 6⟩, Nat.le_succ 3⟩
theorem wr_s {idx n : Nat} {v : Int32} {ls : List Value} (hc : (Nat.ble n st.length && Nat.ble (catS (st.drop n)) 8) = true) (hr : orc idx (st.take n).reverse S = some (some (.int v), S1)) (h : WR md (k ls (.int v :: st.drop n) S1) Q) : WR md (o_sI orc idx n k ls st S) Q := by
  show WR md (ckn n st (eI (orc idx (st.take n).reverse S) fun v S => k ls (.int v :: st.drop n) S)) Q
  rw [hr]
  unfold ckn
  rw [hc]
  exact h
theorem wr_5 {v : Int32} (h : WR md (k (lsL i (.int v) z6) st S) Q) : WR md (o_istore 5 k (lsL i z5 z6) (.int v :: st) S) Q := by
  show WR md (k (stL (lsL i z5 z6) 5 (.int v)) st S) Q
  rw [show stL (lsL i z5 z6) 5 (.int v) = lsL i (.int v) z6 from rfl]
  exact h
theorem wr_6 {a v : Int32} (h : WR md (k (lsL i (.int a) (.int v)) st S) Q) : WR md (o_istore 6 k (lsL i (.int a) z6) (.int v :: st) S) Q := by
  show WR md (k (stL (lsL i (.int a) z6) 6 (.int v)) st S) Q
  rw [show stL (lsL i (.int a) z6) 6 (.int v) = lsL i (.int a) (.int v) from rfl]
  exact h
theorem wr_l5 {v : Int32} (h : WR md (k (lsL i (.int v) z6) (.int v :: st) S) Q) : WR md (o_iload 5 k (lsL i (.int v) z6) st S) Q := h
theorem wr_eqt {kt kf : K} {x y : Int32} {ls : List Value} (e : x = y) (h : WR md (kt ls st S) Q) : WR md (o_ieq kt kf ls (.int y :: .int x :: st) S) Q := by
  show WR md (if x = y then kt ls st S else kf ls st S) Q
  rw [if_pos e]; exact h
theorem wr_0f {kt kf : K} {x : Int32} {ls : List Value} (e : ¬ x = 0) (h : WR md (kf ls st S) Q) : WR md (o_if0 kt kf ls (.int x :: st) S) Q := by
  show WR md (if x = 0 then kt ls st S else kf ls st S) Q
  rw [if_neg e]; exact h
theorem wr_0t {kt kf : K} {x : Int32} {ls : List Value} (e : x = 0) (h : WR md (kt ls st S) Q) : WR md (o_if0 kt kf ls (.int x :: st) S) Q := by
  show WR md (if x = 0 then kt ls st S else kf ls st S) Q
  rw [if_pos e]; exact h
theorem wr_ld {b : Int32} {kk : K} (h73 : gK S 73 = 101 ∧ inB 0 (gN S 73)) (hgl : gL S 73 0 = b.toInt64) (h : WP md (11, lsL i z5 (.int b), [], S) Q) : WR md (o_iconst 0 (o_lald (o_iload 6 (o_i2l (o_lcmp (o_if0 (o_jmp 11) kk))))) (lsL i z5 (.int b)) [.ref 73] S) Q := by
  show WR md (if gK S 73 = 101 ∧ inB 0 (gN S 73) then (if lg_cmp (gL S 73 (0 : Int32).toNatClampNeg) b.toInt64 = 0 then (some (.inl (11, lsL i z5 (.int b), [], S)) : Option Rs) else kk (lsL i z5 (.int b)) [] S) else none) Q
  rw [if_pos h73, show (0 : Int32).toNatClampNeg = 0 from by decide, hgl, if_pos ((lg_cmp_eq _ _).mpr rfl)]
  exact h
set_option maxRecDepth 4096 in
theorem op11 (next : WP (PL L sx (F 1000)) (25, lsL i z5 z6, [], S) Q) : WP (PL L sx (F 1000)) (11, lsL i z5 z6, [], S) Q := by
  refine WP.of (t := BL_11 L sx (F 1000) (lsL i z5 z6) [] S) rfl ?_
  exact next
set_option maxRecDepth 4096 in
theorem op10 (hL : L ≤ 3584) (hn : 7 * n + 7 ≤ L) (h : LIv S n) (next : OpN L n sx Q) : WP (PL L sx (F 1000)) (10, lsL (nI (7 * n)) z5 z6, [], S) Q := by
  obtain ⟨tp, T, E, A, mk, hc, hr, hw⟩ := h
  have i1 : inB (nI (7 * n) + 1) L := inx (c := 1) (by decide) (by omega) hL
  have hz := hw.2.2.1
  refine WP.of (t := BL_10 L sx (F 1000) (lsL (nI (7 * n)) z5 z6) [] S) rfl ?_
  unfold BL_10
  refine wr_a1 (wr_x i1 (wr_a3 ?_))
  by_cases q : (sx (nI (7 * n) + 1).toNatClampNeg).toInt < 0 ∨ 9 < (sx (nI (7 * n) + 1).toNatClampNeg).toInt
  · refine wr_s rfl (ls_out hc.1.k1 q) ?_
    have f1 : FX nol S (nw S 9 6) := FX.nw _ _
    have c1 : CI (nw S 9 6) tp T E A mk := hc.fx f1 (hc.2.1.nw _ _) (fun a k z => z.elim)
    have r1 : RI (nw S 9 6) tp T E A mk := hr.fx f1 (by omega) (fun a k z => z.elim)
    have g1 : gZ (nw S 9 6) ≤ gZ S + 6 ∧ gU (nw S 9 6) ≤ gU S + 1600 := by rw [gZ_nw, gU_nw]; omega
    generalize nw S 9 6 = S1 at f1 c1 r1 g1
    refine wr_5 (wr_a2 (wr_x i1 ?_))
    obtain ⟨v2, S2, e2, y2, rfl, f2, -, ho⟩ := f163 (d := 993) (x := sx (nI (7 * n) + 1).toNatClampNeg) r1.1
    refine wr_c rfl r1.1.1.k39 rfl e2 ?_
    have r2 := r1.th f2 (fun a k z => z)
    refine wr_6 <| wr_a2 (wr_c rfl r2.1.1.k39 rfl (f113 (d := 999) r2.1.1) ?_)
    refine wr_l5 (wr_eqt (ho (fun z => (x_rg.mp z) q)) (wr_l5 (wr_0f (by decide) ?_)))
    exact op11 (next S2 _ _ (LIv.go2 hw c1 f1 g1 r2 f2 TaP_m))
  · refine wr_s rfl (ls_in hc.1.k1 (f194 (d := 996) hc (x_in q)) hw.1 hw.2.1 q) ?_
    have hl1 : gL (pL S 73 0 (aState T (posA T E A) (sx (nI (7 * n) + 1).toNatClampNeg)).toInt64) 73 0 = (aState T (posA T E A) (sx (nI (7 * n) + 1).toNatClampNeg)).toInt64 := by rw [gL_pL, if_pos ⟨rfl, rfl⟩]
    have f1 : FX (fun a _ => a = 73) S (pL S 73 0 (aState T (posA T E A) (sx (nI (7 * n) + 1).toNatClampNeg)).toInt64) := FX.pL (fun _ => rfl)
    have c1 : CI (pL S 73 0 (aState T (posA T E A) (sx (nI (7 * n) + 1).toNatClampNeg)).toInt64) tp T E A mk := hc.fx f1 (hc.2.1.Z rfl) (fun a k z => by have z : a = 73 := z; omega)
    have r1 : RI (pL S 73 0 (aState T (posA T E A) (sx (nI (7 * n) + 1).toNatClampNeg)).toInt64) tp T E A mk := hr.fx f1 (by omega) (fun a k z => by have z : a = 73 := z; omega)
    have g1 : gZ (pL S 73 0 (aState T (posA T E A) (sx (nI (7 * n) + 1).toNatClampNeg)).toInt64) ≤ gZ S + 6 ∧ gU (pL S 73 0 (aState T (posA T E A) (sx (nI (7 * n) + 1).toNatClampNeg)).toInt64) ≤ gU S + 1600 := by rw [gZ_pL, gU_pL]; omega
    have k1 : gK (pL S 73 0 (aState T (posA T E A) (sx (nI (7 * n) + 1).toNatClampNeg)).toInt64) 73 = 101 ∧ gN (pL S 73 0 (aState T (posA T E A) (sx (nI (7 * n) + 1).toNatClampNeg)).toInt64) 73 = 1 := ⟨hw.1, hw.2.1⟩
    generalize pL S 73 0 (aState T (posA T E A) (sx (nI (7 * n) + 1).toNatClampNeg)).toInt64 = S1 at f1 c1 r1 g1 hl1 k1
    refine wr_5 (wr_a2 (wr_x i1 ?_))
    obtain ⟨v2, S2, e2, y2, rfl, f2, ho, -⟩ := f163 (d := 993) (x := sx (nI (7 * n) + 1).toNatClampNeg) r1.1
    obtain ⟨ho1, ho2⟩ := ho (x_rg.mpr q)
    refine wr_c rfl r1.1.1.k39 rfl e2 ?_
    have r2 := r1.th f2 (fun a k z => z)
    refine wr_6 <| wr_a2 (wr_c rfl r2.1.1.k39 rfl (f113 (d := 999) r2.1.1) ?_)
    have hgl : gL S2 73 0 = y2.toInt64 := by rw [f2.2.1 _ _ (fun z => z), hl1, ho2]
    refine wr_l5 (wr_eqt ho1 (wr_l5 (wr_0t rfl (wr_a3 (wr_ld ⟨by rw [f2.K]; exact k1.1, by rw [f2.N, k1.2]; exact inB_n (n := 0) (by decide) (by decide)⟩ hgl ?_)))))
    exact op11 (next S2 _ _ (LIv.go2 hw c1 f1 g1 r2 f2 TaP_m))
set_option maxRecDepth 4096 in
/-- the end of a call -/
theorem op25 (next : WP (PL L sx (F 1000)) (1, lsL (nI (7 * (n + 1))) z5 z6, [], S) Q) : WP (PL L sx (F 1000)) (25, lsL (nI (7 * n)) z5 z6, [], S) Q := by
  refine WP.of (t := BL_25 L sx (F 1000) (lsL (nI (7 * n)) z5 z6) [] S) rfl ?_
  show WP (PL L sx (F 1000)) (1, stL (lsL (nI (7 * n)) z5 z6) 4 (.int (nI (7 * n) + 7)), [], S) Q
  rw [show stL (lsL (nI (7 * n)) z5 z6) 4 (.int (nI (7 * n) + 7)) = lsL (nI (7 * n) + 7) z5 z6 from rfl, show (7 : Int32) = nI 7 from by decide, nI_add, show 7 * n + 7 = 7 * (n + 1) by omega]
  exact next
set_option maxRecDepth 4096 in
theorem len7 (hL : L ≤ 3584) (hn : 7 * n ≤ L + 6) : Int32.ofNat L - 7 < nI (7 * n) ↔ L < 7 * n + 7 := by
  by_cases q : 7 ≤ L
  · have e : Int32.ofNat L - 7 = nI (L - 7) := by
      rw [show (7 : Int32) = nI 7 from by decide]
      exact pk_sub q
    rw [e, i_lt (by omega) (by omega)]
    omega
  · have : L = 0 ∨ L = 1 ∨ L = 2 ∨ L = 3 ∨ L = 4 ∨ L = 5 ∨ L = 6 := by omega
    have hn2 : n = 0 ∨ n = 1 := by omega
    rcases this with rfl | rfl | rfl | rfl | rfl | rfl | rfl <;> rcases hn2 with rfl | rfl <;> decide
theorem law_loop (hL : L ≤ 3584) (fin : ∀ n S, n ≤ 512 → LIv S n → Q (some (.int 1)) S) : ∀ (m n : Nat) (S : St) (z5 z6 : Value), L / 7 = n + m → LIv S n → WP (PL L sx (F 1000)) (1, lsL (nI (7 * n)) z5 z6, [], S) Q := by
  intro m
  induction m with
  | zero =>
    intro n S z5 z6 hm h
    refine WP.of (t := BL_1 L sx (F 1000) (lsL (nI (7 * n)) z5 z6) [] S) rfl ?_
    show WR _ (if 30 = 30 then (if Int32.ofNat L - 7 < nI (7 * n) then (if (1 : Int32) = 0 ∨ (1 : Int32) = 1 then (some (.inr (some (.int 1), S)) : Option Rs) else none) else _) else none) _
    rw [if_pos rfl, if_pos ((len7 hL (by omega)).mpr (by omega)), if_pos (Or.inr rfl)]
    exact fin n S (by omega) h
  | succ m ih =>
    intro n S z5 z6 hm h
    have hn : 7 * n + 7 ≤ L := by omega
    have next : OpN L n sx Q := fun S' z5 z6 h' => op25 (ih (n + 1) S' z5 z6 (by omega) h')
    refine WP.of (t := BL_1 L sx (F 1000) (lsL (nI (7 * n)) z5 z6) [] S) rfl ?_
    show WR _ (if 30 = 30 then (if Int32.ofNat L - 7 < nI (7 * n) then _ else (if 30 = 30 ∧ inB (nI (7 * n)) L then swc (sx (nI (7 * n)).toNatClampNeg &&& 31) (lsL (nI (7 * n)) z5 z6) [] S [(0, o_jmp 2), (1, o_jmp 3), (2, o_jmp 4), (3, o_jmp 5), (4, o_jmp 6), (5, o_jmp 7), (6, o_jmp 8), (7, o_jmp 9), (8, o_jmp 10), (9, o_jmp 12), (10, o_jmp 13), (11, o_jmp 14), (12, o_jmp 15), (13, o_jmp 16), (14, o_jmp 17), (15, o_jmp 18), (16, o_jmp 19), (17, o_jmp 20), (18, o_jmp 21), (19, o_jmp 24)] (o_jmp 25) else none)) else none) _
    rw [if_pos rfl, if_neg (fun z => by have := (len7 hL (by omega)).mp z; omega), if_pos ⟨rfl, inB_n (by omega) (by omega)⟩]
    generalize sx (nI (7 * n)).toNatClampNeg &&& 31 = x
    simp only [swc]
    refine W_if (fun q => ?_) (fun q => ?_)
    · exact op2 hL hn h next
    refine W_if (fun q => ?_) (fun q => ?_)
    · exact op3 h next
    refine W_if (fun q => ?_) (fun q => ?_)
    · exact op4 hL hn h next
    refine W_if (fun q => ?_) (fun q => ?_)
    · exact op5 hL hn h next
    refine W_if (fun q => ?_) (fun q => ?_)
    · exact op6 hL hn h next
    refine W_if (fun q => ?_) (fun q => ?_)
    · exact op7 hL hn h next
    refine W_if (fun q => ?_) (fun q => ?_)
    · exact op8 hL hn h next
    refine W_if (fun q => ?_) (fun q => ?_)
    · exact op9 hL hn h next
    refine W_if (fun q => ?_) (fun q => ?_)
    · exact op10 hL hn h next
    refine W_if (fun q => ?_) (fun q => ?_)
    · exact op12 hL hn h next
    refine W_if (fun q => ?_) (fun q => ?_)
    · exact op13 hL hn h next
    refine W_if (fun q => ?_) (fun q => ?_)
    · exact op14 hL hn h next
    refine W_if (fun q => ?_) (fun q => ?_)
    · exact op15 hL hn h next
    refine W_if (fun q => ?_) (fun q => ?_)
    · exact op16 hL hn h next
    refine W_if (fun q => ?_) (fun q => ?_)
    · exact op17 hL hn h next
    refine W_if (fun q => ?_) (fun q => ?_)
    · exact op18 hL hn h next
    refine W_if (fun q => ?_) (fun q => ?_)
    · exact op19 hL hn h next
    refine W_if (fun q => ?_) (fun q => ?_)
    · exact op20 hL hn h next
    refine W_if (fun q => ?_) (fun q => ?_)
    · exact op21 hL hn h next
    refine W_if (fun q => ?_) (fun q => ?_)
    · exact op24 hL hn h next
    obtain ⟨tp, T, E, A, mk, hc, hr, l1, l2, l3, l4, l5⟩ := h
    exact next S z5 z6 ⟨tp, T, E, A, mk, hc, hr, l1, l2, l3, by omega, by omega⟩
/-- nothing is made yet -/
def St0 : St := (fun _ _ => 0, fun _ _ => 0, fun _ _ => 0, fun _ => (9999, 0), 0, 0)
theorem law_all (hL : L ≤ 3584) : WP (PL L sx (F 1000)) (0, [.retAddr 30, .null, .null, .null, .null, .null, .null], [], St0) (fun r S' => r = some (.int 1) ∧ gZ S' ≤ 601024 ∧ gU S' ≤ 7293034) := by
  have c00 : Cst St0 [] [] [] 0 0 := ⟨fun a _ => rfl, rfl, rfl, fun q hq => (absurd hq List.not_mem_nil), fun q hq => (absurd hq List.not_mem_nil), fun q hq => (absurd hq List.not_mem_nil)⟩
  have c0 := c00.mnw 7 12
  refine WP.of (t := BL_0 L sx (F 1000) [.retAddr 30, .null, .null, .null, .null, .null, .null] [] St0) rfl ?_
  unfold BL_0
  obtain ⟨v1, S1, e1, rfl, z1, u1, k1⟩ := f86 (d := 993) c0
  show WR _ (if 1 = 0 then none else ckn 1 [.ref 1, .ref 1] (eV (F 1000 86 [.ref 1] (nw St0 7 12)) fun S => o_astore 1 _ [.retAddr 30, .null, .null, .null, .null, .null, .null] [.ref 1] S)) _
  rw [if_neg (by decide), e1]
  have c1 : Cst (nw S1 8 52) [] [(39, 8, 52)] [] 39 (gU S1 + 52 + 0) := by
    refine ⟨k1.2.1.nw _ _, by rw [gZ_nw, z1], by rw [gU_nw], fun q hq => (absurd hq List.not_mem_nil), fun q hq => ?_, fun q hq => (absurd hq List.not_mem_nil)⟩
    rw [List.mem_singleton.mp hq]
    exact ⟨Nat.le_refl _, by rw [gK_nw, z1, if_pos rfl], by rw [gN_nw, z1, if_pos rfl]⟩
  have zr : Zr (nw S1 8 52) := fun a k h1 h2 => by
    rw [gZ_nw, z1] at h2
    rw [gI_nw, z1, if_pos (by omega)]
  obtain ⟨v2, S2, e2, rfl, z2, u2, f2, lv2, r2⟩ := f112 (d := 992) c1 zr
  show WR _ (if gZ S1 + 1 = 0 then none else ckn 1 [.ref (gZ S1 + 1), .ref (gZ S1 + 1)] (eV (F 1000 112 [.ref (gZ S1 + 1)] (nw S1 8 52)) fun S => o_astore 2 _ [.retAddr 30, .ref 1, .null, .null, .null, .null, .null] [.ref (gZ S1 + 1)] S)) _
  rw [z1, if_neg (by decide), e2]
  show WR _ (if 0 ≤ (1 : Int32).toInt ∧ (1 : Int32).toInt ≤ 70000 then (some (.inl (1, [.retAddr 30, .ref 1, .ref 39, .ref (gZ S2 + 1), .int 0, .null, .null], [], nw S2 101 (1 : Int32).toNatClampNeg)) : Option Rs) else none) _
  rw [if_pos (by decide), z2, show (1 : Int32).toNatClampNeg = 1 from by decide]
  have f12 : FX (fun a _ => a = 39) S1 S2 := (FX.nw _ _).tr f2
  have k2 : CI S2 [] (tdL 2 1 ls0) (fnL ls0) [] (fun _ => none) := k1.fx f12 lv2 (fun a k z => by have z : a = 39 := z; omega)
  have k3 : CI (nw S2 101 1) [] (tdL 2 1 ls0) (fnL ls0) [] (fun _ => none) := k2.fx (P := nol) (FX.nw _ _) (lv2.nw _ _) (fun a k z => z.elim)
  have r3 : RI (nw S2 101 1) [] (tdL 2 1 ls0) (fnL ls0) [] (fun _ => none) := r2.fx (P := nol) (FX.nw _ _) (by omega) (fun a k z => z.elim)
  refine law_loop hL (fun n S hn h => ?_) (L / 7) 0 _ _ _ (by omega) ⟨_, _, _, _, _, k3, r3, by rw [gK_nw, z2, if_pos rfl], by rw [gN_nw, z2, if_pos rfl], by rw [gZ_nw, z2]; decide, by rw [gZ_nw, z2]; decide, by rw [gU_nw, u2]; omega⟩
  obtain ⟨tp, T, E, A, mk, -, -, l1, l2, l3, l4, l5⟩ := h
  exact ⟨rfl, by omega, by omega⟩
end OPS
