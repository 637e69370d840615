/-! what holds between two calls of the law, and steps of its blocks -/
section LWI
variable {S S' S1 S2 : St} {tp : List Nat} {T : TD} {E : Env → Int32} {A : List Nat} {mk : Nat → Option MkD} {P PL : Nat → Nat → Prop} {n : Nat}
theorem TapeC.fx (h : TapeC S tp) (hz : 2 ≤ gZ S) (f : FX P S S') (h1 : ¬ P 1 1) (h2 : ∀ k, ¬ P 2 k) : TapeC S' tp := ⟨by rw [f.I (by omega) h1]; exact h.1, h.2.1, h.2.2.1, h.2.2.2.fx hz f (fun k _ => h2 k)⟩
theorem CI.fx (h : CI S tp T E A mk) (f : FX P S S') (hv' : Lv S') (hP : ∀ a k, P a k → 39 ≤ a ∧ a ≤ 73) : CI S' tp T E A mk := by
  obtain ⟨h1, h2, h3, h4, h5, h6, h7, h8⟩ := h
  have hz := h1.z h2
  have hd : ∀ a k, P a k → ¬ dyn a := fun a k z y => by
    have := hP a k z
    unfold dyn at y
    omega
  have nP : ∀ a k, a ≤ 38 → ¬ P a k := fun a k x z => by have := hP a k z; omega
  exact ⟨h1.fx h2 f (fun q hq => nP _ _ (shC_le.1 q hq)), hv', h3.fx (by omega) f (nP _ _ (by decide)) (fun k => nP _ _ (by decide)), ⟨h4.1, by rw [f.R (by omega) (nP _ _ (by decide))]; exact h4.2.1.fx h2 f hd, h4.2.2.1, h4.2.2.2.1.fx f (by omega) (fun a k z => by have := hP a k z; omega), h4.2.2.2.2.fx (by omega) f (fun k _ => nP _ _ (by decide))⟩, ⟨by rw [f.I (by omega) (nP _ _ (by decide))]; exact h5.1, h5.2.fx (by omega) f (fun k _ => nP _ _ (by decide))⟩, h6.fx hz h2 f hd (fun a k z => by have := hP a k z; omega), h7.fx h2 f ⟨by omega, by omega⟩ hd (fun k => ⟨nP _ _ (by decide), nP _ _ (by decide)⟩), h8.fx h2 f ⟨by omega, by omega⟩ hd (fun k => ⟨nP _ _ (by decide), nP _ _ (by decide)⟩)⟩
theorem shM_le : (∀ q ∈ shM_R, q.1 = 39) ∧ ∀ q ∈ shM_K, 39 ≤ q.1 ∧ q.1 ≤ 72 := by decide
theorem RT.s2 (h : RT S T) : RTs S 0 T := by
  obtain ⟨h0, h1, h2, h3, h4, h5, h6⟩ := h
  exact ⟨h0, h1, h2, h3, h4, fun i hi => ⟨by rw [show 6 * 0 + i = i by omega]; exact h5 i hi, by rw [show 6 * 0 + i = i by omega]; exact h6 i hi⟩⟩
theorem RI.fx (h : RI S tp T E A mk) (f : FX P S S') (hz : 72 ≤ gZ S) (hP : ∀ a k, P a k → ¬ (39 ≤ a ∧ a ≤ 72)) : RI S' tp T E A mk := by
  have e : ∀ a k, 39 ≤ a → a ≤ 72 → gI S' a k = gI S a k := fun a k h1 h2 => f.I (by omega) (fun z => hP a k z ⟨h1, h2⟩)
  obtain ⟨⟨r1, r2, r3, r4, r5, r6, r7, r8, r9⟩, r10⟩ := h
  refine ⟨⟨⟨fun q hq => ?_, fun q hq => ?_⟩, ⟨by rw [e _ _ (by decide) (by decide)]; exact r2.1, fun i v hi => by rw [e _ _ (by decide) (by decide)]; exact r2.2.1 i v hi, r2.2.2⟩, ?_, ?_, r5.cg (fun k _ => e _ _ (by decide) (by decide)), by rw [e _ _ (by decide) (by decide)]; exact r6, fun j hj => (r7 j hj).cg (fun k _ => e _ _ (by decide) (by decide)), fun i hi => (r8 i hi).cg (fun a k z => e a k (by omega) (by omega)), r9⟩, ?_⟩
  · have := shM_le.1 q hq
    rw [f.R (by omega) (fun z => hP _ _ z (by omega))]
    exact r1.1 q hq
  · have := shM_le.2 q hq
    rw [f.K (by omega), f.N (by omega)]
    exact r1.2 q hq
  · exact (r3.s2.cg (fun a k z => e a k (by omega) (by omega))).z
  · exact (r4.s.cg (fun a k z => e a k (by omega) (by omega))).z
  · rcases r10 with z | ⟨z, w⟩
    · exact Or.inl (by rw [e _ _ (by decide) (by decide)]; exact z)
    · exact Or.inr ⟨by rw [e _ _ (by decide) (by decide)]; exact z, fun a b h1 h2 => by rw [e _ _ (by decide) (by decide), e _ _ (by decide) (by decide)]; exact w a b h1 h2⟩
/-- room and the law's own row -/
def Lw (S : St) (n : Nat) : Prop := gK S 73 = 101 ∧ gN S 73 = 1 ∧ 73 ≤ gZ S ∧ gZ S ≤ 73 + 6 * n ∧ gU S ≤ 400000 + 1600 * n
def LIv (S : St) (n : Nat) : Prop := ∃ (tp : List Nat) (T : TD) (E : Env → Int32) (A : List Nat) (mk : Nat → Option MkD), CI S tp T E A mk ∧ RI S tp T E A mk ∧ Lw S n
theorem CP_m : ∀ a k, CP a k → ¬ (39 ≤ a ∧ a ≤ 72) := fun a k z y => by rcases z with z | z <;> omega
theorem LIv.go (hL : Lw S n) (c1 : CI S1 tp T E A mk) (f1 : FX CP S S1) (hg : gZ S1 ≤ gZ S + 6 ∧ gU S1 ≤ gU S + 1600) (r2 : RI S2 tp T E A mk) (f2 : Fr P PL S1 S2) (hP : ∀ a k, P a k ∨ PL a k → 39 ≤ a ∧ a ≤ 72) : LIv S2 (n + 1) := by
  obtain ⟨l1, l2, l3, l4, l5⟩ := hL
  have f3 : FX (fun a _ => 39 ≤ a ∧ a ≤ 72) S1 S2 := f2.X (fun a k _ z => hP a k z)
  refine ⟨tp, T, E, A, mk, c1.fx f3 (c1.2.1.Z (by rw [f2.2.2])) (fun a k z => ⟨z.1, by have := z.2; omega⟩), r2, by rw [f2.K, f1.K l3]; exact l1, by rw [f2.N, f1.N l3]; exact l2, by rw [f2.Z]; exact Nat.le_trans l3 f1.1.1, by rw [f2.Z]; omega, by rw [f2.U]; omega⟩
theorem Fq.gr (h : Fq P S S') : gZ S' ≤ gZ S + 6 ∧ gU S' ≤ gU S + 1600 := by rw [h.Z, h.U]; omega
theorem LIv.go' (hL : Lw S n) (c1 : CI S1 tp T E A mk) (f1 : Fq CP S S1) (r2 : RI S2 tp T E A mk) (f2 : Fr P PL S1 S2) (hP : ∀ a k, P a k ∨ PL a k → 39 ≤ a ∧ a ≤ 72) : LIv S2 (n + 1) := LIv.go hL c1 f1.X f1.gr r2 f2 hP
theorem RI.c (h : RI S tp T E A mk) (f : Fq CP S S') (hL : Lw S n) : RI S' tp T E A mk := h.fx f.X (by have := hL.2.2.1; omega) CP_m
end LWI
abbrev lsL (i : Int32) (z5 z6 : Value) : List Value := [.retAddr 30, .ref 1, .ref 39, .ref 73, .int i, z5, z6]
section LWS
variable {md : Nat → K} {Q : Option Value → St → Prop} {L : Nat} {sx : Nat → Int32} {i : Int32} {z5 z6 : Value} {st : List Value} {S S1 : St} {k : K} {orc : Orc}
theorem wr_a1 (h : WR md (k (lsL i z5 z6) (.ref 1 :: st) S) Q) : WR md (o_aload 1 k (lsL i z5 z6) st S) Q := h
theorem wr_a2 (h : WR md (k (lsL i z5 z6) (.ref 39 :: st) S) Q) : WR md (o_aload 2 k (lsL i z5 z6) st S) Q := h
theorem wr_a3 (h : WR md (k (lsL i z5 z6) (.ref 73 :: st) S) Q) : WR md (o_aload 3 k (lsL i z5 z6) st S) Q := h
theorem wr_x {c : Int32} (hin : inB (i + c) L) (h : WR md (k (lsL i z5 z6) (.int (sx (i + c).toNatClampNeg) :: st) S) Q) : WR md (o_sload 0 (o_iload 4 (o_iconst c (o_i2 (fun x y => x + y) (o_xld L sx k)))) (lsL i z5 z6) st S) Q := by
  show WR md (if 30 = 30 ∧ inB (i + c) L then k (lsL i z5 z6) (.int (sx (i + c).toNatClampNeg) :: st) S else none) Q
  rw [if_pos ⟨rfl, hin⟩]
  exact h
theorem wr_c {idx n c a : Nat} {v : Int32} {as ls : List Value} (e : (st.take n).reverse = .ref a :: as) (hk : gK S a = c) (hc : (Nat.ble n st.length && Nat.ble (catS (st.drop n)) 8) = true) (hr : orc idx (.ref a :: as) S = some (some (.int v), S1)) (h : WR md (k ls (.int v :: st.drop n) S1) Q) : WR md (o_vI orc idx n c k ls st S) Q := by
  show WR md (hdR (st.take n).reverse fun a => if gK S a = c then ckn n st (eI (orc idx (st.take n).reverse S) fun v S => k ls (.int v :: st.drop n) S) else none) Q
  rw [e]
  show WR md (if gK S a = c then ckn n st (eI (orc idx (.ref a :: as) S) fun v S => k ls (.int v :: st.drop n) S) else none) Q
  rw [if_pos hk, hr]
  unfold ckn
  rw [hc]
  exact h
theorem wr_eq {y1 y2 : Int32} {ls : List Value} (e : y1 = y2) (h : WP md (25, ls, [], S) Q) : WR md (o_ieq (o_jmp 25) k ls [.int y2, .int y1] S) Q := by
  show WR md (if y1 = y2 then some (.inl (25, ls, [], S)) else k ls [] S) Q
  rw [if_pos e]
  exact h
end LWS
