/-! the class's constructors (printed by gen/ctor.py) -/
def Cst (S : St) (LR LK : List (Nat × Nat × Nat)) (LI : List (Nat × Nat × Int32)) (z u : Nat) : Prop := Lv S ∧ gZ S = z ∧ gU S = u ∧ (∀ q ∈ LR, q.1 ≤ z ∧ gR S q.1 q.2.1 = q.2.2) ∧ (∀ q ∈ LK, q.1 ≤ z ∧ gK S q.1 = q.2.1 ∧ gN S q.1 = q.2.2) ∧ ∀ q ∈ LI, q.1 ≤ z ∧ gI S q.1 q.2.1 = q.2.2
section CST
variable {S S' : St} {LR LK : List (Nat × Nat × Nat)} {LI : List (Nat × Nat × Int32)} {zz uu zz' uu' : Nat}
theorem Cst.v (h : Cst S LR LK LI zz uu) : Lv S := h.1
theorem Cst.z (h : Cst S LR LK LI zz uu) : gZ S = zz := h.2.1
theorem Cst.u (h : Cst S LR LK LI zz uu) : gU S = uu := h.2.2.1
theorem Cst.r {a k v : Nat} (h : Cst S LR LK LI zz uu) (hm : (a, k, v) ∈ LR) : gR S a k = v := (h.2.2.2.1 _ hm).2
theorem Cst.k {a c n : Nat} (h : Cst S LR LK LI zz uu) (hm : (a, c, n) ∈ LK) : gK S a = c := (h.2.2.2.2.1 _ hm).2.1
theorem Cst.n {a c n : Nat} (h : Cst S LR LK LI zz uu) (hm : (a, c, n) ∈ LK) : gN S a = n := (h.2.2.2.2.1 _ hm).2.2
theorem Cst.i {a k : Nat} {v : Int32} (h : Cst S LR LK LI zz uu) (hm : (a, k, v) ∈ LI) : gI S a k = v := (h.2.2.2.2.2 _ hm).2
theorem Cst.mnw (h : Cst S LR LK LI zz uu) (c n : Nat) : Cst (nw S c n) LR ((zz + 1, c, n) :: LK) LI (zz + 1) (uu + n) := by
  obtain ⟨h1, h2, h3, h4, h5, h6⟩ := h
  refine ⟨h1.nw c n, by rw [gZ_nw, h2], by rw [gU_nw, h3], fun q hq => ?_, fun q hq => ?_, fun q hq => ?_⟩
  · have := h4 q hq
    exact ⟨by omega, by rw [gR_nw, if_neg (by omega)]; exact this.2⟩
  · rcases List.mem_cons.mp hq with rfl | hq
    · exact ⟨Nat.le_refl _, by rw [gK_nw, h2, if_pos rfl], by rw [gN_nw, h2, if_pos rfl]⟩
    · have := h5 q hq
      exact ⟨by omega, by rw [gK_nw, if_neg (by omega)]; exact this.2.1, by rw [gN_nw, if_neg (by omega)]; exact this.2.2⟩
  · have := h6 q hq
    exact ⟨by omega, by rw [gI_nw, if_neg (by omega)]; exact this.2⟩
theorem Cst.mR {a k v : Nat} (h : Cst S LR LK LI zz uu) (hn : ∀ q ∈ LR, ¬ (q.1 = a ∧ q.2.1 = k)) (ha : a ≤ zz) : Cst (pR S a k v) ((a, k, v) :: LR) LK LI zz uu := by
  obtain ⟨h1, h2, h3, h4, h5, h6⟩ := h
  refine ⟨h1.Z rfl, h2, h3, fun q hq => ?_, h5, h6⟩
  rcases List.mem_cons.mp hq with rfl | hq
  · exact ⟨ha, by rw [gR_pR, if_pos ⟨rfl, rfl⟩]⟩
  · exact ⟨(h4 q hq).1, by rw [gR_pR, if_neg (hn q hq)]; exact (h4 q hq).2⟩
theorem Cst.mI {a k : Nat} {v : Int32} (h : Cst S LR LK LI zz uu) (hn : ∀ q ∈ LI, ¬ (q.1 = a ∧ q.2.1 = k)) : Cst (pI S a k v) LR LK LI zz uu := by
  obtain ⟨h1, h2, h3, h4, h5, h6⟩ := h
  exact ⟨h1.Z rfl, h2, h3, h4, h5, fun q hq => ⟨(h6 q hq).1, by rw [gI_pI, if_neg (hn q hq)]; exact (h6 q hq).2⟩⟩
theorem Cst.mIa {a k : Nat} {v : Int32} (h : Cst S LR LK LI zz uu) (hn : ∀ q ∈ LI, ¬ (q.1 = a ∧ q.2.1 = k)) (ha : a ≤ zz) : Cst (pI S a k v) LR LK ((a, k, v) :: LI) zz uu := by
  obtain ⟨h1, h2, h3, h4, h5, h6⟩ := h
  refine ⟨h1.Z rfl, h2, h3, h4, h5, fun q hq => ?_⟩
  rcases List.mem_cons.mp hq with rfl | hq
  · exact ⟨ha, by rw [gI_pI, if_pos ⟨rfl, rfl⟩]⟩
  · exact ⟨(h6 q hq).1, by rw [gI_pI, if_neg (hn q hq)]; exact (h6 q hq).2⟩
theorem Cst.mL {a k : Nat} {v : Int64} (h : Cst S LR LK LI zz uu) : Cst (pL S a k v) LR LK LI zz uu := ⟨h.1.Z rfl, h.2⟩
theorem Cst.fx {P : Nat → Nat → Prop} (h : Cst S LR LK LI zz uu) (f : FX P S S') (hv : Lv S') (hz : gZ S' = zz') (hu : gU S' = uu') (hle : zz ≤ zz') (hr : ∀ q ∈ LR, ¬ P q.1 q.2.1) (hi : ∀ q ∈ LI, ¬ P q.1 q.2.1) : Cst S' LR LK LI zz' uu' := by
  obtain ⟨h1, h2, h3, h4, h5, h6⟩ := h
  refine ⟨hv, hz, hu, fun q hq => ?_, fun q hq => ?_, fun q hq => ?_⟩
  · have := h4 q hq
    exact ⟨by omega, by rw [f.R (by omega) (hr q hq)]; exact this.2⟩
  · have := h5 q hq
    exact ⟨by omega, by rw [f.K (by omega)]; exact this.2.1, by rw [f.N (by omega)]; exact this.2.2⟩
  · have := h6 q hq
    exact ⟨by omega, by rw [f.I (by omega) (hi q hq)]; exact this.2⟩
theorem Cst.fr {P L : Nat → Nat → Prop} (h : Cst S LR LK LI zz uu) (f : Fr P L S S') (hi : ∀ q ∈ LI, ¬ P q.1 q.2.1) : Cst S' LR LK LI zz uu := by
  obtain ⟨h1, h2, h3, h4, h5, h6⟩ := h
  exact ⟨h1.Z (by rw [f.2.2]), by rw [f.Z]; exact h2, by rw [f.U]; exact h3, fun q hq => ⟨(h4 q hq).1, by rw [f.R]; exact (h4 q hq).2⟩, fun q hq => ⟨(h5 q hq).1, by rw [f.K]; exact (h5 q hq).2.1, by rw [f.N]; exact (h5 q hq).2.2⟩, fun q hq => ⟨(h6 q hq).1, by rw [f.1 _ _ (hi q hq)]; exact (h6 q hq).2⟩⟩
set_option maxRecDepth 4096 in
theorem rdh0 (h : Cst S LR LK LI zz uu) (h1 : ∀ q ∈ ([(3, 4, 4), (3, 5, 5), (3, 7, 7)] : List (Nat × Nat × Nat)), q ∈ LR := by decide) (h2 : ∀ q ∈ ([(3, 2, 19), (4, 100, 6), (5, 100, 6), (7, 100, 1000)] : List (Nat × Nat × Nat)), q ∈ LK := by decide) (h3 : ∀ q ∈ ([(3, 0, 2), (3, 1, 1), (3, 2, 0), (3, 3, 0), (3, 10, 0)] : List (Nat × Nat × Int32)), q ∈ LI := by decide) : RdH S 2 1 ls0 := by
  refine ⟨⟨h.k (h2 (3, 2, 19) (by decide)), h.r (h1 (3, 4, 4) (by decide)), h.r (h1 (3, 5, 5) (by decide)), h.r (h1 (3, 7, 7) (by decide))⟩, ⟨⟨h.k (h2 (4, 100, 6) (by decide)), h.n (h2 (4, 100, 6) (by decide))⟩, ⟨h.k (h2 (5, 100, 6) (by decide)), h.n (h2 (5, 100, 6) (by decide))⟩, h.k (h2 (7, 100, 1000) (by decide)), h.n (h2 (7, 100, 1000) (by decide))⟩, ⟨h.i (h3 (3, 0, 2) (by decide)), h.i (h3 (3, 1, 1) (by decide)), h.i (h3 (3, 2, 0) (by decide)), h.i (h3 (3, 3, 0) (by decide)), h.i (h3 (3, 10, 0) (by decide))⟩, ⟨fun i v hv => (by cases hv), fun i v hv => (by cases hv)⟩, fun z => (by cases z), by decide, by decide, okLn_0⟩
def ShS (S : St) : Prop := gK S 9 = 4 ∧ gR S 9 4 = 11 ∧ gK S 11 = 100 ∧ gN S 11 = 2 ∧ gR S 9 5 = 12 ∧ gK S 12 = 100 ∧ gN S 12 = 10 ∧ gR S 9 6 = 13 ∧ gK S 13 = 100 ∧ gN S 13 = 10
theorem ShS.of (h : ShS S) (e : S'.2.2 = S.2.2) : ShS S' := by
  unfold ShS gR gK gN at h ⊢
  rw [e]
  exact h
theorem ShS.k9 (h : ShS S) : gK S 9 = 4 := h.1
theorem ShS.r9_4 (h : ShS S) : gR S 9 4 = 11 := h.2.1
theorem ShS.k11 (h : ShS S) : gK S 11 = 100 := h.2.2.1
theorem ShS.n11 (h : ShS S) : gN S 11 = 2 := h.2.2.2.1
theorem ShS.r9_5 (h : ShS S) : gR S 9 5 = 12 := h.2.2.2.2.1
theorem ShS.k12 (h : ShS S) : gK S 12 = 100 := h.2.2.2.2.2.1
theorem ShS.n12 (h : ShS S) : gN S 12 = 10 := h.2.2.2.2.2.2.1
theorem ShS.r9_6 (h : ShS S) : gR S 9 6 = 13 := h.2.2.2.2.2.2.2.1
theorem ShS.k13 (h : ShS S) : gK S 13 = 100 := h.2.2.2.2.2.2.2.2.1
theorem ShS.n13 (h : ShS S) : gN S 13 = 10 := h.2.2.2.2.2.2.2.2.2
theorem shs (h : Cst S LR LK LI zz uu) (h1 : ∀ q ∈ ([(9, 4, 11), (9, 5, 12), (9, 6, 13)] : List (Nat × Nat × Nat)), q ∈ LR := by decide) (h2 : ∀ q ∈ ([(9, 4, 8), (11, 100, 2), (12, 100, 10), (13, 100, 10)] : List (Nat × Nat × Nat)), q ∈ LK := by decide) : ShS S :=
  ⟨h.k (h2 (9, 4, 8) (by decide)), h.r (h1 (9, 4, 11) (by decide)), h.k (h2 (11, 100, 2) (by decide)), h.n (h2 (11, 100, 2) (by decide)), h.r (h1 (9, 5, 12) (by decide)), h.k (h2 (12, 100, 10) (by decide)), h.n (h2 (12, 100, 10) (by decide)), h.r (h1 (9, 6, 13) (by decide)), h.k (h2 (13, 100, 10) (by decide)), h.n (h2 (13, 100, 10) (by decide))⟩
abbrev MkF : Nat → Nat → Prop := fun a _ => a = 16 ∨ (31 ≤ a ∧ a ≤ 38)
theorem SiteP.fx {P : Nat → Nat → Prop} {p : Pos} (h : SiteP S p) (hf : FX P S S') (hz : 13 ≤ gZ S) (h1 : ∀ a k, P a k → a ≠ 9 ∧ a ≠ 11 ∧ a ≠ 12 ∧ a ≠ 13) : SiteP S' p := by
  obtain ⟨a, b, c, d, e, f⟩ := h
  have n9 : ∀ k, ¬ P 9 k := fun k z => (h1 _ _ z).1 rfl
  exact ⟨(hf.I (by omega) (n9 _)).trans a, (hf.L (by omega) (n9 _)).trans b, (hf.I (by omega) (n9 _)).trans c, fun t ht => (hf.I (by omega) (fun z => (h1 _ _ z).2.1 rfl)).trans (d t ht), fun t ht => (hf.I (by omega) (fun z => (h1 _ _ z).2.2.1 rfl)).trans (e t ht), fun t ht => (hf.I (by omega) (fun z => (h1 _ _ z).2.2.2 rfl)).trans (f t ht)⟩
end CST
theorem mkF_s : ∀ (a k : Nat), MkF a k → a ≠ 9 ∧ a ≠ 11 ∧ a ≠ 12 ∧ a ≠ 13 := fun a k z => by rcases z with z | z <;> omega
theorem mkF_d : ∀ (a k : Nat), MkF a k → ¬ dyn a := fun a k z y => by
  unfold dyn at y
  rcases z with z | z <;> omega
set_option maxRecDepth 4096 in
theorem f51c {d : Nat} {S : St} (hS : ShS S) : Sp (F (d + 1) 51 [.ref 9] S) (fun r S' => r = none ∧ Fr SP SP S S' ∧ SiteP S' pos0 ∧ ∀ k, gI S' 10 k = gI S 10 k) := by
  refine fw51 (w51_0 ?_)
  refine W_t (hS.k9) ?_
  refine W_s fun S1 e1 => ?_
  have f1 : Fr SP SP S S1 := by rw [e1]; exact SP_i (by decide) (by decide)
  refine W_t (by rw [f1.K]; exact hS.k9) ?_
  refine W_s fun S2 e2 => ?_
  have f2 : Fr SP SP S S2 := by rw [e2]; exact f1.tr (Fr.putL ⟨by decide, by decide⟩)
  refine W_t (by rw [f2.K]; exact hS.k9) ?_
  refine W_s fun S3 e3 => ?_
  have f3 : Fr SP SP S S3 := by rw [e3]; exact f2.tr (SP_i (by decide) (by decide))
  refine W_t (by rw [f3.K]; exact hS.k9) ?_
  refine W_t (by rw [f3.R, f3.K, f3.N, hS.r9_4, hS.k11, hS.n11]; exact ⟨rfl, inB_n (n := 0) (by decide) (by decide)⟩) ?_
  refine W_s fun S4 e4 => ?_
  rw [f3.R, hS.r9_4, show (0 : Int32).toNatClampNeg = 0 from by decide +kernel] at e4
  have f4 : Fr SP SP S S4 := by rw [e4]; exact f3.tr (SP_i (by decide) (by decide))
  refine W_t (by rw [f4.K]; exact hS.k9) ?_
  refine W_t (by rw [f4.R, f4.K, f4.N, hS.r9_4, hS.k11, hS.n11]; exact ⟨rfl, inB_n (n := 1) (by decide) (by decide)⟩) ?_
  refine W_s fun S5 e5 => ?_
  rw [f4.R, hS.r9_4, show (1 : Int32).toNatClampNeg = 1 from by decide +kernel] at e5
  have f5 : Fr SP SP S S5 := by rw [e5]; exact f4.tr (SP_i (by decide) (by decide))
  have q1 : gI S5 9 1 = 0 := by rw [e5, gI_pI, if_neg (by decide), e4, gI_pI, if_neg (by decide), e3, gI_pI, if_neg (by decide), e2, gI_pL, e1, gI_pI, if_pos ⟨rfl, rfl⟩]
  have q2 : gL S5 9 2 = 0 := by rw [e5, gL_pI, e4, gL_pI, e3, gL_pI, e2, gL_pL, if_pos ⟨rfl, rfl⟩]
  have q3 : gI S5 9 3 = 0 := by rw [e5, gI_pI, if_neg (by decide), e4, gI_pI, if_neg (by decide), e3, gI_pI, if_pos ⟨rfl, rfl⟩]
  have q4 : gI S5 11 0 = 0 := by rw [e5, gI_pI, if_neg (by decide), e4, gI_pI, if_pos ⟨rfl, rfl⟩]
  have q5 : gI S5 11 1 = 0 := by rw [e5, gI_pI, if_pos ⟨rfl, rfl⟩]
  have q6 : ∀ k, gI S5 10 k = gI S 10 k := fun k => by
    rw [e5, gI_pI, if_neg (by omega), e4, gI_pI, if_neg (by omega), e3, gI_pI, if_neg (by omega), e2, gI_pL, e1, gI_pI, if_neg (by omega)]
  show WP _ _ _
  have key : ∀ (m c : Nat) (S' : St), m = 10 - c → c ≤ 10 → Fr (fun a _ => a = 12 ∨ a = 13) nol S5 S' → (∀ j, j < c → gI S' 12 j = 0 ∧ gI S' 13 j = -1) → WP (P51 (F d)) (1, [.ref 9, .int (nI c)], [], S') (fun r S' => (gZ S ≤ gZ S' ∧ gU S ≤ gU S') ∧ r = none ∧ Fr SP SP S S' ∧ SiteP S' pos0 ∧ ∀ k, gI S' 10 k = gI S 10 k) := by
    intro m
    induction m with
    | zero =>
      intro c S' hm hc hf hz
      have hff : Fr SP SP S S' := f5.tr (hf.weak (fun a k z => by have z : a = 12 ∨ a = 13 := z; show 9 ≤ a ∧ a ≤ 15; omega) (fun _ _ z => z.elim))
      refine w51_1 ?_
      refine W_f (by rw [c10, i_lt (by omega) (by decide)]; omega) ?_
      refine ⟨hff.mono, rfl, hff, ⟨?_, ?_, ?_, fun t ht => ?_, fun t ht => ?_, fun t ht => ?_⟩, fun k => ?_⟩
      · rw [hf.1 _ _ (by decide)]; exact q1
      · rw [hf.2.1 _ _ (fun z => z)]; exact q2
      · rw [hf.1 _ _ (by decide)]; exact q3
      · rw [hf.1 _ _ (by show ¬ (11 = 12 ∨ 11 = 13); decide)]
        rcases (show t = 0 ∨ t = 1 by omega) with rfl | rfl
        · exact q4
        · exact q5
      · exact (hz t (by omega)).1
      · exact (hz t (by omega)).2
      · rw [hf.1 _ _ (by show ¬ (10 = 12 ∨ 10 = 13); decide)]; exact q6 k
    | succ m ih =>
      intro c S' hm hc hf hz
      have fs : S'.2.2 = S.2.2 := by rw [hf.2.2, f5.2.2]
      have hS' := hS.of fs
      refine w51_1 ?_
      refine W_t (by rw [c10, i_lt (by omega) (by decide)]; omega) ?_
      refine W_t (hS'.k9) ?_
      refine W_t (by rw [hS'.r9_5, hS'.k12, hS'.n12]; exact ⟨rfl, inB_n (by omega) (by decide)⟩) ?_
      refine W_s fun S6 e6 => ?_
      rw [hS'.r9_5, nI_clamp (by omega)] at e6
      have f6 : Fr (fun a _ => a = 12 ∨ a = 13) nol S' S6 := by rw [e6]; exact Fr.putI (Or.inl rfl)
      have hS6 := hS'.of f6.2.2
      refine W_t (hS6.k9) ?_
      refine W_t (by rw [hS6.r9_6, hS6.k13, hS6.n13]; exact ⟨rfl, inB_n (by omega) (by decide)⟩) ?_
      refine W_s fun S7 e7 => ?_
      rw [hS6.r9_6, nI_clamp (by omega)] at e7
      have f7 : Fr (fun a _ => a = 12 ∨ a = 13) nol S6 S7 := by rw [e7]; exact Fr.putI (Or.inr rfl)
      show WP _ _ _
      rw [nI_1]
      refine ih (c + 1) S7 (by omega) (by omega) ((hf.tr f6).tr f7) (fun j hj => ?_)
      by_cases e : j = c
      · subst e
        constructor
        · rw [e7, gI_pI, if_neg (by omega), e6, gI_pI, if_pos ⟨rfl, rfl⟩]
        · rw [e7, gI_pI, if_pos ⟨rfl, rfl⟩]
      · have := hz j (by omega)
        constructor
        · rw [e7, gI_pI, if_neg (by omega), e6, gI_pI, if_neg (by omega)]; exact this.1
        · rw [e7, gI_pI, if_neg (by omega), e6, gI_pI, if_neg (by omega)]; exact this.2
  exact key 10 0 S5 rfl (by omega) Fr.rf (fun j hj => by omega)

set_option maxRecDepth 4096 in
theorem f18c {d : Nat} {S : St} (c0 : Cst S [(1, 0, 2)] [(3, 2, 19), (2, 102, 1000), (1, 7, 12)] ([(1, 1, 0)] : List (Nat × Nat × Int32)) 3 (1031)) : Sp (F (d + 1) 18 [.ref 3] S) (fun v S' => v = none ∧ Cst S' [(3, 11, 8), (3, 7, 7), (3, 6, 6), (3, 5, 5), (3, 4, 4), (1, 0, 2)] [(8, 102, 0), (7, 100, 1000), (6, 101, 6), (5, 100, 6), (4, 100, 6), (3, 2, 19), (2, 102, 1000), (1, 7, 12)] ([(3, 10, 0), (3, 3, 0), (3, 2, 0), (3, 1, 1), (3, 0, 2), (1, 1, 0)] : List (Nat × Nat × Int32)) 8 (2049)) := by
  refine fw18 (w18_0 ?_)
  refine W_f (by decide) ?_
  refine W_t (c0.k (a := 3) (c := 2) (n := 19) (by decide)) ?_
  refine W_s fun S1 e1 => ?_
  have c1 : Cst S1 [(1, 0, 2)] [(3, 2, 19), (2, 102, 1000), (1, 7, 12)] ([(3, 0, 2), (1, 1, 0)] : List (Nat × Nat × Int32)) 3 (1031) := by rw [e1]; exact c0.mIa (by decide) (by decide)
  clear e1
  refine W_t (c1.k (a := 3) (c := 2) (n := 19) (by decide)) ?_
  refine W_s fun S2 e2 => ?_
  have c2 : Cst S2 [(1, 0, 2)] [(3, 2, 19), (2, 102, 1000), (1, 7, 12)] ([(3, 1, 1), (3, 0, 2), (1, 1, 0)] : List (Nat × Nat × Int32)) 3 (1031) := by rw [e2]; exact c1.mIa (by decide) (by decide)
  clear e2
  refine W_t (c2.k (a := 3) (c := 2) (n := 19) (by decide)) ?_
  refine W_s fun S3 e3 => ?_
  have c3 : Cst S3 [(1, 0, 2)] [(3, 2, 19), (2, 102, 1000), (1, 7, 12)] ([(3, 2, 0), (3, 1, 1), (3, 0, 2), (1, 1, 0)] : List (Nat × Nat × Int32)) 3 (1031) := by rw [e3]; exact c2.mIa (by decide) (by decide)
  clear e3
  refine W_t (c3.k (a := 3) (c := 2) (n := 19) (by decide)) ?_
  refine W_s fun S4 e4 => ?_
  have c4 : Cst S4 [(1, 0, 2)] [(3, 2, 19), (2, 102, 1000), (1, 7, 12)] ([(3, 3, 0), (3, 2, 0), (3, 1, 1), (3, 0, 2), (1, 1, 0)] : List (Nat × Nat × Int32)) 3 (1031) := by rw [e4]; exact c3.mIa (by decide) (by decide)
  clear e4
  refine W_t (by decide) ?_
  refine W_s fun S5 e5 => ?_
  have c5 : Cst S5 [(1, 0, 2)] [(4, 100, 6), (3, 2, 19), (2, 102, 1000), (1, 7, 12)] ([(3, 3, 0), (3, 2, 0), (3, 1, 1), (3, 0, 2), (1, 1, 0)] : List (Nat × Nat × Int32)) 4 (1037) := by rw [e5, show (6 : Int32).toNatClampNeg = 6 from by decide +kernel]; exact c4.mnw 100 6
  clear e5
  refine W_t (c5.k (a := 3) (c := 2) (n := 19) (by decide)) ?_
  refine W_s fun S6 e6 => ?_
  have c6 : Cst S6 [(3, 4, 4), (1, 0, 2)] [(4, 100, 6), (3, 2, 19), (2, 102, 1000), (1, 7, 12)] ([(3, 3, 0), (3, 2, 0), (3, 1, 1), (3, 0, 2), (1, 1, 0)] : List (Nat × Nat × Int32)) 4 (1037) := by rw [e6, c4.z]; exact c5.mR (by decide) (by decide)
  clear e6
  refine W_t (by decide) ?_
  refine W_s fun S7 e7 => ?_
  have c7 : Cst S7 [(3, 4, 4), (1, 0, 2)] [(5, 100, 6), (4, 100, 6), (3, 2, 19), (2, 102, 1000), (1, 7, 12)] ([(3, 3, 0), (3, 2, 0), (3, 1, 1), (3, 0, 2), (1, 1, 0)] : List (Nat × Nat × Int32)) 5 (1043) := by rw [e7, show (6 : Int32).toNatClampNeg = 6 from by decide +kernel]; exact c6.mnw 100 6
  clear e7
  refine W_t (c7.k (a := 3) (c := 2) (n := 19) (by decide)) ?_
  refine W_s fun S8 e8 => ?_
  have c8 : Cst S8 [(3, 5, 5), (3, 4, 4), (1, 0, 2)] [(5, 100, 6), (4, 100, 6), (3, 2, 19), (2, 102, 1000), (1, 7, 12)] ([(3, 3, 0), (3, 2, 0), (3, 1, 1), (3, 0, 2), (1, 1, 0)] : List (Nat × Nat × Int32)) 5 (1043) := by rw [e8, c6.z]; exact c7.mR (by decide) (by decide)
  clear e8
  refine W_t (by decide) ?_
  refine W_s fun S9 e9 => ?_
  have c9 : Cst S9 [(3, 5, 5), (3, 4, 4), (1, 0, 2)] [(6, 101, 6), (5, 100, 6), (4, 100, 6), (3, 2, 19), (2, 102, 1000), (1, 7, 12)] ([(3, 3, 0), (3, 2, 0), (3, 1, 1), (3, 0, 2), (1, 1, 0)] : List (Nat × Nat × Int32)) 6 (1049) := by rw [e9, show (6 : Int32).toNatClampNeg = 6 from by decide +kernel]; exact c8.mnw 101 6
  clear e9
  refine W_t (c9.k (a := 3) (c := 2) (n := 19) (by decide)) ?_
  refine W_s fun S10 e10 => ?_
  have c10 : Cst S10 [(3, 6, 6), (3, 5, 5), (3, 4, 4), (1, 0, 2)] [(6, 101, 6), (5, 100, 6), (4, 100, 6), (3, 2, 19), (2, 102, 1000), (1, 7, 12)] ([(3, 3, 0), (3, 2, 0), (3, 1, 1), (3, 0, 2), (1, 1, 0)] : List (Nat × Nat × Int32)) 6 (1049) := by rw [e10, c8.z]; exact c9.mR (by decide) (by decide)
  clear e10
  refine W_t (by decide) ?_
  refine W_s fun S11 e11 => ?_
  have c11 : Cst S11 [(3, 6, 6), (3, 5, 5), (3, 4, 4), (1, 0, 2)] [(7, 100, 1000), (6, 101, 6), (5, 100, 6), (4, 100, 6), (3, 2, 19), (2, 102, 1000), (1, 7, 12)] ([(3, 3, 0), (3, 2, 0), (3, 1, 1), (3, 0, 2), (1, 1, 0)] : List (Nat × Nat × Int32)) 7 (2049) := by rw [e11, show (1000 : Int32).toNatClampNeg = 1000 from by decide +kernel]; exact c10.mnw 100 1000
  clear e11
  refine W_t (c11.k (a := 3) (c := 2) (n := 19) (by decide)) ?_
  refine W_s fun S12 e12 => ?_
  have c12 : Cst S12 [(3, 7, 7), (3, 6, 6), (3, 5, 5), (3, 4, 4), (1, 0, 2)] [(7, 100, 1000), (6, 101, 6), (5, 100, 6), (4, 100, 6), (3, 2, 19), (2, 102, 1000), (1, 7, 12)] ([(3, 3, 0), (3, 2, 0), (3, 1, 1), (3, 0, 2), (1, 1, 0)] : List (Nat × Nat × Int32)) 7 (2049) := by rw [e12, c10.z]; exact c11.mR (by decide) (by decide)
  clear e12
  refine W_t (c12.k (a := 3) (c := 2) (n := 19) (by decide)) ?_
  refine W_s fun S13 e13 => ?_
  have c13 : Cst S13 [(3, 7, 7), (3, 6, 6), (3, 5, 5), (3, 4, 4), (1, 0, 2)] [(7, 100, 1000), (6, 101, 6), (5, 100, 6), (4, 100, 6), (3, 2, 19), (2, 102, 1000), (1, 7, 12)] ([(3, 3, 0), (3, 2, 0), (3, 1, 1), (3, 0, 2), (1, 1, 0)] : List (Nat × Nat × Int32)) 7 (2049) := by rw [e13]; exact c12.mI (by decide)
  clear e13
  refine W_t (⟨c13.k (a := 3) (c := 2) (n := 19) (by decide), by decide⟩) ?_
  refine W_s fun S14 e14 => ?_
  have c14 : Cst S14 [(3, 7, 7), (3, 6, 6), (3, 5, 5), (3, 4, 4), (1, 0, 2)] [(7, 100, 1000), (6, 101, 6), (5, 100, 6), (4, 100, 6), (3, 2, 19), (2, 102, 1000), (1, 7, 12)] ([(3, 3, 0), (3, 2, 0), (3, 1, 1), (3, 0, 2), (1, 1, 0)] : List (Nat × Nat × Int32)) 7 (2049) := by rw [e14]; exact c13.mI (by decide)
  clear e14
  refine W_t (⟨c14.k (a := 3) (c := 2) (n := 19) (by decide), by decide⟩) ?_
  refine W_s fun S15 e15 => ?_
  have c15 : Cst S15 [(3, 7, 7), (3, 6, 6), (3, 5, 5), (3, 4, 4), (1, 0, 2)] [(7, 100, 1000), (6, 101, 6), (5, 100, 6), (4, 100, 6), (3, 2, 19), (2, 102, 1000), (1, 7, 12)] ([(3, 10, 0), (3, 3, 0), (3, 2, 0), (3, 1, 1), (3, 0, 2), (1, 1, 0)] : List (Nat × Nat × Int32)) 7 (2049) := by rw [e15]; exact c14.mIa (by decide) (by decide)
  clear e15
  refine W_t (by decide) ?_
  refine W_s fun S16 e16 => ?_
  have c16 : Cst S16 [(3, 7, 7), (3, 6, 6), (3, 5, 5), (3, 4, 4), (1, 0, 2)] [(8, 102, 0), (7, 100, 1000), (6, 101, 6), (5, 100, 6), (4, 100, 6), (3, 2, 19), (2, 102, 1000), (1, 7, 12)] ([(3, 10, 0), (3, 3, 0), (3, 2, 0), (3, 1, 1), (3, 0, 2), (1, 1, 0)] : List (Nat × Nat × Int32)) 8 (2049) := by rw [e16, show (0 : Int32).toNatClampNeg = 0 from by decide +kernel]; exact c15.mnw 102 0
  clear e16
  refine W_t (c16.k (a := 3) (c := 2) (n := 19) (by decide)) ?_
  refine W_s fun S17 e17 => ?_
  have c17 : Cst S17 [(3, 11, 8), (3, 7, 7), (3, 6, 6), (3, 5, 5), (3, 4, 4), (1, 0, 2)] [(8, 102, 0), (7, 100, 1000), (6, 101, 6), (5, 100, 6), (4, 100, 6), (3, 2, 19), (2, 102, 1000), (1, 7, 12)] ([(3, 10, 0), (3, 3, 0), (3, 2, 0), (3, 1, 1), (3, 0, 2), (1, 1, 0)] : List (Nat × Nat × Int32)) 8 (2049) := by rw [e17, c15.z]; exact c16.mR (by decide) (by decide)
  clear e17
  refine W_t (c17.k (a := 3) (c := 2) (n := 19) (by decide)) ?_
  refine W_s fun S18 e18 => ?_
  have c18 : Cst S18 [(3, 11, 8), (3, 7, 7), (3, 6, 6), (3, 5, 5), (3, 4, 4), (1, 0, 2)] [(8, 102, 0), (7, 100, 1000), (6, 101, 6), (5, 100, 6), (4, 100, 6), (3, 2, 19), (2, 102, 1000), (1, 7, 12)] ([(3, 10, 0), (3, 3, 0), (3, 2, 0), (3, 1, 1), (3, 0, 2), (1, 1, 0)] : List (Nat × Nat × Int32)) 8 (2049) := by rw [e18]; exact c17.mI (by decide)
  clear e18
  refine W_t (c18.k (a := 3) (c := 2) (n := 19) (by decide)) ?_
  refine W_s fun S19 e19 => ?_
  have c19 : Cst S19 [(3, 11, 8), (3, 7, 7), (3, 6, 6), (3, 5, 5), (3, 4, 4), (1, 0, 2)] [(8, 102, 0), (7, 100, 1000), (6, 101, 6), (5, 100, 6), (4, 100, 6), (3, 2, 19), (2, 102, 1000), (1, 7, 12)] ([(3, 10, 0), (3, 3, 0), (3, 2, 0), (3, 1, 1), (3, 0, 2), (1, 1, 0)] : List (Nat × Nat × Int32)) 8 (2049) := by rw [e19]; exact c18.mI (by decide)
  clear e19
  refine W_t (c19.k (a := 3) (c := 2) (n := 19) (by decide)) ?_
  refine W_s fun S20 e20 => ?_
  have c20 : Cst S20 [(3, 11, 8), (3, 7, 7), (3, 6, 6), (3, 5, 5), (3, 4, 4), (1, 0, 2)] [(8, 102, 0), (7, 100, 1000), (6, 101, 6), (5, 100, 6), (4, 100, 6), (3, 2, 19), (2, 102, 1000), (1, 7, 12)] ([(3, 10, 0), (3, 3, 0), (3, 2, 0), (3, 1, 1), (3, 0, 2), (1, 1, 0)] : List (Nat × Nat × Int32)) 8 (2049) := by rw [e20]; exact c19.mI (by decide)
  clear e20
  refine W_t (c20.k (a := 3) (c := 2) (n := 19) (by decide)) ?_
  refine W_s fun S21 e21 => ?_
  have c21 : Cst S21 [(3, 11, 8), (3, 7, 7), (3, 6, 6), (3, 5, 5), (3, 4, 4), (1, 0, 2)] [(8, 102, 0), (7, 100, 1000), (6, 101, 6), (5, 100, 6), (4, 100, 6), (3, 2, 19), (2, 102, 1000), (1, 7, 12)] ([(3, 10, 0), (3, 3, 0), (3, 2, 0), (3, 1, 1), (3, 0, 2), (1, 1, 0)] : List (Nat × Nat × Int32)) 8 (2049) := by rw [e21]; exact c20.mI (by decide)
  clear e21
  refine W_t (c21.k (a := 3) (c := 2) (n := 19) (by decide)) ?_
  refine W_s fun S22 e22 => ?_
  have c22 : Cst S22 [(3, 11, 8), (3, 7, 7), (3, 6, 6), (3, 5, 5), (3, 4, 4), (1, 0, 2)] [(8, 102, 0), (7, 100, 1000), (6, 101, 6), (5, 100, 6), (4, 100, 6), (3, 2, 19), (2, 102, 1000), (1, 7, 12)] ([(3, 10, 0), (3, 3, 0), (3, 2, 0), (3, 1, 1), (3, 0, 2), (1, 1, 0)] : List (Nat × Nat × Int32)) 8 (2049) := by rw [e22]; exact c21.mI (by decide)
  clear e22
  refine W_t (c22.k (a := 3) (c := 2) (n := 19) (by decide)) ?_
  refine W_s fun S23 e23 => ?_
  have c23 : Cst S23 [(3, 11, 8), (3, 7, 7), (3, 6, 6), (3, 5, 5), (3, 4, 4), (1, 0, 2)] [(8, 102, 0), (7, 100, 1000), (6, 101, 6), (5, 100, 6), (4, 100, 6), (3, 2, 19), (2, 102, 1000), (1, 7, 12)] ([(3, 10, 0), (3, 3, 0), (3, 2, 0), (3, 1, 1), (3, 0, 2), (1, 1, 0)] : List (Nat × Nat × Int32)) 8 (2049) := by rw [e23]; exact c22.mI (by decide)
  clear e23
  refine W_t (c23.k (a := 3) (c := 2) (n := 19) (by decide)) ?_
  refine W_s fun S24 e24 => ?_
  have c24 : Cst S24 [(3, 11, 8), (3, 7, 7), (3, 6, 6), (3, 5, 5), (3, 4, 4), (1, 0, 2)] [(8, 102, 0), (7, 100, 1000), (6, 101, 6), (5, 100, 6), (4, 100, 6), (3, 2, 19), (2, 102, 1000), (1, 7, 12)] ([(3, 10, 0), (3, 3, 0), (3, 2, 0), (3, 1, 1), (3, 0, 2), (1, 1, 0)] : List (Nat × Nat × Int32)) 8 (2049) := by rw [e24]; exact c23.mL
  clear e24
  exact ⟨⟨by rw [c0.z, c24.z]; decide, by rw [c0.u, c24.u]; omega⟩, rfl, c24⟩
set_option maxRecDepth 4096 in
theorem f44c {d : Nat} {S : St} (c0 : Cst S [(9, 6, 13), (9, 5, 12), (9, 4, 11), (9, 0, 10), (1, 2, 3), (3, 11, 8), (3, 7, 7), (3, 6, 6), (3, 5, 5), (3, 4, 4), (1, 0, 2)] [(14, 3, 2), (13, 100, 10), (12, 100, 10), (11, 100, 2), (10, 100, 60), (9, 4, 8), (8, 102, 0), (7, 100, 1000), (6, 101, 6), (5, 100, 6), (4, 100, 6), (3, 2, 19), (2, 102, 1000), (1, 7, 12)] ([(3, 10, 0), (3, 3, 0), (3, 2, 0), (3, 1, 1), (3, 0, 2), (1, 1, 0)] : List (Nat × Nat × Int32)) 14 (2141)) : Sp (F (d + 1) 44 [.ref 14] S) (fun v S' => v = none ∧ Cst S' [(14, 0, 15), (9, 6, 13), (9, 5, 12), (9, 4, 11), (9, 0, 10), (1, 2, 3), (3, 11, 8), (3, 7, 7), (3, 6, 6), (3, 5, 5), (3, 4, 4), (1, 0, 2)] [(15, 100, 32), (14, 3, 2), (13, 100, 10), (12, 100, 10), (11, 100, 2), (10, 100, 60), (9, 4, 8), (8, 102, 0), (7, 100, 1000), (6, 101, 6), (5, 100, 6), (4, 100, 6), (3, 2, 19), (2, 102, 1000), (1, 7, 12)] ([(3, 10, 0), (3, 3, 0), (3, 2, 0), (3, 1, 1), (3, 0, 2), (1, 1, 0)] : List (Nat × Nat × Int32)) 15 (2173)) := by
  refine fw44 (w44_0 ?_)
  refine W_f (by decide) ?_
  refine W_t (by decide) ?_
  refine W_s fun S1 e1 => ?_
  have c1 : Cst S1 [(9, 6, 13), (9, 5, 12), (9, 4, 11), (9, 0, 10), (1, 2, 3), (3, 11, 8), (3, 7, 7), (3, 6, 6), (3, 5, 5), (3, 4, 4), (1, 0, 2)] [(15, 100, 32), (14, 3, 2), (13, 100, 10), (12, 100, 10), (11, 100, 2), (10, 100, 60), (9, 4, 8), (8, 102, 0), (7, 100, 1000), (6, 101, 6), (5, 100, 6), (4, 100, 6), (3, 2, 19), (2, 102, 1000), (1, 7, 12)] ([(3, 10, 0), (3, 3, 0), (3, 2, 0), (3, 1, 1), (3, 0, 2), (1, 1, 0)] : List (Nat × Nat × Int32)) 15 (2173) := by rw [e1, show (32 : Int32).toNatClampNeg = 32 from by decide +kernel]; exact c0.mnw 100 32
  clear e1
  refine W_t (c1.k (a := 14) (c := 3) (n := 2) (by decide)) ?_
  refine W_s fun S2 e2 => ?_
  have c2 : Cst S2 [(14, 0, 15), (9, 6, 13), (9, 5, 12), (9, 4, 11), (9, 0, 10), (1, 2, 3), (3, 11, 8), (3, 7, 7), (3, 6, 6), (3, 5, 5), (3, 4, 4), (1, 0, 2)] [(15, 100, 32), (14, 3, 2), (13, 100, 10), (12, 100, 10), (11, 100, 2), (10, 100, 60), (9, 4, 8), (8, 102, 0), (7, 100, 1000), (6, 101, 6), (5, 100, 6), (4, 100, 6), (3, 2, 19), (2, 102, 1000), (1, 7, 12)] ([(3, 10, 0), (3, 3, 0), (3, 2, 0), (3, 1, 1), (3, 0, 2), (1, 1, 0)] : List (Nat × Nat × Int32)) 15 (2173) := by rw [e2, c0.z]; exact c1.mR (by decide) (by decide)
  clear e2
  refine W_t (c2.k (a := 14) (c := 3) (n := 2) (by decide)) ?_
  refine W_s fun S3 e3 => ?_
  have c3 : Cst S3 [(14, 0, 15), (9, 6, 13), (9, 5, 12), (9, 4, 11), (9, 0, 10), (1, 2, 3), (3, 11, 8), (3, 7, 7), (3, 6, 6), (3, 5, 5), (3, 4, 4), (1, 0, 2)] [(15, 100, 32), (14, 3, 2), (13, 100, 10), (12, 100, 10), (11, 100, 2), (10, 100, 60), (9, 4, 8), (8, 102, 0), (7, 100, 1000), (6, 101, 6), (5, 100, 6), (4, 100, 6), (3, 2, 19), (2, 102, 1000), (1, 7, 12)] ([(3, 10, 0), (3, 3, 0), (3, 2, 0), (3, 1, 1), (3, 0, 2), (1, 1, 0)] : List (Nat × Nat × Int32)) 15 (2173) := by rw [e3]; exact c2.mI (by decide)
  clear e3
  exact ⟨⟨by rw [c0.z, c3.z]; decide, by rw [c0.u, c3.u]; omega⟩, rfl, c3⟩
set_option maxRecDepth 4096 in
theorem f49c {d : Nat} {S : St} (c0 : Cst S [(1, 2, 3), (3, 11, 8), (3, 7, 7), (3, 6, 6), (3, 5, 5), (3, 4, 4), (1, 0, 2)] [(9, 4, 8), (8, 102, 0), (7, 100, 1000), (6, 101, 6), (5, 100, 6), (4, 100, 6), (3, 2, 19), (2, 102, 1000), (1, 7, 12)] ([(3, 10, 0), (3, 3, 0), (3, 2, 0), (3, 1, 1), (3, 0, 2), (1, 1, 0)] : List (Nat × Nat × Int32)) 9 (2057)) : Sp (F (d + 2) 49 [.ref 9] S) (fun v S' => v = none ∧ Cst S' [(9, 7, 14), (14, 0, 15), (9, 6, 13), (9, 5, 12), (9, 4, 11), (9, 0, 10), (1, 2, 3), (3, 11, 8), (3, 7, 7), (3, 6, 6), (3, 5, 5), (3, 4, 4), (1, 0, 2)] [(15, 100, 32), (14, 3, 2), (13, 100, 10), (12, 100, 10), (11, 100, 2), (10, 100, 60), (9, 4, 8), (8, 102, 0), (7, 100, 1000), (6, 101, 6), (5, 100, 6), (4, 100, 6), (3, 2, 19), (2, 102, 1000), (1, 7, 12)] ([(3, 10, 0), (3, 3, 0), (3, 2, 0), (3, 1, 1), (3, 0, 2), (1, 1, 0)] : List (Nat × Nat × Int32)) 15 (2173)) := by
  refine fw49 (w49_0 ?_)
  refine W_f (by decide) ?_
  refine W_t (by decide) ?_
  refine W_s fun S1 e1 => ?_
  have c1 : Cst S1 [(1, 2, 3), (3, 11, 8), (3, 7, 7), (3, 6, 6), (3, 5, 5), (3, 4, 4), (1, 0, 2)] [(10, 100, 60), (9, 4, 8), (8, 102, 0), (7, 100, 1000), (6, 101, 6), (5, 100, 6), (4, 100, 6), (3, 2, 19), (2, 102, 1000), (1, 7, 12)] ([(3, 10, 0), (3, 3, 0), (3, 2, 0), (3, 1, 1), (3, 0, 2), (1, 1, 0)] : List (Nat × Nat × Int32)) 10 (2117) := by rw [e1, show (60 : Int32).toNatClampNeg = 60 from by decide +kernel]; exact c0.mnw 100 60
  clear e1
  refine W_t (c1.k (a := 9) (c := 4) (n := 8) (by decide)) ?_
  refine W_s fun S2 e2 => ?_
  have c2 : Cst S2 [(9, 0, 10), (1, 2, 3), (3, 11, 8), (3, 7, 7), (3, 6, 6), (3, 5, 5), (3, 4, 4), (1, 0, 2)] [(10, 100, 60), (9, 4, 8), (8, 102, 0), (7, 100, 1000), (6, 101, 6), (5, 100, 6), (4, 100, 6), (3, 2, 19), (2, 102, 1000), (1, 7, 12)] ([(3, 10, 0), (3, 3, 0), (3, 2, 0), (3, 1, 1), (3, 0, 2), (1, 1, 0)] : List (Nat × Nat × Int32)) 10 (2117) := by rw [e2, c0.z]; exact c1.mR (by decide) (by decide)
  clear e2
  refine W_t (c2.k (a := 9) (c := 4) (n := 8) (by decide)) ?_
  refine W_s fun S3 e3 => ?_
  have c3 : Cst S3 [(9, 0, 10), (1, 2, 3), (3, 11, 8), (3, 7, 7), (3, 6, 6), (3, 5, 5), (3, 4, 4), (1, 0, 2)] [(10, 100, 60), (9, 4, 8), (8, 102, 0), (7, 100, 1000), (6, 101, 6), (5, 100, 6), (4, 100, 6), (3, 2, 19), (2, 102, 1000), (1, 7, 12)] ([(3, 10, 0), (3, 3, 0), (3, 2, 0), (3, 1, 1), (3, 0, 2), (1, 1, 0)] : List (Nat × Nat × Int32)) 10 (2117) := by rw [e3]; exact c2.mI (by decide)
  clear e3
  refine W_t (c3.k (a := 9) (c := 4) (n := 8) (by decide)) ?_
  refine W_s fun S4 e4 => ?_
  have c4 : Cst S4 [(9, 0, 10), (1, 2, 3), (3, 11, 8), (3, 7, 7), (3, 6, 6), (3, 5, 5), (3, 4, 4), (1, 0, 2)] [(10, 100, 60), (9, 4, 8), (8, 102, 0), (7, 100, 1000), (6, 101, 6), (5, 100, 6), (4, 100, 6), (3, 2, 19), (2, 102, 1000), (1, 7, 12)] ([(3, 10, 0), (3, 3, 0), (3, 2, 0), (3, 1, 1), (3, 0, 2), (1, 1, 0)] : List (Nat × Nat × Int32)) 10 (2117) := by rw [e4]; exact c3.mL
  clear e4
  refine W_t (c4.k (a := 9) (c := 4) (n := 8) (by decide)) ?_
  refine W_s fun S5 e5 => ?_
  have c5 : Cst S5 [(9, 0, 10), (1, 2, 3), (3, 11, 8), (3, 7, 7), (3, 6, 6), (3, 5, 5), (3, 4, 4), (1, 0, 2)] [(10, 100, 60), (9, 4, 8), (8, 102, 0), (7, 100, 1000), (6, 101, 6), (5, 100, 6), (4, 100, 6), (3, 2, 19), (2, 102, 1000), (1, 7, 12)] ([(3, 10, 0), (3, 3, 0), (3, 2, 0), (3, 1, 1), (3, 0, 2), (1, 1, 0)] : List (Nat × Nat × Int32)) 10 (2117) := by rw [e5]; exact c4.mI (by decide)
  clear e5
  refine W_t (by decide) ?_
  refine W_s fun S6 e6 => ?_
  have c6 : Cst S6 [(9, 0, 10), (1, 2, 3), (3, 11, 8), (3, 7, 7), (3, 6, 6), (3, 5, 5), (3, 4, 4), (1, 0, 2)] [(11, 100, 2), (10, 100, 60), (9, 4, 8), (8, 102, 0), (7, 100, 1000), (6, 101, 6), (5, 100, 6), (4, 100, 6), (3, 2, 19), (2, 102, 1000), (1, 7, 12)] ([(3, 10, 0), (3, 3, 0), (3, 2, 0), (3, 1, 1), (3, 0, 2), (1, 1, 0)] : List (Nat × Nat × Int32)) 11 (2119) := by rw [e6, show (2 : Int32).toNatClampNeg = 2 from by decide +kernel]; exact c5.mnw 100 2
  clear e6
  refine W_t (c6.k (a := 9) (c := 4) (n := 8) (by decide)) ?_
  refine W_s fun S7 e7 => ?_
  have c7 : Cst S7 [(9, 4, 11), (9, 0, 10), (1, 2, 3), (3, 11, 8), (3, 7, 7), (3, 6, 6), (3, 5, 5), (3, 4, 4), (1, 0, 2)] [(11, 100, 2), (10, 100, 60), (9, 4, 8), (8, 102, 0), (7, 100, 1000), (6, 101, 6), (5, 100, 6), (4, 100, 6), (3, 2, 19), (2, 102, 1000), (1, 7, 12)] ([(3, 10, 0), (3, 3, 0), (3, 2, 0), (3, 1, 1), (3, 0, 2), (1, 1, 0)] : List (Nat × Nat × Int32)) 11 (2119) := by rw [e7, c5.z]; exact c6.mR (by decide) (by decide)
  clear e7
  refine W_t (by decide) ?_
  refine W_s fun S8 e8 => ?_
  have c8 : Cst S8 [(9, 4, 11), (9, 0, 10), (1, 2, 3), (3, 11, 8), (3, 7, 7), (3, 6, 6), (3, 5, 5), (3, 4, 4), (1, 0, 2)] [(12, 100, 10), (11, 100, 2), (10, 100, 60), (9, 4, 8), (8, 102, 0), (7, 100, 1000), (6, 101, 6), (5, 100, 6), (4, 100, 6), (3, 2, 19), (2, 102, 1000), (1, 7, 12)] ([(3, 10, 0), (3, 3, 0), (3, 2, 0), (3, 1, 1), (3, 0, 2), (1, 1, 0)] : List (Nat × Nat × Int32)) 12 (2129) := by rw [e8, show (10 : Int32).toNatClampNeg = 10 from by decide +kernel]; exact c7.mnw 100 10
  clear e8
  refine W_t (c8.k (a := 9) (c := 4) (n := 8) (by decide)) ?_
  refine W_s fun S9 e9 => ?_
  have c9 : Cst S9 [(9, 5, 12), (9, 4, 11), (9, 0, 10), (1, 2, 3), (3, 11, 8), (3, 7, 7), (3, 6, 6), (3, 5, 5), (3, 4, 4), (1, 0, 2)] [(12, 100, 10), (11, 100, 2), (10, 100, 60), (9, 4, 8), (8, 102, 0), (7, 100, 1000), (6, 101, 6), (5, 100, 6), (4, 100, 6), (3, 2, 19), (2, 102, 1000), (1, 7, 12)] ([(3, 10, 0), (3, 3, 0), (3, 2, 0), (3, 1, 1), (3, 0, 2), (1, 1, 0)] : List (Nat × Nat × Int32)) 12 (2129) := by rw [e9, c7.z]; exact c8.mR (by decide) (by decide)
  clear e9
  refine W_t (by decide) ?_
  refine W_s fun S10 e10 => ?_
  have c10 : Cst S10 [(9, 5, 12), (9, 4, 11), (9, 0, 10), (1, 2, 3), (3, 11, 8), (3, 7, 7), (3, 6, 6), (3, 5, 5), (3, 4, 4), (1, 0, 2)] [(13, 100, 10), (12, 100, 10), (11, 100, 2), (10, 100, 60), (9, 4, 8), (8, 102, 0), (7, 100, 1000), (6, 101, 6), (5, 100, 6), (4, 100, 6), (3, 2, 19), (2, 102, 1000), (1, 7, 12)] ([(3, 10, 0), (3, 3, 0), (3, 2, 0), (3, 1, 1), (3, 0, 2), (1, 1, 0)] : List (Nat × Nat × Int32)) 13 (2139) := by rw [e10, show (10 : Int32).toNatClampNeg = 10 from by decide +kernel]; exact c9.mnw 100 10
  clear e10
  refine W_t (c10.k (a := 9) (c := 4) (n := 8) (by decide)) ?_
  refine W_s fun S11 e11 => ?_
  have c11 : Cst S11 [(9, 6, 13), (9, 5, 12), (9, 4, 11), (9, 0, 10), (1, 2, 3), (3, 11, 8), (3, 7, 7), (3, 6, 6), (3, 5, 5), (3, 4, 4), (1, 0, 2)] [(13, 100, 10), (12, 100, 10), (11, 100, 2), (10, 100, 60), (9, 4, 8), (8, 102, 0), (7, 100, 1000), (6, 101, 6), (5, 100, 6), (4, 100, 6), (3, 2, 19), (2, 102, 1000), (1, 7, 12)] ([(3, 10, 0), (3, 3, 0), (3, 2, 0), (3, 1, 1), (3, 0, 2), (1, 1, 0)] : List (Nat × Nat × Int32)) 13 (2139) := by rw [e11, c9.z]; exact c10.mR (by decide) (by decide)
  clear e11
  refine W_s fun S12 e12 => ?_
  have c12 : Cst S12 [(9, 6, 13), (9, 5, 12), (9, 4, 11), (9, 0, 10), (1, 2, 3), (3, 11, 8), (3, 7, 7), (3, 6, 6), (3, 5, 5), (3, 4, 4), (1, 0, 2)] [(14, 3, 2), (13, 100, 10), (12, 100, 10), (11, 100, 2), (10, 100, 60), (9, 4, 8), (8, 102, 0), (7, 100, 1000), (6, 101, 6), (5, 100, 6), (4, 100, 6), (3, 2, 19), (2, 102, 1000), (1, 7, 12)] ([(3, 10, 0), (3, 3, 0), (3, 2, 0), (3, 1, 1), (3, 0, 2), (1, 1, 0)] : List (Nat × Nat × Int32)) 14 (2141) := by rw [e12]; exact c11.mnw 3 2
  clear e12
  refine W_f (by rw [c11.z]; decide) ?_
  rw [c11.z]
  refine W_Ve (f44c (d := d) c12) ?_
  intro S13 c13
  refine W_t (c13.k (a := 9) (c := 4) (n := 8) (by decide)) ?_
  refine W_s fun S14 e14 => ?_
  have c14 : Cst S14 [(9, 7, 14), (14, 0, 15), (9, 6, 13), (9, 5, 12), (9, 4, 11), (9, 0, 10), (1, 2, 3), (3, 11, 8), (3, 7, 7), (3, 6, 6), (3, 5, 5), (3, 4, 4), (1, 0, 2)] [(15, 100, 32), (14, 3, 2), (13, 100, 10), (12, 100, 10), (11, 100, 2), (10, 100, 60), (9, 4, 8), (8, 102, 0), (7, 100, 1000), (6, 101, 6), (5, 100, 6), (4, 100, 6), (3, 2, 19), (2, 102, 1000), (1, 7, 12)] ([(3, 10, 0), (3, 3, 0), (3, 2, 0), (3, 1, 1), (3, 0, 2), (1, 1, 0)] : List (Nat × Nat × Int32)) 15 (2173) := by rw [e14]; exact c13.mR (by decide) (by decide)
  clear e14
  exact ⟨⟨by rw [c0.z, c14.z]; decide, by rw [c0.u, c14.u]; omega⟩, rfl, c14⟩
set_option maxRecDepth 4096 in
theorem f8a {d : Nat} {S : St} (c0 : Cst S [(1, 5, 16), (1, 4, 9), (9, 7, 14), (14, 0, 15), (9, 6, 13), (9, 5, 12), (9, 4, 11), (9, 0, 10), (1, 2, 3), (3, 11, 8), (3, 7, 7), (3, 6, 6), (3, 5, 5), (3, 4, 4), (1, 0, 2)] [(17, 1, 4), (16, 105, 4), (15, 100, 32), (14, 3, 2), (13, 100, 10), (12, 100, 10), (11, 100, 2), (10, 100, 60), (9, 4, 8), (8, 102, 0), (7, 100, 1000), (6, 101, 6), (5, 100, 6), (4, 100, 6), (3, 2, 19), (2, 102, 1000), (1, 7, 12)] ([(3, 10, 0), (3, 3, 0), (3, 2, 0), (3, 1, 1), (3, 0, 2), (1, 1, 0)] : List (Nat × Nat × Int32)) 17 (2181)) : Sp (F (d + 1) 8 [.ref 17] S) (fun v S' => v = none ∧ Cst S' [(17, 1, 0), (17, 0, 18), (1, 5, 16), (1, 4, 9), (9, 7, 14), (14, 0, 15), (9, 6, 13), (9, 5, 12), (9, 4, 11), (9, 0, 10), (1, 2, 3), (3, 11, 8), (3, 7, 7), (3, 6, 6), (3, 5, 5), (3, 4, 4), (1, 0, 2)] [(18, 100, 6250), (17, 1, 4), (16, 105, 4), (15, 100, 32), (14, 3, 2), (13, 100, 10), (12, 100, 10), (11, 100, 2), (10, 100, 60), (9, 4, 8), (8, 102, 0), (7, 100, 1000), (6, 101, 6), (5, 100, 6), (4, 100, 6), (3, 2, 19), (2, 102, 1000), (1, 7, 12)] ([(3, 10, 0), (3, 3, 0), (3, 2, 0), (3, 1, 1), (3, 0, 2), (1, 1, 0)] : List (Nat × Nat × Int32)) 18 (8431)) := by
  refine fw8 (w8_0 ?_)
  refine W_f (by decide) ?_
  refine W_t (by decide) ?_
  refine W_s fun S1 e1 => ?_
  have c1 : Cst S1 [(1, 5, 16), (1, 4, 9), (9, 7, 14), (14, 0, 15), (9, 6, 13), (9, 5, 12), (9, 4, 11), (9, 0, 10), (1, 2, 3), (3, 11, 8), (3, 7, 7), (3, 6, 6), (3, 5, 5), (3, 4, 4), (1, 0, 2)] [(18, 100, 6250), (17, 1, 4), (16, 105, 4), (15, 100, 32), (14, 3, 2), (13, 100, 10), (12, 100, 10), (11, 100, 2), (10, 100, 60), (9, 4, 8), (8, 102, 0), (7, 100, 1000), (6, 101, 6), (5, 100, 6), (4, 100, 6), (3, 2, 19), (2, 102, 1000), (1, 7, 12)] ([(3, 10, 0), (3, 3, 0), (3, 2, 0), (3, 1, 1), (3, 0, 2), (1, 1, 0)] : List (Nat × Nat × Int32)) 18 (8431) := by rw [e1, show (6250 : Int32).toNatClampNeg = 6250 from by decide +kernel]; exact c0.mnw 100 6250
  clear e1
  refine W_t (c1.k (a := 17) (c := 1) (n := 4) (by decide)) ?_
  refine W_s fun S2 e2 => ?_
  have c2 : Cst S2 [(17, 0, 18), (1, 5, 16), (1, 4, 9), (9, 7, 14), (14, 0, 15), (9, 6, 13), (9, 5, 12), (9, 4, 11), (9, 0, 10), (1, 2, 3), (3, 11, 8), (3, 7, 7), (3, 6, 6), (3, 5, 5), (3, 4, 4), (1, 0, 2)] [(18, 100, 6250), (17, 1, 4), (16, 105, 4), (15, 100, 32), (14, 3, 2), (13, 100, 10), (12, 100, 10), (11, 100, 2), (10, 100, 60), (9, 4, 8), (8, 102, 0), (7, 100, 1000), (6, 101, 6), (5, 100, 6), (4, 100, 6), (3, 2, 19), (2, 102, 1000), (1, 7, 12)] ([(3, 10, 0), (3, 3, 0), (3, 2, 0), (3, 1, 1), (3, 0, 2), (1, 1, 0)] : List (Nat × Nat × Int32)) 18 (8431) := by rw [e2, c0.z]; exact c1.mR (by decide) (by decide)
  clear e2
  refine W_t (c2.k (a := 17) (c := 1) (n := 4) (by decide)) ?_
  refine W_s fun S3 e3 => ?_
  have c3 : Cst S3 [(17, 1, 0), (17, 0, 18), (1, 5, 16), (1, 4, 9), (9, 7, 14), (14, 0, 15), (9, 6, 13), (9, 5, 12), (9, 4, 11), (9, 0, 10), (1, 2, 3), (3, 11, 8), (3, 7, 7), (3, 6, 6), (3, 5, 5), (3, 4, 4), (1, 0, 2)] [(18, 100, 6250), (17, 1, 4), (16, 105, 4), (15, 100, 32), (14, 3, 2), (13, 100, 10), (12, 100, 10), (11, 100, 2), (10, 100, 60), (9, 4, 8), (8, 102, 0), (7, 100, 1000), (6, 101, 6), (5, 100, 6), (4, 100, 6), (3, 2, 19), (2, 102, 1000), (1, 7, 12)] ([(3, 10, 0), (3, 3, 0), (3, 2, 0), (3, 1, 1), (3, 0, 2), (1, 1, 0)] : List (Nat × Nat × Int32)) 18 (8431) := by rw [e3]; exact c2.mR (by decide) (by decide)
  clear e3
  refine W_t (c3.k (a := 17) (c := 1) (n := 4) (by decide)) ?_
  refine W_s fun S4 e4 => ?_
  have c4 : Cst S4 [(17, 1, 0), (17, 0, 18), (1, 5, 16), (1, 4, 9), (9, 7, 14), (14, 0, 15), (9, 6, 13), (9, 5, 12), (9, 4, 11), (9, 0, 10), (1, 2, 3), (3, 11, 8), (3, 7, 7), (3, 6, 6), (3, 5, 5), (3, 4, 4), (1, 0, 2)] [(18, 100, 6250), (17, 1, 4), (16, 105, 4), (15, 100, 32), (14, 3, 2), (13, 100, 10), (12, 100, 10), (11, 100, 2), (10, 100, 60), (9, 4, 8), (8, 102, 0), (7, 100, 1000), (6, 101, 6), (5, 100, 6), (4, 100, 6), (3, 2, 19), (2, 102, 1000), (1, 7, 12)] ([(3, 10, 0), (3, 3, 0), (3, 2, 0), (3, 1, 1), (3, 0, 2), (1, 1, 0)] : List (Nat × Nat × Int32)) 18 (8431) := by rw [e4]; exact c3.mI (by decide)
  clear e4
  refine W_t (c4.k (a := 17) (c := 1) (n := 4) (by decide)) ?_
  refine W_s fun S5 e5 => ?_
  have c5 : Cst S5 [(17, 1, 0), (17, 0, 18), (1, 5, 16), (1, 4, 9), (9, 7, 14), (14, 0, 15), (9, 6, 13), (9, 5, 12), (9, 4, 11), (9, 0, 10), (1, 2, 3), (3, 11, 8), (3, 7, 7), (3, 6, 6), (3, 5, 5), (3, 4, 4), (1, 0, 2)] [(18, 100, 6250), (17, 1, 4), (16, 105, 4), (15, 100, 32), (14, 3, 2), (13, 100, 10), (12, 100, 10), (11, 100, 2), (10, 100, 60), (9, 4, 8), (8, 102, 0), (7, 100, 1000), (6, 101, 6), (5, 100, 6), (4, 100, 6), (3, 2, 19), (2, 102, 1000), (1, 7, 12)] ([(3, 10, 0), (3, 3, 0), (3, 2, 0), (3, 1, 1), (3, 0, 2), (1, 1, 0)] : List (Nat × Nat × Int32)) 18 (8431) := by rw [e5]; exact c4.mI (by decide)
  clear e5
  exact ⟨⟨by rw [c0.z, c5.z]; decide, by rw [c0.u, c5.u]; omega⟩, rfl, c5⟩
set_option maxRecDepth 4096 in
theorem f8b {d : Nat} {S : St} (c0 : Cst S [(1, 6, 17), (17, 1, 0), (17, 0, 18), (1, 5, 16), (1, 4, 9), (9, 7, 14), (14, 0, 15), (9, 6, 13), (9, 5, 12), (9, 4, 11), (9, 0, 10), (1, 2, 3), (3, 11, 8), (3, 7, 7), (3, 6, 6), (3, 5, 5), (3, 4, 4), (1, 0, 2)] [(19, 1, 4), (18, 100, 6250), (17, 1, 4), (16, 105, 4), (15, 100, 32), (14, 3, 2), (13, 100, 10), (12, 100, 10), (11, 100, 2), (10, 100, 60), (9, 4, 8), (8, 102, 0), (7, 100, 1000), (6, 101, 6), (5, 100, 6), (4, 100, 6), (3, 2, 19), (2, 102, 1000), (1, 7, 12)] ([(3, 10, 0), (3, 3, 0), (3, 2, 0), (3, 1, 1), (3, 0, 2), (1, 1, 0)] : List (Nat × Nat × Int32)) 19 (8435)) : Sp (F (d + 1) 8 [.ref 19] S) (fun v S' => v = none ∧ Cst S' [(19, 1, 0), (19, 0, 20), (1, 6, 17), (17, 1, 0), (17, 0, 18), (1, 5, 16), (1, 4, 9), (9, 7, 14), (14, 0, 15), (9, 6, 13), (9, 5, 12), (9, 4, 11), (9, 0, 10), (1, 2, 3), (3, 11, 8), (3, 7, 7), (3, 6, 6), (3, 5, 5), (3, 4, 4), (1, 0, 2)] [(20, 100, 6250), (19, 1, 4), (18, 100, 6250), (17, 1, 4), (16, 105, 4), (15, 100, 32), (14, 3, 2), (13, 100, 10), (12, 100, 10), (11, 100, 2), (10, 100, 60), (9, 4, 8), (8, 102, 0), (7, 100, 1000), (6, 101, 6), (5, 100, 6), (4, 100, 6), (3, 2, 19), (2, 102, 1000), (1, 7, 12)] ([(3, 10, 0), (3, 3, 0), (3, 2, 0), (3, 1, 1), (3, 0, 2), (1, 1, 0)] : List (Nat × Nat × Int32)) 20 (14685)) := by
  refine fw8 (w8_0 ?_)
  refine W_f (by decide) ?_
  refine W_t (by decide) ?_
  refine W_s fun S1 e1 => ?_
  have c1 : Cst S1 [(1, 6, 17), (17, 1, 0), (17, 0, 18), (1, 5, 16), (1, 4, 9), (9, 7, 14), (14, 0, 15), (9, 6, 13), (9, 5, 12), (9, 4, 11), (9, 0, 10), (1, 2, 3), (3, 11, 8), (3, 7, 7), (3, 6, 6), (3, 5, 5), (3, 4, 4), (1, 0, 2)] [(20, 100, 6250), (19, 1, 4), (18, 100, 6250), (17, 1, 4), (16, 105, 4), (15, 100, 32), (14, 3, 2), (13, 100, 10), (12, 100, 10), (11, 100, 2), (10, 100, 60), (9, 4, 8), (8, 102, 0), (7, 100, 1000), (6, 101, 6), (5, 100, 6), (4, 100, 6), (3, 2, 19), (2, 102, 1000), (1, 7, 12)] ([(3, 10, 0), (3, 3, 0), (3, 2, 0), (3, 1, 1), (3, 0, 2), (1, 1, 0)] : List (Nat × Nat × Int32)) 20 (14685) := by rw [e1, show (6250 : Int32).toNatClampNeg = 6250 from by decide +kernel]; exact c0.mnw 100 6250
  clear e1
  refine W_t (c1.k (a := 19) (c := 1) (n := 4) (by decide)) ?_
  refine W_s fun S2 e2 => ?_
  have c2 : Cst S2 [(19, 0, 20), (1, 6, 17), (17, 1, 0), (17, 0, 18), (1, 5, 16), (1, 4, 9), (9, 7, 14), (14, 0, 15), (9, 6, 13), (9, 5, 12), (9, 4, 11), (9, 0, 10), (1, 2, 3), (3, 11, 8), (3, 7, 7), (3, 6, 6), (3, 5, 5), (3, 4, 4), (1, 0, 2)] [(20, 100, 6250), (19, 1, 4), (18, 100, 6250), (17, 1, 4), (16, 105, 4), (15, 100, 32), (14, 3, 2), (13, 100, 10), (12, 100, 10), (11, 100, 2), (10, 100, 60), (9, 4, 8), (8, 102, 0), (7, 100, 1000), (6, 101, 6), (5, 100, 6), (4, 100, 6), (3, 2, 19), (2, 102, 1000), (1, 7, 12)] ([(3, 10, 0), (3, 3, 0), (3, 2, 0), (3, 1, 1), (3, 0, 2), (1, 1, 0)] : List (Nat × Nat × Int32)) 20 (14685) := by rw [e2, c0.z]; exact c1.mR (by decide) (by decide)
  clear e2
  refine W_t (c2.k (a := 19) (c := 1) (n := 4) (by decide)) ?_
  refine W_s fun S3 e3 => ?_
  have c3 : Cst S3 [(19, 1, 0), (19, 0, 20), (1, 6, 17), (17, 1, 0), (17, 0, 18), (1, 5, 16), (1, 4, 9), (9, 7, 14), (14, 0, 15), (9, 6, 13), (9, 5, 12), (9, 4, 11), (9, 0, 10), (1, 2, 3), (3, 11, 8), (3, 7, 7), (3, 6, 6), (3, 5, 5), (3, 4, 4), (1, 0, 2)] [(20, 100, 6250), (19, 1, 4), (18, 100, 6250), (17, 1, 4), (16, 105, 4), (15, 100, 32), (14, 3, 2), (13, 100, 10), (12, 100, 10), (11, 100, 2), (10, 100, 60), (9, 4, 8), (8, 102, 0), (7, 100, 1000), (6, 101, 6), (5, 100, 6), (4, 100, 6), (3, 2, 19), (2, 102, 1000), (1, 7, 12)] ([(3, 10, 0), (3, 3, 0), (3, 2, 0), (3, 1, 1), (3, 0, 2), (1, 1, 0)] : List (Nat × Nat × Int32)) 20 (14685) := by rw [e3]; exact c2.mR (by decide) (by decide)
  clear e3
  refine W_t (c3.k (a := 19) (c := 1) (n := 4) (by decide)) ?_
  refine W_s fun S4 e4 => ?_
  have c4 : Cst S4 [(19, 1, 0), (19, 0, 20), (1, 6, 17), (17, 1, 0), (17, 0, 18), (1, 5, 16), (1, 4, 9), (9, 7, 14), (14, 0, 15), (9, 6, 13), (9, 5, 12), (9, 4, 11), (9, 0, 10), (1, 2, 3), (3, 11, 8), (3, 7, 7), (3, 6, 6), (3, 5, 5), (3, 4, 4), (1, 0, 2)] [(20, 100, 6250), (19, 1, 4), (18, 100, 6250), (17, 1, 4), (16, 105, 4), (15, 100, 32), (14, 3, 2), (13, 100, 10), (12, 100, 10), (11, 100, 2), (10, 100, 60), (9, 4, 8), (8, 102, 0), (7, 100, 1000), (6, 101, 6), (5, 100, 6), (4, 100, 6), (3, 2, 19), (2, 102, 1000), (1, 7, 12)] ([(3, 10, 0), (3, 3, 0), (3, 2, 0), (3, 1, 1), (3, 0, 2), (1, 1, 0)] : List (Nat × Nat × Int32)) 20 (14685) := by rw [e4]; exact c3.mI (by decide)
  clear e4
  refine W_t (c4.k (a := 19) (c := 1) (n := 4) (by decide)) ?_
  refine W_s fun S5 e5 => ?_
  have c5 : Cst S5 [(19, 1, 0), (19, 0, 20), (1, 6, 17), (17, 1, 0), (17, 0, 18), (1, 5, 16), (1, 4, 9), (9, 7, 14), (14, 0, 15), (9, 6, 13), (9, 5, 12), (9, 4, 11), (9, 0, 10), (1, 2, 3), (3, 11, 8), (3, 7, 7), (3, 6, 6), (3, 5, 5), (3, 4, 4), (1, 0, 2)] [(20, 100, 6250), (19, 1, 4), (18, 100, 6250), (17, 1, 4), (16, 105, 4), (15, 100, 32), (14, 3, 2), (13, 100, 10), (12, 100, 10), (11, 100, 2), (10, 100, 60), (9, 4, 8), (8, 102, 0), (7, 100, 1000), (6, 101, 6), (5, 100, 6), (4, 100, 6), (3, 2, 19), (2, 102, 1000), (1, 7, 12)] ([(3, 10, 0), (3, 3, 0), (3, 2, 0), (3, 1, 1), (3, 0, 2), (1, 1, 0)] : List (Nat × Nat × Int32)) 20 (14685) := by rw [e5]; exact c4.mI (by decide)
  clear e5
  exact ⟨⟨by rw [c0.z, c5.z]; decide, by rw [c0.u, c5.u]; omega⟩, rfl, c5⟩
set_option maxRecDepth 4096 in
theorem f80c {d : Nat} {S : St} (c0 : Cst S [(1, 7, 19), (19, 1, 0), (19, 0, 20), (1, 6, 17), (17, 1, 0), (17, 0, 18), (1, 5, 16), (1, 4, 9), (9, 7, 14), (14, 0, 15), (9, 6, 13), (9, 5, 12), (9, 4, 11), (9, 0, 10), (1, 2, 3), (3, 11, 8), (3, 7, 7), (3, 6, 6), (3, 5, 5), (3, 4, 4), (1, 0, 2)] [(21, 6, 1), (20, 100, 6250), (19, 1, 4), (18, 100, 6250), (17, 1, 4), (16, 105, 4), (15, 100, 32), (14, 3, 2), (13, 100, 10), (12, 100, 10), (11, 100, 2), (10, 100, 60), (9, 4, 8), (8, 102, 0), (7, 100, 1000), (6, 101, 6), (5, 100, 6), (4, 100, 6), (3, 2, 19), (2, 102, 1000), (1, 7, 12)] ([(3, 10, 0), (3, 3, 0), (3, 2, 0), (3, 1, 1), (3, 0, 2), (1, 1, 0)] : List (Nat × Nat × Int32)) 21 (14686)) : Sp (F (d + 1) 80 [.ref 21] S) (fun v S' => v = none ∧ Cst S' [(21, 0, 22), (1, 7, 19), (19, 1, 0), (19, 0, 20), (1, 6, 17), (17, 1, 0), (17, 0, 18), (1, 5, 16), (1, 4, 9), (9, 7, 14), (14, 0, 15), (9, 6, 13), (9, 5, 12), (9, 4, 11), (9, 0, 10), (1, 2, 3), (3, 11, 8), (3, 7, 7), (3, 6, 6), (3, 5, 5), (3, 4, 4), (1, 0, 2)] [(22, 100, 3125), (21, 6, 1), (20, 100, 6250), (19, 1, 4), (18, 100, 6250), (17, 1, 4), (16, 105, 4), (15, 100, 32), (14, 3, 2), (13, 100, 10), (12, 100, 10), (11, 100, 2), (10, 100, 60), (9, 4, 8), (8, 102, 0), (7, 100, 1000), (6, 101, 6), (5, 100, 6), (4, 100, 6), (3, 2, 19), (2, 102, 1000), (1, 7, 12)] ([(3, 10, 0), (3, 3, 0), (3, 2, 0), (3, 1, 1), (3, 0, 2), (1, 1, 0)] : List (Nat × Nat × Int32)) 22 (17811)) := by
  refine fw80 (w80_0 ?_)
  refine W_f (by decide) ?_
  refine W_t (by decide) ?_
  refine W_s fun S1 e1 => ?_
  have c1 : Cst S1 [(1, 7, 19), (19, 1, 0), (19, 0, 20), (1, 6, 17), (17, 1, 0), (17, 0, 18), (1, 5, 16), (1, 4, 9), (9, 7, 14), (14, 0, 15), (9, 6, 13), (9, 5, 12), (9, 4, 11), (9, 0, 10), (1, 2, 3), (3, 11, 8), (3, 7, 7), (3, 6, 6), (3, 5, 5), (3, 4, 4), (1, 0, 2)] [(22, 100, 3125), (21, 6, 1), (20, 100, 6250), (19, 1, 4), (18, 100, 6250), (17, 1, 4), (16, 105, 4), (15, 100, 32), (14, 3, 2), (13, 100, 10), (12, 100, 10), (11, 100, 2), (10, 100, 60), (9, 4, 8), (8, 102, 0), (7, 100, 1000), (6, 101, 6), (5, 100, 6), (4, 100, 6), (3, 2, 19), (2, 102, 1000), (1, 7, 12)] ([(3, 10, 0), (3, 3, 0), (3, 2, 0), (3, 1, 1), (3, 0, 2), (1, 1, 0)] : List (Nat × Nat × Int32)) 22 (17811) := by rw [e1, show (3125 : Int32).toNatClampNeg = 3125 from by decide +kernel]; exact c0.mnw 100 3125
  clear e1
  refine W_t (c1.k (a := 21) (c := 6) (n := 1) (by decide)) ?_
  refine W_s fun S2 e2 => ?_
  have c2 : Cst S2 [(21, 0, 22), (1, 7, 19), (19, 1, 0), (19, 0, 20), (1, 6, 17), (17, 1, 0), (17, 0, 18), (1, 5, 16), (1, 4, 9), (9, 7, 14), (14, 0, 15), (9, 6, 13), (9, 5, 12), (9, 4, 11), (9, 0, 10), (1, 2, 3), (3, 11, 8), (3, 7, 7), (3, 6, 6), (3, 5, 5), (3, 4, 4), (1, 0, 2)] [(22, 100, 3125), (21, 6, 1), (20, 100, 6250), (19, 1, 4), (18, 100, 6250), (17, 1, 4), (16, 105, 4), (15, 100, 32), (14, 3, 2), (13, 100, 10), (12, 100, 10), (11, 100, 2), (10, 100, 60), (9, 4, 8), (8, 102, 0), (7, 100, 1000), (6, 101, 6), (5, 100, 6), (4, 100, 6), (3, 2, 19), (2, 102, 1000), (1, 7, 12)] ([(3, 10, 0), (3, 3, 0), (3, 2, 0), (3, 1, 1), (3, 0, 2), (1, 1, 0)] : List (Nat × Nat × Int32)) 22 (17811) := by rw [e2, c0.z]; exact c1.mR (by decide) (by decide)
  clear e2
  exact ⟨⟨by rw [c0.z, c2.z]; decide, by rw [c0.u, c2.u]; omega⟩, rfl, c2⟩
set_option maxRecDepth 4096 in
theorem f6_0 {d U : Nat} {S : St} (c0 : Cst S [(1, 3, 25), (1, 11, 24), (1, 9, 23), (1, 8, 21), (21, 0, 22), (1, 7, 19), (19, 1, 0), (19, 0, 20), (1, 6, 17), (17, 1, 0), (17, 0, 18), (1, 5, 16), (1, 4, 9), (9, 7, 14), (14, 0, 15), (9, 6, 13), (9, 5, 12), (9, 4, 11), (9, 0, 10), (1, 2, 3), (3, 11, 8), (3, 7, 7), (3, 6, 6), (3, 5, 5), (3, 4, 4), (1, 0, 2)] [(31, 0, 3), (24, 100, 250), (23, 100, 250), (22, 100, 3125), (21, 6, 1), (20, 100, 6250), (19, 1, 4), (18, 100, 6250), (17, 1, 4), (16, 105, 4), (15, 100, 32), (14, 3, 2), (13, 100, 10), (12, 100, 10), (11, 100, 2), (10, 100, 60), (9, 4, 8), (8, 102, 0), (7, 100, 1000), (6, 101, 6), (5, 100, 6), (4, 100, 6), (3, 2, 19), (2, 102, 1000), (1, 7, 12)] ([(3, 10, 0), (3, 3, 0), (3, 2, 0), (3, 1, 1), (3, 0, 2), (1, 1, 0)] : List (Nat × Nat × Int32)) 31 (U + 3)) : Sp (F (d + 1) 6 [.ref 31] S) (fun v S' => v = none ∧ Cst S' [(31, 1, 32), (31, 0, 0), (1, 3, 25), (1, 11, 24), (1, 9, 23), (1, 8, 21), (21, 0, 22), (1, 7, 19), (19, 1, 0), (19, 0, 20), (1, 6, 17), (17, 1, 0), (17, 0, 18), (1, 5, 16), (1, 4, 9), (9, 7, 14), (14, 0, 15), (9, 6, 13), (9, 5, 12), (9, 4, 11), (9, 0, 10), (1, 2, 3), (3, 11, 8), (3, 7, 7), (3, 6, 6), (3, 5, 5), (3, 4, 4), (1, 0, 2)] [(32, 100, 60), (31, 0, 3), (24, 100, 250), (23, 100, 250), (22, 100, 3125), (21, 6, 1), (20, 100, 6250), (19, 1, 4), (18, 100, 6250), (17, 1, 4), (16, 105, 4), (15, 100, 32), (14, 3, 2), (13, 100, 10), (12, 100, 10), (11, 100, 2), (10, 100, 60), (9, 4, 8), (8, 102, 0), (7, 100, 1000), (6, 101, 6), (5, 100, 6), (4, 100, 6), (3, 2, 19), (2, 102, 1000), (1, 7, 12)] ([(3, 10, 0), (3, 3, 0), (3, 2, 0), (3, 1, 1), (3, 0, 2), (1, 1, 0)] : List (Nat × Nat × Int32)) 32 (U + 63) ∧ FX MkF S S') := by
  refine fw6 (w6_0 ?_)
  refine W_f (by decide) ?_
  refine W_t (c0.k (a := 31) (c := 0) (n := 3) (by decide)) ?_
  refine W_s fun S1 e1 => ?_
  have h1 : FX MkF S S1 := (by rw [e1]; exact FX.pR (fun _ => by decide))
  have c1 : Cst S1 [(31, 0, 0), (1, 3, 25), (1, 11, 24), (1, 9, 23), (1, 8, 21), (21, 0, 22), (1, 7, 19), (19, 1, 0), (19, 0, 20), (1, 6, 17), (17, 1, 0), (17, 0, 18), (1, 5, 16), (1, 4, 9), (9, 7, 14), (14, 0, 15), (9, 6, 13), (9, 5, 12), (9, 4, 11), (9, 0, 10), (1, 2, 3), (3, 11, 8), (3, 7, 7), (3, 6, 6), (3, 5, 5), (3, 4, 4), (1, 0, 2)] [(31, 0, 3), (24, 100, 250), (23, 100, 250), (22, 100, 3125), (21, 6, 1), (20, 100, 6250), (19, 1, 4), (18, 100, 6250), (17, 1, 4), (16, 105, 4), (15, 100, 32), (14, 3, 2), (13, 100, 10), (12, 100, 10), (11, 100, 2), (10, 100, 60), (9, 4, 8), (8, 102, 0), (7, 100, 1000), (6, 101, 6), (5, 100, 6), (4, 100, 6), (3, 2, 19), (2, 102, 1000), (1, 7, 12)] ([(3, 10, 0), (3, 3, 0), (3, 2, 0), (3, 1, 1), (3, 0, 2), (1, 1, 0)] : List (Nat × Nat × Int32)) 31 (U + 3) := by rw [e1]; exact c0.mR (by decide) (by decide)
  clear e1
  refine W_t (by decide) ?_
  refine W_s fun S2 e2 => ?_
  have h2 : FX MkF S S2 := h1.tr (by rw [e2]; exact FX.nw _ _)
  have c2 : Cst S2 [(31, 0, 0), (1, 3, 25), (1, 11, 24), (1, 9, 23), (1, 8, 21), (21, 0, 22), (1, 7, 19), (19, 1, 0), (19, 0, 20), (1, 6, 17), (17, 1, 0), (17, 0, 18), (1, 5, 16), (1, 4, 9), (9, 7, 14), (14, 0, 15), (9, 6, 13), (9, 5, 12), (9, 4, 11), (9, 0, 10), (1, 2, 3), (3, 11, 8), (3, 7, 7), (3, 6, 6), (3, 5, 5), (3, 4, 4), (1, 0, 2)] [(32, 100, 60), (31, 0, 3), (24, 100, 250), (23, 100, 250), (22, 100, 3125), (21, 6, 1), (20, 100, 6250), (19, 1, 4), (18, 100, 6250), (17, 1, 4), (16, 105, 4), (15, 100, 32), (14, 3, 2), (13, 100, 10), (12, 100, 10), (11, 100, 2), (10, 100, 60), (9, 4, 8), (8, 102, 0), (7, 100, 1000), (6, 101, 6), (5, 100, 6), (4, 100, 6), (3, 2, 19), (2, 102, 1000), (1, 7, 12)] ([(3, 10, 0), (3, 3, 0), (3, 2, 0), (3, 1, 1), (3, 0, 2), (1, 1, 0)] : List (Nat × Nat × Int32)) 32 (U + 63) := by rw [e2, show (60 : Int32).toNatClampNeg = 60 from by decide +kernel]; exact c1.mnw 100 60
  clear e2
  refine W_t (c2.k (a := 31) (c := 0) (n := 3) (by decide)) ?_
  refine W_s fun S3 e3 => ?_
  have h3 : FX MkF S S3 := h2.tr (by rw [e3]; exact FX.pR (fun _ => by decide))
  have c3 : Cst S3 [(31, 1, 32), (31, 0, 0), (1, 3, 25), (1, 11, 24), (1, 9, 23), (1, 8, 21), (21, 0, 22), (1, 7, 19), (19, 1, 0), (19, 0, 20), (1, 6, 17), (17, 1, 0), (17, 0, 18), (1, 5, 16), (1, 4, 9), (9, 7, 14), (14, 0, 15), (9, 6, 13), (9, 5, 12), (9, 4, 11), (9, 0, 10), (1, 2, 3), (3, 11, 8), (3, 7, 7), (3, 6, 6), (3, 5, 5), (3, 4, 4), (1, 0, 2)] [(32, 100, 60), (31, 0, 3), (24, 100, 250), (23, 100, 250), (22, 100, 3125), (21, 6, 1), (20, 100, 6250), (19, 1, 4), (18, 100, 6250), (17, 1, 4), (16, 105, 4), (15, 100, 32), (14, 3, 2), (13, 100, 10), (12, 100, 10), (11, 100, 2), (10, 100, 60), (9, 4, 8), (8, 102, 0), (7, 100, 1000), (6, 101, 6), (5, 100, 6), (4, 100, 6), (3, 2, 19), (2, 102, 1000), (1, 7, 12)] ([(3, 10, 0), (3, 3, 0), (3, 2, 0), (3, 1, 1), (3, 0, 2), (1, 1, 0)] : List (Nat × Nat × Int32)) 32 (U + 63) := by rw [e3, c1.z]; exact c2.mR (by decide) (by decide)
  clear e3
  refine W_t (c3.k (a := 31) (c := 0) (n := 3) (by decide)) ?_
  refine W_s fun S4 e4 => ?_
  have h4 : FX MkF S S4 := h3.tr (by rw [e4]; exact FX.pI (fun _ => by decide))
  have c4 : Cst S4 [(31, 1, 32), (31, 0, 0), (1, 3, 25), (1, 11, 24), (1, 9, 23), (1, 8, 21), (21, 0, 22), (1, 7, 19), (19, 1, 0), (19, 0, 20), (1, 6, 17), (17, 1, 0), (17, 0, 18), (1, 5, 16), (1, 4, 9), (9, 7, 14), (14, 0, 15), (9, 6, 13), (9, 5, 12), (9, 4, 11), (9, 0, 10), (1, 2, 3), (3, 11, 8), (3, 7, 7), (3, 6, 6), (3, 5, 5), (3, 4, 4), (1, 0, 2)] [(32, 100, 60), (31, 0, 3), (24, 100, 250), (23, 100, 250), (22, 100, 3125), (21, 6, 1), (20, 100, 6250), (19, 1, 4), (18, 100, 6250), (17, 1, 4), (16, 105, 4), (15, 100, 32), (14, 3, 2), (13, 100, 10), (12, 100, 10), (11, 100, 2), (10, 100, 60), (9, 4, 8), (8, 102, 0), (7, 100, 1000), (6, 101, 6), (5, 100, 6), (4, 100, 6), (3, 2, 19), (2, 102, 1000), (1, 7, 12)] ([(3, 10, 0), (3, 3, 0), (3, 2, 0), (3, 1, 1), (3, 0, 2), (1, 1, 0)] : List (Nat × Nat × Int32)) 32 (U + 63) := by rw [e4]; exact c3.mI (by decide)
  clear e4
  exact ⟨⟨by rw [c0.z, c4.z]; decide, by rw [c0.u, c4.u]; omega⟩, rfl, c4, h4⟩
set_option maxRecDepth 4096 in
theorem f6_1 {d U : Nat} {S : St} (c0 : Cst S [(16, 0, 31), (31, 1, 32), (31, 0, 0), (1, 3, 25), (1, 11, 24), (1, 9, 23), (1, 8, 21), (21, 0, 22), (1, 7, 19), (19, 1, 0), (19, 0, 20), (1, 6, 17), (17, 1, 0), (17, 0, 18), (1, 5, 16), (1, 4, 9), (9, 7, 14), (14, 0, 15), (9, 6, 13), (9, 5, 12), (9, 4, 11), (9, 0, 10), (1, 2, 3), (3, 11, 8), (3, 7, 7), (3, 6, 6), (3, 5, 5), (3, 4, 4), (1, 0, 2)] [(33, 0, 3), (32, 100, 60), (31, 0, 3), (24, 100, 250), (23, 100, 250), (22, 100, 3125), (21, 6, 1), (20, 100, 6250), (19, 1, 4), (18, 100, 6250), (17, 1, 4), (16, 105, 4), (15, 100, 32), (14, 3, 2), (13, 100, 10), (12, 100, 10), (11, 100, 2), (10, 100, 60), (9, 4, 8), (8, 102, 0), (7, 100, 1000), (6, 101, 6), (5, 100, 6), (4, 100, 6), (3, 2, 19), (2, 102, 1000), (1, 7, 12)] ([(3, 10, 0), (3, 3, 0), (3, 2, 0), (3, 1, 1), (3, 0, 2), (1, 1, 0)] : List (Nat × Nat × Int32)) 33 (U + 66)) : Sp (F (d + 1) 6 [.ref 33] S) (fun v S' => v = none ∧ Cst S' [(33, 1, 34), (33, 0, 0), (16, 0, 31), (31, 1, 32), (31, 0, 0), (1, 3, 25), (1, 11, 24), (1, 9, 23), (1, 8, 21), (21, 0, 22), (1, 7, 19), (19, 1, 0), (19, 0, 20), (1, 6, 17), (17, 1, 0), (17, 0, 18), (1, 5, 16), (1, 4, 9), (9, 7, 14), (14, 0, 15), (9, 6, 13), (9, 5, 12), (9, 4, 11), (9, 0, 10), (1, 2, 3), (3, 11, 8), (3, 7, 7), (3, 6, 6), (3, 5, 5), (3, 4, 4), (1, 0, 2)] [(34, 100, 60), (33, 0, 3), (32, 100, 60), (31, 0, 3), (24, 100, 250), (23, 100, 250), (22, 100, 3125), (21, 6, 1), (20, 100, 6250), (19, 1, 4), (18, 100, 6250), (17, 1, 4), (16, 105, 4), (15, 100, 32), (14, 3, 2), (13, 100, 10), (12, 100, 10), (11, 100, 2), (10, 100, 60), (9, 4, 8), (8, 102, 0), (7, 100, 1000), (6, 101, 6), (5, 100, 6), (4, 100, 6), (3, 2, 19), (2, 102, 1000), (1, 7, 12)] ([(3, 10, 0), (3, 3, 0), (3, 2, 0), (3, 1, 1), (3, 0, 2), (1, 1, 0)] : List (Nat × Nat × Int32)) 34 (U + 126) ∧ FX MkF S S') := by
  refine fw6 (w6_0 ?_)
  refine W_f (by decide) ?_
  refine W_t (c0.k (a := 33) (c := 0) (n := 3) (by decide)) ?_
  refine W_s fun S1 e1 => ?_
  have h1 : FX MkF S S1 := (by rw [e1]; exact FX.pR (fun _ => by decide))
  have c1 : Cst S1 [(33, 0, 0), (16, 0, 31), (31, 1, 32), (31, 0, 0), (1, 3, 25), (1, 11, 24), (1, 9, 23), (1, 8, 21), (21, 0, 22), (1, 7, 19), (19, 1, 0), (19, 0, 20), (1, 6, 17), (17, 1, 0), (17, 0, 18), (1, 5, 16), (1, 4, 9), (9, 7, 14), (14, 0, 15), (9, 6, 13), (9, 5, 12), (9, 4, 11), (9, 0, 10), (1, 2, 3), (3, 11, 8), (3, 7, 7), (3, 6, 6), (3, 5, 5), (3, 4, 4), (1, 0, 2)] [(33, 0, 3), (32, 100, 60), (31, 0, 3), (24, 100, 250), (23, 100, 250), (22, 100, 3125), (21, 6, 1), (20, 100, 6250), (19, 1, 4), (18, 100, 6250), (17, 1, 4), (16, 105, 4), (15, 100, 32), (14, 3, 2), (13, 100, 10), (12, 100, 10), (11, 100, 2), (10, 100, 60), (9, 4, 8), (8, 102, 0), (7, 100, 1000), (6, 101, 6), (5, 100, 6), (4, 100, 6), (3, 2, 19), (2, 102, 1000), (1, 7, 12)] ([(3, 10, 0), (3, 3, 0), (3, 2, 0), (3, 1, 1), (3, 0, 2), (1, 1, 0)] : List (Nat × Nat × Int32)) 33 (U + 66) := by rw [e1]; exact c0.mR (by decide) (by decide)
  clear e1
  refine W_t (by decide) ?_
  refine W_s fun S2 e2 => ?_
  have h2 : FX MkF S S2 := h1.tr (by rw [e2]; exact FX.nw _ _)
  have c2 : Cst S2 [(33, 0, 0), (16, 0, 31), (31, 1, 32), (31, 0, 0), (1, 3, 25), (1, 11, 24), (1, 9, 23), (1, 8, 21), (21, 0, 22), (1, 7, 19), (19, 1, 0), (19, 0, 20), (1, 6, 17), (17, 1, 0), (17, 0, 18), (1, 5, 16), (1, 4, 9), (9, 7, 14), (14, 0, 15), (9, 6, 13), (9, 5, 12), (9, 4, 11), (9, 0, 10), (1, 2, 3), (3, 11, 8), (3, 7, 7), (3, 6, 6), (3, 5, 5), (3, 4, 4), (1, 0, 2)] [(34, 100, 60), (33, 0, 3), (32, 100, 60), (31, 0, 3), (24, 100, 250), (23, 100, 250), (22, 100, 3125), (21, 6, 1), (20, 100, 6250), (19, 1, 4), (18, 100, 6250), (17, 1, 4), (16, 105, 4), (15, 100, 32), (14, 3, 2), (13, 100, 10), (12, 100, 10), (11, 100, 2), (10, 100, 60), (9, 4, 8), (8, 102, 0), (7, 100, 1000), (6, 101, 6), (5, 100, 6), (4, 100, 6), (3, 2, 19), (2, 102, 1000), (1, 7, 12)] ([(3, 10, 0), (3, 3, 0), (3, 2, 0), (3, 1, 1), (3, 0, 2), (1, 1, 0)] : List (Nat × Nat × Int32)) 34 (U + 126) := by rw [e2, show (60 : Int32).toNatClampNeg = 60 from by decide +kernel]; exact c1.mnw 100 60
  clear e2
  refine W_t (c2.k (a := 33) (c := 0) (n := 3) (by decide)) ?_
  refine W_s fun S3 e3 => ?_
  have h3 : FX MkF S S3 := h2.tr (by rw [e3]; exact FX.pR (fun _ => by decide))
  have c3 : Cst S3 [(33, 1, 34), (33, 0, 0), (16, 0, 31), (31, 1, 32), (31, 0, 0), (1, 3, 25), (1, 11, 24), (1, 9, 23), (1, 8, 21), (21, 0, 22), (1, 7, 19), (19, 1, 0), (19, 0, 20), (1, 6, 17), (17, 1, 0), (17, 0, 18), (1, 5, 16), (1, 4, 9), (9, 7, 14), (14, 0, 15), (9, 6, 13), (9, 5, 12), (9, 4, 11), (9, 0, 10), (1, 2, 3), (3, 11, 8), (3, 7, 7), (3, 6, 6), (3, 5, 5), (3, 4, 4), (1, 0, 2)] [(34, 100, 60), (33, 0, 3), (32, 100, 60), (31, 0, 3), (24, 100, 250), (23, 100, 250), (22, 100, 3125), (21, 6, 1), (20, 100, 6250), (19, 1, 4), (18, 100, 6250), (17, 1, 4), (16, 105, 4), (15, 100, 32), (14, 3, 2), (13, 100, 10), (12, 100, 10), (11, 100, 2), (10, 100, 60), (9, 4, 8), (8, 102, 0), (7, 100, 1000), (6, 101, 6), (5, 100, 6), (4, 100, 6), (3, 2, 19), (2, 102, 1000), (1, 7, 12)] ([(3, 10, 0), (3, 3, 0), (3, 2, 0), (3, 1, 1), (3, 0, 2), (1, 1, 0)] : List (Nat × Nat × Int32)) 34 (U + 126) := by rw [e3, c1.z]; exact c2.mR (by decide) (by decide)
  clear e3
  refine W_t (c3.k (a := 33) (c := 0) (n := 3) (by decide)) ?_
  refine W_s fun S4 e4 => ?_
  have h4 : FX MkF S S4 := h3.tr (by rw [e4]; exact FX.pI (fun _ => by decide))
  have c4 : Cst S4 [(33, 1, 34), (33, 0, 0), (16, 0, 31), (31, 1, 32), (31, 0, 0), (1, 3, 25), (1, 11, 24), (1, 9, 23), (1, 8, 21), (21, 0, 22), (1, 7, 19), (19, 1, 0), (19, 0, 20), (1, 6, 17), (17, 1, 0), (17, 0, 18), (1, 5, 16), (1, 4, 9), (9, 7, 14), (14, 0, 15), (9, 6, 13), (9, 5, 12), (9, 4, 11), (9, 0, 10), (1, 2, 3), (3, 11, 8), (3, 7, 7), (3, 6, 6), (3, 5, 5), (3, 4, 4), (1, 0, 2)] [(34, 100, 60), (33, 0, 3), (32, 100, 60), (31, 0, 3), (24, 100, 250), (23, 100, 250), (22, 100, 3125), (21, 6, 1), (20, 100, 6250), (19, 1, 4), (18, 100, 6250), (17, 1, 4), (16, 105, 4), (15, 100, 32), (14, 3, 2), (13, 100, 10), (12, 100, 10), (11, 100, 2), (10, 100, 60), (9, 4, 8), (8, 102, 0), (7, 100, 1000), (6, 101, 6), (5, 100, 6), (4, 100, 6), (3, 2, 19), (2, 102, 1000), (1, 7, 12)] ([(3, 10, 0), (3, 3, 0), (3, 2, 0), (3, 1, 1), (3, 0, 2), (1, 1, 0)] : List (Nat × Nat × Int32)) 34 (U + 126) := by rw [e4]; exact c3.mI (by decide)
  clear e4
  exact ⟨⟨by rw [c0.z, c4.z]; decide, by rw [c0.u, c4.u]; omega⟩, rfl, c4, h4⟩
set_option maxRecDepth 4096 in
theorem f6_2 {d U : Nat} {S : St} (c0 : Cst S [(16, 1, 33), (33, 1, 34), (33, 0, 0), (16, 0, 31), (31, 1, 32), (31, 0, 0), (1, 3, 25), (1, 11, 24), (1, 9, 23), (1, 8, 21), (21, 0, 22), (1, 7, 19), (19, 1, 0), (19, 0, 20), (1, 6, 17), (17, 1, 0), (17, 0, 18), (1, 5, 16), (1, 4, 9), (9, 7, 14), (14, 0, 15), (9, 6, 13), (9, 5, 12), (9, 4, 11), (9, 0, 10), (1, 2, 3), (3, 11, 8), (3, 7, 7), (3, 6, 6), (3, 5, 5), (3, 4, 4), (1, 0, 2)] [(35, 0, 3), (34, 100, 60), (33, 0, 3), (32, 100, 60), (31, 0, 3), (24, 100, 250), (23, 100, 250), (22, 100, 3125), (21, 6, 1), (20, 100, 6250), (19, 1, 4), (18, 100, 6250), (17, 1, 4), (16, 105, 4), (15, 100, 32), (14, 3, 2), (13, 100, 10), (12, 100, 10), (11, 100, 2), (10, 100, 60), (9, 4, 8), (8, 102, 0), (7, 100, 1000), (6, 101, 6), (5, 100, 6), (4, 100, 6), (3, 2, 19), (2, 102, 1000), (1, 7, 12)] ([(3, 10, 0), (3, 3, 0), (3, 2, 0), (3, 1, 1), (3, 0, 2), (1, 1, 0)] : List (Nat × Nat × Int32)) 35 (U + 129)) : Sp (F (d + 1) 6 [.ref 35] S) (fun v S' => v = none ∧ Cst S' [(35, 1, 36), (35, 0, 0), (16, 1, 33), (33, 1, 34), (33, 0, 0), (16, 0, 31), (31, 1, 32), (31, 0, 0), (1, 3, 25), (1, 11, 24), (1, 9, 23), (1, 8, 21), (21, 0, 22), (1, 7, 19), (19, 1, 0), (19, 0, 20), (1, 6, 17), (17, 1, 0), (17, 0, 18), (1, 5, 16), (1, 4, 9), (9, 7, 14), (14, 0, 15), (9, 6, 13), (9, 5, 12), (9, 4, 11), (9, 0, 10), (1, 2, 3), (3, 11, 8), (3, 7, 7), (3, 6, 6), (3, 5, 5), (3, 4, 4), (1, 0, 2)] [(36, 100, 60), (35, 0, 3), (34, 100, 60), (33, 0, 3), (32, 100, 60), (31, 0, 3), (24, 100, 250), (23, 100, 250), (22, 100, 3125), (21, 6, 1), (20, 100, 6250), (19, 1, 4), (18, 100, 6250), (17, 1, 4), (16, 105, 4), (15, 100, 32), (14, 3, 2), (13, 100, 10), (12, 100, 10), (11, 100, 2), (10, 100, 60), (9, 4, 8), (8, 102, 0), (7, 100, 1000), (6, 101, 6), (5, 100, 6), (4, 100, 6), (3, 2, 19), (2, 102, 1000), (1, 7, 12)] ([(3, 10, 0), (3, 3, 0), (3, 2, 0), (3, 1, 1), (3, 0, 2), (1, 1, 0)] : List (Nat × Nat × Int32)) 36 (U + 189) ∧ FX MkF S S') := by
  refine fw6 (w6_0 ?_)
  refine W_f (by decide) ?_
  refine W_t (c0.k (a := 35) (c := 0) (n := 3) (by decide)) ?_
  refine W_s fun S1 e1 => ?_
  have h1 : FX MkF S S1 := (by rw [e1]; exact FX.pR (fun _ => by decide))
  have c1 : Cst S1 [(35, 0, 0), (16, 1, 33), (33, 1, 34), (33, 0, 0), (16, 0, 31), (31, 1, 32), (31, 0, 0), (1, 3, 25), (1, 11, 24), (1, 9, 23), (1, 8, 21), (21, 0, 22), (1, 7, 19), (19, 1, 0), (19, 0, 20), (1, 6, 17), (17, 1, 0), (17, 0, 18), (1, 5, 16), (1, 4, 9), (9, 7, 14), (14, 0, 15), (9, 6, 13), (9, 5, 12), (9, 4, 11), (9, 0, 10), (1, 2, 3), (3, 11, 8), (3, 7, 7), (3, 6, 6), (3, 5, 5), (3, 4, 4), (1, 0, 2)] [(35, 0, 3), (34, 100, 60), (33, 0, 3), (32, 100, 60), (31, 0, 3), (24, 100, 250), (23, 100, 250), (22, 100, 3125), (21, 6, 1), (20, 100, 6250), (19, 1, 4), (18, 100, 6250), (17, 1, 4), (16, 105, 4), (15, 100, 32), (14, 3, 2), (13, 100, 10), (12, 100, 10), (11, 100, 2), (10, 100, 60), (9, 4, 8), (8, 102, 0), (7, 100, 1000), (6, 101, 6), (5, 100, 6), (4, 100, 6), (3, 2, 19), (2, 102, 1000), (1, 7, 12)] ([(3, 10, 0), (3, 3, 0), (3, 2, 0), (3, 1, 1), (3, 0, 2), (1, 1, 0)] : List (Nat × Nat × Int32)) 35 (U + 129) := by rw [e1]; exact c0.mR (by decide) (by decide)
  clear e1
  refine W_t (by decide) ?_
  refine W_s fun S2 e2 => ?_
  have h2 : FX MkF S S2 := h1.tr (by rw [e2]; exact FX.nw _ _)
  have c2 : Cst S2 [(35, 0, 0), (16, 1, 33), (33, 1, 34), (33, 0, 0), (16, 0, 31), (31, 1, 32), (31, 0, 0), (1, 3, 25), (1, 11, 24), (1, 9, 23), (1, 8, 21), (21, 0, 22), (1, 7, 19), (19, 1, 0), (19, 0, 20), (1, 6, 17), (17, 1, 0), (17, 0, 18), (1, 5, 16), (1, 4, 9), (9, 7, 14), (14, 0, 15), (9, 6, 13), (9, 5, 12), (9, 4, 11), (9, 0, 10), (1, 2, 3), (3, 11, 8), (3, 7, 7), (3, 6, 6), (3, 5, 5), (3, 4, 4), (1, 0, 2)] [(36, 100, 60), (35, 0, 3), (34, 100, 60), (33, 0, 3), (32, 100, 60), (31, 0, 3), (24, 100, 250), (23, 100, 250), (22, 100, 3125), (21, 6, 1), (20, 100, 6250), (19, 1, 4), (18, 100, 6250), (17, 1, 4), (16, 105, 4), (15, 100, 32), (14, 3, 2), (13, 100, 10), (12, 100, 10), (11, 100, 2), (10, 100, 60), (9, 4, 8), (8, 102, 0), (7, 100, 1000), (6, 101, 6), (5, 100, 6), (4, 100, 6), (3, 2, 19), (2, 102, 1000), (1, 7, 12)] ([(3, 10, 0), (3, 3, 0), (3, 2, 0), (3, 1, 1), (3, 0, 2), (1, 1, 0)] : List (Nat × Nat × Int32)) 36 (U + 189) := by rw [e2, show (60 : Int32).toNatClampNeg = 60 from by decide +kernel]; exact c1.mnw 100 60
  clear e2
  refine W_t (c2.k (a := 35) (c := 0) (n := 3) (by decide)) ?_
  refine W_s fun S3 e3 => ?_
  have h3 : FX MkF S S3 := h2.tr (by rw [e3]; exact FX.pR (fun _ => by decide))
  have c3 : Cst S3 [(35, 1, 36), (35, 0, 0), (16, 1, 33), (33, 1, 34), (33, 0, 0), (16, 0, 31), (31, 1, 32), (31, 0, 0), (1, 3, 25), (1, 11, 24), (1, 9, 23), (1, 8, 21), (21, 0, 22), (1, 7, 19), (19, 1, 0), (19, 0, 20), (1, 6, 17), (17, 1, 0), (17, 0, 18), (1, 5, 16), (1, 4, 9), (9, 7, 14), (14, 0, 15), (9, 6, 13), (9, 5, 12), (9, 4, 11), (9, 0, 10), (1, 2, 3), (3, 11, 8), (3, 7, 7), (3, 6, 6), (3, 5, 5), (3, 4, 4), (1, 0, 2)] [(36, 100, 60), (35, 0, 3), (34, 100, 60), (33, 0, 3), (32, 100, 60), (31, 0, 3), (24, 100, 250), (23, 100, 250), (22, 100, 3125), (21, 6, 1), (20, 100, 6250), (19, 1, 4), (18, 100, 6250), (17, 1, 4), (16, 105, 4), (15, 100, 32), (14, 3, 2), (13, 100, 10), (12, 100, 10), (11, 100, 2), (10, 100, 60), (9, 4, 8), (8, 102, 0), (7, 100, 1000), (6, 101, 6), (5, 100, 6), (4, 100, 6), (3, 2, 19), (2, 102, 1000), (1, 7, 12)] ([(3, 10, 0), (3, 3, 0), (3, 2, 0), (3, 1, 1), (3, 0, 2), (1, 1, 0)] : List (Nat × Nat × Int32)) 36 (U + 189) := by rw [e3, c1.z]; exact c2.mR (by decide) (by decide)
  clear e3
  refine W_t (c3.k (a := 35) (c := 0) (n := 3) (by decide)) ?_
  refine W_s fun S4 e4 => ?_
  have h4 : FX MkF S S4 := h3.tr (by rw [e4]; exact FX.pI (fun _ => by decide))
  have c4 : Cst S4 [(35, 1, 36), (35, 0, 0), (16, 1, 33), (33, 1, 34), (33, 0, 0), (16, 0, 31), (31, 1, 32), (31, 0, 0), (1, 3, 25), (1, 11, 24), (1, 9, 23), (1, 8, 21), (21, 0, 22), (1, 7, 19), (19, 1, 0), (19, 0, 20), (1, 6, 17), (17, 1, 0), (17, 0, 18), (1, 5, 16), (1, 4, 9), (9, 7, 14), (14, 0, 15), (9, 6, 13), (9, 5, 12), (9, 4, 11), (9, 0, 10), (1, 2, 3), (3, 11, 8), (3, 7, 7), (3, 6, 6), (3, 5, 5), (3, 4, 4), (1, 0, 2)] [(36, 100, 60), (35, 0, 3), (34, 100, 60), (33, 0, 3), (32, 100, 60), (31, 0, 3), (24, 100, 250), (23, 100, 250), (22, 100, 3125), (21, 6, 1), (20, 100, 6250), (19, 1, 4), (18, 100, 6250), (17, 1, 4), (16, 105, 4), (15, 100, 32), (14, 3, 2), (13, 100, 10), (12, 100, 10), (11, 100, 2), (10, 100, 60), (9, 4, 8), (8, 102, 0), (7, 100, 1000), (6, 101, 6), (5, 100, 6), (4, 100, 6), (3, 2, 19), (2, 102, 1000), (1, 7, 12)] ([(3, 10, 0), (3, 3, 0), (3, 2, 0), (3, 1, 1), (3, 0, 2), (1, 1, 0)] : List (Nat × Nat × Int32)) 36 (U + 189) := by rw [e4]; exact c3.mI (by decide)
  clear e4
  exact ⟨⟨by rw [c0.z, c4.z]; decide, by rw [c0.u, c4.u]; omega⟩, rfl, c4, h4⟩
set_option maxRecDepth 4096 in
theorem f6_3 {d U : Nat} {S : St} (c0 : Cst S [(16, 2, 35), (35, 1, 36), (35, 0, 0), (16, 1, 33), (33, 1, 34), (33, 0, 0), (16, 0, 31), (31, 1, 32), (31, 0, 0), (1, 3, 25), (1, 11, 24), (1, 9, 23), (1, 8, 21), (21, 0, 22), (1, 7, 19), (19, 1, 0), (19, 0, 20), (1, 6, 17), (17, 1, 0), (17, 0, 18), (1, 5, 16), (1, 4, 9), (9, 7, 14), (14, 0, 15), (9, 6, 13), (9, 5, 12), (9, 4, 11), (9, 0, 10), (1, 2, 3), (3, 11, 8), (3, 7, 7), (3, 6, 6), (3, 5, 5), (3, 4, 4), (1, 0, 2)] [(37, 0, 3), (36, 100, 60), (35, 0, 3), (34, 100, 60), (33, 0, 3), (32, 100, 60), (31, 0, 3), (24, 100, 250), (23, 100, 250), (22, 100, 3125), (21, 6, 1), (20, 100, 6250), (19, 1, 4), (18, 100, 6250), (17, 1, 4), (16, 105, 4), (15, 100, 32), (14, 3, 2), (13, 100, 10), (12, 100, 10), (11, 100, 2), (10, 100, 60), (9, 4, 8), (8, 102, 0), (7, 100, 1000), (6, 101, 6), (5, 100, 6), (4, 100, 6), (3, 2, 19), (2, 102, 1000), (1, 7, 12)] ([(3, 10, 0), (3, 3, 0), (3, 2, 0), (3, 1, 1), (3, 0, 2), (1, 1, 0)] : List (Nat × Nat × Int32)) 37 (U + 192)) : Sp (F (d + 1) 6 [.ref 37] S) (fun v S' => v = none ∧ Cst S' [(37, 1, 38), (37, 0, 0), (16, 2, 35), (35, 1, 36), (35, 0, 0), (16, 1, 33), (33, 1, 34), (33, 0, 0), (16, 0, 31), (31, 1, 32), (31, 0, 0), (1, 3, 25), (1, 11, 24), (1, 9, 23), (1, 8, 21), (21, 0, 22), (1, 7, 19), (19, 1, 0), (19, 0, 20), (1, 6, 17), (17, 1, 0), (17, 0, 18), (1, 5, 16), (1, 4, 9), (9, 7, 14), (14, 0, 15), (9, 6, 13), (9, 5, 12), (9, 4, 11), (9, 0, 10), (1, 2, 3), (3, 11, 8), (3, 7, 7), (3, 6, 6), (3, 5, 5), (3, 4, 4), (1, 0, 2)] [(38, 100, 60), (37, 0, 3), (36, 100, 60), (35, 0, 3), (34, 100, 60), (33, 0, 3), (32, 100, 60), (31, 0, 3), (24, 100, 250), (23, 100, 250), (22, 100, 3125), (21, 6, 1), (20, 100, 6250), (19, 1, 4), (18, 100, 6250), (17, 1, 4), (16, 105, 4), (15, 100, 32), (14, 3, 2), (13, 100, 10), (12, 100, 10), (11, 100, 2), (10, 100, 60), (9, 4, 8), (8, 102, 0), (7, 100, 1000), (6, 101, 6), (5, 100, 6), (4, 100, 6), (3, 2, 19), (2, 102, 1000), (1, 7, 12)] ([(3, 10, 0), (3, 3, 0), (3, 2, 0), (3, 1, 1), (3, 0, 2), (1, 1, 0)] : List (Nat × Nat × Int32)) 38 (U + 252) ∧ FX MkF S S') := by
  refine fw6 (w6_0 ?_)
  refine W_f (by decide) ?_
  refine W_t (c0.k (a := 37) (c := 0) (n := 3) (by decide)) ?_
  refine W_s fun S1 e1 => ?_
  have h1 : FX MkF S S1 := (by rw [e1]; exact FX.pR (fun _ => by decide))
  have c1 : Cst S1 [(37, 0, 0), (16, 2, 35), (35, 1, 36), (35, 0, 0), (16, 1, 33), (33, 1, 34), (33, 0, 0), (16, 0, 31), (31, 1, 32), (31, 0, 0), (1, 3, 25), (1, 11, 24), (1, 9, 23), (1, 8, 21), (21, 0, 22), (1, 7, 19), (19, 1, 0), (19, 0, 20), (1, 6, 17), (17, 1, 0), (17, 0, 18), (1, 5, 16), (1, 4, 9), (9, 7, 14), (14, 0, 15), (9, 6, 13), (9, 5, 12), (9, 4, 11), (9, 0, 10), (1, 2, 3), (3, 11, 8), (3, 7, 7), (3, 6, 6), (3, 5, 5), (3, 4, 4), (1, 0, 2)] [(37, 0, 3), (36, 100, 60), (35, 0, 3), (34, 100, 60), (33, 0, 3), (32, 100, 60), (31, 0, 3), (24, 100, 250), (23, 100, 250), (22, 100, 3125), (21, 6, 1), (20, 100, 6250), (19, 1, 4), (18, 100, 6250), (17, 1, 4), (16, 105, 4), (15, 100, 32), (14, 3, 2), (13, 100, 10), (12, 100, 10), (11, 100, 2), (10, 100, 60), (9, 4, 8), (8, 102, 0), (7, 100, 1000), (6, 101, 6), (5, 100, 6), (4, 100, 6), (3, 2, 19), (2, 102, 1000), (1, 7, 12)] ([(3, 10, 0), (3, 3, 0), (3, 2, 0), (3, 1, 1), (3, 0, 2), (1, 1, 0)] : List (Nat × Nat × Int32)) 37 (U + 192) := by rw [e1]; exact c0.mR (by decide) (by decide)
  clear e1
  refine W_t (by decide) ?_
  refine W_s fun S2 e2 => ?_
  have h2 : FX MkF S S2 := h1.tr (by rw [e2]; exact FX.nw _ _)
  have c2 : Cst S2 [(37, 0, 0), (16, 2, 35), (35, 1, 36), (35, 0, 0), (16, 1, 33), (33, 1, 34), (33, 0, 0), (16, 0, 31), (31, 1, 32), (31, 0, 0), (1, 3, 25), (1, 11, 24), (1, 9, 23), (1, 8, 21), (21, 0, 22), (1, 7, 19), (19, 1, 0), (19, 0, 20), (1, 6, 17), (17, 1, 0), (17, 0, 18), (1, 5, 16), (1, 4, 9), (9, 7, 14), (14, 0, 15), (9, 6, 13), (9, 5, 12), (9, 4, 11), (9, 0, 10), (1, 2, 3), (3, 11, 8), (3, 7, 7), (3, 6, 6), (3, 5, 5), (3, 4, 4), (1, 0, 2)] [(38, 100, 60), (37, 0, 3), (36, 100, 60), (35, 0, 3), (34, 100, 60), (33, 0, 3), (32, 100, 60), (31, 0, 3), (24, 100, 250), (23, 100, 250), (22, 100, 3125), (21, 6, 1), (20, 100, 6250), (19, 1, 4), (18, 100, 6250), (17, 1, 4), (16, 105, 4), (15, 100, 32), (14, 3, 2), (13, 100, 10), (12, 100, 10), (11, 100, 2), (10, 100, 60), (9, 4, 8), (8, 102, 0), (7, 100, 1000), (6, 101, 6), (5, 100, 6), (4, 100, 6), (3, 2, 19), (2, 102, 1000), (1, 7, 12)] ([(3, 10, 0), (3, 3, 0), (3, 2, 0), (3, 1, 1), (3, 0, 2), (1, 1, 0)] : List (Nat × Nat × Int32)) 38 (U + 252) := by rw [e2, show (60 : Int32).toNatClampNeg = 60 from by decide +kernel]; exact c1.mnw 100 60
  clear e2
  refine W_t (c2.k (a := 37) (c := 0) (n := 3) (by decide)) ?_
  refine W_s fun S3 e3 => ?_
  have h3 : FX MkF S S3 := h2.tr (by rw [e3]; exact FX.pR (fun _ => by decide))
  have c3 : Cst S3 [(37, 1, 38), (37, 0, 0), (16, 2, 35), (35, 1, 36), (35, 0, 0), (16, 1, 33), (33, 1, 34), (33, 0, 0), (16, 0, 31), (31, 1, 32), (31, 0, 0), (1, 3, 25), (1, 11, 24), (1, 9, 23), (1, 8, 21), (21, 0, 22), (1, 7, 19), (19, 1, 0), (19, 0, 20), (1, 6, 17), (17, 1, 0), (17, 0, 18), (1, 5, 16), (1, 4, 9), (9, 7, 14), (14, 0, 15), (9, 6, 13), (9, 5, 12), (9, 4, 11), (9, 0, 10), (1, 2, 3), (3, 11, 8), (3, 7, 7), (3, 6, 6), (3, 5, 5), (3, 4, 4), (1, 0, 2)] [(38, 100, 60), (37, 0, 3), (36, 100, 60), (35, 0, 3), (34, 100, 60), (33, 0, 3), (32, 100, 60), (31, 0, 3), (24, 100, 250), (23, 100, 250), (22, 100, 3125), (21, 6, 1), (20, 100, 6250), (19, 1, 4), (18, 100, 6250), (17, 1, 4), (16, 105, 4), (15, 100, 32), (14, 3, 2), (13, 100, 10), (12, 100, 10), (11, 100, 2), (10, 100, 60), (9, 4, 8), (8, 102, 0), (7, 100, 1000), (6, 101, 6), (5, 100, 6), (4, 100, 6), (3, 2, 19), (2, 102, 1000), (1, 7, 12)] ([(3, 10, 0), (3, 3, 0), (3, 2, 0), (3, 1, 1), (3, 0, 2), (1, 1, 0)] : List (Nat × Nat × Int32)) 38 (U + 252) := by rw [e3, c1.z]; exact c2.mR (by decide) (by decide)
  clear e3
  refine W_t (c3.k (a := 37) (c := 0) (n := 3) (by decide)) ?_
  refine W_s fun S4 e4 => ?_
  have h4 : FX MkF S S4 := h3.tr (by rw [e4]; exact FX.pI (fun _ => by decide))
  have c4 : Cst S4 [(37, 1, 38), (37, 0, 0), (16, 2, 35), (35, 1, 36), (35, 0, 0), (16, 1, 33), (33, 1, 34), (33, 0, 0), (16, 0, 31), (31, 1, 32), (31, 0, 0), (1, 3, 25), (1, 11, 24), (1, 9, 23), (1, 8, 21), (21, 0, 22), (1, 7, 19), (19, 1, 0), (19, 0, 20), (1, 6, 17), (17, 1, 0), (17, 0, 18), (1, 5, 16), (1, 4, 9), (9, 7, 14), (14, 0, 15), (9, 6, 13), (9, 5, 12), (9, 4, 11), (9, 0, 10), (1, 2, 3), (3, 11, 8), (3, 7, 7), (3, 6, 6), (3, 5, 5), (3, 4, 4), (1, 0, 2)] [(38, 100, 60), (37, 0, 3), (36, 100, 60), (35, 0, 3), (34, 100, 60), (33, 0, 3), (32, 100, 60), (31, 0, 3), (24, 100, 250), (23, 100, 250), (22, 100, 3125), (21, 6, 1), (20, 100, 6250), (19, 1, 4), (18, 100, 6250), (17, 1, 4), (16, 105, 4), (15, 100, 32), (14, 3, 2), (13, 100, 10), (12, 100, 10), (11, 100, 2), (10, 100, 60), (9, 4, 8), (8, 102, 0), (7, 100, 1000), (6, 101, 6), (5, 100, 6), (4, 100, 6), (3, 2, 19), (2, 102, 1000), (1, 7, 12)] ([(3, 10, 0), (3, 3, 0), (3, 2, 0), (3, 1, 1), (3, 0, 2), (1, 1, 0)] : List (Nat × Nat × Int32)) 38 (U + 252) := by rw [e4]; exact c3.mI (by decide)
  clear e4
  exact ⟨⟨by rw [c0.z, c4.z]; decide, by rw [c0.u, c4.u]; omega⟩, rfl, c4, h4⟩
theorem lrs : ∀ q ∈ shC_R, q ∈ ([(16, 3, 37), (37, 1, 38), (37, 0, 0), (16, 2, 35), (35, 1, 36), (35, 0, 0), (16, 1, 33), (33, 1, 34), (33, 0, 0), (16, 0, 31), (31, 1, 32), (31, 0, 0), (1, 3, 25), (1, 11, 24), (1, 9, 23), (1, 8, 21), (21, 0, 22), (1, 7, 19), (19, 1, 0), (19, 0, 20), (1, 6, 17), (17, 1, 0), (17, 0, 18), (1, 5, 16), (1, 4, 9), (9, 7, 14), (14, 0, 15), (9, 6, 13), (9, 5, 12), (9, 4, 11), (9, 0, 10), (1, 2, 3), (3, 11, 8), (3, 7, 7), (3, 6, 6), (3, 5, 5), (3, 4, 4), (1, 0, 2)] : List (Nat × Nat × Nat)) := by decide
theorem lks : ∀ q ∈ shC_K, q ∈ ([(38, 100, 60), (37, 0, 3), (36, 100, 60), (35, 0, 3), (34, 100, 60), (33, 0, 3), (32, 100, 60), (31, 0, 3), (24, 100, 250), (23, 100, 250), (22, 100, 3125), (21, 6, 1), (20, 100, 6250), (19, 1, 4), (18, 100, 6250), (17, 1, 4), (16, 105, 4), (15, 100, 32), (14, 3, 2), (13, 100, 10), (12, 100, 10), (11, 100, 2), (10, 100, 60), (9, 4, 8), (8, 102, 0), (7, 100, 1000), (6, 101, 6), (5, 100, 6), (4, 100, 6), (3, 2, 19), (2, 102, 1000), (1, 7, 12)] : List (Nat × Nat × Nat)) := by decide
set_option maxRecDepth 4096 in
/-- the class's constructor -/
theorem f86 {d : Nat} {S : St} (c0 : Cst S [] [(1, 7, 12)] ([] : List (Nat × Nat × Int32)) 1 (12)) : Sp (F (d + 7) 86 [.ref 1] S) (fun v S' => v = none ∧ gZ S' = 38 ∧ gU S' ≤ 20000 ∧ CI S' [] (tdL 2 1 ls0) (fnL ls0) [] (fun _ => none)) := by
  refine fw86 (w86_0 ?_)
  refine W_f (by decide) ?_
  refine W_t (by decide) ?_
  refine W_s fun S1 e1 => ?_
  have c1 : Cst S1 [] [(2, 102, 1000), (1, 7, 12)] ([] : List (Nat × Nat × Int32)) 2 (1012) := by rw [e1, show (1000 : Int32).toNatClampNeg = 1000 from by decide +kernel]; exact c0.mnw 102 1000
  clear e1
  refine W_t (c1.k (a := 1) (c := 7) (n := 12) (by decide)) ?_
  refine W_s fun S2 e2 => ?_
  have c2 : Cst S2 [(1, 0, 2)] [(2, 102, 1000), (1, 7, 12)] ([] : List (Nat × Nat × Int32)) 2 (1012) := by rw [e2, c0.z]; exact c1.mR (by decide) (by decide)
  clear e2
  refine W_t (c2.k (a := 1) (c := 7) (n := 12) (by decide)) ?_
  refine W_s fun S3 e3 => ?_
  have c3 : Cst S3 [(1, 0, 2)] [(2, 102, 1000), (1, 7, 12)] ([(1, 1, 0)] : List (Nat × Nat × Int32)) 2 (1012) := by rw [e3]; exact c2.mIa (by decide) (by decide)
  clear e3
  refine W_s fun S4 e4 => ?_
  have c4 : Cst S4 [(1, 0, 2)] [(3, 2, 19), (2, 102, 1000), (1, 7, 12)] ([(1, 1, 0)] : List (Nat × Nat × Int32)) 3 (1031) := by rw [e4]; exact c3.mnw 2 19
  clear e4
  refine W_f (by rw [c3.z]; decide) ?_
  rw [c3.z]
  refine W_Ve (f18c (d := d + 5) c4) ?_
  intro S5 c5
  refine W_t (c5.k (a := 1) (c := 7) (n := 12) (by decide)) ?_
  refine W_s fun S6 e6 => ?_
  have c6 : Cst S6 [(1, 2, 3), (3, 11, 8), (3, 7, 7), (3, 6, 6), (3, 5, 5), (3, 4, 4), (1, 0, 2)] [(8, 102, 0), (7, 100, 1000), (6, 101, 6), (5, 100, 6), (4, 100, 6), (3, 2, 19), (2, 102, 1000), (1, 7, 12)] ([(3, 10, 0), (3, 3, 0), (3, 2, 0), (3, 1, 1), (3, 0, 2), (1, 1, 0)] : List (Nat × Nat × Int32)) 8 (2049) := by rw [e6]; exact c5.mR (by decide) (by decide)
  clear e6
  refine W_s fun S7 e7 => ?_
  have c7 : Cst S7 [(1, 2, 3), (3, 11, 8), (3, 7, 7), (3, 6, 6), (3, 5, 5), (3, 4, 4), (1, 0, 2)] [(9, 4, 8), (8, 102, 0), (7, 100, 1000), (6, 101, 6), (5, 100, 6), (4, 100, 6), (3, 2, 19), (2, 102, 1000), (1, 7, 12)] ([(3, 10, 0), (3, 3, 0), (3, 2, 0), (3, 1, 1), (3, 0, 2), (1, 1, 0)] : List (Nat × Nat × Int32)) 9 (2057) := by rw [e7]; exact c6.mnw 4 8
  clear e7
  refine W_f (by rw [c6.z]; decide) ?_
  rw [c6.z]
  refine W_Ve (f49c (d := d + 4) c7) ?_
  intro S8 c8
  refine W_t (c8.k (a := 1) (c := 7) (n := 12) (by decide)) ?_
  refine W_s fun S9 e9 => ?_
  have c9 : Cst S9 [(1, 4, 9), (9, 7, 14), (14, 0, 15), (9, 6, 13), (9, 5, 12), (9, 4, 11), (9, 0, 10), (1, 2, 3), (3, 11, 8), (3, 7, 7), (3, 6, 6), (3, 5, 5), (3, 4, 4), (1, 0, 2)] [(15, 100, 32), (14, 3, 2), (13, 100, 10), (12, 100, 10), (11, 100, 2), (10, 100, 60), (9, 4, 8), (8, 102, 0), (7, 100, 1000), (6, 101, 6), (5, 100, 6), (4, 100, 6), (3, 2, 19), (2, 102, 1000), (1, 7, 12)] ([(3, 10, 0), (3, 3, 0), (3, 2, 0), (3, 1, 1), (3, 0, 2), (1, 1, 0)] : List (Nat × Nat × Int32)) 15 (2173) := by rw [e9]; exact c8.mR (by decide) (by decide)
  clear e9
  refine W_t (by decide) ?_
  refine W_s fun S10 e10 => ?_
  have c10 : Cst S10 [(1, 4, 9), (9, 7, 14), (14, 0, 15), (9, 6, 13), (9, 5, 12), (9, 4, 11), (9, 0, 10), (1, 2, 3), (3, 11, 8), (3, 7, 7), (3, 6, 6), (3, 5, 5), (3, 4, 4), (1, 0, 2)] [(16, 105, 4), (15, 100, 32), (14, 3, 2), (13, 100, 10), (12, 100, 10), (11, 100, 2), (10, 100, 60), (9, 4, 8), (8, 102, 0), (7, 100, 1000), (6, 101, 6), (5, 100, 6), (4, 100, 6), (3, 2, 19), (2, 102, 1000), (1, 7, 12)] ([(3, 10, 0), (3, 3, 0), (3, 2, 0), (3, 1, 1), (3, 0, 2), (1, 1, 0)] : List (Nat × Nat × Int32)) 16 (2177) := by rw [e10, show (4 : Int32).toNatClampNeg = 4 from by decide +kernel]; exact c9.mnw 105 4
  clear e10
  refine W_t (c10.k (a := 1) (c := 7) (n := 12) (by decide)) ?_
  refine W_s fun S11 e11 => ?_
  have c11 : Cst S11 [(1, 5, 16), (1, 4, 9), (9, 7, 14), (14, 0, 15), (9, 6, 13), (9, 5, 12), (9, 4, 11), (9, 0, 10), (1, 2, 3), (3, 11, 8), (3, 7, 7), (3, 6, 6), (3, 5, 5), (3, 4, 4), (1, 0, 2)] [(16, 105, 4), (15, 100, 32), (14, 3, 2), (13, 100, 10), (12, 100, 10), (11, 100, 2), (10, 100, 60), (9, 4, 8), (8, 102, 0), (7, 100, 1000), (6, 101, 6), (5, 100, 6), (4, 100, 6), (3, 2, 19), (2, 102, 1000), (1, 7, 12)] ([(3, 10, 0), (3, 3, 0), (3, 2, 0), (3, 1, 1), (3, 0, 2), (1, 1, 0)] : List (Nat × Nat × Int32)) 16 (2177) := by rw [e11, c9.z]; exact c10.mR (by decide) (by decide)
  clear e11
  refine W_s fun S12 e12 => ?_
  have c12 : Cst S12 [(1, 5, 16), (1, 4, 9), (9, 7, 14), (14, 0, 15), (9, 6, 13), (9, 5, 12), (9, 4, 11), (9, 0, 10), (1, 2, 3), (3, 11, 8), (3, 7, 7), (3, 6, 6), (3, 5, 5), (3, 4, 4), (1, 0, 2)] [(17, 1, 4), (16, 105, 4), (15, 100, 32), (14, 3, 2), (13, 100, 10), (12, 100, 10), (11, 100, 2), (10, 100, 60), (9, 4, 8), (8, 102, 0), (7, 100, 1000), (6, 101, 6), (5, 100, 6), (4, 100, 6), (3, 2, 19), (2, 102, 1000), (1, 7, 12)] ([(3, 10, 0), (3, 3, 0), (3, 2, 0), (3, 1, 1), (3, 0, 2), (1, 1, 0)] : List (Nat × Nat × Int32)) 17 (2181) := by rw [e12]; exact c11.mnw 1 4
  clear e12
  refine W_f (by rw [c11.z]; decide) ?_
  rw [c11.z]
  refine W_Ve (f8a (d := d + 5) c12) ?_
  intro S13 c13
  refine W_t (c13.k (a := 1) (c := 7) (n := 12) (by decide)) ?_
  refine W_s fun S14 e14 => ?_
  have c14 : Cst S14 [(1, 6, 17), (17, 1, 0), (17, 0, 18), (1, 5, 16), (1, 4, 9), (9, 7, 14), (14, 0, 15), (9, 6, 13), (9, 5, 12), (9, 4, 11), (9, 0, 10), (1, 2, 3), (3, 11, 8), (3, 7, 7), (3, 6, 6), (3, 5, 5), (3, 4, 4), (1, 0, 2)] [(18, 100, 6250), (17, 1, 4), (16, 105, 4), (15, 100, 32), (14, 3, 2), (13, 100, 10), (12, 100, 10), (11, 100, 2), (10, 100, 60), (9, 4, 8), (8, 102, 0), (7, 100, 1000), (6, 101, 6), (5, 100, 6), (4, 100, 6), (3, 2, 19), (2, 102, 1000), (1, 7, 12)] ([(3, 10, 0), (3, 3, 0), (3, 2, 0), (3, 1, 1), (3, 0, 2), (1, 1, 0)] : List (Nat × Nat × Int32)) 18 (8431) := by rw [e14]; exact c13.mR (by decide) (by decide)
  clear e14
  refine W_s fun S15 e15 => ?_
  have c15 : Cst S15 [(1, 6, 17), (17, 1, 0), (17, 0, 18), (1, 5, 16), (1, 4, 9), (9, 7, 14), (14, 0, 15), (9, 6, 13), (9, 5, 12), (9, 4, 11), (9, 0, 10), (1, 2, 3), (3, 11, 8), (3, 7, 7), (3, 6, 6), (3, 5, 5), (3, 4, 4), (1, 0, 2)] [(19, 1, 4), (18, 100, 6250), (17, 1, 4), (16, 105, 4), (15, 100, 32), (14, 3, 2), (13, 100, 10), (12, 100, 10), (11, 100, 2), (10, 100, 60), (9, 4, 8), (8, 102, 0), (7, 100, 1000), (6, 101, 6), (5, 100, 6), (4, 100, 6), (3, 2, 19), (2, 102, 1000), (1, 7, 12)] ([(3, 10, 0), (3, 3, 0), (3, 2, 0), (3, 1, 1), (3, 0, 2), (1, 1, 0)] : List (Nat × Nat × Int32)) 19 (8435) := by rw [e15]; exact c14.mnw 1 4
  clear e15
  refine W_f (by rw [c14.z]; decide) ?_
  rw [c14.z]
  refine W_Ve (f8b (d := d + 5) c15) ?_
  intro S16 c16
  refine W_t (c16.k (a := 1) (c := 7) (n := 12) (by decide)) ?_
  refine W_s fun S17 e17 => ?_
  have c17 : Cst S17 [(1, 7, 19), (19, 1, 0), (19, 0, 20), (1, 6, 17), (17, 1, 0), (17, 0, 18), (1, 5, 16), (1, 4, 9), (9, 7, 14), (14, 0, 15), (9, 6, 13), (9, 5, 12), (9, 4, 11), (9, 0, 10), (1, 2, 3), (3, 11, 8), (3, 7, 7), (3, 6, 6), (3, 5, 5), (3, 4, 4), (1, 0, 2)] [(20, 100, 6250), (19, 1, 4), (18, 100, 6250), (17, 1, 4), (16, 105, 4), (15, 100, 32), (14, 3, 2), (13, 100, 10), (12, 100, 10), (11, 100, 2), (10, 100, 60), (9, 4, 8), (8, 102, 0), (7, 100, 1000), (6, 101, 6), (5, 100, 6), (4, 100, 6), (3, 2, 19), (2, 102, 1000), (1, 7, 12)] ([(3, 10, 0), (3, 3, 0), (3, 2, 0), (3, 1, 1), (3, 0, 2), (1, 1, 0)] : List (Nat × Nat × Int32)) 20 (14685) := by rw [e17]; exact c16.mR (by decide) (by decide)
  clear e17
  refine W_s fun S18 e18 => ?_
  have c18 : Cst S18 [(1, 7, 19), (19, 1, 0), (19, 0, 20), (1, 6, 17), (17, 1, 0), (17, 0, 18), (1, 5, 16), (1, 4, 9), (9, 7, 14), (14, 0, 15), (9, 6, 13), (9, 5, 12), (9, 4, 11), (9, 0, 10), (1, 2, 3), (3, 11, 8), (3, 7, 7), (3, 6, 6), (3, 5, 5), (3, 4, 4), (1, 0, 2)] [(21, 6, 1), (20, 100, 6250), (19, 1, 4), (18, 100, 6250), (17, 1, 4), (16, 105, 4), (15, 100, 32), (14, 3, 2), (13, 100, 10), (12, 100, 10), (11, 100, 2), (10, 100, 60), (9, 4, 8), (8, 102, 0), (7, 100, 1000), (6, 101, 6), (5, 100, 6), (4, 100, 6), (3, 2, 19), (2, 102, 1000), (1, 7, 12)] ([(3, 10, 0), (3, 3, 0), (3, 2, 0), (3, 1, 1), (3, 0, 2), (1, 1, 0)] : List (Nat × Nat × Int32)) 21 (14686) := by rw [e18]; exact c17.mnw 6 1
  clear e18
  refine W_f (by rw [c17.z]; decide) ?_
  rw [c17.z]
  refine W_Ve (f80c (d := d + 5) c18) ?_
  intro S19 c19
  refine W_t (c19.k (a := 1) (c := 7) (n := 12) (by decide)) ?_
  refine W_s fun S20 e20 => ?_
  have c20 : Cst S20 [(1, 8, 21), (21, 0, 22), (1, 7, 19), (19, 1, 0), (19, 0, 20), (1, 6, 17), (17, 1, 0), (17, 0, 18), (1, 5, 16), (1, 4, 9), (9, 7, 14), (14, 0, 15), (9, 6, 13), (9, 5, 12), (9, 4, 11), (9, 0, 10), (1, 2, 3), (3, 11, 8), (3, 7, 7), (3, 6, 6), (3, 5, 5), (3, 4, 4), (1, 0, 2)] [(22, 100, 3125), (21, 6, 1), (20, 100, 6250), (19, 1, 4), (18, 100, 6250), (17, 1, 4), (16, 105, 4), (15, 100, 32), (14, 3, 2), (13, 100, 10), (12, 100, 10), (11, 100, 2), (10, 100, 60), (9, 4, 8), (8, 102, 0), (7, 100, 1000), (6, 101, 6), (5, 100, 6), (4, 100, 6), (3, 2, 19), (2, 102, 1000), (1, 7, 12)] ([(3, 10, 0), (3, 3, 0), (3, 2, 0), (3, 1, 1), (3, 0, 2), (1, 1, 0)] : List (Nat × Nat × Int32)) 22 (17811) := by rw [e20]; exact c19.mR (by decide) (by decide)
  clear e20
  refine W_t (by decide) ?_
  refine W_s fun S21 e21 => ?_
  have c21 : Cst S21 [(1, 8, 21), (21, 0, 22), (1, 7, 19), (19, 1, 0), (19, 0, 20), (1, 6, 17), (17, 1, 0), (17, 0, 18), (1, 5, 16), (1, 4, 9), (9, 7, 14), (14, 0, 15), (9, 6, 13), (9, 5, 12), (9, 4, 11), (9, 0, 10), (1, 2, 3), (3, 11, 8), (3, 7, 7), (3, 6, 6), (3, 5, 5), (3, 4, 4), (1, 0, 2)] [(23, 100, 250), (22, 100, 3125), (21, 6, 1), (20, 100, 6250), (19, 1, 4), (18, 100, 6250), (17, 1, 4), (16, 105, 4), (15, 100, 32), (14, 3, 2), (13, 100, 10), (12, 100, 10), (11, 100, 2), (10, 100, 60), (9, 4, 8), (8, 102, 0), (7, 100, 1000), (6, 101, 6), (5, 100, 6), (4, 100, 6), (3, 2, 19), (2, 102, 1000), (1, 7, 12)] ([(3, 10, 0), (3, 3, 0), (3, 2, 0), (3, 1, 1), (3, 0, 2), (1, 1, 0)] : List (Nat × Nat × Int32)) 23 (18061) := by rw [e21, show (250 : Int32).toNatClampNeg = 250 from by decide +kernel]; exact c20.mnw 100 250
  clear e21
  refine W_t (c21.k (a := 1) (c := 7) (n := 12) (by decide)) ?_
  refine W_s fun S22 e22 => ?_
  have c22 : Cst S22 [(1, 9, 23), (1, 8, 21), (21, 0, 22), (1, 7, 19), (19, 1, 0), (19, 0, 20), (1, 6, 17), (17, 1, 0), (17, 0, 18), (1, 5, 16), (1, 4, 9), (9, 7, 14), (14, 0, 15), (9, 6, 13), (9, 5, 12), (9, 4, 11), (9, 0, 10), (1, 2, 3), (3, 11, 8), (3, 7, 7), (3, 6, 6), (3, 5, 5), (3, 4, 4), (1, 0, 2)] [(23, 100, 250), (22, 100, 3125), (21, 6, 1), (20, 100, 6250), (19, 1, 4), (18, 100, 6250), (17, 1, 4), (16, 105, 4), (15, 100, 32), (14, 3, 2), (13, 100, 10), (12, 100, 10), (11, 100, 2), (10, 100, 60), (9, 4, 8), (8, 102, 0), (7, 100, 1000), (6, 101, 6), (5, 100, 6), (4, 100, 6), (3, 2, 19), (2, 102, 1000), (1, 7, 12)] ([(3, 10, 0), (3, 3, 0), (3, 2, 0), (3, 1, 1), (3, 0, 2), (1, 1, 0)] : List (Nat × Nat × Int32)) 23 (18061) := by rw [e22, c20.z]; exact c21.mR (by decide) (by decide)
  clear e22
  refine W_t (c22.k (a := 1) (c := 7) (n := 12) (by decide)) ?_
  refine W_s fun S23 e23 => ?_
  have c23 : Cst S23 [(1, 9, 23), (1, 8, 21), (21, 0, 22), (1, 7, 19), (19, 1, 0), (19, 0, 20), (1, 6, 17), (17, 1, 0), (17, 0, 18), (1, 5, 16), (1, 4, 9), (9, 7, 14), (14, 0, 15), (9, 6, 13), (9, 5, 12), (9, 4, 11), (9, 0, 10), (1, 2, 3), (3, 11, 8), (3, 7, 7), (3, 6, 6), (3, 5, 5), (3, 4, 4), (1, 0, 2)] [(23, 100, 250), (22, 100, 3125), (21, 6, 1), (20, 100, 6250), (19, 1, 4), (18, 100, 6250), (17, 1, 4), (16, 105, 4), (15, 100, 32), (14, 3, 2), (13, 100, 10), (12, 100, 10), (11, 100, 2), (10, 100, 60), (9, 4, 8), (8, 102, 0), (7, 100, 1000), (6, 101, 6), (5, 100, 6), (4, 100, 6), (3, 2, 19), (2, 102, 1000), (1, 7, 12)] ([(3, 10, 0), (3, 3, 0), (3, 2, 0), (3, 1, 1), (3, 0, 2), (1, 1, 0)] : List (Nat × Nat × Int32)) 23 (18061) := by rw [e23]; exact c22.mI (by decide)
  clear e23
  refine W_t (by decide) ?_
  refine W_s fun S24 e24 => ?_
  have c24 : Cst S24 [(1, 9, 23), (1, 8, 21), (21, 0, 22), (1, 7, 19), (19, 1, 0), (19, 0, 20), (1, 6, 17), (17, 1, 0), (17, 0, 18), (1, 5, 16), (1, 4, 9), (9, 7, 14), (14, 0, 15), (9, 6, 13), (9, 5, 12), (9, 4, 11), (9, 0, 10), (1, 2, 3), (3, 11, 8), (3, 7, 7), (3, 6, 6), (3, 5, 5), (3, 4, 4), (1, 0, 2)] [(24, 100, 250), (23, 100, 250), (22, 100, 3125), (21, 6, 1), (20, 100, 6250), (19, 1, 4), (18, 100, 6250), (17, 1, 4), (16, 105, 4), (15, 100, 32), (14, 3, 2), (13, 100, 10), (12, 100, 10), (11, 100, 2), (10, 100, 60), (9, 4, 8), (8, 102, 0), (7, 100, 1000), (6, 101, 6), (5, 100, 6), (4, 100, 6), (3, 2, 19), (2, 102, 1000), (1, 7, 12)] ([(3, 10, 0), (3, 3, 0), (3, 2, 0), (3, 1, 1), (3, 0, 2), (1, 1, 0)] : List (Nat × Nat × Int32)) 24 (18311) := by rw [e24, show (250 : Int32).toNatClampNeg = 250 from by decide +kernel]; exact c23.mnw 100 250
  clear e24
  refine W_t (c24.k (a := 1) (c := 7) (n := 12) (by decide)) ?_
  refine W_s fun S25 e25 => ?_
  have c25 : Cst S25 [(1, 11, 24), (1, 9, 23), (1, 8, 21), (21, 0, 22), (1, 7, 19), (19, 1, 0), (19, 0, 20), (1, 6, 17), (17, 1, 0), (17, 0, 18), (1, 5, 16), (1, 4, 9), (9, 7, 14), (14, 0, 15), (9, 6, 13), (9, 5, 12), (9, 4, 11), (9, 0, 10), (1, 2, 3), (3, 11, 8), (3, 7, 7), (3, 6, 6), (3, 5, 5), (3, 4, 4), (1, 0, 2)] [(24, 100, 250), (23, 100, 250), (22, 100, 3125), (21, 6, 1), (20, 100, 6250), (19, 1, 4), (18, 100, 6250), (17, 1, 4), (16, 105, 4), (15, 100, 32), (14, 3, 2), (13, 100, 10), (12, 100, 10), (11, 100, 2), (10, 100, 60), (9, 4, 8), (8, 102, 0), (7, 100, 1000), (6, 101, 6), (5, 100, 6), (4, 100, 6), (3, 2, 19), (2, 102, 1000), (1, 7, 12)] ([(3, 10, 0), (3, 3, 0), (3, 2, 0), (3, 1, 1), (3, 0, 2), (1, 1, 0)] : List (Nat × Nat × Int32)) 24 (18311) := by rw [e25, c23.z]; exact c24.mR (by decide) (by decide)
  clear e25
  refine W_t (c25.k (a := 1) (c := 7) (n := 12) (by decide)) ?_
  rw [c25.r (a := 1) (k := 2) (v := 3) (by decide)]
  refine W_t (c25.k (a := 3) (c := 2) (n := 19) (by decide)) ?_
  have hr : RdH S25 2 1 ls0 := rdh0 c25
  refine W_Re (f19 (d := d + 1) hr c25.v (by rw [c25.z]; decide)) ?_
  intro x SA ⟨hx, ⟨zA, uA⟩, fA, vA, tA, cA, iA, r4, r5, r6, r8⟩
  rw [c25.z] at hx zA r4 r5 r6 r8
  rw [c25.u] at uA
  have hcand := candL_250 (tdL 2 1 ls0) (okT_td okLn_0 (by decide) (by decide)).1
  have hit : (itL ls0).length = 1 := rfl
  obtain ⟨U, hU⟩ : ∃ U, gU SA = U + 0 := ⟨_, rfl⟩
  have hx25 : x = 25 := hx
  subst hx25
  clear hx
  have c26 : Cst SA [(1, 11, 24), (1, 9, 23), (1, 8, 21), (21, 0, 22), (1, 7, 19), (19, 1, 0), (19, 0, 20), (1, 6, 17), (17, 1, 0), (17, 0, 18), (1, 5, 16), (1, 4, 9), (9, 7, 14), (14, 0, 15), (9, 6, 13), (9, 5, 12), (9, 4, 11), (9, 0, 10), (1, 2, 3), (3, 11, 8), (3, 7, 7), (3, 6, 6), (3, 5, 5), (3, 4, 4), (1, 0, 2)] [(24, 100, 250), (23, 100, 250), (22, 100, 3125), (21, 6, 1), (20, 100, 6250), (19, 1, 4), (18, 100, 6250), (17, 1, 4), (16, 105, 4), (15, 100, 32), (14, 3, 2), (13, 100, 10), (12, 100, 10), (11, 100, 2), (10, 100, 60), (9, 4, 8), (8, 102, 0), (7, 100, 1000), (6, 101, 6), (5, 100, 6), (4, 100, 6), (3, 2, 19), (2, 102, 1000), (1, 7, 12)] ([(3, 10, 0), (3, 3, 0), (3, 2, 0), (3, 1, 1), (3, 0, 2), (1, 1, 0)] : List (Nat × Nat × Int32)) 30 (U + 0) := c25.fx fA vA zA hU (by decide) (fun _ _ z => z) (fun _ _ z => z)
  have dy : ∀ n, 25 ≤ n → n ≤ 30 → dyn n := fun n h1 h2 => Or.inl ⟨h1, h2⟩
  have tfA : TF SA 25 (tdL 2 1 ls0) (fnL ls0) := ⟨tA, ⟨itL ls0, cA, fnL_ev okLn_0⟩, iA, dy _ (by decide) (by decide), by rw [r4]; exact dy _ (by decide) (by decide), by rw [r5]; exact dy _ (by decide) (by decide), by rw [r6]; exact dy _ (by decide) (by decide), by rw [r8]; exact dy _ (by decide) (by decide)⟩
  refine W_t (c26.k (a := 1) (c := 7) (n := 12) (by decide)) ?_
  refine W_s fun S27 e27 => ?_
  have c27 : Cst S27 [(1, 3, 25), (1, 11, 24), (1, 9, 23), (1, 8, 21), (21, 0, 22), (1, 7, 19), (19, 1, 0), (19, 0, 20), (1, 6, 17), (17, 1, 0), (17, 0, 18), (1, 5, 16), (1, 4, 9), (9, 7, 14), (14, 0, 15), (9, 6, 13), (9, 5, 12), (9, 4, 11), (9, 0, 10), (1, 2, 3), (3, 11, 8), (3, 7, 7), (3, 6, 6), (3, 5, 5), (3, 4, 4), (1, 0, 2)] [(24, 100, 250), (23, 100, 250), (22, 100, 3125), (21, 6, 1), (20, 100, 6250), (19, 1, 4), (18, 100, 6250), (17, 1, 4), (16, 105, 4), (15, 100, 32), (14, 3, 2), (13, 100, 10), (12, 100, 10), (11, 100, 2), (10, 100, 60), (9, 4, 8), (8, 102, 0), (7, 100, 1000), (6, 101, 6), (5, 100, 6), (4, 100, 6), (3, 2, 19), (2, 102, 1000), (1, 7, 12)] ([(3, 10, 0), (3, 3, 0), (3, 2, 0), (3, 1, 1), (3, 0, 2), (1, 1, 0)] : List (Nat × Nat × Int32)) 30 (U + 0) := by rw [e27]; exact c26.mR (by decide) (by decide)
  have tf27 : TF S27 25 (tdL 2 1 ls0) (fnL ls0) := tfA.fq (P := fun a k => a = 1 ∧ k = 3) (by rw [e27]; exact Fq.pR ⟨rfl, rfl⟩) (fun a k z y => by unfold dyn at y; omega)
  clear e27
  refine W_t (c27.k (a := 1) (c := 7) (n := 12) (by decide)) ?_
  rw [c27.r (a := 1) (k := 4) (v := 9) (by decide)]
  refine W_t (c27.k (a := 9) (c := 4) (n := 8) (by decide)) ?_
  refine W_Ve (f51c (d := d + 5) (shs c27)) ?_
  intro S28 ⟨f28, s28, _⟩
  have c28 : Cst S28 [(1, 3, 25), (1, 11, 24), (1, 9, 23), (1, 8, 21), (21, 0, 22), (1, 7, 19), (19, 1, 0), (19, 0, 20), (1, 6, 17), (17, 1, 0), (17, 0, 18), (1, 5, 16), (1, 4, 9), (9, 7, 14), (14, 0, 15), (9, 6, 13), (9, 5, 12), (9, 4, 11), (9, 0, 10), (1, 2, 3), (3, 11, 8), (3, 7, 7), (3, 6, 6), (3, 5, 5), (3, 4, 4), (1, 0, 2)] [(24, 100, 250), (23, 100, 250), (22, 100, 3125), (21, 6, 1), (20, 100, 6250), (19, 1, 4), (18, 100, 6250), (17, 1, 4), (16, 105, 4), (15, 100, 32), (14, 3, 2), (13, 100, 10), (12, 100, 10), (11, 100, 2), (10, 100, 60), (9, 4, 8), (8, 102, 0), (7, 100, 1000), (6, 101, 6), (5, 100, 6), (4, 100, 6), (3, 2, 19), (2, 102, 1000), (1, 7, 12)] ([(3, 10, 0), (3, 3, 0), (3, 2, 0), (3, 1, 1), (3, 0, 2), (1, 1, 0)] : List (Nat × Nat × Int32)) 30 (U + 0) := c27.fr f28 (by decide)
  have tf28 : TF S28 25 (tdL 2 1 ls0) (fnL ls0) := tf27.fr f28 (fun a k z y => by unfold dyn at y; have z : 9 ≤ a ∧ a ≤ 15 := z; omega)
  show WP _ _ _
  refine w86_1 ?_
  refine W_t (c28.k (a := 1) (c := 7) (n := 12) (by decide)) ?_
  rw [c28.r (a := 1) (k := 5) (v := 16) (by decide)]
  refine W_t (by rw [c28.k (a := 16) (c := 105) (n := 4) (by decide)]; decide) ?_
  refine W_t (by rw [c28.n (a := 16) (c := 105) (n := 4) (by decide)]; decide) ?_
  refine W_t (c28.k (a := 1) (c := 7) (n := 12) (by decide)) ?_
  refine W_s fun S29 e29 => ?_
  have h29 : FX MkF S28 S29 := by rw [e29]; exact FX.nw _ _
  have c29 : Cst S29 [(1, 3, 25), (1, 11, 24), (1, 9, 23), (1, 8, 21), (21, 0, 22), (1, 7, 19), (19, 1, 0), (19, 0, 20), (1, 6, 17), (17, 1, 0), (17, 0, 18), (1, 5, 16), (1, 4, 9), (9, 7, 14), (14, 0, 15), (9, 6, 13), (9, 5, 12), (9, 4, 11), (9, 0, 10), (1, 2, 3), (3, 11, 8), (3, 7, 7), (3, 6, 6), (3, 5, 5), (3, 4, 4), (1, 0, 2)] [(31, 0, 3), (24, 100, 250), (23, 100, 250), (22, 100, 3125), (21, 6, 1), (20, 100, 6250), (19, 1, 4), (18, 100, 6250), (17, 1, 4), (16, 105, 4), (15, 100, 32), (14, 3, 2), (13, 100, 10), (12, 100, 10), (11, 100, 2), (10, 100, 60), (9, 4, 8), (8, 102, 0), (7, 100, 1000), (6, 101, 6), (5, 100, 6), (4, 100, 6), (3, 2, 19), (2, 102, 1000), (1, 7, 12)] ([(3, 10, 0), (3, 3, 0), (3, 2, 0), (3, 1, 1), (3, 0, 2), (1, 1, 0)] : List (Nat × Nat × Int32)) 31 (U + 3) := by rw [e29]; exact c28.mnw 0 3
  clear e29
  refine W_f (by rw [c28.z]; decide) ?_
  rw [c28.z]
  refine W_Ve (f6_0 (d := d + 5) c29) ?_
  intro S30 ⟨c30, h30⟩
  refine W_t (⟨c30.k (a := 16) (c := 105) (n := 4) (by decide), by rw [c30.n (a := 16) (c := 105) (n := 4) (by decide)]; exact inB_n (n := 0) (by decide) (by decide), c30.k (a := 31) (c := 0) (n := 3) (by decide)⟩) ?_
  refine W_s fun S31 e31 => ?_
  have h31 : FX MkF S30 S31 := by rw [e31]; exact FX.pR (fun _ => by decide)
  have c31 : Cst S31 [(16, 0, 31), (31, 1, 32), (31, 0, 0), (1, 3, 25), (1, 11, 24), (1, 9, 23), (1, 8, 21), (21, 0, 22), (1, 7, 19), (19, 1, 0), (19, 0, 20), (1, 6, 17), (17, 1, 0), (17, 0, 18), (1, 5, 16), (1, 4, 9), (9, 7, 14), (14, 0, 15), (9, 6, 13), (9, 5, 12), (9, 4, 11), (9, 0, 10), (1, 2, 3), (3, 11, 8), (3, 7, 7), (3, 6, 6), (3, 5, 5), (3, 4, 4), (1, 0, 2)] [(32, 100, 60), (31, 0, 3), (24, 100, 250), (23, 100, 250), (22, 100, 3125), (21, 6, 1), (20, 100, 6250), (19, 1, 4), (18, 100, 6250), (17, 1, 4), (16, 105, 4), (15, 100, 32), (14, 3, 2), (13, 100, 10), (12, 100, 10), (11, 100, 2), (10, 100, 60), (9, 4, 8), (8, 102, 0), (7, 100, 1000), (6, 101, 6), (5, 100, 6), (4, 100, 6), (3, 2, 19), (2, 102, 1000), (1, 7, 12)] ([(3, 10, 0), (3, 3, 0), (3, 2, 0), (3, 1, 1), (3, 0, 2), (1, 1, 0)] : List (Nat × Nat × Int32)) 32 (U + 63) := by rw [e31, show (0 : Int32).toNatClampNeg = 0 from by decide +kernel]; exact c30.mR (by decide) (by decide)
  clear e31
  have g31 : FX MkF S28 S31 := (h29.tr h30).tr h31
  have tf31 : TF S31 25 (tdL 2 1 ls0) (fnL ls0) := tf28.fx c28.v g31 mkF_d
  have s31 : SiteP S31 pos0 := s28.fx g31 (by rw [c28.z]; decide) mkF_s
  show WP _ _ _
  rw [show (0 : Int32) + 1 = 1 from by decide]
  refine w86_1 ?_
  refine W_t (c31.k (a := 1) (c := 7) (n := 12) (by decide)) ?_
  rw [c31.r (a := 1) (k := 5) (v := 16) (by decide)]
  refine W_t (by rw [c31.k (a := 16) (c := 105) (n := 4) (by decide)]; decide) ?_
  refine W_t (by rw [c31.n (a := 16) (c := 105) (n := 4) (by decide)]; decide) ?_
  refine W_t (c31.k (a := 1) (c := 7) (n := 12) (by decide)) ?_
  refine W_s fun S32 e32 => ?_
  have h32 : FX MkF S31 S32 := by rw [e32]; exact FX.nw _ _
  have c32 : Cst S32 [(16, 0, 31), (31, 1, 32), (31, 0, 0), (1, 3, 25), (1, 11, 24), (1, 9, 23), (1, 8, 21), (21, 0, 22), (1, 7, 19), (19, 1, 0), (19, 0, 20), (1, 6, 17), (17, 1, 0), (17, 0, 18), (1, 5, 16), (1, 4, 9), (9, 7, 14), (14, 0, 15), (9, 6, 13), (9, 5, 12), (9, 4, 11), (9, 0, 10), (1, 2, 3), (3, 11, 8), (3, 7, 7), (3, 6, 6), (3, 5, 5), (3, 4, 4), (1, 0, 2)] [(33, 0, 3), (32, 100, 60), (31, 0, 3), (24, 100, 250), (23, 100, 250), (22, 100, 3125), (21, 6, 1), (20, 100, 6250), (19, 1, 4), (18, 100, 6250), (17, 1, 4), (16, 105, 4), (15, 100, 32), (14, 3, 2), (13, 100, 10), (12, 100, 10), (11, 100, 2), (10, 100, 60), (9, 4, 8), (8, 102, 0), (7, 100, 1000), (6, 101, 6), (5, 100, 6), (4, 100, 6), (3, 2, 19), (2, 102, 1000), (1, 7, 12)] ([(3, 10, 0), (3, 3, 0), (3, 2, 0), (3, 1, 1), (3, 0, 2), (1, 1, 0)] : List (Nat × Nat × Int32)) 33 (U + 66) := by rw [e32]; exact c31.mnw 0 3
  clear e32
  refine W_f (by rw [c31.z]; decide) ?_
  rw [c31.z]
  refine W_Ve (f6_1 (d := d + 5) c32) ?_
  intro S33 ⟨c33, h33⟩
  refine W_t (⟨c33.k (a := 16) (c := 105) (n := 4) (by decide), by rw [c33.n (a := 16) (c := 105) (n := 4) (by decide)]; exact inB_n (n := 1) (by decide) (by decide), c33.k (a := 33) (c := 0) (n := 3) (by decide)⟩) ?_
  refine W_s fun S34 e34 => ?_
  have h34 : FX MkF S33 S34 := by rw [e34]; exact FX.pR (fun _ => by decide)
  have c34 : Cst S34 [(16, 1, 33), (33, 1, 34), (33, 0, 0), (16, 0, 31), (31, 1, 32), (31, 0, 0), (1, 3, 25), (1, 11, 24), (1, 9, 23), (1, 8, 21), (21, 0, 22), (1, 7, 19), (19, 1, 0), (19, 0, 20), (1, 6, 17), (17, 1, 0), (17, 0, 18), (1, 5, 16), (1, 4, 9), (9, 7, 14), (14, 0, 15), (9, 6, 13), (9, 5, 12), (9, 4, 11), (9, 0, 10), (1, 2, 3), (3, 11, 8), (3, 7, 7), (3, 6, 6), (3, 5, 5), (3, 4, 4), (1, 0, 2)] [(34, 100, 60), (33, 0, 3), (32, 100, 60), (31, 0, 3), (24, 100, 250), (23, 100, 250), (22, 100, 3125), (21, 6, 1), (20, 100, 6250), (19, 1, 4), (18, 100, 6250), (17, 1, 4), (16, 105, 4), (15, 100, 32), (14, 3, 2), (13, 100, 10), (12, 100, 10), (11, 100, 2), (10, 100, 60), (9, 4, 8), (8, 102, 0), (7, 100, 1000), (6, 101, 6), (5, 100, 6), (4, 100, 6), (3, 2, 19), (2, 102, 1000), (1, 7, 12)] ([(3, 10, 0), (3, 3, 0), (3, 2, 0), (3, 1, 1), (3, 0, 2), (1, 1, 0)] : List (Nat × Nat × Int32)) 34 (U + 126) := by rw [e34, show (1 : Int32).toNatClampNeg = 1 from by decide +kernel]; exact c33.mR (by decide) (by decide)
  clear e34
  have g34 : FX MkF S31 S34 := (h32.tr h33).tr h34
  have tf34 : TF S34 25 (tdL 2 1 ls0) (fnL ls0) := tf31.fx c31.v g34 mkF_d
  have s34 : SiteP S34 pos0 := s31.fx g34 (by rw [c31.z]; decide) mkF_s
  show WP _ _ _
  rw [show (1 : Int32) + 1 = 2 from by decide]
  refine w86_1 ?_
  refine W_t (c34.k (a := 1) (c := 7) (n := 12) (by decide)) ?_
  rw [c34.r (a := 1) (k := 5) (v := 16) (by decide)]
  refine W_t (by rw [c34.k (a := 16) (c := 105) (n := 4) (by decide)]; decide) ?_
  refine W_t (by rw [c34.n (a := 16) (c := 105) (n := 4) (by decide)]; decide) ?_
  refine W_t (c34.k (a := 1) (c := 7) (n := 12) (by decide)) ?_
  refine W_s fun S35 e35 => ?_
  have h35 : FX MkF S34 S35 := by rw [e35]; exact FX.nw _ _
  have c35 : Cst S35 [(16, 1, 33), (33, 1, 34), (33, 0, 0), (16, 0, 31), (31, 1, 32), (31, 0, 0), (1, 3, 25), (1, 11, 24), (1, 9, 23), (1, 8, 21), (21, 0, 22), (1, 7, 19), (19, 1, 0), (19, 0, 20), (1, 6, 17), (17, 1, 0), (17, 0, 18), (1, 5, 16), (1, 4, 9), (9, 7, 14), (14, 0, 15), (9, 6, 13), (9, 5, 12), (9, 4, 11), (9, 0, 10), (1, 2, 3), (3, 11, 8), (3, 7, 7), (3, 6, 6), (3, 5, 5), (3, 4, 4), (1, 0, 2)] [(35, 0, 3), (34, 100, 60), (33, 0, 3), (32, 100, 60), (31, 0, 3), (24, 100, 250), (23, 100, 250), (22, 100, 3125), (21, 6, 1), (20, 100, 6250), (19, 1, 4), (18, 100, 6250), (17, 1, 4), (16, 105, 4), (15, 100, 32), (14, 3, 2), (13, 100, 10), (12, 100, 10), (11, 100, 2), (10, 100, 60), (9, 4, 8), (8, 102, 0), (7, 100, 1000), (6, 101, 6), (5, 100, 6), (4, 100, 6), (3, 2, 19), (2, 102, 1000), (1, 7, 12)] ([(3, 10, 0), (3, 3, 0), (3, 2, 0), (3, 1, 1), (3, 0, 2), (1, 1, 0)] : List (Nat × Nat × Int32)) 35 (U + 129) := by rw [e35]; exact c34.mnw 0 3
  clear e35
  refine W_f (by rw [c34.z]; decide) ?_
  rw [c34.z]
  refine W_Ve (f6_2 (d := d + 5) c35) ?_
  intro S36 ⟨c36, h36⟩
  refine W_t (⟨c36.k (a := 16) (c := 105) (n := 4) (by decide), by rw [c36.n (a := 16) (c := 105) (n := 4) (by decide)]; exact inB_n (n := 2) (by decide) (by decide), c36.k (a := 35) (c := 0) (n := 3) (by decide)⟩) ?_
  refine W_s fun S37 e37 => ?_
  have h37 : FX MkF S36 S37 := by rw [e37]; exact FX.pR (fun _ => by decide)
  have c37 : Cst S37 [(16, 2, 35), (35, 1, 36), (35, 0, 0), (16, 1, 33), (33, 1, 34), (33, 0, 0), (16, 0, 31), (31, 1, 32), (31, 0, 0), (1, 3, 25), (1, 11, 24), (1, 9, 23), (1, 8, 21), (21, 0, 22), (1, 7, 19), (19, 1, 0), (19, 0, 20), (1, 6, 17), (17, 1, 0), (17, 0, 18), (1, 5, 16), (1, 4, 9), (9, 7, 14), (14, 0, 15), (9, 6, 13), (9, 5, 12), (9, 4, 11), (9, 0, 10), (1, 2, 3), (3, 11, 8), (3, 7, 7), (3, 6, 6), (3, 5, 5), (3, 4, 4), (1, 0, 2)] [(36, 100, 60), (35, 0, 3), (34, 100, 60), (33, 0, 3), (32, 100, 60), (31, 0, 3), (24, 100, 250), (23, 100, 250), (22, 100, 3125), (21, 6, 1), (20, 100, 6250), (19, 1, 4), (18, 100, 6250), (17, 1, 4), (16, 105, 4), (15, 100, 32), (14, 3, 2), (13, 100, 10), (12, 100, 10), (11, 100, 2), (10, 100, 60), (9, 4, 8), (8, 102, 0), (7, 100, 1000), (6, 101, 6), (5, 100, 6), (4, 100, 6), (3, 2, 19), (2, 102, 1000), (1, 7, 12)] ([(3, 10, 0), (3, 3, 0), (3, 2, 0), (3, 1, 1), (3, 0, 2), (1, 1, 0)] : List (Nat × Nat × Int32)) 36 (U + 189) := by rw [e37, show (2 : Int32).toNatClampNeg = 2 from by decide +kernel]; exact c36.mR (by decide) (by decide)
  clear e37
  have g37 : FX MkF S34 S37 := (h35.tr h36).tr h37
  have tf37 : TF S37 25 (tdL 2 1 ls0) (fnL ls0) := tf34.fx c34.v g37 mkF_d
  have s37 : SiteP S37 pos0 := s34.fx g37 (by rw [c34.z]; decide) mkF_s
  show WP _ _ _
  rw [show (2 : Int32) + 1 = 3 from by decide]
  refine w86_1 ?_
  refine W_t (c37.k (a := 1) (c := 7) (n := 12) (by decide)) ?_
  rw [c37.r (a := 1) (k := 5) (v := 16) (by decide)]
  refine W_t (by rw [c37.k (a := 16) (c := 105) (n := 4) (by decide)]; decide) ?_
  refine W_t (by rw [c37.n (a := 16) (c := 105) (n := 4) (by decide)]; decide) ?_
  refine W_t (c37.k (a := 1) (c := 7) (n := 12) (by decide)) ?_
  refine W_s fun S38 e38 => ?_
  have h38 : FX MkF S37 S38 := by rw [e38]; exact FX.nw _ _
  have c38 : Cst S38 [(16, 2, 35), (35, 1, 36), (35, 0, 0), (16, 1, 33), (33, 1, 34), (33, 0, 0), (16, 0, 31), (31, 1, 32), (31, 0, 0), (1, 3, 25), (1, 11, 24), (1, 9, 23), (1, 8, 21), (21, 0, 22), (1, 7, 19), (19, 1, 0), (19, 0, 20), (1, 6, 17), (17, 1, 0), (17, 0, 18), (1, 5, 16), (1, 4, 9), (9, 7, 14), (14, 0, 15), (9, 6, 13), (9, 5, 12), (9, 4, 11), (9, 0, 10), (1, 2, 3), (3, 11, 8), (3, 7, 7), (3, 6, 6), (3, 5, 5), (3, 4, 4), (1, 0, 2)] [(37, 0, 3), (36, 100, 60), (35, 0, 3), (34, 100, 60), (33, 0, 3), (32, 100, 60), (31, 0, 3), (24, 100, 250), (23, 100, 250), (22, 100, 3125), (21, 6, 1), (20, 100, 6250), (19, 1, 4), (18, 100, 6250), (17, 1, 4), (16, 105, 4), (15, 100, 32), (14, 3, 2), (13, 100, 10), (12, 100, 10), (11, 100, 2), (10, 100, 60), (9, 4, 8), (8, 102, 0), (7, 100, 1000), (6, 101, 6), (5, 100, 6), (4, 100, 6), (3, 2, 19), (2, 102, 1000), (1, 7, 12)] ([(3, 10, 0), (3, 3, 0), (3, 2, 0), (3, 1, 1), (3, 0, 2), (1, 1, 0)] : List (Nat × Nat × Int32)) 37 (U + 192) := by rw [e38]; exact c37.mnw 0 3
  clear e38
  refine W_f (by rw [c37.z]; decide) ?_
  rw [c37.z]
  refine W_Ve (f6_3 (d := d + 5) c38) ?_
  intro S39 ⟨c39, h39⟩
  refine W_t (⟨c39.k (a := 16) (c := 105) (n := 4) (by decide), by rw [c39.n (a := 16) (c := 105) (n := 4) (by decide)]; exact inB_n (n := 3) (by decide) (by decide), c39.k (a := 37) (c := 0) (n := 3) (by decide)⟩) ?_
  refine W_s fun S40 e40 => ?_
  have h40 : FX MkF S39 S40 := by rw [e40]; exact FX.pR (fun _ => by decide)
  have c40 : Cst S40 [(16, 3, 37), (37, 1, 38), (37, 0, 0), (16, 2, 35), (35, 1, 36), (35, 0, 0), (16, 1, 33), (33, 1, 34), (33, 0, 0), (16, 0, 31), (31, 1, 32), (31, 0, 0), (1, 3, 25), (1, 11, 24), (1, 9, 23), (1, 8, 21), (21, 0, 22), (1, 7, 19), (19, 1, 0), (19, 0, 20), (1, 6, 17), (17, 1, 0), (17, 0, 18), (1, 5, 16), (1, 4, 9), (9, 7, 14), (14, 0, 15), (9, 6, 13), (9, 5, 12), (9, 4, 11), (9, 0, 10), (1, 2, 3), (3, 11, 8), (3, 7, 7), (3, 6, 6), (3, 5, 5), (3, 4, 4), (1, 0, 2)] [(38, 100, 60), (37, 0, 3), (36, 100, 60), (35, 0, 3), (34, 100, 60), (33, 0, 3), (32, 100, 60), (31, 0, 3), (24, 100, 250), (23, 100, 250), (22, 100, 3125), (21, 6, 1), (20, 100, 6250), (19, 1, 4), (18, 100, 6250), (17, 1, 4), (16, 105, 4), (15, 100, 32), (14, 3, 2), (13, 100, 10), (12, 100, 10), (11, 100, 2), (10, 100, 60), (9, 4, 8), (8, 102, 0), (7, 100, 1000), (6, 101, 6), (5, 100, 6), (4, 100, 6), (3, 2, 19), (2, 102, 1000), (1, 7, 12)] ([(3, 10, 0), (3, 3, 0), (3, 2, 0), (3, 1, 1), (3, 0, 2), (1, 1, 0)] : List (Nat × Nat × Int32)) 38 (U + 252) := by rw [e40, show (3 : Int32).toNatClampNeg = 3 from by decide +kernel]; exact c39.mR (by decide) (by decide)
  clear e40
  have g40 : FX MkF S37 S40 := (h38.tr h39).tr h40
  have tf40 : TF S40 25 (tdL 2 1 ls0) (fnL ls0) := tf37.fx c37.v g40 mkF_d
  have s40 : SiteP S40 pos0 := s37.fx g40 (by rw [c37.z]; decide) mkF_s
  show WP _ _ _
  rw [show (3 : Int32) + 1 = 4 from by decide]
  refine w86_1 ?_
  refine W_t (c40.k (a := 1) (c := 7) (n := 12) (by decide)) ?_
  rw [c40.r (a := 1) (k := 5) (v := 16) (by decide)]
  refine W_t (by rw [c40.k (a := 16) (c := 105) (n := 4) (by decide)]; decide) ?_
  refine W_f (by rw [c40.n (a := 16) (c := 105) (n := 4) (by decide)]; decide) ?_
  refine W_t (c40.k (a := 1) (c := 7) (n := 12) (by decide)) ?_
  have hS : ShC S40 := ⟨fun q hq => (c40.2.2.2.1 q (lrs q hq)).2, fun q hq => (c40.2.2.2.2.1 q (lks q hq)).2⟩
  have hC : CurC S40 (tdL 2 1 ls0) (fnL ls0) [] := ⟨(okT_td okLn_0 (by decide) (by decide)).2, by rw [c40.r (a := 1) (k := 3) (v := 25) (by decide)]; exact tf40, trivial, s40, fun i v hv => by cases hv⟩
  refine W_Ve (f107 (d := d) hS hC) ?_
  intro SZ ⟨fZ, dZ⟩
  have qZ : Fq LrP S40 SZ := fZ.q (fun a k z => z.elim id False.elim)
  have cZ : Cst SZ [(16, 3, 37), (37, 1, 38), (37, 0, 0), (16, 2, 35), (35, 1, 36), (35, 0, 0), (16, 1, 33), (33, 1, 34), (33, 0, 0), (16, 0, 31), (31, 1, 32), (31, 0, 0), (1, 3, 25), (1, 11, 24), (1, 9, 23), (1, 8, 21), (21, 0, 22), (1, 7, 19), (19, 1, 0), (19, 0, 20), (1, 6, 17), (17, 1, 0), (17, 0, 18), (1, 5, 16), (1, 4, 9), (9, 7, 14), (14, 0, 15), (9, 6, 13), (9, 5, 12), (9, 4, 11), (9, 0, 10), (1, 2, 3), (3, 11, 8), (3, 7, 7), (3, 6, 6), (3, 5, 5), (3, 4, 4), (1, 0, 2)] [(38, 100, 60), (37, 0, 3), (36, 100, 60), (35, 0, 3), (34, 100, 60), (33, 0, 3), (32, 100, 60), (31, 0, 3), (24, 100, 250), (23, 100, 250), (22, 100, 3125), (21, 6, 1), (20, 100, 6250), (19, 1, 4), (18, 100, 6250), (17, 1, 4), (16, 105, 4), (15, 100, 32), (14, 3, 2), (13, 100, 10), (12, 100, 10), (11, 100, 2), (10, 100, 60), (9, 4, 8), (8, 102, 0), (7, 100, 1000), (6, 101, 6), (5, 100, 6), (4, 100, 6), (3, 2, 19), (2, 102, 1000), (1, 7, 12)] ([(3, 10, 0), (3, 3, 0), (3, 2, 0), (3, 1, 1), (3, 0, 2), (1, 1, 0)] : List (Nat × Nat × Int32)) 38 (U + 252) := c40.fr fZ (by decide)
  refine ⟨⟨by rw [c0.z, cZ.z]; decide, by rw [c0.u, cZ.u]; omega⟩, rfl, cZ.z, by rw [cZ.u]; omega, hS.of fZ.2.2, cZ.v, TapeC.nil (cZ.i (a := 1) (k := 1) (v := 0) (by decide)), hC.fq qZ (by decide) (fun a k z y => by unfold dyn at y; rcases z with z | z <;> omega) (fun a k z => by rcases z with z | z <;> omega) (fun k z => by rcases z with z | z <;> omega), dZ, fun i hi => ?_, Or.inl (cZ.r (a := 17) (k := 1) (v := 0) (by decide)), Or.inl (cZ.r (a := 19) (k := 1) (v := 0) (by decide))⟩
  rcases (show i = 0 ∨ i = 1 ∨ i = 2 ∨ i = 3 by omega) with rfl | rfl | rfl | rfl
  · exact cZ.r (a := 31) (k := 0) (v := 0) (by decide)
  · exact cZ.r (a := 33) (k := 0) (v := 0) (by decide)
  · exact cZ.r (a := 35) (k := 0) (v := 0) (by decide)
  · exact cZ.r (a := 37) (k := 0) (v := 0) (by decide)
