/-! the reference's mark -/
theorem RTs.cg {S S' : St} {j : Nat} {T : TD} (h : RTs S j T) (e : ∀ a k, (41 ≤ a ∧ a ≤ 44 ∧ k = j) ∨ (45 ≤ a ∧ a ≤ 46 ∧ 6 * j ≤ k ∧ k < 6 * j + 6) → gI S' a k = gI S a k) : RTs S' j T := by
  obtain ⟨h0, h1, h2, h3, h4, h5⟩ := h
  have hN := h0.2.2.2.1
  exact ⟨h0, by rw [e _ _ (by omega)]; exact h1, by rw [e _ _ (by omega)]; exact h2, by rw [e _ _ (by omega)]; exact h3, by rw [e _ _ (by omega)]; exact h4, fun i hi => by rw [e _ _ (by omega), e _ _ (by omega)]; exact h5 i hi⟩
theorem RCs.cg {S S' : St} {j : Nat} {E : Env → Int32} (h : RCs S j E) (e : ∀ a k, (48 ≤ a ∧ a ≤ 49 ∧ k = j) ∨ (a = 50 ∧ 1000 * j ≤ k ∧ k < 1000 * j + 1000) → gI S' a k = gI S a k) : RCs S' j E := by
  obtain ⟨cs, h1, h2, h3, h4, h5⟩ := h
  refine ⟨cs, h1, by rw [e _ _ (by omega)]; exact h2, by rw [e _ _ (by omega)]; exact h3, fun i c hc => ?_, h5⟩
  have := (List.getElem?_eq_some_iff.mp hc).1
  rw [e _ _ (by omega)]
  exact h4 i c hc
theorem RT.s {S : St} {T : TD} (h : RT S T) : RTs S 0 T := by
  obtain ⟨h0, h1, h2, h3, h4, h5, h6⟩ := h
  exact ⟨h0, h1, h2, h3, h4, fun i hi => by rw [show 6 * 0 + i = i by omega]; exact ⟨h5 i hi, h6 i hi⟩⟩
theorem RTs.z {S : St} {T : TD} (h : RTs S 0 T) : RT S T := by
  obtain ⟨h0, h1, h2, h3, h4, h5⟩ := h
  exact ⟨h0, h1, h2, h3, h4, fun i hi => by have := (h5 i hi).1; rw [show 6 * 0 + i = i by omega] at this; exact this, fun i hi => by have := (h5 i hi).2; rw [show 6 * 0 + i = i by omega] at this; exact this⟩
theorem RC.s {S : St} {E : Env → Int32} (h : RC S E) : RCs S 0 E := by
  obtain ⟨cs, h1, h2, h3, h4, h5⟩ := h
  exact ⟨cs, h1, h2, by rw [h3, Nat.mul_zero, Nat.zero_add], fun i c hc => by rw [Nat.mul_zero, Nat.zero_add]; exact h4 i c hc, h5⟩
theorem RCs.z {S : St} {E : Env → Int32} (h : RCs S 0 E) : RC S E := by
  obtain ⟨cs, h1, h2, h3, h4, h5⟩ := h
  exact ⟨cs, h1, h2, by rw [h3, Nat.mul_zero, Nat.zero_add], fun i c hc => by have := h4 i c hc; rw [Nat.mul_zero, Nat.zero_add] at this; exact this, h5⟩
section REF
variable {S : St}
set_option maxRecDepth 4096 in
theorem f136 {d c n i j : Nat} (hk : gK S c = 100) (hi : n * i + n ≤ gN S c) (hj : n * j + n ≤ gN S c) (hN : gN S c < 2 ^ 31) (hne : i ≠ j) : Sp (F (d + 1) 136 [.ref c, .int (nI n), .int (nI i), .int (nI j)] S) (fun v S' => v = none ∧ Fr (fun a k => a = c ∧ n * j ≤ k ∧ k < n * j + n) nol S S' ∧ ∀ k, k < n → gI S' c (n * j + k) = gI S c (n * i + k)) := by
  have hap : ∀ k k', k < n → k' < n → n * i + k ≠ n * j + k' := fun k k' h1 h2 e => by
    have q1 : (n * i + k) / n = i := by rw [Nat.mul_add_div (by omega), Nat.div_eq_of_lt h1, Nat.add_zero]
    have q2 : (n * j + k') / n = j := by rw [Nat.mul_add_div (by omega), Nat.div_eq_of_lt h2, Nat.add_zero]
    rw [e, q2] at q1
    exact hne q1.symm
  generalize hA : n * i = a at *
  generalize hB : n * j = b at *
  refine fw136 (w136_0 ?_)
  have key : ∀ (m k : Nat) (S1 : St), m = n - k → k ≤ n → Fr (fun x k => x = c ∧ b ≤ k ∧ k < b + n) nol S S1 → (∀ l, l < k → gI S1 c (b + l) = gI S c (a + l)) → WP (P136 (F d)) (1, [.ref c, .int (nI n), .int (nI i), .int (nI j), .int (nI k)], [], S1) (fun v S' => (gZ S ≤ gZ S' ∧ gU S ≤ gU S') ∧ v = none ∧ Fr (fun x k => x = c ∧ b ≤ k ∧ k < b + n) nol S S' ∧ ∀ k, k < n → gI S' c (b + k) = gI S c (a + k)) := by
    intro m
    induction m with
    | zero =>
      intro k S1 hm hk' f1 h0
      have e : k = n := by omega
      subst e
      refine w136_1 ?_
      refine W_f (by rw [i_lt (by omega) (by omega)]; omega) ?_
      exact ⟨f1.mono, rfl, f1, h0⟩
    | succ m ih =>
      intro k S1 hm hk' f1 h0
      refine w136_1 ?_
      refine W_t (by rw [i_lt (by omega) (by omega)]; omega) ?_
      rw [pk_mul, pk_mul, hA, hB, nI_add, nI_add]
      refine W_t (⟨by rw [f1.K]; exact hk, by rw [f1.N]; exact inB_n (by omega) hN⟩) ?_
      refine W_t (⟨by rw [f1.K]; exact hk, by rw [f1.N]; exact inB_n (by omega) hN⟩) ?_
      rw [nI_clamp (by omega), nI_clamp (by omega)]
      refine W_s fun S2 e2 => ?_
      have f2 : Fr (fun x k => x = c ∧ b ≤ k ∧ k < b + n) nol S1 S2 := by rw [e2]; exact Fr.putI ⟨rfl, by omega, by omega⟩
      show WP _ _ _
      rw [nI_1]
      refine ih (k + 1) S2 (by omega) (by omega) (f1.tr f2) (fun l hl => ?_)
      rw [e2, gI_pI]
      by_cases e : l = k
      · rw [if_pos ⟨rfl, by omega⟩, e, f1.1 _ _ (fun z => hap k (a + k - b) (by omega) (by omega) (by omega))]
      · rw [if_neg (by omega)]; exact h0 l (by omega)
  exact key n 0 S (by omega) (by omega) Fr.rf (fun l hl => by omega)
abbrev LaP (j : Nat) : Nat → Nat → Prop := fun a k => (41 ≤ a ∧ a ≤ 44 ∧ k = j) ∨ (45 ≤ a ∧ a ≤ 46 ∧ 6 * j ≤ k ∧ k < 6 * j + 6) ∨ (48 ≤ a ∧ a ≤ 49 ∧ k = j) ∨ (a = 50 ∧ 1000 * j ≤ k ∧ k < 1000 * j + 1000)
set_option maxRecDepth 4096 in
/-- lays -/
theorem f137 {d i j : Nat} {T : TD} {E : Env → Int32} (hM : ShM S) (hi : i ≤ 5) (hj : j ≤ 5) (hne : i ≠ j) (hT : RTs S i T) (hC : RCs S i E) : Sp (F (d + 2) 137 [.ref 39, .int (nI i), .int (nI j)] S) (fun v S' => v = none ∧ Fr (LaP j) nol S S' ∧ RTs S' j T ∧ RCs S' j E) := by
  obtain ⟨cs, c1', c2', c3', c4', c5'⟩ := hC
  refine fw137 (w137_0 ?_)
  have c1n : (1 : Int32) = nI 1 := rfl
  have c1000 : (1000 : Int32) = nI 1000 := rfl
  simp only [hM.k39, hM.r39_10, hM.k41, hM.n41, z0c, eq_self, if_true, Nat.reduceAdd, true_and]
  rw [c1n, c6, c1000]
  refine W_Ve (f136 (d := d) (c := 41) (n := 1) hM.k41 (by rw [hM.n41]; omega) (by rw [hM.n41]; omega) (by rw [hM.n41]; decide) hne) ?_
  rintro S1 ⟨f1, g1⟩
  have hM1 := hM.fr f1
  simp only [hM1.k39, hM1.r39_11, hM1.k42, hM1.n42, z0c, eq_self, if_true, Nat.reduceAdd, true_and]
  refine W_Ve (f136 (d := d) (c := 42) (n := 1) hM1.k42 (by rw [hM1.n42]; omega) (by rw [hM1.n42]; omega) (by rw [hM1.n42]; decide) hne) ?_
  rintro S2 ⟨f2, g2⟩
  have hM2 := hM1.fr f2
  simp only [hM2.k39, hM2.r39_12, hM2.k43, hM2.n43, z0c, eq_self, if_true, Nat.reduceAdd, true_and]
  refine W_Ve (f136 (d := d) (c := 43) (n := 1) hM2.k43 (by rw [hM2.n43]; omega) (by rw [hM2.n43]; omega) (by rw [hM2.n43]; decide) hne) ?_
  rintro S3 ⟨f3, g3⟩
  have hM3 := hM2.fr f3
  simp only [hM3.k39, hM3.r39_13, hM3.k44, hM3.n44, z0c, eq_self, if_true, Nat.reduceAdd, true_and]
  refine W_Ve (f136 (d := d) (c := 44) (n := 1) hM3.k44 (by rw [hM3.n44]; omega) (by rw [hM3.n44]; omega) (by rw [hM3.n44]; decide) hne) ?_
  rintro S4 ⟨f4, g4⟩
  have hM4 := hM3.fr f4
  simp only [hM4.k39, hM4.r39_14, hM4.k45, hM4.n45, z0c, eq_self, if_true, Nat.reduceAdd, true_and]
  refine W_Ve (f136 (d := d) (c := 45) (n := 6) hM4.k45 (by rw [hM4.n45]; omega) (by rw [hM4.n45]; omega) (by rw [hM4.n45]; decide) hne) ?_
  rintro S5 ⟨f5, g5⟩
  have hM5 := hM4.fr f5
  simp only [hM5.k39, hM5.r39_15, hM5.k46, hM5.n46, z0c, eq_self, if_true, Nat.reduceAdd, true_and]
  refine W_Ve (f136 (d := d) (c := 46) (n := 6) hM5.k46 (by rw [hM5.n46]; omega) (by rw [hM5.n46]; omega) (by rw [hM5.n46]; decide) hne) ?_
  rintro S6 ⟨f6, g6⟩
  have hM6 := hM5.fr f6
  simp only [hM6.k39, hM6.r39_19, hM6.k50, hM6.n50, z0c, eq_self, if_true, Nat.reduceAdd, true_and]
  refine W_Ve (f136 (d := d) (c := 50) (n := 1000) hM6.k50 (by rw [hM6.n50]; omega) (by rw [hM6.n50]; omega) (by rw [hM6.n50]; decide) hne) ?_
  rintro S7 ⟨f7, g7⟩
  have hM7 := hM6.fr f7
  have w1 : Fr (LaP j) nol S S1 := f1.weak (fun a k z => by have z : a = 41 ∧ _ := z; exact Or.inl (by omega)) (fun a k z => z)
  have w2 : Fr (LaP j) nol S1 S2 := f2.weak (fun a k z => by have z : a = 42 ∧ _ := z; exact Or.inl (by omega)) (fun a k z => z)
  have w3 : Fr (LaP j) nol S2 S3 := f3.weak (fun a k z => by have z : a = 43 ∧ _ := z; exact Or.inl (by omega)) (fun a k z => z)
  have w4 : Fr (LaP j) nol S3 S4 := f4.weak (fun a k z => by have z : a = 44 ∧ _ := z; exact Or.inl (by omega)) (fun a k z => z)
  have w5 : Fr (LaP j) nol S4 S5 := f5.weak (fun a k z => by have z : a = 45 ∧ _ := z; exact Or.inr (Or.inl (by omega))) (fun a k z => z)
  have w6 : Fr (LaP j) nol S5 S6 := f6.weak (fun a k z => by have z : a = 46 ∧ _ := z; exact Or.inr (Or.inl (by omega))) (fun a k z => z)
  have w7 : Fr (LaP j) nol S6 S7 := f7.weak (fun a k z => Or.inr (Or.inr (Or.inr z))) (fun a k z => z)
  have wa := (((((w1.tr w2).tr w3).tr w4).tr w5).tr w6).tr w7
  have up : ∀ {P : Nat → Nat → Prop} {S S' : St}, Fr P nol S S' → ∀ a k, ¬ P a k → gI S' a k = gI S a k := fun f a k z => f.1 a k z
  -- each cell, through all
  have e41 : gI S7 41 j = gI S 41 i := by
    have := g1 0 (by omega)
    rw [show 1 * j + 0 = j by omega, show 1 * i + 0 = i by omega] at this
    rw [f7.1 _ _ (by omega), f6.1 _ _ (by omega), f5.1 _ _ (by omega), f4.1 _ _ (by omega), f3.1 _ _ (by omega), f2.1 _ _ (by omega), this]
  have e42 : gI S7 42 j = gI S 42 i := by
    have := g2 0 (by omega)
    rw [show 1 * j + 0 = j by omega, show 1 * i + 0 = i by omega] at this
    rw [f7.1 _ _ (by omega), f6.1 _ _ (by omega), f5.1 _ _ (by omega), f4.1 _ _ (by omega), f3.1 _ _ (by omega), this, f1.1 _ _ (by omega)]
  have e43 : gI S7 43 j = gI S 43 i := by
    have := g3 0 (by omega)
    rw [show 1 * j + 0 = j by omega, show 1 * i + 0 = i by omega] at this
    rw [f7.1 _ _ (by omega), f6.1 _ _ (by omega), f5.1 _ _ (by omega), f4.1 _ _ (by omega), this, f2.1 _ _ (by omega), f1.1 _ _ (by omega)]
  have e44 : gI S7 44 j = gI S 44 i := by
    have := g4 0 (by omega)
    rw [show 1 * j + 0 = j by omega, show 1 * i + 0 = i by omega] at this
    rw [f7.1 _ _ (by omega), f6.1 _ _ (by omega), f5.1 _ _ (by omega), this, f3.1 _ _ (by omega), f2.1 _ _ (by omega), f1.1 _ _ (by omega)]
  have e45 : ∀ k, k < 6 → gI S7 45 (6 * j + k) = gI S 45 (6 * i + k) := fun k hk => by
    rw [f7.1 _ _ (by omega), f6.1 _ _ (by omega), g5 k hk, f4.1 _ _ (by omega), f3.1 _ _ (by omega), f2.1 _ _ (by omega), f1.1 _ _ (by omega)]
  have e46 : ∀ k, k < 6 → gI S7 46 (6 * j + k) = gI S 46 (6 * i + k) := fun k hk => by
    rw [f7.1 _ _ (by omega), g6 k hk, f5.1 _ _ (by omega), f4.1 _ _ (by omega), f3.1 _ _ (by omega), f2.1 _ _ (by omega), f1.1 _ _ (by omega)]
  have e50 : ∀ k, k < 1000 → gI S7 50 (1000 * j + k) = gI S 50 (1000 * i + k) := fun k hk => by
    rw [g7 k hk, f6.1 _ _ (by omega), f5.1 _ _ (by omega), f4.1 _ _ (by omega), f3.1 _ _ (by omega), f2.1 _ _ (by omega), f1.1 _ _ (by omega)]
  have e48 : ∀ a k, a = 48 ∨ a = 49 → gI S7 a k = gI S a k := fun a k z => by
    rw [f7.1 _ _ (by omega), f6.1 _ _ (by omega), f5.1 _ _ (by omega), f4.1 _ _ (by omega), f3.1 _ _ (by omega), f2.1 _ _ (by omega), f1.1 _ _ (by omega)]
  simp only [hM7.k39, hM7.r39_17, hM7.k48, hM7.n48, hM7.r39_18, hM7.k49, hM7.n49, z0c, eq_self, if_true, Nat.reduceAdd, true_and]
  refine W_t (inB_n (by omega) (by decide)) ?_
  rw [nI_clamp (n := j) (by omega), pk_mul]
  refine W_s fun S8 e8 => ?_
  have w8 : Fr (LaP j) nol S7 S8 := by rw [e8]; exact Fr.putI (Or.inr (Or.inr (Or.inl (by omega))))
  have hM8 := hM7.fr w8
  simp only [hM8.k39, hM8.r39_17, hM8.k48, hM8.n48, hM8.r39_18, hM8.k49, hM8.n49, z0c, eq_self, if_true, Nat.reduceAdd, true_and]
  refine W_t (inB_n (by omega) (by decide)) ?_
  refine W_t (inB_n (by omega) (by decide)) ?_
  refine W_t (inB_n (by omega) (by decide)) ?_
  have v18 : gI S8 49 i = nI (1000 * i + cs.length) := by rw [e8, gI_pI, if_neg (by omega), e48 _ _ (Or.inr rfl)]; exact c3'
  have v17 : gI S8 48 i = nI (1000 * i) := by rw [e8, gI_pI, if_neg (by omega), e48 _ _ (Or.inl rfl)]; exact c2'
  rw [nI_clamp (n := i) (by omega), v18, v17, nI_add, pk_sub (by omega)]
  refine W_s fun S9 e9 => ?_
  have w9 : Fr (LaP j) nol S8 S9 := by rw [e9]; exact Fr.putI (Or.inr (Or.inr (Or.inl (by omega))))
  have wz := (wa.tr w8).tr w9
  have n9 : ∀ a k, ¬ (48 ≤ a ∧ a ≤ 49) → gI S9 a k = gI S7 a k := fun a k z => by rw [e9, gI_pI, if_neg (by omega), e8, gI_pI, if_neg (by omega)]
  obtain ⟨t0, t1, t2, t3, t4, t5⟩ := hT
  have hN := t0.2.2.2.1
  refine ⟨wz.mono, rfl, wz, ⟨t0, by rw [n9 _ _ (by omega), e41]; exact t1, by rw [n9 _ _ (by omega), e42]; exact t2, by rw [n9 _ _ (by omega), e43]; exact t3, by rw [n9 _ _ (by omega), e44]; exact t4, fun k hk => by rw [n9 _ _ (by omega), n9 _ _ (by omega), e45 k (by omega), e46 k (by omega)]; exact t5 k hk⟩, cs, c1', ?_, ?_, fun k c hc => ?_, c5'⟩
  · rw [e9, gI_pI, if_neg (by omega), e8, gI_pI, if_pos ⟨rfl, rfl⟩]
  · rw [e9, gI_pI, if_pos ⟨rfl, rfl⟩]
    congr 1
    omega
  · have := (List.getElem?_eq_some_iff.mp hc).1
    rw [n9 _ _ (by omega), e50 k (by omega)]
    exact c4' k c hc
end REF
section RIB
variable {S : St} {tp : List Nat} {T : TD} {E : Env → Int32} {A : List Nat} {mk : Nat → Option MkD}
/-- a mark's own cells, and what other marks hold -/
theorem MkR.cg {S S' : St} {i : Nat} {m : Option MkD} (h : MkR S i m) (e : ∀ a k, (41 ≤ a ∧ a ≤ 44 ∧ k = 2 + i) ∨ (45 ≤ a ∧ a ≤ 46 ∧ 6 * (2 + i) ≤ k ∧ k < 6 * (2 + i) + 6) ∨ (48 ≤ a ∧ a ≤ 49 ∧ k = 2 + i) ∨ (a = 50 ∧ 1000 * (2 + i) ≤ k ∧ k < 1000 * (2 + i) + 1000) ∨ (a = 70 ∧ k = i) ∨ (a = 72 ∧ k = i) ∨ (a = 71 ∧ 3904 * i ≤ k ∧ k < 3904 * i + 3904) → gI S' a k = gI S a k) : MkR S' i m := by
  cases m with
  | none => show gI S' _ _ = 0; rw [e _ _ (by omega)]; exact h
  | some q =>
    obtain ⟨h1, h2, h3, h4, h5, h6, h7⟩ := h
    have hok := lgl_ok h2.1 (okP_0 q.1) h7
    have hd60 := hok.1.day h2.1
    rw [hok.2] at hd60
    have hd60 : 0 + q.2.2.length ≤ 60 := hd60
    exact ⟨by rw [e _ _ (by omega)]; exact h1, h2.cg (fun a k z => e a k (by omega)), h3.cg (fun a k z => e a k (by omega)), h4.cg (fun k hk => e _ _ (by omega)), fun j hj => (h5 j hj).cg (fun k hk => e _ _ (by omega)), by rw [e _ _ (by omega)]; exact h6, h7⟩
abbrev MaK : Nat → Nat → Prop := fun a k => (41 ≤ a ∧ a ≤ 50) ∨ (a = 63 ∧ k < 64) ∨ a = 64 ∨ (70 ≤ a ∧ a ≤ 72) ∨ (a = 39 ∧ (k = 0 ∨ k = 38 ∨ k = 44))
theorem vbool : vp_nar .boolean (1 : Int32) = 1 := by decide +kernel
set_option maxRecDepth 4096 in
theorem f187 {d : Nat} {x1 x2 : Int32} (h : RI S tp T E A mk) : Sp (F (d + 3) 187 [.ref 39, .int x1, .int x2] S) (fun v S' => ∃ y, v = some (.int y) ∧ y = bi (mkB mk x1 x2 = true) ∧ Fr MaK nol S S' ∧ RI S' tp (mkD T E A mk x1 x2).1 (mkD T E A mk x1 x2).2.1 (mkD T E A mk x1 x2).2.2 (mkM T E A mk x1 x2)) := by
  obtain ⟨hT, hok, hday⟩ := h.1.ok
  have hd60 := hok.day hT
  rw [hday] at hd60
  refine fw187 (w187_0 ?_)
  refine W_t (h.1.1.k39) ?_
  refine W_s fun S1 e1 => ?_
  have f1 : Fr ThP nol S S1 := by rw [e1]; exact Fr.putI ⟨rfl, rfl⟩
  have n1 : Fr MaK nol S S1 := f1.weak (fun a k z => Or.inr (Or.inr (Or.inr (Or.inr ⟨z.1, Or.inl z.2⟩)))) (fun a k z => z)
  have h1 : RI S1 tp T E A mk := h.th f1 (fun a k z => ⟨z.1, Or.inl z.2⟩)
  have hM := h1.1.1
  refine W_I (f114) ?_
  refine W_if (fun q1 => ?_) (fun q1 => ?_)
  · rw [bi_0] at q1
    have hno : x1 < 0 ∨ 4 ≤ x1.toNatClampNeg := by
      by_cases z : x1 < 0
      · exact Or.inl z
      · obtain ⟨i, hi, rfl⟩ := nI_of z
        refine Or.inr ?_
        rw [nI_clamp hi]
        refine Nat.not_lt.mp fun y => q1 ⟨z, ?_⟩
        rw [c3, i_lt (by decide) hi]
        omega
    refine W_b (Or.inl rfl) ⟨n1.mono, _, rfl, ?_, n1, ?_⟩
    · unfold mkB; rw [if_pos hno]; rfl
    · have e1 : mkD T E A mk x1 x2 = (T, E, A) := if_pos (hno.elim Or.inl (fun z => Or.inr (Or.inl z)))
      have e2 : mkM T E A mk x1 x2 = mk := if_pos (hno.elim Or.inl (fun z => Or.inr (Or.inl z)))
      rw [e1, e2]
      exact h1
  rw [bi_0] at q1
  obtain ⟨g1, g2⟩ := Classical.not_not.mp q1
  obtain ⟨i, hi3, rfl⟩ := wi_n (k := 3) g1 g2 (by decide)
  have hi : i < 4 := by omega
  have hng : ¬ (nI i < 0 ∨ 4 ≤ (nI i).toNatClampNeg) := by
    rw [nI_clamp (by omega)]
    rintro (z | z)
    · exact g1 z
    · omega
  have hm := h1.1.2.2.2.2.2.2.2.1 i hi
  by_cases q2 : x2 = 0
  · -- laid
    refine W_t (q2) ?_
    have eD : mkD T E A mk (nI i) x2 = (T, E, A) := if_pos (Or.inr (Or.inr q2))
    have eM : mkM T E A mk (nI i) x2 = fun j => if j = i then some (T, E, A) else mk j := by
      unfold mkM
      rw [if_neg, nI_clamp (by omega)]
      rintro (z | z | z)
      · exact hng (Or.inl z)
      · exact hng (Or.inr z)
      · exact z q2
    have eB : mkB mk (nI i) x2 = true := by unfold mkB; rw [if_neg hng, if_pos q2]
    rw [eD, eM, eB]
    show WP _ _ _
    refine w187_1 ?_
    simp only [hM.k39, hM.r39_49, hM.k70, hM.n70, z0c, eq_self, if_true, Nat.reduceAdd, true_and]
    refine W_t (inB_n (by omega) (by decide)) ?_
    rw [nI_clamp (by omega), vbool]
    refine W_s fun S2 e2 => ?_
    have f2 : Fr MaK nol S1 S2 := by rw [e2]; exact Fr.putI (Or.inr (Or.inr (Or.inr (Or.inl (by omega)))))
    have hM2 := hM.fr f2
    have b2 : ∀ a k, a ≠ 70 → gI S2 a k = gI S1 a k := fun a k z => by rw [e2, gI_pI, if_neg (fun y => z y.1)]
    refine W_t (q2) ?_
    simp only [hM2.k39, z0c, eq_self, if_true, Nat.reduceAdd, true_and]
    rw [c2, nI_add]
    refine W_Ve (f137 (d := d) (i := 0) (j := 2 + i) (T := T) (E := E) hM2 (by omega) (by omega) (by omega) (h1.1.2.2.1.s.cg (fun a k z => b2 a k (by omega))) (h1.1.2.2.2.1.s.cg (fun a k z => b2 a k (by omega)))) ?_
    rintro S3 ⟨f3, t3, c3'⟩
    have f3' : Fr MaK nol S2 S3 := f3.weak (fun a k z => Or.inl (by omega)) (fun a k z => z)
    have hM3 := hM2.fr f3
    rw [show (3904 : Int32) = nI 3904 from rfl, pk_mul]
    show WP _ _ _
    -- the row, the rows before, the end
    have five : ∀ (m k : Nat) (S5 : St), m = 3840 - k → k ≤ 3840 → Fr (fun a k => a = 71 ∧ 3904 * i ≤ k ∧ k < 3904 * i + 3904) nol S3 S5 → (∀ j, j < 64 → gI S5 71 (3904 * i + j) = gI S3 63 j) → (∀ j, j < k → gI S5 71 (3904 * i + 64 + j) = gI S3 64 j) → WP (P187 (F (d + 2))) (5, [.ref 39, .int (nI i), .int x2, .int (nI (3904 * i)), .int (nI k)], [], S5) (fun v S' => (gZ S ≤ gZ S' ∧ gU S ≤ gU S') ∧ ∃ y, v = some (.int y) ∧ y = bi (true = true) ∧ Fr MaK nol S S' ∧ RI S' tp T E A (fun j => if j = i then some (T, E, A) else mk j)) := by
      intro m
      induction m with
      | zero =>
        intro k S5 hm5 hk f5 r5 b5
        have e : k = 3840 := by omega
        subst e
        have hM5 := hM3.fr f5
        have f5' : Fr MaK nol S3 S5 := f5.weak (fun a k z => Or.inr (Or.inr (Or.inr (Or.inl (by have z : a = 71 ∧ _ := z; omega))))) (fun a k z => z)
        refine w187_5 ?_
        refine W_f (by decide +kernel) ?_
        simp only [hM5.k39, hM5.r39_51, hM5.k72, hM5.n72, z0c, eq_self, if_true, Nat.reduceAdd, true_and]
        refine W_t (inB_n (by omega) (by decide)) ?_
        have g38 : gI S5 39 38 = nI A.length := by rw [f5.1 _ _ (by omega), f3.1 _ _ (by omega), b2 _ _ (by omega)]; exact h1.1.2.2.2.2.2.1
        rw [nI_clamp (by omega), g38]
        refine W_s fun S6 e6 => ?_
        have f6 : Fr MaK nol S5 S6 := by rw [e6]; exact Fr.putI (Or.inr (Or.inr (Or.inr (Or.inl (by omega)))))
        have fa := (((n1.tr f2).tr f3').tr f5').tr f6
        -- what did not change since S1
        have same : ∀ a k, ¬ (a = 70 ∧ k = i) → ¬ LaP (2 + i) a k → ¬ (a = 71 ∧ 3904 * i ≤ k ∧ k < 3904 * i + 3904) → ¬ (a = 72 ∧ k = i) → gI S6 a k = gI S1 a k := fun a k z1 z2 z3 z4 => by
          rw [e6, gI_pI, if_neg z4, f5.1 _ _ z3, f3.1 _ _ z2, e2, gI_pI, if_neg z1]
        have nla : ∀ {a k}, ¬ (41 ≤ a ∧ a ≤ 50) → ¬ LaP (2 + i) a k := fun z y => by rcases y with y | y | y | y <;> omega
        obtain ⟨p1, ⟨p2a, p2b, p2c⟩, p3, p4, p5, p6, p7, p8, p9⟩ := h1.1
        refine W_b (Or.inr rfl) ⟨fa.mono, _, rfl, rfl, fa, ⟨hM5.fr f6, ⟨by rw [same _ _ (by omega) (nla (by omega)) (by omega) (by omega)]; exact p2a, fun j v hv => by rw [same _ _ (by omega) (nla (by omega)) (by omega) (by omega)]; exact p2b j v hv, p2c⟩, (p3.s.cg (fun a k z => same a k (by omega) (fun y => by rcases y with y | y | y | y <;> omega) (by omega) (by omega))).z, (p4.s.cg (fun a k z => same a k (by omega) (fun y => by rcases y with y | y | y | y <;> omega) (by omega) (by omega))).z, p5.cg (fun k hk => same _ _ (by omega) (nla (by omega)) (by omega) (by omega)), by rw [same _ _ (by omega) (nla (by omega)) (by omega) (by omega)]; exact p6, fun j hj => (p7 j hj).cg (fun k hk => same _ _ (by omega) (nla (by omega)) (by omega) (by omega)), fun j hj => ?_, p9⟩, h1.2.fr (P := fun a k => (a = 70 ∧ k = i) ∨ LaP (2 + i) a k ∨ (a = 71 ∧ 3904 * i ≤ k ∧ k < 3904 * i + 3904) ∨ (a = 72 ∧ k = i)) (PL := nol) ⟨fun a k z => same a k (fun y => z (Or.inl y)) (fun y => z (Or.inr (Or.inl y))) (fun y => z (Or.inr (Or.inr (Or.inl y)))) (fun y => z (Or.inr (Or.inr (Or.inr y)))), fun a k _ => by rw [e6, gL_pI, f5.2.1 _ _ (fun z => z), f3.2.1 _ _ (fun z => z), e2, gL_pI], by rw [show S6.2.2 = S5.2.2 by rw [e6]; rfl, f5.2.2, f3.2.2, show S2.2.2 = S1.2.2 by rw [e2]; rfl]⟩ (fun a k z => by
          rcases z with z | (z | z | z | z) | z | z <;> omega)⟩
        by_cases ej : j = i
        · subst ej
          simp only [if_true]
          have k6 : ∀ a k, a ≠ 72 → gI S6 a k = gI S5 a k := fun a k z => by rw [e6, gI_pI, if_neg (fun y => z y.1)]
          refine ⟨?_, t3.cg (fun a k z => by rw [k6 _ _ (by omega), f5.1 _ _ (by omega)]), c3'.cg (fun a k z => by rw [k6 _ _ (by omega), f5.1 _ _ (by omega)]), ?_, fun l hl => ?_, by rw [e6, gI_pI, if_pos ⟨rfl, rfl⟩], p9⟩
          · rw [k6 _ _ (by omega), f5.1 _ _ (by omega), f3.1 _ _ (by omega), e2, gI_pI, if_pos ⟨rfl, rfl⟩]
          · refine p5.cg (fun k hk => ?_)
            show gI S6 71 (3904 * j + k) = gI S1 63 (0 + k)
            rw [k6 _ _ (by omega), r5 k hk, Nat.zero_add, f3.1 _ _ (nla (by omega)), b2 _ _ (by omega)]
          · have hl : l < A.length := hl
            refine (p7 l hl).cg (fun k hk => ?_)
            show gI S6 71 (3904 * j + 64 + (64 * l + k)) = gI S1 64 (64 * l + k)
            rw [k6 _ _ (by omega), b5 _ (by omega), f3.1 _ _ (nla (by omega)), b2 _ _ (by omega)]
        · simp only [if_neg ej]
          exact (p8 j hj).cg (fun a k z => same a k (by omega) (fun y => by rcases y with y | y | y | y <;> omega) (by omega) (by omega))
      | succ m ih =>
        intro k S5 hm5 hk f5 r5 b5
        have hM5 := hM3.fr f5
        refine w187_5 ?_
        refine W_t (by rw [show (3840 : Int32) = nI 3840 from rfl, i_lt (by omega) (by decide)]; omega) ?_
        simp only [hM5.k39, hM5.r39_37, hM5.k64, hM5.n64, hM5.r39_50, hM5.k71, hM5.n71, z0c, eq_self, if_true, Nat.reduceAdd, true_and]
        rw [k64, nI_add, nI_add]
        refine W_t (inB_n (by omega) (by decide)) ?_
        refine W_t (inB_n (by omega) (by decide)) ?_
        rw [nI_clamp (n := k) (by omega), nI_clamp (by omega)]
        refine W_s fun S6 e6 => ?_
        have f6 : Fr (fun a k => a = 71 ∧ 3904 * i ≤ k ∧ k < 3904 * i + 3904) nol S5 S6 := by rw [e6]; exact Fr.putI ⟨rfl, by omega, by omega⟩
        show WP _ _ _
        rw [nI_1]
        refine ih (k + 1) S6 (by omega) (by omega) (f5.tr f6) (fun j hj => by rw [e6, gI_pI, if_neg (by omega)]; exact r5 j hj) (fun j hj => ?_)
        rw [e6, gI_pI]
        by_cases e : j = k
        · rw [if_pos ⟨rfl, by omega⟩, e, f5.1 _ _ (by omega)]
        · rw [if_neg (by omega)]; exact b5 j (by omega)
    have four : ∀ (m k : Nat) (S5 : St), m = 64 - k → k ≤ 64 → Fr (fun a k => a = 71 ∧ 3904 * i ≤ k ∧ k < 3904 * i + 3904) nol S3 S5 → (∀ j, j < k → gI S5 71 (3904 * i + j) = gI S3 63 j) → WP (P187 (F (d + 2))) (4, [.ref 39, .int (nI i), .int x2, .int (nI (3904 * i)), .int (nI k)], [], S5) (fun v S' => (gZ S ≤ gZ S' ∧ gU S ≤ gU S') ∧ ∃ y, v = some (.int y) ∧ y = bi (true = true) ∧ Fr MaK nol S S' ∧ RI S' tp T E A (fun j => if j = i then some (T, E, A) else mk j)) := by
      intro m
      induction m with
      | zero =>
        intro k S5 hm5 hk f5 r5
        have e : k = 64 := by omega
        subst e
        refine w187_4 ?_
        refine W_f (by decide +kernel) ?_
        show WP _ _ _
        exact five 3840 0 S5 (by omega) (by omega) f5 r5 (fun j hj => by omega)
      | succ m ih =>
        intro k S5 hm5 hk f5 r5
        have hM5 := hM3.fr f5
        refine w187_4 ?_
        refine W_t (by rw [k64, i_lt (by omega) (by decide)]; omega) ?_
        simp only [hM5.k39, hM5.r39_36, hM5.k63, hM5.n63, hM5.r39_50, hM5.k71, hM5.n71, z0c, eq_self, if_true, Nat.reduceAdd, true_and]
        rw [nI_add]
        refine W_t (inB_n (by omega) (by decide)) ?_
        refine W_t (inB_n (by omega) (by decide)) ?_
        rw [nI_clamp (n := k) (by omega), nI_clamp (by omega)]
        refine W_s fun S6 e6 => ?_
        have f6 : Fr (fun a k => a = 71 ∧ 3904 * i ≤ k ∧ k < 3904 * i + 3904) nol S5 S6 := by rw [e6]; exact Fr.putI ⟨rfl, by omega, by omega⟩
        show WP _ _ _
        rw [nI_1]
        refine ih (k + 1) S6 (by omega) (by omega) (f5.tr f6) (fun j hj => ?_)
        rw [e6, gI_pI]
        by_cases e : j = k
        · rw [if_pos ⟨rfl, by omega⟩, e, f5.1 _ _ (by omega)]
        · rw [if_neg (by omega)]; exact r5 j (by omega)
    exact four 64 0 S3 (by omega) (by omega) Fr.rf (fun j hj => by omega)
  · -- gone back to
    refine W_f (q2) ?_
    have eM : mkM T E A mk (nI i) x2 = mk := if_pos (Or.inr (Or.inr q2))
    have hn3 : ¬ (nI i < 0 ∨ 4 ≤ (nI i).toNatClampNeg ∨ x2 = 0) := by
      rintro (z | z | z)
      · exact hng (Or.inl z)
      · exact hng (Or.inr z)
      · exact q2 z
    have eD : mkD T E A mk (nI i) x2 = match mk i with | none => (T, E, A) | some q => q := by
      unfold mkD
      rw [if_neg hn3, nI_clamp (by omega)]
      cases mk i <;> rfl
    have eB : mkB mk (nI i) x2 = (mk i).isSome := by
      unfold mkB
      rw [if_neg hng, if_neg q2, nI_clamp (by omega)]
    rw [eM, eD, eB]
    simp only [hM.k39, hM.r39_49, hM.k70, hM.n70, z0c, eq_self, if_true, Nat.reduceAdd, true_and]
    refine W_t (inB_n (by omega) (by decide)) ?_
    rw [nI_clamp (by omega)]
    cases hmk : mk i with
    | none =>
      rw [hmk] at hm
      have hm : gI S1 70 i = 0 := hm
      refine W_t (hm) ?_
      exact W_b (Or.inl rfl) ⟨n1.mono, _, rfl, rfl, n1, h1⟩
    | some q =>
      rw [hmk] at hm
      obtain ⟨m1, m2, m3, m4, m5, m6, m7⟩ := hm
      have hokq := lgl_ok m2.1 (okP_0 q.1) m7
      have hq60 := hokq.1.day m2.1
      rw [hokq.2] at hq60
      have hq60 : 0 + q.2.2.length ≤ 60 := hq60
      refine W_f (by rw [m1]; decide) ?_
      show WP _ _ _
      refine w187_1 ?_
      simp only [hM.k39, hM.r39_49, hM.k70, hM.n70, z0c, eq_self, if_true, Nat.reduceAdd, true_and]
      refine W_t (inB_n (by omega) (by decide)) ?_
      rw [nI_clamp (by omega), vbool]
      refine W_s fun S2 e2 => ?_
      have f2 : Fr MaK nol S1 S2 := by rw [e2]; exact Fr.putI (Or.inr (Or.inr (Or.inr (Or.inl (by omega)))))
      have hM2 := hM.fr f2
      have b2 : ∀ a k, gI S2 a k = gI S1 a k := fun a k => by
        rw [e2, gI_pI]
        by_cases z : a = 70 ∧ k = i
        · rw [if_pos z, z.1, z.2, m1]
        · rw [if_neg z]
      refine W_f (q2) ?_
      simp only [hM2.k39, z0c, eq_self, if_true, Nat.reduceAdd, true_and]
      rw [c2, nI_add]
      refine W_Ve (f137 (d := d) (i := 2 + i) (j := 0) (T := q.1) (E := q.2.1) hM2 (by omega) (by omega) (by omega) (m2.cg (fun a k z => b2 a k)) (m3.cg (fun a k z => b2 a k))) ?_
      rintro S3 ⟨f3, t3, c3'⟩
      have f3' : Fr MaK nol S2 S3 := f3.weak (fun a k z => Or.inl (by omega)) (fun a k z => z)
      have hM3 := hM2.fr f3
      refine W_t (⟨hM3.k39, Or.inl trivial⟩) ?_
      refine W_s fun S4 e4 => ?_
      have f4 : Fr MaK nol S3 S4 := by rw [e4]; exact Fr.putI (Or.inr (Or.inr (Or.inr (Or.inr ⟨rfl, by omega⟩))))
      have hM4 := hM3.fr f4
      rw [show (3904 : Int32) = nI 3904 from rfl, pk_mul]
      show WP _ _ _
      have v4 : ∀ a k, ¬ LaP 0 a k → ¬ (a = 39 ∧ k = 44) → gI S4 a k = gI S1 a k := fun a k z1 z2 => by rw [e4, gI_pI, if_neg z2, f3.1 _ _ z1, b2]
      have nla : ∀ {a k}, ¬ (41 ≤ a ∧ a ≤ 50) → ¬ LaP 0 a k := fun z y => by rcases y with y | y | y | y <;> omega
      have three : ∀ (m k : Nat) (S5 : St), m = 3840 - k → k ≤ 3840 → Fr (fun a k => (a = 63 ∧ k < 64) ∨ a = 64) nol S4 S5 → (∀ j, j < 64 → gI S5 63 j = gI S4 71 (3904 * i + j)) → (∀ j, j < k → gI S5 64 j = gI S4 71 (3904 * i + 64 + j)) → WP (P187 (F (d + 2))) (3, [.ref 39, .int (nI i), .int x2, .int (nI (3904 * i)), .int (nI k)], [], S5) (fun v S' => (gZ S ≤ gZ S' ∧ gU S ≤ gU S') ∧ ∃ y, v = some (.int y) ∧ y = bi ((some q).isSome = true) ∧ Fr MaK nol S S' ∧ RI S' tp q.1 q.2.1 q.2.2 mk) := by
        intro m
        induction m with
        | zero =>
          intro k S5 hm5 hk f5 r5 b5
          have e : k = 3840 := by omega
          subst e
          have hM5 := hM4.fr f5
          have f5' : Fr MaK nol S4 S5 := f5.weak (fun a k z => by rcases z with z | z; exact Or.inr (Or.inl z); exact Or.inr (Or.inr (Or.inl z))) (fun a k z => z)
          refine w187_3 ?_
          refine W_f (by decide +kernel) ?_
          simp only [hM5.k39, hM5.r39_51, hM5.k72, hM5.n72, z0c, eq_self, if_true, Nat.reduceAdd, true_and]
          refine W_t (inB_n (by omega) (by decide)) ?_
          have g72 : gI S5 72 i = nI q.2.2.length := by rw [f5.1 _ _ (by omega), v4 _ _ (nla (by omega)) (by omega)]; exact m6
          rw [nI_clamp (by omega), g72]
          refine W_s fun S6 e6 => ?_
          have f6 : Fr MaK nol S5 S6 := by rw [e6]; exact Fr.putI (Or.inr (Or.inr (Or.inr (Or.inr ⟨rfl, by omega⟩))))
          have fa := ((((n1.tr f2).tr f3').tr f4).tr f5').tr f6
          have k6 : ∀ a k, ¬ (a = 39 ∧ k = 38) → ¬ ((a = 63 ∧ k < 64) ∨ a = 64) → gI S6 a k = gI S4 a k := fun a k z1 z2 => by rw [e6, gI_pI, if_neg z1, f5.1 _ _ z2]
          obtain ⟨p1, ⟨p2a, p2b, p2c⟩, p3, p4, p5, p6, p7, p8, p9⟩ := h1.1
          refine W_b (Or.inr rfl) ⟨fa.mono, _, rfl, rfl, fa, ⟨hM5.fr f6, ⟨by rw [k6 _ _ (by omega) (by omega), v4 _ _ (nla (by omega)) (by omega)]; exact p2a, fun j v hv => by rw [k6 _ _ (by omega) (by omega), v4 _ _ (nla (by omega)) (by omega)]; exact p2b j v hv, p2c⟩, (t3.cg (fun a k z => by rw [k6 _ _ (by omega) (by omega), e4, gI_pI, if_neg (by omega)])).z, (c3'.cg (fun a k z => by rw [k6 _ _ (by omega) (by omega), e4, gI_pI, if_neg (by omega)])).z, ?_, by rw [e6, gI_pI, if_pos ⟨rfl, rfl⟩], fun l hl => ?_, fun j hj => (p8 j hj).cg (fun a k z => by rw [k6 _ _ (by omega) (by omega), v4 _ _ (fun y => by rcases y with y | y | y | y <;> omega) (by omega)]), m7⟩, Or.inl ?_⟩
          · refine m4.cg (fun k hk => ?_)
            show gI S6 63 (0 + k) = gI S1 71 (3904 * i + k)
            rw [Nat.zero_add, e6, gI_pI, if_neg (by omega), r5 k hk, v4 _ _ (nla (by omega)) (by omega)]
          · refine (m5 l hl).cg (fun k hk => ?_)
            show gI S6 64 (64 * l + k) = gI S1 71 (3904 * i + 64 + (64 * l + k))
            rw [e6, gI_pI, if_neg (by omega), b5 _ (by omega), v4 _ _ (nla (by omega)) (by omega)]
          · rw [k6 _ _ (by omega) (by omega), e4, gI_pI, if_pos ⟨rfl, rfl⟩]
        | succ m ih =>
          intro k S5 hm5 hk f5 r5 b5
          have hM5 := hM4.fr f5
          refine w187_3 ?_
          refine W_t (by rw [show (3840 : Int32) = nI 3840 from rfl, i_lt (by omega) (by decide)]; omega) ?_
          simp only [hM5.k39, hM5.r39_37, hM5.k64, hM5.n64, hM5.r39_50, hM5.k71, hM5.n71, z0c, eq_self, if_true, Nat.reduceAdd, true_and]
          rw [k64, nI_add, nI_add]
          refine W_t (inB_n (by omega) (by decide)) ?_
          refine W_t (inB_n (by omega) (by decide)) ?_
          rw [nI_clamp (n := k) (by omega), nI_clamp (by omega)]
          refine W_s fun S6 e6 => ?_
          have f6 : Fr (fun a k => (a = 63 ∧ k < 64) ∨ a = 64) nol S5 S6 := by rw [e6]; exact Fr.putI (Or.inr rfl)
          show WP _ _ _
          rw [nI_1]
          refine ih (k + 1) S6 (by omega) (by omega) (f5.tr f6) (fun j hj => by rw [e6, gI_pI, if_neg (by omega)]; exact r5 j hj) (fun j hj => ?_)
          rw [e6, gI_pI]
          by_cases e : j = k
          · rw [if_pos ⟨rfl, e⟩, e, f5.1 _ _ (by omega)]
          · rw [if_neg (fun z => e z.2)]; exact b5 j (by omega)
      have two : ∀ (m k : Nat) (S5 : St), m = 64 - k → k ≤ 64 → Fr (fun a k => (a = 63 ∧ k < 64) ∨ a = 64) nol S4 S5 → (∀ j, j < k → gI S5 63 j = gI S4 71 (3904 * i + j)) → WP (P187 (F (d + 2))) (2, [.ref 39, .int (nI i), .int x2, .int (nI (3904 * i)), .int (nI k)], [], S5) (fun v S' => (gZ S ≤ gZ S' ∧ gU S ≤ gU S') ∧ ∃ y, v = some (.int y) ∧ y = bi ((some q).isSome = true) ∧ Fr MaK nol S S' ∧ RI S' tp q.1 q.2.1 q.2.2 mk) := by
        intro m
        induction m with
        | zero =>
          intro k S5 hm5 hk f5 r5
          have e : k = 64 := by omega
          subst e
          refine w187_2 ?_
          refine W_f (by decide +kernel) ?_
          show WP _ _ _
          exact three 3840 0 S5 (by omega) (by omega) f5 r5 (fun j hj => by omega)
        | succ m ih =>
          intro k S5 hm5 hk f5 r5
          have hM5 := hM4.fr f5
          refine w187_2 ?_
          refine W_t (by rw [k64, i_lt (by omega) (by decide)]; omega) ?_
          simp only [hM5.k39, hM5.r39_36, hM5.k63, hM5.n63, hM5.r39_50, hM5.k71, hM5.n71, z0c, eq_self, if_true, Nat.reduceAdd, true_and]
          rw [nI_add]
          refine W_t (inB_n (by omega) (by decide)) ?_
          refine W_t (inB_n (by omega) (by decide)) ?_
          rw [nI_clamp (n := k) (by omega), nI_clamp (by omega)]
          refine W_s fun S6 e6 => ?_
          have f6 : Fr (fun a k => (a = 63 ∧ k < 64) ∨ a = 64) nol S5 S6 := by rw [e6]; exact Fr.putI (Or.inl ⟨rfl, by omega⟩)
          show WP _ _ _
          rw [nI_1]
          refine ih (k + 1) S6 (by omega) (by omega) (f5.tr f6) (fun j hj => ?_)
          rw [e6, gI_pI]
          by_cases e : j = k
          · rw [if_pos ⟨rfl, e⟩, e, f5.1 _ _ (by omega)]
          · rw [if_neg (fun z => e z.2)]; exact r5 j (by omega)
      exact two 64 0 S4 (by omega) (by omega) Fr.rf (fun j hj => by omega)
end RIB
