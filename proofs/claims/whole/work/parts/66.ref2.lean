/-! the reference: whether a stone stands -/
section REF
variable {S : St} {T : TD} {o w tn : Nat}
/-- whether a stone stands, as the reference goes through it; no gate below it -/
abbrev stR (T : TD) (w s c b : Nat) : Prop := if tK T s = 3 then True else if tK T s = 2 then rdS T w c (hgt w c) else ∀ j, j < b → 1 ≤ j → if tK T s = 1 ∧ j + 1 < b then hgt w (c + j) ≤ hgt w c else hgt w (c + j) = hgt w c
set_option maxRecDepth 4096 in
theorem f146_loop {d s c b : Nat} (hM : ShM S) (hR : RT S T) (hrow : RoW S o T w tn) (ho : o + 64 ≤ 2560) (hs : s < tN T) (hb : c + b ≤ 10) (hk3 : tK T s ≠ 3) (hk2 : tK T s ≠ 2) : ∀ (n j : Nat), n = b - j → 1 ≤ j → j ≤ b → (∀ i, 1 ≤ i → i < j → if tK T s = 1 ∧ i + 1 < b then hgt w (c + i) ≤ hgt w c else hgt w (c + i) = hgt w c) → ∀ z8 : Value, WP (P146 (F d)) (3, [.ref 39, .int (nI o), .int (nI s), .int (nI c), .int (nI b), .int (nI (tK T s)), .int (nI (hgt w c)), .int (nI (c + j)), z8], [], S) (fun r S' => r = some (.int (bi (stR T w s c b))) ∧ S' = S) := by
  have hi := hR.1.2.2.2.2 s hs
  have hst : stR T w s c b = ∀ j, j < b → 1 ≤ j → if tK T s = 1 ∧ j + 1 < b then hgt w (c + j) ≤ hgt w c else hgt w (c + j) = hgt w c := by
    unfold stR
    rw [if_neg hk3, if_neg hk2]
  have hh := hgt_le w c
  intro n
  induction n with
  | zero =>
    intro j hn h1 hj hall z8
    have e : j = b := by omega
    subst e
    refine w146_3 ?_
    rw [nI_add]
    refine W_f (by rw [i_lt (by omega) (by omega)]; omega) ?_
    exact W_b (Or.inr rfl) ⟨by rw [bi_t (by rw [hst]; exact fun i h1 h2 => hall i h2 h1)], rfl⟩
  | succ n ih =>
    intro j hn h1 hj hall z8
    have hhj := hgt_le w (c + j)
    have hstep : (if tK T s = 1 ∧ j + 1 < b then hgt w (c + j) ≤ hgt w c else hgt w (c + j) = hgt w c) → ∀ z8 : Int32, WP (P146 (F d)) (6, [.ref 39, .int (nI o), .int (nI s), .int (nI c), .int (nI b), .int (nI (tK T s)), .int (nI (hgt w c)), .int (nI (c + j)), .int z8], [], S) (fun r S' => r = some (.int (bi (stR T w s c b))) ∧ S' = S) := by
      intro hok z8
      refine w146_6 ?_
      show WP _ _ _
      rw [nI_1]
      refine ih (j + 1) (by omega) (by omega) (by omega) (fun i h1 h2 => ?_) _
      by_cases e : i = j
      · subst e; exact hok
      · exact hall i h1 (by omega)
    have hbad : ¬ (if tK T s = 1 ∧ j + 1 < b then hgt w (c + j) ≤ hgt w c else hgt w (c + j) = hgt w c) → bi (stR T w s c b) = 0 := fun z => by
      rw [bi_f]
      rw [hst]
      exact fun y => z (y j (by omega) h1)
    have hin : inB (nI (o + (c + j))) 2560 := inB_n (by omega) (by decide)
    have hrd := hrow.1 (c + j) (by omega)
    have two : ∀ y0 : Int32, y0 = bi (hgt w (c + j) = hgt w c) → WP (P146 (F d)) (4, [.ref 39, .int (nI o), .int (nI s), .int (nI c), .int (nI b), .int (nI (tK T s)), .int (nI (hgt w c)), .int (nI (c + j)), z8], [.int y0], S) (fun r S' => r = some (.int (bi (stR T w s c b))) ∧ S' = S) := by
      intro y0 hy
      refine w146_4 ?_
      have five : ¬ (tK T s = 1 ∧ j + 1 < b) → WP (P146 (F d)) (5, [.ref 39, .int (nI o), .int (nI s), .int (nI c), .int (nI b), .int (nI (tK T s)), .int (nI (hgt w c)), .int (nI (c + j)), .int y0], [], S) (fun r S' => r = some (.int (bi (stR T w s c b))) ∧ S' = S) := by
        intro hno
        refine w146_5 ?_
        rw [hy]
        refine W_if (fun q => ?_) (fun q => ?_)
        · rw [bi_0] at q
          exact W_b (Or.inl rfl) ⟨by rw [hbad (by rw [if_neg hno]; exact q)], rfl⟩
        · rw [bi_0] at q
          exact hstep (by rw [if_neg hno]; exact Classical.not_not.mp q) _
      refine W_if (fun q1 => ?_) (fun q1 => ?_)
      · have q1 : tK T s = 1 := (i_eq (b := 1) (by omega) (by decide)).mp q1
        rw [nI_add, c1, pk_sub (by omega)]
        refine W_if (fun q2 => ?_) (fun q2 => ?_)
        · rw [i_lt (by omega) (by omega)] at q2
          have hyes : tK T s = 1 ∧ j + 1 < b := ⟨q1, by omega⟩
          simp only [hM.k39, hM.r39_36, hM.k63, hM.n63, z0c, eq_self, if_true, Nat.reduceAdd, true_and]
          rw [nI_add]
          refine W_t (hin) ?_
          rw [nI_clamp (by omega), hrd]
          refine W_if (fun q3 => ?_) (fun q3 => ?_)
          · rw [i_lt (by omega) (by omega)] at q3
            exact W_b (Or.inl rfl) ⟨by rw [hbad (by rw [if_pos hyes]; omega)], rfl⟩
          · rw [i_lt (by omega) (by omega)] at q3
            exact hstep (by rw [if_pos hyes]; omega) _
        · rw [i_lt (by omega) (by omega)] at q2
          exact five (by omega)
      · exact five (fun z => q1 (by rw [z.1]; rfl))
    refine w146_3 ?_
    rw [nI_add]
    refine W_t (by rw [i_lt (by omega) (by omega)]; omega) ?_
    simp only [hM.k39, hM.r39_36, hM.k63, hM.n63, z0c, eq_self, if_true, Nat.reduceAdd, true_and]
    rw [nI_add]
    refine W_t (hin) ?_
    rw [nI_clamp (by omega), hrd]
    refine W_if (fun q => ?_) (fun q => ?_)
    · rw [i_eq (by omega) (by omega)] at q
      exact two 1 (bi_t q).symm
    · rw [i_eq (by omega) (by omega)] at q
      exact two 0 (bi_f q).symm
set_option maxRecDepth 4096 in
theorem f146 {d s c b : Nat} (hM : ShM S) (hR : RT S T) (hrow : RoW S o T w tn) (ho : o + 64 ≤ 2560) (hs : s < tN T) (hc : c < tW T) (hb1 : 1 ≤ b) (hb : c + b ≤ 10) : F (d + 1) 146 [.ref 39, .int (nI o), .int (nI s), .int (nI c), .int (nI b)] S = some (some (.int (bi (stR T w s c b))), S) := by
  have hN := hR.1.2.2.2.1
  have hW := hR.1.1
  have hi := hR.1.2.2.2.2 s hs
  have hh := hgt_le w c
  have hg0 := hrow.1 c (by omega)
  refine fq146 (w146_0 ?_)
  simp only [hM.k39, hM.r39_14, hM.k45, hM.n45, hM.r39_36, hM.k63, hM.n63, z0c, eq_self, if_true, Nat.reduceAdd, true_and]
  refine W_t (inB_n (by omega) (by decide)) ?_
  rw [nI_add, nI_clamp (n := s) (by omega), hR.2.2.2.2.2.1 s hs]
  refine W_t (inB_n (by omega) (by decide)) ?_
  rw [nI_clamp (by omega), hg0]
  refine W_si fun v ev => ?_
  subst ev
  refine W_if (fun q3 => ?_) (fun q3 => ?_)
  · have q3 : tK T s = 3 := (i_eq (b := 3) (by omega) (by decide)).mp q3
    exact W_b (Or.inr rfl) ⟨by rw [bi_t (by unfold stR; rw [if_pos q3]; trivial)], rfl⟩
  have q3 : ¬ tK T s = 3 := fun z => q3 (by rw [z]; rfl)
  refine W_if (fun q2 => ?_) (fun q2 => ?_)
  · have q2 : tK T s = 2 := (i_eq (b := 2) (by omega) (by decide)).mp q2
    have hst : stR T w s c b = rdS T w c (hgt w c) := by
      unfold stR
      rw [if_neg q3, if_pos q2]
    have right : (c = 0 ∨ gat w (c - 1) ≠ 0 ∨ hgt w c < hgt w (c - 1)) → ∀ z7 z8 : Value, WP (P146 (F d)) (1, [.ref 39, .int (nI o), .int (nI s), .int (nI c), .int (nI b), .int (nI (tK T s)), .int (nI (hgt w c)), z7, z8], [], S) (fun r S' => r = some (.int (bi (stR T w s c b))) ∧ S' = S) := by
      intro hl z7 z8
      have yes : (c + 1 = tW T ∨ gat w (c + 1) ≠ 0 ∨ hgt w c < hgt w (c + 1)) → WP (P146 (F d)) (2, [.ref 39, .int (nI o), .int (nI s), .int (nI c), .int (nI b), .int (nI (tK T s)), .int (nI (hgt w c)), z7, z8], [], S) (fun r S' => r = some (.int (bi (stR T w s c b))) ∧ S' = S) := by
        intro hr
        refine w146_2 ?_
        exact W_b (Or.inr rfl) ⟨by rw [bi_t (by rw [hst]; exact ⟨hl, hr⟩)], rfl⟩
      refine w146_1 ?_
      simp only [hM.k39, hM.r39_10, hM.k41, hM.n41, hM.r39_36, hM.k63, hM.n63, z0c, eq_self, if_true, Nat.reduceAdd, true_and]
      refine W_t (in0 (by decide) (by decide)) ?_
      rw [hR.2.1, nI_1]
      refine W_if (fun z1 => ?_) (fun z1 => ?_)
      · rw [i_eq (by omega) (by omega)] at z1
        exact yes (Or.inl z1)
      rw [i_eq (by omega) (by omega)] at z1
      rw [c10, nI_add, nI_add, nI_add, nI_1, nI_1]
      refine W_t (inB_n (by omega) (by decide)) ?_
      rw [nI_clamp (by omega), show o + 10 + c + 1 = o + 10 + (c + 1) by omega]
      have hg1 := hrow.gp (c := c + 1) (by omega)
      refine W_if (fun z2 => ?_) (fun z2 => ?_)
      · exact yes (Or.inr (Or.inl (hg1.mp z2)))
      refine W_t (inB_n (by omega) (by decide)) ?_
      rw [nI_clamp (by omega), show o + c + 1 = o + (c + 1) by omega, hrow.1 (c + 1) (by omega)]
      have hh1 := hgt_le w (c + 1)
      refine W_if (fun z3 => ?_) (fun z3 => ?_)
      · rw [i_lt (by omega) (by omega)] at z3
        exact yes (Or.inr (Or.inr z3))
      · rw [i_lt (by omega) (by omega)] at z3
        refine W_b (Or.inl rfl) ⟨?_, rfl⟩
        rw [bi_f]
        rw [hst]
        rintro ⟨-, y | y | y⟩
        · exact z1 y
        · exact z2 (hg1.mpr y)
        · exact z3 y
    refine W_if (fun z1 => ?_) (fun z1 => ?_)
    · have z1 : c = 0 := (i_eq (b := 0) (by omega) (by decide)).mp z1
      exact right (Or.inl z1) _ _
    have z1 : ¬ c = 0 := fun z => z1 (by rw [z]; rfl)
    rw [c10, nI_add, nI_add, c1, pk_sub (by omega), pk_sub (by omega)]
    refine W_t (inB_n (by omega) (by decide)) ?_
    rw [nI_clamp (by omega), show o + 10 + c - 1 = o + 10 + (c - 1) by omega]
    have hg1 := hrow.gp (c := c - 1) (by omega)
    refine W_if (fun z2 => ?_) (fun z2 => ?_)
    · exact right (Or.inr (Or.inl (hg1.mp z2))) _ _
    refine W_t (inB_n (by omega) (by decide)) ?_
    rw [nI_clamp (by omega), show o + c - 1 = o + (c - 1) by omega, hrow.1 (c - 1) (by omega)]
    have hh1 := hgt_le w (c - 1)
    refine W_if (fun z3 => ?_) (fun z3 => ?_)
    · rw [i_lt (by omega) (by omega)] at z3
      exact right (Or.inr (Or.inr z3)) _ _
    · rw [i_lt (by omega) (by omega)] at z3
      refine W_b (Or.inl rfl) ⟨?_, rfl⟩
      rw [bi_f]
      rw [hst]
      rintro ⟨y | y | y, -⟩
      · exact z1 y
      · exact z2 (hg1.mpr y)
      · exact z3 y
  · have q2 : ¬ tK T s = 2 := fun z => q2 (by rw [z]; rfl)
    show WP _ _ _
    rw [nI_1]
    exact f146_loop hM hR hrow ho hs (by omega) q3 q2 (b - 1) 1 rfl (by omega) (by omega) (fun i h1 h2 => by omega) .null
/-- where no gate is, the reference's stand is the class's -/
theorem stR_iff {s c b : Nat} (hT : okT T) (hs : s < tN T) (h3 : tK T s ≠ 3) (hb : 1 ≤ b) (h1b : tK T s = 1 → 2 ≤ b) (hg : ∀ j, j < b → gat w (c + j) = 0) : stR T w s c b ↔ stS T w s c b := by
  have hp : ∀ j, j < b → plc w (c + j) = hgt w (c + j) := fun j hj => plc_hgt (hg j hj)
  have hp0 : plc w c = hgt w c := hp 0 (by omega)
  unfold stR stS
  rw [if_neg h3]
  by_cases h2 : tK T s = 2
  · rw [if_pos h2, if_pos h2, hp0]
  · rw [if_neg h2, if_neg h2]
    by_cases h1 : tK T s = 1
    · rw [if_pos h1]
      have hb2 := h1b h1
      constructor
      · intro h
        refine ⟨fun j hj h1j hjb => ?_, ?_⟩
        · have := h j hj h1j
          rw [if_pos ⟨h1, hjb⟩] at this
          rw [hp j hj, hp0]; exact this
        · have := h (b - 1) (by omega) (by omega)
          rw [if_neg (by omega)] at this
          rw [hp (b - 1) (by omega), hp0]; exact this
      · rintro ⟨ha, hl⟩ j hj h1j
        by_cases e : j + 1 < b
        · rw [if_pos ⟨h1, e⟩, ← hp j hj, ← hp0]; exact ha j hj h1j e
        · rw [if_neg (by omega), ← hp j hj, ← hp0, show j = b - 1 by omega]; exact hl
    · rw [if_neg h1]
      constructor
      · intro h j hj
        by_cases e : j = 0
        · rw [e, Nat.add_zero]
        · have := h j hj (by omega)
          rw [if_neg (fun z => h1 z.1)] at this
          rw [hp j hj, hp0]; exact this
      · intro h j hj h1j
        rw [if_neg (fun z => h1 z.1), ← hp j hj, ← hp0]
        exact h j hj
end REF
