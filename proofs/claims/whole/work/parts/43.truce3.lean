/-! roundStands, stoneHindrance, isAsTold, canDo -/
theorem f66_on {d t w c l k : Nat} {S : St} {T : TD} {z2 z6 : Value} {Q : Option Value → St → Prop} (hT : TA S t T) (hw : w < 2 ^ 42) (hl : l < 16) (hc : c < 10) (hk : k ≤ c + 1) (hbad : (k < tW T ∧ gat w k = 0 ∧ hgt w k ≤ l) → Q (some (.int 0)) S) (hgood : ¬ (k < tW T ∧ gat w k = 0 ∧ hgt w k ≤ l) → ∀ z : Value, WP (P66 (F (d + 1))) (1, [.ref t, .long (lN w), z2, .int (nI c), .int (nI l), .int (nI (k + 2)), z], [], S) Q) : WP (P66 (F (d + 1))) (1, [.ref t, .long (lN w), z2, .int (nI c), .int (nI l), .int (nI k), z6], [], S) Q := by
  have hK : gK S t = 5 := hT.2.1
  have h0 : gI S t 0 = nI (tW T) := hT.2.2.1
  have hW := hT.1.1
  have hg := hgt_le w k
  refine w66_1 ?_
  rw [show nI c + 1 = nI (c + 1) from nI_1 c]
  refine W_f (by rw [i_lt (by omega) (by omega)]; omega) ?_
  refine W_f (nI_pos (by omega)) ?_
  refine W_t hK ?_
  rw [h0]
  have skip : ¬ (k < tW T ∧ gat w k = 0 ∧ hgt w k ≤ l) → ∀ y : Value, WP (P66 (F (d + 1))) (4, [.ref t, .long (lN w), z2, .int (nI c), .int (nI l), .int (nI k), .int 0], [], S) Q := by
    intro hn _
    refine w66_4 ?_
    show WP _ _ _
    rw [show nI k + 2 = nI (k + 2) from nI_add k 2]
    exact hgood hn _
  refine W_if (fun h => ?_) (fun h => ?_)
  · rw [i_lt (by omega) (by omega)] at h
    refine W_I (f58 hw (by omega)) ?_
    refine W_if (fun q => ?_) (fun q => ?_)
    · rw [gat_m1] at q
      refine w66_3 ?_
      refine W_f (by decide) ?_
      refine W_I (f57 hw (by omega)) ?_
      refine W_if (fun q' => ?_) (fun q' => ?_)
      · rw [i_lt (by omega) (by omega)] at q'
        refine w66_4 ?_
        show WP _ _ _
        rw [show nI k + 2 = nI (k + 2) from nI_add k 2]
        exact hgood (fun z => by omega) _
      · rw [i_lt (by omega) (by omega)] at q'
        exact W_b (Or.inl rfl) (hbad ⟨h, q, by omega⟩)
    · rw [gat_m1] at q
      refine w66_2 ?_
      refine w66_3 ?_
      refine W_t rfl ?_
      exact skip (fun z => q z.2.1) (.int 0)
  · rw [i_lt (by omega) (by omega)] at h
    refine w66_2 ?_
    refine w66_3 ?_
    refine W_t rfl ?_
    exact skip (fun z => h z.1) (.int 0)
abbrev rdS (T : TD) (w c l : Nat) : Prop := (c = 0 ∨ gat w (c - 1) ≠ 0 ∨ l < hgt w (c - 1)) ∧ (c + 1 = tW T ∨ gat w (c + 1) ≠ 0 ∨ l < hgt w (c + 1))
theorem f66 {d t w c l : Nat} {S : St} {T : TD} (hT : TA S t T) (hw : w < 2 ^ 42) (hl : l < 16) (hc : c < tW T) : F (d + 2) 66 [.ref t, .long (lN w), .int (nI c), .int (nI l)] S = some (some (.int (bi (rdS T w c l))), S) := by
  have hW := hT.1.1
  have hw1 : ∀ z6 : Value, ((c = 0 ∨ gat w (c - 1) ≠ 0 ∨ l < hgt w (c - 1))) → WP (P66 (F (d + 1))) (1, [.ref t, .long (lN w), .null, .int (nI c), .int (nI l), .int (nI (c + 1)), z6], [], S) (fun r S' => r = some (.int (bi (rdS T w c l))) ∧ S' = S) := by
    intro z6 h1
    by_cases hcw : c + 1 = tW T
    · -- no right neighbour: the column is not asked
      refine f66_on hT hw hl (by omega) (Nat.le_refl _) (fun z => by omega) (fun _ z => ?_)
      refine w66_1 ?_
      rw [show nI c + 1 = nI (c + 1) from nI_1 c]
      refine W_t (by rw [i_lt (by omega) (by omega)]; omega) ?_
      exact W_b (Or.inr rfl) ⟨by rw [bi_t ⟨h1, Or.inl hcw⟩], rfl⟩
    · refine f66_on hT hw hl (by omega) (Nat.le_refl _) (fun z => ?_) (fun hn z => ?_)
      · have hf : ¬ rdS T w c l := by
          rintro ⟨-, q | q | q⟩
          · exact hcw q
          · exact q z.2.1
          · exact absurd z.2.2 (Nat.not_le.mpr q)
        exact ⟨by rw [bi_f hf], rfl⟩
      · refine w66_1 ?_
        rw [show nI c + 1 = nI (c + 1) from nI_1 c]
        refine W_t (by rw [i_lt (by omega) (by omega)]; omega) ?_
        have ht : rdS T w c l := by
          refine ⟨h1, Or.inr ?_⟩
          by_cases g : gat w (c + 1) = 0
          · rcases Nat.lt_or_ge l (hgt w (c + 1)) with y | y
            · exact Or.inr y
            · exact absurd ⟨by omega, g, y⟩ hn
          · exact Or.inl g
        exact W_b (Or.inr rfl) ⟨by rw [bi_t ht], rfl⟩
  refine fq66 (w66_0 ?_)
  show WP _ _ _
  by_cases h0 : c = 0
  · subst h0
    refine w66_1 ?_
    refine W_f (by decide +kernel) ?_
    refine W_t (by decide +kernel) ?_
    refine w66_2 ?_
    refine w66_3 ?_
    refine W_t rfl ?_
    refine w66_4 ?_
    exact hw1 (.int 0) (Or.inl rfl)
  · rw [show nI c - 1 = nI (c - 1) from pk_sub (b := 1) (by omega)]
    refine f66_on hT hw hl (by omega) (by omega) (fun z => ?_) (fun hn z => ?_)
    · have hf : ¬ rdS T w c l := by
        rintro ⟨q | q | q, -⟩
        · exact h0 q
        · exact q z.2.1
        · exact absurd z.2.2 (Nat.not_le.mpr q)
      exact ⟨by rw [bi_f hf], rfl⟩
    · rw [show c - 1 + 2 = c + 1 by omega]
      refine hw1 z (Or.inr ?_)
      by_cases g : gat w (c - 1) = 0
      · exact Or.inr (by
          rcases Nat.lt_or_ge l (hgt w (c - 1)) with y | y
          · exact y
          · exact absurd ⟨by omega, g, y⟩ hn)
      · exact Or.inl g
