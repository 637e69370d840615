/-! the reference: why, whyGate -/
section REF
variable {S : St} {T : TD} {o w tn : Nat}
/-- why a stone is refused -/
def whyS (T : TD) (w : Nat) (ov : Prop) [Decidable ov] (x2 x3 x4 : Int32) : Nat := if ¬ (¬ x2 < 0 ∧ ¬ x3 < 0 ∧ told T x2.toNatClampNeg x3.toNatClampNeg x4.toNatClampNeg) then 1 else if ov then 2 else stoneH T w x2.toNatClampNeg x3.toNatClampNeg x4.toNatClampNeg
set_option maxRecDepth 4096 in
theorem f147_3 {d s c b : Nat} {x5 : Int32} (hM : ShM S) (hR : RT S T) (hrow : RoW S o T w tn) (ho : o + 64 ≤ 2560) (hw : okW T w) (ht : told T s c b) (hcb : c + b ≤ tW T) (hg : ∀ j, j < b → gat w (c + j) = 0) (hg2 : tK T s = 3 → gat w (tW T - 1 - c) = 0) : ∀ z6 : Int32, WP (P147 (F (d + 2))) (3, [.ref 39, .int (nI o), .int (nI s), .int (nI c), .int (nI b), .int x5, .int z6], [], S) (fun r S' => r = some (.int (nI (stoneH T w s c b))) ∧ S' = S) := by
  intro z6
  have hT := hR.1
  have hb := told_b hT ht
  have hW := hT.1
  have hH := hT.2.1
  have hN := hT.2.2.2.1
  have hi := hT.2.2.2.2 s ht.1
  have hg0 : gat w c = 0 := hg 0 (by omega)
  have hhc := hw.hgt_le (c := c) (by omega) hH.2
  have hp0 : plc w c = hgt w c := plc_hgt hg0
  have e3 : ∀ v, tK T s = 3 → v = twinH T w c → stoneH T w s c b = v := fun v h3 hv => by unfold stoneH; rw [if_pos h3, hv]
  have eN : tK T s ≠ 3 → stoneH T w s c b = if ¬ stS T w s c b then 5 else if plc w c < tH T then 0 else 6 := fun h3 => by
    unfold stoneH
    rw [if_neg h3, if_neg (by omega), if_neg (fun y => y hg)]
  have six : (tK T s = 3 → ¬ (hgt w c < tH T ∧ hgt w (tW T - 1 - c) < tH T)) → (tK T s ≠ 3 → stS T w s c b ∧ ¬ plc w c < tH T) → WP (P147 (F (d + 2))) (4, [.ref 39, .int (nI o), .int (nI s), .int (nI c), .int (nI b), .int x5, .int z6], [], S) (fun r S' => r = some (.int (nI (stoneH T w s c b))) ∧ S' = S) := by
    intro ha hb'
    refine w147_4 ?_
    refine ⟨?_, rfl⟩
    by_cases h3 : tK T s = 3
    · rw [e3 6 h3 (by unfold twinH; rw [if_neg (by rintro (y | y); exact y hg0; exact y (hg2 h3)), if_neg (ha h3)])]
      rfl
    · rw [eN h3, if_neg (fun y => y (hb' h3).1), if_neg (hb' h3).2]
      rfl
  refine w147_3 ?_
  simp only [hM.k39, z0c, eq_self, if_true, Nat.reduceAdd, true_and]
  refine W_I (f146 hM hR hrow ho ht.1 ht.2.1 hb.2.2.1 (by omega)) ?_
  refine W_if (fun q => ?_) (fun q => ?_)
  · rw [bi_0] at q
    have h3 : tK T s ≠ 3 := fun z => q (by unfold stR; rw [if_pos z]; trivial)
    refine ⟨?_, rfl⟩
    rw [eN h3, if_pos (fun y => q ((stR_iff hT ht.1 h3 hb.2.2.1 hb.2.2.2.2 hg).mpr y))]
    rfl
  rw [bi_0] at q
  have q := Classical.not_not.mp q
  simp only [hM.k39, hM.r39_36, hM.k63, hM.n63, hM.r39_11, hM.k42, hM.n42, hM.r39_14, hM.k45, hM.n45, z0c, eq_self, if_true, Nat.reduceAdd, true_and]
  rw [nI_add]
  refine W_t (inB_n (by omega) (by decide)) ?_
  refine W_t (in0 (by decide) (by decide)) ?_
  rw [nI_clamp (by omega), hrow.1 c (by omega), hR.2.2.1]
  have hsS : tK T s ≠ 3 → stS T w s c b := fun h3 => (stR_iff hT ht.1 h3 hb.2.2.1 hb.2.2.2.2 hg).mp q
  refine W_if (fun q1 => ?_) (fun q1 => ?_)
  · rw [i_eq (by omega) (by omega)] at q1
    exact six (fun _ y => by omega) (fun h3 => ⟨hsS h3, by omega⟩)
  rw [i_eq (by omega) (by omega)] at q1
  refine W_t (inB_n (by omega) (by decide)) ?_
  rw [nI_clamp (by omega), hR.2.2.2.2.2.1 s ht.1]
  refine W_if (fun q2 => ?_) (fun q2 => ?_)
  · have q2 : tK T s = 3 := (i_eq (b := 3) (by omega) (by decide)).mp q2
    refine W_I (f144 hM hR ht.2.1) ?_
    have hh2 := hw.hgt_le (c := tW T - 1 - c) (by omega) hH.2
    simp only [hM.k39, hM.r39_36, hM.k63, hM.n63, hM.r39_11, hM.k42, hM.n42, z0c, eq_self, if_true, Nat.reduceAdd, true_and]
    rw [nI_add]
    refine W_t (inB_n (by omega) (by decide)) ?_
    refine W_t (in0 (by decide) (by decide)) ?_
    rw [nI_clamp (by omega), hrow.1 _ (by omega), hR.2.2.1]
    refine W_if (fun q4 => ?_) (fun q4 => ?_)
    · rw [i_eq (by omega) (by omega)] at q4
      exact six (fun _ y => by omega) (fun h3 => absurd q2 h3)
    · rw [i_eq (by omega) (by omega)] at q4
      refine ⟨?_, rfl⟩
      rw [e3 0 q2 (by unfold twinH; rw [if_neg (by rintro (y | y); exact y hg0; exact y (hg2 q2)), if_pos (by omega)])]
      rfl
  · have q2 : ¬ tK T s = 3 := fun z => q2 (by rw [z]; rfl)
    refine ⟨?_, rfl⟩
    rw [eN q2, if_neg (fun y => y (hsS q2)), if_pos (by omega)]
    rfl
set_option maxRecDepth 4096 in
theorem f147_2 {d s c b : Nat} {x5 : Int32} (hM : ShM S) (hR : RT S T) (hrow : RoW S o T w tn) (ho : o + 64 ≤ 2560) (hw : okW T w) (ht : told T s c b) (hcb : c + b ≤ tW T) : ∀ (n j : Nat), n = b - j → j ≤ b → (∀ i, i < j → gat w (c + i) = 0) → WP (P147 (F (d + 2))) (2, [.ref 39, .int (nI o), .int (nI s), .int (nI c), .int (nI b), .int x5, .int (nI (c + j))], [], S) (fun r S' => r = some (.int (nI (stoneH T w s c b))) ∧ S' = S) := by
  have hT := hR.1
  have hb := told_b hT ht
  have hW := hT.1
  have hN := hT.2.2.2.1
  have hi := hT.2.2.2.2 s ht.1
  intro n
  induction n with
  | zero =>
    intro j hn hj hall
    have e : j = b := by omega
    subst e
    refine w147_2 ?_
    rw [nI_add]
    refine W_f (by rw [i_lt (by omega) (by omega)]; omega) ?_
    simp only [hM.k39, hM.r39_14, hM.k45, hM.n45, hM.r39_36, hM.k63, hM.n63, z0c, eq_self, if_true, Nat.reduceAdd, true_and]
    refine W_t (inB_n (by omega) (by decide)) ?_
    rw [nI_clamp (by omega), hR.2.2.2.2.2.1 s ht.1]
    refine W_if (fun q2 => ?_) (fun q2 => ?_)
    · have q2 : tK T s = 3 := (i_eq (b := 3) (by omega) (by decide)).mp q2
      refine W_I (f144 hM hR ht.2.1) ?_
      rw [c10, nI_add, nI_add]
      simp only [hM.k39, hM.r39_36, hM.k63, hM.n63, z0c, eq_self, if_true, Nat.reduceAdd, true_and]
      refine W_t (inB_n (by omega) (by decide)) ?_
      rw [nI_clamp (by omega)]
      have hgp := hrow.gp (c := tW T - 1 - c) (by omega)
      refine W_if (fun q4 => ?_) (fun q4 => ?_)
      · refine ⟨?_, rfl⟩
        unfold stoneH twinH
        rw [if_pos q2, if_pos (Or.inr (hgp.mp q4))]
        rfl
      · exact f147_3 hM hR hrow ho hw ht hcb hall (fun _ => Classical.byContradiction fun y => q4 (hgp.mpr y)) _
    · have q2 : ¬ tK T s = 3 := fun z => q2 (by rw [z]; rfl)
      exact f147_3 hM hR hrow ho hw ht hcb hall (fun z => absurd z q2) _
  | succ n ih =>
    intro j hn hj hall
    refine w147_2 ?_
    rw [nI_add]
    refine W_t (by rw [i_lt (by omega) (by omega)]; omega) ?_
    simp only [hM.k39, hM.r39_36, hM.k63, hM.n63, z0c, eq_self, if_true, Nat.reduceAdd, true_and]
    rw [c10, nI_add, nI_add]
    refine W_t (inB_n (by omega) (by decide)) ?_
    rw [nI_clamp (by omega)]
    have hgp := hrow.gp (c := c + j) (by omega)
    refine W_if (fun q => ?_) (fun q => ?_)
    · have hne := hgp.mp q
      refine ⟨?_, rfl⟩
      unfold stoneH
      by_cases h3 : tK T s = 3
      · have hb1 := hi.2.2.2.2 (Or.inr h3)
        have hbb : b = 1 := by
          rcases ht.2.2 with z | z <;> omega
        have hj0 : j = 0 := by omega
        rw [hj0, Nat.add_zero] at hne
        rw [if_pos h3]
        unfold twinH
        rw [if_pos (Or.inl hne)]
        rfl
      · rw [if_neg h3, if_neg (by omega), if_pos (fun y => hne (y j (by omega)))]
        rfl
    · show WP _ _ _
      rw [nI_1]
      refine ih (j + 1) (by omega) (by omega) (fun i hi => ?_)
      by_cases e : i = j
      · rw [e]; exact Classical.byContradiction fun y => q (hgp.mpr y)
      · exact hall i (by omega)
set_option maxRecDepth 4096 in
theorem f147 {d : Nat} {x2 x3 x4 : Int32} {ov : Prop} [Decidable ov] (hM : ShM S) (hR : RT S T) (hrow : RoW S o T w tn) (ho : o + 64 ≤ 2560) (hw : okW T w) : F (d + 3) 147 [.ref 39, .int (nI o), .int x2, .int x3, .int x4, .int (bi ov)] S = some (some (.int (nI (whyS T w ov x2 x3 x4))), S) := by
  have hT := hR.1
  have hW := hT.1
  have hN := hT.2.2.2.1
  generalize hV : whyS T w ov x2 x3 x4 = V
  have one : ¬ (¬ x2 < 0 ∧ ¬ x3 < 0 ∧ told T x2.toNatClampNeg x3.toNatClampNeg x4.toNatClampNeg) → (some (Value.int 1) = some (Value.int (nI V)) ∧ S = S) := fun z => ⟨by rw [← hV]; unfold whyS; rw [if_pos z]; rfl, rfl⟩
  refine fq147 (w147_0 ?_)
  refine W_if (fun q1 => ?_) (fun q1 => ?_)
  · exact one (fun z => z.1 q1)
  obtain ⟨s, hs, e2⟩ := nI_of q1
  simp only [hM.k39, hM.r39_12, hM.k43, hM.n43, hM.r39_14, hM.k45, hM.n45, z0c, eq_self, if_true, Nat.reduceAdd, true_and]
  refine W_t (in0 (by decide) (by decide)) ?_
  rw [hR.2.2.2.1]
  refine W_if (fun q2 => ?_) (fun q2 => ?_)
  rotate_left
  · refine one (fun z => q2 ?_)
    have := z.2.2.1
    rw [e2, nI_clamp hs] at this
    rw [e2, i_lt hs (by omega)]
    exact this
  rw [e2, i_lt hs (by omega)] at q2
  refine W_I (f143 hM hR) ?_
  refine W_if (fun q3 => ?_) (fun q3 => ?_)
  · rw [bi_0] at q3
    exact one (fun z => q3 ⟨z.2.1, z.2.2.2.1⟩)
  rw [bi_0] at q3
  obtain ⟨h0, h1⟩ := Classical.not_not.mp q3
  obtain ⟨c, hc, e3⟩ := nI_of h0
  rw [e3, nI_clamp hc] at h1
  simp only [hM.k39, z0c, eq_self, if_true, Nat.reduceAdd, true_and]
  rw [e2]
  refine W_I (f145 hM hR q2) ?_
  have hwt := wide_told (T := T) (s := s) (c := c) (x := x4) hT q2 h1
  refine W_if (fun q4 => ?_) (fun q4 => ?_)
  · rw [bi_0] at q4
    refine one (fun z => q4 ?_)
    have := z.2.2
    rw [e2, e3, nI_clamp hs, nI_clamp hc] at this
    exact (hwt.mpr this).1
  rw [bi_0] at q4
  have q4 := Classical.not_not.mp q4
  have go : ¬ (tK T s = 3 ∧ tW T - 1 - c = c) → WP (P147 (F (d + 2))) (1, [.ref 39, .int (nI o), .int (nI s), .int (nI c), .int x4, .int (bi ov), .null], [], S) (fun r S' => r = some (.int (nI V)) ∧ S' = S) := by
    intro hno
    have ht := hwt.mp ⟨q4, hno⟩
    have hnn := told_nn hT ht
    obtain ⟨b, hb, e4⟩ := nI_of hnn
    have htw : ¬ x2 < 0 ∧ ¬ x3 < 0 ∧ told T x2.toNatClampNeg x3.toNatClampNeg x4.toNatClampNeg := ⟨q1, h0, by rw [e2, e3, nI_clamp hs, nI_clamp hc]; exact ht⟩
    rw [e4, nI_clamp hb] at ht
    have hbb := told_b hT ht
    have ew : V = if ov then 2 else stoneH T w s c b := by
      rw [← hV]
      unfold whyS
      rw [if_neg (fun z => z htw), e2, e3, e4, nI_clamp hs, nI_clamp hc, nI_clamp hb]
    rw [ew, e4]
    refine w147_1 ?_
    refine W_if (fun z1 => ?_) (fun z1 => ?_)
    · rw [bi_0] at z1
      simp only [hM.k39, hM.r39_10, hM.k41, hM.n41, z0c, eq_self, if_true, Nat.reduceAdd, true_and]
      refine W_t (in0 (by decide) (by decide)) ?_
      rw [hR.2.1, nI_add, if_neg z1]
      refine W_if (fun z2 => ?_) (fun z2 => ?_)
      · rw [i_lt (by omega) (by omega)] at z2
        refine ⟨?_, rfl⟩
        unfold stoneH
        by_cases h3 : tK T s = 3
        · exfalso
          have hi := (hT.2.2.2.2 s q2).2.2.2.2 (Or.inr h3)
          rcases ht.2.2 with z | z <;> omega
        · rw [if_neg h3, if_pos z2]
          rfl
      · rw [i_lt (by omega) (by omega)] at z2
        exact f147_2 hM hR hrow ho hw ht (by omega) b 0 rfl (by omega) (fun i hi => by omega)
    · rw [bi_0] at z1
      rw [if_pos (Classical.not_not.mp z1)]
      exact ⟨rfl, rfl⟩
  simp only [hM.k39, hM.r39_14, hM.k45, hM.n45, z0c, eq_self, if_true, Nat.reduceAdd, true_and]
  refine W_t (inB_n (by omega) (by decide)) ?_
  rw [nI_clamp hs, hR.2.2.2.2.2.1 s q2]
  have hi := hT.2.2.2.2 s q2
  refine W_if (fun q5 => ?_) (fun q5 => ?_)
  · have q5 : tK T s = 3 := (i_eq (b := 3) (by omega) (by decide)).mp q5
    rw [e3]
    refine W_I (f144 hM hR h1) ?_
    refine W_if (fun q6 => ?_) (fun q6 => ?_)
    · rw [i_eq (by omega) (by omega)] at q6
      refine one (fun z => ?_)
      have := z.2.2
      rw [e2, e3, nI_clamp hs, nI_clamp hc] at this
      exact (hwt.mpr this).2 ⟨q5, q6⟩
    · rw [i_eq (by omega) (by omega)] at q6
      exact go (fun z => q6 z.2)
  · rw [e3]
    exact go (fun z => q5 (by rw [z.1]; rfl))
def whyG (T : TD) (w tn : Nat) (ov : Prop) [Decidable ov] (x : Int32) : Nat := if x < 0 ∨ tW T ≤ x.toNatClampNeg then 1 else if ov then 2 else gateH T w tn x.toNatClampNeg
set_option maxRecDepth 4096 in
theorem f148 {d : Nat} {x2 : Int32} {ov : Prop} [Decidable ov] (hM : ShM S) (hR : RT S T) (hrow : RoW S o T w tn) (ho : o + 64 ≤ 2560) (ht : tn < 2) : F (d + 2) 148 [.ref 39, .int (nI o), .int x2, .int (bi ov)] S = some (some (.int (nI (whyG T w tn ov x2))), S) := by
  have hT := hR.1
  have hW := hT.1
  have hG := hT.2.2.1
  refine fq148 (w148_0 ?_)
  simp only [hM.k39, z0c, eq_self, if_true, Nat.reduceAdd, true_and]
  refine W_I (f143 hM hR) ?_
  refine W_if (fun q1 => ?_) (fun q1 => ?_)
  · rw [bi_0] at q1
    refine ⟨?_, rfl⟩
    unfold whyG
    rw [if_pos]
    · rfl
    · by_cases h : x2 < 0
      · exact Or.inl h
      · exact Or.inr (Nat.not_lt.mp fun z => q1 ⟨h, z⟩)
  rw [bi_0] at q1
  obtain ⟨h0, h1⟩ := Classical.not_not.mp q1
  obtain ⟨c, hc, rfl⟩ := nI_of h0
  rw [nI_clamp hc] at h1
  have ew : whyG T w tn ov (nI c) = if ov then 2 else gateH T w tn c := by
    unfold whyG
    rw [if_neg, nI_clamp hc]
    rw [nI_clamp hc]
    rintro (z | z)
    · exact h0 z
    · omega
  rw [ew]
  refine W_if (fun q2 => ?_) (fun q2 => ?_)
  · rw [bi_0] at q2
    rw [if_neg q2]
    simp only [hM.k39, hM.r39_36, hM.k63, hM.n63, z0c, eq_self, if_true, Nat.reduceAdd, true_and]
    rw [k42, nI_add]
    refine W_t (inB_n (by omega) (by decide)) ?_
    rw [nI_clamp (by omega), hrow.2.2.2, k40, nI_add, nI_add]
    refine W_t (inB_n (by omega) (by decide)) ?_
    rw [nI_clamp (by omega), hrow.2.2.1 tn ht]
    unfold gateH
    refine W_if (fun q3 => ?_) (fun q3 => ?_)
    · have q3 : tG T - gbit w tn = 0 := (i_eq (b := 0) (by omega) (by decide)).mp q3
      rw [if_pos q3]
      exact ⟨rfl, rfl⟩
    have q3 : ¬ tG T - gbit w tn = 0 := fun z => q3 (by rw [z]; rfl)
    rw [if_neg q3, c10, nI_add, nI_add]
    refine W_t (inB_n (by omega) (by decide)) ?_
    rw [nI_clamp (by omega)]
    have hgp := hrow.gp (c := c) (by omega)
    refine W_if (fun q4 => ?_) (fun q4 => ?_)
    · rw [if_pos (hgp.mp q4)]
      exact ⟨rfl, rfl⟩
    rw [if_neg (fun z => q4 (hgp.mpr z)), nI_add]
    refine W_t (inB_n (by omega) (by decide)) ?_
    rw [nI_clamp (by omega), hrow.1 c (by omega)]
    have hh := hgt_le w c
    refine W_if (fun q5 => ?_) (fun q5 => ?_)
    · rw [c0, i_lt (by decide) (by omega)] at q5
      rw [if_neg (by omega)]
      exact ⟨rfl, rfl⟩
    · rw [c0, i_lt (by decide) (by omega)] at q5
      rw [if_pos (by omega)]
      exact ⟨rfl, rfl⟩
  · rw [bi_0] at q2
    rw [if_pos (Classical.not_not.mp q2)]
    exact ⟨rfl, rfl⟩
end REF
