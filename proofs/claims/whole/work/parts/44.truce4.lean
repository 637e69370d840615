/-! stoneHindrance -/
/-- it stands: by its kind -/
abbrev stS (T : TD) (w s c b : Nat) : Prop := if tK T s = 2 then rdS T w c (plc w c) else if tK T s = 1 then brS w c b else ∀ j, j < b → plc w (c + j) = plc w c
/-- why a stone that is as told can't be set, or 0 -/
def stoneH (T : TD) (w s c b : Nat) : Nat := if tK T s = 3 then twinH T w c else if tW T < c + b then 3 else if ¬ ∀ j, j < b → gat w (c + j) = 0 then 4 else if ¬ stS T w s c b then 5 else if plc w c < tH T then 0 else 6
theorem f64 {d t w s c b : Nat} {S : St} {T : TD} (hT : TA S t T) (hw : w < 2 ^ 42) (hs : s < tN T) (hc : c < tW T) (hb : 1 ≤ b) (hb4 : b ≤ 4) (hk1 : tK T s = 1 → 2 ≤ b) : F (d + 3) 64 [.ref t, .long (lN w), .int (nI s), .int (nI c), .int (nI b)] S = some (some (.int (nI (stoneH T w s c b))), S) := by
  have hK : gK S t = 5 := hT.2.1
  have h0 : gI S t 0 = nI (tW T) := hT.2.2.1
  have h1 : gI S t 1 = nI (tH T) := hT.2.2.2.1
  obtain ⟨k1, k2, k3⟩ := hT.2.2.2.2.2.2.1
  have hW := hT.1.1
  have hH := hT.1.2.1
  have hN := hT.1.2.2.2.1
  have hks := hT.1.2.2.2.2 s hs
  have hkd : gI S (gR S t 4) (nI s).toNatClampNeg = nI (tK T s) := by rw [nI_clamp (by omega)]; exact k3 s hs
  have hin : inB (nI s) (gN S (gR S t 4)) := by rw [k2]; show 0 ≤ (nI s).toInt ∧ (nI s).toInt < 6; rw [nI_toInt (by omega)]; omega
  have hpl := plc_lt w c
  refine fq64 (w64_0 ?_)
  refine W_t hK ?_
  refine W_t ⟨k1, hin⟩ ?_
  rw [hkd]
  refine W_if (fun h => ?_) (fun h => ?_)
  · have h : tK T s = 3 := (i_eq (b := 3) (by omega) (by decide)).mp h
    refine W_t hK ?_
    refine W_I (f65 hT hw hc) ?_
    exact ⟨by unfold stoneH; rw [if_pos h], rfl⟩
  · have h : ¬ tK T s = 3 := fun z => h ((i_eq (b := 3) (by omega) (by decide)).mpr z)
    refine W_t hK ?_
    rw [h0, nI_add]
    refine W_if (fun q => ?_) (fun q => ?_)
    · rw [i_lt (by omega) (by omega)] at q
      exact ⟨by unfold stoneH; rw [if_neg h, if_pos q]; rfl, rfl⟩
    · rw [i_lt (by omega) (by omega)] at q
      refine W_si fun v3 e3 => ?_
      rw [tw_mask hb hb4] at e3
      refine W_si fun v4 e4 => ?_
      rw [e3, tw_pls (by omega) (by omega) hb4] at e4
      subst e4
      have hlt := pls_lt w c b
      have hp16 : pls w c b < 2 ^ 16 := Nat.lt_of_lt_of_le hlt (Nat.pow_le_pow_right (by decide) (by omega))
      have d0 := pls_at (w := w) (c := c) (b := b) (j := 0) (by omega)
      rw [Nat.add_zero] at d0
      have hlev : nI (pls w c b) &&& 15 = nI (plc w c) := by
        rw [show (15 : Int32) = nI (2 ^ 4 - 1) from rfl, tw_and _ 4 (by decide)]
        congr 1
        simpa using d0
      refine W_if (fun g => ?_) (fun g => ?_)
      · rw [tw_nogate hb hb4] at g
        -- behind the test of levels: the kinds, then the height
        have fin : ∀ (v3 : Int32) (st : Prop) [Decidable st] (x10 : Int32), (st ↔ stS T w s c b) → x10 = bi st → WP (P64 (F (d + 2))) (2, [.ref t, .long (lN w), .null, .int (nI s), .int (nI c), .int (nI b), .int (nI (tK T s)), .int v3, .int (nI (pls w c b)), .int (nI (plc w c)), .int x10], [], S) (fun r S' => r = some (.int (nI (stoneH T w s c b))) ∧ S' = S) := by
          intro v3 st _ x10 hst hx
          subst hx
          refine w64_2 ?_
          refine W_if (fun z => ?_) (fun z => ?_)
          · rw [bi_0] at z
            exact ⟨by unfold stoneH; rw [if_neg h, if_neg q, if_neg (fun y => y g), if_pos (fun y => z (hst.mpr y))]; rfl, rfl⟩
          · rw [bi_0] at z
            have hsd : stS T w s c b := Classical.byContradiction fun y => z (fun x => y (hst.mp x))
            refine W_t hK ?_
            rw [h1]
            refine W_if (fun y => ?_) (fun y => ?_)
            · rw [i_lt (by omega) (by omega)] at y
              exact ⟨by unfold stoneH; rw [if_neg h, if_neg q, if_neg (fun y => y g), if_neg (fun y => y hsd), if_pos y]; rfl, rfl⟩
            · rw [i_lt (by omega) (by omega)] at y
              exact ⟨by unfold stoneH; rw [if_neg h, if_neg q, if_neg (fun y => y g), if_neg (fun y => y hsd), if_neg y]; rfl, rfl⟩
        have mid : ∀ (y0 : Int32), y0 = bi (∀ j, j < b → plc w (c + j) = plc w c) → WP (P64 (F (d + 2))) (1, [.ref t, .long (lN w), .null, .int (nI s), .int (nI c), .int (nI b), .int (nI (tK T s)), .int v3, .int (nI (pls w c b)), .int (nI (plc w c)), .null], [.int y0], S) (fun r S' => r = some (.int (nI (stoneH T w s c b))) ∧ S' = S) := by
          intro y0 hy
          refine w64_1 ?_
          refine W_if (fun z => ?_) (fun z => ?_)
          · have z : tK T s = 2 := (i_eq (b := 2) (by omega) (by decide)).mp z
            refine W_t hK ?_
            refine W_I (f66 hT hw (by omega) hc) ?_
            exact fin v3 (rdS T w c (plc w c)) _ (by unfold stS; rw [if_pos z]) rfl
          · have z : ¬ tK T s = 2 := fun y => z ((i_eq (b := 2) (by omega) (by decide)).mpr y)
            refine W_if (fun z' => ?_) (fun z' => ?_)
            · have z' : tK T s = 1 := (i_eq (b := 1) (by omega) (by decide)).mp z'
              refine W_I (f67 (hk1 z') hb4) ?_
              exact fin v3 (brS w c b) _ (by unfold stS; rw [if_neg z, if_pos z']) rfl
            · have z' : ¬ tK T s = 1 := fun y => z' ((i_eq (b := 1) (by omega) (by decide)).mpr y)
              exact fin v3 (∀ j, j < b → plc w (c + j) = plc w c) y0 (by unfold stS; rw [if_neg z, if_neg z']) hy
        refine W_if (fun z => ?_) (fun z => ?_)
        · rw [e3, tw_level hb hb4] at z
          rw [hlev]
          exact mid 1 (bi_t z).symm
        · rw [e3, tw_level hb hb4] at z
          rw [hlev]
          exact mid 0 (bi_f z).symm
      · rw [tw_nogate hb hb4] at g
        exact ⟨by unfold stoneH; rw [if_neg h, if_neg q, if_pos g]; rfl, rfl⟩
