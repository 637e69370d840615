/-! the reference's worked -/
section REF
variable {S : St}
abbrev wSt (S : St) (V : Vf) : St := (V, S.2)
set_option maxRecDepth 4096 in
theorem f127_n {d : Nat} {x3 x4 : Int32} {Q : Option Value → St → Prop} (hM : ShM S) : ∀ (l : Nat) (v : Int32) (V : Vf), l ≤ 6 → (∀ z5 : Value, WP (P127 (F (d + 2))) (12, [.ref 39, .int 0, .int (nI (wTerm V l v).1), .int x3, .int x4, z5], [], wSt S (wTerm V l v).2) Q) → WP (P127 (F (d + 2))) (8, [.ref 39, .int 0, .int (nI l), .int x3, .int x4, .int v], [], wSt S V) Q := by
  have put : ∀ (l : Nat) (v : Int32) (V : Vf), l ≤ 6 → (∀ z5 : Value, WP (P127 (F (d + 2))) (12, [.ref 39, .int 0, .int (nI l), .int x3, .int x4, z5], [], wSt S (wPut V l v)) Q) → WP (P127 (F (d + 2))) (10, [.ref 39, .int 0, .int (nI l), .int x3, .int x4, .int v], [], wSt S V) Q := by
    intro l v V hl hn
    have hMv : ShM (wSt S V) := hM.v
    have hin : inB (nI l) 7 := inB_n (by omega) (by decide)
    have el : ∀ y : Int32, y = (if V 60 l = 0 then v else V 59 l * v) → WP (P127 (F (d + 2))) (11, [.ref 39, .int 0, .int (nI l), .int x3, .int x4, .int v], [.int y, .int (nI l), .ref 59], wSt S V) Q := by
      intro y hy
      refine w127_11 ?_
      rw [nI_clamp (by omega)]
      simp only [sl, si, sj, gK_pI, gN_pI, gR_pI, hMv.k39, z0c, eq_self, if_true, Nat.reduceAdd, true_and, hMv.k59, hMv.n59, if_pos hin]
      have := hn (.int v)
      unfold wPut at this
      rw [← hy] at this
      exact this
    refine w127_10 ?_
    rw [nI_clamp (by omega)]
    simp only [sl, si, sj, gK_pI, gN_pI, gR_pI, hMv.k39, hMv.r39_32, hMv.k60, hMv.n60, hMv.r39_31, hMv.k59, hMv.n59, z0c, eq_self, if_true, Nat.reduceAdd, true_and, if_pos hin]
    refine W_if (fun q => ?_) (fun q => ?_)
    · exact el _ (by rw [if_pos (show V 60 l = 0 from q)])
    · exact el _ (by rw [if_neg (show ¬ V 60 l = 0 from q)]; rfl)
  intro l
  induction l with
  | zero =>
    intro v V hl hn
    refine w127_8 ?_
    refine W_f (by decide +kernel) ?_
    exact put 0 v V hl hn
  | succ l ih =>
    intro v V hl hn
    have hMv : ShM (wSt S V) := hM.v
    have hin : inB (nI (l + 1)) 7 := inB_n (by omega) (by decide)
    refine w127_8 ?_
    refine W_t (by rw [c0, i_lt (by decide) (by omega)]; omega) ?_
    rw [nI_clamp (by omega)]
    simp only [sl, si, sj, gK_pI, gN_pI, gR_pI, hMv.k39, hMv.r39_33, hMv.k61, hMv.n61, z0c, eq_self, if_true, Nat.reduceAdd, true_and, if_pos hin]
    refine W_if (fun q => ?_) (fun q => ?_)
    · have q : V 61 (l + 1) = 1 := q
      have ew : wTerm V (l + 1) v = wTerm V l (bi (v = 0)) := by
        have e : wNots V (l + 1) v = wNots V l (bi (v = 0)) := if_pos q
        unfold wTerm
        rw [e]
      have nine : ∀ y : Int32, y = bi (v = 0) → WP (P127 (F (d + 2))) (9, [.ref 39, .int 0, .int (nI (l + 1)), .int x3, .int x4, .int v], [.int y], wSt S V) Q := by
        intro y hy
        refine w127_9 ?_
        show WP _ _ _
        rw [m1_add, nI_pred]
        refine ih y V (by omega) (fun z5 => ?_)
        have := hn z5
        rw [ew, ← hy] at this
        exact this
      refine W_if (fun q2 => ?_) (fun q2 => ?_)
      · exact nine 1 (bi_t q2).symm
      · exact nine 0 (bi_f q2).symm
    · have q : ¬ V 61 (l + 1) = 1 := q
      have ew : wTerm V (l + 1) v = (l + 1, wPut V (l + 1) v) := by
        have e : wNots V (l + 1) v = (l + 1, v) := if_neg q
        unfold wTerm
        rw [e]
      refine put (l + 1) v V hl (fun z5 => ?_)
      have := hn z5
      rw [ew] at this
      exact this
theorem i_cst {c : Nat} (k : Nat) (hc : c < 2 ^ 31) (hk : k < 2 ^ 31) : nI c = nI k ↔ c = k := i_eq hc hk
set_option maxRecDepth 4096 in
theorem f127_loop {d : Nat} {cs : List Nat} {qf : Nat × Vf} (hM : ShM S) (hlen : cs.length ≤ 1000) (h49 : gI S 49 0 = nI cs.length) (h50 : ∀ i c, cs[i]? = some c → gI S 50 i = nI c ∧ c < 20000) : ∀ (D : List Nat) (i l : Nat) (V : Vf), cs.drop i = D → i ≤ cs.length → l ≤ 6 → (∀ a k, a < 53 ∨ 61 < a → V a k = S.1 a k) → wRun D (l, V) = some qf → ∀ z4 z5 : Value, WP (P127 (F (d + 2))) (1, [.ref 39, .int 0, .int (nI l), .int (nI i), z4, z5], [], wSt S V) (fun r S' => (gZ S ≤ gZ S' ∧ gU S ≤ gU S') ∧ r = some (.int (wTests qf.2 0 53 0)) ∧ S' = wSt S (wTests qf.2 0)) := by
  intro D
  induction D with
  | nil =>
    intro i l V hD hi hl hV hr z4 z5
    have hMv : ShM (wSt S V) := hM.v
    have e : i = cs.length := by
      have := congrArg List.length hD
      rw [List.length_drop] at this
      have : cs.length - i = 0 := this
      omega
    have hqf : (l, V) = qf := Option.some.inj hr
    refine w127_1 ?_
    simp only [sl, si, sj, gK_pI, gN_pI, gR_pI, hMv.k39, hMv.r39_18, hMv.k49, hMv.n49, z0c, eq_self, if_true, Nat.reduceAdd, true_and, if_pos (in0 (N := 6) (by decide) (by decide))]
    rw [show gI (wSt S V) 49 0 = nI cs.length from (hV 49 0 (by omega)).trans h49, e]
    refine W_f (by rw [i_lt (by omega) (by omega)]; omega) ?_
    refine W_V (f126 (l := 0) hMv (by omega)) ?_
    have hM2 : ShM (wTests V 0, S.2) := hM.v
    simp only [sl, si, sj, gK_pI, gN_pI, gR_pI, hM2.k39, hM2.r39_25, hM2.k53, hM2.n53, z0c, eq_self, if_true, Nat.reduceAdd, true_and, if_pos (in0 (N := 7) (by decide) (by decide))]
    rw [← hqf]
    exact ⟨nochg S, rfl, rfl⟩
  | cons c D ih =>
    intro i l V hD hi hl hV hr z4 z5
    have hMv : ShM (wSt S V) := hM.v
    have hin : inB (nI l) 7 := inB_n (by omega) (by decide)
    have hil : i < cs.length := by
      have := congrArg List.length hD
      rw [List.length_drop] at this
      have : cs.length - i = D.length + 1 := this
      omega
    have hci : cs[i]? = some c := by
      have := congrArg (fun L => L[0]?) hD
      simp only [List.getElem?_drop, List.getElem?_cons_zero, Nat.add_zero] at this
      exact this
    have hD' : cs.drop (i + 1) = D := by
      rw [← List.drop_drop, hD]
      rfl
    obtain ⟨hc, hc2⟩ := h50 i c hci
    have hcV : gI (wSt S V) 50 i = nI c := (hV 50 i (by omega)).trans hc
    rw [wRun_c] at hr
    cases hst : wStep (l, V) c with
    | none => rw [hst] at hr; cases hr
    | some q' =>
      rw [hst] at hr
      have hl' := wStep_l hst hl
      have hV' : ∀ a k, a < 53 ∨ 61 < a → q'.2 a k = S.1 a k := fun a k h => (wStep_o hst h).trans (hV a k h)
      have next : ∀ z5 : Value, WP (P127 (F (d + 2))) (12, [.ref 39, .int 0, .int (nI q'.1), .int (nI i), .int (nI c), z5], [], wSt S q'.2) (fun r S' => (gZ S ≤ gZ S' ∧ gU S ≤ gU S') ∧ r = some (.int (wTests qf.2 0 53 0)) ∧ S' = wSt S (wTests qf.2 0)) := by
        intro z5
        refine w127_12 ?_
        show WP _ _ _
        rw [nI_1]
        exact ih (i + 1) q'.1 q'.2 hD' (by omega) hl' hV' hr _ _
      have term : ∀ v : Int32, q' = wTerm V l v → WP (P127 (F (d + 2))) (8, [.ref 39, .int 0, .int (nI l), .int (nI i), .int (nI c), .int v], [], wSt S V) (fun r S' => (gZ S ≤ gZ S' ∧ gU S ≤ gU S') ∧ r = some (.int (wTests qf.2 0 53 0)) ∧ S' = wSt S (wTests qf.2 0)) := by
        intro v hv
        refine f127_n hM l v V hl (fun z5 => ?_)
        rw [← hv]
        exact next z5
      unfold wStep at hst
      dsimp only at hst
      refine w127_1 ?_
      simp only [sl, si, sj, gK_pI, gN_pI, gR_pI, hMv.k39, hMv.r39_18, hMv.k49, hMv.n49, hMv.r39_19, hMv.k50, hMv.n50, z0c, eq_self, if_true, Nat.reduceAdd, true_and, if_pos (in0 (N := 6) (by decide) (by decide))]
      rw [show gI (wSt S V) 49 0 = nI cs.length from (hV 49 0 (by omega)).trans h49]
      refine W_t (by rw [i_lt (by omega) (by omega)]; omega) ?_
      refine W_t (inB_n (by omega) (by decide)) ?_
      rw [nI_clamp (by omega), hcV]
      have opn : (c = 28 ∨ c = 30) → WP (P127 (F (d + 2))) (2, [.ref 39, .int 0, .int (nI l), .int (nI i), .int (nI c), z5], [], wSt S V) (fun r S' => (gZ S ≤ gZ S' ∧ gU S ≤ gU S') ∧ r = some (.int (wTests qf.2 0 53 0)) ∧ S' = wSt S (wTests qf.2 0)) := by
        intro h
        rw [if_pos h] at hst
        by_cases hl6 : l < 6
        · rw [if_pos hl6] at hst
          have eq := (Option.some.inj hst).symm
          have hin2 : inB (nI (l + 1)) 7 := inB_n (by omega) (by decide)
          have three : ∀ y : Int32, y = (if c = 30 then 1 else 0) → WP (P127 (F (d + 2))) (3, [.ref 39, .int 0, .int (nI (l + 1)), .int (nI i), .int (nI c), z5], [.int y, .int (nI (l + 1)), .ref 61], wSt S V) (fun r S' => (gZ S ≤ gZ S' ∧ gU S ≤ gU S') ∧ r = some (.int (wTests qf.2 0 53 0)) ∧ S' = wSt S (wTests qf.2 0)) := by
            intro y hy
            refine w127_3 ?_
            rw [nI_clamp (by omega)]
            simp only [sl, si, sj, gK_pI, gN_pI, gR_pI, hMv.k39, z0c, eq_self, if_true, Nat.reduceAdd, true_and, hMv.k61, hMv.n61, if_pos hin2]
            have hM2 : ShM (pI (wSt S V) 61 (l + 1) y) := hM.v
            refine W_V (f124 hM2 (by omega)) ?_
            have := next z5
            rw [eq, ← hy] at this
            exact this
          refine w127_2 ?_
          simp only [sl, si, sj, gK_pI, gN_pI, gR_pI, hMv.k39, hMv.r39_33, hMv.k61, hMv.n61, z0c, eq_self, if_true, Nat.reduceAdd, true_and]
          rw [nI_1]
          refine W_if (fun q => ?_) (fun q => ?_)
          · exact three 1 (by rw [if_pos ((i_cst 30 (by omega) (by decide)).mp q)])
          · exact three 0 (by rw [if_neg (fun z => q (by rw [z]; rfl))])
        · rw [if_neg hl6] at hst; cases hst
      refine W_if (fun q1 => ?_) (fun q1 => ?_)
      · exact opn (Or.inl ((i_cst 28 (by omega) (by decide)).mp q1))
      have q1 : ¬ c = 28 := fun z => q1 (by rw [z]; rfl)
      refine W_if (fun q2 => ?_) (fun q2 => ?_)
      · exact opn (Or.inr ((i_cst 30 (by omega) (by decide)).mp q2))
      have q2 : ¬ c = 30 := fun z => q2 (by rw [z]; rfl)
      rw [if_neg (by omega)] at hst
      have pls : (c = 20 ∨ c = 21) → WP (P127 (F (d + 2))) (4, [.ref 39, .int 0, .int (nI l), .int (nI i), .int (nI c), z5], [], wSt S V) (fun r S' => (gZ S ≤ gZ S' ∧ gU S ≤ gU S') ∧ r = some (.int (wTests qf.2 0 53 0)) ∧ S' = wSt S (wTests qf.2 0)) := by
        intro h
        rw [if_pos h] at hst
        have eq := (Option.some.inj hst).symm
        refine w127_4 ?_
        simp only [sl, si, sj, gK_pI, gN_pI, gR_pI, hMv.k39, z0c, eq_self, if_true, Nat.reduceAdd, true_and]
        refine W_V (f125 hMv hl) ?_
        have hM2 : ShM (wSums V l, S.2) := hM.v
        rw [nI_clamp (by omega)]
        simp only [sl, si, sj, gK_pI, gN_pI, gR_pI, hM2.k39, hM2.r39_30, hM2.k58, hM2.n58, z0c, eq_self, if_true, Nat.reduceAdd, true_and, if_pos hin]
        have := next z5
        rw [eq] at this
        exact this
      refine W_if (fun q3 => ?_) (fun q3 => ?_)
      · exact pls (Or.inl ((i_cst 20 (by omega) (by decide)).mp q3))
      have q3 : ¬ c = 20 := fun z => q3 (by rw [z]; rfl)
      refine W_if (fun q4 => ?_) (fun q4 => ?_)
      · exact pls (Or.inr ((i_cst 21 (by omega) (by decide)).mp q4))
      have q4 : ¬ c = 21 := fun z => q4 (by rw [z]; rfl)
      rw [if_neg (by omega)] at hst
      refine W_if (fun q5 => ?_) (fun q5 => ?_)
      · have q5 : c = 22 := (i_cst 22 (by omega) (by decide)).mp q5
        rw [if_pos q5] at hst
        have eq := (Option.some.inj hst).symm
        rw [nI_clamp (by omega)]
        simp only [sl, si, sj, gK_pI, gN_pI, gR_pI, hMv.k39, hMv.r39_32, hMv.k60, hMv.n60, z0c, eq_self, if_true, Nat.reduceAdd, true_and, if_pos hin]
        have := next z5
        rw [eq] at this
        exact this
      have q5 : ¬ c = 22 := fun z => q5 (by rw [z]; rfl)
      rw [if_neg q5] at hst
      have cmp : (c = 24 ∨ c = 25) → WP (P127 (F (d + 2))) (5, [.ref 39, .int 0, .int (nI l), .int (nI i), .int (nI c), z5], [], wSt S V) (fun r S' => (gZ S ≤ gZ S' ∧ gU S ≤ gU S') ∧ r = some (.int (wTests qf.2 0 53 0)) ∧ S' = wSt S (wTests qf.2 0)) := by
        intro h
        rw [if_pos h] at hst
        have eq := (Option.some.inj hst).symm
        refine w127_5 ?_
        simp only [sl, si, sj, gK_pI, gN_pI, gR_pI, hMv.k39, z0c, eq_self, if_true, Nat.reduceAdd, true_and]
        refine W_V (f125 hMv hl) ?_
        have hM2 : ShM (wSums V l, S.2) := hM.v
        rw [nI_clamp (by omega)]
        simp only [sl, si, sj, gK_pI, gN_pI, gR_pI, hM2.k39, hM2.r39_27, hM2.k55, hM2.n55, hM2.r39_28, hM2.k56, hM2.n56, hM2.r39_29, hM2.k57, hM2.n57, hM2.r39_30, hM2.k58, hM2.n58, z0c, eq_self, if_true, Nat.reduceAdd, true_and, if_pos hin]
        have := next z5
        rw [eq] at this
        exact this
      refine W_if (fun q6 => ?_) (fun q6 => ?_)
      · exact cmp (Or.inl ((i_cst 24 (by omega) (by decide)).mp q6))
      have q6 : ¬ c = 24 := fun z => q6 (by rw [z]; rfl)
      refine W_if (fun q7 => ?_) (fun q7 => ?_)
      · exact cmp (Or.inr ((i_cst 25 (by omega) (by decide)).mp q7))
      have q7 : ¬ c = 25 := fun z => q7 (by rw [z]; rfl)
      rw [if_neg (by omega)] at hst
      have ado : (c = 26 ∨ c = 27) → WP (P127 (F (d + 2))) (6, [.ref 39, .int 0, .int (nI l), .int (nI i), .int (nI c), z5], [], wSt S V) (fun r S' => (gZ S ≤ gZ S' ∧ gU S ≤ gU S') ∧ r = some (.int (wTests qf.2 0 53 0)) ∧ S' = wSt S (wTests qf.2 0)) := by
        intro h
        rw [if_pos h] at hst
        have eq := (Option.some.inj hst).symm
        refine w127_6 ?_
        simp only [sl, si, sj, gK_pI, gN_pI, gR_pI, hMv.k39, z0c, eq_self, if_true, Nat.reduceAdd, true_and]
        refine W_V (f126 hMv hl) ?_
        have hM2 : ShM (wTests V l, S.2) := hM.v
        rw [nI_clamp (by omega)]
        simp only [sl, si, sj, gK_pI, gN_pI, gR_pI, hM2.k39, hM2.r39_26, hM2.k54, hM2.n54, z0c, eq_self, if_true, Nat.reduceAdd, true_and, if_pos hin]
        have := next z5
        rw [eq] at this
        exact this
      refine W_if (fun q8 => ?_) (fun q8 => ?_)
      · exact ado (Or.inl ((i_cst 26 (by omega) (by decide)).mp q8))
      have q8 : ¬ c = 26 := fun z => q8 (by rw [z]; rfl)
      refine W_if (fun q9 => ?_) (fun q9 => ?_)
      · exact ado (Or.inr ((i_cst 27 (by omega) (by decide)).mp q9))
      have q9 : ¬ c = 27 := fun z => q9 (by rw [z]; rfl)
      rw [if_neg (by omega)] at hst
      have seven : ∀ y : Int32, (c ≠ 29 → q' = wTerm V l y) → WP (P127 (F (d + 2))) (7, [.ref 39, .int 0, .int (nI l), .int (nI i), .int (nI c), z5], [.int y], wSt S V) (fun r S' => (gZ S ≤ gZ S' ∧ gU S ≤ gU S') ∧ r = some (.int (wTests qf.2 0 53 0)) ∧ S' = wSt S (wTests qf.2 0)) := by
        intro y hy
        refine w127_7 ?_
        refine W_if (fun z => ?_) (fun z => ?_)
        · have z : c = 29 := (i_cst 29 (by omega) (by decide)).mp z
          rw [if_pos z] at hst
          cases l with
          | zero => cases hst
          | succ l =>
            have eq := (Option.some.inj hst).symm
            simp only [sl, si, sj, gK_pI, gN_pI, gR_pI, hMv.k39, z0c, eq_self, if_true, Nat.reduceAdd, true_and]
            refine W_V (f126 hMv hl) ?_
            have hM2 : ShM (wTests V (l + 1), S.2) := hM.v
            rw [nI_clamp (by omega)]
            simp only [sl, si, sj, gK_pI, gN_pI, gR_pI, hM2.k39, hM2.r39_25, hM2.k53, hM2.n53, z0c, eq_self, if_true, Nat.reduceAdd, true_and, if_pos hin]
            rw [m1_add, nI_pred]
            refine f127_n hM l _ (wTests V (l + 1)) (by omega) (fun z5 => ?_)
            have := next z5
            rw [eq] at this
            exact this
        · exact term y (hy (fun y => z (by rw [y]; rfl)))
      refine W_if (fun q10 => ?_) (fun q10 => ?_)
      · rw [show (100 : Int32) = nI 100 from rfl, i_lt (by omega) (by decide)] at q10
        refine W_if (fun q11 => ?_) (fun q11 => ?_)
        · rw [k20, i_lt (by omega) (by decide)] at q11
          simp only [sl, si, sj, gK_pI, gN_pI, gR_pI, hMv.k39, hMv.r39_34, hMv.k62, hMv.n62, z0c, eq_self, if_true, Nat.reduceAdd, true_and]
          refine W_t (inB_n (by omega) (by decide)) ?_
          rw [nI_clamp (by omega)]
          refine seven _ (fun z => ?_)
          rw [if_neg z, if_neg (by omega), if_pos q11] at hst
          exact (Option.some.inj hst).symm
        · rw [k20, i_lt (by omega) (by decide)] at q11
          refine seven _ (fun z => ?_)
          rw [if_neg z, if_neg (by omega), if_neg q11] at hst
          cases hst
      · rw [show (100 : Int32) = nI 100 from rfl, i_lt (by omega) (by decide)] at q10
        rw [show (100 : Int32) = nI 100 from rfl, pk_sub (by omega)]
        refine seven _ (fun z => ?_)
        rw [if_neg z, if_pos (by omega)] at hst
        exact (Option.some.inj hst).symm
set_option maxRecDepth 4096 in
theorem f127 {d : Nat} {cs : List Nat} {qf : Nat × Vf} (hM : ShM S) (hlen : cs.length ≤ 1000) (h48 : gI S 48 0 = 0) (h49 : gI S 49 0 = nI cs.length) (h50 : ∀ i c, cs[i]? = some c → gI S 50 i = nI c ∧ c < 20000) (hr : wRun cs (0, wOpens S.1 0) = some qf) : F (d + 3) 127 [.ref 39, .int 0] S = some (some (.int (wTests qf.2 0 53 0)), wSt S (wTests qf.2 0)) := by
  refine Sp.eq (fw127 (w127_0 ?_))
  simp only [sl, si, sj, gK_pI, gN_pI, gR_pI, hM.k39, z0c, eq_self, if_true, Nat.reduceAdd, true_and]
  refine W_V (f124 (l := 0) hM (by omega)) ?_
  have hM2 : ShM (wSt S (wOpens S.1 0)) := hM.v
  simp only [sl, si, sj, gK_pI, gN_pI, gR_pI, hM2.k39, hM2.r39_17, hM2.k48, hM2.n48, z0c, eq_self, if_true, Nat.reduceAdd, true_and, if_pos (in0 (N := 6) (by decide) (by decide))]
  rw [show gI (wSt S (wOpens S.1 0)) 48 0 = 0 from (wOpens_o (V := S.1) (l := 0) (by omega)).trans h48]
  exact f127_loop (d := d) hM hlen h49 h50 cs 0 0 _ rfl (by omega) (by omega) (fun a k h => wOpens_o (V := S.1) (l := 0) h) hr .null .null
/-- a code comes to a fine -/
def wkE (cs : List Nat) (E : Env → Int32) : Prop := ∀ V : Vf, ∃ qf, wRun cs (0, wOpens V 0) = some qf ∧ wTests qf.2 0 53 0 = E (V 62 1, V 62 2, V 62 3, V 62 4)
theorem wRun_o : ∀ {cs : List Nat} {q q' : Nat × Vf}, wRun cs q = some q' → ∀ {a k : Nat}, (a < 53 ∨ 61 < a) → q'.2 a k = q.2 a k
  | [], q, q', h, a, k, ho => by rw [← Option.some.inj h]
  | c :: cs, q, q', h, a, k, ho => by
    rw [wRun_c] at h
    cases hs : wStep q c with
    | none => rw [hs] at h; cases h
    | some q1 =>
      rw [hs] at h
      rw [wRun_o h ho, wStep_o hs ho]
/-- the fine's line of the reference -/
def RC (S : St) (E : Env → Int32) : Prop := ∃ cs : List Nat, cs.length ≤ 1000 ∧ gI S 48 0 = 0 ∧ gI S 49 0 = nI cs.length ∧ (∀ i c, cs[i]? = some c → gI S 50 i = nI c ∧ c < 20000) ∧ (cs = [] → ∀ e : Env, E e = e.1) ∧ (cs ≠ [] → wkE cs E)
end REF
