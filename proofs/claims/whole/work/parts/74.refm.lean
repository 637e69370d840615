/-! the reference's methods: set, leave, undo, column, state, act, count -/
abbrev SmP : Nat → Nat → Prop := fun a k => a = 64 ∨ (a = 39 ∧ (k = 0 ∨ (38 ≤ k ∧ k ≤ 41))) ∨ (53 ≤ a ∧ a ≤ 63)
section RIB
variable {S : St} {tp : List Nat} {T : TD} {E : Env → Int32} {A : List Nat} {mk : Nat → Option MkD}
set_option maxRecDepth 4096 in
theorem f157 {d : Nat} {x1 x2 x3 : Int32} (h : RI0 S tp T E A mk) : Sp (F (d + 8) 157 [.ref 39, .int x1, .int x2, .int x3] S) (fun v S' => ∃ y, v = some (.int y) ∧ y = nI (sref T (pw (posA T E A)) (ptn (posA T E A)) x1 x2 x3) ∧ Fr SmP nol S S' ∧ RI0 S' tp T E (setA T (pw (posA T E A)) (ptn (posA T E A)) A x1 x2 x3) mk) := by
  obtain ⟨hT, hok, -⟩ := h.ok
  refine fw157 (w157_0 ?_)
  refine W_t (h.1.k39) ?_
  refine W_s fun S1 e1 => ?_
  have f1 : Fr ThP nol S S1 := by rw [e1]; exact Fr.putI ⟨rfl, rfl⟩
  have f1' : Fr SmP nol S S1 := f1.weak (fun a k z => by have z : a = 39 ∧ k = 0 := z; omega) (fun a k z => z)
  have h1 := h.fr f1 ThP_s
  have hM := h1.1
  have hR := h1.2.2.1
  obtain ⟨⟨hr, h43, -, -⟩, -⟩ := h1.row
  simp only [hM.k39, hM.r39_36, hM.k63, hM.n63, z0c, eq_self, if_true, Nat.reduceAdd, true_and]
  refine W_t (inB_n (n := 43) (by omega) (by decide)) ?_
  rw [c43, h43]
  have one : ∀ y : Int32, y = bi (actsL T (pw (posA T E A)) (ptn (posA T E A)) = []) → WP (P157 (F (d + 7))) (1, [.ref 39, .int x1, .int x2, .int x3, .null], [.int y, .int x3, .int x2, .int x1, .int 0, .ref 39], S1) (fun v S' => (gZ S ≤ gZ S' ∧ gU S ≤ gU S') ∧ ∃ y, v = some (.int y) ∧ y = nI (sref T (pw (posA T E A)) (ptn (posA T E A)) x1 x2 x3) ∧ Fr SmP nol S S' ∧ RI0 S' tp T E (setA T (pw (posA T E A)) (ptn (posA T E A)) A x1 x2 x3) mk) := by
    intro y hy
    refine w157_1 ?_
    simp only [hM.k39, z0c, eq_self, if_true, Nat.reduceAdd, true_and]
    rw [hy]
    refine W_I (f147 (o := 0) (d := d + 4) (ov := actsL T (pw (posA T E A)) (ptn (posA T E A)) = []) hM hR hr (by omega) hok.1) ?_
    have es : whyS T (pw (posA T E A)) (actsL T (pw (posA T E A)) (ptn (posA T E A)) = []) x1 x2 x3 = sref T (pw (posA T E A)) (ptn (posA T E A)) x1 x2 x3 := rfl
    have hle := sref_le T (pw (posA T E A)) (ptn (posA T E A)) x1 x2 x3
    rw [es]
    refine W_if (fun q => ?_) (fun q => ?_)
    · rw [c0, i_lt (by decide) (by omega)] at q
      refine ⟨f1'.mono, _, rfl, rfl, f1', ?_⟩
      unfold setA
      rw [if_neg (by omega)]
      exact h1
    · rw [c0, i_lt (by decide) (by omega)] at q
      have q0 : sref T (pw (posA T E A)) (ptn (posA T E A)) x1 x2 x3 = 0 := by omega
      have q1 := q0
      unfold sref at q1
      by_cases z1 : ¬ (¬ x1 < 0 ∧ ¬ x2 < 0 ∧ told T x1.toNatClampNeg x2.toNatClampNeg x3.toNatClampNeg)
      · rw [if_pos z1] at q1; omega
      rw [if_neg z1] at q1
      have z1 := Classical.not_not.mp z1
      by_cases z2 : actsL T (pw (posA T E A)) (ptn (posA T E A)) = []
      · rw [if_pos z2] at q1; omega
      rw [if_neg z2] at q1
      have hb := told_b hT z1.2.2
      have z3 := told_nn hT z1.2.2
      have hact := sref_act (tn := ptn (posA T E A)) hT z1.2.2 q1
      obtain ⟨s, hs, e1⟩ := nI_of z1.1
      obtain ⟨c, hc, e2⟩ := nI_of z1.2.1
      obtain ⟨b, hb', e3⟩ := nI_of z3
      have hset : setA T (pw (posA T E A)) (ptn (posA T E A)) A x1 x2 x3 = A ++ [acS x1.toNatClampNeg x2.toNatClampNeg x3.toNatClampNeg] := if_pos q0
      rw [hset, q0]
      rw [e1, e2, e3, nI_clamp hs, nI_clamp hc, nI_clamp hb'] at hact hb
      obtain ⟨r1, r2, r3⟩ := acS_s s c b hb.2.1 hb.2.2.1 hb.2.2.2.1
      have w1 : sI (acS s c b) = nI s := by show (if _ then _ else _) = _; rw [if_neg (by omega), r1]
      have w3 : bI (acS s c b) = nI b := by show (if _ then _ else _) = _; rw [if_neg (by omega), r3]
      simp only [hM.k39, z0c, eq_self, if_true, Nat.reduceAdd, true_and]
      rw [e1, e2, e3, nI_clamp hs, nI_clamp hc, nI_clamp hb']
      have hk := keep_do (d := d) h1 hact (md := P157 (F (d + 7))) (f := fun S4 => some (.inr (some (.int 0), S4))) (Q := fun v S' => (gZ S ≤ gZ S' ∧ gU S ≤ gU S') ∧ ∃ y, v = some (.int y) ∧ y = nI 0 ∧ Fr SmP nol S S' ∧ RI0 S' tp T E (A ++ [acS s c b]) mk) (fun S' g1 g2 => by
        have g2' : Fr SmP nol S S' := f1'.tr (g2.weak (fun a k z => by rcases z with z | z | z <;> (show _ ∨ _; omega)) (fun a k z => z))
        exact ⟨g2'.mono, _, rfl, rfl, g2', g1⟩)
      rw [w1, w3, r2] at hk
      exact hk
  refine W_if (fun q => ?_) (fun q => ?_)
  · exact one 1 (bi_t ((pys_pos (ptn_lt _)).mp q)).symm
  · exact one 0 (bi_f (fun z => q ((pys_pos (ptn_lt _)).mpr z))).symm
set_option maxRecDepth 4096 in
theorem f158 {d : Nat} {x : Int32} (h : RI0 S tp T E A mk) : Sp (F (d + 8) 158 [.ref 39, .int x] S) (fun v S' => ∃ y, v = some (.int y) ∧ y = nI (gref T (pw (posA T E A)) (ptn (posA T E A)) x) ∧ Fr SmP nol S S' ∧ RI0 S' tp T E (leaA T (pw (posA T E A)) (ptn (posA T E A)) A x) mk) := by
  obtain ⟨hT, hok, -⟩ := h.ok
  have hW := hT.1
  refine fw158 (w158_0 ?_)
  refine W_t (h.1.k39) ?_
  refine W_s fun S1 e1 => ?_
  have f1 : Fr ThP nol S S1 := by rw [e1]; exact Fr.putI ⟨rfl, rfl⟩
  have f1' : Fr SmP nol S S1 := f1.weak (fun a k z => by have z : a = 39 ∧ k = 0 := z; omega) (fun a k z => z)
  have h1 := h.fr f1 ThP_s
  have hM := h1.1
  have hR := h1.2.2.1
  obtain ⟨⟨hr, h43, -, -⟩, -⟩ := h1.row
  simp only [hM.k39, hM.r39_36, hM.k63, hM.n63, z0c, eq_self, if_true, Nat.reduceAdd, true_and]
  refine W_t (inB_n (n := 43) (by omega) (by decide)) ?_
  rw [c43, h43]
  have one : ∀ y : Int32, y = bi (actsL T (pw (posA T E A)) (ptn (posA T E A)) = []) → WP (P158 (F (d + 7))) (1, [.ref 39, .int x, .null], [.int y, .int x, .int 0, .ref 39], S1) (fun v S' => (gZ S ≤ gZ S' ∧ gU S ≤ gU S') ∧ ∃ y, v = some (.int y) ∧ y = nI (gref T (pw (posA T E A)) (ptn (posA T E A)) x) ∧ Fr SmP nol S S' ∧ RI0 S' tp T E (leaA T (pw (posA T E A)) (ptn (posA T E A)) A x) mk) := by
    intro y hy
    refine w158_1 ?_
    simp only [hM.k39, z0c, eq_self, if_true, Nat.reduceAdd, true_and]
    rw [hy]
    refine W_I (f148 (o := 0) (d := d + 5) (ov := actsL T (pw (posA T E A)) (ptn (posA T E A)) = []) hM hR hr (by omega) (ptn_lt _)) ?_
    have es : whyG T (pw (posA T E A)) (ptn (posA T E A)) (actsL T (pw (posA T E A)) (ptn (posA T E A)) = []) x = gref T (pw (posA T E A)) (ptn (posA T E A)) x := rfl
    have hle := gref_le T (pw (posA T E A)) (ptn (posA T E A)) x
    rw [es]
    refine W_if (fun q => ?_) (fun q => ?_)
    · rw [c0, i_lt (by decide) (by omega)] at q
      refine ⟨f1'.mono, _, rfl, rfl, f1', ?_⟩
      unfold leaA
      rw [if_neg (by omega)]
      exact h1
    · rw [c0, i_lt (by decide) (by omega)] at q
      have q0 : gref T (pw (posA T E A)) (ptn (posA T E A)) x = 0 := by omega
      have q1 := q0
      unfold gref at q1
      by_cases z1 : x < 0 ∨ tW T ≤ x.toNatClampNeg
      · rw [if_pos z1] at q1; omega
      rw [if_neg z1] at q1
      by_cases z2 : actsL T (pw (posA T E A)) (ptn (posA T E A)) = []
      · rw [if_pos z2] at q1; omega
      rw [if_neg z2] at q1
      have hact := gref_act (tn := ptn (posA T E A)) (c := x.toNatClampNeg) hT (hok.1.g (ptn_lt _)) (by omega) q1
      obtain ⟨c, hc, e1⟩ := nI_of (fun y => z1 (Or.inl y))
      have hset : leaA T (pw (posA T E A)) (ptn (posA T E A)) A x = A ++ [acG x.toNatClampNeg] := if_pos q0
      rw [hset, q0]
      have hc2 : c < tW T := by
        rw [e1, nI_clamp hc] at z1
        omega
      rw [e1, nI_clamp hc] at hact
      obtain ⟨r1, r2⟩ := acG_s c (by omega)
      have w1 : sI (acG c) = -2 := by show (if _ then _ else _) = _; rw [if_pos r1]
      have w3 : bI (acG c) = 0 := by show (if _ then _ else _) = _; rw [if_pos r1]
      simp only [hM.k39, z0c, eq_self, if_true, Nat.reduceAdd, true_and]
      rw [e1, nI_clamp hc]
      have hk := keep_do (d := d) h1 hact (md := P158 (F (d + 7))) (f := fun S4 => some (.inr (some (.int 0), S4))) (Q := fun v S' => (gZ S ≤ gZ S' ∧ gU S ≤ gU S') ∧ ∃ y, v = some (.int y) ∧ y = nI 0 ∧ Fr SmP nol S S' ∧ RI0 S' tp T E (A ++ [acG c]) mk) (fun S' g1 g2 => by
        have g2' : Fr SmP nol S S' := f1'.tr (g2.weak (fun a k z => by rcases z with z | z | z <;> (show _ ∨ _; omega)) (fun a k z => z))
        exact ⟨g2'.mono, _, rfl, rfl, g2', g1⟩)
      rw [w1, w3, r2] at hk
      exact hk
  refine W_if (fun q => ?_) (fun q => ?_)
  · exact one 1 (bi_t ((pys_pos (ptn_lt _)).mp q)).symm
  · exact one 0 (bi_f (fun z => q ((pys_pos (ptn_lt _)).mpr z))).symm
set_option maxRecDepth 4096 in
theorem f160 {d : Nat} (h : RI0 S tp T E A mk) : Sp (F (d + 1) 160 [.ref 39] S) (fun v S' => ∃ y, v = some (.int y) ∧ y = bi (A ≠ []) ∧ Fr SmP nol S S' ∧ RI0 S' tp T E A.dropLast mk) := by
  obtain ⟨hT, hok, hday⟩ := h.ok
  have hd60 := hok.day hT
  rw [hday] at hd60
  refine fw160 (w160_0 ?_)
  refine W_t (h.1.k39) ?_
  refine W_s fun S1 e1 => ?_
  have f1 : Fr ThP nol S S1 := by rw [e1]; exact Fr.putI ⟨rfl, rfl⟩
  have f1' : Fr SmP nol S S1 := f1.weak (fun a k z => by have z : a = 39 ∧ k = 0 := z; omega) (fun a k z => z)
  have h1 := h.fr f1 ThP_s
  have hM := h1.1
  simp only [hM.k39, z0c, eq_self, if_true, Nat.reduceAdd, true_and]
  rw [h1.2.2.2.2.2.1]
  refine W_if (fun q => ?_) (fun q => ?_)
  · rw [len_0 (by omega)] at q
    refine W_b (Or.inl rfl) ⟨f1'.mono, _, rfl, by rw [bi_f (fun z => z q)], f1', ?_⟩
    rw [q] at h1 ⊢
    exact h1
  · rw [len_0 (by omega)] at q
    have e : A = A.dropLast ++ [A.getLast q] := (List.dropLast_concat_getLast q).symm
    have hl : A.length = A.dropLast.length + 1 := by rw [List.length_dropLast]; have := List.length_pos_iff.mpr q; omega
    have hl2 := h1.2.2.2.2.2.2.2.2
    rw [e] at hl2
    have hl3 := (lgl_app.mp hl2).1
    rw [hl, nI_pred]
    refine W_s fun S2 e2 => ?_
    have f2 : Fr SmP nol S1 S2 := by rw [e2]; exact Fr.putI (Or.inr (Or.inl ⟨rfl, by omega⟩))
    have hM2 := hM.fr f2
    show WP _ _ _
    have key : ∀ (n k : Nat) (S3 : St), n = 64 - k → k ≤ 64 → Fr (fun a k => a = 63 ∧ k < 64) nol S2 S3 → (∀ j, j < k → gI S3 63 (0 + j) = gI S2 64 (64 * A.dropLast.length + j)) → WP (P160 (F d)) (1, [.ref 39, .int (nI k)], [], S3) (fun v S' => (gZ S ≤ gZ S' ∧ gU S ≤ gU S') ∧ ∃ y, v = some (.int y) ∧ y = bi (A ≠ []) ∧ Fr SmP nol S S' ∧ RI0 S' tp T E A.dropLast mk) := by
      intro n
      induction n with
      | zero =>
        intro k S3 hn hk f3 h0
        have ek : k = 64 := by omega
        subst ek
        have f3' : Fr SmP nol S2 S3 := f3.weak (fun a k z => Or.inr (Or.inr (by have z : a = 63 ∧ k < 64 := z; omega))) (fun a k z => z)
        have fa := (f1'.tr f2).tr f3'
        refine w160_1 ?_
        refine W_f (by decide +kernel) ?_
        have g3 : ∀ {a k}, ¬ (a = 63 ∧ k < 64) → ¬ (a = 39 ∧ k = 38) → gI S3 a k = gI S1 a k := fun {a k} z1 z2 => by rw [f3.1 _ _ z1, e2, gI_pI, if_neg z2]
        have f23 : Fr (fun a k => (a = 63 ∧ k < 64) ∨ (a = 39 ∧ k = 38)) nol S1 S3 := (Fr.tr (by rw [e2]; exact Fr.putI (Or.inr ⟨rfl, rfl⟩)) (f3.weak (fun a k z => Or.inl z) (fun a k z => z)))
        obtain ⟨h1', ⟨h2a, h2b, h2c⟩, h3, h4, h5, h6, h7, h8, h9⟩ := h1
        have htk : A.take A.dropLast.length = A.dropLast := by
          rw [List.dropLast_eq_take, List.length_take, Nat.min_eq_left (Nat.sub_le _ _)]
        refine W_b (Or.inr rfl) ⟨fa.mono, _, rfl, by rw [bi_t q], fa, hM2.fr f3, ⟨by rw [g3 (by omega) (by omega)]; exact h2a, fun i v hv => by rw [g3 (by omega) (by omega)]; exact h2b i v hv, h2c⟩, h3.fr f23 (fun a k z y => by rcases z with z | z <;> omega), h4.fr f23 (fun a k z y => by rcases z with z | z <;> omega), ?_, ?_, fun j hj => ?_, fun i hi => (h8 i hi).fr f23 (fun a k z y => by rcases z with z | z <;> omega), hl3⟩
        · have := h7 A.dropLast.length (by omega)
          rw [htk] at this
          refine this.cg (fun k hk => ?_)
          show gI S3 63 (0 + k) = gI S1 64 (64 * A.dropLast.length + k)
          rw [h0 k hk, e2, gI_pI, if_neg (by omega)]
        · rw [f3.1 _ _ (by omega), e2, gI_pI, if_pos ⟨rfl, rfl⟩]
        · have := h7 j (by omega)
          have et : A.take j = A.dropLast.take j := by
            rw [List.dropLast_eq_take, List.take_take, Nat.min_eq_left (by rw [List.length_dropLast] at hj; omega)]
          rw [et] at this
          refine this.cg (fun k hk => ?_)
          show gI S3 64 (64 * j + k) = gI S1 64 (64 * j + k)
          exact g3 (by omega) (by omega)
      | succ n ih =>
        intro k S3 hn hk f3 h0
        have hM3 := hM2.fr f3
        have g38 : gI S3 39 38 = nI A.dropLast.length := by rw [f3.1 _ _ (by omega), e2, gI_pI, if_pos ⟨rfl, rfl⟩]
        refine w160_1 ?_
        refine W_t (by rw [k64, i_lt (by omega) (by decide)]; omega) ?_
        simp only [hM3.k39, hM3.r39_36, hM3.k63, hM3.n63, hM3.r39_37, hM3.k64, hM3.n64, z0c, eq_self, if_true, Nat.reduceAdd, true_and]
        rw [g38, k64, pk_mul, nI_add]
        refine W_t (inB_n (by omega) (by decide)) ?_
        refine W_t (inB_n (by omega) (by decide)) ?_
        rw [nI_clamp (n := k) (by omega), nI_clamp (by omega)]
        refine W_s fun S4 e4 => ?_
        have f4 : Fr (fun a k => a = 63 ∧ k < 64) nol S3 S4 := by rw [e4]; exact Fr.putI ⟨rfl, by omega⟩
        show WP _ _ _
        rw [nI_1]
        refine ih (k + 1) S4 (by omega) (by omega) (f3.tr f4) (fun j hj => ?_)
        rw [e4, gI_pI]
        by_cases ej : j = k
        · rw [if_pos ⟨rfl, by omega⟩, ej, f3.1 _ _ (by omega)]
        · rw [if_neg (by omega)]; exact h0 j (by omega)
    exact key 64 0 S2 (by omega) (by omega) Fr.rf (fun j hj => by omega)
set_option maxRecDepth 4096 in
theorem f161 {d : Nat} {x1 x2 : Int32} (h : RI0 S tp T E A mk) : Sp (F (d + 2) 161 [.ref 39, .int x1, .int x2] S) (fun v S' => ∃ y, v = some (.int y) ∧ y = aCol T (posA T E A) x1 x2 ∧ Fr ThP nol S S') := by
  obtain ⟨hT, hok, hday⟩ := h.ok
  have hW := hT.1
  refine fw161 (w161_0 ?_)
  refine W_t (h.1.k39) ?_
  refine W_s fun S1 e1 => ?_
  have f1 : Fr ThP nol S S1 := by rw [e1]; exact Fr.putI ⟨rfl, rfl⟩
  have h1 := h.fr f1 ThP_s
  have hM := h1.1
  have hR := h1.2.2.1
  have hF : RwF (fun k => gI S1 63 k) T (posA T E A) := h1.2.2.2.2.1.cg (fun k _ => by rw [Nat.zero_add])
  simp only [hM.k39, z0c, eq_self, if_true, Nat.reduceAdd, true_and]
  refine W_I (f143 hM hR) ?_
  refine W_if (fun q1 => ?_) (fun q1 => ?_)
  · rw [bi_0] at q1
    refine ⟨f1.mono, _, rfl, ?_, f1⟩
    unfold aCol
    rw [if_pos]
    by_cases z : x1 < 0
    · exact Or.inl z
    · exact Or.inr (Nat.not_lt.mp fun y => q1 ⟨z, y⟩)
  rw [bi_0] at q1
  obtain ⟨g1, g2⟩ := Classical.not_not.mp q1
  obtain ⟨c, hc, rfl⟩ := nI_of g1
  rw [nI_clamp hc] at g2
  have ng : ¬ (nI c < 0 ∨ tW T ≤ (nI c).toNatClampNeg) := by
    rw [nI_clamp hc]
    rintro (z | z)
    · exact g1 z
    · omega
  unfold aCol
  rw [if_neg ng, nI_clamp hc]
  refine W_I (f114) ?_
  refine W_if (fun q2 => ?_) (fun q2 => ?_)
  · rw [bi_0] at q2
    refine ⟨f1.mono, _, rfl, ?_, f1⟩
    rw [if_neg, if_neg, if_neg, if_neg]
    · rintro rfl; exact q2 ⟨by decide, by decide⟩
    · rintro rfl; exact q2 ⟨by decide, by decide⟩
    · rintro rfl; exact q2 ⟨by decide, by decide⟩
    · rintro rfl; exact q2 ⟨by decide, by decide⟩
  rw [bi_0] at q2
  obtain ⟨g3, g4⟩ := Classical.not_not.mp q2
  obtain ⟨n, hn, rfl⟩ := wi_n (k := 3) g3 g4 (by decide)
  simp only [hM.k39, hM.r39_36, hM.k63, hM.n63, z0c, eq_self, if_true, Nat.reduceAdd, true_and]
  refine W_if (fun q3 => ?_) (fun q3 => ?_)
  · refine W_t (inB_n (by omega) (by decide)) ?_
    refine ⟨f1.mono, _, rfl, ?_, f1⟩
    rw [if_pos q3]
    exact hF.1 c (by omega)
  rw [if_neg q3]
  refine W_if (fun q4 => ?_) (fun q4 => ?_)
  · rw [c10, nI_add]
    refine W_t (inB_n (by omega) (by decide)) ?_
    refine ⟨f1.mono, _, rfl, ?_, f1⟩
    rw [if_pos q4, nI_clamp (by omega)]
    exact congrArg (fun z => z - 1) (hF.2.1 c (by omega))
  rw [if_neg q4]
  refine W_if (fun q5 => ?_) (fun q5 => ?_)
  · rw [k20, nI_add]
    refine W_t (inB_n (by omega) (by decide)) ?_
    refine ⟨f1.mono, _, rfl, ?_, f1⟩
    rw [if_pos q5, nI_clamp (by omega)]
    exact hF.2.2.1 c (by omega)
  rw [if_neg q5]
  rw [k30, nI_add]
  refine W_t (inB_n (by omega) (by decide)) ?_
  refine ⟨f1.mono, _, rfl, ?_, f1⟩
  have h3 : nI n = 3 := by
    rcases (show n = 0 ∨ n = 1 ∨ n = 2 ∨ n = 3 by omega) with rfl | rfl | rfl | rfl
    · exact absurd rfl q3
    · exact absurd rfl q4
    · exact absurd rfl q5
    · rfl
  rw [if_pos h3, nI_clamp (by omega)]
  exact congrArg (fun z => z - 1) (hF.2.2.2.1 c (by omega))
end RIB
