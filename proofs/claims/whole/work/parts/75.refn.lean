/-! the reference's methods: state, act, count, feed -/
section RIB
variable {S : St} {tp : List Nat} {T : TD} {E : Env → Int32} {A : List Nat} {mk : Nat → Option MkD}
abbrev TaP : Nat → Nat → Prop := fun a k => a = 39 ∧ (k = 0 ∨ (39 ≤ k ∧ k ≤ 41))
theorem TaP_s : ∀ a k, TaP a k → Scr a k := fun a k z => Or.inl ⟨z.1, by have := z.2; omega, by have := z.2; omega⟩
set_option maxRecDepth 4096 in
theorem f162 {d : Nat} (h : RI0 S tp T E A mk) : Sp (F (d + 6) 162 [.ref 39] S) (fun v S' => ∃ y, v = some (.int y) ∧ y = nI (actsL T (pw (posA T E A)) (ptn (posA T E A))).length ∧ Fr AcP nol S S') := by
  obtain ⟨hT, hok, hday⟩ := h.ok
  obtain ⟨⟨hr, h43, -, -⟩, -⟩ := h.row
  have hM := h.1
  refine fw162 (w162_0 ?_)
  simp only [hM.k39, hM.r39_36, hM.k63, hM.n63, z0c, eq_self, if_true, Nat.reduceAdd, true_and]
  refine W_t (inB_n (n := 43) (by omega) (by decide)) ?_
  rw [c43, h43]
  refine W_if (fun q => ?_) (fun q => ?_)
  · have q := (pys_pos (ptn_lt _)).mp q
    exact ⟨nochg S, _, rfl, by rw [q]; rfl, Fr.rf⟩
  · refine W_Ie (f151 (o := 0) (d := d) hM h.2.2.1 hr (by omega) hok.1 (ptn_lt _)) ?_
    rintro v S1 ⟨rfl, f1⟩
    exact ⟨f1.mono, _, rfl, rfl, f1⟩
set_option maxRecDepth 4096 in
theorem c42 : (42 : Int32).toNatClampNeg = 42 := by decide +kernel
set_option maxRecDepth 4096 in
theorem c44' : (44 : Int32).toNatClampNeg = 44 := by decide +kernel
set_option maxRecDepth 4096 in
theorem c45' : (45 : Int32).toNatClampNeg = 45 := by decide +kernel
set_option maxRecDepth 4096 in
theorem c46' : (46 : Int32).toNatClampNeg = 46 := by decide +kernel
set_option maxRecDepth 4096 in
theorem c43' : (43 : Int32).toNatClampNeg = 43 := by decide +kernel
set_option maxRecDepth 4096 in
theorem f163 {d : Nat} {x : Int32} (h : RI0 S tp T E A mk) : Sp (F (d + 7) 163 [.ref 39, .int x] S) (fun v S' => ∃ y, v = some (.int y) ∧ Fr TaP nol S S' ∧ ((¬ x < 0 ∧ ¬ (9 : Int32) < x) → gI S' 39 0 = 0 ∧ y = aState T (posA T E A) x) ∧ (¬ (¬ x < 0 ∧ ¬ (9 : Int32) < x) → gI S' 39 0 = 1)) := by
  obtain ⟨hT, hok, hday⟩ := h.ok
  refine fw163 (w163_0 ?_)
  refine W_I (f114) ?_
  refine W_if (fun q => ?_) (fun q => ?_)
  · rw [bi_0] at q
    refine w163_1 ?_
    refine W_t (h.1.k39) ?_
    refine W_s fun S1 e1 => ?_
    have f1 : Fr TaP nol S S1 := by rw [e1]; exact Fr.putI ⟨rfl, Or.inl rfl⟩
    have hM := h.1.fr f1
    have g0 : gI S1 39 0 = 1 := by rw [e1, gI_pI, if_pos ⟨rfl, rfl⟩]
    simp only [hM.k39, z0c, eq_self, if_true, Nat.reduceAdd, true_and]
    refine W_t (g0) ?_
    exact ⟨f1.mono, _, rfl, f1, fun z => absurd z q, fun _ => g0⟩
  · rw [bi_0] at q
    have q := Classical.not_not.mp q
    obtain ⟨n, hn, rfl⟩ := wi_n (k := 9) q.1 q.2 (by decide)
    refine w163_1 ?_
    refine W_t (h.1.k39) ?_
    refine W_s fun S1 e1 => ?_
    have f1 : Fr TaP nol S S1 := by rw [e1]; exact Fr.putI ⟨rfl, Or.inl rfl⟩
    have h1 := h.fr f1 TaP_s
    have hM := h1.1
    have g0 : gI S1 39 0 = 0 := by rw [e1, gI_pI, if_pos ⟨rfl, rfl⟩]
    have hF : RwF (fun k => gI S1 63 k) T (posA T E A) := h1.2.2.2.2.1.cg (fun k _ => by rw [Nat.zero_add])
    obtain ⟨r1, r2, r3, r4, r5, r6, r7, r8, r9, r10, r11⟩ := hF
    have r6 : gI S1 63 42 = nI (ptn (posA T E A)) := r6
    have r7 : gI S1 63 43 = nI (pys T (pw (posA T E A)) (ptn (posA T E A))) := r7
    have r8 : gI S1 63 44 = bi (closed T (pw (posA T E A))) := r8
    have r9 : gI S1 63 45 = nI (pday (posA T E A)) := r9
    have r10 : gI S1 63 46 = pbill (posA T E A) := r10
    have r50 : gI S1 63 40 = nI (tG T - gbit (pw (posA T E A)) 0) := r5 0 (by omega)
    have r51 : gI S1 63 41 = nI (tG T - gbit (pw (posA T E A)) 1) := r5 1 (by omega)
    have s0 : gI S1 63 47 = nI (phof (posA T E A) 0) := r11 0 (by omega)
    have s1 : gI S1 63 48 = nI (phof (posA T E A) 1) := r11 1 (by omega)
    have fin : ∀ (y : Int32), y = aState T (posA T E A) (nI n) → ((gZ S ≤ gZ S1 ∧ gU S ≤ gU S1) ∧ ∃ y', some (Value.int y) = some (.int y') ∧ Fr TaP nol S S1 ∧ ((¬ nI n < 0 ∧ ¬ (9 : Int32) < nI n) → gI S1 39 0 = 0 ∧ y' = aState T (posA T E A) (nI n)) ∧ (¬ (¬ nI n < 0 ∧ ¬ (9 : Int32) < nI n) → gI S1 39 0 = 1)) := fun y hy => ⟨f1.mono, y, rfl, f1, fun _ => ⟨g0, hy⟩, fun z => absurd q z⟩
    have hpl := payr_le (T := T) (w := pw (posA T E A)) (ptn_lt (posA T E A))
    simp only [hM.k39, hM.r39_36, hM.k63, hM.n63, z0c, eq_self, if_true, Nat.reduceAdd, true_and]
    refine W_f (by rw [g0]; decide) ?_
    rcases (show n = 0 ∨ n = 1 ∨ n = 2 ∨ n = 3 ∨ n = 4 ∨ n = 5 ∨ n = 6 ∨ n = 7 ∨ n = 8 ∨ n = 9 by omega) with rfl | rfl | rfl | rfl | rfl | rfl | rfl | rfl | rfl | rfl
    · refine W_t (by decide) ?_
      refine W_t (rfl) ?_
      refine W_t (inB_n (n := 45) (by omega) (by decide)) ?_
      rw [c45', r9]
      exact fin _ (by unfold aState; rw [if_pos (by decide)])
    · refine W_t (by decide) ?_
      refine W_f (by decide) ?_
      refine W_t (rfl) ?_
      refine W_t (inB_n (n := 43) (by omega) (by decide)) ?_
      rw [c43', r7]
      refine W_if (fun z => ?_) (fun z => ?_)
      · have z := (pys_pos (ptn_lt _)).mp z
        exact fin _ (by unfold aState; rw [if_neg (by decide), if_pos (by decide), if_pos z])
      · have z := fun y => z ((pys_pos (ptn_lt _)).mpr y)
        refine W_t (inB_n (n := 42) (by omega) (by decide)) ?_
        rw [c42, r6]
        exact fin _ (by unfold aState; rw [if_neg (by decide), if_pos (by decide), if_neg z])
    · refine W_t (by decide) ?_
      refine W_f (by decide) ?_
      refine W_f (by decide) ?_
      refine W_t (rfl) ?_
      refine W_t (inB_n (n := 44) (by omega) (by decide)) ?_
      rw [c44', r8]
      exact fin _ (by unfold aState; rw [if_neg (by decide), if_neg (by decide), if_pos (by decide)])
    · refine W_t (by decide) ?_
      refine W_f (by decide) ?_
      refine W_f (by decide) ?_
      refine W_f (by decide) ?_
      refine W_t (rfl) ?_
      refine W_t (inB_n (n := 43) (by omega) (by decide)) ?_
      rw [c43', r7]
      refine fin _ ?_
      unfold aState
      rw [if_neg (by decide), if_neg (by decide), if_neg (by decide), if_pos (by decide)]
      unfold pys
      by_cases z : actsL T (pw (posA T E A)) (ptn (posA T E A)) = []
      · rw [if_pos z, if_pos z, c1, pk_sub (by omega), Nat.add_sub_cancel_left]
      · rw [if_neg z, if_neg z]; rfl
    · refine W_t (by decide) ?_
      refine W_f (by decide) ?_
      refine W_f (by decide) ?_
      refine W_f (by decide) ?_
      refine W_f (by decide) ?_
      refine W_t (inB_n (n := 46) (by omega) (by decide)) ?_
      rw [c46', r10]
      exact fin _ (by unfold aState; rw [if_neg (by decide), if_neg (by decide), if_neg (by decide), if_neg (by decide), if_pos (by decide)])
    · refine W_f (by decide) ?_
      refine W_t (by decide) ?_
      rw [show ((47 : Int32) + nI 5) - 5 = nI 47 by decide +kernel]
      refine W_t (inB_n (n := 47) (by omega) (by decide)) ?_
      rw [nI_clamp (by omega), s0]
      exact fin _ (by unfold aState; rw [if_neg (by decide), if_neg (by decide), if_neg (by decide), if_neg (by decide), if_neg (by decide), if_pos (by decide)])
    · refine W_f (by decide) ?_
      refine W_t (by decide) ?_
      rw [show ((47 : Int32) + nI 6) - 5 = nI 48 by decide +kernel]
      refine W_t (inB_n (n := 48) (by omega) (by decide)) ?_
      rw [nI_clamp (by omega), s1]
      exact fin _ (by unfold aState; rw [if_neg (by decide), if_neg (by decide), if_neg (by decide), if_neg (by decide), if_neg (by decide), if_neg (by decide), if_pos (by decide)])
    · refine W_f (by decide) ?_
      refine W_f (by decide) ?_
      refine W_t (by decide) ?_
      rw [show ((40 : Int32) + nI 7) - 7 = nI 40 by decide +kernel]
      refine W_t (inB_n (n := 40) (by omega) (by decide)) ?_
      rw [nI_clamp (by omega), r50]
      exact fin _ (by unfold aState; rw [if_neg (by decide), if_neg (by decide), if_neg (by decide), if_neg (by decide), if_neg (by decide), if_neg (by decide), if_neg (by decide), if_pos (by decide)])
    · refine W_f (by decide) ?_
      refine W_f (by decide) ?_
      refine W_t (by decide) ?_
      rw [show ((40 : Int32) + nI 8) - 7 = nI 41 by decide +kernel]
      refine W_t (inB_n (n := 41) (by omega) (by decide)) ?_
      rw [nI_clamp (by omega), r51]
      exact fin _ (by unfold aState; rw [if_neg (by decide), if_neg (by decide), if_neg (by decide), if_neg (by decide), if_neg (by decide), if_neg (by decide), if_neg (by decide), if_neg (by decide), if_pos (by decide)])
    · refine W_f (by decide) ?_
      refine W_f (by decide) ?_
      refine W_f (by decide) ?_
      refine W_Ie (f162 (d := d) h1) ?_
      rintro v S2 ⟨rfl, f2⟩
      have f2' : Fr TaP nol S1 S2 := f2.weak (fun a k z => ⟨z.1, Or.inr z.2⟩) (fun a k z => z)
      refine ⟨(f1.tr f2').mono, _, rfl, f1.tr f2', fun _ => ⟨?_, ?_⟩, fun z => absurd q z⟩
      · rw [f2.1 _ _ (by show ¬ (_ ∧ _); omega)]; exact g0
      · unfold aState
        rw [if_neg (by decide), if_neg (by decide), if_neg (by decide), if_neg (by decide), if_neg (by decide), if_neg (by decide), if_neg (by decide), if_neg (by decide), if_neg (by decide)]
set_option maxRecDepth 4096 in
theorem f164 {d : Nat} {x1 x2 : Int32} (h : RI0 S tp T E A mk) : Sp (F (d + 6) 164 [.ref 39, .int x1, .int x2] S) (fun v S' => ∃ y, v = some (.int y) ∧ y = aAct T (pw (posA T E A)) (ptn (posA T E A)) x1 x2 ∧ Fr TaP nol S S') := by
  obtain ⟨hT, hok, hday⟩ := h.ok
  refine fw164 (w164_0 ?_)
  refine W_t (h.1.k39) ?_
  refine W_s fun S1 e1 => ?_
  have f1 : Fr TaP nol S S1 := by rw [e1]; exact Fr.putI ⟨rfl, Or.inl rfl⟩
  have h1 := h.fr f1 TaP_s
  have hM := h1.1
  obtain ⟨⟨hr, h43, -, -⟩, -⟩ := h1.row
  refine W_I (f114) ?_
  refine W_if (fun q => ?_) (fun q => ?_)
  · rw [bi_0] at q
    refine ⟨f1.mono, _, rfl, ?_, f1⟩
    unfold aAct
    by_cases z : x1 < 0
    · rw [if_pos z]
    · rw [if_neg z]
      cases (actsL T (pw (posA T E A)) (ptn (posA T E A)))[x1.toNatClampNeg]? with
      | none => rfl
      | some a =>
        show _ = aAct1 a x2
        unfold aAct1
        rw [if_neg, if_neg, if_neg]
        · rintro rfl; exact q ⟨by decide, by decide⟩
        · rintro rfl; exact q ⟨by decide, by decide⟩
        · rintro rfl; exact q ⟨by decide, by decide⟩
  rw [bi_0] at q
  have q := Classical.not_not.mp q
  obtain ⟨n, hn, rfl⟩ := wi_n (k := 2) q.1 q.2 (by decide)
  simp only [hM.k39, hM.r39_36, hM.k63, hM.n63, z0c, eq_self, if_true, Nat.reduceAdd, true_and]
  refine W_t (inB_n (n := 43) (by omega) (by decide)) ?_
  rw [c43, h43]
  refine W_if (fun q2 => ?_) (fun q2 => ?_)
  · have q2 := (pys_pos (ptn_lt _)).mp q2
    refine ⟨f1.mono, _, rfl, ?_, f1⟩
    unfold aAct
    rw [q2]
    split <;> rfl
  refine W_Ie (f152 (o := 0) (d := d) (x2 := x1) hM h1.2.2.1 hr (by omega) hok.1 (ptn_lt _)) ?_
  rintro v S2 ⟨rfl, f2, ha⟩
  have f2' : Fr TaP nol S1 S2 := f2.weak (fun a k z => ⟨z.1, Or.inr z.2⟩) (fun a k z => z)
  have fa := f1.tr f2'
  refine W_if (fun q3 => ?_) (fun q3 => ?_)
  · rw [bi_0] at q3
    refine ⟨fa.mono, _, rfl, ?_, fa⟩
    unfold aAct
    by_cases z : x1 < 0
    · rw [if_pos z]
    · rw [if_neg z, List.getElem?_eq_none (Nat.not_lt.mp fun y => q3 ⟨z, y⟩)]
  rw [bi_0] at q3
  obtain ⟨z1, z2⟩ := Classical.not_not.mp q3
  have hg : (actsL T (pw (posA T E A)) (ptn (posA T E A)))[x1.toNatClampNeg]? = some ((actsL T (pw (posA T E A)) (ptn (posA T E A)))[x1.toNatClampNeg]) := List.getElem?_eq_getElem z2
  generalize (actsL T (pw (posA T E A)) (ptn (posA T E A)))[x1.toNatClampNeg] = a at hg
  obtain ⟨a1, a2, a3⟩ := ha a z1 hg
  have ea : aAct T (pw (posA T E A)) (ptn (posA T E A)) x1 (nI n) = aAct1 a (nI n) := by
    unfold aAct
    rw [if_neg z1, hg]
  rw [ea]
  have hM2 := hM.fr f2
  simp only [hM2.k39, z0c, eq_self, if_true, Nat.reduceAdd, true_and]
  unfold aAct1
  refine W_if (fun q4 => ?_) (fun q4 => ?_)
  · exact ⟨fa.mono, _, rfl, by rw [if_pos q4, a1], fa⟩
  rw [if_neg q4]
  refine W_if (fun q5 => ?_) (fun q5 => ?_)
  · exact ⟨fa.mono, _, rfl, by rw [if_pos q5, a2], fa⟩
  · have e2 : nI n = 2 := by
      rcases (show n = 0 ∨ n = 1 ∨ n = 2 by omega) with rfl | rfl | rfl
      · exact absurd rfl q4
      · exact absurd rfl q5
      · rfl
    exact ⟨fa.mono, _, rfl, by rw [if_neg q5, if_pos e2, a3], fa⟩
set_option maxRecDepth 4096 in
/-- isSmall -/
theorem f165 {d : Nat} (hM : ShM S) (hR : RT S T) : F (d + 1) 165 [.ref 39] S = some (some (.int (bi (small T))), S) := by
  have hT := hR.1
  have hW := hT.1
  have hH := hT.2.1
  refine fq165 (w165_0 ?_)
  have two : ∀ (c : Nat), c ≤ tW T → (tH T + 1) ^ c < 2 ^ 31 → ((tH T + 1) ^ c ≤ 256 ↔ (tH T + 1) ^ tW T ≤ 256) → ∀ x2 : Int32, WP (P165 (F d)) (2, [.ref 39, .int (nI ((tH T + 1) ^ c)), .int x2], [], S) (fun r S' => r = some (.int (bi (small T))) ∧ S' = S) := by
    intro c hc hlt hiff x2
    refine w165_2 ?_
    simp only [hM.k39, hM.r39_10, hM.k41, hM.n41, z0c, eq_self, if_true, Nat.reduceAdd, true_and]
    refine W_t (in0 (by decide) (by decide)) ?_
    rw [hR.2.1]
    refine W_if (fun q => ?_) (fun q => ?_)
    · rw [c5, i_lt (by decide) (by omega)] at q
      exact W_b (Or.inl rfl) ⟨by rw [bi_f (fun z => by have := z.1; omega)], rfl⟩
    rw [c5, i_lt (by decide) (by omega)] at q
    refine W_if (fun q2 => ?_) (fun q2 => ?_)
    · rw [show (256 : Int32) = nI 256 from rfl, i_lt (by decide) hlt] at q2
      exact W_b (Or.inl rfl) ⟨by rw [bi_f (fun z => by have := hiff.mpr z.2; omega)], rfl⟩
    · rw [show (256 : Int32) = nI 256 from rfl, i_lt (by decide) hlt] at q2
      exact W_b (Or.inr rfl) ⟨by rw [bi_t ⟨by omega, hiff.mp (by omega)⟩], rfl⟩
  have key : ∀ (n c : Nat), n = tW T - c → c ≤ tW T → (tH T + 1) ^ c ≤ 256 * 7 → WP (P165 (F d)) (1, [.ref 39, .int (nI ((tH T + 1) ^ c)), .int (nI c)], [], S) (fun r S' => r = some (.int (bi (small T))) ∧ S' = S) := by
    intro n
    induction n with
    | zero =>
      intro c hn hc hb
      have e : c = tW T := by omega
      subst e
      refine w165_1 ?_
      simp only [hM.k39, hM.r39_10, hM.k41, hM.n41, z0c, eq_self, if_true, Nat.reduceAdd, true_and]
      refine W_t (in0 (by decide) (by decide)) ?_
      rw [hR.2.1]
      refine W_f (by rw [i_lt (by omega) (by omega)]; omega) ?_
      exact two (tW T) hc (by omega) Iff.rfl _
    | succ n ih =>
      intro c hn hc hb
      refine w165_1 ?_
      simp only [hM.k39, hM.r39_10, hM.k41, hM.n41, hM.r39_11, hM.k42, hM.n42, z0c, eq_self, if_true, Nat.reduceAdd, true_and]
      refine W_t (in0 (by decide) (by decide)) ?_
      rw [hR.2.1]
      refine W_t (by rw [i_lt (by omega) (by omega)]; omega) ?_
      refine W_if (fun q => ?_) (fun q => ?_)
      · rw [show (256 : Int32) = nI 256 from rfl, i_lt (by decide) (by omega)] at q
        have hmono : (tH T + 1) ^ c ≤ (tH T + 1) ^ tW T := Nat.pow_le_pow_right (by omega) hc
        exact two c hc (by omega) ⟨fun z => by omega, fun z => by omega⟩ _
      · rw [show (256 : Int32) = nI 256 from rfl, i_lt (by decide) (by omega)] at q
        refine W_t (in0 (by decide) (by decide)) ?_
        rw [hR.2.2.1, nI_1, pk_mul, nI_1]
        refine W_si fun v e => ?_
        rw [e, ← Nat.pow_succ]
        show WP _ _ _
        refine ih (c + 1) (by omega) (by omega) ?_
        rw [Nat.pow_succ]
        exact Nat.mul_le_mul (by omega) (by omega)
  have := key (tW T) 0 (by omega) (by omega) (by simp)
  rw [Nat.pow_zero] at this
  exact this
set_option maxRecDepth 4096 in
theorem f188 {d : Nat} {x : Int32} (h : RI0 S tp T E A mk) : Sp (F (d + 2) 188 [.ref 39, .int x] S) (fun v S' => ∃ y, v = some (.int y) ∧ y = aCount tp T A x ∧ Fr ThP nol S S') := by
  obtain ⟨hT, hok, hday⟩ := h.ok
  refine fw188 (w188_0 ?_)
  refine W_t (h.1.k39) ?_
  refine W_s fun S1 e1 => ?_
  have f1 : Fr ThP nol S S1 := by rw [e1]; exact Fr.putI ⟨rfl, rfl⟩
  have h1 := h.fr f1 ThP_s
  have hM := h1.1
  have hR := h1.2.2.1
  refine W_I (f114) ?_
  unfold aCount
  refine W_if (fun q => ?_) (fun q => ?_)
  · rw [bi_0] at q
    refine ⟨f1.mono, _, rfl, ?_, f1⟩
    rw [if_neg, if_neg, if_neg, if_neg, if_neg, if_neg]
    · rintro rfl; exact q ⟨by decide, by decide⟩
    · rintro rfl; exact q ⟨by decide, by decide⟩
    · rintro rfl; exact q ⟨by decide, by decide⟩
    · rintro rfl; exact q ⟨by decide, by decide⟩
    · rintro rfl; exact q ⟨by decide, by decide⟩
    · rintro rfl; exact q ⟨by decide, by decide⟩
  rw [bi_0] at q
  have q := Classical.not_not.mp q
  obtain ⟨n, hn, rfl⟩ := wi_n (k := 5) q.1 q.2 (by decide)
  simp only [hM.k39, hM.r39_10, hM.k41, hM.n41, hM.r39_11, hM.k42, hM.n42, hM.r39_12, hM.k43, hM.n43, z0c, eq_self, if_true, Nat.reduceAdd, true_and]
  refine W_if (fun q0 => ?_) (fun q0 => ?_)
  · refine W_t (in0 (by decide) (by decide)) ?_
    exact ⟨f1.mono, _, rfl, by rw [if_pos q0, hR.2.1], f1⟩
  rw [if_neg q0]
  refine W_if (fun q1 => ?_) (fun q1 => ?_)
  · refine W_t (in0 (by decide) (by decide)) ?_
    exact ⟨f1.mono, _, rfl, by rw [if_pos q1, hR.2.2.1], f1⟩
  rw [if_neg q1]
  refine W_if (fun q2 => ?_) (fun q2 => ?_)
  · refine W_t (in0 (by decide) (by decide)) ?_
    exact ⟨f1.mono, _, rfl, by rw [if_pos q2, hR.2.2.2.1], f1⟩
  rw [if_neg q2]
  refine W_if (fun q3 => ?_) (fun q3 => ?_)
  · refine W_I (f165 hM hR) ?_
    rw [if_pos q3]
    refine W_if (fun z => ?_) (fun z => ?_)
    · exact ⟨f1.mono, _, rfl, z.symm, f1⟩
    · exact ⟨f1.mono, _, rfl, (bi_01.resolve_left z).symm, f1⟩
  rw [if_neg q3]
  refine W_if (fun q4 => ?_) (fun q4 => ?_)
  · exact ⟨f1.mono, _, rfl, by rw [if_pos q4, h1.2.2.2.2.2.1], f1⟩
  · have e2 : nI n = 5 := by
      rcases (show n = 0 ∨ n = 1 ∨ n = 2 ∨ n = 3 ∨ n = 4 ∨ n = 5 by omega) with rfl | rfl | rfl | rfl | rfl | rfl
      · exact absurd rfl q0
      · exact absurd rfl q1
      · exact absurd rfl q2
      · exact absurd rfl q3
      · exact absurd rfl q4
      · rfl
    exact ⟨f1.mono, _, rfl, by rw [if_neg q4, if_pos e2, h1.2.1.1], f1⟩
set_option maxRecDepth 4096 in
theorem f113 {d : Nat} (hM : ShM S) : F (d + 1) 113 [.ref 39] S = some (some (.int (gI S 39 0)), S) := by
  refine fq113 (w113_0 ?_)
  simp only [hM.k39, z0c, eq_self, if_true, Nat.reduceAdd, true_and]
  exact ⟨rfl, rfl⟩
/-- byte k of three longs -/
def fdB (a b c k : Nat) : Nat := (if k < 8 then a else if k < 16 then b else c) / 2 ^ (56 - 8 * (k % 8)) % 256
def fdR (a b c : Nat) : Nat → List Nat → List Nat
  | 0, tp => tp
  | m + 1, tp => fdR a b c m (tk1 tp (fdB a b c (23 - m)))
theorem fdR_fed (a b c : Nat) (tp : List Nat) : fdR a b c 24 tp = fed tp a b c := rfl
theorem fe_byte2 {n k : Nat} (hn : n < 2 ^ 64) (hk : k < 24) : Int64.toInt32 (((lN n).toUInt64 >>> (((56 : Int32) - ((8 : Int32) * (nI k &&& 7))).toInt64.toUInt64 &&& Int64.toUInt64 63)).toInt64 &&& 255) = nI (n / 2 ^ (56 - 8 * (k % 8)) % 256) := by
  have e : (56 : Int32) - ((8 : Int32) * (nI k &&& 7)) = nI (56 - 8 * (k % 8)) := by
    rw [show (7 : Int32) = nI (2 ^ 3 - 1) from rfl, tw_and _ 3 (by decide), c8, pk_mul, show (56 : Int32) = nI 56 from rfl, pk_sub (by omega)]
  have hd : n / 2 ^ (56 - 8 * (k % 8)) < 2 ^ 64 := Nat.lt_of_le_of_lt (Nat.div_le_self _ _) hn
  rw [e, wb_shr hn (by omega), show (255 : Int64) = lN (2 ^ 8 - 1) from rfl, wb_mask hd (by decide), lN_i]
abbrev FdP : Nat → Nat → Prop := fun a k => a = 40 ∨ (a = 39 ∧ (k = 0 ∨ k = 1))
set_option maxRecDepth 4096 in
theorem f115_loop {d a b c : Nat} {S0 : St} (hM0 : ShM S0) (ha : a < 2 ^ 64) (hb : b < 2 ^ 64) (hc : c < 2 ^ 64) : ∀ (m : Nat) (tp : List Nat) (S : St), m ≤ 24 → Fr FdP nol S0 S → TapR S tp → (∀ v, v ∈ tp → v = 10 ∨ (32 ≤ v ∧ v ≤ 126)) → ∀ z2 z4 z6 z8 z9 z10 : Value, WP (P115 (F d)) (1, [.ref 39, .long (lN a), z2, .long (lN b), z4, .long (lN c), z6, .int (nI (24 - m)), z8, z9, z10], [], S) (fun v S' => ∃ y, v = some (.int y) ∧ y = nI (fdR a b c m tp).length ∧ Fr FdP nol S0 S' ∧ TapR S' (fdR a b c m tp)) := by
  intro m
  induction m with
  | zero =>
    intro tp S hm f ht hv z2 z4 z6 z8 z9 z10
    have hM := hM0.fr f
    refine w115_1 ?_
    refine W_f (by decide +kernel) ?_
    simp only [hM.k39, z0c, eq_self, if_true, Nat.reduceAdd, true_and]
    exact ⟨_, rfl, ht.1, f, ht⟩
  | succ m ih =>
    intro tp S hm f ht hv z2 z4 z6 z8 z9 z10
    have hM := hM0.fr f
    have ek : 24 - (m + 1) = 23 - m := by omega
    have hs : fdB a b c (23 - m) < 256 := Nat.mod_lt _ (by decide)
    have hl := ht.2.2
    rw [ek]
    have back : ∀ (tp' : List Nat) (S' : St) (z6 z9 : Value) (x8 : Int64) (x10 : Int32), tp' = tk1 tp (fdB a b c (23 - m)) → Fr FdP nol S0 S' → TapR S' tp' → (∀ v, v ∈ tp' → v = 10 ∨ (32 ≤ v ∧ v ≤ 126)) → WP (P115 (F d)) (4, [.ref 39, .long (lN a), z2, .long (lN b), z4, .long (lN c), z6, .int (nI (23 - m)), .long x8, z9, .int x10], [], S') (fun v S' => ∃ y, v = some (.int y) ∧ y = nI (fdR a b c (m + 1) tp).length ∧ Fr FdP nol S0 S' ∧ TapR S' (fdR a b c (m + 1) tp)) := by
      intro tp' S' z6 z9 x8 x10 e f' ht' hv'
      refine w115_4 ?_
      show WP _ _ _
      rw [nI_1, show 23 - m + 1 = 24 - m by omega]
      have := ih tp' S' (by omega) f' ht' hv' z2 z4 (jk z6) (.long x8) z9 (.int x10)
      rw [e] at this
      exact this
    have two : ∀ (n : Nat), n < 2 ^ 64 → n / 2 ^ (56 - 8 * ((23 - m) % 8)) % 256 = fdB a b c (23 - m) → WP (P115 (F d)) (2, [.ref 39, .long (lN a), z2, .long (lN b), z4, .long (lN c), z6, .int (nI (23 - m)), z8, z9, z10], [.long (lN n)], S) (fun v S' => ∃ y, v = some (.int y) ∧ y = nI (fdR a b c (m + 1) tp).length ∧ Fr FdP nol S0 S' ∧ TapR S' (fdR a b c (m + 1) tp)) := by
      intro n hn he
      refine w115_2 ?_
      refine W_si fun v ev => ?_
      rw [fe_byte2 hn (by omega), he] at ev
      subst ev
      simp only [hM.k39, z0c, eq_self, if_true, Nat.reduceAdd, true_and]
      rw [ht.1]
      generalize hsv : fdB a b c (23 - m) = s at *
      have no : ¬ ((s = 10 ∨ (32 ≤ s ∧ s ≤ 126)) ∧ tp.length < 1000) → ∀ (z6 z9 : Value) (x8 : Int64), WP (P115 (F d)) (4, [.ref 39, .long (lN a), z2, .long (lN b), z4, .long (lN c), z6, .int (nI (23 - m)), .long x8, z9, .int (nI s)], [], S) (fun v S' => ∃ y, v = some (.int y) ∧ y = nI (fdR a b c (m + 1) tp).length ∧ Fr FdP nol S0 S' ∧ TapR S' (fdR a b c (m + 1) tp)) := fun hno z6 z9 x8 => back tp S z6 z9 x8 _ (by unfold tk1; rw [if_neg hno]) f ht hv
      refine W_if (fun q => ?_) (fun q => ?_)
      · rw [show (1000 : Int32) = nI 1000 from rfl, i_lt (by omega) (by decide)] at q
        have yes : (s = 10 ∨ (32 ≤ s ∧ s ≤ 126)) → ∀ (z6 z9 : Value) (x8 : Int64), WP (P115 (F d)) (3, [.ref 39, .long (lN a), z2, .long (lN b), z4, .long (lN c), z6, .int (nI (23 - m)), .long x8, z9, .int (nI s)], [], S) (fun v S' => ∃ y, v = some (.int y) ∧ y = nI (fdR a b c (m + 1) tp).length ∧ Fr FdP nol S0 S' ∧ TapR S' (fdR a b c (m + 1) tp)) := by
          intro hok z6 z9 x8
          refine w115_3 ?_
          simp only [hM.k39, hM.r39_2, hM.k40, hM.n40, z0c, eq_self, if_true, Nat.reduceAdd, true_and]
          rw [ht.1]
          refine W_t (inB_n q (by decide)) ?_
          rw [nI_clamp (by omega)]
          refine W_s fun S1 g1 => ?_
          have f1 : Fr FdP nol S S1 := by rw [g1]; exact Fr.putI (Or.inl rfl)
          have hM1 := hM.fr f1
          simp only [hM1.k39, z0c, eq_self, if_true, Nat.reduceAdd, true_and]
          have t1 : gI S1 39 1 = nI tp.length := by rw [g1, gI_pI, if_neg (by omega)]; exact ht.1
          rw [t1, nI_1]
          refine W_s fun S2 g2 => ?_
          have f2 : Fr FdP nol S1 S2 := by rw [g2]; exact Fr.putI (Or.inr ⟨rfl, Or.inr rfl⟩)
          show WP _ _ _
          refine back (tp ++ [s]) S2 z6 z9 x8 _ (by unfold tk1; rw [if_pos ⟨hok, q⟩]) ((f.tr f1).tr f2) ⟨?_, HL.app (fun i v hv' => ?_) ?_, by rw [List.length_append]; show tp.length + 1 ≤ 1000; omega⟩ (fun v hv' => ?_)
          · rw [g2, gI_pI, if_pos ⟨rfl, rfl⟩, List.length_append]
            rfl
          · have := (List.getElem?_eq_some_iff.mp hv').1
            rw [g2, gI_pI, if_neg (by omega), g1, gI_pI, if_neg (by omega)]
            exact ht.2.1 i v hv'
          · rw [g2, gI_pI, if_neg (by omega), g1, gI_pI, if_pos ⟨rfl, rfl⟩]
          · rcases List.mem_append.mp hv' with z | z
            · exact hv v z
            · rw [List.mem_singleton.mp z]; exact hok
        refine W_if (fun q1 => ?_) (fun q1 => ?_)
        · rw [c10, i_eq (by omega) (by decide)] at q1
          exact yes (Or.inl q1) _ _ _
        rw [c10, i_eq (by omega) (by decide)] at q1
        refine W_if (fun q2 => ?_) (fun q2 => ?_)
        · rw [show (32 : Int32) = nI 32 from rfl, i_lt (by omega) (by decide)] at q2
          exact no (fun z => by omega) _ _ _
        rw [show (32 : Int32) = nI 32 from rfl, i_lt (by omega) (by decide)] at q2
        refine W_if (fun q3 => ?_) (fun q3 => ?_)
        · rw [show (126 : Int32) = nI 126 from rfl, i_lt (by decide) (by omega)] at q3
          exact no (fun z => by omega) _ _ _
        · rw [show (126 : Int32) = nI 126 from rfl, i_lt (by decide) (by omega)] at q3
          exact yes (by omega) _ _ _
      · rw [show (1000 : Int32) = nI 1000 from rfl, i_lt (by omega) (by decide)] at q
        exact no (fun z => q z.2) _ _ _
    refine w115_1 ?_
    refine W_t (by rw [show (24 : Int32) = nI 24 from rfl, i_lt (by omega) (by decide)]; omega) ?_
    refine W_if (fun q1 => ?_) (fun q1 => ?_)
    · rw [c8, i_lt (by omega) (by decide)] at q1
      exact two a ha (by unfold fdB; rw [if_pos q1])
    rw [c8, i_lt (by omega) (by decide)] at q1
    refine W_if (fun q2 => ?_) (fun q2 => ?_)
    · rw [show (16 : Int32) = nI 16 from rfl, i_lt (by omega) (by decide)] at q2
      exact two b hb (by unfold fdB; rw [if_neg q1, if_pos q2])
    · rw [show (16 : Int32) = nI 16 from rfl, i_lt (by omega) (by decide)] at q2
      exact two c hc (by unfold fdB; rw [if_neg q1, if_neg q2])
set_option maxRecDepth 4096 in
theorem f115 {d a b c : Nat} (h : RI0 S tp T E A mk) (hv : ∀ v, v ∈ tp → v = 10 ∨ (32 ≤ v ∧ v ≤ 126)) (ha : a < 2 ^ 64) (hb : b < 2 ^ 64) (hc : c < 2 ^ 64) : Sp (F (d + 1) 115 [.ref 39, .long (lN a), .long (lN b), .long (lN c)] S) (fun v S' => ∃ y, v = some (.int y) ∧ y = nI (fed tp a b c).length ∧ Fr FdP nol S S' ∧ RI0 S' (fed tp a b c) T E A mk) := by
  refine fw115 (w115_0 ?_)
  refine W_t (h.1.k39) ?_
  refine W_s fun S1 e1 => ?_
  have f1 : Fr FdP nol S S1 := by rw [e1]; exact Fr.putI (Or.inr ⟨rfl, Or.inl rfl⟩)
  have f0 : Fr ThP nol S S1 := by rw [e1]; exact Fr.putI ⟨rfl, rfl⟩
  have h1 := h.fr f0 ThP_s
  show WP _ _ _
  refine WP.mono (f115_loop (d := d) h1.1 ha hb hc 24 tp S1 (by omega) Fr.rf h1.2.1 hv .null .null .null .null .null .null) ?_
  rintro v S' ⟨y, r1, r2, r3, r4⟩
  rw [fdR_fed] at r2 r4
  refine ⟨(f1.tr r3).mono, y, r1, r2, f1.tr r3, ?_⟩
  obtain ⟨q1, q2, q3, q4, q5, q6, q7, q8, q9⟩ := h1
  have n : ∀ {a k}, ¬ (a = 40 ∨ (a = 39 ∧ (k = 0 ∨ k = 1))) → gI S' a k = gI S1 a k := fun z => r3.1 _ _ z
  exact ⟨q1.fr r3, r4, q3.fr r3 (fun a k z y => by rcases z with z | z <;> omega), q4.fr r3 (fun a k z y => by rcases z with z | z <;> omega), q5.cg (fun k hk => n (by omega)), by rw [n (by omega)]; exact q6, fun j hj => (q7 j hj).cg (fun k hk => n (by omega)), fun i hi => (q8 i hi).fr r3 (fun a k z y => by rcases z with z | z <;> omega), q9⟩
end RIB
