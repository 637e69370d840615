/-! numbers as the machine has them; lists in cells; isAsTold, gather, power -/
theorem c0 : (0 : Int32) = nI 0 := rfl
theorem c1 : (1 : Int32) = nI 1 := rfl
theorem c2 : (2 : Int32) = nI 2 := rfl
theorem c3 : (3 : Int32) = nI 3 := rfl
theorem c4 : (4 : Int32) = nI 4 := rfl
theorem c5 : (5 : Int32) = nI 5 := rfl
theorem c6 : (6 : Int32) = nI 6 := rfl
theorem c7 : (7 : Int32) = nI 7 := rfl
theorem c8 : (8 : Int32) = nI 8 := rfl
theorem c9 : (9 : Int32) = nI 9 := rfl
theorem c10 : (10 : Int32) = nI 10 := rfl
theorem c_ofNat (n : Nat) : Int32.ofNat n = nI n := rfl
theorem i_le {a b : Nat} (ha : a < 2 ^ 31) (hb : b < 2 ^ 31) : nI a ≤ nI b ↔ a ≤ b := nI_leI ha hb
theorem inB_n {n N : Nat} (h : n < N) (hN : N < 2 ^ 31) : inB (nI n) N := by
  show 0 ≤ (nI n).toInt ∧ (nI n).toInt < (N : Int)
  rw [nI_toInt (by omega)]
  omega
theorem i_cases (x : Int32) : x < 0 ∨ (¬ x < 0 ∧ ∃ n, n < 2 ^ 31 ∧ x = nI n) := by
  by_cases h : x < 0
  · exact Or.inl h
  · exact Or.inr ⟨h, nI_of h⟩
theorem clamp_neg {x : Int32} (h : x < 0) : x.toNatClampNeg = 0 := by
  have h2 : x.toInt < 0 := by
    have := Int32.lt_iff_toInt_lt.mp h
    simpa using this
  show x.toInt.toNat = 0
  omega
theorem nI_n0 {n : Nat} (h : n < 2 ^ 31) : ¬ nI n < 0 := nI_pos h
/-- a stone as told -/
abbrev told (T : TD) (s c b : Nat) : Prop := s < tN T ∧ c < tW T ∧ ((tK T s = 5 ∧ 1 ≤ b ∧ b ≤ tB T s) ∨ (tK T s ≠ 5 ∧ b = tB T s ∧ ¬ (tK T s = 3 ∧ c = tW T - 1 - c)))
theorem lt_nI {x : Int32} {b : Nat} (h0 : ¬ x < 0) (hb : b < 2 ^ 31) : x < nI b ↔ x.toNatClampNeg < b := by
  obtain ⟨n, hn, rfl⟩ := nI_of h0
  rw [nI_clamp hn, i_lt hn hb]
theorem f62 {d t : Nat} {x1 x2 x3 : Int32} {S : St} {T : TD} (hT : TA S t T) : F (d + 2) 62 [.ref t, .int x1, .int x2, .int x3] S = some (some (.int (bi (¬ x1 < 0 ∧ ¬ x2 < 0 ∧ told T x1.toNatClampNeg x2.toNatClampNeg x3.toNatClampNeg))), S) := by
  have hK : gK S t = 5 := hT.2.1
  have h0 : gI S t 0 = nI (tW T) := hT.2.2.1
  have h3 : gI S t 3 = nI (tN T) := hT.2.2.2.2.2.1
  obtain ⟨k1, k2, k3⟩ := hT.2.2.2.2.2.2.1
  obtain ⟨l1, l2, l3⟩ := hT.2.2.2.2.2.2.2
  have hW := hT.1.1
  have hN := hT.1.2.2.2.1
  refine fq62 (w62_0 ?_)
  refine W_if (fun g1 => ?_) (fun g1 => ?_)
  · exact W_b (Or.inl rfl) ⟨by rw [bi_f (fun z => z.1 g1)], rfl⟩
  obtain ⟨s, hs, rfl⟩ := nI_of g1
  refine W_t (hK) ?_
  rw [h3]
  refine W_if (fun g2 => ?_) (fun g2 => ?_)
  rotate_left
  · simp (disch := omega) only [c0, c1, c2, c3, c4, c5, c6, c7, c8, c9, c10, c_ofNat, i_lt, i_eq, i_le] at g2
    exact W_b (Or.inl rfl) ⟨by rw [bi_f (fun z => by rw [nI_clamp hs] at z; exact g2 z.2.2.1)], rfl⟩
  simp (disch := omega) only [c0, c1, c2, c3, c4, c5, c6, c7, c8, c9, c10, c_ofNat, i_lt, i_eq, i_le] at g2
  refine W_if (fun g3 => ?_) (fun g3 => ?_)
  · exact W_b (Or.inl rfl) ⟨by rw [bi_f (fun z => z.2.1 g3)], rfl⟩
  obtain ⟨c, hc, rfl⟩ := nI_of g3
  refine W_t (hK) ?_
  rw [h0]
  refine W_if (fun g4 => ?_) (fun g4 => ?_)
  rotate_left
  · simp (disch := omega) only [c0, c1, c2, c3, c4, c5, c6, c7, c8, c9, c10, c_ofNat, i_lt, i_eq, i_le] at g4
    exact W_b (Or.inl rfl) ⟨by rw [bi_f (fun z => by rw [nI_clamp hs, nI_clamp hc] at z; exact g4 z.2.2.2.1)], rfl⟩
  simp (disch := omega) only [c0, c1, c2, c3, c4, c5, c6, c7, c8, c9, c10, c_ofNat, i_lt, i_eq, i_le] at g4
  have hks := hT.1.2.2.2.2 s g2
  refine W_t (hK) ?_
  refine W_t (⟨k1, by rw [k2]; exact inB_n (by omega) (by decide)⟩) ?_
  rw [nI_clamp hs, k3 s g2]
  have hB : ∀ z : Value, ∀ y0 : Int32, (y0 = bi (tK T s = 3 ∧ c = tW T - 1 - c)) → tK T s ≠ 5 → WP (P62 (F (d + 1))) (2, [.ref t, .int (nI s), .int (nI c), .int x3, z], [.int y0], S) (fun r S' => r = some (.int (bi (¬ nI s < 0 ∧ ¬ nI c < 0 ∧ told T s (nI c).toNatClampNeg x3.toNatClampNeg))) ∧ S' = S) := by
    intro z y0 hy h5
    refine w62_2 ?_
    refine W_t (hK) ?_
    refine W_t (⟨l1, by rw [l2]; exact inB_n (by omega) (by decide)⟩) ?_
    rw [nI_clamp hs, l3 s g2]
    refine W_if (fun q => ?_) (fun q => ?_)
    · have e : x3.toNatClampNeg = tB T s := by rw [q, nI_clamp (by omega)]
      refine W_if (fun q2 => ?_) (fun q2 => ?_)
      · refine W_b (Or.inr rfl) ⟨?_, rfl⟩
        rw [hy, bi_0] at q2
        rw [bi_t ⟨g1, g3, g2, by rw [nI_clamp hc]; exact g4, Or.inr ⟨h5, e, by rw [nI_clamp hc]; exact q2⟩⟩]
      · refine W_b (Or.inl rfl) ⟨?_, rfl⟩
        rw [hy, bi_0] at q2
        rw [bi_f]
        rintro ⟨-, -, -, -, (z | z)⟩
        · exact h5 z.1
        · rw [nI_clamp hc] at z
          exact q2 z.2.2
    · refine W_b (Or.inl rfl) ⟨?_, rfl⟩
      rw [bi_f]
      rintro ⟨-, -, -, -, (z | z)⟩
      · exact h5 z.1
      · refine q ?_
        have h3 : ¬ x3 < 0 := fun y => by have := clamp_neg y; omega
        obtain ⟨b, hb, rfl⟩ := nI_of h3
        rw [nI_clamp hb] at z
        rw [z.2.1]
  refine W_if (fun g5 => ?_) (fun g5 => ?_)
  · have g5 : tK T s = 5 := (i_eq (b := 5) (by omega) (by decide)).mp g5
    refine W_if (fun q1 => ?_) (fun q1 => ?_)
    · refine W_b (Or.inl rfl) ⟨?_, rfl⟩
      rw [bi_f]
      rintro ⟨-, -, -, -, (z | z)⟩
      · have h3 : ¬ x3 < 0 := fun y => by have := clamp_neg y; omega
        obtain ⟨b, hb, rfl⟩ := nI_of h3
        simp (disch := omega) only [c0, c1, c2, c3, c4, c5, c6, c7, c8, c9, c10, c_ofNat, i_lt, i_eq, i_le] at q1
        rw [nI_clamp hb] at z
        omega
      · exact z.1 g5
    · have h3 : ¬ x3 < 0 := fun y => q1 (by
        have := Int32.lt_iff_toInt_lt.mp y
        apply Int32.lt_iff_toInt_lt.mpr
        have e : (1 : Int32).toInt = 1 := by decide
        have e0 : (0 : Int32).toInt = 0 := by decide
        omega)
      obtain ⟨b, hb, rfl⟩ := nI_of h3
      simp (disch := omega) only [c0, c1, c2, c3, c4, c5, c6, c7, c8, c9, c10, c_ofNat, i_lt, i_eq, i_le] at q1
      refine W_t (hK) ?_
      refine W_t (⟨l1, by rw [l2]; exact inB_n (by omega) (by decide)⟩) ?_
      rw [l3 s g2]
      refine W_if (fun q2 => ?_) (fun q2 => ?_)
      · simp (disch := omega) only [c0, c1, c2, c3, c4, c5, c6, c7, c8, c9, c10, c_ofNat, i_lt, i_eq, i_le] at q2
        refine W_b (Or.inl rfl) ⟨?_, rfl⟩
        rw [bi_f]
        rintro ⟨-, -, -, -, (z | z)⟩
        · rw [nI_clamp hb] at z; omega
        · exact z.1 g5
      · simp (disch := omega) only [c0, c1, c2, c3, c4, c5, c6, c7, c8, c9, c10, c_ofNat, i_lt, i_eq, i_le] at q2
        refine W_b (Or.inr rfl) ⟨?_, rfl⟩
        rw [bi_t ⟨g1, g3, g2, by rw [nI_clamp hc]; exact g4, Or.inl ⟨g5, by rw [nI_clamp hb]; omega, by rw [nI_clamp hb]; omega⟩⟩]
  · have g5 : tK T s ≠ 5 := fun z => g5 ((i_eq (b := 5) (by omega) (by decide)).mpr z)
    refine W_t (hK) ?_
    refine W_t (⟨k1, by rw [k2]; exact inB_n (by omega) (by decide)⟩) ?_
    refine W_if (fun q => ?_) (fun q => ?_)
    · simp (disch := omega) only [c0, c1, c2, c3, c4, c5, c6, c7, c8, c9, c10, c_ofNat, i_lt, i_eq, i_le] at q
      refine W_t (hK) ?_
      refine W_I (f63 hT g4) ?_
      refine W_if (fun q2 => ?_) (fun q2 => ?_)
      · simp (disch := omega) only [c0, c1, c2, c3, c4, c5, c6, c7, c8, c9, c10, c_ofNat, i_lt, i_eq, i_le] at q2
        exact hB .null 1 (bi_t ⟨q, q2⟩).symm g5
      · simp (disch := omega) only [c0, c1, c2, c3, c4, c5, c6, c7, c8, c9, c10, c_ofNat, i_lt, i_eq, i_le] at q2
        show WP _ _ _
        refine w62_1 ?_
        exact hB .null 0 (bi_f (fun z => q2 z.2)).symm g5
    · simp (disch := omega) only [c0, c1, c2, c3, c4, c5, c6, c7, c8, c9, c10, c_ofNat, i_lt, i_eq, i_le] at q
      show WP _ _ _
      refine w62_1 ?_
      exact hB .null 0 (bi_f (fun z => q z.1)).symm g5
/-- an act that could be done on some wall -/
abbrev cand (T : TD) (a : Nat) : Prop := (a / 64 = 6 ∧ a % 4 = 0 ∧ a / 4 % 16 < tW T ∧ 0 < tG T) ∨ (told T (a / 64) (a / 4 % 16) (a % 4 + 1) ∧ (tK T (a / 64) = 3 ∨ a / 4 % 16 + (a % 4 + 1) ≤ tW T))
def candL (T : TD) : List Nat := (List.range 448).filter (fun a => decide (cand T a))
/-- a cell holds a list of numbers -/
def HL (S : St) (a : Nat) (L : List Nat) : Prop := ∀ i v, L[i]? = some v → gI S a i = nI v
/-- cell t is a truce, whole -/
def TC (S : St) (t : Nat) (T : TD) : Prop := TA S t T ∧ gK S (gR S t 8) = 100 ∧ gN S (gR S t 8) = (candL T).length ∧ HL S (gR S t 8) (candL T)
theorem cand_va {T : TD} (hT : okT T) {a : Nat} (h : cand T a) : vaA T a := by
  rcases h with h | h
  · exact Or.inl ⟨h.1, h.2.2.1⟩
  · obtain ⟨⟨h1, h2, h3⟩, -⟩ := h
    refine Or.inr ⟨h1, h2, fun hk => ?_⟩
    have := (hT.2.2.2.2 _ h1).2.2.2.1 hk
    rcases h3 with z | z
    · omega
    · omega
theorem candL_mem {T : TD} {a : Nat} : a ∈ candL T ↔ a < 448 ∧ cand T a := by
  unfold candL
  rw [List.mem_filter, List.mem_range, decide_eq_true_iff]
theorem rf_ext {p : Nat → Bool} {n : Nat} : ∀ {m : Nat}, n ≤ m → (∀ a, n ≤ a → a < m → p a = false) → (List.range m).filter p = (List.range n).filter p
  | 0, h, _ => by rw [show n = 0 by omega]
  | m + 1, h, hp => by
    by_cases e : n = m + 1
    · rw [e]
    · rw [List.range_succ, List.filter_append, rf_ext (m := m) (by omega) (fun a h1 h2 => hp a h1 (by omega))]
      simp [hp m (by omega) (by omega)]
theorem rf_succ {p : Nat → Bool} {n : Nat} (h : p n = true) : (List.range (n + 1)).filter p = (List.range n).filter p ++ [n] := by
  rw [List.range_succ, List.filter_append]
  simp [h]
theorem HL.app {S : St} {a x : Nat} {L : List Nat} (h : HL S a L) (hx : gI S a L.length = nI x) : HL S a (L ++ [x]) := by
  intro i v hv
  by_cases e : i < L.length
  · rw [List.getElem?_append_left e] at hv; exact h i v hv
  · rw [List.getElem?_append_right (by omega)] at hv
    by_cases e2 : i - L.length = 0
    · rw [e2] at hv
      have e3 : i = L.length := by omega
      have : x = v := by simpa using hv
      rw [e3, hx, this]
    · rw [List.getElem?_eq_none (by simp; omega)] at hv
      cases hv
theorem HL.fr {S S' : St} {a : Nat} {L : List Nat} {P Q : Nat → Nat → Prop} (h : HL S a L) (hf : Fr P Q S S') (hn : ∀ k, k < L.length → ¬ P a k) : HL S' a L := by
  intro i v hv
  have hi : i < L.length := (List.getElem?_eq_some_iff.mp hv).1
  rw [hf.1 a i (hn i hi)]
  exact h i v hv
theorem TA.fr {S S' : St} {t : Nat} {T : TD} {P Q : Nat → Nat → Prop} (h : TA S t T) (hf : Fr P Q S S') (h1 : ∀ k, ¬ P t k) (h2 : ∀ k, ¬ P (gR S t 4) k) (h3 : ∀ k, ¬ P (gR S t 5) k) : TA S' t T := by
  obtain ⟨o, a, b, c, d, e, ⟨f1, f2, f3⟩, g1, g2, g3⟩ := h
  refine ⟨o, by rw [hf.K]; exact a, by rw [hf.1 _ _ (h1 _)]; exact b, by rw [hf.1 _ _ (h1 _)]; exact c, by rw [hf.1 _ _ (h1 _)]; exact d, by rw [hf.1 _ _ (h1 _)]; exact e, ⟨by rw [hf.R, hf.K]; exact f1, by rw [hf.R, hf.N]; exact f2, fun i hi => by rw [hf.R, hf.1 _ _ (h2 _)]; exact f3 i hi⟩, by rw [hf.R, hf.K]; exact g1, by rw [hf.R, hf.N]; exact g2, fun i hi => by rw [hf.R, hf.1 _ _ (h3 _)]; exact g3 i hi⟩
theorem TC.fr {S S' : St} {t : Nat} {T : TD} {P Q : Nat → Nat → Prop} (h : TC S t T) (hf : Fr P Q S S') (h1 : ∀ k, ¬ P t k) (h2 : ∀ k, ¬ P (gR S t 4) k) (h3 : ∀ k, ¬ P (gR S t 5) k) (h4 : ∀ k, ¬ P (gR S t 8) k) : TC S' t T :=
  ⟨h.1.fr hf h1 h2 h3, by rw [hf.R, hf.K]; exact h.2.1, by rw [hf.R, hf.N]; exact h.2.2.1, by rw [hf.R]; exact h.2.2.2.fr hf (fun k _ => h4 k)⟩
/-- the acts that can be done, in order -/
def actsL (T : TD) (w tn : Nat) : List Nat := (candL T).filter (fun a => decide (canA T w tn a))
theorem candL_len (T : TD) : (candL T).length ≤ 448 := by
  unfold candL
  exact Nat.le_trans (List.length_filter_le _ _) (by simp)
theorem f60 {d : Nat} {b e : Nat} {S : St} (he : e < 2 ^ 31) : F (d + 1) 60 [.int (nI b), .int (nI e)] S = some (some (.int (nI (b ^ e))), S) := by
  refine fq60 (w60_0 ?_)
  have key : ∀ n i, n = e - i → i ≤ e → WP (P60 (F d)) (1, [.int (nI b), .int (nI e), .int (nI (b ^ i)), .int (nI i)], [], S) (fun r S' => r = some (.int (nI (b ^ e))) ∧ S' = S) := by
    intro n
    induction n with
    | zero =>
      intro i hn hi
      have : i = e := by omega
      subst this
      refine w60_1 ?_
      refine W_f (by rw [i_lt he he]; omega) ?_
      exact ⟨rfl, rfl⟩
    | succ n ih =>
      intro i hn hi
      refine w60_1 ?_
      refine W_t (by rw [i_lt (by omega) he]; omega) ?_
      rw [pk_mul, nI_1]
      exact ih (i + 1) (by omega) (by omega)
  exact key e 0 (by omega) (by omega)
set_option maxRecDepth 4096 in
/-- a place of the first k candidates that pass is put into a row -/
theorem f72_loop {d t w tn r : Nat} {S0 : St} {T : TD} (hT : TC S0 t T) (hw : w < 2 ^ 42) (ht : tn < 2) (hg : gbit w tn ≤ tG T) (hr : gK S0 r = 100) (hn : gN S0 r = 250) (hc : (candL T).length ≤ 250) (d1 : r ≠ t) (d2 : r ≠ gR S0 t 4) (d3 : r ≠ gR S0 t 5) (d4 : r ≠ gR S0 t 8) : ∀ (m i : Nat) (S : St), m = (candL T).length - i → i ≤ (candL T).length → Fr (fun a _ => a = r) nol S0 S → HL S r (((candL T).take i).filter (fun a => decide (canA T w tn a))) → ∀ z2 : Value, WP (P72 (F (d + 4))) (1, [.ref t, .long (lN w), z2, .int (nI tn), .ref r, .int (nI (((candL T).take i).filter (fun a => decide (canA T w tn a))).length), .int (nI i)], [], S) (fun v S' => v = some (.int (nI (actsL T w tn).length)) ∧ Fr (fun a _ => a = r) nol S0 S' ∧ HL S' r (actsL T w tn)) := by
  intro m
  induction m with
  | zero =>
    intro i S hm hi hf hl z2
    have e : i = (candL T).length := by omega
    subst e
    have hT' := hT.fr hf (fun k z => d1 z.symm) (fun k z => d2 z.symm) (fun k z => d3 z.symm) (fun k z => d4 z.symm)
    rw [List.take_length] at hl ⊢
    refine w72_1 ?_
    refine W_t (hT'.1.2.1) ?_
    refine W_t (by rw [hT'.2.1]; decide) ?_
    rw [hT'.2.2.1]
    refine W_f (by rw [c_ofNat, i_lt (by omega) (by omega)]; omega) ?_
    exact ⟨rfl, hf, hl⟩
  | succ m ih =>
    intro i S hm hi hf hl z2
    have hT' := hT.fr hf (fun k z => d1 z.symm) (fun k z => d2 z.symm) (fun k z => d3 z.symm) (fun k z => d4 z.symm)
    have hilt : i < (candL T).length := by omega
    have hlen : (((candL T).take i).filter (fun a => decide (canA T w tn a))).length ≤ i := Nat.le_trans (List.length_filter_le _ _) (by simp; omega)
    obtain ⟨a, ha⟩ : ∃ a, (candL T)[i]? = some a := ⟨_, List.getElem?_eq_getElem hilt⟩
    have hget : gI S (gR S t 8) i = nI a := hT'.2.2.2 i _ ha
    have hva : vaA T a := cand_va hT.1.1 (candL_mem.mp (List.mem_of_getElem? ha)).2
    have htk : (candL T).take (i + 1) = (candL T).take i ++ [a] := by rw [List.take_add_one, ha]; rfl
    refine w72_1 ?_
    refine W_t (hT'.1.2.1) ?_
    refine W_t (by rw [hT'.2.1]; decide) ?_
    rw [hT'.2.2.1]
    refine W_t (by rw [c_ofNat, i_lt (by omega) (by omega)]; omega) ?_
    refine W_t (by rw [hf.K, hr]; decide) ?_
    rw [hf.N, hn]
    refine W_t (by rw [c_ofNat, i_lt (by omega) (by omega)]; omega) ?_
    refine W_t (hT'.1.2.1) ?_
    refine W_t (⟨hT'.2.1, inB_n hilt (by omega)⟩) ?_
    refine W_t (hT'.1.2.1) ?_
    rw [nI_clamp (by omega), hget]
    refine W_I (f71 hT'.1 hw ht hg hva) ?_
    refine W_if (fun q => ?_) (fun q => ?_)
    · rw [bi_0] at q
      show WP _ _ _
      refine w72_2 ?_
      show WP _ _ _
      rw [nI_1]
      have e2 : ((candL T).take (i + 1)).filter (fun a => decide (canA T w tn a)) = ((candL T).take i).filter (fun a => decide (canA T w tn a)) := by
        rw [htk, List.filter_append]
        simp [q]
      have := ih (i + 1) S (by omega) (by omega) hf (by rw [e2]; exact hl) z2
      rw [e2] at this
      exact this
    · rw [bi_0] at q
      have q := Classical.not_not.mp q
      refine W_t (hT'.1.2.1) ?_
      refine W_t (⟨hT'.2.1, by rw [hT'.2.2.1]; exact inB_n hilt (by omega)⟩) ?_
      refine W_t (⟨by rw [hf.K, hr], by rw [hf.N, hn]; exact inB_n (by omega) (by decide)⟩) ?_
      refine W_s fun S3 e3 => ?_
      show WP _ _ _
      refine w72_2 ?_
      show WP _ _ _
      rw [nI_1, nI_1]
      have e2 : ((candL T).take (i + 1)).filter (fun a => decide (canA T w tn a)) = ((candL T).take i).filter (fun a => decide (canA T w tn a)) ++ [a] := by
        rw [htk, List.filter_append]
        simp [q]
      have hf3 : Fr (fun a _ => a = r) nol S S3 := by rw [e3]; exact Fr.putI rfl
      have hl3 : HL S3 r (((candL T).take (i + 1)).filter (fun a => decide (canA T w tn a))) := by
        rw [e2]
        have hL := hl
        refine HL.app (fun j v hj => ?_) ?_
        · have hjl := (List.getElem?_eq_some_iff.mp hj).1
          rw [e3, gI_pI, if_neg (by rintro ⟨-, rfl⟩; rw [nI_clamp (by omega)] at hjl; omega)]
          exact hl j v hj
        · rw [e3, gI_pI, if_pos ⟨rfl, (nI_clamp (by omega)).symm⟩, hget]
      have := ih (i + 1) S3 (by omega) (by omega) (hf.tr hf3) hl3 z2
      rw [e2, List.length_append] at this
      rw [e2] at hl3
      exact this
theorem f72 {d t w tn r : Nat} {S : St} {T : TD} (hT : TC S t T) (hw : w < 2 ^ 42) (ht : tn < 2) (hg : gbit w tn ≤ tG T) (hr : gK S r = 100) (hn : gN S r = 250) (hc : (candL T).length ≤ 250) (d1 : r ≠ t) (d2 : r ≠ gR S t 4) (d3 : r ≠ gR S t 5) (d4 : r ≠ gR S t 8) : Sp (F (d + 5) 72 [.ref t, .long (lN w), .int (nI tn), .ref r] S) (fun v S' => ∃ x, v = some (.int x) ∧ x = nI (actsL T w tn).length ∧ Fr (fun a _ => a = r) nol S S' ∧ HL S' r (actsL T w tn)) := by
  refine fw72 (w72_0 ?_)
  have h0 := f72_loop (d := d) hT hw ht hg hr hn hc d1 d2 d3 d4 (candL T).length 0 S (by omega) (by omega) Fr.rf (fun i v hv => by simp at hv) .null
  refine WP.mono h0 ?_
  rintro r' S' ⟨rfl, h1, h2⟩
  exact ⟨h1.mono, _, rfl, rfl, h1, h2⟩
