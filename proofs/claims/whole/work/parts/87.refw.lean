/-! the reference's questions to a token -/
section REF
variable {S S' : St} {tp : List Nat} {p c : Nat}
set_option maxRecDepth 4096 in
theorem b27_inj : ∀ (n : Nat) (l m : List Nat), l.length = n → (∀ c ∈ l, 97 ≤ c ∧ c ≤ 122) → (∀ c ∈ m, 97 ≤ c ∧ c ≤ 122) → b27 l = b27 m → l = m := by
  intro n
  induction n with
  | zero =>
    intro l m hl h1 h2 e
    have : l = [] := List.eq_nil_of_length_eq_zero hl
    subst this
    rcases List.eq_nil_or_concat m with z | ⟨m', c, z⟩
    · exact z.symm
    · rw [List.concat_eq_append] at z
      subst z
      rw [b27_s] at e
      have := h2 c (List.mem_append_right _ List.mem_cons_self)
      have h0 : b27 [] = 0 := rfl
      omega
  | succ n ih =>
    intro l m hl h1 h2 e
    rcases List.eq_nil_or_concat l with z | ⟨l', a, z⟩
    · rw [z] at hl; cases hl
    · rw [List.concat_eq_append] at z
      subst z
      have ha := h1 a (List.mem_append_right _ List.mem_cons_self)
      rw [b27_s] at e
      rcases List.eq_nil_or_concat m with z | ⟨m', c, z⟩
      · subst z
        have h0 : b27 [] = 0 := rfl
        omega
      · rw [List.concat_eq_append] at z
        subst z
        have hc := h2 c (List.mem_append_right _ List.mem_cons_self)
        rw [b27_s] at e
        have e1 : a = c := by omega
        have e2 : b27 l' = b27 m' := by omega
        rw [List.length_append] at hl
        rw [ih l' m' (by have : [a].length = 1 := rfl; omega) (fun x hx => h1 x (List.mem_append_left _ hx)) (fun x hx => h2 x (List.mem_append_left _ hx)) e2, e1]
set_option maxRecDepth 4096 in
theorem b27_lt' : ∀ (l : List Nat) (v : Nat), (∀ c ∈ l, 97 ≤ c ∧ c ≤ 122) → l.foldl (fun v c => v * 27 + (c - 96)) v < (v + 1) * 27 ^ l.length
  | [], v, h => by
    show v < _
    simp
  | c :: l, v, h => by
    have h1 := b27_lt' l (v * 27 + (c - 96)) (fun x hx => h x (List.mem_cons_of_mem _ hx))
    have h2 := h c List.mem_cons_self
    rw [List.foldl_cons, List.length_cons, Nat.pow_succ]
    refine Nat.lt_of_lt_of_le h1 ?_
    rw [Nat.mul_comm (27 ^ l.length) 27, ← Nat.mul_assoc]
    exact Nat.mul_le_mul_right _ (by omega)
set_option maxRecDepth 4096 in
theorem b27_lt {l : List Nat} (h : ∀ c ∈ l, 97 ≤ c ∧ c ≤ 122) (hl : l.length ≤ 8) : b27 l < 2 ^ 62 := by
  have h1 := b27_lt' l 0 h
  rw [Nat.zero_add, Nat.one_mul] at h1
  refine Nat.lt_of_lt_of_le h1 (Nat.le_trans (Nat.pow_le_pow_right (by decide) hl) (by decide))
theorem lN_inj {a b : Nat} (ha : a < 2 ^ 64) (hb : b < 2 ^ 64) (e : lN a = lN b) : a = b := by
  have this : (lN a).toBitVec.toNat = (lN b).toBitVec.toNat := by rw [e]
  rw [wb_tn ha, wb_tn hb] at this
  exact this
set_option maxRecDepth 4096 in
theorem b27_eq {l m : List Nat} (h : ∀ c ∈ l, 97 ≤ c ∧ c ≤ 122) (hl : l.length ≤ 8) (h2 : ∀ c ∈ m, 97 ≤ c ∧ c ≤ 122) (hm : m.length ≤ 8) : lN (b27 l) = lN (b27 m) ↔ l = m := by
  constructor
  · intro e
    have a1 := b27_lt h hl
    have a2 := b27_lt h2 hm
    exact b27_inj _ l m rfl h h2 (lN_inj (by omega) (by omega) e)
  · intro e; rw [e]
theorem tkK_1 : tkK c = 1 ↔ 128 ≤ c ∧ c ≠ 257 ∧ c ≠ 258 ∧ c ≠ 259 := by
  unfold tkK
  split
  · omega
  · split
    · omega
    · split
      · omega
      · split
        · omega
        · omega
theorem tkK_3 : tkK c = 3 ↔ c < 128 := by
  unfold tkK
  split
  · omega
  · split
    · omega
    · split
      · omega
      · split
        · omega
        · omega
theorem tkK_2 : tkK c = 2 ↔ c = 257 := by
  unfold tkK
  split
  · omega
  · split
    · omega
    · split
      · omega
      · split
        · omega
        · omega
theorem tkK_0 : tkK c = 0 ↔ c = 259 := by
  unfold tkK
  split
  · omega
  · split
    · omega
    · split
      · omega
      · split
        · omega
        · omega
theorem tkK_lt : tkK c ≤ 4 := by
  unfold tkK
  split
  · omega
  · split
    · omega
    · split
      · omega
      · split
        · omega
        · omega
/-- what the word's number says -/
theorem LxR.wd {i : Nat} {W : Int64} (h : LxR S tp p) (h1 : tkK (tkC tp p) = 1) (hi : i < 17) (hW : W = lN (b27 (WL.getD i []))) : lg_cmp (gL S 39 7) W = 0 ↔ tkC tp p = 128 + i := by
  obtain ⟨a1, a2, a3, a4⟩ := h.2.2.2.1 h1
  rw [lg_cmp_eq, a1, hW, b27_eq a3 a2 (wl_l i hi).2 (by have := (wl_l i hi).1; omega), a4]
  exact (kw_iff (i := i) (by rw [gD2 _ hi]; exact List.getElem?_eq_getElem hi)).symm
set_option maxRecDepth 4096 in
theorem f118 {d i : Nat} {W : Int64} (hM : ShM S) (h : LxR S tp p) (hi : i < 17) (hW : W = lN (b27 (WL.getD i []))) : F (d + 1) 118 [.ref 39, .long W] S = some (some (.int (bi (tkC tp p = 128 + i))), S) := by
  refine fq118 (w118_0 ?_)
  refine W_t (hM.k39) ?_
  rw [h.2.2.1]
  have hlt := tkK_lt (c := tkC tp p)
  refine W_if (fun q => ?_) (fun q => ?_)
  · rw [c1, i_eq (by omega) (by decide)] at q
    refine W_t (hM.k39) ?_
    refine W_if (fun q2 => ?_) (fun q2 => ?_)
    · refine W_t (by decide) ?_
      rw [h.wd q hi hW] at q2
      exact ⟨by rw [bi_t q2], rfl⟩
    · refine W_t (by decide) ?_
      rw [h.wd q hi hW] at q2
      exact ⟨by rw [bi_f q2], rfl⟩
  · rw [c1, i_eq (by omega) (by decide), tkK_1] at q
    refine W_t (by decide) ?_
    exact ⟨by rw [bi_f (by omega)], rfl⟩
set_option maxRecDepth 4096 in
theorem f119 {d s : Nat} (hR : RdM S tp) (h : LxR S tp p) (hs : s < 128) : F (d + 1) 119 [.ref 39, .int (nI s)] S = some (some (.int (bi (tkC tp p = s))), S) := by
  have hM := hR.1
  have hln := hR.2.2.2.1
  refine fq119 (w119_0 ?_)
  simp only [hM.k39, hM.r39_2, hM.k40, hM.n40, z0c, eq_self, if_true, Nat.reduceAdd, true_and]
  rw [h.2.2.1, h.1]
  have hlt := tkK_lt (c := tkC tp p)
  refine W_if (fun q => ?_) (fun q => ?_)
  · rw [c3, i_eq (by omega) (by decide), tkK_3] at q
    have hc := h.2.2.2.2.2 q
    obtain ⟨b1, b2, b3⟩ := hR.lt hc
    refine W_t (inB_n (by omega) (by decide)) ?_
    rw [nI_clamp (by omega), b3]
    refine W_if (fun q2 => ?_) (fun q2 => ?_)
    · rw [i_eq (by omega) (by omega)] at q2
      refine W_t (by decide) ?_
      exact ⟨by rw [bi_t q2], rfl⟩
    · rw [i_eq (by omega) (by omega)] at q2
      refine W_t (by decide) ?_
      exact ⟨by rw [bi_f q2], rfl⟩
  · rw [c3, i_eq (by omega) (by decide), tkK_3] at q
    refine W_t (by decide) ?_
    exact ⟨by rw [bi_f (by omega)], rfl⟩
set_option maxRecDepth 4096 in
/-- the fault of a kind at a place -/
theorem f120 {d k : Nat} (hM : ShM S) (h : LxR S tp p) : F (d + 1) 120 [.ref 39, .int (nI k)] S = some (some (.int 0), pI S 39 9 (nI (k + 16 * tkA tp p))) := by
  refine Sp.eq (fw120 (w120_0 ?_))
  simp only [sl, si, sj, gK_pI, gN_pI, gR_pI, hM.k39, z0c, eq_self, if_true, Nat.reduceAdd, true_and, h.1]
  refine W_t (by decide) ?_
  refine ⟨⟨Nat.le_refl _, Nat.le_refl _⟩, rfl, ?_⟩
  rw [show (16 : Int32) = nI 16 from rfl, pk_mul, nI_add]
set_option maxRecDepth 4096 in
theorem f121 {d k : Nat} {x : Int32} (hM : ShM S) (h : gI S 39 20 = nI k) (hk : k < 6000) : F (d + 1) 121 [.ref 39, .int x] S = some (none, pI (pI S 50 k x) 39 20 (nI (k + 1))) := by
  refine Sp.eq (fw121 (w121_0 ?_))
  simp only [sl, si, sj, gK_pI, gN_pI, gR_pI, hM.k39, hM.r39_19, hM.k50, hM.n50, z0c, eq_self, if_true, Nat.reduceAdd, true_and, h, gI_pI]
  refine W_t (inB_n hk (by decide)) ?_
  rw [nI_clamp (by omega), if_neg (by omega), nI_1]
  exact ⟨⟨Nat.le_refl _, Nat.le_refl _⟩, rfl, rfl⟩
set_option maxRecDepth 4096 in
theorem f122 {d : Nat} (hM : ShM S) (h : LxR S tp p) : F (d + 1) 122 [.ref 39] S = some (some (.int (nI (if 138 ≤ tkC tp p ∧ tkC tp p ≤ 141 then tkC tp p - 137 else 0))), S) := by
  have hlt := tkK_lt (c := tkC tp p)
  refine fq122 (w122_0 ?_)
  refine W_t (hM.k39) ?_
  rw [h.2.2.1]
  refine W_if (fun q => ?_) (fun q => ?_)
  · rw [c1, i_eq (by omega) (by decide)] at q
    refine W_t (hM.k39) ?_
    refine W_if (fun q1 => ?_) (fun q1 => ?_)
    · rw [h.wd q (i := 10) (by decide) (by decide)] at q1
      exact ⟨by rw [q1]; rfl, rfl⟩
    rw [h.wd q (i := 10) (by decide) (by decide)] at q1
    refine W_t (hM.k39) ?_
    refine W_if (fun q2 => ?_) (fun q2 => ?_)
    · rw [h.wd q (i := 11) (by decide) (by decide)] at q2
      exact ⟨by rw [q2]; rfl, rfl⟩
    rw [h.wd q (i := 11) (by decide) (by decide)] at q2
    refine W_t (hM.k39) ?_
    refine W_if (fun q3 => ?_) (fun q3 => ?_)
    · rw [h.wd q (i := 12) (by decide) (by decide)] at q3
      exact ⟨by rw [q3]; rfl, rfl⟩
    rw [h.wd q (i := 12) (by decide) (by decide)] at q3
    refine W_t (hM.k39) ?_
    refine W_if (fun q4 => ?_) (fun q4 => ?_)
    · rw [h.wd q (i := 13) (by decide) (by decide)] at q4
      exact ⟨by rw [q4]; rfl, rfl⟩
    rw [h.wd q (i := 13) (by decide) (by decide)] at q4
    exact ⟨by rw [if_neg (by omega)]; rfl, rfl⟩
  · rw [c1, i_eq (by omega) (by decide), tkK_1] at q
    exact ⟨by rw [if_neg (by omega)]; rfl, rfl⟩
set_option maxRecDepth 4096 in
theorem f131 {d : Nat} (hM : ShM S) (h : LxR S tp p) : F (d + 2) 131 [.ref 39] S = some (some (.int (if 132 ≤ tkC tp p ∧ tkC tp p ≤ 137 then nI (tkC tp p - 132) else -1)), S) := by
  refine fq131 (w131_0 ?_)
  refine W_t (hM.k39) ?_
  refine W_I (f118 hM h (i := 4) (by decide) (by decide)) ?_
  refine W_if (fun q1 => ?_) (fun q1 => ?_)
  rw [bi_0] at q1
  refine W_t (hM.k39) ?_
  refine W_I (f118 hM h (i := 5) (by decide) (by decide)) ?_
  refine W_if (fun q2 => ?_) (fun q2 => ?_)
  rw [bi_0] at q2
  refine W_t (hM.k39) ?_
  refine W_I (f118 hM h (i := 6) (by decide) (by decide)) ?_
  refine W_if (fun q3 => ?_) (fun q3 => ?_)
  rw [bi_0] at q3
  refine W_t (hM.k39) ?_
  refine W_I (f118 hM h (i := 7) (by decide) (by decide)) ?_
  refine W_if (fun q4 => ?_) (fun q4 => ?_)
  rw [bi_0] at q4
  refine W_t (hM.k39) ?_
  refine W_I (f118 hM h (i := 8) (by decide) (by decide)) ?_
  refine W_if (fun q5 => ?_) (fun q5 => ?_)
  rw [bi_0] at q5
  refine W_t (hM.k39) ?_
  refine W_I (f118 hM h (i := 9) (by decide) (by decide)) ?_
  refine W_if (fun q6 => ?_) (fun q6 => ?_)
  rw [bi_0] at q6
  · exact ⟨by rw [if_neg (by omega)], rfl⟩
  · rw [bi_0, Classical.not_not] at q6
    exact ⟨by rw [q6]; rfl, rfl⟩
  · rw [bi_0, Classical.not_not] at q5
    exact ⟨by rw [q5]; rfl, rfl⟩
  · rw [bi_0, Classical.not_not] at q4
    exact ⟨by rw [q4]; rfl, rfl⟩
  · rw [bi_0, Classical.not_not] at q3
    exact ⟨by rw [q3]; rfl, rfl⟩
  · rw [bi_0, Classical.not_not] at q2
    exact ⟨by rw [q2]; rfl, rfl⟩
  · rw [bi_0, Classical.not_not] at q1
    exact ⟨by rw [q1]; rfl, rfl⟩
set_option maxRecDepth 4096 in
theorem f128 {d : Nat} (hM : ShM S) (h : LxR S tp p) : F (d + 1) 128 [.ref 39] S = some (some (.int (bi (tkC tp p ≠ 256))), S) := by
  have hlt := tkK_lt (c := tkC tp p)
  have yes : tkC tp p ≠ 256 → WP (P128 (F d)) (1, [.ref 39], [], S) (fun r S' => r = some (.int (bi (tkC tp p ≠ 256))) ∧ S' = S) := by
    intro z
    refine w128_1 ?_
    refine W_t (by decide) ?_
    exact ⟨by rw [bi_t z], rfl⟩
  refine fq128 (w128_0 ?_)
  refine W_t (hM.k39) ?_
  rw [h.2.2.1]
  refine W_if (fun q => ?_) (fun q => ?_)
  · rw [c1, i_eq (by omega) (by decide)] at q
    have hk := kw_cases (tkW tp p)
    have ek := (h.2.2.2.1 q).2.2.2
    refine W_t (hM.k39) ?_
    refine W_if (fun q0 => ?_) (fun q0 => ?_)
    · rw [h.wd q (i := 0) (by decide) (by decide)] at q0
      exact yes (by omega)
    rw [h.wd q (i := 0) (by decide) (by decide)] at q0
    refine W_t (hM.k39) ?_
    refine W_if (fun q1 => ?_) (fun q1 => ?_)
    · rw [h.wd q (i := 1) (by decide) (by decide)] at q1
      exact yes (by omega)
    rw [h.wd q (i := 1) (by decide) (by decide)] at q1
    refine W_t (hM.k39) ?_
    refine W_if (fun q2 => ?_) (fun q2 => ?_)
    · rw [h.wd q (i := 2) (by decide) (by decide)] at q2
      exact yes (by omega)
    rw [h.wd q (i := 2) (by decide) (by decide)] at q2
    refine W_t (hM.k39) ?_
    refine W_if (fun q3 => ?_) (fun q3 => ?_)
    · rw [h.wd q (i := 3) (by decide) (by decide)] at q3
      exact yes (by omega)
    rw [h.wd q (i := 3) (by decide) (by decide)] at q3
    refine W_t (hM.k39) ?_
    refine W_if (fun q4 => ?_) (fun q4 => ?_)
    · rw [h.wd q (i := 4) (by decide) (by decide)] at q4
      exact yes (by omega)
    rw [h.wd q (i := 4) (by decide) (by decide)] at q4
    refine W_t (hM.k39) ?_
    refine W_if (fun q5 => ?_) (fun q5 => ?_)
    · rw [h.wd q (i := 5) (by decide) (by decide)] at q5
      exact yes (by omega)
    rw [h.wd q (i := 5) (by decide) (by decide)] at q5
    refine W_t (hM.k39) ?_
    refine W_if (fun q6 => ?_) (fun q6 => ?_)
    · rw [h.wd q (i := 6) (by decide) (by decide)] at q6
      exact yes (by omega)
    rw [h.wd q (i := 6) (by decide) (by decide)] at q6
    refine W_t (hM.k39) ?_
    refine W_if (fun q7 => ?_) (fun q7 => ?_)
    · rw [h.wd q (i := 7) (by decide) (by decide)] at q7
      exact yes (by omega)
    rw [h.wd q (i := 7) (by decide) (by decide)] at q7
    refine W_t (hM.k39) ?_
    refine W_if (fun q8 => ?_) (fun q8 => ?_)
    · rw [h.wd q (i := 8) (by decide) (by decide)] at q8
      exact yes (by omega)
    rw [h.wd q (i := 8) (by decide) (by decide)] at q8
    refine W_t (hM.k39) ?_
    refine W_if (fun q9 => ?_) (fun q9 => ?_)
    · rw [h.wd q (i := 9) (by decide) (by decide)] at q9
      exact yes (by omega)
    rw [h.wd q (i := 9) (by decide) (by decide)] at q9
    refine W_t (hM.k39) ?_
    refine W_if (fun q10 => ?_) (fun q10 => ?_)
    · rw [h.wd q (i := 10) (by decide) (by decide)] at q10
      exact yes (by omega)
    rw [h.wd q (i := 10) (by decide) (by decide)] at q10
    refine W_t (hM.k39) ?_
    refine W_if (fun q11 => ?_) (fun q11 => ?_)
    · rw [h.wd q (i := 11) (by decide) (by decide)] at q11
      exact yes (by omega)
    rw [h.wd q (i := 11) (by decide) (by decide)] at q11
    refine W_t (hM.k39) ?_
    refine W_if (fun q12 => ?_) (fun q12 => ?_)
    · rw [h.wd q (i := 12) (by decide) (by decide)] at q12
      exact yes (by omega)
    rw [h.wd q (i := 12) (by decide) (by decide)] at q12
    refine W_t (hM.k39) ?_
    refine W_if (fun q13 => ?_) (fun q13 => ?_)
    · rw [h.wd q (i := 13) (by decide) (by decide)] at q13
      exact yes (by omega)
    rw [h.wd q (i := 13) (by decide) (by decide)] at q13
    refine W_t (hM.k39) ?_
    refine W_if (fun q14 => ?_) (fun q14 => ?_)
    · rw [h.wd q (i := 14) (by decide) (by decide)] at q14
      exact yes (by omega)
    rw [h.wd q (i := 14) (by decide) (by decide)] at q14
    refine W_t (hM.k39) ?_
    refine W_if (fun q15 => ?_) (fun q15 => ?_)
    · rw [h.wd q (i := 15) (by decide) (by decide)] at q15
      exact yes (by omega)
    rw [h.wd q (i := 15) (by decide) (by decide)] at q15
    refine W_t (hM.k39) ?_
    refine W_if (fun q16 => ?_) (fun q16 => ?_)
    · rw [h.wd q (i := 16) (by decide) (by decide)] at q16
      exact yes (by omega)
    rw [h.wd q (i := 16) (by decide) (by decide)] at q16
    refine W_t (by decide) ?_
    exact ⟨by rw [bi_f (by omega)], rfl⟩
  · rw [c1, i_eq (by omega) (by decide), tkK_1] at q
    refine W_t (by decide) ?_
    exact ⟨by rw [bi_t (by omega)], rfl⟩
end REF
