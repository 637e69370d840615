/-! the reference's next token -/
def RdM (S : St) (tp : List Nat) : Prop := ShM S ∧ gI S 39 3 = nI tp.length ∧ HL S 40 tp ∧ tp.length ≤ 1000 ∧ ∀ v, v ∈ tp → v = 10 ∨ (32 ≤ v ∧ v ≤ 126)
def b27 (l : List Nat) : Nat := l.foldl (fun v c => v * 27 + (c - 96)) 0
set_option maxRecDepth 4096 in
theorem b27_s (l : List Nat) (c : Nat) : b27 (l ++ [c]) = b27 l * 27 + (c - 96) := by unfold b27; rw [List.foldl_append]; rfl
/-- the reference's kind of token -/
def tkK (c : Nat) : Nat := if c = 259 then 0 else if c = 258 then 4 else if c = 257 then 2 else if c < 128 then 3 else 1
def LxR (S : St) (tp : List Nat) (p : Nat) : Prop := gI S 39 5 = nI (tkA tp p) ∧ gI S 39 4 = nI (tkN tp p) ∧ gI S 39 6 = nI (tkK (tkC tp p)) ∧ (tkK (tkC tp p) = 1 → gL S 39 7 = lN (b27 (tkW tp p)) ∧ (tkW tp p).length ≤ 8 ∧ (∀ c ∈ tkW tp p, 97 ≤ c ∧ c ≤ 122) ∧ tkC tp p = kw (tkW tp p)) ∧ (tkC tp p = 257 → gI S 39 8 = nI (tkV tp p) ∧ tkV tp p < 10000) ∧ (tkC tp p < 128 → tp[tkA tp p]? = some (tkC tp p))
abbrev RxP : Nat → Nat → Prop := fun a k => a = 39 ∧ (k = 4 ∨ k = 5 ∨ k = 6 ∨ k = 8)
abbrev RxL : Nat → Nat → Prop := fun a k => a = 39 ∧ k = 7
section REF
variable {S S' : St} {tp : List Nat} {p c : Nat}
theorem RdM.fr {P L : Nat → Nat → Prop} (h : RdM S tp) (f : Fr P L S S') (hp : ∀ k, ¬ P 40 k) (h3 : ¬ P 39 3) : RdM S' tp :=
  ⟨h.1.of f.2.2, by rw [f.1 _ _ h3]; exact h.2.1, h.2.2.1.fr f (fun k _ => hp k), h.2.2.2⟩
theorem RdM.x (h : RdM S tp) (f : Fr RxP RxL S S') : RdM S' tp := h.fr f (fun k z => absurd z.1 (by decide)) (fun z => absurd z.2 (by decide))
theorem RdM.lt (h : RdM S tp) (hc : tp[p]? = some c) : p < tp.length ∧ c < 127 ∧ gI S 40 p = nI c := by
  have h1 := (List.getElem?_eq_some_iff.mp hc).1
  have h2 := h.2.2.2.2 c (List.mem_of_getElem? hc)
  exact ⟨h1, by omega, h.2.2.1 p c hc⟩
set_option maxRecDepth 4096 in
theorem f116 {d : Nat} (h : RdM S tp) (hp : p ≤ 1000) : F (d + 1) 116 [.ref 39, .int (nI p)] S = some (some (.int (nI (tp.getD p 0))), S) := by
  have hM := h.1
  have hn := h.2.2.2.1
  refine fq116 (w116_0 ?_)
  simp only [hM.k39, hM.r39_2, hM.k40, hM.n40, z0c, eq_self, if_true, Nat.reduceAdd, true_and]
  rw [h.2.1]
  simp (disch := omega) only [i_lt]
  refine W_if (fun q => ?_) (fun q => ?_)
  · obtain ⟨c, hc⟩ : ∃ c, tp[p]? = some c := ⟨_, List.getElem?_eq_getElem q⟩
    refine W_t (inB_n (by omega) (by decide)) ?_
    rw [nI_clamp (by omega), (h.lt hc).2.2]
    exact ⟨by rw [List.getD_eq_getElem?_getD, hc]; rfl, rfl⟩
  · exact ⟨by rw [List.getD_eq_getElem?_getD, List.getElem?_eq_none (by omega)]; rfl, rfl⟩
theorem wd_step {v : Nat} (hc : 96 ≤ c) (hc2 : c < 2 ^ 31) : ((lN v * 27) + (nI c).toInt64) - 96 = lN (v * 27 + (c - 96)) := by
  rw [show (27 : Int64) = lN 27 from rfl, show (96 : Int64) = lN 96 from rfl, nI_l (by omega), lN_mul, lN_add]
  rw [show v * 27 + c = (v * 27 + (c - 96)) + 96 by omega, ← lN_add]
  exact Int64.add_sub_cancel _ _
theorem gDs {l : List Nat} (h : l[p]? = some c) : l.getD p 0 = c := by rw [List.getD_eq_getElem?_getD, h]; rfl
theorem gDn {l : List Nat} (h : l.length ≤ p) : l.getD p 0 = 0 := by rw [List.getD_eq_getElem?_getD, List.getElem?_eq_none h]; rfl
set_option maxRecDepth 4096 in
/-- the loop over a word -/
theorem f117_w {d a : Nat} {S0 : St} (h0 : RdM S0 tp) : ∀ (n q : Nat) (S : St) (x1 : Int32), n = tp.length - q → a ≤ q → q ≤ tp.length → Fr RxP RxL S0 S → gI S 39 5 = nI a → gI S 39 4 = nI q → (q - a ≤ 8 → gL S 39 7 = lN (b27 (seg tp a q))) → wh ltr tp a = wh ltr tp q → WP (P117 (F (d + 1))) (3, [.ref 39, .int x1], [], S) (fun r S' => r = none ∧ Fr RxP RxL S0 S' ∧ gI S' 39 5 = nI a ∧ gI S' 39 4 = nI (wh ltr tp a) ∧ gI S' 39 6 = nI (if 8 < wh ltr tp a - a then 4 else 1) ∧ (wh ltr tp a - a ≤ 8 → gL S' 39 7 = lN (b27 (seg tp a (wh ltr tp a))))) := by
  have hln := h0.2.2.2.1
  intro n
  induction n with
  | zero =>
    intro q S x1 hn h1 h2 f e5 e4 e7 hw
    have hR := h0.x f
    have hM := hR.1
    have hq : wh ltr tp a = q := by rw [hw, wh_n (by omega)]
    refine w117_3 ?_
    simp only [hM.k39, z0c, eq_self, if_true, Nat.reduceAdd, true_and]
    rw [e4]
    refine W_I (f116 hR (by omega)) ?_
    rw [gDn (by omega)]
    refine W_t (by decide) ?_
    show WP _ _ _
    refine w117_5 ?_
    simp only [hM.k39, z0c, eq_self, if_true, Nat.reduceAdd, true_and]
    rw [e4, e5, pk_sub h1, c8]
    have last : ∀ y, y = (if 8 < wh ltr tp a - a then 4 else 1) → WP (P117 (F (d + 1))) (6, [.ref 39, .int x1], [.int (nI y), .ref 39], S) (fun r S' => r = none ∧ Fr RxP RxL S0 S' ∧ gI S' 39 5 = nI a ∧ gI S' 39 4 = nI (wh ltr tp a) ∧ gI S' 39 6 = nI (if 8 < wh ltr tp a - a then 4 else 1) ∧ (wh ltr tp a - a ≤ 8 → gL S' 39 7 = lN (b27 (seg tp a (wh ltr tp a))))) := by
      intro y hy
      refine w117_6 ?_
      simp only [sl, si, sj, gK_pI, gN_pI, gR_pI, hM.k39, z0c, eq_self, if_true, Nat.reduceAdd, true_and]
      refine ⟨rfl, f.tr (Fr.putI ⟨rfl, by decide⟩), ?_, ?_, ?_, fun h => ?_⟩
      · rw [gI_pI, if_neg (by decide)]; exact e5
      · rw [gI_pI, if_neg (by decide), hq]; exact e4
      · rw [gI_pI, if_pos ⟨rfl, rfl⟩, hy]
      · rw [gL_pI, hq]; exact e7 (by omega)
    simp (disch := omega) only [i_lt]
    refine W_if (fun z => ?_) (fun z => ?_)
    · exact last 4 (by rw [hq, if_pos z])
    · exact last 1 (by rw [hq, if_neg z])
  | succ n ih =>
    intro q S x1 hn h1 h2 f e5 e4 e7 hw
    have hR := h0.x f
    have hM := hR.1
    obtain ⟨c, hc⟩ : ∃ c, tp[q]? = some c := ⟨_, List.getElem?_eq_getElem (show q < tp.length by omega)⟩
    obtain ⟨b1, b2, b3⟩ := hR.lt hc
    have el : ltr c = true ↔ (97 ≤ c ∧ c ≤ 122) := by unfold ltr; exact decide_eq_true_iff
    have stop : ¬ ltr c = true → WP (P117 (F (d + 1))) (5, [.ref 39, .int x1], [], S) (fun r S' => r = none ∧ Fr RxP RxL S0 S' ∧ gI S' 39 5 = nI a ∧ gI S' 39 4 = nI (wh ltr tp a) ∧ gI S' 39 6 = nI (if 8 < wh ltr tp a - a then 4 else 1) ∧ (wh ltr tp a - a ≤ 8 → gL S' 39 7 = lN (b27 (seg tp a (wh ltr tp a))))) := by
      intro hb
      have hq : wh ltr tp a = q := by rw [hw, wh_e hc hb]
      refine w117_5 ?_
      simp only [hM.k39, z0c, eq_self, if_true, Nat.reduceAdd, true_and]
      rw [e4, e5, pk_sub h1, c8]
      have last : ∀ y, y = (if 8 < wh ltr tp a - a then 4 else 1) → WP (P117 (F (d + 1))) (6, [.ref 39, .int x1], [.int (nI y), .ref 39], S) (fun r S' => r = none ∧ Fr RxP RxL S0 S' ∧ gI S' 39 5 = nI a ∧ gI S' 39 4 = nI (wh ltr tp a) ∧ gI S' 39 6 = nI (if 8 < wh ltr tp a - a then 4 else 1) ∧ (wh ltr tp a - a ≤ 8 → gL S' 39 7 = lN (b27 (seg tp a (wh ltr tp a))))) := by
        intro y hy
        refine w117_6 ?_
        simp only [sl, si, sj, gK_pI, gN_pI, gR_pI, hM.k39, z0c, eq_self, if_true, Nat.reduceAdd, true_and]
        refine ⟨rfl, f.tr (Fr.putI ⟨rfl, by decide⟩), ?_, ?_, ?_, fun h => ?_⟩
        · rw [gI_pI, if_neg (by decide)]; exact e5
        · rw [gI_pI, if_neg (by decide), hq]; exact e4
        · rw [gI_pI, if_pos ⟨rfl, rfl⟩, hy]
        · rw [gL_pI, hq]; exact e7 (by omega)
      simp (disch := omega) only [i_lt]
      refine W_if (fun z => ?_) (fun z => ?_)
      · exact last 4 (by rw [hq, if_pos z])
      · exact last 1 (by rw [hq, if_neg z])
    have four : ∀ S1 : St, Fr RxP RxL S S1 → gI S1 39 5 = nI a → gI S1 39 4 = nI q → ltr c = true → (q + 1 - a ≤ 8 → gL S1 39 7 = lN (b27 (seg tp a (q + 1)))) → WP (P117 (F (d + 1))) (4, [.ref 39, .int x1], [], S1) (fun r S' => r = none ∧ Fr RxP RxL S0 S' ∧ gI S' 39 5 = nI a ∧ gI S' 39 4 = nI (wh ltr tp a) ∧ gI S' 39 6 = nI (if 8 < wh ltr tp a - a then 4 else 1) ∧ (wh ltr tp a - a ≤ 8 → gL S' 39 7 = lN (b27 (seg tp a (wh ltr tp a))))) := by
      intro S1 f1 g5 g4 hb g7
      have hM1 := hM.of f1.2.2
      refine w117_4 ?_
      simp only [sl, si, sj, gK_pI, gN_pI, gR_pI, hM1.k39, z0c, eq_self, if_true, Nat.reduceAdd, true_and, g4, nI_1]
      show WP _ _ _
      refine ih (q + 1) _ x1 (by omega) (by omega) (by omega) ((f.tr f1).tr (Fr.putI ⟨rfl, by decide⟩)) ?_ ?_ (fun h => ?_) (by rw [hw, wh_s hc hb])
      · rw [gI_pI, if_neg (by decide)]; exact g5
      · rw [gI_pI, if_pos ⟨rfl, rfl⟩]
      · rw [gL_pI]; exact g7 h
    refine w117_3 ?_
    simp only [hM.k39, z0c, eq_self, if_true, Nat.reduceAdd, true_and]
    rw [e4]
    refine W_I (f116 hR (by omega)) ?_
    rw [gDs hc, show (97 : Int32) = nI 97 from rfl, show (122 : Int32) = nI 122 from rfl]
    refine W_if (fun z1 => ?_) (fun z1 => ?_)
    · rw [i_lt (by omega) (by omega)] at z1
      exact stop (by rw [el]; omega)
    rw [i_lt (by omega) (by omega)] at z1
    simp only [hM.k39, z0c, eq_self, if_true, Nat.reduceAdd, true_and]
    rw [e4]
    refine W_I (f116 hR (by omega)) ?_
    rw [gDs hc]
    refine W_if (fun z2 => ?_) (fun z2 => ?_)
    · rw [i_lt (by omega) (by omega)] at z2
      exact stop (by rw [el]; omega)
    rw [i_lt (by omega) (by omega)] at z2
    simp only [hM.k39, z0c, eq_self, if_true, Nat.reduceAdd, true_and]
    rw [e4, e5, pk_sub h1, c8]
    refine W_if (fun z3 => ?_) (fun z3 => ?_)
    · rw [i_lt (by omega) (by omega)] at z3
      refine W_I (f116 hR (by omega)) ?_
      rw [gDs hc, e7 (by omega), wd_step (by omega) (by omega)]
      simp only [sl, si, sj, gK_pI, gN_pI, gR_pI, hM.k39, z0c, eq_self, if_true, Nat.reduceAdd, true_and]
      refine four _ (Fr.putL ⟨rfl, rfl⟩) (by rw [gI_pL]; exact e5) (by rw [gI_pL]; exact e4) (by rw [el]; omega) (fun _ => ?_)
      rw [gL_pL, if_pos ⟨rfl, rfl⟩, seg_s h1 hc, b27_s]
    · rw [i_lt (by omega) (by omega)] at z3
      exact four S Fr.rf e5 e4 (by rw [el]; omega) (fun h => absurd h (by omega))
set_option maxRecDepth 4096 in
/-- the loop over a number -/
theorem f117_n {d a : Nat} {S0 : St} (h0 : RdM S0 tp) : ∀ (n q : Nat) (S : St) (x1 : Int32), n = tp.length - q → a ≤ q → q ≤ tp.length → Fr RxP RxL S0 S → gI S 39 5 = nI a → gI S 39 4 = nI q → (q - a ≤ 4 → gI S 39 8 = nI (dval (seg tp a q))) → wh dgt tp a = wh dgt tp q → WP (P117 (F (d + 1))) (8, [.ref 39, .int x1], [], S) (fun r S' => r = none ∧ Fr RxP RxL S0 S' ∧ gI S' 39 5 = nI a ∧ gI S' 39 4 = nI (wh dgt tp a) ∧ gI S' 39 6 = nI (if 4 < wh dgt tp a - a then 4 else 2) ∧ (wh dgt tp a - a ≤ 4 → gI S' 39 8 = nI (dval (seg tp a (wh dgt tp a))))) := by
  have hln := h0.2.2.2.1
  intro n
  induction n with
  | zero =>
    intro q S x1 hn h1 h2 f e5 e4 e7 hw
    have hR := h0.x f
    have hM := hR.1
    have hq : wh dgt tp a = q := by rw [hw, wh_n (by omega)]
    refine w117_8 ?_
    simp only [hM.k39, z0c, eq_self, if_true, Nat.reduceAdd, true_and]
    rw [e4]
    refine W_I (f116 hR (by omega)) ?_
    rw [gDn (by omega)]
    refine W_t (by decide) ?_
    show WP _ _ _
    refine w117_10 ?_
    simp only [hM.k39, z0c, eq_self, if_true, Nat.reduceAdd, true_and]
    rw [e4, e5, pk_sub h1, c4]
    have last : ∀ y, y = (if 4 < wh dgt tp a - a then 4 else 2) → WP (P117 (F (d + 1))) (11, [.ref 39, .int x1], [.int (nI y), .ref 39], S) (fun r S' => r = none ∧ Fr RxP RxL S0 S' ∧ gI S' 39 5 = nI a ∧ gI S' 39 4 = nI (wh dgt tp a) ∧ gI S' 39 6 = nI (if 4 < wh dgt tp a - a then 4 else 2) ∧ (wh dgt tp a - a ≤ 4 → gI S' 39 8 = nI (dval (seg tp a (wh dgt tp a))))) := by
      intro y hy
      refine w117_11 ?_
      simp only [sl, si, sj, gK_pI, gN_pI, gR_pI, hM.k39, z0c, eq_self, if_true, Nat.reduceAdd, true_and]
      refine ⟨rfl, f.tr (Fr.putI ⟨rfl, by decide⟩), ?_, ?_, ?_, fun h => ?_⟩
      · rw [gI_pI, if_neg (by decide)]; exact e5
      · rw [gI_pI, if_neg (by decide), hq]; exact e4
      · rw [gI_pI, if_pos ⟨rfl, rfl⟩, hy]
      · rw [gI_pI, if_neg (by decide), hq]; exact e7 (by omega)
    simp (disch := omega) only [i_lt]
    refine W_if (fun z => ?_) (fun z => ?_)
    · exact last 4 (by rw [hq, if_pos z])
    · exact last 2 (by rw [hq, if_neg z])
  | succ n ih =>
    intro q S x1 hn h1 h2 f e5 e4 e7 hw
    have hR := h0.x f
    have hM := hR.1
    obtain ⟨c, hc⟩ : ∃ c, tp[q]? = some c := ⟨_, List.getElem?_eq_getElem (show q < tp.length by omega)⟩
    obtain ⟨b1, b2, b3⟩ := hR.lt hc
    have el : dgt c = true ↔ (48 ≤ c ∧ c ≤ 57) := by unfold dgt; exact decide_eq_true_iff
    have stop : ¬ dgt c = true → WP (P117 (F (d + 1))) (10, [.ref 39, .int x1], [], S) (fun r S' => r = none ∧ Fr RxP RxL S0 S' ∧ gI S' 39 5 = nI a ∧ gI S' 39 4 = nI (wh dgt tp a) ∧ gI S' 39 6 = nI (if 4 < wh dgt tp a - a then 4 else 2) ∧ (wh dgt tp a - a ≤ 4 → gI S' 39 8 = nI (dval (seg tp a (wh dgt tp a))))) := by
      intro hb
      have hq : wh dgt tp a = q := by rw [hw, wh_e hc hb]
      refine w117_10 ?_
      simp only [hM.k39, z0c, eq_self, if_true, Nat.reduceAdd, true_and]
      rw [e4, e5, pk_sub h1, c4]
      have last : ∀ y, y = (if 4 < wh dgt tp a - a then 4 else 2) → WP (P117 (F (d + 1))) (11, [.ref 39, .int x1], [.int (nI y), .ref 39], S) (fun r S' => r = none ∧ Fr RxP RxL S0 S' ∧ gI S' 39 5 = nI a ∧ gI S' 39 4 = nI (wh dgt tp a) ∧ gI S' 39 6 = nI (if 4 < wh dgt tp a - a then 4 else 2) ∧ (wh dgt tp a - a ≤ 4 → gI S' 39 8 = nI (dval (seg tp a (wh dgt tp a))))) := by
        intro y hy
        refine w117_11 ?_
        simp only [sl, si, sj, gK_pI, gN_pI, gR_pI, hM.k39, z0c, eq_self, if_true, Nat.reduceAdd, true_and]
        refine ⟨rfl, f.tr (Fr.putI ⟨rfl, by decide⟩), ?_, ?_, ?_, fun h => ?_⟩
        · rw [gI_pI, if_neg (by decide)]; exact e5
        · rw [gI_pI, if_neg (by decide), hq]; exact e4
        · rw [gI_pI, if_pos ⟨rfl, rfl⟩, hy]
        · rw [gI_pI, if_neg (by decide), hq]; exact e7 (by omega)
      simp (disch := omega) only [i_lt]
      refine W_if (fun z => ?_) (fun z => ?_)
      · exact last 4 (by rw [hq, if_pos z])
      · exact last 2 (by rw [hq, if_neg z])
    have four : ∀ S1 : St, Fr RxP RxL S S1 → gI S1 39 5 = nI a → gI S1 39 4 = nI q → dgt c = true → (q + 1 - a ≤ 4 → gI S1 39 8 = nI (dval (seg tp a (q + 1)))) → WP (P117 (F (d + 1))) (9, [.ref 39, .int x1], [], S1) (fun r S' => r = none ∧ Fr RxP RxL S0 S' ∧ gI S' 39 5 = nI a ∧ gI S' 39 4 = nI (wh dgt tp a) ∧ gI S' 39 6 = nI (if 4 < wh dgt tp a - a then 4 else 2) ∧ (wh dgt tp a - a ≤ 4 → gI S' 39 8 = nI (dval (seg tp a (wh dgt tp a))))) := by
      intro S1 f1 g5 g4 hb g7
      have hM1 := hM.of f1.2.2
      refine w117_9 ?_
      simp only [sl, si, sj, gK_pI, gN_pI, gR_pI, hM1.k39, z0c, eq_self, if_true, Nat.reduceAdd, true_and, g4, nI_1]
      show WP _ _ _
      refine ih (q + 1) _ x1 (by omega) (by omega) (by omega) ((f.tr f1).tr (Fr.putI ⟨rfl, by decide⟩)) ?_ ?_ (fun h => ?_) (by rw [hw, wh_s hc hb])
      · rw [gI_pI, if_neg (by decide)]; exact g5
      · rw [gI_pI, if_pos ⟨rfl, rfl⟩]
      · rw [gI_pI, if_neg (by decide)]; exact g7 h
    refine w117_8 ?_
    simp only [hM.k39, z0c, eq_self, if_true, Nat.reduceAdd, true_and]
    rw [e4]
    refine W_I (f116 hR (by omega)) ?_
    rw [gDs hc, show (48 : Int32) = nI 48 from rfl, show (57 : Int32) = nI 57 from rfl]
    refine W_if (fun z1 => ?_) (fun z1 => ?_)
    · rw [i_lt (by omega) (by omega)] at z1
      exact stop (by rw [el]; omega)
    rw [i_lt (by omega) (by omega)] at z1
    simp only [hM.k39, z0c, eq_self, if_true, Nat.reduceAdd, true_and]
    rw [e4]
    refine W_I (f116 hR (by omega)) ?_
    rw [gDs hc]
    refine W_if (fun z2 => ?_) (fun z2 => ?_)
    · rw [i_lt (by omega) (by omega)] at z2
      exact stop (by rw [el]; omega)
    rw [i_lt (by omega) (by omega)] at z2
    simp only [hM.k39, z0c, eq_self, if_true, Nat.reduceAdd, true_and]
    rw [e4, e5, pk_sub h1, c4]
    refine W_if (fun z3 => ?_) (fun z3 => ?_)
    · rw [i_lt (by omega) (by omega)] at z3
      refine W_I (f116 hR (by omega)) ?_
      rw [gDs hc, e7 (by omega), c10, pk_mul, nI_add, pk_sub (a := _ * 10 + c) (b := 48) (by omega)]
      simp only [sl, si, sj, gK_pI, gN_pI, gR_pI, hM.k39, z0c, eq_self, if_true, Nat.reduceAdd, true_and]
      refine four _ (Fr.putI ⟨rfl, by decide⟩) (by rw [gI_pI, if_neg (by decide)]; exact e5) (by rw [gI_pI, if_neg (by decide)]; exact e4) (by rw [el]; omega) (fun _ => ?_)
      rw [gI_pI, if_pos ⟨rfl, rfl⟩, seg_s h1 hc, dval_s]
      congr 1
      omega
    · rw [i_lt (by omega) (by omega)] at z3
      exact four S Fr.rf e5 e4 (by rw [el]; omega) (fun h => absurd h (by omega))
theorem dval_lt' : ∀ (l : List Nat) (v : Nat), (∀ c ∈ l, 48 ≤ c ∧ c ≤ 57) → l.foldl (fun v c => v * 10 + (c - 48)) v < (v + 1) * 10 ^ l.length
  | [], v, h => by
    show v < _
    simp
  | c :: l, v, h => by
    have h1 := dval_lt' l (v * 10 + (c - 48)) (fun x hx => h x (List.mem_cons_of_mem _ hx))
    have h2 := h c List.mem_cons_self
    rw [List.foldl_cons, List.length_cons, Nat.pow_succ]
    refine Nat.lt_of_lt_of_le h1 ?_
    rw [Nat.mul_comm (10 ^ l.length) 10, ← Nat.mul_assoc]
    exact Nat.mul_le_mul_right _ (by omega)
theorem seg_all {f : Nat → Bool} {a : Nat} (h : a ≤ tp.length) (hc : c ∈ seg tp a (wh f tp a)) : f c = true := by
  have hwle := wh_le (f := f) h
  obtain ⟨j, hj⟩ := List.mem_iff_getElem?.mp hc
  have hj2 := (List.getElem?_eq_some_iff.mp hj).1
  rw [seg_n hwle] at hj2
  rw [seg_g hj2] at hj
  obtain ⟨c', e1, e2⟩ := wh_in (f := f) (tp := tp) _ rfl (show a ≤ a + j by omega) (by omega)
  rw [hj] at e1
  cases e1
  exact e2
theorem tkV_lt (hp : p ≤ tp.length) (h : wh dgt tp (tkA tp p) - tkA tp p ≤ 4) : tkV tp p < 10000 := by
  have ha := tkA_le hp
  have := dval_lt' (seg tp (tkA tp p) (wh dgt tp (tkA tp p))) 0 (fun c hc => by
    have := seg_all ha hc
    unfold dgt at this
    exact decide_eq_true_iff.mp this)
  rw [Nat.zero_add, Nat.one_mul, seg_n (wh_le ha)] at this
  refine Nat.lt_of_lt_of_le this ?_
  exact Nat.pow_le_pow_right (by decide : 0 < 10) h
set_option maxRecDepth 4096 in
theorem f117 {d : Nat} (h : RdM S tp) (h4 : gI S 39 4 = nI p) (hp : p ≤ tp.length) : Sp (F (d + 2) 117 [.ref 39] S) (fun r S' => r = none ∧ Fr RxP RxL S S' ∧ LxR S' tp p) := by
  have hln := h.2.2.2.1
  have ha := tkA_le hp
  have two : ∀ S1 : St, Fr RxP RxL S S1 → gI S1 39 4 = nI (tkA tp p) → WP (P117 (F (d + 1))) (2, [.ref 39, .null], [], S1) (fun r S' => (gZ S ≤ gZ S' ∧ gU S ≤ gU S') ∧ r = none ∧ Fr RxP RxL S S' ∧ LxR S' tp p) := by
    intro S1 f1 g4
    have hR1 := h.x f1
    have hM := hR1.1
    refine w117_2 ?_
    refine W_t (hM.k39) ?_
    refine W_t (hM.k39) ?_
    refine W_s fun S2 e2 => ?_
    have f2 : Fr RxP RxL S1 S2 := by rw [e2]; exact Fr.putI ⟨rfl, by decide⟩
    have k5 : gI S2 39 5 = nI (tkA tp p) := by rw [e2, gI_pI, if_pos ⟨rfl, rfl⟩, g4]
    have k4 : gI S2 39 4 = nI (tkA tp p) := by rw [e2, gI_pI, if_neg (by decide), g4]
    clear e2
    refine W_t (by rw [f2.K]; exact hM.k39) ?_
    refine W_s fun S3 e3 => ?_
    have f3 : Fr RxP RxL S1 S3 := by rw [e3]; exact f2.tr (Fr.putL ⟨rfl, rfl⟩)
    have l5 : gI S3 39 5 = nI (tkA tp p) := by rw [e3, gI_pL]; exact k5
    have l4 : gI S3 39 4 = nI (tkA tp p) := by rw [e3, gI_pL]; exact k4
    have l7 : gL S3 39 7 = 0 := by rw [e3, gL_pL, if_pos ⟨rfl, rfl⟩]
    clear e3
    refine W_t (by rw [f3.K]; exact hM.k39) ?_
    refine W_s fun S4 e4 => ?_
    have f4 : Fr RxP RxL S S4 := by rw [e4]; exact (f1.tr f3).tr (Fr.putI ⟨rfl, by decide⟩)
    have m5 : gI S4 39 5 = nI (tkA tp p) := by rw [e4, gI_pI, if_neg (by decide)]; exact l5
    have m4 : gI S4 39 4 = nI (tkA tp p) := by rw [e4, gI_pI, if_neg (by decide)]; exact l4
    have m7 : gL S4 39 7 = 0 := by rw [e4, gL_pI]; exact l7
    have m8 : gI S4 39 8 = 0 := by rw [e4, gI_pI, if_pos ⟨rfl, rfl⟩]
    have hR4 := h.x f4
    have hM4 := hR4.1
    clear e4
    simp only [hM4.k39, hM4.r39_2, hM4.k40, hM4.n40, z0c, eq_self, if_true, Nat.reduceAdd, true_and]
    rw [m4, hR4.2.1]
    cases hc : tp[tkA tp p]? with
    | none =>
      have hnn := List.getElem?_eq_none_iff.mp hc
      have ec : tkC tp p = 259 := by unfold tkC; rw [hc]
      have en : tkN tp p = tkA tp p := by unfold tkN; rw [hc]
      refine W_t (by rw [show tkA tp p = tp.length by omega]) ?_
      simp only [sl, si, sj, gK_pI, gN_pI, gR_pI, hM4.k39, z0c, eq_self, if_true, Nat.reduceAdd, true_and]
      have f5 : Fr RxP RxL S (pI S4 39 6 0) := f4.tr (Fr.putI ⟨rfl, by decide⟩)
      refine ⟨f5.mono, rfl, f5, ?_, ?_, ?_, fun z => ?_, fun z => ?_, fun z => ?_⟩
      · rw [gI_pI, if_neg (by decide)]; exact m5
      · rw [gI_pI, if_neg (by decide), en]; exact m4
      · rw [gI_pI, if_pos ⟨rfl, rfl⟩, ec]; rfl
      · rw [ec] at z; exact absurd z (by decide)
      · omega
      · omega
    | some c =>
      obtain ⟨b1, b2, b3⟩ := hR4.lt hc
      refine W_f (by rw [i_eq (by omega) (by omega)]; omega) ?_
      refine W_t (inB_n (by omega) (by decide)) ?_
      rw [nI_clamp (by omega), b3]
      refine W_si fun v ev => ?_
      rw [ev]
      have el : ltr c = true ↔ (97 ≤ c ∧ c ≤ 122) := by unfold ltr; exact decide_eq_true_iff
      have ed : dgt c = true ↔ (48 ≤ c ∧ c ≤ 57) := by unfold dgt; exact decide_eq_true_iff
      have es : sgn c = true ↔ (c = 40 ∨ c = 41 ∨ c = 60 ∨ c = 61 ∨ c = 43 ∨ c = 45 ∨ c = 42 ∨ c = 59) := by unfold sgn; exact decide_eq_true_iff
      have seven : ¬ ltr c = true → WP (P117 (F (d + 1))) (7, [.ref 39, .int (nI c)], [], S4) (fun r S' => (gZ S ≤ gZ S' ∧ gU S ≤ gU S') ∧ r = none ∧ Fr RxP RxL S S' ∧ LxR S' tp p) := by
        intro nl
        have twelve : ¬ dgt c = true → WP (P117 (F (d + 1))) (12, [.ref 39, .int (nI c)], [], S4) (fun r S' => (gZ S ≤ gZ S' ∧ gU S ≤ gU S') ∧ r = none ∧ Fr RxP RxL S S' ∧ LxR S' tp p) := by
          intro nd
          have ec : tkC tp p = if sgn c = true then c else 258 := by
            unfold tkC
            rw [hc]
            show (if ltr c = true then _ else _) = _
            rw [if_neg nl, if_neg nd]
          have en : tkN tp p = tkA tp p + 1 := by
            unfold tkN
            rw [hc]
            show (if ltr c = true then _ else _) = _
            rw [if_neg nl, if_neg nd]
          have f5 : Fr RxP RxL S (pI S4 39 4 (nI (tkA tp p + 1))) := f4.tr (Fr.putI ⟨rfl, by decide⟩)
          have last : ∀ y, y = tkK (tkC tp p) → WP (P117 (F (d + 1))) (16, [.ref 39, .int (nI c)], [.int (nI y), .ref 39], pI S4 39 4 (nI (tkA tp p + 1))) (fun r S' => (gZ S ≤ gZ S' ∧ gU S ≤ gU S') ∧ r = none ∧ Fr RxP RxL S S' ∧ LxR S' tp p) := by
            intro y hy
            refine w117_16 ?_
            simp only [sl, si, sj, gK_pI, gN_pI, gR_pI, hM4.k39, z0c, eq_self, if_true, Nat.reduceAdd, true_and]
            have f6 : Fr RxP RxL S (pI (pI S4 39 4 (nI (tkA tp p + 1))) 39 6 (nI y)) := f5.tr (Fr.putI ⟨rfl, by decide⟩)
            refine ⟨f6.mono, rfl, f6, ?_, ?_, ?_, fun z => ?_, fun z => ?_, fun z => ?_⟩
            · rw [gI_pI, if_neg (by decide), gI_pI, if_neg (by decide)]; exact m5
            · rw [gI_pI, if_neg (by decide), gI_pI, if_pos ⟨rfl, rfl⟩, en]
            · rw [gI_pI, if_pos ⟨rfl, rfl⟩, hy]
            · exfalso
              have hx : tkC tp p < 127 ∨ tkC tp p = 258 := by rw [ec]; split <;> omega
              rcases hx with hx | hx
              · have h3 : tkK (tkC tp p) = 3 := by
                  unfold tkK
                  rw [if_neg (by omega), if_neg (by omega), if_neg (by omega), if_pos (by omega)]
                omega
              · rw [hx] at z
                exact absurd z (by decide)
            · exfalso
              rw [ec] at z
              split at z <;> omega
            · rw [ec] at z ⊢
              split at z
              · rename_i q; rw [if_pos q]; exact hc
              · omega
          have fourteen : sgn c = true → WP (P117 (F (d + 1))) (14, [.ref 39, .int (nI c)], [.ref 39], pI S4 39 4 (nI (tkA tp p + 1))) (fun r S' => (gZ S ≤ gZ S' ∧ gU S ≤ gU S') ∧ r = none ∧ Fr RxP RxL S S' ∧ LxR S' tp p) := by
            intro hs
            refine w117_14 ?_
            refine last 3 ?_
            rw [ec, if_pos hs]
            unfold tkK
            rw [if_neg (by omega), if_neg (by omega), if_neg (by omega), if_pos (by omega)]
          have fifteen : ¬ sgn c = true → WP (P117 (F (d + 1))) (15, [.ref 39, .int (nI c)], [.ref 39], pI S4 39 4 (nI (tkA tp p + 1))) (fun r S' => (gZ S ≤ gZ S' ∧ gU S ≤ gU S') ∧ r = none ∧ Fr RxP RxL S S' ∧ LxR S' tp p) := by
            intro hs
            refine w117_15 ?_
            refine last 4 ?_
            rw [ec, if_neg hs]
            rfl
          have thirteen : ¬ (40 ≤ c ∧ c ≤ 43) → WP (P117 (F (d + 1))) (13, [.ref 39, .int (nI c)], [.ref 39], pI S4 39 4 (nI (tkA tp p + 1))) (fun r S' => (gZ S ≤ gZ S' ∧ gU S ≤ gU S') ∧ r = none ∧ Fr RxP RxL S S' ∧ LxR S' tp p) := by
            intro hs
            refine w117_13 ?_
            rw [show (45 : Int32) = nI 45 from rfl, show (59 : Int32) = nI 59 from rfl, show (61 : Int32) = nI 61 from rfl]
            simp (disch := omega) only [i_lt, i_eq]
            refine W_if (fun q1 => ?_) (fun q1 => ?_)
            · exact fourteen (by rw [es]; omega)
            refine W_if (fun q2 => ?_) (fun q2 => ?_)
            · exact fifteen (by rw [es]; omega)
            refine W_if (fun q3 => ?_) (fun q3 => ?_)
            · exact fifteen (by rw [es]; omega)
            · exact fourteen (by rw [es]; omega)
          refine w117_12 ?_
          simp only [sl, si, sj, gK_pI, gN_pI, gR_pI, hM4.k39, z0c, eq_self, if_true, Nat.reduceAdd, true_and, m4, nI_1]
          rw [show (40 : Int32) = nI 40 from rfl, show (43 : Int32) = nI 43 from rfl]
          simp (disch := omega) only [i_lt]
          refine W_if (fun q1 => ?_) (fun q1 => ?_)
          · exact thirteen (by omega)
          refine W_if (fun q2 => ?_) (fun q2 => ?_)
          · exact thirteen (by omega)
          · exact fourteen (by rw [es]; omega)
        refine w117_7 ?_
        rw [show (48 : Int32) = nI 48 from rfl, show (57 : Int32) = nI 57 from rfl]
        simp (disch := omega) only [i_lt]
        refine W_if (fun q1 => ?_) (fun q1 => ?_)
        · exact twelve (by rw [ed]; omega)
        refine W_if (fun q2 => ?_) (fun q2 => ?_)
        · exact twelve (by rw [ed]; omega)
        · have hd : dgt c = true := by rw [ed]; omega
          have ec : tkC tp p = if 4 < wh dgt tp (tkA tp p) - tkA tp p then 258 else 257 := by
            unfold tkC
            rw [hc]
            show (if ltr c = true then _ else _) = _
            rw [if_neg nl, if_pos hd]
          have en : tkN tp p = wh dgt tp (tkA tp p) := by
            unfold tkN
            rw [hc]
            show (if ltr c = true then _ else _) = _
            rw [if_neg nl, if_pos hd]
          show WP _ _ _
          refine WP.mono (f117_n hR4 (tp.length - tkA tp p) (tkA tp p) S4 (nI c) rfl (Nat.le_refl _) ha Fr.rf m5 m4 (fun _ => by rw [seg_0]; exact m8) rfl) ?_
          intro r S' ⟨e, f, g5, g4', g6, g8⟩
          have f5 := f4.tr f
          refine ⟨f5.mono, e, f5, g5, by rw [en]; exact g4', ?_, fun z => ?_, fun z => ?_, fun z => ?_⟩
          · rw [g6, ec]
            split <;> rfl
          · exfalso
            rw [ec] at z
            split at z <;> exact absurd z (by decide)
          · rw [ec] at z
            split at z
            · omega
            · exact ⟨g8 (by omega), tkV_lt hp (by omega)⟩
          · exfalso
            rw [ec] at z
            split at z <;> omega
      have three : ltr c = true → WP (P117 (F (d + 1))) (3, [.ref 39, .int (nI c)], [], S4) (fun r S' => (gZ S ≤ gZ S' ∧ gU S ≤ gU S') ∧ r = none ∧ Fr RxP RxL S S' ∧ LxR S' tp p) := by
        intro hl
        have ec : tkC tp p = if 8 < wh ltr tp (tkA tp p) - tkA tp p then 258 else kw (tkW tp p) := by
          unfold tkC
          rw [hc]
          show (if ltr c = true then _ else _) = _
          rw [if_pos hl]
          rfl
        have en : tkN tp p = wh ltr tp (tkA tp p) := by
          unfold tkN
          rw [hc]
          show (if ltr c = true then _ else _) = _
          rw [if_pos hl]
        refine WP.mono (f117_w hR4 (tp.length - tkA tp p) (tkA tp p) S4 (nI c) rfl (Nat.le_refl _) ha Fr.rf m5 m4 (fun _ => by rw [seg_0]; exact m7) rfl) ?_
        intro r S' ⟨e, f, g5, g4', g6, g7⟩
        have f5 := f4.tr f
        have hk := kw_cases (tkW tp p)
        have kk : ¬ 8 < wh ltr tp (tkA tp p) - tkA tp p → tkK (tkC tp p) = 1 := by
          intro q
          rw [ec, if_neg q]
          unfold tkK
          rw [if_neg (by omega), if_neg (by omega), if_neg (by omega), if_neg (by omega)]
        refine ⟨f5.mono, e, f5, g5, by rw [en]; exact g4', ?_, fun z => ?_, fun z => ?_, fun z => ?_⟩
        · rw [g6]
          by_cases q : 8 < wh ltr tp (tkA tp p) - tkA tp p
          · rw [if_pos q, ec, if_pos q]; rfl
          · rw [if_neg q, kk q]
        · by_cases q : 8 < wh ltr tp (tkA tp p) - tkA tp p
          · rw [ec, if_pos q] at z; exact absurd z (by decide)
          · refine ⟨g7 (by omega), ?_, fun c hc' => ?_, by rw [ec, if_neg q]⟩
            · unfold tkW
              rw [seg_n (wh_le ha)]
              omega
            · have := seg_all ha hc'
              unfold ltr at this
              exact decide_eq_true_iff.mp this
        · rw [ec] at z
          split at z <;> omega
        · rw [ec] at z
          split at z <;> omega
      rw [show (97 : Int32) = nI 97 from rfl, show (122 : Int32) = nI 122 from rfl]
      simp (disch := omega) only [i_lt]
      refine W_if (fun q1 => ?_) (fun q1 => ?_)
      · exact seven (by rw [el]; omega)
      refine W_if (fun q2 => ?_) (fun q2 => ?_)
      · exact seven (by rw [el]; omega)
      · exact three (by rw [el]; omega)
  have loop : ∀ (n q : Nat) (S1 : St), n = tp.length - q → q ≤ tp.length → Fr RxP RxL S S1 → gI S1 39 4 = nI q → tkA tp p = wh blk tp q → WP (P117 (F (d + 1))) (0, [.ref 39, .null], [], S1) (fun r S' => (gZ S ≤ gZ S' ∧ gU S ≤ gU S') ∧ r = none ∧ Fr RxP RxL S S' ∧ LxR S' tp p) := by
    intro n
    induction n with
    | zero =>
      intro q S1 hn hq f1 g4 hw
      have hR1 := h.x f1
      have hM := hR1.1
      refine w117_0 ?_
      simp only [hM.k39, hM.r39_2, hM.k40, hM.n40, z0c, eq_self, if_true, Nat.reduceAdd, true_and]
      rw [g4, hR1.2.1]
      refine W_f (by rw [i_lt (by omega) (by omega)]; omega) ?_
      exact two S1 f1 (by rw [g4, hw, wh_n (by omega)])
    | succ n ih =>
      intro q S1 hn hq f1 g4 hw
      have hR1 := h.x f1
      have hM := hR1.1
      obtain ⟨c, hc⟩ : ∃ c, tp[q]? = some c := ⟨_, List.getElem?_eq_getElem (show q < tp.length by omega)⟩
      obtain ⟨b1, b2, b3⟩ := hR1.lt hc
      have eb : blk c = true ↔ (c = 10 ∨ c = 32) := by unfold blk; exact decide_eq_true_iff
      have next : blk c = true → WP (P117 (F (d + 1))) (1, [.ref 39, .null], [], S1) (fun r S' => (gZ S ≤ gZ S' ∧ gU S ≤ gU S') ∧ r = none ∧ Fr RxP RxL S S' ∧ LxR S' tp p) := by
        intro hb
        refine w117_1 ?_
        simp only [sl, si, sj, gK_pI, gN_pI, gR_pI, hM.k39, z0c, eq_self, if_true, Nat.reduceAdd, true_and, g4, nI_1]
        show WP _ _ _
        exact ih (q + 1) _ (by omega) (by omega) (f1.tr (Fr.putI ⟨rfl, by decide⟩)) (by rw [gI_pI, if_pos ⟨rfl, rfl⟩]) (by rw [hw, wh_s hc hb])
      refine w117_0 ?_
      simp only [hM.k39, hM.r39_2, hM.k40, hM.n40, z0c, eq_self, if_true, Nat.reduceAdd, true_and]
      rw [g4, hR1.2.1]
      refine W_t (by rw [i_lt (by omega) (by omega)]; omega) ?_
      refine W_t (inB_n (by omega) (by decide)) ?_
      rw [nI_clamp (by omega), b3, c10, show (32 : Int32) = nI 32 from rfl]
      simp (disch := omega) only [i_eq]
      refine W_if (fun q1 => ?_) (fun q1 => ?_)
      · exact next (by rw [eb]; exact Or.inr q1)
      · refine W_t (inB_n (by omega) (by decide)) ?_
        refine W_if (fun q2 => ?_) (fun q2 => ?_)
        · exact next (by rw [eb]; exact Or.inl q2)
        · exact two S1 f1 (by rw [g4, hw, wh_e hc (by rw [eb]; omega)])
  exact fw117 (loop _ p S rfl hp Fr.rf h4 rfl)
end REF
