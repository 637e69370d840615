/-! the class's next token -/
/-- the reader stands over a tape -/
def Rdr (S : St) (tp : List Nat) : Prop := ShC S ∧ gR S 3 11 = 2 ∧ gI S 3 12 = nI tp.length ∧ HL S 2 tp ∧ tp.length ≤ 1000 ∧ ∀ v, v ∈ tp → v = 10 ∨ (32 ≤ v ∧ v ≤ 126)
section CLS
variable {S S' : St} {tp : List Nat} {p c : Nat}
theorem Rdr.lt (h : Rdr S tp) (hc : tp[p]? = some c) : p < tp.length ∧ c < 127 ∧ gI S 2 p = nI c := by
  have h1 := (List.getElem?_eq_some_iff.mp hc).1
  have h2 := h.2.2.2.2.2 c (List.mem_of_getElem? hc)
  exact ⟨h1, by omega, h.2.2.2.1 p c hc⟩
theorem Rdr.fr {P L : Nat → Nat → Prop} (h : Rdr S tp) (f : Fr P L S S') (hp : ∀ k, ¬ P 2 k) (h12 : ¬ P 3 12) : Rdr S' tp :=
  ⟨h.1.of f.2.2, by rw [f.R]; exact h.2.1, by rw [f.1 _ _ h12]; exact h.2.2.1, h.2.2.2.1.fr f (fun k _ => hp k), h.2.2.2.2⟩
set_option maxRecDepth 4096 in
theorem f41 {d : Nat} (hc : c < 2 ^ 31) : F (d + 1) 41 [.int (nI c)] S = some (some (.int (bi (ltr c = true))), S) := by
  refine fq41 (w41_0 ?_)
  rw [show (97 : Int32) = nI 97 from rfl, show (122 : Int32) = nI 122 from rfl]
  simp (disch := omega) only [i_lt]
  have e : (ltr c = true) ↔ (97 ≤ c ∧ c ≤ 122) := by unfold ltr; exact decide_eq_true_iff
  refine W_if (fun h1 => ?_) (fun h1 => ?_)
  · refine W_t (by decide) ?_
    exact ⟨by rw [bi_f (by rw [e]; omega)], rfl⟩
  · refine W_if (fun h2 => ?_) (fun h2 => ?_)
    · refine W_t (by decide) ?_
      exact ⟨by rw [bi_f (by rw [e]; omega)], rfl⟩
    · refine W_t (by decide) ?_
      exact ⟨by rw [bi_t (by rw [e]; omega)], rfl⟩
set_option maxRecDepth 4096 in
theorem f42 {d : Nat} (hc : c < 2 ^ 31) : F (d + 1) 42 [.int (nI c)] S = some (some (.int (bi (dgt c = true))), S) := by
  refine fq42 (w42_0 ?_)
  rw [show (48 : Int32) = nI 48 from rfl, show (57 : Int32) = nI 57 from rfl]
  simp (disch := omega) only [i_lt]
  have e : (dgt c = true) ↔ (48 ≤ c ∧ c ≤ 57) := by unfold dgt; exact decide_eq_true_iff
  refine W_if (fun h1 => ?_) (fun h1 => ?_)
  · refine W_t (by decide) ?_
    exact ⟨by rw [bi_f (by rw [e]; omega)], rfl⟩
  · refine W_if (fun h2 => ?_) (fun h2 => ?_)
    · refine W_t (by decide) ?_
      exact ⟨by rw [bi_f (by rw [e]; omega)], rfl⟩
    · refine W_t (by decide) ?_
      exact ⟨by rw [bi_t (by rw [e]; omega)], rfl⟩
set_option maxRecDepth 4096 in
theorem f43 {d : Nat} (hc : c < 2 ^ 31) : F (d + 1) 43 [.int (nI c)] S = some (some (.int (bi (sgn c = true))), S) := by
  have e : (sgn c = true) ↔ (c = 40 ∨ c = 41 ∨ c = 60 ∨ c = 61 ∨ c = 43 ∨ c = 45 ∨ c = 42 ∨ c = 59) := by unfold sgn; exact decide_eq_true_iff
  have yes : sgn c = true → WP (P43 (F d)) (1, [.int (nI c)], [], S) (fun r S' => r = some (.int (bi (sgn c = true))) ∧ S' = S) := by
    intro h
    refine w43_1 ?_
    refine W_t (by decide) ?_
    exact ⟨by rw [bi_t h], rfl⟩
  refine fq43 (w43_0 ?_)
  rw [show (40 : Int32) = nI 40 from rfl, show (41 : Int32) = nI 41 from rfl, show (60 : Int32) = nI 60 from rfl, show (61 : Int32) = nI 61 from rfl, show (43 : Int32) = nI 43 from rfl, show (45 : Int32) = nI 45 from rfl, show (42 : Int32) = nI 42 from rfl, show (59 : Int32) = nI 59 from rfl]
  simp (disch := omega) only [i_eq]
  refine W_if (fun h1 => ?_) (fun h1 => ?_)
  · exact yes (by rw [e]; omega)
  refine W_if (fun h2 => ?_) (fun h2 => ?_)
  · exact yes (by rw [e]; omega)
  refine W_if (fun h3 => ?_) (fun h3 => ?_)
  · exact yes (by rw [e]; omega)
  refine W_if (fun h4 => ?_) (fun h4 => ?_)
  · exact yes (by rw [e]; omega)
  refine W_if (fun h5 => ?_) (fun h5 => ?_)
  · exact yes (by rw [e]; omega)
  refine W_if (fun h6 => ?_) (fun h6 => ?_)
  · exact yes (by rw [e]; omega)
  refine W_if (fun h7 => ?_) (fun h7 => ?_)
  · exact yes (by rw [e]; omega)
  refine W_if (fun h8 => ?_) (fun h8 => ?_)
  · exact yes (by rw [e]; omega)
  refine W_t (by decide) ?_
  exact ⟨by rw [bi_f (by rw [e]; omega)], rfl⟩
theorem gD {l : List Nat} {k : Nat} (x : Nat) (h : k < l.length) : l.getD k x = l[k] := by
  rw [List.getD_eq_getElem?_getD, List.getElem?_eq_getElem h]
  rfl
theorem gD2 {l : List (List Nat)} {k : Nat} (x : List Nat) (h : k < l.length) : l.getD k x = l[k] := by
  rw [List.getD_eq_getElem?_getD, List.getElem?_eq_getElem h]
  rfl
/-- a word of six signs at most is the i-th word if it agrees as far as it goes, and there ends -/
theorem wd_eq {w : List Nat} {i : Nat} (hi : i < 17) (hw : ∀ c ∈ w, 97 ≤ c ∧ c ≤ 122) (h6 : w.length ≤ 6) : w = WL.getD i [] ↔ (∀ j, j < w.length → w.getD j 0 = (WL.getD i []).getD j 32) ∧ (w.length = 6 ∨ (WL.getD i []).getD w.length 32 = 32) := by
  obtain ⟨hl, hv⟩ := wl_l i hi
  generalize WL.getD i [] = v at hl hv
  constructor
  · intro e
    subst e
    refine ⟨fun j hj => ?_, Or.inr ?_⟩
    · rw [gD _ hj, gD _ hj]
    · rw [List.getD_eq_getElem?_getD, List.getElem?_eq_none (Nat.le_refl _)]
      rfl
  · intro ⟨h1, h2⟩
    have a1 : w.length ≤ v.length := by
      by_cases z : w.length = 0
      · omega
      · by_cases y : w.length ≤ v.length
        · exact y
        · exfalso
          have hj : w.length - 1 < w.length := by omega
          have := h1 (w.length - 1) hj
          rw [gD _ hj, List.getD_eq_getElem?_getD, List.getElem?_eq_none (by omega)] at this
          have h3 := hw _ (List.getElem_mem hj)
          rw [this] at h3
          exact absurd h3.1 (by decide)
    have a2 : v.length ≤ w.length := by
      rcases h2 with z | z
      · omega
      · by_cases y : v.length ≤ w.length
        · exact y
        · exfalso
          have hj : w.length < v.length := by omega
          rw [gD _ hj] at z
          have h3 := hv _ (List.getElem_mem hj)
          rw [z] at h3
          exact absurd h3.1 (by decide)
    refine List.ext_getElem (by omega) fun j hj hj' => ?_
    have := h1 j hj
    rw [gD _ hj, gD _ hj'] at this
    exact this
set_option maxRecDepth 4096 in
theorem f39 {d a m : Nat} (h : Rdr S tp) (ha : gI S 3 14 = nI a) (hm : a + m ≤ tp.length) (hl : ∀ c ∈ seg tp a (a + m), 97 ≤ c ∧ c ≤ 122) : F (d + 5) 39 [.ref 3, .int (nI m)] S = some (some (.int (nI (kw (seg tp a (a + m))))), S) := by
  obtain ⟨hS, h11, h12, hT, hn, hv⟩ := h
  have hR : Rdr S tp := ⟨hS, h11, h12, hT, hn, hv⟩
  have hlen : (seg tp a (a + m)).length = m := by rw [seg_n hm]; omega
  have hg : ∀ s, s < m → ∃ c, tp[a + s]? = some c ∧ (seg tp a (a + m)).getD s 0 = c := by
    intro s hs
    have h1 : (seg tp a (a + m))[s]? = tp[a + s]? := seg_g (by omega)
    have h2 : s < (seg tp a (a + m)).length := by omega
    refine ⟨(seg tp a (a + m)).getD s 0, ?_, rfl⟩
    rw [← h1, gD _ h2]
    exact List.getElem?_eq_getElem h2
  generalize seg tp a (a + m) = w at hl hlen hg
  have loop : ∀ (n i : Nat), n = 17 - i → i ≤ 17 → kw w = kwF w (WL.drop i) i → ∀ z3 z4 z5 : Value, WP (P39 (F (d + 4))) (1, [.ref 3, .int (nI m), .int (nI i), z3, z4, z5], [], S) (fun r S' => r = some (.int (nI (kw w))) ∧ S' = S) := by
    intro n
    induction n with
    | zero =>
      intro i hi1 hi2 hk z3 z4 z5
      have : i = 17 := by omega
      subst this
      refine w39_1 ?_
      refine W_f (by decide) ?_
      exact ⟨by rw [hk]; rfl, rfl⟩
    | succ n ih =>
      intro i hi1 hi2 hk z3 z4 z5
      have hi : i < 17 := by omega
      refine w39_1 ?_
      refine W_t (by rw [show (17 : Int32) = nI 17 from rfl, i_lt (by omega) (by decide)]; exact hi) ?_
      simp (disch := omega) only [c6, i_lt]
      have hdrop : WL.drop i = WL.getD i [] :: WL.drop (i + 1) := by
        rw [List.drop_eq_getElem_cons (show i < WL.length from hi), gD2 _ (show i < WL.length from hi)]
      refine W_if (fun q6 => ?_) (fun q6 => ?_)
      · refine ⟨?_, rfl⟩
        rcases kwF_c (w := w) (vs := WL) (i := 0) with h1 | ⟨j, h1, h2⟩
        · rw [show kw w = 256 from h1]
          rfl
        · exfalso
          obtain ⟨hj, e⟩ := List.getElem?_eq_some_iff.mp h1
          have := (wl_l j hj).1
          rw [gD2 _ hj, e] at this
          omega
      · have fin : ∀ (s : Nat), s ≤ m → (s < m → w.getD s 0 ≠ (WL.getD i []).getD s 32) → (∀ j, j < s → w.getD j 0 = (WL.getD i []).getD j 32) → ∀ z5 : Value, WP (P39 (F (d + 4))) (3, [.ref 3, .int (nI m), .int (nI i), .int (nI (6 * i)), .int (nI s), z5], [], S) (fun r S' => r = some (.int (nI (kw w))) ∧ S' = S) := by
          intro s hs hne hj z5
          have last : ∀ (y : Int32), (y = 0 ↔ ¬ (s = 6 ∨ (WL.getD i []).getD s 32 = 32)) → WP (P39 (F (d + 4))) (5, [.ref 3, .int (nI m), .int (nI i), .int (nI (6 * i)), .int (nI s), z5], [.int y], S) (fun r S' => r = some (.int (nI (kw w))) ∧ S' = S) := by
            intro y hy
            have next : w ≠ WL.getD i [] → WP (P39 (F (d + 4))) (6, [.ref 3, .int (nI m), .int (nI i), .int (nI (6 * i)), .int (nI s), .int y], [], S) (fun r S' => r = some (.int (nI (kw w))) ∧ S' = S) := by
              intro hw
              refine w39_6 ?_
              show WP _ _ _
              rw [nI_1]
              refine ih (i + 1) (by omega) (by omega) ?_ _ _ _
              rw [hk, hdrop]
              exact if_neg hw
            refine w39_5 ?_
            simp (disch := omega) only [i_eq]
            have key := wd_eq (w := w) hi hl (by omega)
            refine W_if (fun q1 => ?_) (fun q1 => ?_)
            · refine W_if (fun q2 => ?_) (fun q2 => ?_)
              · refine next (fun e => ?_)
                rw [hy] at q2
                have := (key.mp e).2
                rw [hlen, ← q1] at this
                exact q2 this
              · have e : w = WL.getD i [] := by
                  refine key.mpr ⟨fun j hj' => hj j (by omega), ?_⟩
                  rw [hlen, ← q1]
                  rw [hy] at q2
                  exact Classical.not_not.mp q2
                refine ⟨?_, rfl⟩
                rw [hk, hdrop, show kwF w (WL.getD i [] :: WL.drop (i + 1)) i = 128 + i from if_pos e, show (128 : Int32) = nI 128 from rfl, nI_add]
            · refine next (fun e => ?_)
              exact hne (by omega) ((key.mp e).1 s (by omega))
          refine w39_3 ?_
          simp (disch := omega) only [c6, i_eq]
          refine W_if (fun q1 => ?_) (fun q1 => ?_)
          · show WP _ _ _
            refine w39_4 ?_
            show WP _ _ _
            exact last 1 ⟨fun z => (by cases z), fun z => absurd (Or.inl q1) z⟩
          · refine W_t (trivial) ?_
            rw [nI_add]
            refine W_I (f189 (by omega)) ?_
            rw [ws_wl i hi s (by omega), show (32 : Int32) = nI 32 from rfl]
            have hb : (WL.getD i []).getD s 32 < 128 := by rw [← ws_wl i hi s (by omega)]; exact ws_lt _ (by omega)
            simp (disch := omega) only [i_eq]
            refine W_if (fun q2 => ?_) (fun q2 => ?_)
            · show WP _ _ _
              refine w39_4 ?_
              show WP _ _ _
              exact last 1 ⟨fun z => (by cases z), fun z => absurd (Or.inr q2) z⟩
            · exact last 0 ⟨fun _ z => z.elim q1 q2, fun _ => rfl⟩
        have inner : ∀ (n s : Nat), n = m - s → s ≤ m → (∀ j, j < s → w.getD j 0 = (WL.getD i []).getD j 32) → ∀ z5 : Value, WP (P39 (F (d + 4))) (2, [.ref 3, .int (nI m), .int (nI i), .int (nI (6 * i)), .int (nI s), z5], [], S) (fun r S' => r = some (.int (nI (kw w))) ∧ S' = S) := by
          intro n
          induction n with
          | zero =>
            intro s h1 h2 hj z5
            refine w39_2 ?_
            refine W_f (by rw [i_lt (by omega) (by omega)]; omega) ?_
            exact fin s h2 (fun z => absurd z (by omega)) hj z5
          | succ n ih2 =>
            intro s h1 h2 hj z5
            obtain ⟨c, hc, hwc⟩ := hg s (by omega)
            obtain ⟨b1, b2, b3⟩ := hR.lt hc
            refine w39_2 ?_
            refine W_t (by rw [i_lt (by omega) (by omega)]; omega) ?_
            refine W_t (rfl) ?_
            rw [nI_add]
            refine W_I (f189 (by omega)) ?_
            simp only [sl, si, sj, gK_pI, gN_pI, gR_pI, gK_pL, gN_pL, gR_pL, hS.k3, h11, hS.k2, hS.n2, hS.r3_4, hS.r3_5, hS.r3_6, hS.r3_7, hS.k4, hS.n4, hS.k5, hS.n5, hS.k6, hS.n6, hS.k7, hS.n7, z0c, eq_self, if_true, Nat.reduceAdd, true_and, ha]
            rw [nI_add, if_pos (show inB (nI (a + s)) 1000 from inB_n (by omega) (by decide)), nI_clamp (by omega), b3, ws_wl i hi s (by omega)]
            have hb : (WL.getD i []).getD s 32 < 128 := by rw [← ws_wl i hi s (by omega)]; exact ws_lt _ (by omega)
            simp (disch := omega) only [i_eq]
            refine W_if (fun q => ?_) (fun q => ?_)
            · show WP _ _ _
              rw [nI_1]
              refine ih2 (s + 1) (by omega) (by omega) (fun j hj' => ?_) z5
              by_cases e : j = s
              · rw [e, hwc, q]
              · exact hj j (by omega)
            · exact fin s h2 (fun _ e => q (by rw [← e, hwc])) hj z5
        rw [pk_mul, Nat.mul_comm]
        exact inner m 0 (by omega) (by omega) (fun j hj => absurd hj (by omega)) z5
  refine fq39 (w39_0 ?_)
  show WP _ _ _
  exact loop 17 0 rfl (by omega) rfl _ _ _
/-- what the token says, for the class -/
def LxC (S : St) (tp : List Nat) (p : Nat) : Prop := gI S 3 14 = nI (tkA tp p) ∧ gI S 3 16 = nI (tkC tp p) ∧ (tkC tp p ≠ 259 → gI S 3 15 = nI (tkN tp p)) ∧ (tkC tp p = 257 → gI S 3 17 = nI (tkV tp p)) ∧ (tkC tp p = 256 → gL S 3 18 = lN (bval (tkW tp p)))
abbrev LxP : Nat → Nat → Prop := fun a k => a = 3 ∧ 14 ≤ k ∧ k ≤ 17
abbrev LxL : Nat → Nat → Prop := fun a k => a = 3 ∧ k = 18
set_option maxRecDepth 4096 in
theorem f40_loop {d a : Nat} {S0 : St} (h0 : Rdr S0 tp) (ha : gI S0 3 14 = nI a) : ∀ (n q : Nat) (S : St), n = tp.length - q → a ≤ q → q ≤ tp.length → Fr LxP LxL S0 S → gI S 3 14 = nI a → (q - a ≤ 4 → gI S 3 17 = nI (dval (seg tp a q))) → wh dgt tp a = wh dgt tp q → WP (P40 (F (d + 1))) (1, [.ref 3, .int (nI q)], [], S) (fun r S' => r = none ∧ Fr LxP LxL S0 S' ∧ gI S' 3 14 = nI a ∧ gI S' 3 15 = nI (wh dgt tp a) ∧ gI S' 3 16 = nI (if 4 < wh dgt tp a - a then 258 else 257) ∧ (wh dgt tp a - a ≤ 4 → gI S' 3 17 = nI (dval (seg tp a (wh dgt tp a))))) := by
  intro n
  have fin : ∀ (q : Nat) (S : St), a ≤ q → q ≤ tp.length → Fr LxP LxL S0 S → gI S 3 14 = nI a → (q - a ≤ 4 → gI S 3 17 = nI (dval (seg tp a q))) → wh dgt tp a = q → WP (P40 (F (d + 1))) (2, [.ref 3, .int (nI q)], [], S) (fun r S' => r = none ∧ Fr LxP LxL S0 S' ∧ gI S' 3 14 = nI a ∧ gI S' 3 15 = nI (wh dgt tp a) ∧ gI S' 3 16 = nI (if 4 < wh dgt tp a - a then 258 else 257) ∧ (wh dgt tp a - a ≤ 4 → gI S' 3 17 = nI (dval (seg tp a (wh dgt tp a))))) := by
    intro q S h1 h2 f h14 h17 hw
    have hS := h0.1.of f.2.2
    have hn := h0.2.2.2.2.1
    have h11 : gR S 3 11 = 2 := by rw [f.R]; exact h0.2.1
    refine w40_2 ?_
    simp only [sl, si, sj, gK_pI, gN_pI, gR_pI, gK_pL, gN_pL, gR_pL, hS.k3, h11, hS.k2, hS.n2, hS.r3_4, hS.r3_5, hS.r3_6, hS.r3_7, hS.k4, hS.n4, hS.k5, hS.n5, hS.k6, hS.n6, hS.k7, hS.n7, z0c, eq_self, if_true, Nat.reduceAdd, true_and]
    have e14 : gI (pI S 3 15 (nI q)) 3 14 = nI a := by rw [gI_pI, if_neg (by decide)]; exact h14
    rw [e14, pk_sub h1, c4]
    have f1 : Fr LxP LxL S0 (pI S 3 15 (nI q)) := f.tr (Fr.putI ⟨rfl, by decide, by decide⟩)
    have last : ∀ y, y = (if 4 < wh dgt tp a - a then 258 else 257) → WP (P40 (F (d + 1))) (3, [.ref 3, .int (nI q)], [.int (nI y), .ref 3], pI S 3 15 (nI q)) (fun r S' => r = none ∧ Fr LxP LxL S0 S' ∧ gI S' 3 14 = nI a ∧ gI S' 3 15 = nI (wh dgt tp a) ∧ gI S' 3 16 = nI (if 4 < wh dgt tp a - a then 258 else 257) ∧ (wh dgt tp a - a ≤ 4 → gI S' 3 17 = nI (dval (seg tp a (wh dgt tp a))))) := by
      intro y hy
      refine w40_3 ?_
      simp only [sl, si, sj, gK_pI, gN_pI, gR_pI, gK_pL, gN_pL, gR_pL, hS.k3, h11, hS.k2, hS.n2, hS.r3_4, hS.r3_5, hS.r3_6, hS.r3_7, hS.k4, hS.n4, hS.k5, hS.n5, hS.k6, hS.n6, hS.k7, hS.n7, z0c, eq_self, if_true, Nat.reduceAdd, true_and]
      refine ⟨rfl, f1.tr (Fr.putI ⟨rfl, by decide, by decide⟩), ?_, ?_, ?_, fun h => ?_⟩
      · rw [gI_pI, if_neg (by decide)]; exact e14
      · rw [gI_pI, if_neg (by decide), gI_pI, if_pos ⟨rfl, rfl⟩, hw]
      · rw [gI_pI, if_pos ⟨rfl, rfl⟩, hy]
      · rw [gI_pI, if_neg (by decide), gI_pI, if_neg (by decide), hw]
        exact h17 (by omega)
    simp (disch := omega) only [i_lt]
    refine W_if (fun z => ?_) (fun z => ?_)
    · exact last 258 (by rw [hw, if_pos z])
    · exact last 257 (by rw [hw, if_neg z])
  induction n with
  | zero =>
    intro q S hn h1 h2 f h14 h17 hw
    have hS := h0.1.of f.2.2
    have h11 : gR S 3 11 = 2 := by rw [f.R]; exact h0.2.1
    have h12 : gI S 3 12 = nI tp.length := by rw [f.1 _ _ (fun z => absurd z.2.1 (by decide))]; exact h0.2.2.1
    have hln := h0.2.2.2.2.1
    refine w40_1 ?_
    simp only [sl, si, sj, gK_pI, gN_pI, gR_pI, gK_pL, gN_pL, gR_pL, hS.k3, h11, hS.k2, hS.n2, hS.r3_4, hS.r3_5, hS.r3_6, hS.r3_7, hS.k4, hS.n4, hS.k5, hS.n5, hS.k6, hS.n6, hS.k7, hS.n7, z0c, eq_self, if_true, Nat.reduceAdd, true_and, h12]
    refine W_f (by rw [i_lt (by omega) (by omega)]; omega) ?_
    exact fin q S h1 h2 f h14 h17 (by rw [hw, wh_n (by omega)])
  | succ n ih =>
    intro q S hn h1 h2 f h14 h17 hw
    have hS := h0.1.of f.2.2
    have h11 : gR S 3 11 = 2 := by rw [f.R]; exact h0.2.1
    have h12 : gI S 3 12 = nI tp.length := by rw [f.1 _ _ (fun z => absurd z.2.1 (by decide))]; exact h0.2.2.1
    have hR : Rdr S tp := h0.fr f (fun k z => absurd z.1 (by decide)) (fun z => absurd z.2.1 (by decide))
    have hln := h0.2.2.2.2.1
    obtain ⟨c, hc⟩ : ∃ c, tp[q]? = some c := ⟨_, List.getElem?_eq_getElem (show q < tp.length by omega)⟩
    obtain ⟨b1, b2, b3⟩ := hR.lt hc
    refine w40_1 ?_
    simp only [sl, si, sj, gK_pI, gN_pI, gR_pI, gK_pL, gN_pL, gR_pL, hS.k3, h11, hS.k2, hS.n2, hS.r3_4, hS.r3_5, hS.r3_6, hS.r3_7, hS.k4, hS.n4, hS.k5, hS.n5, hS.k6, hS.n6, hS.k7, hS.n7, z0c, eq_self, if_true, Nat.reduceAdd, true_and, h12]
    refine W_t (by rw [i_lt (by omega) (by omega)]; omega) ?_
    refine W_t (inB_n (by omega) (by decide)) ?_
    rw [nI_clamp (by omega), b3]
    refine W_I (f42 (by omega)) ?_
    simp only [bi_0]
    refine W_if (fun z => ?_) (fun z => ?_)
    · exact fin q S h1 h2 f h14 h17 (by rw [hw, wh_e hc z])
    · have z' := Classical.not_not.mp z
      simp only [sl, si, sj, gK_pI, gN_pI, gR_pI, gK_pL, gN_pL, gR_pL, hS.k3, h11, hS.k2, hS.n2, hS.r3_4, hS.r3_5, hS.r3_6, hS.r3_7, hS.k4, hS.n4, hS.k5, hS.n5, hS.k6, hS.n6, hS.k7, hS.n7, z0c, eq_self, if_true, Nat.reduceAdd, true_and]
      refine W_t (inB_n (by omega) (by decide)) ?_
      rw [b3]
      show WP _ _ _
      rw [nI_1]
      have hd : 48 ≤ c := by unfold dgt at z'; exact (decide_eq_true_iff.mp z').1
      refine ih (q + 1) _ (by omega) (by omega) (by omega) (f.tr (Fr.putI ⟨rfl, by decide, by decide⟩)) ?_ (fun h => ?_) (by rw [hw, wh_s hc z'])
      · rw [gI_pI, if_neg (by decide)]; exact h14
      · rw [gI_pI, if_pos ⟨rfl, rfl⟩, h17 (by omega), seg_s h1 hc, dval_s, c10, pk_mul, nI_add, show (48 : Int32) = nI 48 from rfl, pk_sub (by omega)]
        congr 1
        omega
set_option maxRecDepth 4096 in
theorem f40 {d a : Nat} (h : Rdr S tp) (ha : gI S 3 14 = nI a) (h1 : a ≤ tp.length) : Sp (F (d + 2) 40 [.ref 3] S) (fun r S' => r = none ∧ Fr LxP LxL S S' ∧ gI S' 3 14 = nI a ∧ gI S' 3 15 = nI (wh dgt tp a) ∧ gI S' 3 16 = nI (if 4 < wh dgt tp a - a then 258 else 257) ∧ (wh dgt tp a - a ≤ 4 → gI S' 3 17 = nI (dval (seg tp a (wh dgt tp a))))) := by
  have hS := h.1
  have h11 := h.2.1
  refine fw40 (w40_0 ?_)
  simp only [sl, si, sj, gK_pI, gN_pI, gR_pI, gK_pL, gN_pL, gR_pL, hS.k3, h11, hS.k2, hS.n2, hS.r3_4, hS.r3_5, hS.r3_6, hS.r3_7, hS.k4, hS.n4, hS.k5, hS.n5, hS.k6, hS.n6, hS.k7, hS.n7, z0c, eq_self, if_true, Nat.reduceAdd, true_and, ha]
  show WP _ _ _
  refine WP.mono (f40_loop h ha (tp.length - a) a (pI S 3 17 0) rfl (Nat.le_refl _) h1 (Fr.putI ⟨rfl, by decide, by decide⟩) (by rw [gI_pI, if_neg (by decide)]; exact ha) (fun _ => by rw [gI_pI, if_pos ⟨rfl, rfl⟩, seg_0]; rfl) rfl) ?_
  intro r S' ⟨e, f, g⟩
  exact ⟨f.mono, e, f, g⟩
theorem bval_lt' : ∀ (l : List Nat) (v : Nat), (∀ c ∈ l, c < 256) → l.foldl (fun v c => v * 256 + c) v < (v + 1) * 256 ^ l.length
  | [], v, h => by
    show v < _
    simp
  | c :: l, v, h => by
    have h1 := bval_lt' l (v * 256 + c) (fun x hx => h x (List.mem_cons_of_mem _ hx))
    have h2 := h c List.mem_cons_self
    rw [List.foldl_cons, List.length_cons, Nat.pow_succ]
    refine Nat.lt_of_lt_of_le h1 ?_
    rw [Nat.mul_comm (256 ^ l.length) 256, ← Nat.mul_assoc]
    exact Nat.mul_le_mul_right _ (by omega)
theorem bval_lt {l : List Nat} (h : ∀ c ∈ l, c < 256) : bval l < 256 ^ l.length := by
  have := bval_lt' l 0 h
  rw [Nat.zero_add, Nat.one_mul] at this
  exact this
theorem nm_step {v : Nat} (hv : v < 2 ^ 56) (hc : c < 127) : (lN v <<< ((8 : Int32).toInt64 &&& 63)) ||| (nI c).toInt64 = lN (v * 256 + c) := by
  rw [show (8 : Int32) = nI 8 from rfl, wb_shl v (by decide), nI_l (by omega), wb_or (by omega) (by omega)]
  congr 1
  rw [Nat.mul_comm v, ← Nat.two_pow_add_eq_or_of_lt (by omega)]
set_option maxRecDepth 4096 in
theorem f38_name {d a b : Nat} {S0 : St} (h0 : Rdr S0 tp) (hb : b ≤ tp.length) (hab : b - a ≤ 8) (hl : ∀ c ∈ seg tp a b, 97 ≤ c ∧ c ≤ 122) (h15 : gI S0 3 15 = nI b) (h14 : gI S0 3 14 = nI a) : ∀ (n q : Nat) (S : St), n = b - q → a ≤ q → q ≤ b → Fr LxP LxL S0 S → gI S 3 14 = nI a → gI S 3 15 = nI b → gL S 3 18 = lN (bval (seg tp a q)) → WP (P38 (F (d + 5))) (3, [.ref 3, .int (nI b), .int (nI q)], [], S) (fun r S' => r = none ∧ Fr LxP LxL S0 S' ∧ gI S' 3 14 = nI a ∧ gI S' 3 15 = nI b ∧ gI S' 3 16 = nI (kw (seg tp a b)) ∧ gL S' 3 18 = lN (bval (seg tp a b))) := by
  intro n
  have hln := h0.2.2.2.2.1
  induction n with
  | zero =>
    intro q S hn h1 h2 f e14 e15 e18
    have hS := h0.1.of f.2.2
    have h11 : gR S 3 11 = 2 := by rw [f.R]; exact h0.2.1
    have hR : Rdr S tp := h0.fr f (fun k z => absurd z.1 (by decide)) (fun z => absurd z.2.1 (by decide))
    have : q = b := by omega
    subst this
    refine w38_3 ?_
    refine W_f (by rw [i_lt (by omega) (by omega)]; omega) ?_
    simp only [sl, si, sj, gK_pI, gN_pI, gR_pI, gK_pL, gN_pL, gR_pL, hS.k3, h11, hS.k2, hS.n2, hS.r3_4, hS.r3_5, hS.r3_6, hS.r3_7, hS.k4, hS.n4, hS.k5, hS.n5, hS.k6, hS.n6, hS.k7, hS.n7, z0c, eq_self, if_true, Nat.reduceAdd, true_and, e14]
    rw [pk_sub h1]
    have hk := f39 (d := d) hR e14 (m := q - a) (by omega) (by rw [show a + (q - a) = q by omega]; exact hl)
    rw [show a + (q - a) = q by omega] at hk
    refine W_I (hk) ?_
    simp only [sl, si, sj, gK_pI, gN_pI, gR_pI, gK_pL, gN_pL, gR_pL, hS.k3, h11, hS.k2, hS.n2, hS.r3_4, hS.r3_5, hS.r3_6, hS.r3_7, hS.k4, hS.n4, hS.k5, hS.n5, hS.k6, hS.n6, hS.k7, hS.n7, z0c, eq_self, if_true, Nat.reduceAdd, true_and]
    refine ⟨rfl, f.tr (Fr.putI ⟨rfl, by decide, by decide⟩), ?_, ?_, ?_, ?_⟩
    · rw [gI_pI, if_neg (by decide)]; exact e14
    · rw [gI_pI, if_neg (by decide)]; exact e15
    · rw [gI_pI, if_pos ⟨rfl, rfl⟩]
    · rw [gL_pI]; exact e18
  | succ n ih =>
    intro q S hn h1 h2 f e14 e15 e18
    have hS := h0.1.of f.2.2
    have h11 : gR S 3 11 = 2 := by rw [f.R]; exact h0.2.1
    have hR : Rdr S tp := h0.fr f (fun k z => absurd z.1 (by decide)) (fun z => absurd z.2.1 (by decide))
    obtain ⟨c, hc⟩ : ∃ c, tp[q]? = some c := ⟨_, List.getElem?_eq_getElem (show q < tp.length by omega)⟩
    obtain ⟨b1, b2, b3⟩ := hR.lt hc
    refine w38_3 ?_
    refine W_t (by rw [i_lt (by omega) (by omega)]; omega) ?_
    simp only [sl, si, sj, gK_pI, gN_pI, gR_pI, gK_pL, gN_pL, gR_pL, hS.k3, h11, hS.k2, hS.n2, hS.r3_4, hS.r3_5, hS.r3_6, hS.r3_7, hS.k4, hS.n4, hS.k5, hS.n5, hS.k6, hS.n6, hS.k7, hS.n7, z0c, eq_self, if_true, Nat.reduceAdd, true_and]
    refine W_t (inB_n (by omega) (by decide)) ?_
    rw [nI_clamp (by omega), b3, e18]
    have hv : bval (seg tp a q) < 2 ^ 56 := by
      have h3 : bval (seg tp a q) < 256 ^ (seg tp a q).length := bval_lt (fun c hc' => by
        obtain ⟨j, hj⟩ := List.mem_iff_getElem?.mp hc'
        have hj2 := (List.getElem?_eq_some_iff.mp hj).1
        rw [seg_n (by omega)] at hj2
        rw [seg_g (by omega)] at hj
        have := (hR.lt hj).2.1
        omega)
      rw [seg_n (by omega)] at h3
      refine Nat.lt_of_lt_of_le h3 ?_
      rw [show (2 : Nat) ^ 56 = 256 ^ 7 by decide]
      exact Nat.pow_le_pow_right (by decide) (by omega)
    rw [nm_step hv b2]
    show WP _ _ _
    rw [nI_1]
    refine ih (q + 1) _ (by omega) (by omega) (by omega) (f.tr (Fr.putL ⟨rfl, rfl⟩)) (by rw [gI_pL]; exact e14) (by rw [gI_pL]; exact e15) ?_
    rw [gL_pL, if_pos ⟨rfl, rfl⟩, seg_s h1 hc, bval_s]
set_option maxRecDepth 4096 in
theorem f38 {d a : Nat} (h : Rdr S tp) (ha : gI S 3 14 = nI a) (h1 : a ≤ tp.length) : Sp (F (d + 6) 38 [.ref 3] S) (fun r S' => r = none ∧ Fr LxP LxL S S' ∧ gI S' 3 14 = nI a ∧ gI S' 3 15 = nI (wh ltr tp a) ∧ gI S' 3 16 = nI (if 8 < wh ltr tp a - a then 258 else kw (seg tp a (wh ltr tp a))) ∧ (wh ltr tp a - a ≤ 8 → gL S' 3 18 = lN (bval (seg tp a (wh ltr tp a))))) := by
  have hS := h.1
  have h11 := h.2.1
  have h12 := h.2.2.1
  have hln := h.2.2.2.2.1
  have hwle := wh_le (f := ltr) h1
  have hwge := wh_ge (f := ltr) (tp := tp) (p := a)
  have hl : ∀ c ∈ seg tp a (wh ltr tp a), 97 ≤ c ∧ c ≤ 122 := by
    intro c hc
    obtain ⟨j, hj⟩ := List.mem_iff_getElem?.mp hc
    have hj2 := (List.getElem?_eq_some_iff.mp hj).1
    rw [seg_n hwle] at hj2
    rw [seg_g hj2] at hj
    obtain ⟨c', e1, e2⟩ := wh_in (f := ltr) (tp := tp) _ rfl (show a ≤ a + j by omega) (by omega)
    rw [hj] at e1
    cases e1
    unfold ltr at e2
    exact decide_eq_true_iff.mp e2
  have fin : ∀ z : Value, WP (P38 (F (d + 5))) (2, [.ref 3, .int (nI (wh ltr tp a)), z], [], S) (fun r S' => (gZ S ≤ gZ S' ∧ gU S ≤ gU S') ∧ r = none ∧ Fr LxP LxL S S' ∧ gI S' 3 14 = nI a ∧ gI S' 3 15 = nI (wh ltr tp a) ∧ gI S' 3 16 = nI (if 8 < wh ltr tp a - a then 258 else kw (seg tp a (wh ltr tp a))) ∧ (wh ltr tp a - a ≤ 8 → gL S' 3 18 = lN (bval (seg tp a (wh ltr tp a))))) := by
    intro z
    refine w38_2 ?_
    simp only [sl, si, sj, gK_pI, gN_pI, gR_pI, gK_pL, gN_pL, gR_pL, hS.k3, h11, hS.k2, hS.n2, hS.r3_4, hS.r3_5, hS.r3_6, hS.r3_7, hS.k4, hS.n4, hS.k5, hS.n5, hS.k6, hS.n6, hS.k7, hS.n7, z0c, eq_self, if_true, Nat.reduceAdd, true_and]
    have e14 : gI (pI S 3 15 (nI (wh ltr tp a))) 3 14 = nI a := by rw [gI_pI, if_neg (by decide)]; exact ha
    have f1 : Fr LxP LxL S (pI S 3 15 (nI (wh ltr tp a))) := Fr.putI ⟨rfl, by decide, by decide⟩
    have e14' : gI (pL (pI S 3 15 (nI (wh ltr tp a))) 3 18 0) 3 14 = nI a := by rw [gI_pL]; exact e14
    rw [e14, e14', pk_sub hwge, c8]
    simp (disch := omega) only [i_lt]
    refine W_if (fun q => ?_) (fun q => ?_)
    · have f2 : Fr LxP LxL S (pI (pI S 3 15 (nI (wh ltr tp a))) 3 16 258) := f1.tr (Fr.putI ⟨rfl, by decide, by decide⟩)
      refine ⟨f2.mono, rfl, f2, ?_, ?_, ?_, fun h => absurd h (by omega)⟩
      · rw [gI_pI, if_neg (by decide)]; exact e14
      · rw [gI_pI, if_neg (by decide), gI_pI, if_pos ⟨rfl, rfl⟩]
      · rw [gI_pI, if_pos ⟨rfl, rfl⟩, if_pos q]; rfl
    · show WP _ _ _
      have f3 : Fr LxP LxL S (pL (pI S 3 15 (nI (wh ltr tp a))) 3 18 0) := f1.tr (Fr.putL ⟨rfl, rfl⟩)
      have e15 : gI (pL (pI S 3 15 (nI (wh ltr tp a))) 3 18 0) 3 15 = nI (wh ltr tp a) := by rw [gI_pL, gI_pI, if_pos ⟨rfl, rfl⟩]
      refine WP.mono (f38_name (h.fr f3 (fun k z => absurd z.1 (by decide)) (fun z => absurd z.2.1 (by decide))) hwle (by omega) hl e15 e14' (wh ltr tp a - a) a _ rfl (Nat.le_refl _) hwge Fr.rf e14' e15 (by rw [gL_pL, if_pos ⟨rfl, rfl⟩, seg_0]; rfl)) ?_
      intro r S' ⟨e, f, g1, g2, g3, g4⟩
      exact ⟨(f3.tr f).mono, e, f3.tr f, g1, g2, by rw [g3, if_neg q], fun _ => g4⟩
  have loop : ∀ (n q : Nat), n = tp.length - q → a ≤ q → q ≤ tp.length → wh ltr tp a = wh ltr tp q → ∀ z : Value, WP (P38 (F (d + 5))) (1, [.ref 3, .int (nI q), z], [], S) (fun r S' => (gZ S ≤ gZ S' ∧ gU S ≤ gU S') ∧ r = none ∧ Fr LxP LxL S S' ∧ gI S' 3 14 = nI a ∧ gI S' 3 15 = nI (wh ltr tp a) ∧ gI S' 3 16 = nI (if 8 < wh ltr tp a - a then 258 else kw (seg tp a (wh ltr tp a))) ∧ (wh ltr tp a - a ≤ 8 → gL S' 3 18 = lN (bval (seg tp a (wh ltr tp a))))) := by
    intro n
    induction n with
    | zero =>
      intro q hn g1 g2 hw z
      refine w38_1 ?_
      simp only [sl, si, sj, gK_pI, gN_pI, gR_pI, gK_pL, gN_pL, gR_pL, hS.k3, h11, hS.k2, hS.n2, hS.r3_4, hS.r3_5, hS.r3_6, hS.r3_7, hS.k4, hS.n4, hS.k5, hS.n5, hS.k6, hS.n6, hS.k7, hS.n7, z0c, eq_self, if_true, Nat.reduceAdd, true_and, h12]
      refine W_f (by rw [i_lt (by omega) (by omega)]; omega) ?_
      rw [show nI q = nI (wh ltr tp a) by rw [hw, wh_n (by omega)]]
      exact fin z
    | succ n ih =>
      intro q hn g1 g2 hw z
      obtain ⟨c, hc⟩ : ∃ c, tp[q]? = some c := ⟨_, List.getElem?_eq_getElem (show q < tp.length by omega)⟩
      obtain ⟨b1, b2, b3⟩ := h.lt hc
      refine w38_1 ?_
      simp only [sl, si, sj, gK_pI, gN_pI, gR_pI, gK_pL, gN_pL, gR_pL, hS.k3, h11, hS.k2, hS.n2, hS.r3_4, hS.r3_5, hS.r3_6, hS.r3_7, hS.k4, hS.n4, hS.k5, hS.n5, hS.k6, hS.n6, hS.k7, hS.n7, z0c, eq_self, if_true, Nat.reduceAdd, true_and, h12]
      refine W_t (by rw [i_lt (by omega) (by omega)]; omega) ?_
      refine W_t (inB_n (by omega) (by decide)) ?_
      rw [nI_clamp (by omega), b3]
      refine W_I (f41 (by omega)) ?_
      simp only [bi_0]
      refine W_if (fun y => ?_) (fun y => ?_)
      · rw [show nI q = nI (wh ltr tp a) by rw [hw, wh_e hc y]]
        exact fin z
      · show WP _ _ _
        rw [nI_1]
        exact ih (q + 1) (by omega) (by omega) (by omega) (by rw [hw, wh_s hc (Classical.not_not.mp y)]) z
  refine fw38 (w38_0 ?_)
  simp only [sl, si, sj, gK_pI, gN_pI, gR_pI, gK_pL, gN_pL, gR_pL, hS.k3, h11, hS.k2, hS.n2, hS.r3_4, hS.r3_5, hS.r3_6, hS.r3_7, hS.k4, hS.n4, hS.k5, hS.n5, hS.k6, hS.n6, hS.k7, hS.n7, z0c, eq_self, if_true, Nat.reduceAdd, true_and, ha]
  show WP _ _ _
  exact loop _ a rfl (Nat.le_refl _) h1 rfl _
set_option maxRecDepth 4096 in
theorem f37x {d : Nat} (hS : ShC S) (h : gI S 3 13 ≠ 0) : F (d + 1) 37 [.ref 3] S = some (none, S) := by
  refine fq37 (w37_0 ?_)
  refine W_t (hS.k3) ?_
  refine W_f (h) ?_
  exact ⟨rfl, rfl⟩
theorem tkA_le (h : p ≤ tp.length) : tkA tp p ≤ tp.length := wh_le h
theorem tkA_ge : p ≤ tkA tp p := wh_ge
set_option maxRecDepth 4096 in
theorem f37 {d : Nat} (h : Rdr S tp) (h13 : gI S 3 13 = 0) (h15 : gI S 3 15 = nI p) (hp : p ≤ tp.length) : Sp (F (d + 7) 37 [.ref 3] S) (fun r S' => r = none ∧ Fr LxP LxL S S' ∧ LxC S' tp p) := by
  have hS := h.1
  have h11 := h.2.1
  have h12 := h.2.2.1
  have hln := h.2.2.2.2.1
  have ha := tkA_le hp
  have fin : tkA tp p = wh blk tp (tkA tp p) → WP (P37 (F (d + 6))) (3, [.ref 3, .int (nI (tkA tp p))], [], S) (fun r S' => (gZ S ≤ gZ S' ∧ gU S ≤ gU S') ∧ r = none ∧ Fr LxP LxL S S' ∧ LxC S' tp p) := by
    intro _
    refine w37_3 ?_
    refine W_t (hS.k3) ?_
    refine W_s fun S1 e1 => ?_
    have f1 : Fr LxP LxL S S1 := by rw [e1]; exact Fr.putI ⟨rfl, by decide, by decide⟩
    have e14 : gI S1 3 14 = nI (tkA tp p) := by rw [e1, gI_pI, if_pos ⟨rfl, rfl⟩]
    have hR1 : Rdr S1 tp := h.fr f1 (fun k z => absurd z.1 (by decide)) (fun z => absurd z.2.1 (by decide))
    have hS1 := hR1.1
    have h11' := hR1.2.1
    have h12' := hR1.2.2.1
    clear e1
    cases hc : tp[tkA tp p]? with
    | none =>
      have := List.getElem?_eq_none_iff.mp hc
      have ec : tkC tp p = 259 := by unfold tkC; rw [hc]
      refine W_t (hS1.k3) ?_
      rw [h12']
      refine W_f (by rw [i_lt (by omega) (by omega)]; omega) ?_
      refine W_t (hS1.k3) ?_
      refine W_s fun S2 e2 => ?_
      have f2 : Fr LxP LxL S S2 := by rw [e2]; exact f1.tr (Fr.putI ⟨rfl, by decide, by decide⟩)
      refine ⟨f2.mono, rfl, f2, ?_, ?_, fun z => absurd ec z, fun z => ?_, fun z => ?_⟩
      · rw [e2, gI_pI, if_neg (by decide)]; exact e14
      · rw [e2, gI_pI, if_pos ⟨rfl, rfl⟩, ec]; rfl
      · omega
      · omega
    | some c =>
      obtain ⟨b1, b2, b3⟩ := hR1.lt hc
      refine W_t (hS1.k3) ?_
      rw [h12']
      refine W_t (by rw [i_lt (by omega) (by omega)]; omega) ?_
      refine W_t (hS1.k3) ?_
      rw [h11']
      refine W_t (⟨hS1.k2, by rw [hS1.n2]; exact inB_n (by omega) (by decide)⟩) ?_
      rw [nI_clamp (by omega), b3]
      refine W_I (f41 (by omega)) ?_
      simp only [bi_0]
      refine W_if (fun q1 => ?_) (fun q1 => ?_)
      · refine W_t (hS1.k3) ?_
        rw [h11']
        refine W_t (⟨hS1.k2, by rw [hS1.n2]; exact inB_n (by omega) (by decide)⟩) ?_
        rw [b3]
        refine W_I (f42 (by omega)) ?_
        simp only [bi_0]
        refine W_if (fun q2 => ?_) (fun q2 => ?_)
        · refine W_t (hS1.k3) ?_
          refine W_s fun S2 e2 => ?_
          have f2 : Fr LxP LxL S S2 := by rw [e2]; exact f1.tr (Fr.putI ⟨rfl, by decide, by decide⟩)
          have e14' : gI S2 3 14 = nI (tkA tp p) := by rw [e2, gI_pI, if_neg (by decide)]; exact e14
          have e15' : gI S2 3 15 = nI (tkA tp p + 1) := by rw [e2, gI_pI, if_pos ⟨rfl, rfl⟩, nI_1]
          have hR2 : Rdr S2 tp := h.fr f2 (fun k z => absurd z.1 (by decide)) (fun z => absurd z.2.1 (by decide))
          have hS2 := hR2.1
          have b3' := (hR2.lt hc).2.2
          have en : tkN tp p = tkA tp p + 1 := by
            unfold tkN
            rw [hc]
            show (if ltr c = true then _ else _) = _
            rw [if_neg q1, if_neg q2]
          clear e2
          have last : ∀ y, y = tkC tp p → y ≠ 257 → y ≠ 256 → WP (P37 (F (d + 6))) (4, [.ref 3, .int (nI (tkA tp p))], [.int (nI y), .ref 3], S2) (fun r S' => (gZ S ≤ gZ S' ∧ gU S ≤ gU S') ∧ r = none ∧ Fr LxP LxL S S' ∧ LxC S' tp p) := by
            intro y hy n1 n2
            refine w37_4 ?_
            refine W_t (hS2.k3) ?_
            refine W_s fun S3 e3 => ?_
            have f3 : Fr LxP LxL S S3 := by rw [e3]; exact f2.tr (Fr.putI ⟨rfl, by decide, by decide⟩)
            refine ⟨f3.mono, rfl, f3, ?_, ?_, fun z => ?_, fun z => absurd (hy.trans z) n1, fun z => absurd (hy.trans z) n2⟩
            · rw [e3, gI_pI, if_neg (by decide)]; exact e14'
            · rw [e3, gI_pI, if_pos ⟨rfl, rfl⟩, hy]
            · rw [e3, gI_pI, if_neg (by decide), en]; exact e15'
          have ec : tkC tp p = if sgn c = true then c else 258 := by
            unfold tkC
            rw [hc]
            show (if ltr c = true then _ else _) = _
            rw [if_neg q1, if_neg q2]
          refine W_t (hS2.k3) ?_
          rw [hR2.2.1]
          refine W_t (⟨hS2.k2, by rw [hS2.n2]; exact inB_n (by omega) (by decide)⟩) ?_
          rw [b3']
          refine W_I (f43 (by omega)) ?_
          simp only [bi_0]
          refine W_if (fun q3 => ?_) (fun q3 => ?_)
          · exact last 258 (by rw [ec, if_neg q3]) (by decide) (by decide)
          · refine W_t (hS2.k3) ?_
            rw [hR2.2.1]
            refine W_t (⟨hS2.k2, by rw [hS2.n2]; exact inB_n (by omega) (by decide)⟩) ?_
            rw [b3']
            exact last c (by rw [ec, if_pos (Classical.not_not.mp q3)]) (by omega) (by omega)
        · have q2' := Classical.not_not.mp q2
          refine W_t (hS1.k3) ?_
          refine W_Ve (f40 hR1 e14 ha) ?_
          intro S2 ⟨f2, g1, g2, g3, g4⟩
          have f3 := f1.tr f2
          have ec : tkC tp p = if 4 < wh dgt tp (tkA tp p) - tkA tp p then 258 else 257 := by
            unfold tkC
            rw [hc]
            show (if ltr c = true then _ else _) = _
            rw [if_neg q1, if_pos q2']
          have en : tkN tp p = wh dgt tp (tkA tp p) := by
            unfold tkN
            rw [hc]
            show (if ltr c = true then _ else _) = _
            rw [if_neg q1, if_pos q2']
          refine ⟨f3.mono, rfl, f3, g1, by rw [ec]; exact g3, fun _ => by rw [en]; exact g2, fun z => ?_, fun z => ?_⟩
          · refine g4 ?_
            rw [ec] at z
            split at z
            · omega
            · omega
          · rw [ec] at z
            split at z
            · omega
            · omega
      · have q1' := Classical.not_not.mp q1
        refine W_t (hS1.k3) ?_
        refine W_Ve (f38 hR1 e14 ha) ?_
        intro S2 ⟨f2, g1, g2, g3, g4⟩
        have f3 := f1.tr f2
        have ec : tkC tp p = if 8 < wh ltr tp (tkA tp p) - tkA tp p then 258 else kw (seg tp (tkA tp p) (wh ltr tp (tkA tp p))) := by
          unfold tkC
          rw [hc]
          show (if ltr c = true then _ else _) = _
          rw [if_pos q1']
        have en : tkN tp p = wh ltr tp (tkA tp p) := by
          unfold tkN
          rw [hc]
          show (if ltr c = true then _ else _) = _
          rw [if_pos q1']
        refine ⟨f3.mono, rfl, f3, g1, by rw [ec]; exact g3, fun _ => by rw [en]; exact g2, fun z => ?_, fun z => ?_⟩
        · rw [ec] at z
          split at z
          · omega
          · rcases kw_cases (seg tp (tkA tp p) (wh ltr tp (tkA tp p))) with y | y
            · omega
            · omega
        · refine g4 ?_
          rw [ec] at z
          split at z
          · omega
          · omega
  have loop : ∀ (n q : Nat), n = tp.length - q → q ≤ tp.length → tkA tp p = wh blk tp q → WP (P37 (F (d + 6))) (1, [.ref 3, .int (nI q)], [], S) (fun r S' => (gZ S ≤ gZ S' ∧ gU S ≤ gU S') ∧ r = none ∧ Fr LxP LxL S S' ∧ LxC S' tp p) := by
    intro n
    induction n with
    | zero =>
      intro q hn hq hw
      refine w37_1 ?_
      simp only [sl, si, sj, gK_pI, gN_pI, gR_pI, gK_pL, gN_pL, gR_pL, hS.k3, h11, hS.k2, hS.n2, hS.r3_4, hS.r3_5, hS.r3_6, hS.r3_7, hS.k4, hS.n4, hS.k5, hS.n5, hS.k6, hS.n6, hS.k7, hS.n7, z0c, eq_self, if_true, Nat.reduceAdd, true_and, h12]
      refine W_f (by rw [i_lt (by omega) (by omega)]; omega) ?_
      have e : tkA tp p = q := by rw [hw, wh_n (by omega)]
      rw [← e]
      exact fin (by rw [e]; rw [← hw, e])
    | succ n ih =>
      intro q hn hq hw
      obtain ⟨c, hc⟩ : ∃ c, tp[q]? = some c := ⟨_, List.getElem?_eq_getElem (show q < tp.length by omega)⟩
      obtain ⟨b1, b2, b3⟩ := h.lt hc
      have eb : blk c = true ↔ (c = 10 ∨ c = 32) := by unfold blk; exact decide_eq_true_iff
      have next : blk c = true → WP (P37 (F (d + 6))) (2, [.ref 3, .int (nI q)], [], S) (fun r S' => (gZ S ≤ gZ S' ∧ gU S ≤ gU S') ∧ r = none ∧ Fr LxP LxL S S' ∧ LxC S' tp p) := by
        intro hb
        refine w37_2 ?_
        show WP _ _ _
        rw [nI_1]
        exact ih (q + 1) (by omega) (by omega) (by rw [hw, wh_s hc hb])
      refine w37_1 ?_
      simp only [sl, si, sj, gK_pI, gN_pI, gR_pI, gK_pL, gN_pL, gR_pL, hS.k3, h11, hS.k2, hS.n2, hS.r3_4, hS.r3_5, hS.r3_6, hS.r3_7, hS.k4, hS.n4, hS.k5, hS.n5, hS.k6, hS.n6, hS.k7, hS.n7, z0c, eq_self, if_true, Nat.reduceAdd, true_and, h12]
      refine W_t (by rw [i_lt (by omega) (by omega)]; omega) ?_
      refine W_t (inB_n (by omega) (by decide)) ?_
      rw [nI_clamp (by omega), b3, c10, show (32 : Int32) = nI 32 from rfl]
      simp (disch := omega) only [i_eq]
      refine W_if (fun q1 => ?_) (fun q1 => ?_)
      · exact next (by rw [eb]; exact Or.inl q1)
      · refine W_t (inB_n (by omega) (by decide)) ?_
        refine W_if (fun q2 => ?_) (fun q2 => ?_)
        · exact next (by rw [eb]; exact Or.inr q2)
        · have e : tkA tp p = q := by rw [hw, wh_e hc (by rw [eb]; omega)]
          rw [← e]
          exact fin (by rw [e]; rw [← hw, e])
  refine fw37 (w37_0 ?_)
  refine W_t (hS.k3) ?_
  refine W_t (h13) ?_
  refine W_t (hS.k3) ?_
  show WP _ _ _
  rw [h15]
  exact loop _ p rfl hp rfl
end CLS
