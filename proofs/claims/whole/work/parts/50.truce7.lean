/-! allCandidates -/
/-- what lies outside the cells that are made has no kind -/
def Lv (S : St) : Prop := ∀ a, a = 0 ∨ gZ S < a → gK S a = 9999
theorem Lv.le {S : St} (h : Lv S) {a c : Nat} (hk : gK S a = c) (hc : c ≠ 9999) : a ≤ gZ S := Nat.not_lt.mp fun e => hc (by rw [← hk]; exact h a (Or.inr e))
theorem Lv.ps {S : St} (h : Lv S) {a c : Nat} (hk : gK S a = c) (hc : c ≠ 9999) : a ≠ 0 := fun e => hc (by rw [← hk]; exact h a (Or.inl e))
/-- only some places of the elder cells have changed -/
def FX (P : Nat → Nat → Prop) (S S' : St) : Prop := (gZ S ≤ gZ S' ∧ gU S ≤ gU S') ∧ ∀ a, a ≤ gZ S → (∀ k, ¬ P a k → gI S' a k = gI S a k ∧ gL S' a k = gL S a k ∧ gR S' a k = gR S a k) ∧ gK S' a = gK S a ∧ gN S' a = gN S a
theorem FX.rf {P : Nat → Nat → Prop} {S : St} : FX P S S := ⟨nochg S, fun a _ => ⟨fun k _ => ⟨rfl, rfl, rfl⟩, rfl, rfl⟩⟩
theorem FX.tr {P : Nat → Nat → Prop} {S S' S'' : St} (h : FX P S S') (h' : FX P S' S'') : FX P S S'' := by
  refine ⟨⟨Nat.le_trans h.1.1 h'.1.1, Nat.le_trans h.1.2 h'.1.2⟩, fun a ha => ?_⟩
  obtain ⟨h1, h2, h3⟩ := h.2 a ha
  obtain ⟨g1, g2, g3⟩ := h'.2 a (Nat.le_trans ha h.1.1)
  exact ⟨fun k hk => ⟨(g1 k hk).1.trans (h1 k hk).1, (g1 k hk).2.1.trans (h1 k hk).2.1, (g1 k hk).2.2.trans (h1 k hk).2.2⟩, g2.trans h2, g3.trans h3⟩
theorem FX.weak {P P' : Nat → Nat → Prop} {S S' : St} (h : FX P S S') (hp : ∀ a k, a ≤ gZ S → P a k → P' a k) : FX P' S S' :=
  ⟨h.1, fun a ha => ⟨fun k hk => (h.2 a ha).1 k (fun z => hk (hp a k ha z)), (h.2 a ha).2⟩⟩
theorem FX.I {P : Nat → Nat → Prop} {S S' : St} (h : FX P S S') {a k : Nat} (ha : a ≤ gZ S) (hp : ¬ P a k) : gI S' a k = gI S a k := ((h.2 a ha).1 k hp).1
theorem FX.L {P : Nat → Nat → Prop} {S S' : St} (h : FX P S S') {a k : Nat} (ha : a ≤ gZ S) (hp : ¬ P a k) : gL S' a k = gL S a k := ((h.2 a ha).1 k hp).2.1
theorem FX.R {P : Nat → Nat → Prop} {S S' : St} (h : FX P S S') {a k : Nat} (ha : a ≤ gZ S) (hp : ¬ P a k) : gR S' a k = gR S a k := ((h.2 a ha).1 k hp).2.2
theorem FX.K {P : Nat → Nat → Prop} {S S' : St} (h : FX P S S') {a : Nat} (ha : a ≤ gZ S) : gK S' a = gK S a := (h.2 a ha).2.1
theorem FX.N {P : Nat → Nat → Prop} {S S' : St} (h : FX P S S') {a : Nat} (ha : a ≤ gZ S) : gN S' a = gN S a := (h.2 a ha).2.2
theorem Fr.Z {P L : Nat → Nat → Prop} {S S' : St} (h : Fr P L S S') : gZ S' = gZ S := by unfold gZ; rw [h.2.2]
theorem Fr.U {P L : Nat → Nat → Prop} {S S' : St} (h : Fr P L S S') : gU S' = gU S := by unfold gU; rw [h.2.2]
theorem Fr.X {P L P' : Nat → Nat → Prop} {S S' : St} (h : Fr P L S S') (hp : ∀ a k, a ≤ gZ S → P a k ∨ L a k → P' a k) : FX P' S S' :=
  ⟨h.mono, fun a ha => ⟨fun k hk => ⟨h.1 a k (fun z => hk (hp a k ha (Or.inl z))), h.2.1 a k (fun z => hk (hp a k ha (Or.inr z))), h.R a k⟩, h.K a, h.N a⟩⟩
theorem FX.nw {P : Nat → Nat → Prop} {S : St} (c n : Nat) : FX P S (nw S c n) :=
  ⟨⟨by rw [gZ_nw]; omega, by rw [gU_nw]; omega⟩, fun a ha => ⟨fun k _ => ⟨by rw [gI_nw, if_neg (by omega)], by rw [gL_nw, if_neg (by omega)], by rw [gR_nw, if_neg (by omega)]⟩, by rw [gK_nw, if_neg (by omega)], by rw [gN_nw, if_neg (by omega)]⟩⟩
theorem FX.clI {P : Nat → Nat → Prop} {S : St} (c : Nat) : FX P S (clI S c) :=
  ⟨⟨by rw [gZ_clI]; omega, by rw [gU_clI]; omega⟩, fun a ha => ⟨fun k _ => ⟨by rw [gI_clI, if_neg (by omega)], by rw [gL_clI, if_neg (by omega)], by rw [gR_clI, if_neg (by omega)]⟩, by rw [gK_clI, if_neg (by omega)], by rw [gN_clI, if_neg (by omega)]⟩⟩
theorem FX.pI {P : Nat → Nat → Prop} {S : St} {a k : Nat} {v : Int32} (h : a ≤ gZ S → P a k) : FX P S (pI S a k v) :=
  ⟨nochg S, fun b hb => ⟨fun j hj => ⟨by rw [gI_pI, if_neg (by rintro ⟨rfl, rfl⟩; exact hj (h hb))], rfl, rfl⟩, rfl, rfl⟩⟩
theorem FX.pL {P : Nat → Nat → Prop} {S : St} {a k : Nat} {v : Int64} (h : a ≤ gZ S → P a k) : FX P S (pL S a k v) :=
  ⟨nochg S, fun b hb => ⟨fun j hj => ⟨rfl, by rw [gL_pL, if_neg (by rintro ⟨rfl, rfl⟩; exact hj (h hb))], rfl⟩, rfl, rfl⟩⟩
theorem FX.pR {P : Nat → Nat → Prop} {S : St} {a k : Nat} {v : Nat} (h : a ≤ gZ S → P a k) : FX P S (pR S a k v) :=
  ⟨nochg S, fun b hb => ⟨fun j hj => ⟨rfl, rfl, by rw [gR_pR, if_neg (by rintro ⟨rfl, rfl⟩; exact hj (h hb))]⟩, rfl, rfl⟩⟩
theorem FX.cpI {P : Nat → Nat → Prop} {S : St} {a b sp dp n : Nat} (h : b ≤ gZ S → ∀ k, dp ≤ k → k < dp + n → P b k) : FX P S (cpI S a b sp dp n) :=
  ⟨nochg S, fun x hx => ⟨fun j hj => ⟨by rw [gI_cpI, if_neg (by rintro ⟨rfl, h1, h2⟩; exact hj (h hx j h1 h2))], rfl, rfl⟩, rfl, rfl⟩⟩
theorem Lv.Z {S S' : St} (h : Lv S) (e : S'.2.2.2 = S.2.2.2) : Lv S' := by
  unfold Lv gZ gK at h ⊢
  rw [e]
  exact h
theorem Lv.nw {S : St} (h : Lv S) (c n : Nat) : Lv (nw S c n) := by
  intro a ha
  rw [gZ_nw] at ha
  rw [gK_nw, if_neg (by omega)]
  exact h a (by omega)
theorem Lv.clI {S : St} (h : Lv S) (c : Nat) : Lv (clI S c) := by
  intro a ha
  rw [gZ_clI] at ha
  rw [gK_clI, if_neg (by omega)]
  exact h a (by omega)
theorem TA.fx {S S' : St} {t : Nat} {T : TD} {P : Nat → Nat → Prop} (h : TA S t T) (hv : Lv S) (hf : FX P S S') (h1 : ∀ k, ¬ P t k) (h2 : ∀ k, ¬ P (gR S t 4) k) (h3 : ∀ k, ¬ P (gR S t 5) k) : TA S' t T := by
  obtain ⟨o, a, b, c, d, e, ⟨f1, f2, f3⟩, g1, g2, g3⟩ := h
  have l0 := hv.le a (by decide)
  have l1 := hv.le f1 (by decide)
  have l2 := hv.le g1 (by decide)
  have r1 := hf.R l0 (h1 4)
  have r2 := hf.R l0 (h1 5)
  exact ⟨o, by rw [hf.K l0]; exact a, by rw [hf.I l0 (h1 _)]; exact b, by rw [hf.I l0 (h1 _)]; exact c, by rw [hf.I l0 (h1 _)]; exact d, by rw [hf.I l0 (h1 _)]; exact e, ⟨by rw [r1, hf.K l1]; exact f1, by rw [r1, hf.N l1]; exact f2, fun i hi => by rw [r1, hf.I l1 (h2 _)]; exact f3 i hi⟩, by rw [r2, hf.K l2]; exact g1, by rw [r2, hf.N l2]; exact g2, fun i hi => by rw [r2, hf.I l2 (h3 _)]; exact g3 i hi⟩
theorem HL.fx {S S' : St} {a : Nat} {L : List Nat} {P : Nat → Nat → Prop} (h : HL S a L) (ha : a ≤ gZ S) (hf : FX P S S') (hn : ∀ k, k < L.length → ¬ P a k) : HL S' a L := by
  intro i v hv
  have hi : i < L.length := (List.getElem?_eq_some_iff.mp hv).1
  rw [hf.I ha (hn i hi)]
  exact h i v hv
theorem TC.fx {S S' : St} {t : Nat} {T : TD} {P : Nat → Nat → Prop} (h : TC S t T) (hv : Lv S) (hf : FX P S S') (h1 : ∀ k, ¬ P t k) (h2 : ∀ k, ¬ P (gR S t 4) k) (h3 : ∀ k, ¬ P (gR S t 5) k) (h4 : ∀ k, ¬ P (gR S t 8) k) : TC S' t T := by
  have l0 := hv.le h.1.2.1 (by decide)
  have l1 := hv.le h.2.1 (by decide)
  have r1 := hf.R l0 (h1 8)
  exact ⟨h.1.fx hv hf h1 h2 h3, by rw [r1, hf.K l1]; exact h.2.1, by rw [r1, hf.N l1]; exact h.2.2.1, by rw [r1]; exact h.2.2.2.fx l1 hf (fun k _ => h4 k)⟩
theorem candL_250 (T : TD) (hT : okT T) : (candL T).length ≤ 250 := by
  have h1 : (candL T).length ≤ ((List.range 448).filter (fun a => decide ((a / 64 < 6 ∧ a / 4 % 16 < 10) ∨ (a / 64 = 6 ∧ a % 4 = 0 ∧ a / 4 % 16 < 10)))).length := by
    unfold candL
    rw [← List.countP_eq_length_filter, ← List.countP_eq_length_filter]
    apply List.countP_mono_left
    intro a _ h
    rw [decide_eq_true_iff] at h ⊢
    have hW := hT.1
    have hN := hT.2.2.2.1
    rcases h with z | z
    · exact Or.inr ⟨z.1, z.2.1, by omega⟩
    · obtain ⟨⟨z1, z2, -⟩, -⟩ := z
      exact Or.inl ⟨by omega, by omega⟩
  have h2 : ((List.range 448).filter (fun a => decide ((a / 64 < 6 ∧ a / 4 % 16 < 10) ∨ (a / 64 = 6 ∧ a % 4 = 0 ∧ a / 4 % 16 < 10)))).length = 250 := by decide +kernel
  omega
abbrev cLm (T : TD) (m : Nat) : List Nat := (List.range m).filter (fun a => decide (cand T a))
theorem cLm_le {T : TD} {m : Nat} : ∀ {n : Nat}, m ≤ n → (cLm T m).length ≤ (cLm T n).length
  | 0, h => by rw [show m = 0 by omega]; exact Nat.le_refl _
  | n + 1, h => by
    by_cases e : m = n + 1
    · rw [e]; exact Nat.le_refl _
    · have := cLm_le (T := T) (m := m) (n := n) (by omega)
      have h2 : (cLm T (n + 1)).length = (cLm T n).length + ([n].filter (fun a => decide (cand T a))).length := by
        show ((List.range (n + 1)).filter _).length = _
        rw [List.range_succ, List.filter_append, List.length_append]
      omega
theorem cLm_250 {T : TD} (hT : okT T) {m : Nat} (h : m ≤ 448) : (cLm T m).length ≤ 250 := Nat.le_trans (cLm_le h) (candL_250 T hT)
/-- the row so far -/
def cIn (T : TD) (S1 : St) (r m : Nat) (S : St) : Prop := Fr (fun a _ => a = r) nol S1 S ∧ HL S r (cLm T m)
theorem cIn.skip {T : TD} {S1 S : St} {r m m' : Nat} (h : cIn T S1 r m S) (hm : m ≤ m') (hno : ∀ a, m ≤ a → a < m' → ¬ cand T a) : cIn T S1 r m' S ∧ cLm T m' = cLm T m := by
  have e : cLm T m' = cLm T m := rf_ext hm (fun a h1 h2 => decide_eq_false (hno a h1 h2))
  exact ⟨⟨h.1, by rw [e]; exact h.2⟩, e⟩
theorem cIn.put {T : TD} {S1 S : St} {r m : Nat} {x : Int32} (h : cIn T S1 r m S) (hc : cand T m) (hx : x = nI (cLm T m).length) (hl : (cLm T m).length < 2 ^ 31) : cIn T S1 r (m + 1) (pI S r x.toNatClampNeg (nI m)) ∧ (cLm T (m + 1)).length = (cLm T m).length + 1 := by
  have e : cLm T (m + 1) = cLm T m ++ [m] := rf_succ (decide_eq_true hc)
  have ek : x.toNatClampNeg = (cLm T m).length := by rw [hx, nI_clamp hl]
  refine ⟨⟨h.1.tr (Fr.putI rfl), ?_⟩, by rw [e, List.length_append]; rfl⟩
  rw [e, ek]
  refine HL.app (fun j v hj => ?_) ?_
  · have hjl := (List.getElem?_eq_some_iff.mp hj).1
    rw [gI_pI, if_neg (by rintro ⟨-, rfl⟩; omega)]
    exact h.2 j v hj
  · rw [gI_pI, if_pos ⟨rfl, rfl⟩]
theorem f61_b {d t r s c : Nat} {S1 : St} {T : TD} {Q : Option Value → St → Prop} (hT1 : TA S1 t T) (hr : gK S1 r = 100) (hn : gN S1 r = 250) (d1 : r ≠ t) (d2 : r ≠ gR S1 t 4) (d3 : r ≠ gR S1 t 5) (hs : s < tN T) (hc : c < tW T) (next : ∀ S z5 z6, cIn T S1 r (64 * s + 4 * (c + 1)) S → WP (P61 (F (d + 2))) (2, [.ref t, .ref r, .int (nI (cLm T (64 * s + 4 * (c + 1))).length), .int (nI s), .int (nI (c + 1)), z5, z6], [], S) Q) : ∀ (m b : Nat) (S : St), m = tB T s + 1 - b → 1 ≤ b → b ≤ tB T s + 1 → cIn T S1 r (64 * s + 4 * c + (b - 1)) S → ∀ z6 : Value, WP (P61 (F (d + 2))) (3, [.ref t, .ref r, .int (nI (cLm T (64 * s + 4 * c + (b - 1))).length), .int (nI s), .int (nI c), .int (nI b), z6], [], S) Q := by
  have hN := hT1.1.2.2.2.1
  have hW := hT1.1.1
  have hks := hT1.1.2.2.2.2 s hs
  intro m
  induction m with
  | zero =>
    intro b S hm hb1 hb hI z6
    have e : b = tB T s + 1 := by omega
    have hT := hT1.fr hI.1 (fun k z => d1 z.symm) (fun k z => d2 z.symm) (fun k z => d3 z.symm)
    obtain ⟨l1, l2, l3⟩ := hT.2.2.2.2.2.2.2
    refine w61_3 ?_
    refine W_t (hT.2.1) ?_
    refine W_t (⟨l1, by rw [l2]; exact inB_n (by omega) (by decide)⟩) ?_
    refine W_t (by rw [nI_clamp (by omega), l3 s hs, i_lt (by omega) (by omega)]; omega) ?_
    show WP _ _ _
    rw [nI_1]
    obtain ⟨h1, h2⟩ := hI.skip (m' := 64 * s + 4 * (c + 1)) (by omega) (fun a a1 a2 z => by
      rcases z with z | z
      · omega
      · obtain ⟨⟨z1, z2, z3⟩, z4⟩ := z
        rw [show a / 64 = s by omega] at z3
        omega)
    rw [← h2]
    exact next S _ _ h1
  | succ m ih =>
    intro b S hm hb1 hb hI z6
    have hT := hT1.fr hI.1 (fun k z => d1 z.symm) (fun k z => d2 z.symm) (fun k z => d3 z.symm)
    obtain ⟨k1, k2, k3⟩ := hT.2.2.2.2.2.2.1
    obtain ⟨l1, l2, l3⟩ := hT.2.2.2.2.2.2.2
    have hl := cLm_250 hT.1 (m := 64 * s + 4 * c + (b - 1)) (by omega)
    have hac := acS_s s c b (by omega) hb1 (by omega)
    have hae : acS s c b = 64 * s + 4 * c + (b - 1) := by unfold acS; omega
    rw [hae] at hac
    have after0 : ∀ (S' : St) (x6 : Int32), cIn T S1 r (64 * s + 4 * c + b) S' → WP (P61 (F (d + 2))) (6, [.ref t, .ref r, .int (nI (cLm T (64 * s + 4 * c + b)).length), .int (nI s), .int (nI c), .int (nI b), .int x6], [], S') Q := by
      intro S' x6 h
      refine w61_6 ?_
      show WP _ _ _
      rw [nI_1]
      have := ih (b + 1) S' (by omega) (by omega) (by omega) (by rw [show 64 * s + 4 * c + (b + 1 - 1) = 64 * s + 4 * c + b by omega]; exact h) (.int x6)
      rw [show 64 * s + 4 * c + (b + 1 - 1) = 64 * s + 4 * c + b by omega] at this
      exact this
    have after1 : ∀ (x6 : Int32), ¬ cand T (64 * s + 4 * c + (b - 1)) → WP (P61 (F (d + 2))) (6, [.ref t, .ref r, .int (nI (cLm T (64 * s + 4 * c + (b - 1))).length), .int (nI s), .int (nI c), .int (nI b), .int x6], [], S) Q := by
      intro x6 hno
      obtain ⟨h1, h2⟩ := hI.skip (m' := 64 * s + 4 * c + b) (by omega) (fun a a1 a2 => by
        rw [show a = 64 * s + 4 * c + (b - 1) by omega]; exact hno)
      rw [← h2]
      exact after0 S x6 h1
    have five : ∀ (y0 : Int32) (z6 : Value), y0 = bi (tK T s = 3 ∨ c + b ≤ tW T) → WP (P61 (F (d + 2))) (5, [.ref t, .ref r, .int (nI (cLm T (64 * s + 4 * c + (b - 1))).length), .int (nI s), .int (nI c), .int (nI b), z6], [.int y0], S) Q := by
      intro y0 z6 hy
      have hcd : cand T (64 * s + 4 * c + (b - 1)) ↔ (tK T s = 3 ∨ c + b ≤ tW T) ∧ told T s c b := by
        show (_ ∨ _) ↔ _
        rw [hac.1, hac.2.1, hac.2.2]
        constructor
        · rintro (z | z)
          · omega
          · exact ⟨z.2, z.1⟩
        · rintro ⟨z1, z2⟩
          exact Or.inr ⟨z2, z1⟩
      refine w61_5 ?_
      refine W_if (fun q => ?_) (fun q => ?_)
      · rw [hy, bi_0] at q
        exact after1 _ (fun z => q (hcd.mp z).1)
      · rw [hy, bi_0] at q
        have q := Classical.not_not.mp q
        refine W_t (hT.2.1) ?_
        refine W_I (f62 (d := d) hT) ?_
        refine W_if (fun q2 => ?_) (fun q2 => ?_)
        · rw [bi_0, nI_clamp (by omega), nI_clamp (by omega), nI_clamp (by omega)] at q2
          exact after1 _ (fun z => q2 ⟨nI_n0 (by omega), nI_n0 (by omega), (hcd.mp z).2⟩)
        · rw [bi_0, nI_clamp (by omega), nI_clamp (by omega), nI_clamp (by omega)] at q2
          have q2 := Classical.not_not.mp q2
          have hcd := hcd.mpr ⟨q, q2.2.2⟩
          have hput := hI.put hcd rfl (by omega)
          have hl2 := cLm_250 hT.1 (m := 64 * s + 4 * c + (b - 1) + 1) (by omega)
          refine W_t (by rw [hI.1.K, hr]; decide) ?_
          refine W_t (by rw [hI.1.N, hn, c_ofNat, i_lt (by omega) (by omega)]; omega) ?_
          refine W_I (f0 (by omega) (by omega) hb1 (by omega)) ?_
          refine W_t (⟨by rw [hI.1.K, hr], by rw [hI.1.N, hn]; exact inB_n (by omega) (by decide)⟩) ?_
          refine W_s fun S3 e3 => ?_
          show WP _ _ _
          rw [hae] at e3
          rw [← e3] at hput
          rw [show 64 * s + 4 * c + (b - 1) + 1 = 64 * s + 4 * c + b by omega] at hput
          rw [nI_1, ← hput.2]
          exact after0 S3 y0 hput.1
    refine w61_3 ?_
    refine W_t (hT.2.1) ?_
    refine W_t (⟨l1, by rw [l2]; exact inB_n (by omega) (by decide)⟩) ?_
    refine W_f (by rw [nI_clamp (by omega), l3 s hs, i_lt (by omega) (by omega)]; omega) ?_
    refine W_t (hT.2.1) ?_
    refine W_t (⟨k1, by rw [k2]; exact inB_n (by omega) (by decide)⟩) ?_
    refine W_if (fun q => ?_) (fun q => ?_)
    · rw [nI_clamp (by omega), k3 s hs] at q
      simp (disch := omega) only [c0, c1, c2, c3, c4, c5, c6, c7, c8, c9, c10, c_ofNat, i_lt, i_eq, i_le] at q
      show WP _ _ _
      refine w61_4 ?_
      exact five 1 _ (bi_t (Or.inl q)).symm
    · rw [nI_clamp (by omega), k3 s hs] at q
      simp (disch := omega) only [c0, c1, c2, c3, c4, c5, c6, c7, c8, c9, c10, c_ofNat, i_lt, i_eq, i_le] at q
      refine W_t (hT.2.1) ?_
      refine W_if (fun q2 => ?_) (fun q2 => ?_)
      · rw [hT.2.2.1, nI_add] at q2
        simp (disch := omega) only [c0, c1, c2, c3, c4, c5, c6, c7, c8, c9, c10, c_ofNat, i_lt, i_eq, i_le] at q2
        exact five 0 _ (bi_f (fun z => z.elim q (by omega))).symm
      · rw [hT.2.2.1, nI_add] at q2
        simp (disch := omega) only [c0, c1, c2, c3, c4, c5, c6, c7, c8, c9, c10, c_ofNat, i_lt, i_eq, i_le] at q2
        show WP _ _ _
        refine w61_4 ?_
        exact five 1 _ (bi_t (Or.inr (by omega))).symm
theorem f61_c {d t r s : Nat} {S1 : St} {T : TD} {Q : Option Value → St → Prop} (hT1 : TA S1 t T) (hr : gK S1 r = 100) (hn : gN S1 r = 250) (d1 : r ≠ t) (d2 : r ≠ gR S1 t 4) (d3 : r ≠ gR S1 t 5) (hs : s < tN T) (next : ∀ S z4 z5 z6, cIn T S1 r (64 * (s + 1)) S → WP (P61 (F (d + 2))) (1, [.ref t, .ref r, .int (nI (cLm T (64 * (s + 1))).length), .int (nI (s + 1)), z4, z5, z6], [], S) Q) : ∀ (m c : Nat) (S : St), m = tW T - c → c ≤ tW T → cIn T S1 r (64 * s + 4 * c) S → ∀ z5 z6 : Value, WP (P61 (F (d + 2))) (2, [.ref t, .ref r, .int (nI (cLm T (64 * s + 4 * c)).length), .int (nI s), .int (nI c), z5, z6], [], S) Q := by
  have hN := hT1.1.2.2.2.1
  have hW := hT1.1.1
  intro m
  induction m with
  | zero =>
    intro c S hm hc hI z5 z6
    have e : c = tW T := by omega
    have hT := hT1.fr hI.1 (fun k z => d1 z.symm) (fun k z => d2 z.symm) (fun k z => d3 z.symm)
    refine w61_2 ?_
    refine W_t (hT.2.1) ?_
    refine W_f (by rw [hT.2.2.1, i_lt (by omega) (by omega)]; omega) ?_
    show WP _ _ _
    rw [nI_1]
    obtain ⟨h1, h2⟩ := hI.skip (m' := 64 * (s + 1)) (by omega) (fun a a1 a2 z => by
      rcases z with z | z
      · omega
      · obtain ⟨⟨z1, z2, z3⟩, z4⟩ := z
        omega)
    rw [← h2]
    exact next S _ _ _ h1
  | succ m ih =>
    intro c S hm hc hI z5 z6
    have hT := hT1.fr hI.1 (fun k z => d1 z.symm) (fun k z => d2 z.symm) (fun k z => d3 z.symm)
    refine w61_2 ?_
    refine W_t (hT.2.1) ?_
    refine W_t (by rw [hT.2.2.1, i_lt (by omega) (by omega)]; omega) ?_
    show WP _ _ _
    refine f61_b hT1 hr hn d1 d2 d3 hs (show c < tW T by omega) (fun S' z5' z6' h => ?_) (tB T s) 1 S (by omega) (by omega) (by omega) hI z6
    exact ih (c + 1) S' (by omega) (by omega) h z5' z6'
theorem f61_s {d t r : Nat} {S1 : St} {T : TD} {Q : Option Value → St → Prop} (hT1 : TA S1 t T) (hr : gK S1 r = 100) (hn : gN S1 r = 250) (d1 : r ≠ t) (d2 : r ≠ gR S1 t 4) (d3 : r ≠ gR S1 t 5) (next : ∀ S z4 z5 z6, cIn T S1 r 384 S → WP (P61 (F (d + 2))) (7, [.ref t, .ref r, .int (nI (cLm T 384).length), .int (nI 0), z4, z5, z6], [], S) Q) : ∀ (m s : Nat) (S : St), m = tN T - s → s ≤ tN T → cIn T S1 r (64 * s) S → ∀ z4 z5 z6 : Value, WP (P61 (F (d + 2))) (1, [.ref t, .ref r, .int (nI (cLm T (64 * s)).length), .int (nI s), z4, z5, z6], [], S) Q := by
  have hN := hT1.1.2.2.2.1
  have hW := hT1.1.1
  intro m
  induction m with
  | zero =>
    intro s S hm hc hI z4 z5 z6
    have hT := hT1.fr hI.1 (fun k z => d1 z.symm) (fun k z => d2 z.symm) (fun k z => d3 z.symm)
    refine w61_1 ?_
    refine W_t (hT.2.1) ?_
    refine W_f (by rw [hT.2.2.2.2.2.1, i_lt (by omega) (by omega)]; omega) ?_
    show WP _ _ _
    obtain ⟨h1, h2⟩ := hI.skip (m' := 384) (by omega) (fun a a1 a2 z => by
      rcases z with z | z
      · omega
      · obtain ⟨⟨z1, z2, z3⟩, z4⟩ := z
        omega)
    rw [← h2]
    exact next S _ _ _ h1
  | succ m ih =>
    intro s S hm hc hI z4 z5 z6
    have hT := hT1.fr hI.1 (fun k z => d1 z.symm) (fun k z => d2 z.symm) (fun k z => d3 z.symm)
    refine w61_1 ?_
    refine W_t (hT.2.1) ?_
    refine W_t (by rw [hT.2.2.2.2.2.1, i_lt (by omega) (by omega)]; omega) ?_
    show WP _ _ _
    refine f61_c hT1 hr hn d1 d2 d3 (show s < tN T by omega) (fun S' z4' z5' z6' h => ?_) (tW T) 0 S (by omega) (by omega) hI z5 z6
    exact ih (s + 1) S' (by omega) (by omega) h z4' z5' z6'
theorem f61_g {d t r : Nat} {S1 : St} {T : TD} {Q : Option Value → St → Prop} (hT1 : TA S1 t T) (hr : gK S1 r = 100) (hn : gN S1 r = 250) (d1 : r ≠ t) (d2 : r ≠ gR S1 t 4) (d3 : r ≠ gR S1 t 5) (next : ∀ S x3 z4 z5 z6, cIn T S1 r 448 S → WP (P61 (F (d + 2))) (8, [.ref t, .ref r, .int (nI (cLm T 448).length), .int x3, z4, z5, z6], [], S) Q) : ∀ (m c : Nat) (S : St), m = tW T - c → c ≤ tW T → cIn T S1 r (384 + 4 * c) S → ∀ z4 z5 z6 : Value, WP (P61 (F (d + 2))) (7, [.ref t, .ref r, .int (nI (cLm T (384 + 4 * c)).length), .int (nI c), z4, z5, z6], [], S) Q := by
  have hN := hT1.1.2.2.2.1
  have hW := hT1.1.1
  have hG := hT1.1.2.2.1
  intro m
  induction m with
  | zero =>
    intro c S hm hc hI z4 z5 z6
    have hT := hT1.fr hI.1 (fun k z => d1 z.symm) (fun k z => d2 z.symm) (fun k z => d3 z.symm)
    refine w61_7 ?_
    refine W_t (hT.2.1) ?_
    refine W_f (by rw [hT.2.2.1, i_lt (by omega) (by omega)]; omega) ?_
    show WP _ _ _
    obtain ⟨h1, h2⟩ := hI.skip (m' := 448) (by omega) (fun a a1 a2 z => by
      rcases z with z | z
      · omega
      · obtain ⟨⟨z1, z2, z3⟩, z4⟩ := z
        omega)
    rw [← h2]
    exact next S _ _ _ _ h1
  | succ m ih =>
    intro c S hm hc hI z4 z5 z6
    have hT := hT1.fr hI.1 (fun k z => d1 z.symm) (fun k z => d2 z.symm) (fun k z => d3 z.symm)
    have hl := cLm_250 hT.1 (m := 384 + 4 * c) (by omega)
    refine w61_7 ?_
    refine W_t (hT.2.1) ?_
    refine W_t (by rw [hT.2.2.1, i_lt (by omega) (by omega)]; omega) ?_
    refine W_t (hT.2.1) ?_
    refine W_if (fun q => ?_) (fun q => ?_)
    · rw [hT.2.2.2.2.1] at q
      simp (disch := omega) only [c0, c1, c2, c3, c4, c5, c6, c7, c8, c9, c10, c_ofNat, i_lt, i_eq, i_le] at q
      have hcd : cand T (384 + 4 * c) := Or.inl ⟨by omega, by omega, by omega, q⟩
      have hput := hI.put hcd rfl (by omega)
      have hl2 := cLm_250 hT.1 (m := 384 + 4 * c + 1) (by omega)
      refine W_t (by rw [hI.1.K, hr]; decide) ?_
      refine W_t (by rw [hI.1.N, hn, c_ofNat, i_lt (by omega) (by omega)]; omega) ?_
      refine W_I (f1 (by omega)) ?_
      refine W_t (⟨by rw [hI.1.K, hr], by rw [hI.1.N, hn]; exact inB_n (by omega) (by decide)⟩) ?_
      refine W_s fun S3 e3 => ?_
      show WP _ _ _
      rw [show acG c = 384 + 4 * c from rfl] at e3
      rw [← e3] at hput
      obtain ⟨h1, h2⟩ := hput.1.skip (m' := 384 + 4 * (c + 1)) (by omega) (fun a a1 a2 z => by
        rcases z with z | z
        · omega
        · obtain ⟨⟨z1, z2, z3⟩, z4⟩ := z
          omega)
      rw [nI_1, nI_1, ← hput.2, ← h2]
      exact ih (c + 1) S3 (by omega) (by omega) h1 z4 z5 z6
    · rw [hT.2.2.2.2.1] at q
      simp (disch := omega) only [c0, c1, c2, c3, c4, c5, c6, c7, c8, c9, c10, c_ofNat, i_lt, i_eq, i_le] at q
      show WP _ _ _
      obtain ⟨h1, h2⟩ := hI.skip (m' := 448) (by omega) (fun a a1 a2 z => by
        rcases z with z | z
        · omega
        · obtain ⟨⟨z1, z2, z3⟩, z4⟩ := z
          omega)
      rw [← h2]
      exact next S _ _ _ _ h1
theorem f61 {d t : Nat} {S : St} {T : TD} (hT : TA S t T) (hv : Lv S) : Sp (F (d + 3) 61 [.ref t] S) (fun v S' => ∃ x, v = some (.ref x) ∧ x = gZ S + 2 ∧ gZ S' = gZ S + 2 ∧ gU S' = gU S + 250 + (candL T).length ∧ FX nol S S' ∧ Lv S' ∧ gK S' x = 100 ∧ gN S' x = (candL T).length ∧ HL S' x (candL T)) := by
  have l0 := hv.le hT.2.1 (by decide)
  have l1 := hv.le hT.2.2.2.2.2.2.1.1 (by decide)
  have l2 := hv.le hT.2.2.2.2.2.2.2.1 (by decide)
  refine fw61 (w61_0 ?_)
  refine W_t (by decide +kernel) ?_
  refine W_s fun S1 e1 => ?_
  have hx1 : FX nol S S1 := by rw [e1]; exact FX.nw _ _
  have hT1 : TA S1 t T := hT.fx hv hx1 (fun _ z => z) (fun _ z => z) (fun _ z => z)
  have hv1 : Lv S1 := by rw [e1]; exact hv.nw _ _
  have hz1 : gZ S1 = gZ S + 1 := by rw [e1]; rfl
  have hu1 : gU S1 = gU S + 250 := by rw [e1]; rfl
  have hk1 : gK S1 (gZ S + 1) = 100 := by rw [e1, gK_nw, if_pos rfl]
  have hn1 : gN S1 (gZ S + 1) = 250 := by rw [e1, gN_nw, if_pos rfl]; decide +kernel
  have d2 : gZ S + 1 ≠ gR S1 t 4 := by rw [hx1.R l0 (fun z => z)]; omega
  have d3 : gZ S + 1 ≠ gR S1 t 5 := by rw [hx1.R l0 (fun z => z)]; omega
  show WP _ _ _
  refine f61_s hT1 hk1 hn1 (by omega) d2 d3 (fun S2 z4 z5 z6 h2 => ?_) (tN T) 0 S1 (by omega) (by omega) ⟨Fr.rf, fun i v hv => by simp [cLm] at hv⟩ _ _ _
  refine f61_g hT1 hk1 hn1 (by omega) d2 d3 (fun S3 x3 z4 z5 z6 h3 => ?_) (tW T) 0 S2 (by omega) (by omega) h2 z4 z5 z6
  have hlen : (cLm T 448).length ≤ 250 := cLm_250 hT.1 (by omega)
  have hz3 : gZ S3 = gZ S + 1 := by rw [h3.1.Z, hz1]
  refine w61_8 ?_
  refine W_t (by rw [nI_toInt (by omega)]; omega) ?_
  refine W_s fun S4 e4 => ?_
  have k4 : gK S4 (gZ S3 + 1) = 100 := by rw [e4, gK_nw, if_pos rfl]
  have n4 : gN S4 (gZ S3 + 1) = (cLm T 448).length := by rw [e4, gN_nw, if_pos rfl, nI_clamp (by omega)]
  refine W_t (by rw [k4, n4, e4, gK_nw, gN_nw, if_neg (by omega), if_neg (by omega), h3.1.K, h3.1.N, hk1, hn1, nI_toInt (by omega), show (0 : Int32).toInt = 0 from by decide]; omega) ?_
  refine W_s fun S5 e5 => ?_
  have hx4 : FX nol S3 S4 := by rw [e4]; exact FX.nw _ _
  have hx5 : FX nol S S5 := by
    have hx3 : FX (fun a _ => a = gZ S + 1) S S3 := (hx1.weak (fun _ _ _ z => z.elim)).tr (h3.1.X (fun a k _ z => z.elim id (fun y => y.elim)))
    have hx45 : FX (fun a _ => gZ S < a) S4 S5 := by rw [e5]; exact FX.cpI (fun _ k _ _ => by show gZ S < gZ S3 + 1; omega)
    refine FX.weak (P := fun a _ => gZ S < a) ?_ (fun a k ha z => absurd (show gZ S < a from z) (by omega))
    exact ((hx3.weak (fun a k _ z => by have z : a = gZ S + 1 := z; show gZ S < a; omega)).tr (hx4.weak (fun _ _ _ z => z.elim))).tr hx45
  have hv4 : Lv S4 := by rw [e4]; exact Lv.nw (Lv.Z hv1 (by rw [h3.1.2.2])) _ _
  refine ⟨⟨hx5.1.1, hx5.1.2⟩, gZ S3 + 1, rfl, congrArg (· + 1) hz3, ?_, ?_, hx5, ?_, ?_, ?_, ?_⟩
  · rw [e5, gZ_cpI, e4, gZ_nw]; omega
  · rw [e5, gU_cpI, e4, gU_nw, h3.1.U, hu1, nI_clamp (by omega)]; rfl
  · rw [e5]; exact Lv.Z hv4 rfl
  · rw [e5, gK_cpI]; exact k4
  · rw [e5, gN_cpI]; exact n4
  · intro i v hv2
    have hi : i < (cLm T 448).length := (List.getElem?_eq_some_iff.mp hv2).1
    rw [e5, gI_cpI, if_pos ⟨rfl, Nat.zero_le _, by rw [nI_clamp (by omega)]; simpa using hi⟩, e4, gI_nw, if_neg (by omega)]
    have := h3.2 i v hv2
    simpa using this
