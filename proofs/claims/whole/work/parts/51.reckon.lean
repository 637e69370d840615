/-! the reckoner: what a fine's code comes to -/
abbrev RP : Nat → Nat → Prop := fun a k => a = 15 ∨ (a = 14 ∧ k = 1)
/-- the stack of values, the last one first -/
def stk (S : St) (st : List Int32) : Prop := gI S 14 1 = nI st.length ∧ ∀ i v, st.reverse[i]? = some v → gI S 15 i = v
theorem f47 {d : Nat} {S : St} {v : Int32} {st : List Int32} (hS : ShC S) (h : stk S st) (hl : st.length < 32) : Sp (F (d + 1) 47 [.ref 14, .int v] S) (fun r S' => r = none ∧ Fr RP nol S S' ∧ stk S' (v :: st)) := by
  have hk := hS.k14
  have hr := hS.r14_0
  have hk5 := hS.k15
  have hn := hS.n15
  refine fw47 (w47_0 ?_)
  refine W_t (hk) ?_
  refine W_t (hk) ?_
  refine W_t (by rw [hr, hk5]; decide) ?_
  refine W_t (by rw [hr, hn, h.1, c_ofNat, i_lt (by omega) (by omega)]; omega) ?_
  refine W_t (hk) ?_
  refine W_t (hk) ?_
  refine W_t (⟨by rw [hr]; exact hk5, by rw [hr, hn, h.1]; exact inB_n hl (by decide)⟩) ?_
  refine W_s fun S1 e1 => ?_
  rw [hr, h.1, nI_clamp (by omega)] at e1
  refine W_t (by rw [e1]; exact hk) ?_
  refine W_t (by rw [e1]; exact hk) ?_
  refine W_s fun S2 e2 => ?_
  have e3 : gI S1 14 1 = nI st.length := by rw [e1, gI_pI, if_neg (by rintro ⟨z, -⟩; exact absurd z (by decide))]; exact h.1
  have hf : Fr RP nol S S2 := by
    rw [e2, e1]
    exact (Fr.putI (Or.inl rfl)).tr (Fr.putI (Or.inr ⟨rfl, rfl⟩))
  refine ⟨hf.mono, rfl, hf, ?_, fun i x hx => ?_⟩
  · rw [e2, gI_pI, if_pos ⟨rfl, rfl⟩, e3, nI_1]; rfl
  · rw [e2, gI_pI, if_neg (by rintro ⟨z, -⟩; exact absurd z (by decide)), e1, gI_pI]
    rw [List.reverse_cons] at hx
    by_cases e : i < st.length
    · rw [if_neg (by omega)]
      rw [List.getElem?_append_left (by simpa using e)] at hx
      exact h.2 i x hx
    · rw [List.getElem?_append_right (by simpa using e)] at hx
      have : i - st.reverse.length = 0 := by
        have := (List.getElem?_eq_some_iff.mp hx).1
        simp at this ⊢
        omega
      rw [this] at hx
      have e4 : v = x := by simpa using hx
      rw [if_pos ⟨rfl, by simp at this; omega⟩, e4]
theorem f48 {d : Nat} {S : St} {v : Int32} {st : List Int32} (hS : ShC S) (h : stk S (v :: st)) (hl : st.length < 32) : Sp (F (d + 1) 48 [.ref 14] S) (fun r S' => ∃ x, r = some (.int x) ∧ x = v ∧ Fr RP nol S S' ∧ stk S' st) := by
  have hk := hS.k14
  have hr := hS.r14_0
  have hk5 := hS.k15
  have hn := hS.n15
  have h1 : gI S 14 1 = nI (st.length + 1) := h.1
  refine fw48 (w48_0 ?_)
  refine W_t (hk) ?_
  refine W_t (by rw [h1, c0, i_lt (by omega) (by omega)]; omega) ?_
  refine W_t (hk) ?_
  refine W_t (hk) ?_
  refine W_s fun S1 e1 => ?_
  have e3 : gI S1 14 1 = nI st.length := by rw [e1, gI_pI, if_pos ⟨rfl, rfl⟩, h1, nI_pred]
  have hf : Fr RP nol S S1 := by
    rw [e1]
    exact Fr.putI (Or.inr ⟨rfl, rfl⟩)
  have h15 : ∀ i, gI S1 15 i = gI S 15 i := fun i => by rw [e1, gI_pI, if_neg (by rintro ⟨z, -⟩; exact absurd z (by decide))]
  show WP _ _ _
  refine w48_1 ?_
  refine W_t (by rw [hf.K]; exact hk) ?_
  refine W_t (by rw [hf.K]; exact hk) ?_
  refine W_t (⟨by rw [hf.R, hf.K, hr]; exact hk5, by rw [hf.R, hf.N, hr, hn, e3]; exact inB_n hl (by decide)⟩) ?_
  rw [hf.R, hr, e3, nI_clamp (by omega), h15]
  refine ⟨hf.mono, _, rfl, ?_, hf, e3, fun i x hx => ?_⟩
  · refine h.2 st.length v ?_
    rw [List.reverse_cons, List.getElem?_append_right (by simp)]
    simp
  · rw [h15]
    have hi := (List.getElem?_eq_some_iff.mp hx).1
    refine h.2 i x ?_
    rw [List.reverse_cons, List.getElem?_append_left hi]
    exact hx
def joinV (j a b : Int32) : Int32 := if j = 42 then a * b else if j = 43 then a + b else if j = 45 then a - b else if j = 60 then bi (a < b) else if j = 61 then bi (a = b) else if j = 143 then bi (a ≠ 0 ∧ b ≠ 0) else bi (a ≠ 0 ∨ b ≠ 0)
theorem f46 {d : Nat} {S : St} {j a b : Int32} : F (d + 1) 46 [.int j, .int a, .int b] S = some (some (.int (joinV j a b)), S) := by
  refine fq46 (w46_0 ?_)
  refine W_if (fun h1 => ?_) (fun h1 => ?_)
  · exact ⟨by unfold joinV; rw [if_pos h1], rfl⟩
  refine W_if (fun h2 => ?_) (fun h2 => ?_)
  · exact ⟨by unfold joinV; rw [if_neg h1, if_pos h2], rfl⟩
  refine W_if (fun h3 => ?_) (fun h3 => ?_)
  · exact ⟨by unfold joinV; rw [if_neg h1, if_neg h2, if_pos h3], rfl⟩
  refine W_if (fun h4 => ?_) (fun h4 => ?_)
  · refine W_if (fun q => ?_) (fun q => ?_)
    · exact ⟨by unfold joinV; rw [if_neg h1, if_neg h2, if_neg h3, if_pos h4, bi_t q], rfl⟩
    · exact ⟨by unfold joinV; rw [if_neg h1, if_neg h2, if_neg h3, if_pos h4, bi_f q], rfl⟩
  refine W_if (fun h5 => ?_) (fun h5 => ?_)
  · refine W_if (fun q => ?_) (fun q => ?_)
    · exact ⟨by unfold joinV; rw [if_neg h1, if_neg h2, if_neg h3, if_neg h4, if_pos h5, bi_t q], rfl⟩
    · exact ⟨by unfold joinV; rw [if_neg h1, if_neg h2, if_neg h3, if_neg h4, if_pos h5, bi_f q], rfl⟩
  refine W_if (fun h6 => ?_) (fun h6 => ?_)
  · have ej : joinV j a b = bi (a ≠ 0 ∧ b ≠ 0) := by unfold joinV; rw [if_neg h1, if_neg h2, if_neg h3, if_neg h4, if_neg h5, if_pos h6]
    refine W_if (fun q => ?_) (fun q => ?_)
    · exact ⟨by rw [ej, bi_f (fun z => z.1 q)], rfl⟩
    refine W_if (fun q2 => ?_) (fun q2 => ?_)
    · exact ⟨by rw [ej, bi_f (fun z => z.2 q2)], rfl⟩
    · exact ⟨by rw [ej, bi_t ⟨q, q2⟩], rfl⟩
  · have ej : joinV j a b = bi (a ≠ 0 ∨ b ≠ 0) := by unfold joinV; rw [if_neg h1, if_neg h2, if_neg h3, if_neg h4, if_neg h5, if_neg h6]
    refine W_if (fun q => ?_) (fun q => ?_)
    · refine W_if (fun q2 => ?_) (fun q2 => ?_)
      · exact ⟨by rw [ej, bi_f (fun z => z.elim (fun y => y q) (fun y => y q2))], rfl⟩
      · show WP _ _ _
        refine w46_1 ?_
        exact ⟨by rw [ej, bi_t (Or.inr q2)], rfl⟩
    · show WP _ _ _
      refine w46_1 ?_
      exact ⟨by rw [ej, bi_t (Or.inl q)], rfl⟩
/-- what a stone tells a fine: wide, level, holes, day -/
abbrev Env : Type := Int32 × Int32 × Int32 × Int32
def pus (v : Int32) (st : List Int32) : Option (List Int32) := if st.length < 32 then some (v :: st) else none
/-- one item of a fine's code -/
def evS (e : Env) (x : Int32) (st : List Int32) : Option (List Int32) :=
  if -x = 138 then pus e.1 st else if -x = 139 then pus e.2.1 st else if -x = 140 then pus e.2.2.1 st else if -x = 141 then pus e.2.2.2 st
  else if -x = 142 then (match st with | a :: r => if r.length < 32 then some (bi (a = 0) :: r) else none | [] => none)
  else if x < 0 then (match st with | b :: a :: r => if r.length < 31 then some (joinV (-x) a b :: r) else none | _ => none)
  else pus x st
def evC (e : Env) : List Int32 → List Int32 → Option (List Int32)
  | [], st => some st
  | x :: xs, st => match evS e x st with
    | some st' => evC e xs st'
    | none => none
theorem evC_app {e : Env} : ∀ {xs ys : List Int32} {st : List Int32}, evC e (xs ++ ys) st = (match evC e xs st with | some st' => evC e ys st' | none => none)
  | [], ys, st => rfl
  | x :: xs, ys, st => by
    show (match evS e x st with | some st' => evC e (xs ++ ys) st' | none => none) = (match (match evS e x st with | some st' => evC e xs st' | none => none) with | some st' => evC e ys st' | none => none)
    cases evS e x st with
    | none => rfl
    | some st' => exact evC_app
/-- a cell holds a code -/
def HC (S : St) (a : Nat) (C : List Int32) : Prop := gK S a = 100 ∧ gN S a = C.length ∧ C.length < 2 ^ 31 ∧ ∀ i v, C[i]? = some v → gI S a i = v
theorem HC.fr {S S' : St} {a : Nat} {C : List Int32} {P Q : Nat → Nat → Prop} (h : HC S a C) (hf : Fr P Q S S') (hn : ∀ k, ¬ P a k) : HC S' a C :=
  ⟨by rw [hf.K]; exact h.1, by rw [hf.N]; exact h.2.1, h.2.2.1, fun i v hv => by rw [hf.1 _ _ (hn _)]; exact h.2.2.2 i v hv⟩
theorem f45_loop {d fc : Nat} {x2 x3 x4 x5 v : Int32} {C : List Int32} {S0 : St} (hS0 : ShC S0) (hC0 : HC S0 fc C) (n1 : fc ≠ 14) (n2 : fc ≠ 15) : ∀ (D : List Int32) (i : Nat) (st : List Int32) (S : St), C = C.take i ++ D → i ≤ C.length → Fr RP nol S0 S → stk S st → evC (x2, x3, x4, x5) D st = some [v] → ∀ z7 z8 : Value, WP (P45 (F (d + 1))) (1, [.ref 14, .ref fc, .int x2, .int x3, .int x4, .int x5, .int (nI i), z7, z8], [], S) (fun r S' => r = some (.int v) ∧ Fr RP nol S0 S') := by
  intro D
  induction D with
  | nil =>
    intro i st S hD hi hf hst hev z7 z8
    have hS := hS0.of hf.2.2
    have hC := hC0.fr hf (fun k z => z.elim n2 (fun y => n1 y.1))
    have hl : i = C.length := by
      have := congrArg List.length hD
      simp at this
      omega
    have e : st = [v] := Option.some.inj hev
    subst e
    refine w45_1 ?_
    refine W_t (by rw [hC.1]; decide) ?_
    refine W_f (by rw [hC.2.1, c_ofNat, i_lt (by have := hC.2.2.1; omega) hC.2.2.1]; omega) ?_
    refine W_t (hS.k14) ?_
    refine W_Ie (f48 hS hst (by simp)) ?_
    rintro x S' ⟨rfl, h1, h2⟩
    exact ⟨rfl, hf.tr h1⟩
  | cons x D ih =>
    intro i st S hD hi hf hst hev z7 z8
    have hS := hS0.of hf.2.2
    have hC := hC0.fr hf (fun k z => z.elim n2 (fun y => n1 y.1))
    have hlt : i < C.length := by
      have := congrArg List.length hD
      simp at this
      omega
    have hget : C[i]? = some x := by
      rw [hD, List.getElem?_append_right (by rw [List.length_take]; exact Nat.min_le_left _ _)]
      simp [Nat.min_eq_left hi]
    have hx : gI S fc (nI i).toNatClampNeg = x := by
      rw [nI_clamp (by have := hC.2.2.1; omega)]
      exact hC.2.2.2 i x hget
    have hD' : C = C.take (i + 1) ++ D := by
      rw [List.take_add_one, hget, List.append_assoc]
      exact hD
    have hstep : ∃ st', evS (x2, x3, x4, x5) x st = some st' ∧ evC (x2, x3, x4, x5) D st' = some [v] := by
      have h0 : (match evS (x2, x3, x4, x5) x st with | some st' => evC (x2, x3, x4, x5) D st' | none => none) = some [v] := hev
      cases hq : evS (x2, x3, x4, x5) x st with
      | none => rw [hq] at h0; cases h0
      | some st' => rw [hq] at h0; exact ⟨st', rfl, h0⟩
    obtain ⟨st', hs1, hs2⟩ := hstep
    have three : ∀ (S' : St) (x7 : Int32) (z8 : Value), Fr RP nol S S' → stk S' st' → WP (P45 (F (d + 1))) (3, [.ref 14, .ref fc, .int x2, .int x3, .int x4, .int x5, .int (nI i), .int x7, z8], [], S') (fun r S' => r = some (.int v) ∧ Fr RP nol S0 S') := by
      intro S' x7 z8 hf' hst'
      refine w45_3 ?_
      show WP _ _ _
      rw [nI_1]
      exact ih (i + 1) st' S' hD' (by omega) (hf.tr hf') hst' hs2 _ _
    refine w45_1 ?_
    refine W_t (by rw [hC.1]; decide) ?_
    refine W_t (by rw [hC.2.1, c_ofNat, i_lt (by have := hC.2.2.1; omega) hC.2.2.1]; omega) ?_
    refine W_t (⟨hC.1, by rw [hC.2.1]; exact inB_n hlt hC.2.2.1⟩) ?_
    rw [hx]
    have pusd : ∀ y, pus y st = some st' → st.length < 32 ∧ y :: st = st' := fun y hy => by
      unfold pus at hy
      by_cases q : st.length < 32
      · rw [if_pos q] at hy; exact ⟨q, Option.some.inj hy⟩
      · rw [if_neg q] at hy; cases hy
    unfold evS at hs1
    refine W_if (fun g1 => ?_) (fun g1 => ?_)
    · rw [if_pos g1] at hs1
      obtain ⟨q1, q2⟩ := pusd _ hs1
      refine W_t (hS.k14) ?_
      refine W_Ve (f47 hS hst q1) ?_
      rintro S' ⟨a1, a2⟩
      exact three S' _ _ a1 (q2 ▸ a2)
    rw [if_neg g1] at hs1
    refine W_if (fun g2 => ?_) (fun g2 => ?_)
    · rw [if_pos g2] at hs1
      obtain ⟨q1, q2⟩ := pusd _ hs1
      refine W_t (hS.k14) ?_
      refine W_Ve (f47 hS hst q1) ?_
      rintro S' ⟨a1, a2⟩
      exact three S' _ _ a1 (q2 ▸ a2)
    rw [if_neg g2] at hs1
    refine W_if (fun g3 => ?_) (fun g3 => ?_)
    · rw [if_pos g3] at hs1
      obtain ⟨q1, q2⟩ := pusd _ hs1
      refine W_t (hS.k14) ?_
      refine W_Ve (f47 hS hst q1) ?_
      rintro S' ⟨a1, a2⟩
      exact three S' _ _ a1 (q2 ▸ a2)
    rw [if_neg g3] at hs1
    refine W_if (fun g4 => ?_) (fun g4 => ?_)
    · rw [if_pos g4] at hs1
      obtain ⟨q1, q2⟩ := pusd _ hs1
      refine W_t (hS.k14) ?_
      refine W_Ve (f47 hS hst q1) ?_
      rintro S' ⟨a1, a2⟩
      exact three S' _ _ a1 (q2 ▸ a2)
    rw [if_neg g4] at hs1
    refine W_if (fun g5 => ?_) (fun g5 => ?_)
    · rw [if_pos g5] at hs1
      cases st with
      | nil => cases hs1
      | cons a r =>
        dsimp only at hs1
        by_cases q : r.length < 32
        · rw [if_pos q] at hs1
          have q2 := Option.some.inj hs1
          refine W_t (hS.k14) ?_
          refine W_Ie (f48 hS hst q) ?_
          rintro y S5 ⟨rfl, a1, a2⟩
          have hS5 := hS.of a1.2.2
          have two : ∀ y0 : Int32, y0 = bi (y = 0) → WP (P45 (F (d + 1))) (2, [.ref 14, .ref fc, .int x2, .int x3, .int x4, .int x5, .int (nI i), .int x, z8], [.int y0, .ref 14], S5) (fun r S' => r = some (.int v) ∧ Fr RP nol S0 S') := by
            rintro y0 rfl
            refine w45_2 ?_
            refine W_t (hS5.k14) ?_
            refine W_Ve (f47 hS5 a2 q) ?_
            rintro S' ⟨b1, b2⟩
            exact three S' _ _ (a1.tr b1) (q2 ▸ b2)
          refine W_if (fun q3 => ?_) (fun q3 => ?_)
          · exact two 1 (bi_t q3).symm
          · exact two 0 (bi_f q3).symm
        · rw [if_neg q] at hs1; cases hs1
    rw [if_neg g5] at hs1
    refine W_if (fun g6 => ?_) (fun g6 => ?_)
    · rw [if_pos g6] at hs1
      cases st with
      | nil => cases hs1
      | cons b r =>
        cases r with
        | nil => cases hs1
        | cons a r =>
          dsimp only at hs1
          by_cases q : r.length < 31
          · rw [if_pos q] at hs1
            have q2 := Option.some.inj hs1
            refine W_t (hS.k14) ?_
            refine W_Ie (f48 hS hst (by simp; omega)) ?_
            rintro y S7 ⟨rfl, a1, a2⟩
            have hS7 := hS.of a1.2.2
            refine W_t (hS7.k14) ?_
            refine W_Ie (f48 hS7 a2 (by omega)) ?_
            rintro y' S9 ⟨rfl, b1, b2⟩
            have hS9 := hS7.of b1.2.2
            refine W_I (f46) ?_
            refine W_t (hS9.k14) ?_
            refine W_Ve (f47 hS9 b2 (by omega)) ?_
            rintro S' ⟨k1, k2⟩
            exact three S' _ _ ((a1.tr b1).tr k1) (q2 ▸ k2)
          · rw [if_neg q] at hs1; cases hs1
    rw [if_neg g6] at hs1
    obtain ⟨q1, q2⟩ := pusd _ hs1
    refine W_t (hS.k14) ?_
    refine W_Ve (f47 hS hst q1) ?_
    rintro S' ⟨a1, a2⟩
    exact three S' _ _ a1 (q2 ▸ a2)
/-- a code that always comes to something -/
theorem f45 {d fc : Nat} {x2 x3 x4 x5 v : Int32} {C : List Int32} {S : St} (hS : ShC S) (hC : HC S fc C) (n1 : fc ≠ 14) (n2 : fc ≠ 15) (hev : evC (x2, x3, x4, x5) C [] = some [v]) : Sp (F (d + 2) 45 [.ref 14, .ref fc, .int x2, .int x3, .int x4, .int x5] S) (fun r S' => ∃ x, r = some (.int x) ∧ x = v ∧ Fr RP nol S S') := by
  refine fw45 (w45_0 ?_)
  refine W_t (hS.k14) ?_
  refine W_s fun S1 e1 => ?_
  have hf : Fr RP nol S S1 := by rw [e1]; exact Fr.putI (Or.inr ⟨rfl, rfl⟩)
  show WP _ _ _
  refine WP.mono (f45_loop (hS.of hf.2.2) (hC.fr hf (fun k z => z.elim n2 (fun y => n1 y.1))) n1 n2 C 0 [] S1 (by simp) (by omega) Fr.rf ⟨by rw [e1, gI_pI, if_pos ⟨rfl, rfl⟩]; rfl, fun i v hv => by simp at hv⟩ hev .null .null) ?_
  rintro r S' ⟨rfl, h⟩
  exact ⟨(hf.tr h).mono, _, rfl, rfl, hf.tr h⟩
