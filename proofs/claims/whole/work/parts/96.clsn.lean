section CLS
variable {S S' : St} {tp : List Nat} {p c : Nat} {js : List Int32}
theorem HL.put {a x n : Nat} {L : List Nat} (h : HL S a L) (hn : n = L.length) : HL (pI S a n (nI x)) a (L ++ [x]) := by
  intro i v hi
  rw [gI_pI]
  by_cases e : i = L.length
  · rw [if_pos ⟨rfl, by omega⟩]
    rw [e, List.getElem?_append_right (Nat.le_refl _), Nat.sub_self] at hi
    rw [Option.some.inj hi]
  · rw [if_neg (by omega)]
    have := (List.getElem?_eq_some_iff.mp hi).1
    rw [List.length_append] at this
    have h1 : [x].length = 1 := rfl
    rw [List.getElem?_append_left (by omega)] at hi
    exact h i v hi
set_option maxRecDepth 4096 in
theorem f23 {D : Nat} {s : LnS} (h : CLs S tp p s) (hc : tkC tp p = 129) : Sp (F (D + 9) 23 [.ref 3] S) (fun r S' => r = none ∧ Fr LnP LnL S S' ∧ match stF tp p s with
    | .inl f => Flt S' f
    | .inr (q, s') => CLs S' tp q s' ∧ p < q) := by
  obtain ⟨hC, h2, h9, h10, hN, hk4, hk5, hl4, hl5, hlj, hft⟩ := h
  have hS := hC.1.1
  have hn6 := hN.2.1
  generalize hm : s.2.2.2.1.length = m at hn6 hl4 hl5
  have h3m : gI S 3 3 = nI m := by rw [hN.1, hm]
  refine fw23 (w23_0 ?_)
  refine W_t (hS.k3) ?_
  rw [h3m]
  refine W_if (fun q6 => ?_) (fun q6 => ?_)
  · rw [c6, i_lt (by omega) (by decide)] at q6
    have n6 : ¬ s.2.2.2.1.length = 6 := by omega
    refine W_t (hS.k3) ?_
    refine W_Ve (f37c hC (by omega)) ?_
    intro S1 ⟨f1, h1⟩
    have hS1 := h1.1.1
    have g1 : gI S1 3 3 = nI m := by rw [f1.1 _ _ (by omega)]; exact h3m
    have hN1 : NmC S1 s.2.2.2.1 := ⟨by rw [g1, hm], hN.2.1, fun i w hi => by rw [f1.2.1 _ _ (by omega)]; exact hN.2.2 i w hi⟩
    refine W_t (hS1.k3) ?_
    refine W_t (hS1.k3) ?_
    refine W_t (hS1.k3) ?_
    refine W_Le (f36 h1 hN1) ?_
    intro v S2 ⟨f2, h2'⟩
    have hS2 := hS1.of f2.2.2
    rw [g1, hS1.r3_6]
    refine W_t (⟨hS2.k6, by rw [hS2.n6]; exact inB_n q6 (by decide)⟩) ?_
    rw [nI_clamp (by omega)]
    refine W_s fun S3 e3 => ?_
    have f3 : Fr nol (fun a k => a = 6 ∧ k = m) S2 S3 := by rw [e3]; exact Fr.putL ⟨rfl, rfl⟩
    have hS3 := hS2.of f3.2.2
    have f03 : Fr LnP LnL S S3 := ((gr_ln f1).tr (gr_ln f2)).tr (f3.weak (fun a k z => z.elim) (fun a k z => Or.inl z.1))
    have g3 : gI S3 3 3 = nI m := by rw [f3.1 _ _ (fun z => z), f2.1 _ _ (by omega)]; exact g1
    -- the end, from a fault on
    have bad4 : ∀ (S4 : St) (f : Nat), Fr LnP LnL S S4 → gI S4 3 3 = nI m → Flt S4 f → stF tp p s = .inl f → WR (P23 (F (D + 8))) (if gK S4 3 = 2 then (eV (F (D + 8) 33 [.ref 3, .int 59] S4) fun S5 => if gK S5 3 = 2 then (if gK S5 3 = 2 then sl (pI S5 3 3 ((gI S5 3 3) + 1)) fun S6 => some (.inr (none, S6)) else none) else none) else none) (fun r S' => (gZ S ≤ gZ S' ∧ gU S ≤ gU S') ∧ r = none ∧ Fr LnP LnL S S' ∧ match stF tp p s with
        | .inl f => Flt S' f
        | .inr (q, s') => CLs S' tp q s' ∧ p < q) := by
      intro S4 f f4 g4 hf e
      have hS4 := hS.of f4.2.2
      refine W_t (hS4.k3) ?_
      refine W_V (f33x hS4 hf.ne) ?_
      refine W_t (hS4.k3) ?_
      refine W_t (hS4.k3) ?_
      refine W_s fun S5 e5 => ?_
      have f5 : Fr (fun a k => a = 3 ∧ k = 3) nol S4 S5 := by rw [e5]; exact Fr.putI ⟨rfl, rfl⟩
      have f05 : Fr LnP LnL S S5 := f4.tr (f5.weak (fun a k z => by omega) (fun _ _ z => z.elim))
      refine ⟨f05.mono, rfl, f05, ?_⟩
      rw [e]
      exact hf.fr f5 (by omega)
    have bad3 : ∀ (S4 : St) (f : Nat) (x1 x2 y0 : Int32) (z3 : Value), Fr LnP LnL S S4 → gI S4 3 3 = nI m → Flt S4 f → stF tp p s = .inl f → WP (P23 (F (D + 8))) (3, [.ref 3, .int x1, .int x2, z3], [.int y0], S4) (fun r S' => (gZ S ≤ gZ S' ∧ gU S ≤ gU S') ∧ r = none ∧ Fr LnP LnL S S' ∧ match stF tp p s with
        | .inl f => Flt S' f
        | .inr (q, s') => CLs S' tp q s' ∧ p < q) := by
      intro S4 f x1 x2 y0 z3 f4 g4 hf e
      have hS4 := hS.of f4.2.2
      refine w23_3 ?_
      refine W_t (hS4.k3) ?_
      refine W_t (hS4.k3) ?_
      rw [hS4.r3_4, g4]
      refine W_t (⟨hS4.k4, by rw [hS4.n4]; exact inB_n q6 (by decide)⟩) ?_
      rw [nI_clamp (by omega)]
      refine W_s fun S5 e5 => ?_
      have f5 : Fr (fun a k => a = 4) nol S4 S5 := by rw [e5]; exact Fr.putI rfl
      have hS5 := hS4.of f5.2.2
      have hf5 := hf.fr f5 (by omega)
      refine W_t (hS5.k3) ?_
      refine W_t (hS5.k3) ?_
      refine W_t (hS5.k3) ?_
      refine W_Ie (f34x hS5 hf5.ne) ?_
      intro v S6 e6
      subst e6
      rw [hS5.r3_5, f5.1 3 3 (by omega), g4]
      refine W_t (⟨hS5.k5, by rw [hS5.n5]; exact inB_n q6 (by decide)⟩) ?_
      refine W_s fun S7 e7 => ?_
      have f7 : Fr (fun a k => a = 5) nol S6 S7 := by rw [e7]; exact Fr.putI rfl
      exact bad4 S7 f ((f4.tr (f5.weak (fun a k z => Or.inr (Or.inl z)) (fun _ _ z => z.elim))).tr (f7.weak (fun a k z => Or.inr (Or.inr (Or.inl z))) (fun _ _ z => z.elim))) (by rw [f7.1 _ _ (by omega), f5.1 _ _ (by omega)]; exact g4) (hf5.fr f7 (by omega)) e
    have bad1 : ∀ (S4 : St) (f : Nat) (x1 y0 : Int32) (z2 z3 : Value), Fr LnP LnL S S4 → gI S4 3 3 = nI m → Flt S4 f → stF tp p s = .inl f → WP (P23 (F (D + 8))) (1, [.ref 3, .int x1, z2, z3], [.int y0], S4) (fun r S' => (gZ S ≤ gZ S' ∧ gU S ≤ gU S') ∧ r = none ∧ Fr LnP LnL S S' ∧ match stF tp p s with
        | .inl f => Flt S' f
        | .inr (q, s') => CLs S' tp q s' ∧ p < q) := by
      intro S4 f x1 y0 z2 z3 f4 g4 hf e
      refine w23_1 ?_
      refine W_if (fun a1 => ?_) (fun a1 => ?_)
      · show WP _ _ _
        refine w23_2 ?_
        exact bad3 S4 f _ _ _ _ f4 g4 hf e
      refine W_if (fun a2 => ?_) (fun a2 => ?_)
      · show WP _ _ _
        refine w23_2 ?_
        exact bad3 S4 f _ _ _ _ f4 g4 hf e
      · exact bad3 S4 f _ _ _ _ f4 g4 hf e
    refine W_t (hS3.k3) ?_
    have badK : ∀ f, Flt S2 f → stF tp p s = .inl f → WR (P23 (F (D + 8))) (eI (F (D + 8) 35 [.ref 3] S3) fun v6 S5 => if v6 = 1 then (some (.inl (1, [.ref 3, .int v6, .null, .null], [.int 2], S5))) else (some (.inl (1, [.ref 3, .int v6, .null, .null], [.int 1], S5)))) (fun r S' => (gZ S ≤ gZ S' ∧ gU S ≤ gU S') ∧ r = none ∧ Fr LnP LnL S S' ∧ match stF tp p s with
        | .inl f => Flt S' f
        | .inr (q, s') => CLs S' tp q s' ∧ p < q) := by
      intro f hf e
      have hf3 := hf.fr f3 (fun z => z)
      refine W_Ie (f35x hS3 hf3.ne) ?_
      intro v S4 e4
      subst e4
      refine W_if (fun a1 => ?_) (fun a1 => ?_)
      · exact bad1 S4 f _ _ _ _ f03 g3 hf3 e
      · exact bad1 S4 f _ _ _ _ f03 g3 hf3 e
    rcases h2' with ⟨e2, r2, ev, h2'⟩ | ⟨e2, h2'⟩ | ⟨e2, r2, h2'⟩
    · have h3 : CS S3 tp (tkN tp (tkN tp p)) s.2.2.2.2.2.2.1 := h2'.fr f3 (fun k z => z) (fun k hk z => z) (fun k z => z) (by omega)
      refine W_Ie (f35 h3) ?_
      intro v4 S4 ⟨f4, h4⟩
      have hS4 := hS3.of f4.2.2
      have f04 := f03.tr (gr_ln f4)
      have g4 : gI S4 3 3 = nI m := by rw [f4.1 _ _ (by omega)]; exact g3
      rcases h4 with ⟨r4, ev4, h4⟩ | ⟨r4, h4⟩
      · generalize hk : tkC tp (tkN tp (tkN tp p)) - 132 = k at ev4
        have hk6 : k < 6 := by omega
        -- the rest, with least and most
        have three : ∀ z3 : Value, WP (P23 (F (D + 8))) (3, [.ref 3, .int (nI k), .int (nI (lst k)), z3], [.int (nI (mst k))], S4) (fun r S' => (gZ S ≤ gZ S' ∧ gU S ≤ gU S') ∧ r = none ∧ Fr LnP LnL S S' ∧ match stF tp p s with
            | .inl f => Flt S' f
            | .inr (q, s') => CLs S' tp q s' ∧ p < q) := by
          intro z3
          refine w23_3 ?_
          refine W_t (hS4.k3) ?_
          refine W_t (hS4.k3) ?_
          rw [hS4.r3_4, g4]
          refine W_t (⟨hS4.k4, by rw [hS4.n4]; exact inB_n q6 (by decide)⟩) ?_
          rw [nI_clamp (by omega)]
          refine W_s fun S5 e5 => ?_
          have f5 : Fr (fun a k => a = 4) nol S4 S5 := by rw [e5]; exact Fr.putI rfl
          have hS5 := hS4.of f5.2.2
          have h5 : CS S5 tp (tkN tp (tkN tp (tkN tp p))) s.2.2.2.2.2.2.1 := h4.fr f5 (fun k z => by omega) (fun k hk z => by omega) (fun k z => by omega) (fun z => z)
          refine W_t (hS5.k3) ?_
          refine W_t (hS5.k3) ?_
          refine W_t (hS5.k3) ?_
          refine W_Ie (f34 (a := lst k) (b := mst k) h5 (by unfold lst; split <;> decide) (by unfold mst; split <;> decide)) ?_
          intro v6 S6 ⟨f6, h6⟩
          have hS6 := hS5.of f6.2.2
          rw [hS5.r3_5, f5.1 3 3 (by omega), g4]
          refine W_t (⟨hS6.k5, by rw [hS6.n5]; exact inB_n q6 (by decide)⟩) ?_
          rw [nI_clamp (by omega)]
          refine W_s fun S7 e7 => ?_
          have f7 : Fr (fun a k => a = 5) nol S6 S7 := by rw [e7]; exact Fr.putI rfl
          have hS7 := hS6.of f7.2.2
          have f07 : Fr LnP LnL S S7 := ((f04.tr (f5.weak (fun a k z => Or.inr (Or.inl z)) (fun _ _ z => z.elim))).tr (gr_ln f6)).tr (f7.weak (fun a k z => Or.inr (Or.inr (Or.inl z))) (fun _ _ z => z.elim))
          have g7 : gI S7 3 3 = nI m := by rw [f7.1 _ _ (by omega), f6.1 _ _ (by omega), f5.1 _ _ (by omega)]; exact g4
          rcases h6 with ⟨e6, r6, ev6, h6⟩ | ⟨e6, h6⟩ | ⟨e6, r6, h6⟩
          · have h7 : CS S7 tp (tkN tp (tkN tp (tkN tp (tkN tp p)))) s.2.2.2.2.2.2.1 := h6.fr f7 (fun k z => by omega) (fun k hk z => by omega) (fun k z => by omega) (fun z => z)
            refine W_t (hS7.k3) ?_
            refine W_Ve (f33 (c := 59) h7 (by decide)) ?_
            intro S8 ⟨f8, h8⟩
            have hS8 := hS7.of f8.2.2
            refine W_t (hS8.k3) ?_
            refine W_t (hS8.k3) ?_
            refine W_s fun S9 e9 => ?_
            have f9 : Fr (fun a k => a = 3 ∧ k = 3) nol S8 S9 := by rw [e9]; exact Fr.putI ⟨rfl, rfl⟩
            have f09 : Fr LnP LnL S S9 := (f07.tr (gr_ln f8)).tr (f9.weak (fun a k z => by omega) (fun _ _ z => z.elim))
            refine ⟨f09.mono, rfl, f09, ?_⟩
            unfold stF
            rw [hk, if_neg n6, if_neg (by omega), if_neg r2, if_neg (fun z => z r4), if_neg (by omega), if_neg (fun z => z r6)]
            rcases h8 with ⟨e8, h8⟩ | ⟨e8, h8⟩
            · rw [if_neg (by omega)]
              have t1 := tkN_gt (tp := tp) (p := p) (by omega)
              have t2 := tkN_gt (tp := tp) (p := tkN tp p) (by omega)
              have t3 := tkN_gt (tp := tp) (p := tkN tp (tkN tp p)) (by omega)
              have t4 := tkN_gt (tp := tp) (p := tkN tp (tkN tp (tkN tp p))) (by omega)
              have t5 := tkN_gt (tp := tp) (p := tkN tp (tkN tp (tkN tp (tkN tp p)))) (by omega)
              have keepI : ∀ a k, ¬ GrP a k → ¬ (a = 3 ∧ k = 3) → a ≠ 4 → a ≠ 5 → gI S9 a k = gI S a k := fun a k n1 n2 n3 n4 => by rw [f9.1 _ _ n2, f8.1 _ _ n1, f7.1 _ _ n4, f6.1 _ _ n1, f5.1 _ _ n3, f4.1 _ _ n1, f3.1 _ _ (fun z => z), f2.1 _ _ n1, f1.1 _ _ n1]
              have g8 : gI S8 3 3 = nI m := by rw [f8.1 _ _ (by omega)]; exact g7
              refine ⟨⟨h8.fr f9 (fun k z => by omega) (fun k hk z => by omega) (fun k z => by omega) (fun z => z), ?_, ?_, ?_, ⟨?_, ?_, fun i w hi => ?_⟩, fun i x hi => ?_, fun i x hi => ?_, ?_, ?_, (by show s.2.2.2.2.2.2.1.length ≤ _; omega), hft⟩, by omega⟩
              · rw [keepI _ _ (by omega) (by omega) (by omega) (by omega)]; exact h2
              · rw [keepI _ _ (by omega) (by omega) (by omega) (by omega)]; exact h9
              · rw [keepI _ _ (by omega) (by omega) (by omega) (by omega)]; exact h10
              · rw [e9, gI_pI, if_pos ⟨rfl, rfl⟩, g8, nI_1]
                show _ = nI (s.2.2.2.1 ++ [tkW tp (tkN tp p)]).length
                rw [List.length_append, hm]
                rfl
              · show (s.2.2.2.1 ++ [tkW tp (tkN tp p)]).length ≤ 6
                rw [List.length_append, hm]
                show m + 1 ≤ 6
                omega
              · have hi' : (s.2.2.2.1 ++ [tkW tp (tkN tp p)])[i]? = some w := hi
                have kL : gL S9 6 i = gL S3 6 i := by rw [f9.2.1 _ _ (fun z => z), f8.2.1 _ _ (by omega), f7.2.1 _ _ (fun z => z), f6.2.1 _ _ (by omega), f5.2.1 _ _ (fun z => z), f4.2.1 _ _ (by omega)]
                rw [kL]
                by_cases e : i = m
                · rw [e, ← hm, List.getElem?_append_right (Nat.le_refl _), Nat.sub_self] at hi'
                  have ew : tkW tp (tkN tp p) = w := Option.some.inj hi'
                  rw [e3, gL_pL, if_pos ⟨rfl, e⟩, ev, ← ew]
                  exact ⟨rfl, tkW_ok h1.2.2.2.2.2 e2⟩
                · have := (List.getElem?_eq_some_iff.mp hi').1
                  rw [List.length_append] at this
                  have h1' : [tkW tp (tkN tp p)].length = 1 := rfl
                  rw [List.getElem?_append_left (by omega)] at hi'
                  rw [f3.2.1 _ _ (fun z => e z.2), f2.2.1 _ _ (by omega), f1.2.1 _ _ (by omega)]
                  exact hN.2.2 i w hi'
              · have hS4' : HL S4 4 s.2.2.2.2.1 := fun i v hi => by rw [f4.1 _ _ (by omega), f3.1 _ _ (fun z => z), f2.1 _ _ (by omega), f1.1 _ _ (by omega)]; exact hk4 i v hi
                have h5' := hS4'.put (x := k) (n := m) hl4.symm
                rw [f9.1 _ _ (by omega), f8.1 _ _ (by omega), f7.1 _ _ (by omega), f6.1 _ _ (by omega), e5]
                exact h5' i x hi
              · have hS6' : HL S6 5 s.2.2.2.2.2.1 := fun i v hi => by rw [f6.1 _ _ (by omega), f5.1 _ _ (by omega), f4.1 _ _ (by omega), f3.1 _ _ (fun z => z), f2.1 _ _ (by omega), f1.1 _ _ (by omega)]; exact hk5 i v hi
                have h7' := hS6'.put (x := tkV tp (tkN tp (tkN tp (tkN tp p)))) (n := m) hl5.symm
                rw [f9.1 _ _ (by omega), f8.1 _ _ (by omega), e7, ev6]
                exact h7' i x hi
              · show (s.2.2.2.2.1 ++ [k]).length = (s.2.2.2.1 ++ [tkW tp (tkN tp p)]).length
                rw [List.length_append, List.length_append, hl4, hm]
                rfl
              · show (s.2.2.2.2.2.1 ++ [tkV tp (tkN tp (tkN tp (tkN tp p)))]).length = (s.2.2.2.1 ++ [tkW tp (tkN tp p)]).length
                rw [List.length_append, List.length_append, hl5, hm]
                rfl
            · rw [if_pos e8]
              exact h8.fr f9 (by omega)
          · refine bad4 S7 _ f07 g7 (h6.fr f7 (by omega)) ?_
            unfold stF
            rw [if_neg n6, if_neg (by omega), if_neg r2, if_neg (fun z => z r4), if_pos e6]
          · refine bad4 S7 _ f07 g7 (h6.fr f7 (by omega)) ?_
            unfold stF
            rw [hk, if_neg n6, if_neg (by omega), if_neg r2, if_neg (fun z => z r4), if_neg (by omega), if_pos r6]
        have one : ∀ (z2 z3 : Value), WP (P23 (F (D + 8))) (1, [.ref 3, .int (nI k), z2, z3], [.int (nI (lst k))], S4) (fun r S' => (gZ S ≤ gZ S' ∧ gU S ≤ gU S') ∧ r = none ∧ Fr LnP LnL S S' ∧ match stF tp p s with
            | .inl f => Flt S' f
            | .inr (q, s') => CLs S' tp q s' ∧ p < q) := by
          intro z2 z3
          refine w23_1 ?_
          have t3 := three z3
          refine W_if (fun a1 => ?_) (fun a1 => ?_)
          · rw [c2, i_eq (by omega) (by decide)] at a1
            rw [show mst k = 1 by unfold mst; rw [if_pos (Or.inl a1)]] at t3
            show WP _ _ _
            refine w23_2 ?_
            exact t3
          rw [c2, i_eq (by omega) (by decide)] at a1
          refine W_if (fun a2 => ?_) (fun a2 => ?_)
          · rw [c3, i_eq (by omega) (by decide)] at a2
            rw [show mst k = 1 by unfold mst; rw [if_pos (Or.inr a2)]] at t3
            show WP _ _ _
            refine w23_2 ?_
            exact t3
          · rw [c3, i_eq (by omega) (by decide)] at a2
            rw [show mst k = 4 by unfold mst; rw [if_neg (by omega)]] at t3
            exact t3
        rw [ev4]
        refine W_if (fun a1 => ?_) (fun a1 => ?_)
        · rw [c1, i_eq (by omega) (by decide)] at a1
          have o := one .null .null
          rw [show lst k = 2 by unfold lst; rw [if_pos a1]] at o
          exact o
        · rw [c1, i_eq (by omega) (by decide)] at a1
          have o := one .null .null
          rw [show lst k = 1 by unfold lst; rw [if_neg a1]] at o
          exact o
      · have e : stF tp p s = .inl (1 + 16 * tkA tp (tkN tp (tkN tp p))) := by
          unfold stF
          rw [if_neg n6, if_neg (by omega), if_neg r2, if_pos r4]
        refine W_if (fun a1 => ?_) (fun a1 => ?_)
        · exact bad1 S4 _ _ _ _ _ f04 g4 h4 e
        · exact bad1 S4 _ _ _ _ _ f04 g4 h4 e
    · refine badK _ h2' ?_
      unfold stF
      rw [if_neg n6, if_pos e2]
    · refine badK _ h2' ?_
      unfold stF
      rw [if_neg n6, if_neg (by omega), if_pos r2]
  · rw [c6, i_lt (by omega) (by decide)] at q6
    refine W_t (hS.k3) ?_
    refine W_Ve (f32 (k := 5) hC (by decide) (by decide)) ?_
    intro S1 ⟨f1, h1⟩
    refine ⟨f1.mono, rfl, gr_ln f1, ?_⟩
    unfold stF
    rw [if_pos (by omega)]
    exact h1
end CLS
