section REF
variable {S S' : St} {tp : List Nat} {p c : Nat}
set_option maxRecDepth 4096 in
theorem b27_eq8 {l m : List Nat} (h : okW8 l) (h2 : okW8 m) : lN (b27 l) = lN (b27 m) ↔ l = m := b27_eq h.2 h.1 h2.2 h2.1
set_option maxRecDepth 4096 in
theorem n1c : (1 : Int32).toNatClampNeg = 1 := by decide +kernel
set_option maxRecDepth 4096 in
theorem f132 {D : Nat} {s : LnS} (h : RLs S tp p s) (hc : tkC tp p = 129) : Sp (F (D + 4) 132 [.ref 39] S) (RlQ tp S p (stF tp p s)) := by
  obtain ⟨hT, h44, h21, h22, hN, hk, hb, hl1, hl2, h20, h48, h49, hcs, hcl, hft⟩ := h
  have hM := hT.1.1
  have hn6 := hN.2.1
  generalize hm : s.2.2.2.1.length = m at hn6 hl1 hl2
  have h43 : gI S 43 1 = nI m := by rw [hN.1, hm]
  refine fw132 (w132_0 ?_)
  refine W_t (hM.k39) ?_
  rw [hM.r39_12, n1c]
  refine W_t (⟨hM.k43, by rw [hM.n43]; decide⟩) ?_
  rw [h43]
  refine W_if (fun q6 => ?_) (fun q6 => ?_)
  · rw [c6, i_eq (by omega) (by decide)] at q6
    refine W_t (hM.k39) ?_
    refine W_Ie (hT.bad (k := 5)) ?_
    intro v S1 ⟨ev, f1, h1⟩
    subst ev
    refine W_t (Or.inl rfl) ?_
    refine ⟨f1.mono, nx_rl f1, f1.1 _ _ (by omega), f1.1 _ _ (by omega), ?_⟩
    unfold stF
    rw [if_pos (by omega)]
    exact ⟨rfl, h1⟩
  · rw [c6, i_eq (by omega) (by decide)] at q6
    have n6 : ¬ s.2.2.2.1.length = 6 := by omega
    refine W_t (hM.k39) ?_
    refine W_t (⟨hM.k43, by rw [hM.n43]; decide⟩) ?_
    refine W_si fun v3 e3 => ?_
    subst e3
    refine W_t (hM.k39) ?_
    refine W_Ve (hT.next) ?_
    intro S1 ⟨f1, h1⟩
    have hM1 := hM.of f1.2.2
    refine W_t (hM1.k39) ?_
    refine W_I (f128 hM1 h1.2.1) ?_
    refine W_if (fun q1 => ?_) (fun q1 => ?_)
    · rw [bi_0, Classical.not_not] at q1
      have hw : okW8 (tkW tp (tkN tp p)) := tkW_ok h1.2.2 q1
      have hK : tkK (tkC tp (tkN tp p)) = 1 := by rw [q1]; rfl
      have e7 : gL S1 39 7 = lN (b27 (tkW tp (tkN tp p))) := (h1.2.1.2.2.2.1 hK).1
      have hN1 : ∀ i w, s.2.2.2.1[i]? = some w → gL S1 47 i = lN (b27 w) ∧ okW8 w := fun i w hi => by rw [f1.2.1 _ _ (by omega)]; exact hN.2.2 i w hi
      have loop : ∀ (n i : Nat), n = m - i → i ≤ m → (∀ j w, j < i → s.2.2.2.1[j]? = some w → w ≠ tkW tp (tkN tp p)) → WP (P132 (F (D + 3))) (1, [.ref 39, .int (nI m), .int (nI i)], [], S1) (fun v S' => (gZ S ≤ gZ S' ∧ gU S ≤ gU S') ∧ RlQ tp S p (stF tp p s) v S') := by
        intro n
        induction n with
        | succ n ih =>
          intro i hi hi2 hno
          obtain ⟨w, hwi⟩ : ∃ w, s.2.2.2.1[i]? = some w := ⟨_, List.getElem?_eq_getElem (show i < s.2.2.2.1.length by omega)⟩
          obtain ⟨g1, g2⟩ := hN1 i w hwi
          refine w132_1 ?_
          refine W_t (by rw [i_lt (by omega) (by omega)]; omega) ?_
          refine W_t (hM1.k39) ?_
          rw [hM1.r39_16]
          refine W_t (⟨hM1.k47, by rw [hM1.n47]; exact inB_n (by omega) (by decide)⟩) ?_
          refine W_t (hM1.k39) ?_
          rw [nI_clamp (by omega), g1, e7]
          refine W_if (fun q2 => ?_) (fun q2 => ?_)
          · rw [lg_cmp_eq, b27_eq8 g2 hw] at q2
            refine W_t (hM1.k39) ?_
            refine W_Ie (h1.bad (k := 3)) ?_
            intro v S2 ⟨ev, f2, h2⟩
            subst ev
            refine W_t (Or.inl rfl) ?_
            have f02 := (rx_nx f1).tr f2
            refine ⟨f02.mono, nx_rl f02, f02.1 _ _ (by omega), f02.1 _ _ (by omega), ?_⟩
            unfold stF
            rw [if_neg n6, if_neg (by omega), if_pos (by rw [← q2]; exact List.mem_of_getElem? hwi)]
            exact ⟨rfl, h2⟩
          · rw [lg_cmp_eq, b27_eq8 g2 hw] at q2
            show WP _ _ _
            rw [nI_1]
            refine ih (i + 1) (by omega) (by omega) (fun j w' hj hjw => ?_)
            by_cases z : j = i
            · rw [z, hwi] at hjw
              rw [← Option.some.inj hjw]
              exact q2
            · exact hno j w' (by omega) hjw
        | zero =>
          intro i hi hi2 hno
          have r2 : tkW tp (tkN tp p) ∉ s.2.2.2.1 := fun hm' => by
            obtain ⟨j, hj⟩ := List.mem_iff_getElem?.mp hm'
            have := (List.getElem?_eq_some_iff.mp hj).1
            exact hno j _ (by omega) hj rfl
          refine w132_1 ?_
          refine W_f (by rw [i_lt (by omega) (by omega)]; omega) ?_
          refine W_t (hM1.k39) ?_
          refine W_t (hM1.k39) ?_
          rw [hM1.r39_16]
          refine W_t (⟨hM1.k47, by rw [hM1.n47]; exact inB_n (by omega) (by decide)⟩) ?_
          rw [nI_clamp (by omega), e7]
          refine W_s fun S2 e2 => ?_
          have f2 : Fr nol (fun a k => a = 47 ∧ k = m) S1 S2 := by rw [e2]; exact Fr.putL ⟨rfl, rfl⟩
          have hM2 := hM1.of f2.2.2
          have h2 := h1.fr f2 (fun k z => z) (fun k hk z => z) (by omega)
          refine W_t (hM2.k39) ?_
          refine W_Ve (h2.next) ?_
          intro S3 ⟨f3, h3⟩
          have hM3 := hM2.of f3.2.2
          have f03 : Fr NxP RlL S S3 := ((f1.weak (fun a k z => by omega) (fun a k z => Or.inr z)).tr (f2.weak (fun a k z => z.elim) (fun a k z => Or.inl z.1))).tr (f3.weak (fun a k z => by omega) (fun a k z => Or.inr z))
          refine W_t (hM3.k39) ?_
          refine W_I (f131 hM3 h3.2.1) ?_
          have hlt := tkC_lt (tp := tp) (p := tkN tp (tkN tp p))
          by_cases r4 : 132 ≤ tkC tp (tkN tp (tkN tp p)) ∧ tkC tp (tkN tp (tkN tp p)) ≤ 137
          · rw [if_pos r4]
            generalize hkk : tkC tp (tkN tp (tkN tp p)) - 132 = k
            have hk6 : k < 6 := by omega
            refine W_f (by rw [c0, i_lt (by omega) (by decide)]; omega) ?_
            refine W_t (hM3.k39) ?_
            rw [hM3.r39_14, c6, nI_add]
            refine W_t (⟨hM3.k45, by rw [hM3.n45]; exact inB_n (by omega) (by decide)⟩) ?_
            rw [nI_clamp (by omega)]
            refine W_s fun S4 e4 => ?_
            have f4 : Fr (fun a j => a = 45 ∧ j = 6 + m) nol S3 S4 := by rw [e4]; exact Fr.putI ⟨rfl, rfl⟩
            have hM4 := hM3.of f4.2.2
            have h4 := h3.fr f4 (fun k z => by omega) (fun k hk z => by omega) (fun z => z)
            refine W_t (hM4.k39) ?_
            refine W_Ve (h4.next) ?_
            intro S5 ⟨f5, h5⟩
            have hM5 := hM4.of f5.2.2
            have f05 : Fr (fun a j => NxP a j ∨ (a = 45 ∧ j = 6 + m)) RlL S S5 := ((f03.weak (fun a k z => Or.inl z) (fun _ _ z => z)).tr (f4.weak (fun a k z => Or.inr z) (fun _ _ z => z.elim))).tr (f5.weak (fun a k z => by omega) (fun a k z => Or.inr z))
            have four : WP (P132 (F (D + 3))) (4, [.ref 39, .int (nI m), .int (nI k)], [.int (nI (mst k)), .int (nI (lst k)), .ref 39], S5) (fun v S' => (gZ S ≤ gZ S' ∧ gU S ≤ gU S') ∧ RlQ tp S p (stF tp p s) v S') := by
              refine w132_4 ?_
              refine W_t (hM5.k39) ?_
              refine W_Ie (f129 (a := lst k) (b := mst k) h5 (by unfold lst; split <;> decide) (by unfold mst; split <;> decide)) ?_
              intro v S6 ⟨f6, h6⟩
              have hM6 := hM5.of f6.2.2
              have f06 : Fr (fun a j => NxP a j ∨ (a = 45 ∧ j = 6 + m)) RlL S S6 := f05.tr (f6.weak (fun a k z => Or.inl z) (fun a k z => Or.inr z))
              have f06r : Fr RlP RlL S S6 := f06.weak (fun a k z => by omega) (fun _ _ z => z)
              rcases h6 with ⟨e6, r6, ev6, h6, g35⟩ | ⟨e6, ev6, g9⟩ | ⟨e6, r6, ev6, g9⟩
              · subst ev6
                refine W_f (by decide) ?_
                refine W_t (hM6.k39) ?_
                refine W_t (hM6.k39) ?_
                rw [hM6.r39_15, c6, nI_add]
                refine W_t (⟨hM6.k46, by rw [hM6.n46]; exact inB_n (by omega) (by decide)⟩) ?_
                rw [nI_clamp (by omega), g35]
                refine W_s fun S7 e77 => ?_
                have f7 : Fr (fun a j => a = 46 ∧ j = 6 + m) nol S6 S7 := by rw [e77]; exact Fr.putI ⟨rfl, rfl⟩
                have hM7 := hM6.of f7.2.2
                have g43 : gI S7 43 1 = nI m := by rw [f7.1 _ _ (by omega), f06.1 _ _ (by omega)]; exact h43
                refine W_t (hM7.k39) ?_
                rw [hM7.r39_12, n1c]
                refine W_t (⟨hM7.k43, by rw [hM7.n43]; decide⟩) ?_
                refine W_t (⟨hM7.k43, by rw [hM7.n43]; decide⟩) ?_
                rw [g43, nI_1]
                refine W_s fun S8 e8 => ?_
                have f8 : Fr (fun a j => a = 43 ∧ j = 1) nol S7 S8 := by rw [e8]; exact Fr.putI ⟨rfl, rfl⟩
                have hM8 := hM7.of f8.2.2
                have h8 := (h6.fr f7 (fun k z => by omega) (fun k hk z => by omega) (fun z => z)).fr f8 (fun k z => by omega) (fun k hk z => by omega) (fun z => z)
                refine W_t (hM8.k39) ?_
                refine W_Ie (f130 h8) ?_
                intro v S9 ⟨f9, h9⟩
                have f09 : Fr (fun a j => NxP a j ∨ ((a = 45 ∨ a = 46) ∧ j = 6 + m) ∨ (a = 43 ∧ j = 1)) RlL S S9 := (((f06.weak (fun a k z => by omega) (fun _ _ z => z)).tr (f7.weak (fun a k z => by omega) (fun _ _ z => z.elim))).tr (f8.weak (fun a k z => by omega) (fun _ _ z => z.elim))).tr (f9.weak (fun a k z => Or.inl z) (fun a k z => Or.inr z))
                have f09r : Fr RlP RlL S S9 := f09.weak (fun a k z => by omega) (fun _ _ z => z)
                rcases h9 with ⟨e9, ev9, h9⟩ | ⟨e9, ev9, g9⟩
                · subst ev9
                  refine W_t (Or.inr rfl) ?_
                  refine ⟨f09r.mono, f09r, f09.1 _ _ (by omega), f09.1 _ _ (by omega), ?_⟩
                  unfold stF
                  rw [hkk, if_neg n6, if_neg (by omega), if_neg r2, if_neg (fun z => z r4), if_neg (by omega), if_neg (fun z => z r6), if_neg (by omega)]
                  have h1' : ∀ {α : Type} (x : α), [x].length = 1 := fun _ => rfl
                  refine ⟨rfl, h9, ?_, ?_, ?_, ⟨?_, ?_, fun i w hi => ?_⟩, fun i x hi => ?_, fun i x hi => ?_, ?_, ?_, ?_, ?_, ?_, fun i x hi => ?_, hcl, hft⟩
                  · rw [f09.1 _ _ (by omega)]; exact h44
                  · rw [f09.1 _ _ (by omega)]; exact h21
                  · rw [f09.1 _ _ (by omega)]; exact h22
                  · rw [f9.1 _ _ (by omega), e8, gI_pI, if_pos ⟨rfl, rfl⟩]
                    show _ = nI (s.2.2.2.1 ++ [tkW tp (tkN tp p)]).length
                    rw [List.length_append, hm, h1']
                  · show (s.2.2.2.1 ++ [tkW tp (tkN tp p)]).length ≤ 6
                    rw [List.length_append, hm, h1']
                    omega
                  · have hi' : (s.2.2.2.1 ++ [tkW tp (tkN tp p)])[i]? = some w := hi
                    have kL : gL S9 47 i = gL S2 47 i := by rw [f9.2.1 _ _ (by omega), f8.2.1 _ _ (fun z => z), f7.2.1 _ _ (fun z => z), f6.2.1 _ _ (by omega), f5.2.1 _ _ (by omega), f4.2.1 _ _ (fun z => z), f3.2.1 _ _ (by omega)]
                    rw [kL]
                    by_cases e : i = m
                    · rw [e, ← hm, List.getElem?_append_right (Nat.le_refl _), Nat.sub_self] at hi'
                      have ew : tkW tp (tkN tp p) = w := Option.some.inj hi'
                      rw [e2, gL_pL, if_pos ⟨rfl, e⟩, ← ew]
                      exact ⟨rfl, hw⟩
                    · have := (List.getElem?_eq_some_iff.mp hi').1
                      rw [List.length_append, h1'] at this
                      rw [List.getElem?_append_left (by omega)] at hi'
                      rw [f2.2.1 _ _ (fun z => e z.2)]
                      exact hN1 i w hi'
                  · have hi' : (s.2.2.2.2.1 ++ [k])[i]? = some x := hi
                    rw [f9.1 _ _ (by omega), f8.1 _ _ (by omega), f7.1 _ _ (by omega), f6.1 _ _ (by omega), f5.1 _ _ (by omega), e4, gI_pI]
                    by_cases e : i = m
                    · rw [e, ← hl1, List.getElem?_append_right (Nat.le_refl _), Nat.sub_self] at hi'
                      rw [if_pos ⟨rfl, by omega⟩, Option.some.inj hi']
                    · have := (List.getElem?_eq_some_iff.mp hi').1
                      rw [List.length_append, h1'] at this
                      rw [List.getElem?_append_left (by omega)] at hi'
                      rw [if_neg (by omega), f03.1 _ _ (by omega)]
                      exact hk i x hi'
                  · have hi' : (s.2.2.2.2.2.1 ++ [tkV tp (tkN tp (tkN tp (tkN tp p)))])[i]? = some x := hi
                    rw [f9.1 _ _ (by omega), f8.1 _ _ (by omega), e77, gI_pI]
                    by_cases e : i = m
                    · rw [e, ← hl2, List.getElem?_append_right (Nat.le_refl _), Nat.sub_self] at hi'
                      rw [if_pos ⟨rfl, by omega⟩, Option.some.inj hi']
                    · have := (List.getElem?_eq_some_iff.mp hi').1
                      rw [List.length_append, h1'] at this
                      rw [List.getElem?_append_left (by omega)] at hi'
                      rw [if_neg (by omega), f06.1 _ _ (by omega)]
                      exact hb i x hi'
                  · show (s.2.2.2.2.1 ++ [k]).length = (s.2.2.2.1 ++ [tkW tp (tkN tp p)]).length
                    rw [List.length_append, List.length_append, hl1, hm, h1', h1']
                  · show (s.2.2.2.2.2.1 ++ [tkV tp (tkN tp (tkN tp (tkN tp p)))]).length = (s.2.2.2.1 ++ [tkW tp (tkN tp p)]).length
                    rw [List.length_append, List.length_append, hl2, hm, h1', h1']
                  · rw [f09.1 _ _ (by omega)]; exact h20
                  · rw [f09.1 _ _ (by omega)]; exact h48
                  · rw [f09.1 _ _ (by omega)]; exact h49
                  · rw [f09.1 _ _ (by omega)]; exact hcs i x hi
                · subst ev9
                  refine W_t (Or.inl rfl) ?_
                  refine ⟨f09r.mono, f09r, f09.1 _ _ (by omega), f09.1 _ _ (by omega), ?_⟩
                  unfold stF
                  rw [hkk, if_neg n6, if_neg (by omega), if_neg r2, if_neg (fun z => z r4), if_neg (by omega), if_neg (fun z => z r6), if_pos e9]
                  exact ⟨rfl, g9⟩
              · subst ev6
                refine W_t (rfl) ?_
                refine W_t (Or.inl rfl) ?_
                refine ⟨f06r.mono, f06r, f06.1 _ _ (by omega), f06.1 _ _ (by omega), ?_⟩
                unfold stF
                rw [if_neg n6, if_neg (by omega), if_neg r2, if_neg (fun z => z r4), if_pos e6]
                exact ⟨rfl, g9⟩
              · subst ev6
                refine W_t (rfl) ?_
                refine W_t (Or.inl rfl) ?_
                refine ⟨f06r.mono, f06r, f06.1 _ _ (by omega), f06.1 _ _ (by omega), ?_⟩
                unfold stF
                rw [hkk, if_neg n6, if_neg (by omega), if_neg r2, if_neg (fun z => z r4), if_neg (by omega), if_pos r6]
                exact ⟨rfl, g9⟩
            have two : WP (P132 (F (D + 3))) (2, [.ref 39, .int (nI m), .int (nI k)], [.int (nI (lst k)), .ref 39], S5) (fun v S' => (gZ S ≤ gZ S' ∧ gU S ≤ gU S') ∧ RlQ tp S p (stF tp p s) v S') := by
              refine w132_2 ?_
              refine W_if (fun a1 => ?_) (fun a1 => ?_)
              · rw [c2, i_eq (by omega) (by decide)] at a1
                show WP _ _ _
                refine w132_3 ?_
                rw [show mst k = 1 by unfold mst; rw [if_pos (Or.inl a1)]] at four
                exact four
              rw [c2, i_eq (by omega) (by decide)] at a1
              refine W_if (fun a2 => ?_) (fun a2 => ?_)
              · rw [c3, i_eq (by omega) (by decide)] at a2
                show WP _ _ _
                refine w132_3 ?_
                rw [show mst k = 1 by unfold mst; rw [if_pos (Or.inr a2)]] at four
                exact four
              · rw [c3, i_eq (by omega) (by decide)] at a2
                rw [show mst k = 4 by unfold mst; rw [if_neg (by omega)]] at four
                exact four
            refine W_if (fun a1 => ?_) (fun a1 => ?_)
            · rw [c1, i_eq (by omega) (by decide)] at a1
              rw [show lst k = 2 by unfold lst; rw [if_pos a1]] at two
              exact two
            · rw [c1, i_eq (by omega) (by decide)] at a1
              rw [show lst k = 1 by unfold lst; rw [if_neg a1]] at two
              exact two
          · rw [if_neg r4]
            refine W_t (by decide) ?_
            refine W_t (hM3.k39) ?_
            refine W_Ie (h3.bad (k := 1)) ?_
            intro v S4 ⟨ev, f4, h4⟩
            subst ev
            refine W_t (Or.inl rfl) ?_
            have f04 : Fr NxP RlL S S4 := f03.tr (f4.weak (fun _ _ z => z) (fun _ _ z => Or.inr z))
            refine ⟨f04.mono, f04.weak (fun a k z => by omega) (fun _ _ z => z), f04.1 _ _ (by omega), f04.1 _ _ (by omega), ?_⟩
            unfold stF
            rw [if_neg n6, if_neg (by omega), if_neg r2, if_pos r4]
            exact ⟨rfl, h4⟩
      show WP _ _ _
      exact loop m 0 rfl (Nat.zero_le _) (fun j w hj => absurd hj (by omega))
    · rw [bi_0, Classical.not_not] at q1
      refine W_t (hM1.k39) ?_
      refine W_Ie (h1.bad (k := 1)) ?_
      intro v S2 ⟨ev, f2, h2⟩
      subst ev
      refine W_t (Or.inl rfl) ?_
      have f02 := (rx_nx f1).tr f2
      refine ⟨f02.mono, nx_rl f02, f02.1 _ _ (by omega), f02.1 _ _ (by omega), ?_⟩
      unfold stF
      rw [if_neg n6, if_pos q1]
      exact ⟨rfl, h2⟩
end REF
