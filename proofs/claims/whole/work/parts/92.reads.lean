/-! the reference's reader of a fine -/
abbrev GfP : Nat → Nat → Prop := fun a k => a = 51 ∨ a = 52 ∨ (a = 50 ∧ 1000 ≤ k ∧ k < 2000) ∨ (a = 39 ∧ (k = 4 ∨ k = 5 ∨ k = 6 ∨ k = 8 ∨ k = 9 ∨ k = 20))
def GI (S : St) (tp : List Nat) (dp : Nat) (op : Nat → Nat) (cm : Nat → Bool) (cs : List Nat) (p : Nat) : Prop := RdM S tp ∧ LxR S tp p ∧ gI S 39 20 = nI (1000 + cs.length) ∧ (∀ i c, cs[i]? = some c → gI S 50 (1000 + i) = nI c) ∧ (∀ i, 1 ≤ i → i ≤ dp → gI S 51 i = nI (op i) ∧ op i ≤ 2) ∧ (∀ i, i ≤ dp → gI S 52 i = (if cm i = true then 1 else 0)) ∧ dp ≤ 5 ∧ p ≤ tp.length
section REF
variable {S S' : St} {tp : List Nat} {dp p c : Nat} {op : Nat → Nat} {cm : Nat → Bool} {cs : List Nat}
theorem LxR.fr {P L : Nat → Nat → Prop} (h : LxR S tp p) (f : Fr P L S S') (h1 : ∀ k, (k = 4 ∨ k = 5 ∨ k = 6 ∨ k = 8) → ¬ P 39 k) (h2 : ¬ L 39 7) : LxR S' tp p := by
  unfold LxR at h ⊢
  rw [f.1 _ _ (h1 4 (by decide)), f.1 _ _ (h1 5 (by decide)), f.1 _ _ (h1 6 (by decide)), f.1 _ _ (h1 8 (by decide)), f.2.1 _ _ h2]
  exact h
theorem GI.put {D : Nat} (h : GI S tp dp op cm cs p) (hl : cs.length < 1000) : Sp (F (D + 1) 121 [.ref 39, .int (nI c)] S) (fun r S' => r = none ∧ Fr GfP RxL S S' ∧ GI S' tp dp op cm (cs ++ [c]) p) := by
  obtain ⟨hR, hx, h20, hc, ho, hm, hd, hp⟩ := h
  have e := f121 (d := D) (x := nI c) hR.1 h20 (by omega)
  have f : Fr (fun a k => (a = 50 ∧ 1000 ≤ k ∧ k < 2000) ∨ (a = 39 ∧ k = 20)) nol S (pI (pI S 50 (1000 + cs.length) (nI c)) 39 20 (nI (1000 + cs.length + 1))) := Fr.tr (Fr.putI (Or.inl ⟨rfl, by omega, by omega⟩)) (Fr.putI (Or.inr ⟨rfl, rfl⟩))
  refine ⟨_, _, e, rfl, f.weak (fun a k z => by omega) (fun a k z => z.elim), hR.fr f (fun k z => by omega) (by omega), hx.fr f (fun k hk z => by omega) (fun z => z), ?_, fun i x hi => ?_, fun i h1 h2 => ?_, fun i h2 => ?_, hd, hp⟩
  · rw [gI_pI, if_pos ⟨rfl, rfl⟩, List.length_append]
    rfl
  · rw [gI_pI, if_neg (by omega), gI_pI]
    by_cases e : i = cs.length
    · rw [if_pos ⟨rfl, by omega⟩]
      rw [e, List.getElem?_append_right (Nat.le_refl _), Nat.sub_self] at hi
      rw [Option.some.inj hi]
    · rw [if_neg (by omega)]
      have := (List.getElem?_eq_some_iff.mp hi).1
      rw [List.length_append] at this
      have h1 : [c].length = 1 := rfl
      rw [List.getElem?_append_left (by omega)] at hi
      exact hc i x hi
  · rw [f.1 _ _ (by omega)]; exact ho i h1 h2
  · rw [f.1 _ _ (by omega)]; exact hm i h2
theorem GI.next {D : Nat} (h : GI S tp dp op cm cs p) : Sp (F (D + 2) 117 [.ref 39] S) (fun r S' => r = none ∧ Fr GfP RxL S S' ∧ GI S' tp dp op cm cs (tkN tp p)) := by
  obtain ⟨hR, hx, h20, hc, ho, hm, hd, hp⟩ := h
  obtain ⟨r, S1, e, er, f, hx1⟩ := f117 (d := D) hR hx.2.1 (tkN_le hp)
  refine ⟨r, S1, e, er, f.weak (fun a k z => by omega) (fun _ _ z => z), hR.x f, hx1, ?_, fun i x hi => ?_, fun i h1 h2 => ?_, fun i h2 => ?_, hd, tkN_le hp⟩
  · rw [f.1 _ _ (by omega)]; exact h20
  · rw [f.1 _ _ (by omega)]; exact hc i x hi
  · rw [f.1 _ _ (by omega)]; exact ho i h1 h2
  · rw [f.1 _ _ (by omega)]; exact hm i h2
/-- what the reader leaves -/
abbrev RdQ (S : St) (tp : List Nat) (r : Nat ⊕ (List Nat × Nat)) : Option Value → St → Prop := fun v S' => Fr GfP RxL S S' ∧ match r with
  | .inl f => v = some (.int 0) ∧ gI S' 39 9 = nI f
  | .inr (cs, q) => v = some (.int 1) ∧ LxR S' tp q ∧ gI S' 39 20 = nI (1000 + cs.length) ∧ (∀ i c, cs[i]? = some c → gI S' 50 (1000 + i) = nI c) ∧ cs.length ≤ 1000 ∧ q ≤ tp.length
set_option maxRecDepth 4096 in
theorem bnar0 : vp_nar .boolean 0 = (0 : Int32) := by decide +kernel
set_option maxRecDepth 4096 in
theorem bnar1 : vp_nar .boolean 1 = (1 : Int32) := by decide +kernel
set_option maxRecDepth 4096 in
theorem f123_loop {D : Nat} {S0 : St} {r : Nat ⊕ (List Nat × Nat)} : ∀ (n : Nat) (S : St) (dp p : Nat) (wt : Bool) (op : Nat → Nat) (cm : Nat → Bool) (cs : List Nat) (z3 z4 z5 : Value), rIt tp n (dp, wt, op, cm, cs, p) = some r → Fr GfP RxL S0 S → GI S tp dp op cm cs p → cs.length ≤ p → WP (P123 (F (D + 2))) (1, [.ref 39, .int (nI dp), .int (if wt = true then 1 else 0), z3, z4, z5], [], S) (fun v S' => (gZ S0 ≤ gZ S' ∧ gU S0 ≤ gU S') ∧ RdQ S0 tp r v S') := by
  intro n
  induction n with
  | zero => intro S dp p wt op cm cs z3 z4 z5 hr; cases hr
  | succ n ih =>
    intro S dp p wt op cm cs z3 z4 z5 hr f0 h hl
    replace hr : (match rNext tp (dp, wt, op, cm, cs, p) with | .inr r => some r | .inl s' => rIt tp n s') = some r := hr
    have hM := h.1.1
    have hR := h.1
    have hx := h.2.1
    have hn := h.1.2.2.2.1
    have hdp := h.2.2.2.2.2.2.1
    have hpn := h.2.2.2.2.2.2.2
    have hlt := tkC_lt (tp := tp) (p := p)
    have bad : ∀ k, rNext tp (dp, wt, op, cm, cs, p) = .inr (.inl (k + 16 * tkA tp p)) → WR (P123 (F (D + 2))) (eI (F (D + 2) 120 [.ref 39, .int (nI k)] S) fun v2 S1 => if v2 = 0 ∨ v2 = 1 then some (.inr (some (.int v2), S1)) else none) (fun v S' => (gZ S0 ≤ gZ S' ∧ gU S0 ≤ gU S') ∧ RdQ S0 tp r v S') := by
      intro k hk
      rw [hk] at hr
      cases hr
      refine W_I (f120 hM hx) ?_
      refine W_t (Or.inl rfl) ?_
      have f1 : Fr GfP RxL S0 (pI S 39 9 (nI (k + 16 * tkA tp p))) := f0.tr (Fr.putI (Or.inr (Or.inr (Or.inr ⟨rfl, by decide⟩))))
      exact ⟨f1.mono, f1, rfl, by rw [gI_pI, if_pos ⟨rfl, rfl⟩]⟩
    cases wt with
    | true =>
      refine w123_1 ?_
      refine W_f (by decide) ?_
      refine W_t (hM.k39) ?_
      refine W_I (f122 hM hx) ?_
      refine W_t (hM.k39) ?_
      refine W_I (f118 hM hx (i := 14) (by decide) (by decide)) ?_
      refine W_t (hM.k39) ?_
      refine W_I (f119 hR hx (s := 40) (by decide)) ?_
      have two : ¬ (¬ isF (tkC tp p) ∧ tkC tp p ≠ 142 ∧ tkC tp p ≠ 40 ∧ tkC tp p ≠ 257) → WP (P123 (F (D + 2))) (2, [.ref 39, .int (nI dp), .int 1, .int (nI (if 138 ≤ tkC tp p ∧ tkC tp p ≤ 141 then tkC tp p - 137 else 0)), .int (bi (tkC tp p = 128 + 14)), .int (bi (tkC tp p = 40))], [], S) (fun v S' => (gZ S0 ≤ gZ S' ∧ gU S0 ≤ gU S') ∧ RdQ S0 tp r v S') := by
        intro hst
        have hgt := tkN_gt (tp := tp) (p := p) (fun e => by rw [e] at hst; exact hst (by decide))
        have hle := tkN_le (tp := tp) hpn
        refine w123_2 ?_
        refine W_if (fun q5 => ?_) (fun q5 => ?_)
        · rw [c5, i_eq (by omega) (by decide)] at q5
          refine W_t (hM.k39) ?_
          refine bad 5 ?_
          unfold rNext
          dsimp only
          rw [if_pos rfl, if_neg hst, if_pos q5]
        rw [c5, i_eq (by omega) (by decide)] at q5
        have eight : ∀ (S1 : St) (dp' : Nat) (wt : Bool) (op' : Nat → Nat) (cm' : Nat → Bool) (c : Nat) (z3 z4 z5 : Int32), Fr GfP RxL S S1 → GI S1 tp dp' op' cm' (cs ++ [c]) p → rNext tp (dp, true, op, cm, cs, p) = .inl (dp', wt, op', cm', cs ++ [c], tkN tp p) → WP (P123 (F (D + 2))) (8, [.ref 39, .int (nI dp'), .int (if wt = true then 1 else 0), .int z3, .int z4, .int z5], [], S1) (fun v S' => (gZ S0 ≤ gZ S' ∧ gU S0 ≤ gU S') ∧ RdQ S0 tp r v S') := by
          intro S1 dp' wt op' cm' c z3 z4 z5 f1 h1 hN
          refine w123_8 ?_
          refine W_t (h1.1.1.k39) ?_
          refine W_Ve (h1.next) ?_
          intro S2 ⟨f2, h2⟩
          rw [hN] at hr
          exact ih S2 dp' (tkN tp p) wt op' cm' (cs ++ [c]) _ _ _ hr ((f0.tr f1).tr f2) h2 (by rw [List.length_append]; have : [c].length = 1 := rfl; omega)
        have three : (tkC tp p = 142 ∨ tkC tp p = 40) → WP (P123 (F (D + 2))) (3, [.ref 39, .int (nI dp), .int 1, .int (nI (if 138 ≤ tkC tp p ∧ tkC tp p ≤ 141 then tkC tp p - 137 else 0)), .int (bi (tkC tp p = 128 + 14)), .int (bi (tkC tp p = 40))], [], S) (fun v S' => (gZ S0 ≤ gZ S' ∧ gU S0 ≤ gU S') ∧ RdQ S0 tp r v S') := by
          intro hop
          have four : ∀ c : Nat, c = (if tkC tp p = 142 then 30 else 28) → WP (P123 (F (D + 2))) (4, [.ref 39, .int (nI dp), .int 1, .int (nI (if 138 ≤ tkC tp p ∧ tkC tp p ≤ 141 then tkC tp p - 137 else 0)), .int (bi (tkC tp p = 128 + 14)), .int (bi (tkC tp p = 40))], [.int (nI c), .ref 39], S) (fun v S' => (gZ S0 ≤ gZ S' ∧ gU S0 ≤ gU S') ∧ RdQ S0 tp r v S') := by
            intro c ec
            refine w123_4 ?_
            refine W_t (hM.k39) ?_
            refine W_Ve (h.put (c := c) (by omega)) ?_
            intro S1 ⟨f1, h1⟩
            have hM1 := h1.1.1
            refine W_t (hM1.k39) ?_
            rw [nI_1, hM1.r39_23]
            have five : ∀ y : Nat, y = (if tkC tp p = 142 then 1 else 2) → WP (P123 (F (D + 2))) (5, [.ref 39, .int (nI (dp + 1)), .int 1, .int (nI (if 138 ≤ tkC tp p ∧ tkC tp p ≤ 141 then tkC tp p - 137 else 0)), .int (bi (tkC tp p = 128 + 14)), .int (bi (tkC tp p = 40))], [.int (nI y), .int (nI (dp + 1)), .ref 51], S1) (fun v S' => (gZ S0 ≤ gZ S' ∧ gU S0 ≤ gU S') ∧ RdQ S0 tp r v S') := by
              intro y ey
              have hy2 : y ≤ 2 := by rw [ey]; split <;> decide
              refine w123_5 ?_
              refine W_t (⟨hM1.k51, by rw [hM1.n51]; exact inB_n (by omega) (by decide)⟩) ?_
              rw [nI_clamp (by omega)]
              refine W_s fun S2 e2 => ?_
              have f2 : Fr (fun a k => a = 51 ∧ k = dp + 1) nol S1 S2 := by rw [e2]; exact Fr.putI ⟨rfl, rfl⟩
              have hM2 := hM1.of f2.2.2
              refine W_t (hM2.k39) ?_
              rw [hM2.r39_24]
              refine W_t (⟨hM2.k52, by rw [hM2.n52]; exact inB_n (by omega) (by decide)⟩) ?_
              rw [bnar0]
              refine W_s fun S3 e3 => ?_
              have f3 : Fr (fun a k => a = 52 ∧ k = dp + 1) nol S2 S3 := by rw [e3]; exact Fr.putI ⟨rfl, rfl⟩
              have f13 : Fr (fun a k => (a = 51 ∨ a = 52) ∧ k = dp + 1) nol S1 S3 := (f2.weak (fun a k z => by omega) (fun _ _ z => z)).tr (f3.weak (fun a k z => by omega) (fun _ _ z => z))
              have hM3 := hM2.of f3.2.2
              obtain ⟨g1, g2, g3, g4, g5, g6, g7, g8⟩ := h1
              refine eight S3 (dp + 1) true (upN op (dp + 1) y) (upB cm (dp + 1) false) c _ _ _ (f1.tr (f13.weak (fun a k z => by omega) (fun _ _ z => z.elim))) ⟨g1.fr f13 (fun k z => by omega) (by omega), g2.fr f13 (fun k _ z => by omega) (fun z => z), ?_, fun i x hi => ?_, fun i i1 i2 => ?_, fun i i2 => ?_, by omega, g8⟩ ?_
              · rw [f13.1 _ _ (by omega)]; exact g3
              · rw [f13.1 _ _ (by omega)]; exact g4 i x hi
              · unfold upN
                by_cases e : i = dp + 1
                · rw [if_pos e, f3.1 _ _ (by omega), e2, gI_pI, if_pos ⟨rfl, e⟩]
                  exact ⟨rfl, hy2⟩
                · rw [if_neg e, f13.1 _ _ (by omega)]
                  exact g5 i i1 (by omega)
              · unfold upB
                by_cases e : i = dp + 1
                · rw [if_pos e, e3, gI_pI, if_pos ⟨rfl, e⟩]
                  rfl
                · rw [if_neg e, f13.1 _ _ (by omega)]
                  exact g6 i (by omega)
              · unfold rNext
                dsimp only
                rw [if_pos rfl, if_neg hst, if_neg q5, if_pos hop, ← ec, ← ey]
            refine W_if (fun z => ?_) (fun z => ?_)
            · rw [bi_0] at z
              exact five 2 (by rw [if_neg (by omega)])
            · rw [bi_0, Classical.not_not] at z
              exact five 1 (by rw [if_pos (by omega)])
          refine w123_3 ?_
          refine W_if (fun z => ?_) (fun z => ?_)
          · rw [bi_0] at z
            exact four 28 (by rw [if_neg (by omega)])
          · rw [bi_0, Classical.not_not] at z
            exact four 30 (by rw [if_pos (by omega)])
        have six : ¬ (tkC tp p = 142 ∨ tkC tp p = 40) → ∀ c : Nat, c = (if isF (tkC tp p) then tkC tp p - 137 else 100 + tkV tp p) → WP (P123 (F (D + 2))) (6, [.ref 39, .int (nI dp), .int 1, .int (nI (if 138 ≤ tkC tp p ∧ tkC tp p ≤ 141 then tkC tp p - 137 else 0)), .int (bi (tkC tp p = 128 + 14)), .int (bi (tkC tp p = 40))], [.int (nI c), .ref 39], S) (fun v S' => (gZ S0 ≤ gZ S' ∧ gU S0 ≤ gU S') ∧ RdQ S0 tp r v S') := by
          intro hop c ec
          refine w123_6 ?_
          refine W_t (hM.k39) ?_
          refine W_Ve (h.put (c := c) (by omega)) ?_
          intro S1 ⟨f1, h1⟩
          have hN : rNext tp (dp, true, op, cm, cs, p) = .inl (popN op dp, false, op, cm, cs ++ [c], tkN tp p) := by
            unfold rNext
            dsimp only
            rw [if_pos rfl, if_neg hst, if_neg q5, if_neg hop, ← ec]
          have loop : ∀ (j : Nat) (x3 x4 x5 : Int32), j ≤ dp → popN op j = popN op dp → WP (P123 (F (D + 2))) (7, [.ref 39, .int (nI j), .int 0, .int x3, .int x4, .int x5], [], S1) (fun v S' => (gZ S0 ≤ gZ S' ∧ gU S0 ≤ gU S') ∧ RdQ S0 tp r v S') := by
            intro j x3 x4 x5
            have hM1 := h1.1.1
            have stop : ∀ j, j ≤ dp → popN op dp = j → WP (P123 (F (D + 2))) (8, [.ref 39, .int (nI j), .int 0, .int x3, .int x4, .int x5], [], S1) (fun v S' => (gZ S0 ≤ gZ S' ∧ gU S0 ≤ gU S') ∧ RdQ S0 tp r v S') := by
              intro j hj ej
              obtain ⟨g1, g2, g3, g4, g5, g6, g7, g8⟩ := h1
              refine eight S1 j false op cm c _ _ _ f1 ⟨g1, g2, g3, g4, fun i i1 i2 => g5 i i1 (by omega), fun i i2 => g6 i (by omega), by omega, g8⟩ (by rw [hN, ej])
            induction j with
            | zero =>
              intro hj ej
              refine w123_7 ?_
              refine W_f (by decide) ?_
              exact stop 0 hj ej.symm
            | succ j ihj =>
              intro hj ej
              refine w123_7 ?_
              refine W_t (by rw [c0, i_lt (by decide) (by omega)]; omega) ?_
              refine W_t (hM1.k39) ?_
              rw [hM1.r39_23]
              refine W_t (⟨hM1.k51, by rw [hM1.n51]; exact inB_n (by omega) (by decide)⟩) ?_
              rw [nI_clamp (by omega)]
              obtain ⟨o1, o2⟩ := h1.2.2.2.2.1 (j + 1) (by omega) hj
              rw [o1]
              refine W_if (fun z => ?_) (fun z => ?_)
              · rw [c1, i_eq (by omega) (by decide)] at z
                show WP _ _ _
                rw [show nI (j + 1) + (-1) = nI j by rw [← Int32.sub_eq_add_neg]; exact pk_sub (a := j + 1) (b := 1) (by omega)]
                refine ihj (by omega) ?_
                rw [← ej]
                exact (if_pos z).symm
              · rw [c1, i_eq (by omega) (by decide)] at z
                refine stop (j + 1) hj ?_
                rw [← ej]
                exact if_neg z
          exact loop dp _ _ _ (Nat.le_refl _) rfl
        refine W_if (fun z1 => ?_) (fun z1 => ?_)
        · rw [bi_0] at z1
          refine W_if (fun z2 => ?_) (fun z2 => ?_)
          · rw [bi_0] at z2
            have hop : ¬ (tkC tp p = 142 ∨ tkC tp p = 40) := by omega
            by_cases hF : isF (tkC tp p)
            · have hF' : 138 ≤ tkC tp p ∧ tkC tp p ≤ 141 := hF
              simp only [if_pos hF'] at six ⊢
              refine W_t (by rw [c0, i_lt (by decide) (by omega)]; omega) ?_
              exact six hop _ rfl
            · have hF' : ¬ (138 ≤ tkC tp p ∧ tkC tp p ≤ 141) := hF
              simp only [if_neg hF'] at six ⊢
              refine W_f (by decide) ?_
              refine W_t (hM.k39) ?_
              have e257 : tkC tp p = 257 := by omega
              rw [(hx.2.2.2.2.1 e257).1, show (100 : Int32) = nI 100 from rfl, nI_add]
              exact six hop _ rfl
          · rw [bi_0, Classical.not_not] at z2
            exact three (by omega)
        · rw [bi_0, Classical.not_not] at z1
          exact three (by omega)
      refine W_if (fun q1 => ?_) (fun q1 => ?_)
      · refine W_if (fun q2 => ?_) (fun q2 => ?_)
        · refine W_if (fun q3 => ?_) (fun q3 => ?_)
          · refine W_t (hM.k39) ?_
            rw [hx.2.2.1]
            have hk := tkK_lt (c := tkC tp p)
            rw [bi_0] at q2 q3
            have nF : ¬ isF (tkC tp p) := by
              intro z
              rw [if_pos (show 138 ≤ tkC tp p ∧ tkC tp p ≤ 141 from z), c0, i_eq (by omega) (by decide)] at q1
              have := z.1
              omega
            refine W_if (fun q4 => ?_) (fun q4 => ?_)
            · rw [c2, i_eq (by omega) (by decide), tkK_2] at q4
              exact two (by omega)
            · rw [c2, i_eq (by omega) (by decide), tkK_2] at q4
              refine W_t (hM.k39) ?_
              refine bad 1 ?_
              unfold rNext
              dsimp only
              rw [if_pos rfl, if_pos ⟨nF, by omega, by omega, by omega⟩]
          · rw [bi_0, Classical.not_not] at q3
            exact two (by omega)
        · rw [bi_0, Classical.not_not] at q2
          exact two (by omega)
      · have : isF (tkC tp p) := by
          by_cases z : isF (tkC tp p)
          · exact z
          · exact absurd (by rw [if_neg (show ¬ (138 ≤ tkC tp p ∧ tkC tp p ≤ 141) from z)]; rfl) q1
        exact two (fun z => z.1 this)
    | false =>
      have nineteen : tkC tp p ≠ 259 → ∀ (S1 : St) (dp' : Nat) (wt : Bool) (op' : Nat → Nat) (cm' : Nat → Bool) (c : Nat) (z3 z4 z5 : Value), Fr GfP RxL S S1 → GI S1 tp dp' op' cm' (cs ++ [c]) p → rNext tp (dp, false, op, cm, cs, p) = .inl (dp', wt, op', cm', cs ++ [c], tkN tp p) → WP (P123 (F (D + 2))) (19, [.ref 39, .int (nI dp'), .int (if wt = true then 1 else 0), z3, z4, z5], [], S1) (fun v S' => (gZ S0 ≤ gZ S' ∧ gU S0 ≤ gU S') ∧ RdQ S0 tp r v S') := by
        intro hne S1 dp' wt op' cm' c z3 z4 z5 f1 h1 hN
        have hgt := tkN_gt (tp := tp) (p := p) hne
        refine w123_19 ?_
        refine W_t (h1.1.1.k39) ?_
        refine W_Ve (h1.next) ?_
        intro S2 ⟨f2, h2⟩
        rw [hN] at hr
        exact ih S2 dp' (tkN tp p) wt op' cm' (cs ++ [c]) _ _ _ hr ((f0.tr f1).tr f2) h2 (by rw [List.length_append]; have : [c].length = 1 := rfl; omega)
      have lenOk : tkC tp p ≠ 259 → cs.length < 1000 := fun hne => by
        have := tkN_gt (tp := tp) (p := p) hne
        have := tkN_le (tp := tp) hpn
        omega
      -- + - *
      have nine : (tkC tp p = 43 ∨ tkC tp p = 45 ∨ tkC tp p = 42) → ∀ z3 z4 z5 : Value, WP (P123 (F (D + 2))) (9, [.ref 39, .int (nI dp), .int 0, z3, z4, z5], [], S) (fun v S' => (gZ S0 ≤ gZ S' ∧ gU S0 ≤ gU S') ∧ RdQ S0 tp r v S') := by
        intro hc z3 z4 z5
        have ten : ∀ c : Nat, c = (if tkC tp p = 43 then 20 else if tkC tp p = 45 then 21 else 22) → WP (P123 (F (D + 2))) (10, [.ref 39, .int (nI dp), .int 0, z3, z4, z5], [.int (nI c), .ref 39], S) (fun v S' => (gZ S0 ≤ gZ S' ∧ gU S0 ≤ gU S') ∧ RdQ S0 tp r v S') := by
          intro c ec
          refine w123_10 ?_
          refine W_t (hM.k39) ?_
          refine W_Ve (h.put (c := c) (lenOk (by omega))) ?_
          intro S1 ⟨f1, h1⟩
          refine nineteen (by omega) S1 dp true op cm c z3 z4 z5 f1 h1 ?_
          unfold rNext
          dsimp only
          rw [if_neg (by decide), if_pos hc, ← ec]
        refine w123_9 ?_
        refine W_t (hM.k39) ?_
        refine W_I (f119 hR hx (s := 43) (by decide)) ?_
        refine W_if (fun q1 => ?_) (fun q1 => ?_)
        · rw [bi_0] at q1
          refine W_t (hM.k39) ?_
          refine W_I (f119 hR hx (s := 45) (by decide)) ?_
          refine W_if (fun q2 => ?_) (fun q2 => ?_)
          · rw [bi_0] at q2
            exact ten 22 (by rw [if_neg q1, if_neg q2])
          · rw [bi_0, Classical.not_not] at q2
            exact ten 21 (by rw [if_neg q1, if_pos q2])
        · rw [bi_0, Classical.not_not] at q1
          exact ten 20 (by rw [if_pos q1])
      have seventeen : tkC tp p ≠ 43 ∧ tkC tp p ≠ 45 ∧ tkC tp p ≠ 42 → ¬ ((tkC tp p = 60 ∨ tkC tp p = 61) ∧ cm dp = false) → ¬ (tkC tp p = 143 ∨ tkC tp p = 144) → ¬ (tkC tp p = 41 ∧ 0 < dp) → ∀ z3 z4 z5 : Value, WP (P123 (F (D + 2))) (17, [.ref 39, .int (nI dp), .int 0, z3, z4, z5], [], S) (fun v S' => (gZ S0 ≤ gZ S' ∧ gU S0 ≤ gU S') ∧ RdQ S0 tp r v S') := by
        intro n1 n2 n3 n4 z3 z4 z5
        have eighteen : ¬ (dp = 0 ∧ tkC tp p = 59) → WP (P123 (F (D + 2))) (18, [.ref 39, .int (nI dp), .int 0, z3, z4, z5], [], S) (fun v S' => (gZ S0 ≤ gZ S' ∧ gU S0 ≤ gU S') ∧ RdQ S0 tp r v S') := by
          intro n5
          refine w123_18 ?_
          refine W_t (hM.k39) ?_
          refine bad 1 ?_
          unfold rNext
          dsimp only
          rw [if_neg (by decide), if_neg (by omega), if_neg n2, if_neg n3, if_neg n4, if_neg n5]
        refine w123_17 ?_
        refine W_if (fun q1 => ?_) (fun q1 => ?_)
        · rw [c0, i_eq (by omega) (by decide)] at q1
          refine W_t (hM.k39) ?_
          refine W_I (f119 hR hx (s := 59) (by decide)) ?_
          refine W_if (fun q2 => ?_) (fun q2 => ?_)
          · rw [bi_0] at q2
            exact eighteen (fun z => q2 z.2)
          · rw [bi_0, Classical.not_not] at q2
            have hN : rNext tp (dp, false, op, cm, cs, p) = .inr (.inr (cs, tkN tp p)) := by
              unfold rNext
              dsimp only
              rw [if_neg (by decide), if_neg (by omega), if_neg n2, if_neg n3, if_neg n4, if_pos ⟨q1, q2⟩]
            rw [hN] at hr
            cases hr
            refine W_t (hM.k39) ?_
            refine W_Ve (h.next) ?_
            intro S1 ⟨f1, h1⟩
            refine W_t (Or.inr rfl) ?_
            exact ⟨(f0.tr f1).mono, f0.tr f1, rfl, h1.2.1, h1.2.2.1, h1.2.2.2.1, by omega, h1.2.2.2.2.2.2.2⟩
        · rw [c0, i_eq (by omega) (by decide)] at q1
          exact eighteen (fun z => q1 z.1)
      have thirteen : tkC tp p ≠ 43 ∧ tkC tp p ≠ 45 ∧ tkC tp p ≠ 42 → ¬ ((tkC tp p = 60 ∨ tkC tp p = 61) ∧ cm dp = false) → ∀ z3 z4 z5 : Value, WP (P123 (F (D + 2))) (13, [.ref 39, .int (nI dp), .int 0, z3, z4, z5], [], S) (fun v S' => (gZ S0 ≤ gZ S' ∧ gU S0 ≤ gU S') ∧ RdQ S0 tp r v S') := by
        intro n1 n2 z3 z4 z5
        have fourteen : (tkC tp p = 143 ∨ tkC tp p = 144) → WP (P123 (F (D + 2))) (14, [.ref 39, .int (nI dp), .int 0, z3, z4, z5], [], S) (fun v S' => (gZ S0 ≤ gZ S' ∧ gU S0 ≤ gU S') ∧ RdQ S0 tp r v S') := by
          intro hc
          have fifteen : ∀ c : Nat, c = (if tkC tp p = 143 then 26 else 27) → WP (P123 (F (D + 2))) (15, [.ref 39, .int (nI dp), .int 0, z3, z4, z5], [.int (nI c), .ref 39], S) (fun v S' => (gZ S0 ≤ gZ S' ∧ gU S0 ≤ gU S') ∧ RdQ S0 tp r v S') := by
            intro c ec
            refine w123_15 ?_
            refine W_t (hM.k39) ?_
            refine W_Ve (h.put (c := c) (lenOk (by omega))) ?_
            intro S1 ⟨f1, h1⟩
            have hM1 := h1.1.1
            refine W_t (hM1.k39) ?_
            rw [hM1.r39_24]
            refine W_t (⟨hM1.k52, by rw [hM1.n52]; exact inB_n (by omega) (by decide)⟩) ?_
            rw [nI_clamp (by omega), bnar0]
            refine W_s fun S2 e2 => ?_
            have f2 : Fr (fun a k => a = 52 ∧ k = dp) nol S1 S2 := by rw [e2]; exact Fr.putI ⟨rfl, rfl⟩
            obtain ⟨g1, g2, g3, g4, g5, g6, g7, g8⟩ := h1
            refine nineteen (by omega) S2 dp true op (upB cm dp false) c z3 z4 z5 (f1.tr (f2.weak (fun a k z => by omega) (fun _ _ z => z.elim))) ⟨g1.fr f2 (fun k z => by omega) (by omega), g2.fr f2 (fun k _ z => by omega) (fun z => z), ?_, fun i x hi => ?_, fun i i1 i2 => ?_, fun i i2 => ?_, g7, g8⟩ ?_
            · rw [f2.1 _ _ (by omega)]; exact g3
            · rw [f2.1 _ _ (by omega)]; exact g4 i x hi
            · rw [f2.1 _ _ (by omega)]; exact g5 i i1 i2
            · unfold upB
              by_cases e : i = dp
              · rw [if_pos e, e2, gI_pI, if_pos ⟨rfl, e⟩]
                rfl
              · rw [if_neg e, f2.1 _ _ (by omega)]
                exact g6 i i2
            · unfold rNext
              dsimp only
              rw [if_neg (by decide), if_neg (by omega), if_neg n2, if_pos hc, ← ec]
          refine w123_14 ?_
          refine W_t (hM.k39) ?_
          refine W_I (f118 hM hx (i := 15) (by decide) (by decide)) ?_
          refine W_if (fun q => ?_) (fun q => ?_)
          · rw [bi_0] at q
            exact fifteen 27 (by rw [if_neg (by omega)])
          · rw [bi_0, Classical.not_not] at q
            exact fifteen 26 (by rw [if_pos (by omega)])
        refine w123_13 ?_
        refine W_t (hM.k39) ?_
        refine W_I (f118 hM hx (i := 15) (by decide) (by decide)) ?_
        refine W_if (fun q1 => ?_) (fun q1 => ?_)
        · rw [bi_0] at q1
          refine W_t (hM.k39) ?_
          refine W_I (f118 hM hx (i := 16) (by decide) (by decide)) ?_
          refine W_if (fun q2 => ?_) (fun q2 => ?_)
          · rw [bi_0] at q2
            refine W_t (hM.k39) ?_
            refine W_I (f119 hR hx (s := 41) (by decide)) ?_
            refine W_if (fun q3 => ?_) (fun q3 => ?_)
            · rw [bi_0] at q3
              exact seventeen n1 n2 (by omega) (fun z => q3 z.1) z3 z4 z5
            · rw [bi_0, Classical.not_not] at q3
              refine W_if (fun q4 => ?_) (fun q4 => ?_)
              · rw [c0, i_lt (by decide) (by omega)] at q4
                refine W_t (hM.k39) ?_
                refine W_Ve (h.put (c := 29) (lenOk (by omega))) ?_
                intro S1 ⟨f1, h1⟩
                have hN : rNext tp (dp, false, op, cm, cs, p) = .inl (popN op (dp - 1), false, op, cm, cs ++ [29], tkN tp p) := by
                  unfold rNext
                  dsimp only
                  rw [if_neg (by decide), if_neg (by omega), if_neg n2, if_neg (by omega), if_pos ⟨q3, q4⟩]
                have hM1 := h1.1.1
                have stop : ∀ j, j ≤ dp → popN op (dp - 1) = j → WP (P123 (F (D + 2))) (19, [.ref 39, .int (nI j), .int 0, z3, z4, z5], [], S1) (fun v S' => (gZ S0 ≤ gZ S' ∧ gU S0 ≤ gU S') ∧ RdQ S0 tp r v S') := by
                  intro j hj ej
                  obtain ⟨g1, g2, g3, g4, g5, g6, g7, g8⟩ := h1
                  exact nineteen (by omega) S1 j false op cm 29 z3 z4 z5 f1 ⟨g1, g2, g3, g4, fun i i1 i2 => g5 i i1 (by omega), fun i i2 => g6 i (by omega), by omega, g8⟩ (by rw [hN, ej])
                have loop : ∀ (j : Nat), j < dp → popN op j = popN op (dp - 1) → WP (P123 (F (D + 2))) (16, [.ref 39, .int (nI j), .int 0, z3, z4, z5], [], S1) (fun v S' => (gZ S0 ≤ gZ S' ∧ gU S0 ≤ gU S') ∧ RdQ S0 tp r v S') := by
                  intro j
                  induction j with
                  | zero =>
                    intro hj ej
                    refine w123_16 ?_
                    refine W_f (by decide) ?_
                    exact stop 0 (by omega) ej.symm
                  | succ j ihj =>
                    intro hj ej
                    refine w123_16 ?_
                    refine W_t (by rw [c0, i_lt (by decide) (by omega)]; omega) ?_
                    refine W_t (hM1.k39) ?_
                    rw [hM1.r39_23]
                    refine W_t (⟨hM1.k51, by rw [hM1.n51]; exact inB_n (by omega) (by decide)⟩) ?_
                    rw [nI_clamp (by omega)]
                    obtain ⟨o1, o2⟩ := h1.2.2.2.2.1 (j + 1) (by omega) (by omega)
                    rw [o1]
                    refine W_if (fun z => ?_) (fun z => ?_)
                    · rw [c1, i_eq (by omega) (by decide)] at z
                      show WP _ _ _
                      rw [show nI (j + 1) + (-1) = nI j by rw [← Int32.sub_eq_add_neg]; exact pk_sub (a := j + 1) (b := 1) (by omega)]
                      refine ihj (by omega) ?_
                      rw [← ej]
                      exact (if_pos z).symm
                    · rw [c1, i_eq (by omega) (by decide)] at z
                      refine stop (j + 1) (by omega) ?_
                      rw [← ej]
                      exact if_neg z
                show WP _ _ _
                rw [show nI dp + (-1) = nI (dp - 1) by rw [← Int32.sub_eq_add_neg]; exact pk_sub (a := dp) (b := 1) (by omega)]
                exact loop (dp - 1) (by omega) rfl
              · rw [c0, i_lt (by decide) (by omega)] at q4
                exact seventeen n1 n2 (by omega) (fun z => q4 z.2) z3 z4 z5
          · rw [bi_0, Classical.not_not] at q2
            exact fourteen (by omega)
        · rw [bi_0, Classical.not_not] at q1
          exact fourteen (by omega)
      have eleven : (tkC tp p = 60 ∨ tkC tp p = 61) → ∀ z3 z4 z5 : Value, WP (P123 (F (D + 2))) (11, [.ref 39, .int (nI dp), .int 0, z3, z4, z5], [], S) (fun v S' => (gZ S0 ≤ gZ S' ∧ gU S0 ≤ gU S') ∧ RdQ S0 tp r v S') := by
        intro hc z3 z4 z5
        refine w123_11 ?_
        refine W_t (hM.k39) ?_
        rw [hM.r39_24]
        refine W_t (⟨hM.k52, by rw [hM.n52]; exact inB_n (by omega) (by decide)⟩) ?_
        rw [nI_clamp (by omega), h.2.2.2.2.2.1 dp (Nat.le_refl _)]
        refine W_if (fun q1 => ?_) (fun q1 => ?_)
        · have hcm : cm dp = false := by
            cases e : cm dp with
            | false => rfl
            | true => rw [e] at q1; exact absurd q1 (by decide)
          have twelve : ∀ c : Nat, c = (if tkC tp p = 60 then 24 else 25) → WP (P123 (F (D + 2))) (12, [.ref 39, .int (nI dp), .int 0, z3, z4, z5], [.int (nI c), .ref 39], S) (fun v S' => (gZ S0 ≤ gZ S' ∧ gU S0 ≤ gU S') ∧ RdQ S0 tp r v S') := by
            intro c ec
            refine w123_12 ?_
            refine W_t (hM.k39) ?_
            refine W_Ve (h.put (c := c) (lenOk (by omega))) ?_
            intro S1 ⟨f1, h1⟩
            have hM1 := h1.1.1
            refine W_t (hM1.k39) ?_
            rw [hM1.r39_24]
            refine W_t (⟨hM1.k52, by rw [hM1.n52]; exact inB_n (by omega) (by decide)⟩) ?_
            rw [nI_clamp (by omega), bnar1]
            refine W_s fun S2 e2 => ?_
            have f2 : Fr (fun a k => a = 52 ∧ k = dp) nol S1 S2 := by rw [e2]; exact Fr.putI ⟨rfl, rfl⟩
            obtain ⟨g1, g2, g3, g4, g5, g6, g7, g8⟩ := h1
            refine nineteen (by omega) S2 dp true op (upB cm dp true) c z3 z4 z5 (f1.tr (f2.weak (fun a k z => by omega) (fun _ _ z => z.elim))) ⟨g1.fr f2 (fun k z => by omega) (by omega), g2.fr f2 (fun k _ z => by omega) (fun z => z), ?_, fun i x hi => ?_, fun i i1 i2 => ?_, fun i i2 => ?_, g7, g8⟩ ?_
            · rw [f2.1 _ _ (by omega)]; exact g3
            · rw [f2.1 _ _ (by omega)]; exact g4 i x hi
            · rw [f2.1 _ _ (by omega)]; exact g5 i i1 i2
            · unfold upB
              by_cases e : i = dp
              · rw [if_pos e, e2, gI_pI, if_pos ⟨rfl, e⟩]
                rfl
              · rw [if_neg e, f2.1 _ _ (by omega)]
                exact g6 i i2
            · unfold rNext
              dsimp only
              rw [if_neg (by decide), if_neg (by omega), if_pos ⟨hc, hcm⟩, ← ec]
          refine W_t (hM.k39) ?_
          refine W_I (f119 hR hx (s := 60) (by decide)) ?_
          refine W_if (fun q => ?_) (fun q => ?_)
          · rw [bi_0] at q
            exact twelve 25 (by rw [if_neg q])
          · rw [bi_0, Classical.not_not] at q
            exact twelve 24 (by rw [if_pos q])
        · refine thirteen (by omega) (fun z => ?_) z3 z4 z5
          rw [z.2] at q1
          exact q1 rfl
      refine w123_1 ?_
      refine W_t (by decide) ?_
      refine W_t (hM.k39) ?_
      refine W_I (f119 hR hx (s := 43) (by decide)) ?_
      refine W_if (fun q1 => ?_) (fun q1 => ?_)
      · rw [bi_0] at q1
        refine W_t (hM.k39) ?_
        refine W_I (f119 hR hx (s := 45) (by decide)) ?_
        refine W_if (fun q2 => ?_) (fun q2 => ?_)
        · rw [bi_0] at q2
          refine W_t (hM.k39) ?_
          refine W_I (f119 hR hx (s := 42) (by decide)) ?_
          refine W_if (fun q3 => ?_) (fun q3 => ?_)
          · rw [bi_0] at q3
            refine W_t (hM.k39) ?_
            refine W_I (f119 hR hx (s := 60) (by decide)) ?_
            refine W_if (fun q4 => ?_) (fun q4 => ?_)
            · rw [bi_0] at q4
              refine W_t (hM.k39) ?_
              refine W_I (f119 hR hx (s := 61) (by decide)) ?_
              refine W_if (fun q5 => ?_) (fun q5 => ?_)
              · rw [bi_0] at q5
                exact thirteen ⟨q1, q2, q3⟩ (by omega) _ _ _
              · rw [bi_0, Classical.not_not] at q5
                exact eleven (Or.inr q5) _ _ _
            · rw [bi_0, Classical.not_not] at q4
              exact eleven (Or.inl q4) _ _ _
          · rw [bi_0, Classical.not_not] at q3
            exact nine (Or.inr (Or.inr q3)) _ _ _
        · rw [bi_0, Classical.not_not] at q2
          exact nine (Or.inr (Or.inl q2)) _ _ _
      · rw [bi_0, Classical.not_not] at q1
        exact nine (Or.inl q1) _ _ _
set_option maxRecDepth 4096 in
theorem f123 {D : Nat} {r : Nat ⊕ (List Nat × Nat)} (hR : RdM S tp) (hx : LxR S tp p) (h20 : gI S 39 20 = nI 1000) (hp : p ≤ tp.length) (h : ∀ op cm, cm 0 = false → RRun tp (0, true, op, cm, [], p) r) : Sp (F (D + 3) 123 [.ref 39] S) (RdQ S tp r) := by
  have hM := hR.1
  obtain ⟨n, hn⟩ := h (fun _ => 0) (fun _ => false) rfl
  refine fw123 (w123_0 ?_)
  refine W_t (hM.k39) ?_
  rw [hM.r39_24]
  refine W_t (⟨hM.k52, by rw [hM.n52]; decide⟩) ?_
  rw [bnar0, z0c]
  refine W_s fun S1 e1 => ?_
  have f1 : Fr (fun a k => a = 52) nol S S1 := by rw [e1]; exact Fr.putI rfl
  show WP _ _ _
  refine f123_loop n S1 0 p true _ _ [] _ _ _ hn (f1.weak (fun a k z => Or.inr (Or.inl z)) (fun _ _ z => z.elim)) ⟨hR.fr f1 (fun k z => by omega) (by omega), hx.fr f1 (fun k _ z => by omega) (fun z => z), ?_, fun i x hi => (by cases hi), fun i h1 h2 => absurd h1 (by omega), fun i hi => ?_, by decide, hp⟩ (Nat.zero_le _)
  · rw [f1.1 _ _ (by omega)]; exact h20
  · rw [e1, gI_pI, if_pos ⟨rfl, by omega⟩]
    rfl
end REF
