/-! the reference over a whole text -/
section REF
variable {S S' : St} {tp : List Nat} {p c : Nat}
abbrev RaQ (tp : List Nat) (S0 : St) (res : Nat ⊕ LnS) : Option Value → St → Prop := fun v S' => Fr RlP RlL S0 S' ∧ gI S' 41 1 = gI S0 41 1 ∧ gI S' 42 1 = gI S0 42 1 ∧ match res with
  | .inl f => v = some (.int 0) ∧ gI S' 39 9 = nI f
  | .inr s' => v = some (.int 1) ∧ ∃ q, RLs S' tp q s'
set_option maxRecDepth 4096 in
theorem f135_loop {D : Nat} {S0 : St} {res : Nat ⊕ LnS} : ∀ (n p : Nat) (s : LnS) (S : St) (z1 : Value), lnsF tp n p s res → Fr RlP RlL S0 S → gI S 41 1 = gI S0 41 1 → gI S 42 1 = gI S0 42 1 → RLs S tp p s → WP (P135 (F (D + 4))) (1, [.ref 39, z1], [], S) (RaQ tp S0 res) := by
  intro n
  induction n with
  | zero => intro p s S z1 h; exact h.elim
  | succ n ih =>
    intro p s S z1 hl f0 k1 k2 h
    have hT := h.1
    have hM := hT.1.1
    have hx := hT.2.1
    have hk := tkK_lt (c := tkC tp p)
    unfold lnsF at hl
    refine w135_1 ?_
    refine W_t (hM.k39) ?_
    rw [hx.2.2.1]
    refine W_if (fun q0 => ?_) (fun q0 => ?_)
    · rw [c0, i_eq (by omega) (by decide), tkK_0] at q0
      rw [if_pos q0] at hl
      subst hl
      refine W_t (Or.inr rfl) ?_
      exact ⟨f0, k1, k2, rfl, p, h⟩
    rw [c0, i_eq (by omega) (by decide), tkK_0] at q0
    rw [if_neg q0] at hl
    have two : ∀ (r : Nat ⊕ (Nat × LnS)) (y : Int32) (S1 : St), lnF tp p s r → (match r with | .inl f => res = .inl f | .inr (q, s') => lnsF tp n q s' res) → RlQ tp S p r (some (.int y)) S1 → WP (P135 (F (D + 4))) (2, [.ref 39, z1], [.int y], S1) (RaQ tp S0 res) := by
      intro r y S1 _ hm hq
      obtain ⟨f1, g1, g2, hq⟩ := hq
      refine w135_2 ?_
      cases r with
      | inl f =>
        obtain ⟨ey, g9⟩ := hq
        cases ey
        replace hm : res = .inl f := hm
        subst hm
        refine W_t (rfl) ?_
        refine W_t (Or.inl rfl) ?_
        exact ⟨f0.tr f1, g1.trans k1, g2.trans k2, rfl, g9⟩
      | inr z =>
        obtain ⟨q, s'⟩ := z
        obtain ⟨ey, h1⟩ := hq
        cases ey
        refine W_f (by decide) ?_
        exact ih q s' S1 _ hm (f0.tr f1) (g1.trans k1) (g2.trans k2) h1
    have hz : ∃ r : Nat ⊕ (Nat × LnS), lnF tp p s r ∧ (match r with | .inl f => res = .inl f | .inr (q, s') => lnsF tp n q s' res) := by
      rcases hl with ⟨f, h1, e⟩ | ⟨q, s', h1, h2⟩
      · exact ⟨.inl f, h1, e⟩
      · exact ⟨.inr (q, s'), h1, h2⟩
    obtain ⟨r, hr, hm⟩ := hz
    have hr' := hr
    unfold lnF at hr
    refine W_t (hM.k39) ?_
    refine W_I (f118 hM hx (i := 1) (by decide) (by decide)) ?_
    refine W_if (fun q1 => ?_) (fun q1 => ?_)
    · rw [bi_0] at q1
      rw [if_neg (by omega)] at hr
      refine W_t (hM.k39) ?_
      refine W_I (f118 hM hx (i := 2) (by decide) (by decide)) ?_
      refine W_if (fun q2 => ?_) (fun q2 => ?_)
      · rw [bi_0] at q2
        rw [if_neg (by omega)] at hr
        refine W_t (hM.k39) ?_
        refine W_I (f118 hM hx (i := 3) (by decide) (by decide)) ?_
        refine W_if (fun q3 => ?_) (fun q3 => ?_)
        · rw [bi_0] at q3
          rw [if_neg (by omega)] at hr
          refine W_t (hM.k39) ?_
          refine W_Ie (hT.bad (k := 1)) ?_
          intro v S1 ⟨ev, f1, h1⟩
          subst ev
          refine two r _ S1 hr' hm ?_
          subst hr
          exact ⟨nx_rl f1, f1.1 _ _ (by omega), f1.1 _ _ (by omega), rfl, h1⟩
        · rw [bi_0, Classical.not_not] at q3
          rw [if_pos (by omega)] at hr
          refine W_t (hM.k39) ?_
          obtain ⟨v, S1, e1, h1⟩ := f134 (D := D) h q3 hr
          have : ∃ y, v = some (.int y) := by
            obtain ⟨_, _, _, h1⟩ := h1
            cases r with
            | inl f => exact ⟨_, h1.1⟩
            | inr z => exact ⟨_, h1.1⟩
          obtain ⟨y, ev⟩ := this
          subst ev
          refine W_I (e1) ?_
          exact two r y S1 hr' hm h1
      · rw [bi_0, Classical.not_not] at q2
        rw [if_pos (by omega)] at hr
        refine W_t (hM.k39) ?_
        obtain ⟨v, S1, e1, h1⟩ := f133 (D := D) h q2
        rw [← hr] at h1
        have : ∃ y, v = some (.int y) := by
          obtain ⟨_, _, _, h1⟩ := h1
          cases r with
          | inl f => exact ⟨_, h1.1⟩
          | inr z => exact ⟨_, h1.1⟩
        obtain ⟨y, ev⟩ := this
        subst ev
        refine W_I (e1) ?_
        exact two r y S1 hr' hm h1
    · rw [bi_0, Classical.not_not] at q1
      rw [if_pos (by omega)] at hr
      refine W_t (hM.k39) ?_
      obtain ⟨v, S1, e1, h1⟩ := f132 (D := D) h q1
      rw [← hr] at h1
      have : ∃ y, v = some (.int y) := by
        obtain ⟨_, _, _, h1⟩ := h1
        cases r with
        | inl f => exact ⟨_, h1.1⟩
        | inr z => exact ⟨_, h1.1⟩
      obtain ⟨y, ev⟩ := this
      subst ev
      refine W_I (e1) ?_
      exact two r y S1 hr' hm h1
abbrev RaP : Nat → Nat → Prop := fun a k => RlP a k ∨ (a = 39 ∧ (k = 1 ∨ k = 3))
abbrev RfQ (tp : List Nat) (S : St) (res : Nat ⊕ (Nat × Nat × LnS)) : Option Value → St → Prop := fun v S' => Fr RaP RlL S S' ∧ gI S' 39 1 = 0 ∧ match res with
    | .inl f => v = some (.int 0) ∧ gI S' 39 9 = nI f
    | .inr (w, hh, s) => v = some (.int 1) ∧ (∃ q, RLs S' tp q s) ∧ gI S' 41 1 = nI w ∧ gI S' 42 1 = nI hh
theorem rl_ra (f : Fr RlP RlL S S') : Fr RaP RlL S S' := f.weak (fun a k z => Or.inl z) (fun _ _ z => z)
set_option maxRecDepth 4096 in
theorem f135 {D : Nat} {res : Nat ⊕ (Nat × Nat × LnS)} (hM : ShM S) (ht : TapR S tp) (hv : ∀ v, v ∈ tp → v = 10 ∨ (32 ≤ v ∧ v ≤ 126)) (hr : txF tp res) : Sp (F (D + 5) 135 [.ref 39] S) (RfQ tp S res) := by
  obtain ⟨t1, t2, t3⟩ := ht
  refine fw135 (w135_0 ?_)
  simp only [sl, si, sj, gK_pI, gN_pI, gR_pI, hM.k39, hM.r39_12, hM.k43, hM.n43, hM.r39_13, hM.k44, hM.n44, hM.r39_17, hM.k48, hM.n48, hM.r39_18, hM.k49, hM.n49, z0c, eq_self, if_true, Nat.reduceAdd, true_and, n1c]
  refine W_t (by decide) ?_
  refine W_t (by decide) ?_
  refine W_t (by decide) ?_
  refine W_t (by decide) ?_
  refine W_t (by decide) ?_
  refine W_t (by decide) ?_
  sorry
end REF
