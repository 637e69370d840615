/-! the reference's lines of a truce -/
abbrev RlP : Nat → Nat → Prop := fun a k => a = 51 ∨ a = 52 ∨ (a = 50 ∧ 1000 ≤ k ∧ k < 2000) ∨ (a = 39 ∧ (k = 4 ∨ k = 5 ∨ k = 6 ∨ k = 8 ∨ k = 9 ∨ k = 20 ∨ k = 21 ∨ k = 22 ∨ k = 35)) ∨ ((a = 41 ∨ a = 42 ∨ a = 43 ∨ a = 44 ∨ a = 48 ∨ a = 49) ∧ k = 1) ∨ ((a = 45 ∨ a = 46) ∧ 6 ≤ k ∧ k < 12)
abbrev RlL : Nat → Nat → Prop := fun a k => a = 47 ∨ (a = 39 ∧ k = 7)
def RTk (S : St) (tp : List Nat) (p : Nat) : Prop := RdM S tp ∧ LxR S tp p ∧ p ≤ tp.length
abbrev NxP : Nat → Nat → Prop := fun a k => a = 39 ∧ (k = 4 ∨ k = 5 ∨ k = 6 ∨ k = 8 ∨ k = 9 ∨ k = 35)
section REF
variable {S S' : St} {tp : List Nat} {p c : Nat}
theorem nx_rl (f : Fr NxP RxL S S') : Fr RlP RlL S S' := f.weak (fun a k z => by omega) (fun a k z => Or.inr z)
theorem RTk.fr {P L : Nat → Nat → Prop} (h : RTk S tp p) (f : Fr P L S S') (h1 : ∀ k, ¬ P 40 k) (h2 : ∀ k, (k = 3 ∨ k = 4 ∨ k = 5 ∨ k = 6 ∨ k = 8) → ¬ P 39 k) (h3 : ¬ L 39 7) : RTk S' tp p := ⟨h.1.fr f h1 (h2 3 (by decide)), h.2.1.fr f (fun k hk => h2 k (by omega)) h3, h.2.2⟩
theorem RTk.next {D : Nat} (h : RTk S tp p) : Sp (F (D + 2) 117 [.ref 39] S) (fun r S' => r = none ∧ Fr RxP RxL S S' ∧ RTk S' tp (tkN tp p)) := by
  obtain ⟨r, S1, e, er, f, hx1⟩ := f117 (d := D) h.1 h.2.1.2.1 (tkN_le h.2.2)
  exact ⟨r, S1, e, er, f, h.1.x f, hx1, tkN_le h.2.2⟩
theorem rx_nx (f : Fr RxP RxL S S') : Fr NxP RxL S S' := f.weak (fun a k z => by omega) (fun a k z => z)
theorem rx_rl (f : Fr RxP RxL S S') : Fr RlP RlL S S' := nx_rl (rx_nx f)
theorem RTk.bad {D k : Nat} (h : RTk S tp p) : Sp (F (D + 1) 120 [.ref 39, .int (nI k)] S) (fun r S' => ∃ v, r = some (.int v) ∧ v = 0 ∧ Fr NxP RxL S S' ∧ gI S' 39 9 = nI (k + 16 * tkA tp p)) := ⟨_, _, f120 h.1.1 h.2.1, 0, rfl, rfl, Fr.putI ⟨rfl, by decide⟩, by rw [gI_pI, if_pos ⟨rfl, rfl⟩]⟩
set_option maxRecDepth 4096 in
theorem f129 {D a b : Nat} (h : RTk S tp p) (ha : a < 100) (hb : b < 100) : Sp (F (D + 3) 129 [.ref 39, .int (nI a), .int (nI b)] S) (fun r S' => ∃ v, r = some (.int v) ∧ Fr NxP RxL S S' ∧ ((tkC tp p = 257 ∧ (a ≤ tkV tp p ∧ tkV tp p ≤ b) ∧ v = 1 ∧ RTk S' tp (tkN tp p) ∧ gI S' 39 35 = nI (tkV tp p)) ∨ (tkC tp p ≠ 257 ∧ v = 0 ∧ gI S' 39 9 = nI (1 + 16 * tkA tp p)) ∨ (tkC tp p = 257 ∧ ¬ (a ≤ tkV tp p ∧ tkV tp p ≤ b) ∧ v = 0 ∧ gI S' 39 9 = nI (4 + 16 * tkA tp p)))) := by
  have hM := h.1.1
  have hk := tkK_lt (c := tkC tp p)
  refine fw129 (w129_0 ?_)
  refine W_t (hM.k39) ?_
  rw [h.2.1.2.2.1]
  refine W_if (fun q1 => ?_) (fun q1 => ?_)
  · rw [c2, i_eq (by omega) (by decide), tkK_2] at q1
    obtain ⟨e8, hv⟩ := h.2.1.2.2.2.2.1 q1
    refine W_t (hM.k39) ?_
    rw [e8]
    refine W_I (f114) ?_
    refine W_if (fun q2 => ?_) (fun q2 => ?_)
    · rw [bi_0] at q2
      rw [i_lt (by omega) (by omega), i_lt (by omega) (by omega)] at q2
      refine W_t (hM.k39) ?_
      refine W_Ie (h.bad (k := 4)) ?_
      intro v S1 ⟨ev, f1, h1⟩
      subst ev
      refine W_t (Or.inl rfl) ?_
      exact ⟨f1.mono, _, rfl, f1, Or.inr (Or.inr ⟨q1, by omega, rfl, h1⟩)⟩
    · rw [bi_0, Classical.not_not] at q2
      rw [i_lt (by omega) (by omega), i_lt (by omega) (by omega)] at q2
      refine W_t (hM.k39) ?_
      refine W_t (hM.k39) ?_
      rw [e8]
      refine W_s fun S1 e1 => ?_
      have f1 : Fr (fun a k => a = 39 ∧ k = 35) nol S S1 := by rw [e1]; exact Fr.putI ⟨rfl, rfl⟩
      have k35 : gI S1 39 35 = nI (tkV tp p) := by rw [e1, gI_pI, if_pos ⟨rfl, rfl⟩]
      have hM1 := hM.of f1.2.2
      clear e1
      refine W_t (hM1.k39) ?_
      refine W_Ve ((h.fr f1 (fun k z => by omega) (fun k hk z => by omega) (fun z => z)).next) ?_
      intro S2 ⟨f2, h2⟩
      refine W_t (Or.inr rfl) ?_
      have f02 : Fr NxP RxL S S2 := (f1.weak (fun a k z => by omega) (fun _ _ z => z.elim)).tr (rx_nx f2)
      exact ⟨f02.mono, _, rfl, f02, Or.inl ⟨q1, by omega, rfl, h2, by rw [f2.1 _ _ (by omega)]; exact k35⟩⟩
  · rw [c2, i_eq (by omega) (by decide), tkK_2] at q1
    refine W_t (hM.k39) ?_
    refine W_Ie (h.bad (k := 1)) ?_
    intro v S1 ⟨ev, f1, h1⟩
    subst ev
    refine W_t (Or.inl rfl) ?_
    exact ⟨f1.mono, _, rfl, f1, Or.inr (Or.inl ⟨q1, rfl, h1⟩)⟩
set_option maxRecDepth 4096 in
theorem f130 {D : Nat} (h : RTk S tp p) : Sp (F (D + 3) 130 [.ref 39] S) (fun r S' => ∃ v, r = some (.int v) ∧ Fr NxP RxL S S' ∧ ((tkC tp p = 59 ∧ v = 1 ∧ RTk S' tp (tkN tp p)) ∨ (tkC tp p ≠ 59 ∧ v = 0 ∧ gI S' 39 9 = nI (1 + 16 * tkA tp p)))) := by
  have hM := h.1.1
  refine fw130 (w130_0 ?_)
  refine W_t (hM.k39) ?_
  refine W_I (f119 h.1 h.2.1 (s := 59) (by decide)) ?_
  refine W_if (fun q => ?_) (fun q => ?_)
  · rw [bi_0] at q
    refine W_t (hM.k39) ?_
    refine W_Ie (h.bad (k := 1)) ?_
    intro v S1 ⟨ev, f1, h1⟩
    subst ev
    refine W_t (Or.inl rfl) ?_
    exact ⟨f1.mono, _, rfl, f1, Or.inr ⟨q, rfl, h1⟩⟩
  · rw [bi_0, Classical.not_not] at q
    refine W_t (hM.k39) ?_
    refine W_Ve (h.next) ?_
    intro S1 ⟨f1, h1⟩
    refine W_t (Or.inr rfl) ?_
    exact ⟨f1.mono, _, rfl, rx_nx f1, Or.inl ⟨q, rfl, h1⟩⟩
/-- the reference between two lines -/
def RLs (S : St) (tp : List Nat) (p : Nat) (s : LnS) : Prop := RTk S tp p ∧ gI S 44 1 = nI s.1 ∧ gI S 39 21 = bo s.2.1 ∧ gI S 39 22 = bo s.2.2.1 ∧ (gI S 43 1 = nI s.2.2.2.1.length ∧ s.2.2.2.1.length ≤ 6 ∧ ∀ i w, s.2.2.2.1[i]? = some w → gL S 47 i = lN (b27 w) ∧ okW8 w) ∧ (∀ i v, s.2.2.2.2.1[i]? = some v → gI S 45 (6 + i) = nI v) ∧ (∀ i v, s.2.2.2.2.2.1[i]? = some v → gI S 46 (6 + i) = nI v) ∧ s.2.2.2.2.1.length = s.2.2.2.1.length ∧ s.2.2.2.2.2.1.length = s.2.2.2.1.length ∧ gI S 39 20 = nI (1000 + s.2.2.2.2.2.2.2.length) ∧ gI S 48 1 = nI 1000 ∧ gI S 49 1 = nI (1000 + s.2.2.2.2.2.2.2.length) ∧ (∀ i c, s.2.2.2.2.2.2.2[i]? = some c → gI S 50 (1000 + i) = nI c) ∧ s.2.2.2.2.2.2.2.length ≤ 1000 ∧ (s.2.2.1 = false → s.2.2.2.2.2.2.2 = [])
abbrev RlQ (tp : List Nat) (S : St) (p : Nat) (r : Nat ⊕ (Nat × LnS)) : Option Value → St → Prop := fun v S' => Fr RlP RlL S S' ∧ gI S' 41 1 = gI S 41 1 ∧ gI S' 42 1 = gI S 42 1 ∧ match r with
  | .inl f => v = some (.int 0) ∧ gI S' 39 9 = nI f
  | .inr (q, s') => v = some (.int 1) ∧ RLs S' tp q s'
set_option maxRecDepth 4096 in
theorem f133 {D : Nat} {s : LnS} (h : RLs S tp p s) (hc : tkC tp p = 130) : Sp (F (D + 4) 133 [.ref 39] S) (RlQ tp S p (gtF tp p s)) := by
  obtain ⟨hT, h44, h21, h22, hN, hk, hb, hl1, hl2, h20, h48, h49, hcs, hcl, hft⟩ := h
  have hM := hT.1.1
  refine fw133 (w133_0 ?_)
  refine W_t (hM.k39) ?_
  rw [h21]
  cases hg : s.2.1 with
  | true =>
    refine W_f (by decide) ?_
    refine W_t (hM.k39) ?_
    refine W_Ie (hT.bad (k := 3)) ?_
    intro v S1 ⟨ev, f1, h1⟩
    subst ev
    refine W_t (Or.inl rfl) ?_
    refine ⟨f1.mono, nx_rl f1, f1.1 _ _ (by omega), f1.1 _ _ (by omega), ?_⟩
    unfold gtF
    rw [if_pos hg]
    exact ⟨rfl, h1⟩
  | false =>
    have ng : ¬ s.2.1 = true := by rw [hg]; decide
    refine W_t (rfl) ?_
    refine W_t (⟨hM.k39, Or.inr rfl⟩) ?_
    refine W_s fun S1 e1 => ?_
    have f1 : Fr (fun a k => a = 39 ∧ k = 21) nol S S1 := by rw [e1]; exact Fr.putI ⟨rfl, rfl⟩
    have k21 : gI S1 39 21 = 1 := by rw [e1, gI_pI, if_pos ⟨rfl, rfl⟩]
    clear e1
    have hM1 := hM.of f1.2.2
    have h1 := hT.fr f1 (fun k z => by omega) (fun k hk z => by omega) (fun z => z)
    refine W_t (hM1.k39) ?_
    refine W_Ve (h1.next) ?_
    intro S2 ⟨f2, h2⟩
    have hM2 := hM1.of f2.2.2
    refine W_t (hM2.k39) ?_
    refine W_Ie (f129 (a := 0) (b := 1) h2 (by decide) (by decide)) ?_
    intro v S3 ⟨f3, h3⟩
    have hM3 := hM2.of f3.2.2
    have f03 : Fr (fun a k => NxP a k ∨ (a = 39 ∧ k = 21)) RxL S S3 := ((f1.weak (fun a k z => Or.inr z) (fun _ _ z => z.elim)).tr ((rx_nx f2).weak (fun a k z => Or.inl z) (fun _ _ z => z))).tr (f3.weak (fun a k z => Or.inl z) (fun _ _ z => z))
    rcases h3 with ⟨e3, r3, ev, h3, g35⟩ | ⟨e3, ev, g9⟩ | ⟨e3, r3, ev, g9⟩
    · subst ev
      refine W_f (by decide) ?_
      refine W_t (hM3.k39) ?_
      refine W_t (hM3.k39) ?_
      rw [hM3.r39_13]
      refine W_t (⟨hM3.k44, by rw [hM3.n44]; decide⟩) ?_
      rw [g35]
      refine W_s fun S4 e4 => ?_
      rw [show (1 : Int32).toNatClampNeg = 1 by decide] at e4
      have f4 : Fr (fun a k => a = 44 ∧ k = 1) nol S3 S4 := by rw [e4]; exact Fr.putI ⟨rfl, rfl⟩
      have hM4 := hM3.of f4.2.2
      have h4 := h3.fr f4 (fun k z => by omega) (fun k hk z => by omega) (fun z => z)
      refine W_t (hM4.k39) ?_
      refine W_Ie (f130 h4) ?_
      intro v S5 ⟨f5, h5⟩
      have f05 : Fr (fun a k => NxP a k ∨ (a = 39 ∧ k = 21) ∨ (a = 44 ∧ k = 1)) RxL S S5 := ((f03.weak (fun a k z => by omega) (fun _ _ z => z)).tr (f4.weak (fun a k z => by omega) (fun _ _ z => z.elim))).tr (f5.weak (fun a k z => by omega) (fun _ _ z => z))
      have f05r : Fr RlP RlL S S5 := f05.weak (fun a k z => by omega) (fun a k z => Or.inr z)
      rcases h5 with ⟨e5, ev5, h5⟩ | ⟨e5, ev5, g9⟩
      · subst ev5
        refine W_t (Or.inr rfl) ?_
        refine ⟨f05r.mono, f05r, f05.1 _ _ (by omega), f05.1 _ _ (by omega), ?_⟩
        unfold gtF
        rw [if_neg ng, if_neg (by omega), if_neg (fun z => z r3), if_neg (by omega)]
        refine ⟨rfl, h5, ?_, ?_, ?_, ⟨?_, hN.2.1, fun i w hi => ?_⟩, fun i x hi => ?_, fun i x hi => ?_, hl1, hl2, ?_, ?_, ?_, fun i x hi => ?_, hcl, hft⟩
        · rw [f5.1 _ _ (by omega), e4, gI_pI, if_pos ⟨rfl, rfl⟩]
        · rw [f5.1 _ _ (by omega), f4.1 _ _ (by omega), f3.1 _ _ (by omega), f2.1 _ _ (by omega), k21]
          rfl
        · rw [f05.1 _ _ (by omega)]; exact h22
        · rw [f05.1 _ _ (by omega)]; exact hN.1
        · rw [f05.2.1 _ _ (by omega)]; exact hN.2.2 i w hi
        · rw [f05.1 _ _ (by omega)]; exact hk i x hi
        · rw [f05.1 _ _ (by omega)]; exact hb i x hi
        · rw [f05.1 _ _ (by omega)]; exact h20
        · rw [f05.1 _ _ (by omega)]; exact h48
        · rw [f05.1 _ _ (by omega)]; exact h49
        · rw [f05.1 _ _ (by omega)]; exact hcs i x hi
      · subst ev5
        refine W_t (Or.inl rfl) ?_
        refine ⟨f05r.mono, f05r, f05.1 _ _ (by omega), f05.1 _ _ (by omega), ?_⟩
        unfold gtF
        rw [if_neg ng, if_neg (by omega), if_neg (fun z => z r3), if_pos e5]
        exact ⟨rfl, g9⟩
    · subst ev
      refine W_t (rfl) ?_
      refine W_t (Or.inl rfl) ?_
      have f03r : Fr RlP RlL S S3 := f03.weak (fun a k z => by omega) (fun a k z => Or.inr z)
      refine ⟨f03r.mono, f03r, f03.1 _ _ (by omega), f03.1 _ _ (by omega), ?_⟩
      unfold gtF
      rw [if_neg ng, if_pos e3]
      exact ⟨rfl, g9⟩
    · subst ev
      refine W_t (rfl) ?_
      refine W_t (Or.inl rfl) ?_
      have f03r : Fr RlP RlL S S3 := f03.weak (fun a k z => by omega) (fun a k z => Or.inr z)
      refine ⟨f03r.mono, f03r, f03.1 _ _ (by omega), f03.1 _ _ (by omega), ?_⟩
      unfold gtF
      rw [if_neg ng, if_neg (by omega), if_pos r3]
      exact ⟨rfl, g9⟩
set_option maxRecDepth 4096 in
theorem f134 {D : Nat} {s : LnS} {r : Nat ⊕ (Nat × LnS)} (h : RLs S tp p s) (hc : tkC tp p = 131) (hr : fnF tp p s r) : Sp (F (D + 4) 134 [.ref 39] S) (RlQ tp S p r) := by
  obtain ⟨hT, h44, h21, h22, hN, hk, hb, hl1, hl2, h20, h48, h49, hcs, hcl, hft⟩ := h
  have hM := hT.1.1
  unfold fnF at hr
  refine fw134 (w134_0 ?_)
  refine W_t (hM.k39) ?_
  rw [h22]
  cases hg : s.2.2.1 with
  | true =>
    rw [if_pos hg] at hr
    subst hr
    refine W_f (by decide) ?_
    refine W_t (hM.k39) ?_
    refine W_Ie (hT.bad (k := 3)) ?_
    intro v S1 ⟨ev, f1, h1⟩
    subst ev
    refine W_t (Or.inl rfl) ?_
    exact ⟨f1.mono, nx_rl f1, f1.1 _ _ (by omega), f1.1 _ _ (by omega), rfl, h1⟩
  | false =>
    have ng : ¬ s.2.2.1 = true := by rw [hg]; decide
    rw [if_neg ng] at hr
    rw [hft hg] at h20
    refine W_t (rfl) ?_
    refine W_t (⟨hM.k39, Or.inr rfl⟩) ?_
    refine W_s fun S1 e1 => ?_
    have f1 : Fr (fun a k => a = 39 ∧ k = 22) nol S S1 := by rw [e1]; exact Fr.putI ⟨rfl, rfl⟩
    have k22 : gI S1 39 22 = 1 := by rw [e1, gI_pI, if_pos ⟨rfl, rfl⟩]
    clear e1
    have hM1 := hM.of f1.2.2
    have h1 := hT.fr f1 (fun k z => by omega) (fun k hk z => by omega) (fun z => z)
    refine W_t (hM1.k39) ?_
    refine W_Ve (h1.next) ?_
    intro S2 ⟨f2, h2⟩
    have hM2 := hM1.of f2.2.2
    have g20 : gI S2 39 20 = nI 1000 := by rw [f2.1 _ _ (by omega), f1.1 _ _ (by omega)]; exact h20
    refine W_t (hM2.k39) ?_
    have hz : ∃ r' : Nat ⊕ (List Nat × Nat), (∀ op cm, cm 0 = false → RRun tp (0, true, op, cm, [], tkN tp p) r') ∧ match r' with
        | .inl f => r = .inl f
        | .inr (cs, q) => ∃ js, r = .inr (q, (s.1, s.2.1, true, s.2.2.2.1, s.2.2.2.2.1, s.2.2.2.2.2.1, js, cs)) := by
      rcases hr with ⟨f, e, hx⟩ | ⟨cs, js, q, e, hx, ho, he⟩
      · exact ⟨.inl f, hx, e⟩
      · exact ⟨.inr (cs, q), hx, js, e⟩
    obtain ⟨r', hx, hm⟩ := hz
    obtain ⟨v, S3, e3, f3, h3⟩ := f123 (D := D) h2.1 h2.2.1 g20 h2.2.2 hx
    have hM3 := hM2.of f3.2.2
    have f03 : Fr (fun a k => GfP a k ∨ (a = 39 ∧ k = 22)) RxL S S3 := ((f1.weak (fun a k z => by omega) (fun _ _ z => z.elim)).tr (f2.weak (fun a k z => by omega) (fun _ _ z => z))).tr (f3.weak (fun a k z => Or.inl z) (fun _ _ z => z))
    have f03r : Fr RlP RlL S S3 := f03.weak (fun a k z => by omega) (fun a k z => Or.inr z)
    cases r' with
    | inl f =>
      obtain ⟨ev, g9⟩ := h3
      subst ev
      replace hm : r = .inl f := hm
      subst hm
      refine W_I (e3) ?_
      refine W_t (rfl) ?_
      refine W_t (Or.inl rfl) ?_
      exact ⟨f03r.mono, f03r, f03.1 _ _ (by omega), f03.1 _ _ (by omega), rfl, g9⟩
    | inr z =>
      obtain ⟨cs, q⟩ := z
      obtain ⟨ev, g1, g2, g3, g4, g5⟩ := h3
      obtain ⟨js, hm⟩ := hm
      subst ev
      subst hm
      refine W_I (e3) ?_
      refine W_f (by decide) ?_
      refine W_t (hM3.k39) ?_
      refine W_t (hM3.k39) ?_
      rw [hM3.r39_18]
      refine W_t (⟨hM3.k49, by rw [hM3.n49]; decide⟩) ?_
      rw [g2]
      refine W_s fun S4 e4 => ?_
      rw [show (1 : Int32).toNatClampNeg = 1 by decide] at e4
      have f4 : Fr (fun a k => a = 49 ∧ k = 1) nol S3 S4 := by rw [e4]; exact Fr.putI ⟨rfl, rfl⟩
      have f04 : Fr (fun a k => GfP a k ∨ (a = 39 ∧ k = 22) ∨ (a = 49 ∧ k = 1)) RxL S S4 := (f03.weak (fun a k z => by omega) (fun _ _ z => z)).tr (f4.weak (fun a k z => by omega) (fun _ _ z => z.elim))
      have f04r : Fr RlP RlL S S4 := f04.weak (fun a k z => by omega) (fun a k z => Or.inr z)
      refine W_t (Or.inr rfl) ?_
      have h3R : RTk S3 tp q := ⟨h2.1.fr f3 (fun k z => by omega) (by omega), g1, g5⟩
      refine ⟨f04r.mono, f04r, f04.1 _ _ (by omega), f04.1 _ _ (by omega), rfl, h3R.fr f4 (fun k z => by omega) (fun k hk z => by omega) (fun z => z), ?_, ?_, ?_, ⟨?_, hN.2.1, fun i w hi => ?_⟩, fun i x hi => ?_, fun i x hi => ?_, hl1, hl2, ?_, ?_, ?_, fun i x hi => ?_, g4, fun z => by cases z⟩
      · rw [f04.1 _ _ (by omega)]; exact h44
      · rw [f04.1 _ _ (by omega)]; exact h21
      · rw [f4.1 _ _ (by omega), f3.1 _ _ (by omega), f2.1 _ _ (by omega), k22]
        rfl
      · rw [f04.1 _ _ (by omega)]; exact hN.1
      · rw [f04.2.1 _ _ (by omega)]; exact hN.2.2 i w hi
      · rw [f04.1 _ _ (by omega)]; exact hk i x hi
      · rw [f04.1 _ _ (by omega)]; exact hb i x hi
      · rw [f4.1 _ _ (by omega)]; exact g2
      · rw [f04.1 _ _ (by omega)]; exact h48
      · rw [e4, gI_pI, if_pos ⟨rfl, rfl⟩]
      · rw [f4.1 _ _ (by omega)]; exact g3 i x hi
end REF
