abbrev ReP : Nat → Nat → Prop := fun a k => (a = 3 ∧ k ≠ 12) ∨ a = 4 ∨ a = 5 ∨ a = 7
abbrev WlP : Nat → Nat → Prop := fun a k => GrP a k ∨ (a = 3 ∧ (k = 0 ∨ k = 1))
section CLS
variable {S S' : St} {tp : List Nat} {p c : Nat} {js : List Int32}
theorem gr_re {S S' : St} (f : Fr GrP LxL S S') : Fr ReP LnL S S' := f.weak (fun a k z => by omega) (fun a k z => Or.inr z)
theorem ln_re {S S' : St} (f : Fr LnP LnL S S') : Fr ReP LnL S S' := f.weak (fun a k z => by omega) (fun a k z => z)
theorem Flt.fr {P L : Nat → Nat → Prop} {f : Nat} (h : Flt S f) (g : Fr P L S S') (hp : ¬ P 3 13) : Flt S' f := ⟨by rw [g.1 _ _ hp]; exact h.1, h.2⟩
theorem gr_wl {S S' : St} (f : Fr GrP LxL S S') : Fr WlP LxL S S' := f.weak (fun a k z => Or.inl z) (fun a k z => z)
set_option maxRecDepth 4096 in
theorem f22 {D : Nat} (h : CS S tp 0 []) : Sp (F (D + 9) 22 [.ref 3] S) (fun r S' => r = none ∧ Fr WlP LxL S S' ∧ match wlF tp with
    | .inl f => Flt S' f
    | .inr (w, hh, q) => CS S' tp q [] ∧ gI S' 3 0 = nI w ∧ gI S' 3 1 = nI hh) := by
  have hS := h.1.1
  refine fw22 (w22_0 ?_)
  refine W_t (hS.k3) ?_
  refine W_Ve (f33 (c := 128) h (by decide)) ?_
  intro S1 ⟨f1, h1⟩
  have hS1 := hS.of f1.2.2
  -- from a fault on
  have tail3 : ∀ (S1 : St) (f : Nat), Fr WlP LxL S S1 → Flt S1 f → (wlF tp = .inl f) → WR (P22 (F (D + 8))) (if gK S1 3 = 2 then (eV (F (D + 8) 33 [.ref 3, .int 59] S1) fun S8 => some (.inr (none, S8))) else none) (fun r S' => (gZ S ≤ gZ S' ∧ gU S ≤ gU S') ∧ r = none ∧ Fr WlP LxL S S' ∧ match wlF tp with
      | .inl f => Flt S' f
      | .inr (w, hh, q) => CS S' tp q [] ∧ gI S' 3 0 = nI w ∧ gI S' 3 1 = nI hh) := by
    intro S1 f f1 hf e
    have hS1 := hS.of f1.2.2
    refine W_t (hS1.k3) ?_
    refine W_V (f33x hS1 hf.ne) ?_
    refine ⟨f1.mono, rfl, f1, ?_⟩
    rw [e]
    exact hf
  have tail2 : ∀ (S1 : St) (f : Nat), Fr WlP LxL S S1 → Flt S1 f → (wlF tp = .inl f) → WR (P22 (F (D + 8))) (if gK S1 3 = 2 then (eI (F (D + 8) 34 [.ref 3, .int 1, .int 6] S1) fun v6 S5 => if gK S5 3 = 2 then sl (pI S5 3 1 v6) fun S7 => if gK S7 3 = 2 then (eV (F (D + 8) 33 [.ref 3, .int 59] S7) fun S8 => some (.inr (none, S8))) else none else none) else none) (fun r S' => (gZ S ≤ gZ S' ∧ gU S ≤ gU S') ∧ r = none ∧ Fr WlP LxL S S' ∧ match wlF tp with
      | .inl f => Flt S' f
      | .inr (w, hh, q) => CS S' tp q [] ∧ gI S' 3 0 = nI w ∧ gI S' 3 1 = nI hh) := by
    intro S1 f f1 hf e
    have hS1 := hS.of f1.2.2
    refine W_t (hS1.k3) ?_
    refine W_Ie (f34x hS1 hf.ne) ?_
    intro v S2 e2
    subst e2
    refine W_t (hS1.k3) ?_
    refine W_s fun S3 e3 => ?_
    have f3 : Fr (fun a k => a = 3 ∧ k = 1) nol S2 S3 := by rw [e3]; exact Fr.putI ⟨rfl, rfl⟩
    exact tail3 S3 f (f1.tr (f3.weak (fun a k z => by omega) (fun _ _ z => z.elim))) (hf.fr f3 (by omega)) e
  have tail1 : ∀ (S1 : St) (f : Nat), Fr WlP LxL S S1 → Flt S1 f → (wlF tp = .inl f) → WR (P22 (F (D + 8))) (if gK S1 3 = 2 then (eI (F (D + 8) 34 [.ref 3, .int 2, .int 10] S1) fun v3 S2 => if gK S2 3 = 2 then sl (pI S2 3 0 v3) fun S4 => if gK S4 3 = 2 then (eI (F (D + 8) 34 [.ref 3, .int 1, .int 6] S4) fun v6 S5 => if gK S5 3 = 2 then sl (pI S5 3 1 v6) fun S7 => if gK S7 3 = 2 then (eV (F (D + 8) 33 [.ref 3, .int 59] S7) fun S8 => some (.inr (none, S8))) else none else none) else none else none) else none) (fun r S' => (gZ S ≤ gZ S' ∧ gU S ≤ gU S') ∧ r = none ∧ Fr WlP LxL S S' ∧ match wlF tp with
      | .inl f => Flt S' f
      | .inr (w, hh, q) => CS S' tp q [] ∧ gI S' 3 0 = nI w ∧ gI S' 3 1 = nI hh) := by
    intro S1 f f1 hf e
    have hS1 := hS.of f1.2.2
    refine W_t (hS1.k3) ?_
    refine W_Ie (f34x hS1 hf.ne) ?_
    intro v S2 e2
    subst e2
    refine W_t (hS1.k3) ?_
    refine W_s fun S3 e3 => ?_
    have f3 : Fr (fun a k => a = 3 ∧ k = 0) nol S2 S3 := by rw [e3]; exact Fr.putI ⟨rfl, rfl⟩
    exact tail2 S3 f (f1.tr (f3.weak (fun a k z => by omega) (fun _ _ z => z.elim))) (hf.fr f3 (by omega)) e
  rcases h1 with ⟨e1, h1⟩ | ⟨e1, h1⟩
  · refine W_t (hS1.k3) ?_
    refine W_Ie (f34 (a := 2) (b := 10) h1 (by decide) (by decide)) ?_
    intro v S2 ⟨f2, h2⟩
    have hS2 := hS1.of f2.2.2
    refine W_t (hS2.k3) ?_
    refine W_s fun S3 e3 => ?_
    have f3 : Fr (fun a k => a = 3 ∧ k = 0) nol S2 S3 := by rw [e3]; exact Fr.putI ⟨rfl, rfl⟩
    have f03 : Fr WlP LxL S S3 := ((gr_wl f1).tr (gr_wl f2)).tr (f3.weak (fun a k z => by omega) (fun _ _ z => z.elim))
    have hS3 := hS2.of f3.2.2
    rcases h2 with ⟨e2, r2, ev, h2⟩ | ⟨e2, h2⟩ | ⟨e2, r2, h2⟩
    · have h3 : CS S3 tp (tkN tp (tkN tp 0)) [] := h2.fr f3 (fun k z => by omega) (fun k hk z => by omega) (fun k z => by omega) (fun z => z)
      have k3 : gI S3 3 0 = nI (tkV tp (tkN tp 0)) := by rw [e3, gI_pI, if_pos ⟨rfl, rfl⟩, ev]
      clear e3
      refine W_t (hS3.k3) ?_
      refine W_Ie (f34 (a := 1) (b := 6) h3 (by decide) (by decide)) ?_
      intro v2 S4 ⟨f4, h4⟩
      have hS4 := hS3.of f4.2.2
      refine W_t (hS4.k3) ?_
      refine W_s fun S5 e5 => ?_
      have f5 : Fr (fun a k => a = 3 ∧ k = 1) nol S4 S5 := by rw [e5]; exact Fr.putI ⟨rfl, rfl⟩
      have f05 : Fr WlP LxL S S5 := (f03.tr (gr_wl f4)).tr (f5.weak (fun a k z => by omega) (fun _ _ z => z.elim))
      have hS5 := hS4.of f5.2.2
      rcases h4 with ⟨e4, r4, ev4, h4⟩ | ⟨e4, h4⟩ | ⟨e4, r4, h4⟩
      · have h5 : CS S5 tp (tkN tp (tkN tp (tkN tp 0))) [] := h4.fr f5 (fun k z => by omega) (fun k hk z => by omega) (fun k z => by omega) (fun z => z)
        have k50 : gI S5 3 0 = nI (tkV tp (tkN tp 0)) := by rw [f5.1 _ _ (by omega), f4.1 _ _ (by omega)]; exact k3
        have k51 : gI S5 3 1 = nI (tkV tp (tkN tp (tkN tp 0))) := by rw [e5, gI_pI, if_pos ⟨rfl, rfl⟩, ev4]
        clear e5
        refine W_t (hS5.k3) ?_
        refine W_Ve (f33 (c := 59) h5 (by decide)) ?_
        intro S6 ⟨f6, h6⟩
        have f06 := f05.tr (gr_wl f6)
        refine ⟨f06.mono, rfl, f06, ?_⟩
        unfold wlF
        rw [if_neg (by omega), if_neg (by omega), if_neg (fun z => z r2), if_neg (by omega), if_neg (fun z => z r4)]
        rcases h6 with ⟨e6, h6⟩ | ⟨e6, h6⟩
        · rw [if_neg (by omega)]
          exact ⟨h6, by rw [f6.1 _ _ (by omega)]; exact k50, by rw [f6.1 _ _ (by omega)]; exact k51⟩
        · rw [if_pos e6]
          exact h6
      · refine tail3 S5 _ f05 (h4.fr f5 (by omega)) ?_
        unfold wlF
        rw [if_neg (by omega), if_neg (by omega), if_neg (fun z => z r2), if_pos e4]
      · refine tail3 S5 _ f05 (h4.fr f5 (by omega)) ?_
        unfold wlF
        rw [if_neg (by omega), if_neg (by omega), if_neg (fun z => z r2), if_neg (by omega), if_pos r4]
    · refine tail2 S3 _ f03 (h2.fr f3 (by omega)) ?_
      unfold wlF
      rw [if_neg (by omega), if_pos e2]
    · refine tail2 S3 _ f03 (h2.fr f3 (by omega)) ?_
      unfold wlF
      rw [if_neg (by omega), if_neg (by omega), if_pos r2]
  · refine tail1 S1 _ (gr_wl f1) h1 ?_
    unfold wlF
    rw [if_pos e1]
set_option maxRecDepth 4096 in
theorem f24 {D : Nat} {s : LnS} (h : CLs S tp p s) (hc : tkC tp p = 130) : Sp (F (D + 9) 24 [.ref 3] S) (fun r S' => r = none ∧ Fr LnP LnL S S' ∧ match gtF tp p s with
    | .inl f => Flt S' f
    | .inr (q, s') => CLs S' tp q s' ∧ p < q) := by
  obtain ⟨hC, h2, h9, h10, hN, hk4, hk5, hl4, hl5, hlj, hft⟩ := h
  have hS := hC.1.1
  refine fw24 (w24_0 ?_)
  refine W_t (hS.k3) ?_
  rw [h9]
  cases hg : s.2.1 with
  | true =>
    refine W_f (by decide) ?_
    refine W_t (hS.k3) ?_
    refine W_Ve (f32 (k := 3) hC (by decide) (by decide)) ?_
    intro S1 ⟨f1, h1⟩
    refine ⟨f1.mono, rfl, gr_ln f1, ?_⟩
    unfold gtF
    rw [if_pos hg]
    exact h1
  | false =>
    have ng : ¬ s.2.1 = true := by rw [hg]; decide
    refine W_t (rfl) ?_
    refine W_t (⟨hS.k3, Or.inr rfl⟩) ?_
    refine W_s fun S1 e1 => ?_
    have f1 : Fr (fun a k => a = 3 ∧ k = 9) nol S S1 := by rw [e1]; exact Fr.putI ⟨rfl, rfl⟩
    have k9 : gI S1 3 9 = 1 := by rw [e1, gI_pI, if_pos ⟨rfl, rfl⟩]
    clear e1
    have hS1 := hS.of f1.2.2
    have h1 : CS S1 tp p s.2.2.2.2.2.2.1 := hC.fr f1 (fun k z => by omega) (fun k hk z => by omega) (fun k z => by omega) (fun z => z)
    refine W_t (hS1.k3) ?_
    refine W_Ve (f37c h1 (by omega)) ?_
    intro S2 ⟨f2, h2'⟩
    have hS2 := hS1.of f2.2.2
    refine W_t (hS2.k3) ?_
    refine W_Ie (f34 (a := 0) (b := 1) h2' (by decide) (by decide)) ?_
    intro v S3 ⟨f3, h3⟩
    have hS3 := hS2.of f3.2.2
    refine W_t (hS3.k3) ?_
    refine W_s fun S4 e4 => ?_
    have f4 : Fr (fun a k => a = 3 ∧ k = 2) nol S3 S4 := by rw [e4]; exact Fr.putI ⟨rfl, rfl⟩
    have f04 : Fr LnP LnL S S4 := (((f1.weak (fun a k z => by omega) (fun _ _ z => z.elim)).tr (gr_ln f2)).tr (gr_ln f3)).tr (f4.weak (fun a k z => by omega) (fun _ _ z => z.elim))
    have hS4 := hS3.of f4.2.2
    refine W_t (hS4.k3) ?_
    have bad : ∀ f, Flt S3 f → gtF tp p s = .inl f → WR (P24 (F (D + 8))) (eV (F (D + 8) 33 [.ref 3, .int 59] S4) fun S6 => some (.inr (none, S6))) (fun r S' => (gZ S ≤ gZ S' ∧ gU S ≤ gU S') ∧ r = none ∧ Fr LnP LnL S S' ∧ match gtF tp p s with
        | .inl f => Flt S' f
        | .inr (q, s') => CLs S' tp q s' ∧ p < q) := by
      intro f hf e
      have hf4 := hf.fr f4 (by omega)
      refine W_V (f33x hS4 hf4.ne) ?_
      refine ⟨f04.mono, rfl, f04, ?_⟩
      rw [e]
      exact hf4
    rcases h3 with ⟨e3, r3, ev, h3⟩ | ⟨e3, h3⟩ | ⟨e3, r3, h3⟩
    · have h4 : CS S4 tp (tkN tp (tkN tp p)) s.2.2.2.2.2.2.1 := h3.fr f4 (fun k z => by omega) (fun k hk z => by omega) (fun k z => by omega) (fun z => z)
      refine W_Ve (f33 (c := 59) h4 (by decide)) ?_
      intro S5 ⟨f5, h5⟩
      have f05 := f04.tr (gr_ln f5)
      refine ⟨f05.mono, rfl, f05, ?_⟩
      unfold gtF
      rw [if_neg ng, if_neg (by omega), if_neg (fun z => z r3)]
      rcases h5 with ⟨e5, h5⟩ | ⟨e5, h5⟩
      · rw [if_neg (by omega)]
        have t1 := tkN_gt (tp := tp) (p := p) (by omega)
        have t2 := tkN_gt (tp := tp) (p := tkN tp p) (by omega)
        have t3 := tkN_gt (tp := tp) (p := tkN tp (tkN tp p)) (by omega)
        have keepI : ∀ a k, ¬ GrP a k → ¬ (a = 3 ∧ (k = 9 ∨ k = 2)) → gI S5 a k = gI S a k := fun a k n1 n2 => by rw [f5.1 _ _ n1, f4.1 _ _ (by omega), f3.1 _ _ n1, f2.1 _ _ n1, f1.1 _ _ (by omega)]
        have keepL : ∀ a k, ¬ LxL a k → gL S5 a k = gL S a k := fun a k n1 => by rw [f5.2.1 _ _ n1, f4.2.1 _ _ (fun z => z), f3.2.1 _ _ n1, f2.2.1 _ _ n1, f1.2.1 _ _ (fun z => z)]
        refine ⟨⟨h5, ?_, ?_, ?_, ⟨?_, hN.2.1, fun i w hi => ?_⟩, fun i x hi => ?_, fun i x hi => ?_, hl4, hl5, (by show s.2.2.2.2.2.2.1.length ≤ _; omega), hft⟩, by omega⟩
        · rw [f5.1 _ _ (by omega), e4, gI_pI, if_pos ⟨rfl, rfl⟩, ev]
        · rw [f5.1 _ _ (by omega), f4.1 _ _ (by omega), f3.1 _ _ (by omega), f2.1 _ _ (by omega), k9]
          rfl
        · rw [keepI _ _ (by omega) (by omega)]; exact h10
        · rw [keepI _ _ (by omega) (by omega)]; exact hN.1
        · rw [keepL _ _ (by omega)]; exact hN.2.2 i w hi
        · rw [keepI _ _ (by omega) (by omega)]; exact hk4 i x hi
        · rw [keepI _ _ (by omega) (by omega)]; exact hk5 i x hi
      · rw [if_pos e5]
        exact h5
    · refine bad _ h3 ?_
      unfold gtF
      rw [if_neg ng, if_pos e3]
    · refine bad _ h3 ?_
      unfold gtF
      rw [if_neg ng, if_neg (by omega), if_pos r3]
set_option maxRecDepth 4096 in
theorem f25 {D : Nat} {s : LnS} (h : CLs S tp p s) (hc : tkC tp p = 131) : Sp (F (D + 38) 25 [.ref 3] S) (fun r S' => r = none ∧ Fr LnP LnL S S' ∧ ((∃ f, fnF tp p s (.inl f) ∧ Flt S' f) ∨ ∃ q s', fnF tp p s (.inr (q, s')) ∧ CLs S' tp q s' ∧ p < q)) := by
  obtain ⟨hC, h2, h9, h10, hN, hk4, hk5, hl4, hl5, hlj, hft⟩ := h
  have hS := hC.1.1
  refine fw25 (w25_0 ?_)
  refine W_t (hS.k3) ?_
  rw [h10]
  cases hg : s.2.2.1 with
  | true =>
    refine W_f (by decide) ?_
    refine W_t (hS.k3) ?_
    refine W_Ve (f32 (k := 3) hC (by decide) (by decide)) ?_
    intro S1 ⟨f1, h1⟩
    refine ⟨f1.mono, rfl, gr_ln f1, Or.inl ⟨_, ?_, h1⟩⟩
    unfold fnF
    rw [if_pos hg]
  | false =>
    have ng : ¬ s.2.2.1 = true := by rw [hg]; decide
    have hj := hft hg
    rw [hj] at hC
    refine W_t (rfl) ?_
    refine W_t (⟨hS.k3, Or.inr rfl⟩) ?_
    refine W_s fun S1 e1 => ?_
    have f1 : Fr (fun a k => a = 3 ∧ k = 10) nol S S1 := by rw [e1]; exact Fr.putI ⟨rfl, rfl⟩
    have k10 : gI S1 3 10 = 1 := by rw [e1, gI_pI, if_pos ⟨rfl, rfl⟩]
    clear e1
    have hS1 := hS.of f1.2.2
    have h1 : CS S1 tp p [] := hC.fr f1 (fun k z => by omega) (fun k hk z => by omega) (fun k z => by omega) (fun z => z)
    have t1 := tkN_gt (tp := tp) (p := p) (by omega)
    refine W_t (hS1.k3) ?_
    refine W_Ve (f37c h1 (by omega)) ?_
    intro S2 ⟨f2, h2'⟩
    have hS2 := hS1.of f2.2.2
    refine W_t (hS2.k3) ?_
    refine W_Ve (f26z h2' (Nat.zero_le _)) ?_
    intro S3 ⟨f3, h3⟩
    have hS3 := hS2.of f3.2.2
    have f03 : Fr LnP LnL S S3 := ((f1.weak (fun a k z => by omega) (fun _ _ z => z.elim)).tr (gr_ln f2)).tr (gr_ln f3)
    refine W_t (hS3.k3) ?_
    rcases h3 with ⟨f, hf, hx⟩ | ⟨q, ks, h3, hks, b, ⟨_, cs, ho, hg1, he⟩, hend⟩
    · refine W_V (f33x hS3 hf.ne) ?_
      refine ⟨f03.mono, rfl, f03, Or.inl ⟨f, ?_, hf⟩⟩
      unfold fnF
      rw [if_neg ng]
      exact Or.inl ⟨f, rfl, fun op cm hm => hx op cm [] (Or.inl rfl) hm⟩
    · refine W_Ve (f33 (c := 59) h3 (by decide)) ?_
      intro S4 ⟨f4, h4⟩
      have f04 := f03.tr (gr_ln f4)
      rw [List.nil_append] at h4
      refine ⟨f04.mono, rfl, f04, ?_⟩
      rcases h4 with ⟨e4, h4⟩ | ⟨e4, h4⟩
      · have t2 := tkN_gt (tp := tp) (p := q) (by omega)
        have keepI : ∀ a k, ¬ GrP a k → ¬ (a = 3 ∧ k = 10) → gI S4 a k = gI S a k := fun a k n1 n2 => by rw [f4.1 _ _ n1, f3.1 _ _ n1, f2.1 _ _ n1, f1.1 _ _ (by omega)]
        have keepL : ∀ a k, ¬ LxL a k → gL S4 a k = gL S a k := fun a k n1 => by rw [f4.2.1 _ _ n1, f3.2.1 _ _ n1, f2.2.1 _ _ n1, f1.2.1 _ _ (fun z => z)]
        refine Or.inr ⟨tkN tp q, (s.1, s.2.1, true, s.2.2.2.1, s.2.2.2.2.1, s.2.2.2.2.2.1, ks, cs), ?_, ⟨h4, ?_, ?_, ?_, ⟨?_, hN.2.1, fun i w hi => ?_⟩, fun i x hi => ?_, fun i x hi => ?_, hl4, hl5, (by show ks.length ≤ _; omega), fun z => by cases z⟩, by omega⟩
        · unfold fnF
          rw [if_neg ng]
          exact Or.inr ⟨cs, ks, tkN tp q, rfl, fun op cm hm => hg1.fin e4 op cm hm, ho, he⟩
        · rw [keepI _ _ (by omega) (by omega)]; exact h2
        · rw [keepI _ _ (by omega) (by omega)]; exact h9
        · rw [f4.1 _ _ (by omega), f3.1 _ _ (by omega), f2.1 _ _ (by omega), k10]
          rfl
        · rw [keepI _ _ (by omega) (by omega)]; exact hN.1
        · rw [keepL _ _ (by omega)]; exact hN.2.2 i w hi
        · rw [keepI _ _ (by omega) (by omega)]; exact hk4 i x hi
        · rw [keepI _ _ (by omega) (by omega)]; exact hk5 i x hi
      · refine Or.inl ⟨_, ?_, h4⟩
        unfold fnF
        rw [if_neg ng]
        exact Or.inl ⟨_, rfl, fun op cm hm => hg1.xfin e4 hend op cm hm⟩
end CLS
