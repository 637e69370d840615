/-! the reference over a whole text -/
section REF
variable {S S' : St} {tp : List Nat} {p c : Nat}
abbrev RaQ (tp : List Nat) (S0 : St) (res : Nat ⊕ LnS) : Option Value → St → Prop := fun v S' => Fr RlP RlL S0 S' ∧ gI S' 41 1 = gI S0 41 1 ∧ gI S' 42 1 = gI S0 42 1 ∧ match res with
  | .inl f => v = some (.int 0) ∧ gI S' 39 9 = nI f
  | .inr s' => v = some (.int 1) ∧ ∃ q, RLs S' tp q s'
set_option maxRecDepth 4096 in
theorem f135_loop {D : Nat} {S0 : St} {res : Nat ⊕ LnS} : ∀ (n p : Nat) (s : LnS) (S : St) (z1 : Value), lnsF tp n p s res → Fr RlP RlL S0 S → gI S 41 1 = gI S0 41 1 → gI S 42 1 = gI S0 42 1 → RLs S tp p s → WP (P135 (F (D + 4))) (1, [.ref 39, z1], [], S) (RaQ tp S0 res) := by
  intro n
  induction n with
  | zero => intro p s S z1 h; exact h.elim
  | succ n ih =>
    intro p s S z1 hl f0 k1 k2 h
    have hT := h.1
    have hM := hT.1.1
    have hx := hT.2.1
    have hk := tkK_lt (c := tkC tp p)
    unfold lnsF at hl
    refine w135_1 ?_
    refine W_t (hM.k39) ?_
    rw [hx.2.2.1]
    refine W_if (fun q0 => ?_) (fun q0 => ?_)
    · rw [c0, i_eq (by omega) (by decide), tkK_0] at q0
      rw [if_pos q0] at hl
      subst hl
      refine W_t (Or.inr rfl) ?_
      exact ⟨f0, k1, k2, rfl, p, h⟩
    rw [c0, i_eq (by omega) (by decide), tkK_0] at q0
    rw [if_neg q0] at hl
    have two : ∀ (r : Nat ⊕ (Nat × LnS)) (y : Int32) (S1 : St), lnF tp p s r → (match r with | .inl f => res = .inl f | .inr (q, s') => lnsF tp n q s' res) → RlQ tp S p r (some (.int y)) S1 → WP (P135 (F (D + 4))) (2, [.ref 39, z1], [.int y], S1) (RaQ tp S0 res) := by
      intro r y S1 _ hm hq
      obtain ⟨f1, g1, g2, hq⟩ := hq
      refine w135_2 ?_
      cases r with
      | inl f =>
        obtain ⟨ey, g9⟩ := hq
        cases ey
        replace hm : res = .inl f := hm
        subst hm
        refine W_t (rfl) ?_
        refine W_t (Or.inl rfl) ?_
        exact ⟨f0.tr f1, g1.trans k1, g2.trans k2, rfl, g9⟩
      | inr z =>
        obtain ⟨q, s'⟩ := z
        obtain ⟨ey, h1⟩ := hq
        cases ey
        refine W_f (by decide) ?_
        exact ih q s' S1 _ hm (f0.tr f1) (g1.trans k1) (g2.trans k2) h1
    have hz : ∃ r : Nat ⊕ (Nat × LnS), lnF tp p s r ∧ (match r with | .inl f => res = .inl f | .inr (q, s') => lnsF tp n q s' res) := by
      rcases hl with ⟨f, h1, e⟩ | ⟨q, s', h1, h2⟩
      · exact ⟨.inl f, h1, e⟩
      · exact ⟨.inr (q, s'), h1, h2⟩
    obtain ⟨r, hr, hm⟩ := hz
    have hr' := hr
    unfold lnF at hr
    refine W_t (hM.k39) ?_
    refine W_I (f118 hM hx (i := 1) (by decide) (by decide)) ?_
    refine W_if (fun q1 => ?_) (fun q1 => ?_)
    · rw [bi_0] at q1
      rw [if_neg (by omega)] at hr
      refine W_t (hM.k39) ?_
      refine W_I (f118 hM hx (i := 2) (by decide) (by decide)) ?_
      refine W_if (fun q2 => ?_) (fun q2 => ?_)
      · rw [bi_0] at q2
        rw [if_neg (by omega)] at hr
        refine W_t (hM.k39) ?_
        refine W_I (f118 hM hx (i := 3) (by decide) (by decide)) ?_
        refine W_if (fun q3 => ?_) (fun q3 => ?_)
        · rw [bi_0] at q3
          rw [if_neg (by omega)] at hr
          refine W_t (hM.k39) ?_
          refine W_Ie (hT.bad (k := 1)) ?_
          intro v S1 ⟨ev, f1, h1⟩
          subst ev
          refine two r _ S1 hr' hm ?_
          subst hr
          exact ⟨nx_rl f1, f1.1 _ _ (by omega), f1.1 _ _ (by omega), rfl, h1⟩
        · rw [bi_0, Classical.not_not] at q3
          rw [if_pos (by omega)] at hr
          refine W_t (hM.k39) ?_
          obtain ⟨v, S1, e1, h1⟩ := f134 (D := D) h q3 hr
          have : ∃ y, v = some (.int y) := by
            obtain ⟨_, _, _, h1⟩ := h1
            cases r with
            | inl f => exact ⟨_, h1.1⟩
            | inr z => exact ⟨_, h1.1⟩
          obtain ⟨y, ev⟩ := this
          subst ev
          refine W_I (e1) ?_
          exact two r y S1 hr' hm h1
      · rw [bi_0, Classical.not_not] at q2
        rw [if_pos (by omega)] at hr
        refine W_t (hM.k39) ?_
        obtain ⟨v, S1, e1, h1⟩ := f133 (D := D) h q2
        rw [← hr] at h1
        have : ∃ y, v = some (.int y) := by
          obtain ⟨_, _, _, h1⟩ := h1
          cases r with
          | inl f => exact ⟨_, h1.1⟩
          | inr z => exact ⟨_, h1.1⟩
        obtain ⟨y, ev⟩ := this
        subst ev
        refine W_I (e1) ?_
        exact two r y S1 hr' hm h1
    · rw [bi_0, Classical.not_not] at q1
      rw [if_pos (by omega)] at hr
      refine W_t (hM.k39) ?_
      obtain ⟨v, S1, e1, h1⟩ := f132 (D := D) h q1
      rw [← hr] at h1
      have : ∃ y, v = some (.int y) := by
        obtain ⟨_, _, _, h1⟩ := h1
        cases r with
        | inl f => exact ⟨_, h1.1⟩
        | inr z => exact ⟨_, h1.1⟩
      obtain ⟨y, ev⟩ := this
      subst ev
      refine W_I (e1) ?_
      exact two r y S1 hr' hm h1
abbrev RaP : Nat → Nat → Prop := fun a k => RlP a k ∨ (a = 39 ∧ (k = 1 ∨ k = 3))
abbrev RfQ (tp : List Nat) (S : St) (res : Nat ⊕ (Nat × Nat × LnS)) : Option Value → St → Prop := fun v S' => Fr RaP RlL S S' ∧ gI S' 39 1 = 0 ∧ match res with
    | .inl f => v = some (.int 0) ∧ gI S' 39 9 = nI f
    | .inr (w, hh, s) => v = some (.int 1) ∧ (∃ q, RLs S' tp q s) ∧ gI S' 41 1 = nI w ∧ gI S' 42 1 = nI hh
theorem rl_ra (f : Fr RlP RlL S S') : Fr RaP RlL S S' := f.weak (fun a k z => Or.inl z) (fun _ _ z => z)
set_option maxRecDepth 4096 in
theorem f135 {D : Nat} {res : Nat ⊕ (Nat × Nat × LnS)} (hM : ShM S) (ht : TapR S tp) (hv : ∀ v, v ∈ tp → v = 10 ∨ (32 ≤ v ∧ v ≤ 126)) (hr : txF tp res) : Sp (F (D + 5) 135 [.ref 39] S) (RfQ tp S res) := by
  obtain ⟨t1, t2, t3⟩ := ht
  refine fw135 (w135_0 ?_)
  simp only [sl, si, sj, gK_pI, gN_pI, gR_pI, hM.k39, hM.r39_12, hM.k43, hM.n43, hM.r39_13, hM.k44, hM.n44, hM.r39_17, hM.k48, hM.n48, hM.r39_18, hM.k49, hM.n49, z0c, eq_self, if_true, Nat.reduceAdd, true_and, n1c]
  refine W_t (by decide) ?_
  refine W_t (by decide) ?_
  refine W_t (by decide) ?_
  refine W_t (by decide) ?_
  refine W_t (by decide) ?_
  refine W_t (by decide) ?_
  have pu : ∀ (S : St) (a k : Nat) (v : Int32), RaP a k → Fr RaP RlL S (pI S a k v) := fun _ _ _ _ h => Fr.putI h
  generalize e10 : (pI (pI (pI (pI (pI (pI (pI (pI (pI (pI S 43 1 0) 44 1 0) 39 21 0) 39 22 0) 39 20 1000) 48 1 1000) 49 1 1000) 39 3 (gI (pI (pI (pI (pI (pI (pI (pI S 43 1 0) 44 1 0) 39 21 0) 39 22 0) 39 20 1000) 48 1 1000) 49 1 1000) 39 1)) 39 1 0) 39 4 0) = S10
  have f10 : Fr RaP RlL S S10 := by
    rw [← e10]
    exact (((((((((pu _ _ _ _ (by omega)).tr (pu _ _ _ _ (by omega))).tr (pu _ _ _ _ (by omega))).tr (pu _ _ _ _ (by omega))).tr (pu _ _ _ _ (by omega))).tr (pu _ _ _ _ (by omega))).tr (pu _ _ _ _ (by omega))).tr (pu _ _ _ _ (by omega))).tr (pu _ _ _ _ (by omega))).tr (pu _ _ _ _ (by omega))
  have hM10 := hM.of f10.2.2
  have g3 : gI S10 39 3 = nI tp.length := by rw [← e10]; exact t1
  have g4 : gI S10 39 4 = nI 0 := by rw [← e10]; rfl
  have g1 : gI S10 39 1 = 0 := by rw [← e10]; rfl
  have g43 : gI S10 43 1 = nI 0 := by rw [← e10]; rfl
  have g44 : gI S10 44 1 = nI 0 := by rw [← e10]; rfl
  have g21 : gI S10 39 21 = 0 := by rw [← e10]; rfl
  have g22 : gI S10 39 22 = 0 := by rw [← e10]; rfl
  have g20 : gI S10 39 20 = nI 1000 := by rw [← e10]; rfl
  have g48 : gI S10 48 1 = nI 1000 := by rw [← e10]; rfl
  have g49 : gI S10 49 1 = nI 1000 := by rw [← e10]; rfl
  clear e10
  have hR10 : RdM S10 tp := ⟨hM10, g3, t2.fr f10 (fun k _ z => by omega), t3, hv⟩
  obtain ⟨r11, S11, e11, er11, f11, hx11⟩ := f117 (d := D + 2) hR10 g4 (Nat.zero_le _)
  subst er11
  refine W_V (e11) ?_
  have h11 : RTk S11 tp 0 := ⟨hR10.x f11, hx11, Nat.zero_le _⟩
  have hM11 := h11.1.1
  have n11 : Fr NxP RxL S10 S11 := rx_nx f11
  -- the end of a fault
  have bad : ∀ (S1 : St) (f : Nat), Fr (fun a k => NxP a k ∨ ((a = 41 ∨ a = 42) ∧ k = 1)) RxL S10 S1 → gI S1 39 9 = nI f → wlF tp = .inl f → RfQ tp S res (some (.int 0)) S1 := by
    intro S1 f f1 g9 e
    unfold txF at hr
    rw [e] at hr
    replace hr : res = .inl f := hr
    subst hr
    exact ⟨f10.tr (f1.weak (fun a k z => by omega) (fun a k z => Or.inr z)), by rw [f1.1 _ _ (by omega)]; exact g1, rfl, g9⟩
  refine W_t (hM11.k39) ?_
  refine W_I (f118 hM11 hx11 (i := 0) (by decide) (by decide)) ?_
  refine W_if (fun q0 => ?_) (fun q0 => ?_)
  · rw [bi_0] at q0
    refine W_t (hM11.k39) ?_
    refine W_Ie (h11.bad (k := 1)) ?_
    intro v S1 ⟨ev, f1, h1⟩
    subst ev
    refine W_t (by decide) ?_
    have f01 := n11.tr f1
    have b := bad S1 _ (f01.weak (fun a k z => Or.inl z) (fun _ _ z => z)) h1 (by unfold wlF; rw [if_pos (by omega)])
    exact ⟨b.1.mono, b⟩
  rw [bi_0, Classical.not_not] at q0
  refine W_t (hM11.k39) ?_
  refine W_Ve (h11.next) ?_
  intro S12 ⟨f12, h12⟩
  have hM12 := h12.1.1
  have n12 : Fr NxP RxL S10 S12 := n11.tr (rx_nx f12)
  refine W_t (hM12.k39) ?_
  refine W_Ie (f129 (a := 2) (b := 10) h12 (by decide) (by decide)) ?_
  intro v S13 ⟨f13, h13⟩
  have hM13 := hM12.of f13.2.2
  have n13 : Fr NxP RxL S10 S13 := n12.tr f13
  rcases h13 with ⟨e13, r13, ev, h13, g35⟩ | ⟨e13, ev, g9⟩ | ⟨e13, r13, ev, g9⟩
  · subst ev
    refine W_f (by decide) ?_
    refine W_t (hM13.k39) ?_
    refine W_t (hM13.k39) ?_
    rw [hM13.r39_10]
    refine W_t (⟨hM13.k41, by rw [hM13.n41]; decide⟩) ?_
    rw [g35]
    generalize e14 : pI S13 41 1 (nI (tkV tp (tkN tp 0))) = S14
    have f14 : Fr (fun a k => a = 41 ∧ k = 1) nol S13 S14 := by rw [← e14]; exact Fr.putI ⟨rfl, rfl⟩
    have k14 : gI S14 41 1 = nI (tkV tp (tkN tp 0)) := by rw [← e14, gI_pI, if_pos ⟨rfl, rfl⟩]
    clear e14
    have hM14 := hM13.of f14.2.2
    have h14 := h13.fr f14 (fun k z => by omega) (fun k hk z => by omega) (fun z => z)
    have n14 : Fr (fun a k => NxP a k ∨ ((a = 41 ∨ a = 42) ∧ k = 1)) RxL S10 S14 := (n13.weak (fun a k z => Or.inl z) (fun _ _ z => z)).tr (f14.weak (fun a k z => by omega) (fun _ _ z => z.elim))
    refine W_t (hM13.k39) ?_
    refine W_Ie (f129 (a := 1) (b := 6) h14 (by decide) (by decide)) ?_
    intro v S15 ⟨f15, h15⟩
    have hM15 := hM14.of f15.2.2
    have n15 : Fr (fun a k => NxP a k ∨ ((a = 41 ∨ a = 42) ∧ k = 1)) RxL S10 S15 := n14.tr (f15.weak (fun a k z => Or.inl z) (fun _ _ z => z))
    rcases h15 with ⟨e15, r15, ev, h15, g35⟩ | ⟨e15, ev, g9⟩ | ⟨e15, r15, ev, g9⟩
    · subst ev
      refine W_f (by decide) ?_
      refine W_t (hM15.k39) ?_
      refine W_t (hM15.k39) ?_
      rw [hM15.r39_11]
      refine W_t (⟨hM15.k42, by rw [hM15.n42]; decide⟩) ?_
      rw [g35]
      generalize e16 : pI S15 42 1 (nI (tkV tp (tkN tp (tkN tp 0)))) = S16
      have f16 : Fr (fun a k => a = 42 ∧ k = 1) nol S15 S16 := by rw [← e16]; exact Fr.putI ⟨rfl, rfl⟩
      have k16 : gI S16 42 1 = nI (tkV tp (tkN tp (tkN tp 0))) := by rw [← e16, gI_pI, if_pos ⟨rfl, rfl⟩]
      clear e16
      have k16' : gI S16 41 1 = nI (tkV tp (tkN tp 0)) := by rw [f16.1 _ _ (by omega), f15.1 _ _ (by omega)]; exact k14
      have hM16 := hM15.of f16.2.2
      have h16 := h15.fr f16 (fun k z => by omega) (fun k hk z => by omega) (fun z => z)
      have n16 : Fr (fun a k => NxP a k ∨ ((a = 41 ∨ a = 42) ∧ k = 1)) RxL S10 S16 := n15.tr (f16.weak (fun a k z => by omega) (fun _ _ z => z.elim))
      refine W_t (hM15.k39) ?_
      refine W_Ie (f130 h16) ?_
      intro v S17 ⟨f17, h17⟩
      have n17 : Fr (fun a k => NxP a k ∨ ((a = 41 ∨ a = 42) ∧ k = 1)) RxL S10 S17 := n16.tr (f17.weak (fun a k z => Or.inl z) (fun _ _ z => z))
      rcases h17 with ⟨e17, ev, h17⟩ | ⟨e17, ev, g9⟩
      · subst ev
        refine W_f (by decide) ?_
        have ew : wlF tp = .inr (tkV tp (tkN tp 0), tkV tp (tkN tp (tkN tp 0)), tkN tp (tkN tp (tkN tp (tkN tp 0)))) := by
          unfold wlF
          rw [if_neg (by omega), if_neg (by omega), if_neg (fun z => z r13), if_neg (by omega), if_neg (fun z => z r15), if_neg (by omega)]
        have f017 : Fr RaP RlL S S17 := f10.tr (n17.weak (fun a k z => by omega) (fun a k z => Or.inr z))
        have hls : RLs S17 tp (tkN tp (tkN tp (tkN tp (tkN tp 0)))) ls0 := ⟨h17, by rw [n17.1 _ _ (by omega)]; exact g44, by rw [n17.1 _ _ (by omega), g21]; rfl, by rw [n17.1 _ _ (by omega), g22]; rfl, ⟨by rw [n17.1 _ _ (by omega)]; exact g43, Nat.zero_le _, fun i w hi => (by cases hi)⟩, fun i x hi => (by cases hi), fun i x hi => (by cases hi), rfl, rfl, by rw [n17.1 _ _ (by omega)]; exact g20, by rw [n17.1 _ _ (by omega)]; exact g48, by rw [n17.1 _ _ (by omega)]; exact g49, fun i x hi => (by cases hi), Nat.zero_le _, fun _ => rfl⟩
        unfold txF at hr
        rw [ew] at hr
        obtain ⟨n, hr⟩ := hr
        have fin : ∀ rs : Nat ⊕ LnS, lnsF tp n (tkN tp (tkN tp (tkN tp (tkN tp 0)))) ls0 rs → (∀ v S', RaQ tp S17 rs v S' → RfQ tp S res v S') → WP (P135 (F (D + 4))) (1, [.ref 39, .null], [], S17) (fun v S' => (gZ S ≤ gZ S' ∧ gU S ≤ gU S') ∧ RfQ tp S res v S') := by
          intro rs hl hq
          refine WP.mono (f135_loop n _ ls0 S17 .null hl Fr.rf rfl rfl hls) ?_
          intro v S' h
          exact ⟨(hq v S' h).1.mono, hq v S' h⟩
        rcases hr with ⟨f, hl, e⟩ | ⟨s, hl, e⟩
        · subst e
          refine fin (.inl f) hl (fun v S' h => ?_)
          obtain ⟨a1, a2, a3, a4, a5⟩ := h
          exact ⟨f017.tr (rl_ra a1), by rw [a1.1 _ _ (by omega), n17.1 _ _ (by omega)]; exact g1, a4, a5⟩
        · subst e
          refine fin (.inr s) hl (fun v S' h => ?_)
          obtain ⟨a1, a2, a3, a4, a5⟩ := h
          exact ⟨f017.tr (rl_ra a1), by rw [a1.1 _ _ (by omega), n17.1 _ _ (by omega)]; exact g1, a4, a5, by rw [a2, f17.1 _ _ (by omega)]; exact k16', by rw [a3, f17.1 _ _ (by omega)]; exact k16⟩
      · subst ev
        refine W_t (rfl) ?_
        refine W_t (by decide) ?_
        have b := bad S17 _ n17 g9 (by unfold wlF; rw [if_neg (by omega), if_neg (by omega), if_neg (fun z => z r13), if_neg (by omega), if_neg (fun z => z r15), if_pos e17])
        exact ⟨b.1.mono, b⟩
    · subst ev
      refine W_t (rfl) ?_
      refine W_t (by decide) ?_
      have b := bad S15 _ n15 g9 (by unfold wlF; rw [if_neg (by omega), if_neg (by omega), if_neg (fun z => z r13), if_pos e15])
      exact ⟨b.1.mono, b⟩
    · subst ev
      refine W_t (rfl) ?_
      refine W_t (by decide) ?_
      have b := bad S15 _ n15 g9 (by unfold wlF; rw [if_neg (by omega), if_neg (by omega), if_neg (fun z => z r13), if_neg (by omega), if_pos r15])
      exact ⟨b.1.mono, b⟩
  · subst ev
    refine W_t (rfl) ?_
    refine W_t (by decide) ?_
    have b := bad S13 _ (n13.weak (fun a k z => Or.inl z) (fun _ _ z => z)) g9 (by unfold wlF; rw [if_neg (by omega), if_pos e13])
    exact ⟨b.1.mono, b⟩
  · subst ev
    refine W_t (rfl) ?_
    refine W_t (by decide) ?_
    have b := bad S13 _ (n13.weak (fun a k z => Or.inl z) (fun _ _ z => z)) g9 (by unfold wlF; rw [if_neg (by omega), if_neg (by omega), if_pos r13])
    exact ⟨b.1.mono, b⟩
end REF
