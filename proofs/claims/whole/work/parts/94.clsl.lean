/-! the class's lines of a truce -/
def NmC (S : St) (ns : List (List Nat)) : Prop := gI S 3 3 = nI ns.length ∧ ns.length ≤ 6 ∧ ∀ i w, ns[i]? = some w → gL S 6 i = lN (bval w) ∧ okW8 w
abbrev bo (b : Bool) : Int32 := if b = true then 1 else 0
def CLs (S : St) (tp : List Nat) (p : Nat) (s : LnS) : Prop := CS S tp p s.2.2.2.2.2.2.1 ∧ gI S 3 2 = nI s.1 ∧ gI S 3 9 = bo s.2.1 ∧ gI S 3 10 = bo s.2.2.1 ∧ NmC S s.2.2.2.1 ∧ HL S 4 s.2.2.2.2.1 ∧ HL S 5 s.2.2.2.2.2.1 ∧ s.2.2.2.2.1.length = s.2.2.2.1.length ∧ s.2.2.2.2.2.1.length = s.2.2.2.1.length ∧ s.2.2.2.2.2.2.1.length ≤ p ∧ (s.2.2.1 = false → s.2.2.2.2.2.2.1 = [])
abbrev LnP : Nat → Nat → Prop := fun a k => (a = 3 ∧ k ≠ 12 ∧ 2 ≤ k) ∨ a = 4 ∨ a = 5 ∨ a = 7
abbrev LnL : Nat → Nat → Prop := fun a k => a = 6 ∨ (a = 3 ∧ k = 18)
section CLS
variable {S S' : St} {tp : List Nat} {p c : Nat} {js : List Int32}
theorem gr_ln {S S' : St} (f : Fr GrP LxL S S') : Fr LnP LnL S S' := f.weak (fun a k z => by omega) (fun a k z => Or.inr z)
theorem CS.fr {P L : Nat → Nat → Prop} (h : CS S tp p js) (f : Fr P L S S') (h1 : ∀ k, ¬ P 2 k) (h2 : ∀ k, (k = 8 ∨ (12 ≤ k ∧ k ≤ 17)) → ¬ P 3 k) (h3 : ∀ k, ¬ P 7 k) (h4 : ¬ L 3 18) : CS S' tp p js := by
  obtain ⟨a1, a2, a3, a4, a5, a6⟩ := h
  refine ⟨a1.fr f h1 (h2 12 (by decide)), a2.fr f (fun k k1 k2 => h2 k (by omega)) h4, ?_, ?_, fun i x hi => ?_, a6⟩
  · rw [f.1 _ _ (h2 13 (by decide))]; exact a3
  · rw [f.1 _ _ (h2 8 (by decide))]; exact a4
  · rw [f.1 _ _ (h3 i)]; exact a5 i x hi
set_option maxRecDepth 4096 in
theorem f32n {D k : Nat} (h : CS S tp p js) (hk : 0 < k) (hk2 : k < 16) : Sp (F (D + 1) 32 [.ref 3, .int (nI k)] S) (fun r S' => r = none ∧ Fr GrP nol S S' ∧ Flt S' (k + 16 * tkA tp p)) := by
  obtain ⟨hR, hx, h13, h8, hc, hp⟩ := h
  have hS := hR.1
  refine fw32 (w32_0 ?_)
  refine W_t (hS.k3) ?_
  refine W_t (h13) ?_
  refine W_t (hS.k3) ?_
  refine W_t (hS.k3) ?_
  refine W_s fun S1 e1 => ?_
  have f1 : Fr GrP nol S S1 := by rw [e1]; exact Fr.putI (Or.inr ⟨rfl, Or.inr (by omega)⟩)
  refine ⟨f1.mono, rfl, f1, flt_i hp hR.2.2.2.2.1 hk hk2 ?_⟩
  rw [e1, gI_pI, if_pos ⟨rfl, rfl⟩, hx.1, show (16 : Int32) = nI 16 from rfl, pk_mul, nI_add]
set_option maxRecDepth 4096 in
theorem f36 {D : Nat} {ns : List (List Nat)} (h : CS S tp p js) (hN : NmC S ns) : Sp (F (D + 8) 36 [.ref 3] S) (fun r S' => ∃ v, r = some (.long v) ∧ Fr GrP LxL S S' ∧ ((tkC tp p = 256 ∧ tkW tp p ∉ ns ∧ v = lN (bval (tkW tp p)) ∧ CS S' tp (tkN tp p) js) ∨ (tkC tp p ≠ 256 ∧ Flt S' (1 + 16 * tkA tp p)) ∨ (tkC tp p = 256 ∧ tkW tp p ∈ ns ∧ Flt S' (3 + 16 * tkA tp p)))) := by
  have hS := h.1.1
  have hlt := tkC_lt (tp := tp) (p := p)
  have hn6 := hN.2.1
  refine fw36 (w36_0 ?_)
  refine W_t (hS.k3) ?_
  rw [h.2.1.2.1]
  refine W_if (fun q1 => ?_) (fun q1 => ?_)
  · rw [show (256 : Int32) = nI 256 from rfl, i_eq (by omega) (by decide)] at q1
    have hw : okW8 (tkW tp p) := tkW_ok h.2.2.2.2.2 q1
    have loop : ∀ (n i : Nat) (S1 : St) (z2 : Value), n = ns.length - i → i ≤ ns.length → Fr GrP LxL S S1 → gL S1 3 18 = gL S 3 18 → ((S1 = S ∧ ∀ j w, j < i → ns[j]? = some w → w ≠ tkW tp p) ∨ (tkW tp p ∈ ns ∧ Flt S1 (3 + 16 * tkA tp p))) → WP (P36 (F (D + 7))) (1, [.ref 3, .int (nI i), z2], [], S1) (fun r S' => (gZ S ≤ gZ S' ∧ gU S ≤ gU S') ∧ ∃ v, r = some (.long v) ∧ Fr GrP LxL S S' ∧ ((tkC tp p = 256 ∧ tkW tp p ∉ ns ∧ v = lN (bval (tkW tp p)) ∧ CS S' tp (tkN tp p) js) ∨ (tkC tp p ≠ 256 ∧ Flt S' (1 + 16 * tkA tp p)) ∨ (tkC tp p = 256 ∧ tkW tp p ∈ ns ∧ Flt S' (3 + 16 * tkA tp p)))) := by
      intro n
      induction n with
      | zero =>
        intro i S1 z2 hi hi2 f1 h18 hs
        have hS1 := hS.of f1.2.2
        refine w36_1 ?_
        refine W_t (hS1.k3) ?_
        rw [f1.1 3 3 (by omega), hN.1]
        refine W_f (by rw [i_lt (by omega) (by omega)]; omega) ?_
        refine W_t (hS1.k3) ?_
        refine W_t (hS1.k3) ?_
        rcases hs with ⟨e, hs⟩ | ⟨hm, hf⟩
        · subst e
          refine W_Ve (f37c h (by omega)) ?_
          intro S2 ⟨f2, h2⟩
          refine ⟨f2.mono, _, rfl, f2, Or.inl ⟨q1, fun hm => ?_, h.2.1.2.2.2.2 q1, h2⟩⟩
          obtain ⟨j, hj⟩ := List.mem_iff_getElem?.mp hm
          have := (List.getElem?_eq_some_iff.mp hj).1
          exact hs j _ (by omega) hj rfl
        · refine W_V (f37x hS1 hf.ne) ?_
          exact ⟨f1.mono, _, rfl, f1, Or.inr (Or.inr ⟨q1, hm, hf⟩)⟩
      | succ n ih =>
        intro i S1 z2 hi hi2 f1 h18 hs
        have hS1 := hS.of f1.2.2
        obtain ⟨w, hwi⟩ : ∃ w, ns[i]? = some w := ⟨_, List.getElem?_eq_getElem (show i < ns.length by omega)⟩
        obtain ⟨g1, g2⟩ := hN.2.2 i w hwi
        refine w36_1 ?_
        refine W_t (hS1.k3) ?_
        rw [f1.1 3 3 (by omega), hN.1]
        refine W_t (by rw [i_lt (by omega) (by omega)]; omega) ?_
        refine W_t (hS1.k3) ?_
        rw [hS1.r3_6]
        refine W_t (⟨hS1.k6, by rw [hS1.n6]; exact inB_n (by omega) (by decide)⟩) ?_
        refine W_t (hS1.k3) ?_
        rw [nI_clamp (by omega), f1.2.1 6 i (by omega), g1, h18, h.2.1.2.2.2.2 q1]
        have two : ∀ S2 : St, Fr GrP LxL S S2 → gL S2 3 18 = gL S 3 18 → ((S2 = S ∧ ∀ j w, j < i + 1 → ns[j]? = some w → w ≠ tkW tp p) ∨ (tkW tp p ∈ ns ∧ Flt S2 (3 + 16 * tkA tp p))) → WP (P36 (F (D + 7))) (2, [.ref 3, .int (nI i), z2], [], S2) (fun r S' => (gZ S ≤ gZ S' ∧ gU S ≤ gU S') ∧ ∃ v, r = some (.long v) ∧ Fr GrP LxL S S' ∧ ((tkC tp p = 256 ∧ tkW tp p ∉ ns ∧ v = lN (bval (tkW tp p)) ∧ CS S' tp (tkN tp p) js) ∨ (tkC tp p ≠ 256 ∧ Flt S' (1 + 16 * tkA tp p)) ∨ (tkC tp p = 256 ∧ tkW tp p ∈ ns ∧ Flt S' (3 + 16 * tkA tp p)))) := by
          intro S2 f2 g18 hs2
          refine w36_2 ?_
          show WP _ _ _
          rw [nI_1]
          exact ih (i + 1) S2 z2 (by omega) (by omega) f2 g18 hs2
        refine W_if (fun q2 => ?_) (fun q2 => ?_)
        · rw [lg_cmp_eq, bval_eq g2 hw] at q2
          have hm : tkW tp p ∈ ns := by rw [← q2]; exact List.mem_of_getElem? hwi
          refine W_t (hS1.k3) ?_
          rcases hs with ⟨e, hs⟩ | ⟨_, hf⟩
          · subst e
            refine W_Ve (f32n (k := 3) h (by decide) (by decide)) ?_
            intro S2 ⟨f2, h2⟩
            exact two S2 (f2.weak (fun _ _ z => z) (fun _ _ z => z.elim)) (f2.2.1 3 18 (fun z => z)) (Or.inr ⟨hm, h2⟩)
          · refine W_V (f32x hS1 hf.ne) ?_
            exact two S1 f1 h18 (Or.inr ⟨hm, hf⟩)
        · rw [lg_cmp_eq, bval_eq g2 hw] at q2
          refine two S1 f1 h18 ?_
          rcases hs with ⟨e, hs⟩ | hs
          · refine Or.inl ⟨e, fun j w' hj hjw => ?_⟩
            by_cases z : j = i
            · rw [z, hwi] at hjw
              rw [← Option.some.inj hjw]
              exact q2
            · exact hs j w' (by omega) hjw
          · exact Or.inr hs
    exact loop _ 0 S _ rfl (Nat.zero_le _) Fr.rf rfl (Or.inl ⟨rfl, fun j w hj => absurd hj (by omega)⟩)
  · rw [show (256 : Int32) = nI 256 from rfl, i_eq (by omega) (by decide)] at q1
    refine W_t (hS.k3) ?_
    refine W_Ve (f32 (k := 1) h (by decide) (by decide)) ?_
    intro S1 ⟨f1, h1⟩
    exact ⟨f1.mono, _, rfl, f1, Or.inr (Or.inl ⟨q1, h1⟩)⟩
end CLS
