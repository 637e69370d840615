section CLS
variable {tp : List Nat}
set_option maxRecDepth 4096 in
theorem f30 : ∀ (n D d : Nat) (S : St) (p : Nat) (js : List Int32), d + n = 5 → CS S tp p js → js.length ≤ p → Sp (F (D + 5 * n + 8) 30 [.ref 3, .int (nI d)] S) (PrC tp d S p js) := by
  intro n
  induction n with
  | zero =>
    intro D d S p js hd h hl
    have hS := h.1.1
    have hlt := tkC_lt (tp := tp) (p := p)
    have ed : d = 5 := by omega
    subst ed
    have three : ∀ y : Int32, ¬ (¬ isF (tkC tp p) ∧ tkC tp p ≠ 142 ∧ tkC tp p ≠ 40 ∧ tkC tp p ≠ 257) → WP (P30 (F (D + 5 * 0 + 7))) (3, [.ref 3, .int (nI 5), .int y], [], S) (fun r S' => (gZ S ≤ gZ S' ∧ gU S ≤ gU S') ∧ PrC tp 5 S p js r S') := by
      intro y hy
      refine w30_3 ?_
      refine W_f (by decide) ?_
      refine W_t (hS.k3) ?_
      refine W_Ve (f32 (k := 5) h (by decide) (by decide)) ?_
      intro S1 ⟨f1, h1⟩
      exact ⟨f1.mono, rfl, f1, Or.inl ⟨_, h1, xP_5 hy⟩⟩
    have two : ∀ y : Int32, (y = 0 ↔ ¬ isF (tkC tp p)) → ∀ z : Value, WP (P30 (F (D + 5 * 0 + 7))) (2, [.ref 3, .int (nI 5), z], [.int y], S) (fun r S' => (gZ S ≤ gZ S' ∧ gU S ≤ gU S') ∧ PrC tp 5 S p js r S') := by
      intro y hy z
      refine w30_2 ?_
      rw [h.2.1.2.1]
      refine W_if (fun q1 => ?_) (fun q1 => ?_)
      · rw [hy] at q1
        refine W_t (hS.k3) ?_
        refine W_if (fun q2 => ?_) (fun q2 => ?_)
        · rw [show (257 : Int32) = nI 257 from rfl, i_eq (by omega) (by decide)] at q2
          exact three _ (by omega)
        rw [show (257 : Int32) = nI 257 from rfl, i_eq (by omega) (by decide)] at q2
        refine W_t (hS.k3) ?_
        refine W_if (fun q3 => ?_) (fun q3 => ?_)
        · rw [show (142 : Int32) = nI 142 from rfl, i_eq (by omega) (by decide)] at q3
          exact three _ (by omega)
        rw [show (142 : Int32) = nI 142 from rfl, i_eq (by omega) (by decide)] at q3
        refine W_t (hS.k3) ?_
        refine W_if (fun q4 => ?_) (fun q4 => ?_)
        · rw [show (40 : Int32) = nI 40 from rfl, i_eq (by omega) (by decide)] at q4
          exact three _ (by omega)
        rw [show (40 : Int32) = nI 40 from rfl, i_eq (by omega) (by decide)] at q4
        refine W_t (hS.k3) ?_
        refine W_Ve (f32 (k := 1) h (by decide) (by decide)) ?_
        intro S1 ⟨f1, h1⟩
        exact ⟨f1.mono, rfl, f1, Or.inl ⟨_, h1, xP_1 ⟨q1, q3, q4, q2⟩⟩⟩
      · rw [hy] at q1
        exact three _ (fun z => q1 z.1)
    refine fw30 (w30_0 ?_)
    refine W_t (hS.k3) ?_
    rw [h.2.1.2.1, show (138 : Int32) = nI 138 from rfl, show (141 : Int32) = nI 141 from rfl]
    refine W_if (fun q1 => ?_) (fun q1 => ?_)
    · rw [i_lt (by omega) (by decide)] at q1
      show WP _ _ _
      refine w30_1 ?_
      exact two 0 ⟨fun _ z => by unfold isF at z; omega, fun _ => rfl⟩ _
    rw [i_lt (by omega) (by decide)] at q1
    refine W_t (hS.k3) ?_
    refine W_if (fun q2 => ?_) (fun q2 => ?_)
    · rw [i_lt (by decide) (by omega)] at q2
      show WP _ _ _
      refine w30_1 ?_
      exact two 0 ⟨fun _ z => by unfold isF at z; omega, fun _ => rfl⟩ _
    · rw [i_lt (by decide) (by omega)] at q2
      exact two 1 ⟨fun z => (by cases z), fun z => absurd (show isF (tkC tp p) from ⟨by omega, by omega⟩) z⟩ _
  | succ n ih =>
    intro D d S p js hd h hl
    have hS := h.1.1
    have hn := h.1.2.2.2.2.1
    have hpn := h.2.2.2.2.2
    have hlt := tkC_lt (tp := tp) (p := p)
    have hd5 : d < 5 := by omega
    rw [show D + 5 * (n + 1) + 8 = (D + 5 * n + 12) + 1 by omega]
    have hE : ∀ (S : St) (p : Nat) (js : List Int32), CS S tp p js → js.length ≤ p → Sp (F (D + 5 * n + 12) 26 [.ref 3, .int (nI (d + 1))] S) (ErC tp (d + 1) S p js) := fun S p js h hl => f26 (G := D + 5 * n) (fun S p js h hl => f27 (G := D + 5 * n) (fun S p js h hl => f28 (G := D + 5 * n) (fun S p js h hl => f29 (G := D + 5 * n) (fun S p js h hl => ih D (d + 1) S p js (by omega) h hl) h hl) h hl) h hl) h hl
    have hPt : ∀ (S : St) (p : Nat) (js : List Int32), CS S tp p js → js.length ≤ p → Sp (F (D + 5 * n + 12) 30 [.ref 3, .int (nI (d + 1))] S) (PrC tp (d + 1) S p js) := fun S p js h hl => by
      have := ih (D + 4) (d + 1) S p js (by omega) h hl
      rw [show D + 4 + 5 * n + 8 = D + 5 * n + 12 by omega] at this
      exact this
    have three : ∀ y : Int32, (y = 0 ↔ ¬ isF (tkC tp p)) → ¬ (¬ isF (tkC tp p) ∧ tkC tp p ≠ 142 ∧ tkC tp p ≠ 40 ∧ tkC tp p ≠ 257) → WP (P30 (F (D + 5 * n + 12))) (3, [.ref 3, .int (nI d), .int y], [], S) (fun r S' => (gZ S ≤ gZ S' ∧ gU S ≤ gU S') ∧ PrC tp d S p js r S') := by
      intro y hy hst
      have hgt := tkN_gt (tp := tp) (p := p) (fun e => by rw [e] at hst; exact hst (by decide))
      have hne : tkC tp p ≠ 259 := fun e => by rw [e] at hst; exact hst (by decide)
      have hle := tkN_le (tp := tp) hpn
      refine w30_3 ?_
      refine W_t (by rw [c5, i_lt (by omega) (by decide)]; exact hd5) ?_
      rw [h.2.1.2.1]
      refine W_t (hS.k3) ?_
      refine W_if (fun q1 => ?_) (fun q1 => ?_)
      · rw [show (257 : Int32) = nI 257 from rfl, i_eq (by omega) (by decide)] at q1
        have hv : tkV tp p < 10000 := by
          unfold tkC at q1
          cases hc : tp[tkA tp p]? with
          | none => rw [hc] at q1; cases q1
          | some c =>
            rw [hc] at q1
            replace q1 : (if ltr c = true then (if 8 < wh ltr tp (tkA tp p) - tkA tp p then 258 else kw (seg tp (tkA tp p) (wh ltr tp (tkA tp p)))) else if dgt c = true then (if 4 < wh dgt tp (tkA tp p) - tkA tp p then 258 else 257) else if sgn c = true then c else 258) = 257 := q1
            have hk := kw_cases (seg tp (tkA tp p) (wh ltr tp (tkA tp p)))
            have hcl := (h.1.lt hc).2.1
            by_cases z1 : ltr c = true
            · rw [if_pos z1] at q1
              split at q1 <;> omega
            · rw [if_neg z1] at q1
              by_cases z2 : dgt c = true
              · rw [if_pos z2] at q1
                exact tkV_lt hpn (by split at q1 <;> omega)
              · rw [if_neg z2] at q1
                split at q1 <;> omega
        refine W_t (hS.k3) ?_
        refine W_t (hS.k3) ?_
        rw [h.2.1.2.2.2.1 q1]
        refine W_Ve (f31 (x := nI (tkV tp p)) h (by omega)) ?_
        intro S1 ⟨f1, h1⟩
        have hS1 := h1.1.1
        refine W_t (hS1.k3) ?_
        refine W_Ve (f37c h1 hne) ?_
        intro S2 ⟨f2, h2⟩
        have e := pP_atom (tp := tp) (p := p) (d := d) (Or.inr q1) hd5
        rw [if_neg (by unfold isF; omega)] at e
        exact ⟨(f1.tr f2).mono, rfl, f1.tr f2, Or.inr ⟨tkN tp p, [nI (tkV tp p)], h2, (by show 1 + p ≤ _; omega), hd5, _, ⟨by simp, fun c hc => by rw [List.mem_singleton.mp hc]; omega⟩, e, evP_num hd5 hv⟩⟩
      rw [show (257 : Int32) = nI 257 from rfl, i_eq (by omega) (by decide)] at q1
      refine W_if (fun q2 => ?_) (fun q2 => ?_)
      · rw [hy] at q2
        refine W_t (hS.k3) ?_
        refine W_if (fun q3 => ?_) (fun q3 => ?_)
        · rw [show (142 : Int32) = nI 142 from rfl, i_eq (by omega) (by decide)] at q3
          refine W_t (hS.k3) ?_
          refine W_Ve (f37c h hne) ?_
          intro S1 ⟨f1, h1⟩
          have hS1 := h1.1.1
          refine W_t (hS1.k3) ?_
          rw [nI_1]
          refine W_Ve (hPt S1 (tkN tp p) js h1 (by omega)) ?_
          intro S2 ⟨f2, h2⟩
          have hS2 := hS1.of f2.2.2
          refine W_t (hS2.k3) ?_
          rcases h2 with ⟨f, hf, hx⟩ | ⟨r, ls, h2, hls, _, ds, ho, hg, he⟩
          · refine W_V (f31x hS2 hf.ne) ?_
            exact ⟨(f1.tr f2).mono, rfl, f1.tr f2, Or.inl ⟨f, hf, xP_not q3 hd5 hx⟩⟩
          · have hrn := h2.2.2.2.2.2
            refine W_Ve (f31 (x := -142) h2 (by rw [List.length_append]; omega)) ?_
            intro S3 ⟨f3, h3⟩
            rw [List.append_assoc] at h3
            refine ⟨((f1.tr f2).tr f3).mono, rfl, (f1.tr f2).tr f3, Or.inr ⟨r, ls ++ [-142], h3, by rw [List.length_append]; have : [(-142 : Int32)].length = 1 := rfl; omega, hd5, 30 :: ds, ⟨by simp, fun c hc => ?_⟩, pP_not q3 hd5 hg, evP_not hd5 he⟩⟩
            rcases List.mem_cons.mp hc with z | z
            · omega
            · exact ho.2 c z
        · rw [show (142 : Int32) = nI 142 from rfl, i_eq (by omega) (by decide)] at q3
          have q40 : tkC tp p = 40 := by omega
          refine W_t (hS.k3) ?_
          refine W_Ve (f37c h hne) ?_
          intro S1 ⟨f1, h1⟩
          have hS1 := h1.1.1
          refine W_t (hS1.k3) ?_
          rw [nI_1]
          refine W_Ve (hE S1 (tkN tp p) js h1 (by omega)) ?_
          intro S2 ⟨f2, h2⟩
          have hS2 := hS1.of f2.2.2
          refine W_t (hS2.k3) ?_
          rcases h2 with ⟨f, hf, hx⟩ | ⟨r, ls, h2, hls, b, ⟨_, ds, ho, hg, he⟩, hends⟩
          · refine W_V (f33x hS2 hf.ne) ?_
            exact ⟨(f1.tr f2).mono, rfl, f1.tr f2, Or.inl ⟨f, hf, xP_par q40 hd5 hx⟩⟩
          · have hrn := h2.2.2.2.2.2
            refine W_Ve (f33 (c := 41) h2 (by decide)) ?_
            intro S3 ⟨f3, h3⟩
            have f13 := (f1.tr f2).tr f3
            rcases h3 with ⟨e41, h3⟩ | ⟨e41, h3⟩
            · have hgt2 := tkN_gt (tp := tp) (p := r) (by omega)
              refine ⟨f13.mono, rfl, f13, Or.inr ⟨tkN tp r, ls, h3, by omega, hd5, 28 :: (ds ++ [29]), ⟨by simp, fun c hc => ?_⟩, pP_par q40 hd5 hg e41, evP_par hd5 he⟩⟩
              rcases List.mem_cons.mp hc with z | z
              · omega
              · rcases List.mem_append.mp z with y | y
                · exact ho.2 c y
                · rw [List.mem_singleton.mp y]; decide
            · exact ⟨f13.mono, rfl, f13, Or.inl ⟨_, h3, xP_par2 q40 hd5 hg e41 hends⟩⟩
      · rw [hy, Classical.not_not] at q2
        refine W_t (hS.k3) ?_
        refine W_t (hS.k3) ?_
        refine W_Ve (f31 (x := -(nI (tkC tp p))) h (by omega)) ?_
        intro S1 ⟨f1, h1⟩
        have hS1 := h1.1.1
        refine W_t (hS1.k3) ?_
        refine W_Ve (f37c h1 hne) ?_
        intro S2 ⟨f2, h2⟩
        have e := pP_atom (tp := tp) (p := p) (d := d) (Or.inl q2) hd5
        rw [if_pos q2] at e
        exact ⟨(f1.tr f2).mono, rfl, f1.tr f2, Or.inr ⟨tkN tp p, [-(nI (tkC tp p))], h2, (by show 1 + p ≤ _; omega), hd5, _, ⟨by simp, fun c hc => by rw [List.mem_singleton.mp hc]; omega⟩, e, evP_fact hd5 q2⟩⟩
    have two : ∀ y : Int32, (y = 0 ↔ ¬ isF (tkC tp p)) → ∀ z : Value, WP (P30 (F (D + 5 * n + 12))) (2, [.ref 3, .int (nI d), z], [.int y], S) (fun r S' => (gZ S ≤ gZ S' ∧ gU S ≤ gU S') ∧ PrC tp d S p js r S') := by
      intro y hy z
      refine w30_2 ?_
      rw [h.2.1.2.1]
      refine W_if (fun q1 => ?_) (fun q1 => ?_)
      · have q1' := hy.mp q1
        refine W_t (hS.k3) ?_
        refine W_if (fun q2 => ?_) (fun q2 => ?_)
        · rw [show (257 : Int32) = nI 257 from rfl, i_eq (by omega) (by decide)] at q2
          exact three _ hy (by omega)
        rw [show (257 : Int32) = nI 257 from rfl, i_eq (by omega) (by decide)] at q2
        refine W_t (hS.k3) ?_
        refine W_if (fun q3 => ?_) (fun q3 => ?_)
        · rw [show (142 : Int32) = nI 142 from rfl, i_eq (by omega) (by decide)] at q3
          exact three _ hy (by omega)
        rw [show (142 : Int32) = nI 142 from rfl, i_eq (by omega) (by decide)] at q3
        refine W_t (hS.k3) ?_
        refine W_if (fun q4 => ?_) (fun q4 => ?_)
        · rw [show (40 : Int32) = nI 40 from rfl, i_eq (by omega) (by decide)] at q4
          exact three _ hy (by omega)
        rw [show (40 : Int32) = nI 40 from rfl, i_eq (by omega) (by decide)] at q4
        refine W_t (hS.k3) ?_
        refine W_Ve (f32 (k := 1) h (by decide) (by decide)) ?_
        intro S1 ⟨f1, h1⟩
        exact ⟨f1.mono, rfl, f1, Or.inl ⟨_, h1, xP_1 ⟨q1', q3, q4, q2⟩⟩⟩
      · exact three _ hy (fun z => q1 (hy.mpr z.1))
    refine fw30 (w30_0 ?_)
    refine W_t (hS.k3) ?_
    rw [h.2.1.2.1, show (138 : Int32) = nI 138 from rfl, show (141 : Int32) = nI 141 from rfl]
    refine W_if (fun q1 => ?_) (fun q1 => ?_)
    · rw [i_lt (by omega) (by decide)] at q1
      show WP _ _ _
      refine w30_1 ?_
      exact two 0 ⟨fun _ z => by unfold isF at z; omega, fun _ => rfl⟩ _
    rw [i_lt (by omega) (by decide)] at q1
    refine W_t (hS.k3) ?_
    refine W_if (fun q2 => ?_) (fun q2 => ?_)
    · rw [i_lt (by decide) (by omega)] at q2
      show WP _ _ _
      refine w30_1 ?_
      exact two 0 ⟨fun _ z => by unfold isF at z; omega, fun _ => rfl⟩ _
    · rw [i_lt (by decide) (by omega)] at q2
      exact two 1 ⟨fun z => (by cases z), fun z => absurd (show isF (tkC tp p) from ⟨by omega, by omega⟩) z⟩ _
set_option maxRecDepth 4096 in
/-- E at depth 0 -/
theorem f26z {D : Nat} {S : St} {p : Nat} {js : List Int32} (h : CS S tp p js) (hl : js.length ≤ p) : Sp (F (D + 37) 26 [.ref 3, .int 0] S) (ErC tp 0 S p js) := by
  have hE : ∀ (S : St) (p : Nat) (js : List Int32), CS S tp p js → js.length ≤ p → Sp (F (D + 25 + 12) 26 [.ref 3, .int (nI 0)] S) (ErC tp 0 S p js) := fun S p js h hl => f26 (G := D + 25) (fun S p js h hl => f27 (G := D + 25) (fun S p js h hl => f28 (G := D + 25) (fun S p js h hl => f29 (G := D + 25) (fun S p js h hl => f30 5 D 0 S p js rfl h hl) h hl) h hl) h hl) h hl
  exact hE S p js h hl
end CLS
