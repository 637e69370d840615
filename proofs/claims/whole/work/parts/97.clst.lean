/-! the class's reader over a whole text -/
abbrev RdF : Nat → Nat → Prop := fun a _ => 3 ≤ a ∧ a ≤ 7
section CLS
variable {S S' : St} {tp : List Nat} {p c : Nat}
/-- the end of the lines -/
abbrev LnQ (tp : List Nat) (S0 : St) (q : Nat) (s : LnS) : Option Value → St → Prop := fun r S' => Fr ReP LnL S0 S' ∧ ∃ res n, lnsF tp n q s res ∧ match res with
  | .inl f => r = some (.int (nI f)) ∧ 0 < f ∧ f < 2 ^ 31
  | .inr s' => r = some (.int 0) ∧ (∃ q', CLs S' tp q' s') ∧ gI S' 3 0 = gI S0 3 0 ∧ gI S' 3 1 = gI S0 3 1
set_option maxRecDepth 4096 in
theorem f21_loop {D : Nat} {S0 : St} {x2 : Int32} (hS0 : ShC S0) (hln : tp.length ≤ 1000) : ∀ (n i q : Nat) (s : LnS) (S : St), tp.length - q ≤ n → i ≤ q → Fr ReP LnL S0 S → gI S 3 0 = gI S0 3 0 → gI S 3 1 = gI S0 3 1 → CLs S tp q s → WP (P21 (F (D + 38))) (1, [.ref 3, .ref 2, .int x2, .int (nI i)], [], S) (LnQ tp S0 q s) := by
  intro n
  have over : ∀ (i q : Nat) (s : LnS) (S : St), Fr ReP LnL S0 S → gI S 3 0 = gI S0 3 0 → gI S 3 1 = gI S0 3 1 → CLs S tp q s → tkC tp q = 259 → WP (P21 (F (D + 38))) (1, [.ref 3, .ref 2, .int x2, .int (nI i)], [], S) (LnQ tp S0 q s) := by
    intro i q s S f k0 k1 h ec
    have hS := hS0.of f.2.2
    have three : WP (P21 (F (D + 38))) (3, [.ref 3, .ref 2, .int x2, .int (nI i)], [], S) (LnQ tp S0 q s) := by
      refine w21_3 ?_
      refine W_t (hS.k3) ?_
      refine ⟨f, .inr s, 1, ?_, by rw [h.1.2.2.1], ⟨q, h⟩, k0, k1⟩
      unfold lnsF
      rw [if_pos ec]
    refine w21_1 ?_
    refine W_if (fun z => ?_) (fun z => ?_)
    · refine W_t (hS.k3) ?_
      refine W_t (h.1.2.2.1) ?_
      refine W_t (hS.k3) ?_
      refine W_t (by rw [h.1.2.1.2.1, ec]; rfl) ?_
      exact three
    · exact three
  -- from a fault on
  have flt : ∀ (i q : Nat) (s : LnS) (S : St) (f : Nat), Fr ReP LnL S0 S → Flt S f → tkC tp q ≠ 259 → lnF tp q s (.inl f) → WP (P21 (F (D + 38))) (2, [.ref 3, .ref 2, .int x2, .int (nI i)], [], S) (LnQ tp S0 q s) := by
    intro i q s S f f1 hf ne hl
    have hS := hS0.of f1.2.2
    have three : WP (P21 (F (D + 38))) (3, [.ref 3, .ref 2, .int x2, .int (nI i + 1)], [], S) (LnQ tp S0 q s) := by
      refine w21_3 ?_
      refine W_t (hS.k3) ?_
      refine ⟨f1, .inl f, 1, ?_, by rw [hf.1], hf.2.1, hf.2.2⟩
      unfold lnsF
      rw [if_neg ne]
      exact Or.inl ⟨f, hl, rfl⟩
    refine w21_2 ?_
    show WP _ _ _
    refine w21_1 ?_
    refine W_if (fun z => ?_) (fun z => ?_)
    · refine W_t (hS.k3) ?_
      refine W_f (hf.ne) ?_
      exact three
    · exact three
  induction n with
  | zero =>
    intro i q s S hq hi f k0 k1 h
    exact over i q s S f k0 k1 h (tkC_n (by omega))
  | succ n ih =>
    intro i q s S hq hi f k0 k1 h
    by_cases ec : tkC tp q = 259
    · exact over i q s S f k0 k1 h ec
    have hS := hS0.of f.2.2
    have hC := h.1
    have hlt := tkC_lt (tp := tp) (p := q)
    have hqn := hC.2.2.2.2.2
    have hq2 : q < tp.length := by
      by_cases z : q < tp.length
      · exact z
      · exact absurd (tkC_n (by omega)) ec
    have next : ∀ (q' : Nat) (s' : LnS) (S1 : St), Fr ReP LnL S S1 → gI S1 3 0 = gI S 3 0 → gI S1 3 1 = gI S 3 1 → lnF tp q s (.inr (q', s')) → CLs S1 tp q' s' → q < q' → WP (P21 (F (D + 38))) (2, [.ref 3, .ref 2, .int x2, .int (nI i)], [], S1) (LnQ tp S0 q s) := by
      intro q' s' S1 f1 g0 g1 hl h1 hlt
      refine w21_2 ?_
      show WP _ _ _
      rw [nI_1]
      refine WP.mono (ih (i + 1) q' s' S1 (by omega) (by omega) (f.tr f1) (g0.trans k0) (g1.trans k1) h1) ?_
      intro r S2 ⟨a1, res, m, a2, a3⟩
      refine ⟨a1, res, m + 1, ?_, a3⟩
      unfold lnsF
      rw [if_neg ec]
      exact Or.inr ⟨q', s', hl, a2⟩
    refine w21_1 ?_
    refine W_t (by rw [show (1000 : Int32) = nI 1000 from rfl, i_lt (by omega) (by decide)]; omega) ?_
    refine W_t (hS.k3) ?_
    refine W_t (hC.2.2.1) ?_
    refine W_t (hS.k3) ?_
    rw [hC.2.1.2.1]
    refine W_f (by rw [show (259 : Int32) = nI 259 from rfl, i_eq (by omega) (by decide)]; exact ec) ?_
    refine W_t (hS.k3) ?_
    rw [show (129 : Int32) = nI 129 from rfl, show (130 : Int32) = nI 130 from rfl, show (131 : Int32) = nI 131 from rfl]
    refine W_if (fun a1 => ?_) (fun a1 => ?_)
    · rw [i_eq (by omega) (by decide)] at a1
      refine W_t (hS.k3) ?_
      refine W_Ve (f23 (D := D + 29) h a1) ?_
      intro S1 ⟨f1, h1⟩
      have hl : ∀ r, r = stF tp q s → lnF tp q s r := fun r e => by unfold lnF; rw [if_pos a1]; exact e
      cases e : stF tp q s with
      | inl f' =>
        rw [e] at h1
        exact flt i q s S1 f' (f.tr (ln_re f1)) h1 ec (hl _ e.symm)
      | inr z =>
        obtain ⟨q', s'⟩ := z
        rw [e] at h1
        exact next q' s' S1 (ln_re f1) (f1.1 _ _ (by omega)) (f1.1 _ _ (by omega)) (hl _ e.symm) h1.1 h1.2
    rw [i_eq (by omega) (by decide)] at a1
    refine W_if (fun a2 => ?_) (fun a2 => ?_)
    · rw [i_eq (by omega) (by decide)] at a2
      refine W_t (hS.k3) ?_
      refine W_Ve (f24 (D := D + 29) h a2) ?_
      intro S1 ⟨f1, h1⟩
      have hl : ∀ r, r = gtF tp q s → lnF tp q s r := fun r e => by unfold lnF; rw [if_neg a1, if_pos a2]; exact e
      cases e : gtF tp q s with
      | inl f' =>
        rw [e] at h1
        exact flt i q s S1 f' (f.tr (ln_re f1)) h1 ec (hl _ e.symm)
      | inr z =>
        obtain ⟨q', s'⟩ := z
        rw [e] at h1
        exact next q' s' S1 (ln_re f1) (f1.1 _ _ (by omega)) (f1.1 _ _ (by omega)) (hl _ e.symm) h1.1 h1.2
    rw [i_eq (by omega) (by decide)] at a2
    refine W_if (fun a3 => ?_) (fun a3 => ?_)
    · rw [i_eq (by omega) (by decide)] at a3
      refine W_t (hS.k3) ?_
      refine W_Ve (f25 h a3) ?_
      intro S1 ⟨f1, h1⟩
      have hl : ∀ r, fnF tp q s r → lnF tp q s r := fun r e => by unfold lnF; rw [if_neg a1, if_neg a2, if_pos a3]; exact e
      rcases h1 with ⟨f', e, h1⟩ | ⟨q', s', e, h1, h2⟩
      · exact flt i q s S1 f' (f.tr (ln_re f1)) h1 ec (hl _ e)
      · exact next q' s' S1 (ln_re f1) (f1.1 _ _ (by omega)) (f1.1 _ _ (by omega)) (hl _ e) h1 h2
    rw [i_eq (by omega) (by decide)] at a3
    refine W_t (hS.k3) ?_
    refine W_Ve (f32 (k := 1) hC (by decide) (by decide)) ?_
    intro S1 ⟨f1, h1⟩
    refine flt i q s S1 _ (f.tr (gr_re f1)) h1 ec ?_
    unfold lnF
    rw [if_neg a1, if_neg a2, if_neg a3]
set_option maxRecDepth 4096 in
theorem f21 {D : Nat} (hS : ShC S) (hT : HL S 2 tp) (hln : tp.length ≤ 1000) (hv : ∀ v, v ∈ tp → v = 10 ∨ (32 ≤ v ∧ v ≤ 126)) : Sp (F (D + 39) 21 [.ref 3, .ref 2, .int (nI tp.length)] S) (fun r S' => Fq RdF S S' ∧ ∃ res, txF tp res ∧ match res with
    | .inl f => r = some (.int (nI f)) ∧ 0 < f ∧ f < 2 ^ 31
    | .inr (w, hh, s) => r = some (.int 0) ∧ (∃ q, CLs S' tp q s) ∧ gI S' 3 0 = nI w ∧ gI S' 3 1 = nI hh) := by
  refine fw21 (w21_0 ?_)
  refine W_t (hS.k3) ?_
  refine W_s fun S1 e1 => ?_
  have f1 : Fq RdF S S1 := by rw [e1]; exact Fq.pR (by decide)
  have hS1 : ShC S1 := by
    refine ShC.fq (P := fun a k => a = 3 ∧ k = 11) hS (by rw [e1]; exact Fq.pR ⟨rfl, rfl⟩) (by decide)
  have r1 : gR S1 3 11 = 2 := by rw [e1, gR_pR, if_pos ⟨rfl, rfl⟩]
  have t1 : HL S1 2 tp := fun i v hi => by rw [e1, gI_pR]; exact hT i v hi
  clear e1
  refine W_t (hS1.k3) ?_
  refine W_s fun S2 e2 => ?_
  refine W_t (by rw [e2]; exact hS1.k3) ?_
  refine W_s fun S3 e3 => ?_
  refine W_t (by rw [e3, e2]; exact hS1.k3) ?_
  refine W_s fun S4 e4 => ?_
  refine W_t (by rw [e4, e3, e2]; exact hS1.k3) ?_
  refine W_s fun S5 e5 => ?_
  refine W_t (by rw [e5, e4, e3, e2]; exact hS1.k3) ?_
  refine W_s fun S6 e6 => ?_
  refine W_t (by rw [e6, e5, e4, e3, e2]; exact hS1.k3) ?_
  refine W_s fun S7 e7 => ?_
  refine W_t (⟨by rw [e7, e6, e5, e4, e3, e2]; exact hS1.k3, Or.inl rfl⟩) ?_
  refine W_s fun S8 e8 => ?_
  refine W_t (⟨by rw [e8, e7, e6, e5, e4, e3, e2]; exact hS1.k3, Or.inl rfl⟩) ?_
  refine W_s fun S9 e9 => ?_
  have f9 : Fr (fun a k => a = 3) nol S1 S9 := by
    rw [e9, e8, e7, e6, e5, e4, e3, e2]
    have pu : ∀ (S : St) (k : Nat) (v : Int32), Fr (fun a k => a = 3) nol S (pI S 3 k v) := fun _ _ _ => Fr.putI rfl
    exact (((((((pu _ _ _).tr (pu _ _ _)).tr (pu _ _ _)).tr (pu _ _ _)).tr (pu _ _ _)).tr (pu _ _ _)).tr (pu _ _ _)).tr (pu _ _ _)
  have hS9 := hS1.of f9.2.2
  have k12 : gI S9 3 12 = nI tp.length := by rw [e9, e8, e7, e6, e5, e4, e3, e2]; rfl
  have k13 : gI S9 3 13 = 0 := by rw [e9, e8, e7, e6, e5, e4, e3, e2]; rfl
  have k15 : gI S9 3 15 = nI 0 := by rw [e9, e8, e7, e6, e5, e4, e3, e2]; rfl
  have k2 : gI S9 3 2 = nI 0 := by rw [e9, e8, e7, e6, e5, e4, e3, e2]; rfl
  have k3 : gI S9 3 3 = nI 0 := by rw [e9, e8, e7, e6, e5, e4, e3, e2]; rfl
  have k8 : gI S9 3 8 = nI 0 := by rw [e9, e8, e7, e6, e5, e4, e3, e2]; rfl
  have k9 : gI S9 3 9 = 0 := by rw [e9, e8, e7, e6, e5, e4, e3, e2]; rfl
  have k10 : gI S9 3 10 = 0 := by rw [e9, e8, e7, e6, e5, e4, e3, e2]; rfl
  clear e9 e8 e7 e6 e5 e4 e3 e2
  have hR9 : Rdr S9 tp := ⟨hS9, by rw [f9.R]; exact r1, k12, fun i v hi => by rw [f9.1 _ _ (by omega)]; exact t1 i v hi, hln, hv⟩
  have f09 : Fq RdF S S9 := f1.tr (f9.q (fun a k z => by rcases z with z | z; exact ⟨by omega, by omega⟩; exact z.elim))
  refine W_t (hS9.k3) ?_
  refine W_Ve (f37 (d := D + 31) (p := 0) hR9 k13 k15 (Nat.zero_le _)) ?_
  intro S10 ⟨f10, h10⟩
  have hS10 := hS9.of f10.2.2
  have c10' : CS S10 tp 0 [] := ⟨hR9.fr f10 (fun k z => absurd z.1 (by decide)) (fun z => absurd z.2.1 (by decide)), h10, by rw [f10.1 _ _ (by omega)]; exact k13, by rw [f10.1 _ _ (by omega)]; exact k8, fun i x hi => (by cases hi), Nat.zero_le _⟩
  refine W_t (hS10.k3) ?_
  refine W_Ve (f22 (D := D + 29) c10') ?_
  intro S11 ⟨f11, h11⟩
  have hS11 := hS10.of f11.2.2
  have f011 : Fq RdF S S11 := (f09.tr (f10.q (fun a k z => by rcases z with z | z <;> exact ⟨by omega, by omega⟩))).tr (f11.q (fun a k z => by rcases z with z | z <;> exact ⟨by omega, by omega⟩))
  show WP _ _ _
  cases e : wlF tp with
  | inl f =>
    rw [e] at h11
    have fin : WP (P21 (F (D + 38))) (3, [.ref 3, .ref 2, .int (nI tp.length), .int 0], [], S11) (fun r S' => (gZ S ≤ gZ S' ∧ gU S ≤ gU S') ∧ Fq RdF S S' ∧ ∃ res, txF tp res ∧ match res with
        | .inl f => r = some (.int (nI f)) ∧ 0 < f ∧ f < 2 ^ 31
        | .inr (w, hh, s) => r = some (.int 0) ∧ (∃ q, CLs S' tp q s) ∧ gI S' 3 0 = nI w ∧ gI S' 3 1 = nI hh) := by
      refine w21_3 ?_
      refine W_t (hS11.k3) ?_
      refine ⟨f011.mono, f011, .inl f, ?_, by rw [h11.1], h11.2.1, h11.2.2⟩
      unfold txF
      rw [e]
    refine w21_1 ?_
    refine W_t (by decide) ?_
    refine W_t (hS11.k3) ?_
    refine W_f (h11.ne) ?_
    exact fin
  | inr z =>
    obtain ⟨w, hh, q⟩ := z
    rw [e] at h11
    obtain ⟨c11, k0, k1⟩ := h11
    have g11 : ∀ k, (k = 2 ∨ k = 3 ∨ k = 9 ∨ k = 10) → gI S11 3 k = gI S9 3 k := fun k hk => by
      rw [f11.1 _ _ (by omega), f10.1 _ _ (by omega)]
    refine WP.mono (f21_loop (D := D) hS11 hln tp.length 0 q ls0 S11 (by omega) (Nat.zero_le _) Fr.rf rfl rfl ⟨c11, by rw [g11 2 (by omega)]; exact k2, by rw [g11 9 (by omega), k9]; rfl, by rw [g11 10 (by omega), k10]; rfl, ⟨by rw [g11 3 (by omega)]; exact k3, Nat.zero_le _, fun i w hi => (by cases hi)⟩, fun i x hi => (by cases hi), fun i x hi => (by cases hi), rfl, rfl, Nat.zero_le _, fun _ => rfl⟩) ?_
    intro r S12 ⟨f12, res, n, hl, hm⟩
    have f012 : Fq RdF S S12 := f011.tr (f12.q (fun a k z => by rcases z with z | z <;> exact ⟨by omega, by omega⟩))
    cases res with
    | inl f =>
      refine ⟨f012.mono, f012, .inl f, ?_, hm⟩
      unfold txF
      rw [e]
      exact ⟨n, Or.inl ⟨f, hl, rfl⟩⟩
    | inr s =>
      obtain ⟨m1, m2, m3, m4⟩ := hm
      refine ⟨f012.mono, f012, .inr (w, hh, s), ?_, m1, m2, by rw [m3]; exact k0, by rw [m4]; exact k1⟩
      unfold txF
      rw [e]
      exact ⟨n, Or.inr ⟨s, hl, rfl⟩⟩
end CLS
