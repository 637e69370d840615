/-! the lines of a truce -/
/-- gates, whether gates and a fine are told, names, kinds, widths, the class's code, the reference's code -/
abbrev LnS : Type := Nat × Bool × Bool × List (List Nat) × List Nat × List Nat × List Int32 × List Nat
def lst (k : Nat) : Nat := if k = 1 then 2 else 1
def mst (k : Nat) : Nat := if k = 2 ∨ k = 3 then 1 else 4
def stF (tp : List Nat) (p : Nat) (s : LnS) : Nat ⊕ (Nat × LnS) :=
  if s.2.2.2.1.length = 6 then .inl (5 + 16 * tkA tp p)
  else if tkC tp (tkN tp p) ≠ 256 then .inl (1 + 16 * tkA tp (tkN tp p))
  else if tkW tp (tkN tp p) ∈ s.2.2.2.1 then .inl (3 + 16 * tkA tp (tkN tp p))
  else if ¬ (132 ≤ tkC tp (tkN tp (tkN tp p)) ∧ tkC tp (tkN tp (tkN tp p)) ≤ 137) then .inl (1 + 16 * tkA tp (tkN tp (tkN tp p)))
  else if tkC tp (tkN tp (tkN tp (tkN tp p))) ≠ 257 then .inl (1 + 16 * tkA tp (tkN tp (tkN tp (tkN tp p))))
  else if ¬ (lst (tkC tp (tkN tp (tkN tp p)) - 132) ≤ tkV tp (tkN tp (tkN tp (tkN tp p))) ∧ tkV tp (tkN tp (tkN tp (tkN tp p))) ≤ mst (tkC tp (tkN tp (tkN tp p)) - 132)) then .inl (4 + 16 * tkA tp (tkN tp (tkN tp (tkN tp p))))
  else if tkC tp (tkN tp (tkN tp (tkN tp (tkN tp p)))) ≠ 59 then .inl (1 + 16 * tkA tp (tkN tp (tkN tp (tkN tp (tkN tp p)))))
  else .inr (tkN tp (tkN tp (tkN tp (tkN tp (tkN tp p)))), (s.1, s.2.1, s.2.2.1, s.2.2.2.1 ++ [tkW tp (tkN tp p)], s.2.2.2.2.1 ++ [tkC tp (tkN tp (tkN tp p)) - 132], s.2.2.2.2.2.1 ++ [tkV tp (tkN tp (tkN tp (tkN tp p)))], s.2.2.2.2.2.2))
def gtF (tp : List Nat) (p : Nat) (s : LnS) : Nat ⊕ (Nat × LnS) :=
  if s.2.1 = true then .inl (3 + 16 * tkA tp p)
  else if tkC tp (tkN tp p) ≠ 257 then .inl (1 + 16 * tkA tp (tkN tp p))
  else if ¬ (0 ≤ tkV tp (tkN tp p) ∧ tkV tp (tkN tp p) ≤ 1) then .inl (4 + 16 * tkA tp (tkN tp p))
  else if tkC tp (tkN tp (tkN tp p)) ≠ 59 then .inl (1 + 16 * tkA tp (tkN tp (tkN tp p)))
  else .inr (tkN tp (tkN tp (tkN tp p)), (tkV tp (tkN tp p), true, s.2.2))
def fnF (tp : List Nat) (p : Nat) (s : LnS) (r : Nat ⊕ (Nat × LnS)) : Prop :=
  if s.2.2.1 = true then r = .inl (3 + 16 * tkA tp p)
  else (∃ f, r = .inl f ∧ ∀ op cm, cm 0 = false → RRun tp (0, true, op, cm, [], tkN tp p) (.inl f)) ∨ ∃ cs js q, r = .inr (q, (s.1, s.2.1, true, s.2.2.2.1, s.2.2.2.2.1, s.2.2.2.2.2.1, js, cs)) ∧ (∀ op cm, cm 0 = false → RRun tp (0, true, op, cm, [], tkN tp p) (.inr (cs, q))) ∧ okC cs ∧ evE 0 cs js
def lnF (tp : List Nat) (p : Nat) (s : LnS) (r : Nat ⊕ (Nat × LnS)) : Prop :=
  if tkC tp p = 129 then r = stF tp p s else if tkC tp p = 130 then r = gtF tp p s else if tkC tp p = 131 then fnF tp p s r else r = .inl (1 + 16 * tkA tp p)
def lnsF (tp : List Nat) : Nat → Nat → LnS → Nat ⊕ LnS → Prop
  | 0, _, _, _ => False
  | n + 1, p, s, r => if tkC tp p = 259 then r = .inr s else (∃ f, lnF tp p s (.inl f) ∧ r = .inl f) ∨ ∃ q s', lnF tp p s (.inr (q, s')) ∧ lnsF tp n q s' r
def wlF (tp : List Nat) : Nat ⊕ (Nat × Nat × Nat) :=
  if tkC tp 0 ≠ 128 then .inl (1 + 16 * tkA tp 0)
  else if tkC tp (tkN tp 0) ≠ 257 then .inl (1 + 16 * tkA tp (tkN tp 0))
  else if ¬ (2 ≤ tkV tp (tkN tp 0) ∧ tkV tp (tkN tp 0) ≤ 10) then .inl (4 + 16 * tkA tp (tkN tp 0))
  else if tkC tp (tkN tp (tkN tp 0)) ≠ 257 then .inl (1 + 16 * tkA tp (tkN tp (tkN tp 0)))
  else if ¬ (1 ≤ tkV tp (tkN tp (tkN tp 0)) ∧ tkV tp (tkN tp (tkN tp 0)) ≤ 6) then .inl (4 + 16 * tkA tp (tkN tp (tkN tp 0)))
  else if tkC tp (tkN tp (tkN tp (tkN tp 0))) ≠ 59 then .inl (1 + 16 * tkA tp (tkN tp (tkN tp (tkN tp 0))))
  else .inr (tkV tp (tkN tp 0), tkV tp (tkN tp (tkN tp 0)), tkN tp (tkN tp (tkN tp (tkN tp 0))))
def ls0 : LnS := (0, false, false, [], [], [], [], [])
/-- a whole text: a fault, or what it tells -/
def txF (tp : List Nat) (r : Nat ⊕ (Nat × Nat × LnS)) : Prop := match wlF tp with
  | .inl f => r = .inl f
  | .inr (w, h, p) => ∃ n, (∃ f, lnsF tp n p ls0 (.inl f) ∧ r = .inl f) ∨ ∃ s, lnsF tp n p ls0 (.inr s) ∧ r = .inr (w, h, s)
section LEX
variable {tp : List Nat} {p c : Nat}
theorem tkW_ok (hp : p ≤ tp.length) (h : tkC tp p = 256) : (tkW tp p).length ≤ 8 ∧ ∀ c ∈ tkW tp p, 97 ≤ c ∧ c ≤ 122 := by
  have ha := tkA_le hp
  have hl : ∀ c ∈ tkW tp p, 97 ≤ c ∧ c ≤ 122 := fun c hc' => by
    have := seg_all ha hc'
    unfold ltr at this
    exact decide_eq_true_iff.mp this
  refine ⟨?_, hl⟩
  unfold tkC at h
  cases hc : tp[tkA tp p]? with
  | none => rw [hc] at h; cases h
  | some c =>
    rw [hc] at h
    replace h : (if ltr c = true then (if 8 < wh ltr tp (tkA tp p) - tkA tp p then 258 else kw (seg tp (tkA tp p) (wh ltr tp (tkA tp p)))) else if dgt c = true then (if 4 < wh dgt tp (tkA tp p) - tkA tp p then 258 else 257) else if sgn c = true then c else 258) = 256 := h
    by_cases z1 : ltr c = true
    · rw [if_pos z1] at h
      unfold tkW
      rw [seg_n (wh_le ha)]
      split at h <;> omega
    · rw [if_neg z1] at h
      split at h
      · split at h <;> omega
      · split at h
        · rename_i q
          unfold sgn at q
          have := decide_eq_true_iff.mp q
          omega
        · omega
theorem tkV_ok (hp : p ≤ tp.length) (h : tkC tp p = 257) : tkV tp p < 10000 := by
  unfold tkC at h
  cases hc : tp[tkA tp p]? with
  | none => rw [hc] at h; cases h
  | some c =>
    rw [hc] at h
    replace h : (if ltr c = true then (if 8 < wh ltr tp (tkA tp p) - tkA tp p then 258 else kw (seg tp (tkA tp p) (wh ltr tp (tkA tp p)))) else if dgt c = true then (if 4 < wh dgt tp (tkA tp p) - tkA tp p then 258 else 257) else if sgn c = true then c else 258) = 257 := h
    have hk := kw_cases (seg tp (tkA tp p) (wh ltr tp (tkA tp p)))
    by_cases z1 : ltr c = true
    · rw [if_pos z1] at h
      split at h <;> omega
    · rw [if_neg z1] at h
      by_cases z2 : dgt c = true
      · rw [if_pos z2] at h
        exact tkV_lt hp (by split at h <;> omega)
      · rw [if_neg z2] at h
        split at h
        · rename_i q
          unfold sgn at q
          have := decide_eq_true_iff.mp q
          omega
        · omega
theorem bval_inj : ∀ (n : Nat) (l m : List Nat), l.length = n → (∀ c ∈ l, 97 ≤ c ∧ c ≤ 122) → (∀ c ∈ m, 97 ≤ c ∧ c ≤ 122) → bval l = bval m → l = m := by
  intro n
  induction n with
  | zero =>
    intro l m hl h1 h2 e
    have : l = [] := List.eq_nil_of_length_eq_zero hl
    subst this
    rcases List.eq_nil_or_concat m with z | ⟨m', c, z⟩
    · exact z.symm
    · rw [List.concat_eq_append] at z
      subst z
      rw [bval_s] at e
      have := h2 c (List.mem_append_right _ List.mem_cons_self)
      have h0 : bval [] = 0 := rfl
      omega
  | succ n ih =>
    intro l m hl h1 h2 e
    rcases List.eq_nil_or_concat l with z | ⟨l', a, z⟩
    · rw [z] at hl; cases hl
    · rw [List.concat_eq_append] at z
      subst z
      have ha := h1 a (List.mem_append_right _ List.mem_cons_self)
      rw [bval_s] at e
      rcases List.eq_nil_or_concat m with z | ⟨m', c, z⟩
      · subst z
        have h0 : bval [] = 0 := rfl
        omega
      · rw [List.concat_eq_append] at z
        subst z
        have hc := h2 c (List.mem_append_right _ List.mem_cons_self)
        rw [bval_s] at e
        have e1 : a = c := by omega
        have e2 : bval l' = bval m' := by omega
        rw [List.length_append] at hl
        rw [ih l' m' (by have : [a].length = 1 := rfl; omega) (fun x hx => h1 x (List.mem_append_left _ hx)) (fun x hx => h2 x (List.mem_append_left _ hx)) e2, e1]
def okW8 (l : List Nat) : Prop := l.length ≤ 8 ∧ ∀ c ∈ l, 97 ≤ c ∧ c ≤ 122
theorem bval_eq {l m : List Nat} (h : okW8 l) (h2 : okW8 m) : lN (bval l) = lN (bval m) ↔ l = m := by
  have lt : ∀ {l : List Nat}, okW8 l → bval l < 2 ^ 64 := by
    intro l h
    have := bval_lt (l := l) (fun c hc => by have := h.2 c hc; omega)
    refine Nat.lt_of_lt_of_le this ?_
    rw [show (2 : Nat) ^ 64 = 256 ^ 8 by decide]
    exact Nat.pow_le_pow_right (by decide) h.1
  constructor
  · intro e
    exact bval_inj _ l m rfl h.2 h2.2 (lN_inj (lt h) (lt h2) e)
  · intro e; rw [e]
end LEX
/-! the class's lines -/
section CLS
variable {S S' : St} {tp : List Nat} {p c : Nat} {js : List Int32}
set_option maxRecDepth 4096 in
theorem f34x {D : Nat} {a b : Int32} (hS : ShC S) (h : gI S 3 13 ≠ 0) : Sp (F (D + 2) 34 [.ref 3, .int a, .int b] S) (fun r S' => ∃ v, r = some (.int v) ∧ S' = S) := by
  refine fw34 (w34_0 ?_)
  refine W_t (hS.k3) ?_
  have one : ∀ z : Value, WP (P34 (F (D + 1))) (1, [.ref 3, .int a, .int b, z], [], S) (fun r S' => (gZ S ≤ gZ S' ∧ gU S ≤ gU S') ∧ ∃ v, r = some (.int v) ∧ S' = S) := by
    intro z
    refine w34_1 ?_
    refine W_t (hS.k3) ?_
    refine W_V (f32x hS h) ?_
    exact ⟨nochg S, _, rfl, rfl⟩
  refine W_if (fun q1 => ?_) (fun q1 => ?_)
  · refine W_t (hS.k3) ?_
    refine W_if (fun q2 => ?_) (fun q2 => ?_)
    · exact one _
    refine W_t (hS.k3) ?_
    refine W_if (fun q3 => ?_) (fun q3 => ?_)
    · exact one _
    refine W_t (hS.k3) ?_
    refine W_t (hS.k3) ?_
    refine W_V (f37x hS h) ?_
    exact ⟨nochg S, _, rfl, rfl⟩
  · refine W_t (hS.k3) ?_
    refine W_V (f32x hS h) ?_
    exact ⟨nochg S, _, rfl, rfl⟩
set_option maxRecDepth 4096 in
theorem f34 {D a b : Nat} (h : CS S tp p js) (ha : a < 100) (hb : b < 100) : Sp (F (D + 8) 34 [.ref 3, .int (nI a), .int (nI b)] S) (fun r S' => ∃ v, r = some (.int v) ∧ Fr GrP LxL S S' ∧ ((tkC tp p = 257 ∧ (a ≤ tkV tp p ∧ tkV tp p ≤ b) ∧ v = nI (tkV tp p) ∧ CS S' tp (tkN tp p) js) ∨ (tkC tp p ≠ 257 ∧ Flt S' (1 + 16 * tkA tp p)) ∨ (tkC tp p = 257 ∧ ¬ (a ≤ tkV tp p ∧ tkV tp p ≤ b) ∧ Flt S' (4 + 16 * tkA tp p)))) := by
  have hS := h.1.1
  have hlt := tkC_lt (tp := tp) (p := p)
  refine fw34 (w34_0 ?_)
  refine W_t (hS.k3) ?_
  rw [h.2.1.2.1]
  refine W_if (fun q1 => ?_) (fun q1 => ?_)
  · rw [show (257 : Int32) = nI 257 from rfl, i_eq (by omega) (by decide)] at q1
    have hv := tkV_ok h.2.2.2.2.2 q1
    have one : ¬ (a ≤ tkV tp p ∧ tkV tp p ≤ b) → ∀ z : Value, WP (P34 (F (D + 7))) (1, [.ref 3, .int (nI a), .int (nI b), z], [], S) (fun r S' => (gZ S ≤ gZ S' ∧ gU S ≤ gU S') ∧ ∃ v, r = some (.int v) ∧ Fr GrP LxL S S' ∧ ((tkC tp p = 257 ∧ (a ≤ tkV tp p ∧ tkV tp p ≤ b) ∧ v = nI (tkV tp p) ∧ CS S' tp (tkN tp p) js) ∨ (tkC tp p ≠ 257 ∧ Flt S' (1 + 16 * tkA tp p)) ∨ (tkC tp p = 257 ∧ ¬ (a ≤ tkV tp p ∧ tkV tp p ≤ b) ∧ Flt S' (4 + 16 * tkA tp p)))) := by
      intro hr z
      refine w34_1 ?_
      refine W_t (hS.k3) ?_
      refine W_Ve (f32 (k := 4) h (by decide) (by decide)) ?_
      intro S1 ⟨f1, h1⟩
      exact ⟨f1.mono, _, rfl, f1, Or.inr (Or.inr ⟨q1, hr, h1⟩)⟩
    rw [h.2.1.2.2.2.1 q1]
    refine W_t (hS.k3) ?_
    refine W_if (fun q2 => ?_) (fun q2 => ?_)
    · rw [i_lt (by omega) (by omega)] at q2
      exact one (by omega) _
    rw [i_lt (by omega) (by omega)] at q2
    refine W_t (hS.k3) ?_
    refine W_if (fun q3 => ?_) (fun q3 => ?_)
    · rw [i_lt (by omega) (by omega)] at q3
      exact one (by omega) _
    rw [i_lt (by omega) (by omega)] at q3
    refine W_t (hS.k3) ?_
    refine W_t (hS.k3) ?_
    refine W_Ve (f37c h (by omega)) ?_
    intro S1 ⟨f1, h1⟩
    exact ⟨f1.mono, _, rfl, f1, Or.inl ⟨q1, ⟨by omega, by omega⟩, rfl, h1⟩⟩
  · rw [show (257 : Int32) = nI 257 from rfl, i_eq (by omega) (by decide)] at q1
    refine W_t (hS.k3) ?_
    refine W_Ve (f32 (k := 1) h (by decide) (by decide)) ?_
    intro S1 ⟨f1, h1⟩
    exact ⟨f1.mono, _, rfl, f1, Or.inr (Or.inl ⟨q1, h1⟩)⟩
set_option maxRecDepth 4096 in
theorem f35x {D : Nat} (hS : ShC S) (h : gI S 3 13 ≠ 0) : Sp (F (D + 2) 35 [.ref 3] S) (fun r S' => ∃ v, r = some (.int v) ∧ S' = S) := by
  have one : ∀ z : Value, WP (P35 (F (D + 1))) (1, [.ref 3, z], [], S) (fun r S' => (gZ S ≤ gZ S' ∧ gU S ≤ gU S') ∧ ∃ v, r = some (.int v) ∧ S' = S) := by
    intro z
    refine w35_1 ?_
    refine W_t (hS.k3) ?_
    refine W_V (f32x hS h) ?_
    exact ⟨nochg S, _, rfl, rfl⟩
  refine fw35 (w35_0 ?_)
  refine W_t (hS.k3) ?_
  refine W_if (fun q1 => ?_) (fun q1 => ?_)
  · exact one _
  refine W_t (hS.k3) ?_
  refine W_if (fun q2 => ?_) (fun q2 => ?_)
  · exact one _
  refine W_t (hS.k3) ?_
  refine W_t (hS.k3) ?_
  refine W_V (f37x hS h) ?_
  exact ⟨nochg S, _, rfl, rfl⟩
set_option maxRecDepth 4096 in
theorem f35 {D : Nat} (h : CS S tp p js) : Sp (F (D + 8) 35 [.ref 3] S) (fun r S' => ∃ v, r = some (.int v) ∧ Fr GrP LxL S S' ∧ (((132 ≤ tkC tp p ∧ tkC tp p ≤ 137) ∧ v = nI (tkC tp p - 132) ∧ CS S' tp (tkN tp p) js) ∨ (¬ (132 ≤ tkC tp p ∧ tkC tp p ≤ 137) ∧ Flt S' (1 + 16 * tkA tp p)))) := by
  have hS := h.1.1
  have hlt := tkC_lt (tp := tp) (p := p)
  have one : ¬ (132 ≤ tkC tp p ∧ tkC tp p ≤ 137) → ∀ z : Value, WP (P35 (F (D + 7))) (1, [.ref 3, z], [], S) (fun r S' => (gZ S ≤ gZ S' ∧ gU S ≤ gU S') ∧ ∃ v, r = some (.int v) ∧ Fr GrP LxL S S' ∧ (((132 ≤ tkC tp p ∧ tkC tp p ≤ 137) ∧ v = nI (tkC tp p - 132) ∧ CS S' tp (tkN tp p) js) ∨ (¬ (132 ≤ tkC tp p ∧ tkC tp p ≤ 137) ∧ Flt S' (1 + 16 * tkA tp p)))) := by
    intro hr z
    refine w35_1 ?_
    refine W_t (hS.k3) ?_
    refine W_Ve (f32 (k := 1) h (by decide) (by decide)) ?_
    intro S1 ⟨f1, h1⟩
    exact ⟨f1.mono, _, rfl, f1, Or.inr ⟨hr, h1⟩⟩
  refine fw35 (w35_0 ?_)
  refine W_t (hS.k3) ?_
  rw [h.2.1.2.1, show (132 : Int32) = nI 132 from rfl, show (137 : Int32) = nI 137 from rfl]
  refine W_if (fun q1 => ?_) (fun q1 => ?_)
  · rw [i_lt (by omega) (by omega)] at q1
    exact one (by omega) _
  rw [i_lt (by omega) (by omega)] at q1
  refine W_t (hS.k3) ?_
  refine W_if (fun q2 => ?_) (fun q2 => ?_)
  · rw [i_lt (by omega) (by omega)] at q2
    exact one (by omega) _
  rw [i_lt (by omega) (by omega)] at q2
  refine W_t (hS.k3) ?_
  refine W_t (hS.k3) ?_
  refine W_Ve (f37c h (by omega)) ?_
  intro S1 ⟨f1, h1⟩
  exact ⟨f1.mono, _, rfl, f1, Or.inl ⟨⟨by omega, by omega⟩, by rw [pk_sub (by omega)], h1⟩⟩
end CLS
