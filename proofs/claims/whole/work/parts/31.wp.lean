/-! how a run is followed, block by block -/
def jk (z : Value) : Value := if (0 : Nat) == 0 && isL z then .null else z
/-- a new state, a long number: by a name -/
abbrev sl (S : St) (f : St → Option Rs) : Option Rs := f S
abbrev si (x : Int32) (f : Int32 → Option Rs) : Option Rs := f x
abbrev sj (x : Int64) (f : Int64 → Option Rs) : Option Rs := f x
def EvR (md : Nat → K) (t : Option Rs) (r : Option Value × St) : Prop := match t with
  | some (.inl c) => Ev md c r
  | some (.inr q) => q = r
  | none => False
theorem Ev.of {md : Nat → K} {b : Nat} {ls st : List Value} {S : St} {t : Option Rs} {r : Option Value × St} (h : md b ls st S = t) (h2 : EvR md t r) : Ev md (b, ls, st, S) r := by
  subst h
  cases hq : md b ls st S with
  | none => rw [hq] at h2; exact h2.elim
  | some q =>
    rw [hq] at h2
    cases q with
    | inl c => exact Ev.step hq h2
    | inr q => rw [← (show q = r from h2)]; exact Ev.done hq
theorem R_if {md : Nat → K} {c : Prop} [Decidable c] {a b : Option Rs} {r : Option Value × St} (h1 : c → EvR md a r) (h2 : ¬ c → EvR md b r) : EvR md (if c then a else b) r := by
  by_cases h : c
  · rw [if_pos h]; exact h1 h
  · rw [if_neg h]; exact h2 h
theorem R_t {md : Nat → K} {c : Prop} [Decidable c] {a b : Option Rs} {r : Option Value × St} (h : c) (h1 : EvR md a r) : EvR md (if c then a else b) r := by
  rw [if_pos h]; exact h1
theorem R_f {md : Nat → K} {c : Prop} [Decidable c] {a b : Option Rs} {r : Option Value × St} (h : ¬ c) (h1 : EvR md b r) : EvR md (if c then a else b) r := by
  rw [if_neg h]; exact h1
theorem R_I {md : Nat → K} {x : Option (Option Value × St)} {f : Int32 → St → Option Rs} {v : Int32} {S : St} {r : Option Value × St} (h : x = some (some (.int v), S)) (h1 : EvR md (f v S) r) : EvR md (eI x f) r := by
  rw [h]; exact h1
theorem R_L {md : Nat → K} {x : Option (Option Value × St)} {f : Int64 → St → Option Rs} {v : Int64} {S : St} {r : Option Value × St} (h : x = some (some (.long v), S)) (h1 : EvR md (f v S) r) : EvR md (eL x f) r := by
  rw [h]; exact h1
theorem R_R {md : Nat → K} {x : Option (Option Value × St)} {f : Nat → St → Option Rs} {v : Nat} {S : St} {r : Option Value × St} (h : x = some (some (.ref v), S)) (h1 : EvR md (f v S) r) : EvR md (eR x f) r := by
  rw [h]; exact h1
theorem R_V {md : Nat → K} {x : Option (Option Value × St)} {f : St → Option Rs} {S : St} {r : Option Value × St} (h : x = some (none, S)) (h1 : EvR md (f S) r) : EvR md (eV x f) r := by
  rw [h]; exact h1
theorem R_s {md : Nat → K} {S : St} {f : St → Option Rs} {r : Option Value × St} (h : ∀ S1, S1 = S → EvR md (f S1) r) : EvR md (sl S f) r := h S rfl
theorem R_si {md : Nat → K} {x : Int32} {f : Int32 → Option Rs} {r : Option Value × St} (h : ∀ y, y = x → EvR md (f y) r) : EvR md (si x f) r := h x rfl
theorem R_sj {md : Nat → K} {x : Int64} {f : Int64 → Option Rs} {r : Option Value × St} (h : ∀ y, y = x → EvR md (f y) r) : EvR md (sj x f) r := h x rfl
theorem nochg (S : St) : gZ S ≤ gZ S ∧ gU S ≤ gU S := ⟨Nat.le_refl _, Nat.le_refl _⟩
