/-! runs with a claim on their end -/
def WP (md : Nat → K) (c : Cf) (Q : Option Value → St → Prop) : Prop := ∃ r S', Ev md c (r, S') ∧ Q r S'
def WR (md : Nat → K) (t : Option Rs) (Q : Option Value → St → Prop) : Prop := match t with
  | some (.inl c) => WP md c Q
  | some (.inr q) => Q q.1 q.2
  | none => False
def Sp (x : Option (Option Value × St)) (Q : Option Value → St → Prop) : Prop := ∃ r S', x = some (r, S') ∧ Q r S'
theorem WP.of {md : Nat → K} {b : Nat} {ls st : List Value} {S : St} {t : Option Rs} {Q : Option Value → St → Prop} (h : md b ls st S = t) (h2 : WR md t Q) : WP md (b, ls, st, S) Q := by
  subst h
  cases hq : md b ls st S with
  | none => rw [hq] at h2; exact h2.elim
  | some q =>
    rw [hq] at h2
    cases q with
    | inl c =>
      obtain ⟨r, S', h3, h4⟩ := h2
      exact ⟨r, S', Ev.step hq h3, h4⟩
    | inr q => exact ⟨q.1, q.2, Ev.done hq, h2⟩
theorem WP.mono {md : Nat → K} {c : Cf} {Q Q' : Option Value → St → Prop} (h : WP md c Q) (hq : ∀ r S, Q r S → Q' r S) : WP md c Q' := by
  obtain ⟨r, S', h1, h2⟩ := h
  exact ⟨r, S', h1, hq r S' h2⟩
section WPR
variable {md : Nat → K} {Q : Option Value → St → Prop}
theorem W_if {c : Prop} [Decidable c] {a b : Option Rs} (h1 : c → WR md a Q) (h2 : ¬ c → WR md b Q) : WR md (if c then a else b) Q := by
  by_cases h : c
  · rw [if_pos h]; exact h1 h
  · rw [if_neg h]; exact h2 h
theorem W_t {c : Prop} [Decidable c] {a b : Option Rs} (h : c) (h1 : WR md a Q) : WR md (if c then a else b) Q := by
  rw [if_pos h]; exact h1
theorem W_f {c : Prop} [Decidable c] {a b : Option Rs} (h : ¬ c) (h1 : WR md b Q) : WR md (if c then a else b) Q := by
  rw [if_neg h]; exact h1
theorem W_I {x : Option (Option Value × St)} {f : Int32 → St → Option Rs} {v : Int32} {S : St} (h : x = some (some (.int v), S)) (h1 : WR md (f v S) Q) : WR md (eI x f) Q := by
  rw [h]; exact h1
theorem W_L {x : Option (Option Value × St)} {f : Int64 → St → Option Rs} {v : Int64} {S : St} (h : x = some (some (.long v), S)) (h1 : WR md (f v S) Q) : WR md (eL x f) Q := by
  rw [h]; exact h1
theorem W_R {x : Option (Option Value × St)} {f : Nat → St → Option Rs} {v : Nat} {S : St} (h : x = some (some (.ref v), S)) (h1 : WR md (f v S) Q) : WR md (eR x f) Q := by
  rw [h]; exact h1
theorem W_V {x : Option (Option Value × St)} {f : St → Option Rs} {S : St} (h : x = some (none, S)) (h1 : WR md (f S) Q) : WR md (eV x f) Q := by
  rw [h]; exact h1
theorem W_Ie {x : Option (Option Value × St)} {f : Int32 → St → Option Rs} {Q' : Int32 → St → Prop} (h : Sp x (fun r S => ∃ v, r = some (.int v) ∧ Q' v S)) (h1 : ∀ v S, Q' v S → WR md (f v S) Q) : WR md (eI x f) Q := by
  obtain ⟨r, S, e, v, rfl, hq⟩ := h
  exact W_I e (h1 v S hq)
theorem W_Ve {x : Option (Option Value × St)} {f : St → Option Rs} {Q' : St → Prop} (h : Sp x (fun r S => r = none ∧ Q' S)) (h1 : ∀ S, Q' S → WR md (f S) Q) : WR md (eV x f) Q := by
  obtain ⟨r, S, e, rfl, hq⟩ := h
  exact W_V e (h1 S hq)
theorem W_Re {x : Option (Option Value × St)} {f : Nat → St → Option Rs} {Q' : Nat → St → Prop} (h : Sp x (fun r S => ∃ v, r = some (.ref v) ∧ Q' v S)) (h1 : ∀ v S, Q' v S → WR md (f v S) Q) : WR md (eR x f) Q := by
  obtain ⟨r, S, e, v, rfl, hq⟩ := h
  exact W_R e (h1 v S hq)
theorem W_Le {x : Option (Option Value × St)} {f : Int64 → St → Option Rs} {Q' : Int64 → St → Prop} (h : Sp x (fun r S => ∃ v, r = some (.long v) ∧ Q' v S)) (h1 : ∀ v S, Q' v S → WR md (f v S) Q) : WR md (eL x f) Q := by
  obtain ⟨r, S, e, v, rfl, hq⟩ := h
  exact W_L e (h1 v S hq)
theorem W_s {S : St} {f : St → Option Rs} (h : ∀ S1, S1 = S → WR md (f S1) Q) : WR md (sl S f) Q := h S rfl
theorem W_si {x : Int32} {f : Int32 → Option Rs} (h : ∀ y, y = x → WR md (f y) Q) : WR md (si x f) Q := h x rfl
theorem W_sj {x : Int64} {f : Int64 → Option Rs} (h : ∀ y, y = x → WR md (f y) Q) : WR md (sj x f) Q := h x rfl
theorem W_cong {t t' : Option Rs} (h : t = t') (h1 : WR md t' Q) : WR md t Q := h ▸ h1
end WPR
/-- a method's answer out of its run -/
theorem F_ev {d i : Nat} {as : List Value} {S : St} {r : Option Value × St} (h : Ev (prog i (F d)) (0, en (mx i) as, [], S) r) (hm : gZ S ≤ gZ r.2 ∧ gU S ≤ gU r.2) (hl : Nat.ble (xL as).length (mx i) = true) : F (d + 1) i as S = some r := cF_of ⟨h, hm, hl⟩
theorem F_wp {d i : Nat} {as : List Value} {S : St} {Q : Option Value → St → Prop} (h : WP (prog i (F d)) (0, en (mx i) as, [], S) (fun r S' => (gZ S ≤ gZ S' ∧ gU S ≤ gU S') ∧ Q r S')) (hl : Nat.ble (xL as).length (mx i) = true) : Sp (F (d + 1) i as S) Q := by
  obtain ⟨r, S', h1, h2, h3⟩ := h
  exact ⟨r, S', F_ev h1 h2 hl, h3⟩
/-- only ints at some places, and longs at some, have changed -/
def Fr (P L : Nat → Nat → Prop) (S S' : St) : Prop := (∀ a k, ¬ P a k → gI S' a k = gI S a k) ∧ (∀ a k, ¬ L a k → gL S' a k = gL S a k) ∧ S'.2.2 = S.2.2
abbrev nol : Nat → Nat → Prop := fun _ _ => False
section FRS
variable {P L P' L' : Nat → Nat → Prop} {S S' S'' : St}
theorem Fr.rf : Fr P L S S := ⟨fun _ _ _ => rfl, fun _ _ _ => rfl, rfl⟩
theorem Fr.tr (h : Fr P L S S') (h' : Fr P L S' S'') : Fr P L S S'' := ⟨fun a k hp => (h'.1 a k hp).trans (h.1 a k hp), fun a k hp => (h'.2.1 a k hp).trans (h.2.1 a k hp), h'.2.2.trans h.2.2⟩
theorem Fr.weak (h : Fr P L S S') (hp : ∀ a k, P a k → P' a k) (hl : ∀ a k, L a k → L' a k) : Fr P' L' S S' := ⟨fun a k hn => h.1 a k (fun z => hn (hp a k z)), fun a k hn => h.2.1 a k (fun z => hn (hl a k z)), h.2.2⟩
theorem Fr.putI {a k : Nat} {v : Int32} (h : P a k) : Fr P L S (pI S a k v) := ⟨fun b j hp => by
  rw [gI_pI, if_neg (by rintro ⟨rfl, rfl⟩; exact hp h)], fun _ _ _ => rfl, rfl⟩
theorem Fr.putL {a k : Nat} {v : Int64} (h : L a k) : Fr P L S (pL S a k v) := ⟨fun _ _ _ => rfl, fun b j hp => by
  rw [gL_pL, if_neg (by rintro ⟨rfl, rfl⟩; exact hp h)], rfl⟩
theorem Fr.mono (h : Fr P L S S') : gZ S ≤ gZ S' ∧ gU S ≤ gU S' := by
  have := h.2.2
  unfold gZ gU
  rw [this]
  exact ⟨Nat.le_refl _, Nat.le_refl _⟩
theorem Fr.R (h : Fr P L S S') (a k : Nat) : gR S' a k = gR S a k := by unfold gR; rw [h.2.2]
theorem Fr.K (h : Fr P L S S') (a : Nat) : gK S' a = gK S a := by unfold gK; rw [h.2.2]
theorem Fr.N (h : Fr P L S S') (a : Nat) : gN S' a = gN S a := by unfold gN; rw [h.2.2]
end FRS
