/-! what a text tells -/
def okLn (s : LnS) : Prop := s.1 ≤ 1 ∧ s.2.2.2.1.length ≤ 6 ∧ s.2.2.2.2.1.length = s.2.2.2.1.length ∧ s.2.2.2.2.2.1.length = s.2.2.2.1.length ∧ (∀ (i k w : Nat), s.2.2.2.2.1[i]? = some k → s.2.2.2.2.2.1[i]? = some w → k ≤ 5 ∧ lst k ≤ w ∧ w ≤ mst k) ∧ (s.2.2.1 = false → s.2.2.2.2.2.2.1 = [] ∧ s.2.2.2.2.2.2.2 = []) ∧ (s.2.2.1 = true → okC s.2.2.2.2.2.2.2 ∧ evE 0 s.2.2.2.2.2.2.2 s.2.2.2.2.2.2.1)
section LEX
variable {tp : List Nat} {p q : Nat} {s s' : LnS}
theorem okLn_st (h : okLn s) (e : stF tp p s = .inr (q, s')) : okLn s' := by
  obtain ⟨h1, h2, h3, h4, h5, h6, h7⟩ := h
  unfold stF at e
  split at e
  · cases e
  split at e
  · cases e
  split at e
  · cases e
  split at e
  · cases e
  split at e
  · cases e
  split at e
  · cases e
  split at e
  · cases e
  rename_i n6 _ _ r4 _ r6 _
  cases e
  have h1' : ∀ {α : Type} (x : α), [x].length = 1 := fun _ => rfl
  refine ⟨h1, ?_, ?_, ?_, fun i k w hk hw => ?_, h6, h7⟩
  · show (s.2.2.2.1 ++ [tkW tp (tkN tp p)]).length ≤ 6
    rw [List.length_append, h1']
    omega
  · show (s.2.2.2.2.1 ++ _).length = (s.2.2.2.1 ++ _).length
    rw [List.length_append, List.length_append, h3, h1', h1']
  · show (s.2.2.2.2.2.1 ++ _).length = (s.2.2.2.1 ++ _).length
    rw [List.length_append, List.length_append, h4, h1', h1']
  · replace hk : (s.2.2.2.2.1 ++ [tkC tp (tkN tp (tkN tp p)) - 132])[i]? = some k := hk
    replace hw : (s.2.2.2.2.2.1 ++ [tkV tp (tkN tp (tkN tp (tkN tp p)))])[i]? = some w := hw
    have hi := (List.getElem?_eq_some_iff.mp hk).1
    rw [List.length_append, h1'] at hi
    by_cases e : i = s.2.2.2.1.length
    · rw [e, ← h3, List.getElem?_append_right (Nat.le_refl _), Nat.sub_self] at hk
      rw [e, ← h4, List.getElem?_append_right (Nat.le_refl _), Nat.sub_self] at hw
      have ek := Option.some.inj hk
      have ew := Option.some.inj hw
      subst ek
      subst ew
      have r4' := Classical.not_not.mp r4
      have r6' := Classical.not_not.mp r6
      exact ⟨by omega, r6'.1, r6'.2⟩
    · rw [List.getElem?_append_left (by omega)] at hk
      rw [List.getElem?_append_left (by omega)] at hw
      exact h5 i k w hk hw
theorem okLn_gt (h : okLn s) (e : gtF tp p s = .inr (q, s')) : okLn s' := by
  obtain ⟨h1, h2, h3, h4, h5, h6, h7⟩ := h
  unfold gtF at e
  split at e
  · cases e
  split at e
  · cases e
  split at e
  · cases e
  split at e
  · cases e
  rename_i _ _ r3 _
  cases e
  exact ⟨(Classical.not_not.mp r3).2, h2, h3, h4, h5, h6, h7⟩
theorem okLn_fn (h : okLn s) (e : fnF tp p s (.inr (q, s'))) : okLn s' := by
  obtain ⟨h1, h2, h3, h4, h5, h6, h7⟩ := h
  unfold fnF at e
  split at e
  · cases e
  rcases e with ⟨f, e, _⟩ | ⟨cs, js, q', e, _, ho, he⟩
  · cases e
  · cases e
    exact ⟨h1, h2, h3, h4, h5, fun z => (by cases z), fun _ => ⟨ho, he⟩⟩
theorem okLn_ln (h : okLn s) (e : lnF tp p s (.inr (q, s'))) : okLn s' := by
  unfold lnF at e
  split at e
  · exact okLn_st h e.symm
  split at e
  · exact okLn_gt h e.symm
  split at e
  · exact okLn_fn h e
  · cases e
theorem okLn_lns : ∀ (n : Nat) {p : Nat} {s s' : LnS}, okLn s → lnsF tp n p s (.inr s') → okLn s' := by
  intro n
  induction n with
  | zero => intro p s s' h e; exact e.elim
  | succ n ih =>
    intro p s s' h e
    unfold lnsF at e
    split at e
    · cases e; exact h
    rcases e with ⟨f, _, e⟩ | ⟨q, s1, e1, e2⟩
    · cases e
    · exact ih (okLn_ln h e1) e2
theorem okLn_0 : okLn ls0 := ⟨by decide, by decide, rfl, rfl, fun i k w hk => (by cases hk), fun _ => ⟨rfl, rfl⟩, fun z => by cases z⟩
end LEX
