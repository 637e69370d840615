/-- the truce and the fine that a text tells -/
def tdL (w h : Nat) (s : LnS) : TD := (w, h, s.1, s.2.2.2.1.length, fun i => s.2.2.2.2.1.getD i 0, fun i => s.2.2.2.2.2.1.getD i 0)
def itL (s : LnS) : List Int32 := if s.2.2.1 = true then s.2.2.2.2.2.2.1 else [-138]
def fnL (s : LnS) : Env → Int32 := fun e => match evC e (itL s) [] with
  | some [v] => v
  | _ => 0
section LEX
variable {tp : List Nat} {w h : Nat} {s : LnS}
theorem okT_td (hs : okLn s) (hw : 2 ≤ w ∧ w ≤ 10) (hh : 1 ≤ h ∧ h ≤ 6) : okT (tdL w h s) ∧ nT (tdL w h s) := by
  obtain ⟨h1, h2, h3, h4, h5, h6, h7⟩ := hs
  refine ⟨⟨hw, hh, h1, h2, fun i hi => ?_⟩, fun i hi => ?_⟩
  · replace hi : i < s.2.2.2.1.length := hi
    have a1 : i < s.2.2.2.2.1.length := by omega
    have a2 : i < s.2.2.2.2.2.1.length := by omega
    obtain ⟨b1, b2, b3⟩ := h5 i _ _ (List.getElem?_eq_getElem a1) (List.getElem?_eq_getElem a2)
    show s.2.2.2.2.1.getD i 0 ≤ 5 ∧ 1 ≤ s.2.2.2.2.2.1.getD i 0 ∧ s.2.2.2.2.2.1.getD i 0 ≤ 4 ∧ (s.2.2.2.2.1.getD i 0 = 1 → 2 ≤ s.2.2.2.2.2.1.getD i 0) ∧ (s.2.2.2.2.1.getD i 0 = 2 ∨ s.2.2.2.2.1.getD i 0 = 3 → s.2.2.2.2.2.1.getD i 0 = 1)
    rw [gD _ a1, gD _ a2]
    unfold lst at b2
    unfold mst at b3
    generalize s.2.2.2.2.1[i] = k at b1 b2 b3
    generalize s.2.2.2.2.2.1[i] = x at b2 b3
    split at b2 <;> split at b3 <;> omega
  · replace hi : s.2.2.2.1.length ≤ i := hi
    show s.2.2.2.2.1.getD i 0 = 0 ∧ s.2.2.2.2.2.1.getD i 0 = 0
    exact ⟨gDn (by omega), gDn (by omega)⟩
theorem envV_ex (e : Env) : ∃ V : Vf, envV V = e := ⟨fun a k => if a = 62 then (if k = 1 then e.1 else if k = 2 then e.2.1 else if k = 3 then e.2.2.1 else e.2.2.2) else 0, rfl⟩
theorem fnL_ev (hs : okLn s) (e : Env) : evC e (itL s) [] = some [fnL s e] := by
  have hx : ∃ v, evC e (itL s) [] = some [v] := by
    unfold itL
    by_cases z : s.2.2.1 = true
    · rw [if_pos z]
      obtain ⟨V, hV⟩ := envV_ex e
      obtain ⟨_, he⟩ := hs.2.2.2.2.2.2 z
      obtain ⟨V', _, _, _, h4⟩ := he (wOpens V 0) (Or.inl rfl) rfl rfl rfl rfl rfl
      have := h4 [] (Nat.zero_le _)
      rw [envV_eq (V := V) (fun k => wOpens_o (Or.inr (by decide))), hV] at this
      exact ⟨_, this⟩
    · rw [if_neg z]
      exact ⟨e.1, rfl⟩
  obtain ⟨v, hv⟩ := hx
  have : fnL s e = v := by unfold fnL; rw [hv]
  rw [this]
  exact hv
theorem fnL_wk (hs : okLn s) : (s.2.2.2.2.2.2.2 = [] → ∀ e : Env, fnL s e = e.1) ∧ (s.2.2.2.2.2.2.2 ≠ [] → wkE s.2.2.2.2.2.2.2 (fnL s)) := by
  obtain ⟨h1, h2, h3, h4, h5, h6, h7⟩ := hs
  cases z : s.2.2.1 with
  | false =>
    obtain ⟨e1, e2⟩ := h6 z
    refine ⟨fun _ e => ?_, fun n => absurd e2 n⟩
    unfold fnL itL
    rw [if_neg (by rw [z]; decide)]
    rfl
  | true =>
    obtain ⟨ho, he⟩ := h7 z
    refine ⟨fun n => absurd n ho.1, fun _ V => ?_⟩
    obtain ⟨V', a1, a2, a3, a4⟩ := he (wOpens V 0) (Or.inl rfl) rfl rfl rfl rfl rfl
    refine ⟨(0, V'), a3, ?_⟩
    have := a4 [] (Nat.zero_le _)
    rw [envV_eq (V := V) (fun k => wOpens_o (Or.inr (by decide)))] at this
    show wTests V' 0 53 0 = fnL s (envV V)
    unfold fnL itL
    rw [if_pos z, this]
end LEX
