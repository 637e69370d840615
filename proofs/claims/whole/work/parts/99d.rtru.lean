/-! the reference's truce -/
section REF
variable {S S' : St} {tp : List Nat} {T : TD} {E : Env → Int32} {A : List Nat} {mk : Nat → Option MkD}
theorem wlF_b {w h p : Nat} (e : wlF tp = .inr (w, h, p)) : (2 ≤ w ∧ w ≤ 10) ∧ (1 ≤ h ∧ h ≤ 6) := by
  unfold wlF at e
  split at e
  · cases e
  split at e
  · cases e
  split at e
  · cases e
  split at e
  · cases e
  split at e
  · cases e
  split at e
  · cases e
  rename_i _ _ r1 _ r2 _
  cases e
  exact ⟨Classical.not_not.mp r1, Classical.not_not.mp r2⟩
theorem txF_ok {w h : Nat} {s : LnS} (e : txF tp (.inr (w, h, s))) : okLn s ∧ (2 ≤ w ∧ w ≤ 10) ∧ (1 ≤ h ∧ h ≤ 6) := by
  unfold txF at e
  cases z : wlF tp with
  | inl f => rw [z] at e; cases e
  | inr y =>
    obtain ⟨w', h', p⟩ := y
    rw [z] at e
    obtain ⟨n, e⟩ := e
    rcases e with ⟨f, _, e⟩ | ⟨s', hl, e⟩
    · cases e
    · cases e
      exact ⟨okLn_lns n okLn_0 hl, wlF_b z⟩
theorem RLs.rt {p w h : Nat} {s : LnS} (hs : RLs S tp p s) (ho : okLn s) (hw : 2 ≤ w ∧ w ≤ 10) (hh : 1 ≤ h ∧ h ≤ 6) (e1 : gI S 41 1 = nI w) (e2 : gI S 42 1 = nI h) : RTs S 1 (tdL w h s) ∧ RCs S 1 (fnL s) := by
  obtain ⟨hT, h44, h21, h22, hN, hk, hb, hl1, hl2, h20, h48, h49, hcs, hcl, hft⟩ := hs
  refine ⟨⟨(okT_td ho hw hh).1, e1, e2, hN.1, h44, fun i hi => ?_⟩, s.2.2.2.2.2.2.2, hcl, h48, h49, fun i c hc => ?_, (fnL_wk ho).1, (fnL_wk ho).2⟩
  · replace hi : i < s.2.2.2.1.length := hi
    have a1 : i < s.2.2.2.2.1.length := by omega
    have a2 : i < s.2.2.2.2.2.1.length := by omega
    refine ⟨?_, ?_⟩
    · show gI S 45 (6 * 1 + i) = nI (s.2.2.2.2.1.getD i 0)
      rw [gD _ a1]
      exact hk i _ (List.getElem?_eq_getElem a1)
    · show gI S 46 (6 * 1 + i) = nI (s.2.2.2.2.2.1.getD i 0)
      rw [gD _ a2]
      exact hb i _ (List.getElem?_eq_getElem a2)
  · refine ⟨hcs i c hc, ?_⟩
    cases z : s.2.2.1 with
    | false => rw [hft z] at hc; cases hc
    | true => exact (ho.2.2.2.2.2.2 z).1.2 c (List.mem_of_getElem? hc)
set_option maxRecDepth 4096 in
theorem f138 {D : Nat} {res : Nat ⊕ (Nat × Nat × LnS)} (h : RI S tp T E A mk) (hv : ∀ v, v ∈ tp → v = 10 ∨ (32 ≤ v ∧ v ≤ 126)) (hr : txF tp res) : Sp (F (D + 8) 138 [.ref 39] S) (fun v S' => ∃ y, v = some (.int y) ∧ Fr MP MP S S' ∧ match res with
    | .inl f => y = nI f ∧ RI S' [] T E A mk
    | .inr (w, hh, s) => y = 0 ∧ RI S' [] (tdL w hh s) (fnL s) [] mk) := by
  obtain ⟨⟨hM, hTa, hT, hC, hrow, h38, hbef, hmk, hlg⟩, hky⟩ := h
  refine fw138 (w138_0 ?_)
  refine W_t (hM.k39) ?_
  refine W_s fun S1 e1 => ?_
  have f1 : Fr (fun a k => a = 39 ∧ k = 0) nol S S1 := by rw [e1]; exact Fr.putI ⟨rfl, rfl⟩
  clear e1
  have hM1 := hM.of f1.2.2
  have t1 : TapR S1 tp := ⟨by rw [f1.1 _ _ (by omega)]; exact hTa.1, hTa.2.1.fr f1 (fun k _ z => by omega), hTa.2.2⟩
  refine W_t (hM1.k39) ?_
  obtain ⟨v2, S2, e2, f2, g1, h2⟩ := f135 (D := D + 2) hM1 t1 hv hr
  have hM2 := hM1.of f2.2.2
  have f02 : Fr (fun a k => RaP a k ∨ (a = 39 ∧ k = 0)) RlL S S2 := (f1.weak (fun a k z => Or.inr z) (fun _ _ z => z.elim)).tr (f2.weak (fun a k z => Or.inl z) (fun _ _ z => z))
  have fm2 : Fr MP MP S S2 := f02.weak (fun a k z => by show 39 ≤ a ∧ a ≤ 72; omega) (fun a k z => by show 39 ≤ a ∧ a ≤ 72; omega)
  have mk2 : ∀ i, i < 4 → MkR S2 i (mk i) := fun i hi => (hmk i hi).cg (fun a k z => f02.1 a k (by omega))
  cases res with
  | inl f =>
    obtain ⟨ev, g9⟩ := h2
    subst ev
    refine W_I (e2) ?_
    refine W_t (rfl) ?_
    refine W_t (hM2.k39) ?_
    rw [g9]
    refine ⟨fm2.mono, _, rfl, fm2, rfl, ⟨hM2, ⟨g1, fun i v hi => (by cases hi), Nat.zero_le _⟩, (hT.s.cg (fun a k z => f02.1 a k (by omega))).z, (hC.s.cg (fun a k z => f02.1 a k (by omega))).z, hrow.cg (fun k _ => f02.1 _ _ (by omega)), by rw [f02.1 _ _ (by omega)]; exact h38, fun j hj => (hbef j hj).cg (fun k _ => f02.1 _ _ (by omega)), mk2, hlg⟩, hky.fr f02 (fun a k z => by omega)⟩
  | inr z =>
    obtain ⟨w, hh, s⟩ := z
    obtain ⟨ev, ⟨q, hs⟩, k1, k2⟩ := h2
    subst ev
    obtain ⟨ho, hw, hh'⟩ := txF_ok hr
    obtain ⟨rt, rc⟩ := hs.rt ho hw hh' k1 k2
    refine W_I (e2) ?_
    refine W_f (by decide) ?_
    refine W_t (hM2.k39) ?_
    refine W_Ve (f137 (i := 1) (j := 0) hM2 (by decide) (by decide) (by decide) rt rc) ?_
    intro S3 ⟨f3, rt3, rc3⟩
    have hM3 := hM2.of f3.2.2
    refine W_t (hM3.k39) ?_
    refine W_Ve (f139 hM3 rt3.z) ?_
    intro S4 ⟨f4, ro, re, g38, g44⟩
    have hM4 := hM3.of f4.2.2
    have fm3 : Fr MP MP S2 S3 := f3.weak (fun a k z => by show 39 ≤ a ∧ a ≤ 72; rcases z with z | z | z | z <;> omega) (fun _ _ z => z.elim)
    have fm4 : Fr MP MP S3 S4 := f4.weak (fun a k z => by
      show 39 ≤ a ∧ a ≤ 72
      rcases z with (z | z | z) | z <;> omega) (fun _ _ z => z.elim)
    have fm := (fm2.tr fm3).tr fm4
    have nb : ∀ {a k}, BgP a k → (a = 39 ∨ (53 ≤ a ∧ a ≤ 63)) := fun z => by
      rcases z with (z | z | z) | z <;> omega
    have rt4 : RTs S4 0 (tdL w hh s) := rt3.cg (fun a k z => f4.1 a k (fun y => by have := nb y; omega))
    have rc4 : RCs S4 0 (fnL s) := rc3.cg (fun a k z => f4.1 a k (fun y => by have := nb y; omega))
    refine ⟨fm.mono, _, rfl, fm, rfl, ⟨hM4, ⟨?_, fun i v hi => (by cases hi), Nat.zero_le _⟩, rt4.z, rc4.z, RwF.of ro re, by rw [g38]; rfl, fun j hj => absurd hj (by show ¬ j < 0; omega), fun i hi => (mk2 i hi).cg (fun a k z => ?_), trivial⟩, Or.inl g44⟩
    · rw [f4.1 _ _ (fun y => ?_), f3.1 _ _ (fun y => ?_)]
      · exact g1
      · rcases y with y | y | y | y <;> omega
      · rcases y with (y | y | y) | y <;> omega
    · rw [f4.1 _ _ (fun y => by have := nb y; omega), f3.1 _ _ (fun y => by rcases y with y | y | y | y <;> omega)]
end REF
