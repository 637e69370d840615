/-! the reference as a whole: what its cells hold -/
/-- a row holds a position -/
def RwF (r : Nat → Int32) (T : TD) (p : Pos) : Prop := (∀ c, c < 10 → r c = nI (hgt (pw p) c)) ∧ (∀ c, c < 10 → r (10 + c) = nI (gat (pw p) c)) ∧ (∀ c, c < 10 → r (20 + c) = nI (phin p c)) ∧ (∀ c, c < 10 → r (30 + c) = nI (pown p c)) ∧ (∀ t, t < 2 → r (40 + t) = nI (tG T - gbit (pw p) t)) ∧ r 42 = nI (ptn p) ∧ r 43 = nI (pys T (pw p) (ptn p)) ∧ r 44 = bi (closed T (pw p)) ∧ r 45 = nI (pday p) ∧ r 46 = pbill p ∧ ∀ t, t < 2 → r (47 + t) = nI (phof p t)
theorem RwF.cg {r r' : Nat → Int32} {T : TD} {p : Pos} (h : RwF r T p) (e : ∀ k, k < 64 → r' k = r k) : RwF r' T p := by
  obtain ⟨h1, h2, h3, h4, h5, h6, h7, h8, h9, h10, h11⟩ := h
  exact ⟨fun c hc => by rw [e _ (by omega)]; exact h1 c hc, fun c hc => by rw [e _ (by omega)]; exact h2 c hc, fun c hc => by rw [e _ (by omega)]; exact h3 c hc, fun c hc => by rw [e _ (by omega)]; exact h4 c hc, fun c hc => by rw [e _ (by omega)]; exact h5 c hc, by rw [e _ (by omega)]; exact h6, by rw [e _ (by omega)]; exact h7, by rw [e _ (by omega)]; exact h8, by rw [e _ (by omega)]; exact h9, by rw [e _ (by omega)]; exact h10, fun c hc => by rw [e _ (by omega)]; exact h11 c hc⟩
theorem RwF.row {S : St} {o : Nat} {T : TD} {p : Pos} (hT : okT T) (hw : okW T (pw p)) (h : RwF (fun k => gI S 63 (o + k)) T p) : RoL S o T (pw p) (ptn p) (pday p) ∧ RE S o p := by
  obtain ⟨h1, h2, h3, h4, h5, h6, h7, h8, h9, h10, h11⟩ := h
  refine ⟨⟨⟨h1, fun c hc => ⟨gat (pw p) c, hw.gat_le hc hT.2.1.2, by rw [Nat.add_assoc]; exact h2 c hc, Iff.rfl⟩, fun t ht => by rw [Nat.add_assoc]; exact h5 t ht, h6⟩, h7, h8, h9⟩, fun c hc => by rw [Nat.add_assoc]; exact h2 c hc, fun c hc => by rw [Nat.add_assoc]; exact h3 c hc, fun c hc => by rw [Nat.add_assoc]; exact h4 c hc, h10, fun t ht => by rw [Nat.add_assoc]; exact h11 t ht⟩
theorem RwF.of {S : St} {o : Nat} {T : TD} {p : Pos} (h : RoL S o T (pw p) (ptn p) (pday p)) (x : RE S o p) : RwF (fun k => gI S 63 (o + k)) T p := by
  obtain ⟨⟨h1, h2, h3, h4⟩, h5, h6, h7⟩ := h
  obtain ⟨x1, x2, x3, x4, x5⟩ := x
  refine ⟨h1, fun c hc => ?_, fun c hc => ?_, fun c hc => ?_, fun t ht => ?_, h4, h5, h6, h7, x4, fun t ht => ?_⟩
  · show gI S 63 (o + (10 + c)) = _; rw [← Nat.add_assoc]; exact x1 c hc
  · show gI S 63 (o + (20 + c)) = _; rw [← Nat.add_assoc]; exact x2 c hc
  · show gI S 63 (o + (30 + c)) = _; rw [← Nat.add_assoc]; exact x3 c hc
  · show gI S 63 (o + (40 + t)) = _; rw [← Nat.add_assoc]; exact h3 t ht
  · show gI S 63 (o + (47 + t)) = _; rw [← Nat.add_assoc]; exact x5 t ht
/-- the fine's line in slot j -/
def RCs (S : St) (j : Nat) (E : Env → Int32) : Prop := ∃ cs : List Nat, cs.length ≤ 1000 ∧ gI S 48 j = nI (1000 * j) ∧ gI S 49 j = nI (1000 * j + cs.length) ∧ (∀ i c, cs[i]? = some c → gI S 50 (1000 * j + i) = nI c ∧ c < 20000) ∧ (cs = [] → ∀ e : Env, E e = e.1) ∧ (cs ≠ [] → wkE cs E)
def MkR (S : St) (i : Nat) (m : Option MkD) : Prop := match m with
  | none => gI S 70 i = 0
  | some q => gI S 70 i = 1 ∧ RTs S (2 + i) q.1 ∧ RCs S (2 + i) q.2.1 ∧ RwF (fun k => gI S 71 (3904 * i + k)) q.1 (posA q.1 q.2.1 q.2.2) ∧ (∀ j, j < q.2.2.length → RwF (fun k => gI S 71 (3904 * i + 64 + (64 * j + k))) q.1 (posA q.1 q.2.1 (q.2.2.take j))) ∧ gI S 72 i = nI q.2.2.length ∧ lgl q.1 q.2.1 pos0 q.2.2
def TapR (S : St) (tp : List Nat) : Prop := gI S 39 1 = nI tp.length ∧ HL S 40 tp ∧ tp.length ≤ 1000
/-- the reference's cells hold a state, but for what is known -/
def RI0 (S : St) (tp : List Nat) (T : TD) (E : Env → Int32) (A : List Nat) (mk : Nat → Option MkD) : Prop := ShM S ∧ TapR S tp ∧ RT S T ∧ RC S E ∧ RwF (fun k => gI S 63 (0 + k)) T (posA T E A) ∧ gI S 39 38 = nI A.length ∧ (∀ j, j < A.length → RwF (fun k => gI S 64 (64 * j + k)) T (posA T E (A.take j))) ∧ (∀ i, i < 4 → MkR S i (mk i)) ∧ lgl T E pos0 A
/-- what the state does not hold -/
abbrev Scr : Nat → Nat → Prop := fun a k => (a = 39 ∧ k ≠ 1 ∧ k ≠ 38) ∨ a = 47 ∨ (51 ≤ a ∧ a ≤ 62) ∨ (a = 63 ∧ 64 ≤ k) ∨ (65 ≤ a ∧ a ≤ 69)
theorem Scr_n {a k : Nat} (h : (a = 39 ∧ (k = 1 ∨ k = 38)) ∨ (40 ≤ a ∧ a ≤ 46) ∨ (48 ≤ a ∧ a ≤ 50) ∨ (a = 63 ∧ k < 64) ∨ a = 64 ∨ 70 ≤ a) : ¬ Scr a k := fun z => by
  rcases z with z | z | z | z | z <;> omega
theorem RTs.fr {S S' : St} {j : Nat} {T : TD} {P PL : Nat → Nat → Prop} (h : RTs S j T) (f : Fr P PL S S') (hn : ∀ a k, P a k → ¬ (41 ≤ a ∧ a ≤ 46)) : RTs S' j T := by
  obtain ⟨h0, h1, h2, h3, h4, h5⟩ := h
  have n : ∀ a k, 41 ≤ a → a ≤ 46 → ¬ P a k := fun a k x y z => hn a k z ⟨x, y⟩
  exact ⟨h0, by rw [f.1 _ _ (n _ _ (by omega) (by omega))]; exact h1, by rw [f.1 _ _ (n _ _ (by omega) (by omega))]; exact h2, by rw [f.1 _ _ (n _ _ (by omega) (by omega))]; exact h3, by rw [f.1 _ _ (n _ _ (by omega) (by omega))]; exact h4, fun i hi => by rw [f.1 _ _ (n _ _ (by omega) (by omega)), f.1 _ _ (n _ _ (by omega) (by omega))]; exact h5 i hi⟩
theorem RCs.fr {S S' : St} {j : Nat} {E : Env → Int32} {P PL : Nat → Nat → Prop} (h : RCs S j E) (f : Fr P PL S S') (hn : ∀ a k, P a k → ¬ (48 ≤ a ∧ a ≤ 50)) : RCs S' j E := by
  obtain ⟨cs, h1, h2, h3, h4, h5⟩ := h
  refine ⟨cs, h1, ?_, ?_, fun i c hc => ?_, h5⟩
  · rw [f.1 _ _ (fun z => hn _ _ z (by omega))]; exact h2
  · rw [f.1 _ _ (fun z => hn _ _ z (by omega))]; exact h3
  · rw [f.1 _ _ (fun z => hn _ _ z (by omega))]; exact h4 i c hc
theorem MkR.fr {S S' : St} {i : Nat} {m : Option MkD} {P PL : Nat → Nat → Prop} (h : MkR S i m) (f : Fr P PL S S') (hn : ∀ a k, P a k → ¬ ((41 ≤ a ∧ a ≤ 46) ∨ (48 ≤ a ∧ a ≤ 50) ∨ 70 ≤ a)) : MkR S' i m := by
  cases m with
  | none => show gI S' _ _ = 0; rw [f.1 _ _ (fun z => hn _ _ z (by omega))]; exact h
  | some q =>
    obtain ⟨h1, h2, h3, h4, h5, h6, h7⟩ := h
    exact ⟨by rw [f.1 _ _ (fun z => hn _ _ z (by omega))]; exact h1, h2.fr f (fun a k z y => hn a k z (by omega)), h3.fr f (fun a k z y => hn a k z (by omega)), h4.cg (fun k hk => f.1 _ _ (fun z => hn _ _ z (by omega))), fun j hj => (h5 j hj).cg (fun k hk => f.1 _ _ (fun z => hn _ _ z (by omega))), by rw [f.1 _ _ (fun z => hn _ _ z (by omega))]; exact h6, h7⟩
theorem RI0.fr {S S' : St} {tp : List Nat} {T : TD} {E : Env → Int32} {A : List Nat} {mk : Nat → Option MkD} {P PL : Nat → Nat → Prop} (h : RI0 S tp T E A mk) (f : Fr P PL S S') (hs : ∀ a k, P a k → Scr a k) : RI0 S' tp T E A mk := by
  obtain ⟨h1, ⟨h2a, h2b, h2c⟩, h3, h4, h5, h6, h7, h8, h9⟩ := h
  have n : ∀ {a k}, (a = 39 ∧ (k = 1 ∨ k = 38)) ∨ (40 ≤ a ∧ a ≤ 46) ∨ (48 ≤ a ∧ a ≤ 50) ∨ (a = 63 ∧ k < 64) ∨ a = 64 ∨ 70 ≤ a → ¬ P a k := fun h z => Scr_n h (hs _ _ z)
  exact ⟨h1.fr f, ⟨by rw [f.1 _ _ (n (by omega))]; exact h2a, h2b.fr f (fun k _ => n (by omega)), h2c⟩, h3.fr f (fun a k z y => n (by omega) z), h4.fr f (fun a k z y => n (by omega) z), h5.cg (fun k hk => f.1 _ _ (n (by omega))), by rw [f.1 _ _ (n (by omega))]; exact h6, fun j hj => (h7 j hj).cg (fun k hk => f.1 _ _ (n (by omega))), fun i hi => (h8 i hi).fr f (fun a k z y => n (by omega) z), h9⟩
section RIB
variable {S : St} {tp : List Nat} {T : TD} {E : Env → Int32} {A : List Nat} {mk : Nat → Option MkD}
theorem RI0.ok (h : RI0 S tp T E A mk) : okT T ∧ okP T (posA T E A) ∧ pday (posA T E A) = A.length := by
  have hT := h.2.2.1.1
  have := lgl_ok hT (okP_0 T) h.2.2.2.2.2.2.2.2
  exact ⟨hT, this.1, by rw [this.2]; show 0 + A.length = A.length; omega⟩
theorem RI0.row (h : RI0 S tp T E A mk) : RoL S 0 T (pw (posA T E A)) (ptn (posA T E A)) (pday (posA T E A)) ∧ RE S 0 (posA T E A) := h.2.2.2.2.1.row h.ok.1 h.ok.2.1.1
/-- 'over' as the row has it -/
theorem pys_pos {w tn : Nat} (ht : tn < 2) : 0 < nI (pys T w tn) ↔ actsL T w tn = [] := by
  have hp := payr_le (T := T) (w := w) ht
  unfold pys
  by_cases h : actsL T w tn = []
  · rw [if_pos h, c0, i_lt (by decide) (by omega)]
    exact ⟨fun _ => h, fun _ => by omega⟩
  · rw [if_neg h]
    exact ⟨fun z => absurd z (by decide), fun z => absurd z h⟩
theorem wi_n {x : Int32} {k : Nat} (h0 : ¬ x < 0) (h : ¬ nI k < x) (hk : k < 2 ^ 31) : ∃ n, n ≤ k ∧ x = nI n := by
  obtain ⟨n, hn, rfl⟩ := nI_of h0
  rw [i_lt hk hn] at h
  exact ⟨n, by omega, rfl⟩
/-- thrown is put -/
abbrev ThP : Nat → Nat → Prop := fun a k => a = 39 ∧ k = 0
theorem ThP_s : ∀ a k, ThP a k → Scr a k := fun a k z => Or.inl ⟨z.1, by have := z.2; omega, by have := z.2; omega⟩
theorem AcP_s : ∀ a k, AcP a k → Scr a k := fun a k z => Or.inl ⟨z.1, by have := z.2; omega, by have := z.2; omega⟩
/-- no more than the reference's cells -/
abbrev MP : Nat → Nat → Prop := fun a _ => 39 ≤ a ∧ a ≤ 72
theorem Scr_MP : ∀ a k, Scr a k → MP a k := fun a k z => by
  show 39 ≤ a ∧ a ≤ 72
  rcases z with z | z | z | z | z <;> omega
set_option maxRecDepth 4096 in
theorem f156 {d : Nat} {x1 x2 : Int32} (h : RI0 S tp T E A mk) : Sp (F (d + 2) 156 [.ref 39, .int x1, .int x2] S) (fun v S' => ∃ y, v = some (.int y) ∧ y = aStone T x1 x2 ∧ Fr ThP nol S S') := by
  have hT := h.ok.1
  have hN := hT.2.2.2.1
  refine fw156 (w156_0 ?_)
  refine W_t (h.1.k39) ?_
  refine W_s fun S1 e1 => ?_
  have f1 : Fr ThP nol S S1 := by rw [e1]; exact Fr.putI ⟨rfl, rfl⟩
  have h1 := h.fr f1 ThP_s
  have hM := h1.1
  have hR := h1.2.2.1
  have none' : aStone T x1 x2 = -1 → WP (P156 (F (d + 1))) (1, [.ref 39, .int x1, .int x2], [], S1) (fun v S' => (gZ S ≤ gZ S' ∧ gU S ≤ gU S') ∧ ∃ y, v = some (.int y) ∧ y = aStone T x1 x2 ∧ Fr ThP nol S S') := by
    intro e
    refine w156_1 ?_
    exact ⟨f1.mono, _, rfl, e.symm, f1⟩
  refine W_if (fun q1 => ?_) (fun q1 => ?_)
  · exact none' (by unfold aStone; rw [if_pos (Or.inl q1)])
  obtain ⟨s, hs, rfl⟩ := nI_of q1
  simp only [hM.k39, hM.r39_12, hM.k43, hM.n43, z0c, eq_self, if_true, Nat.reduceAdd, true_and]
  refine W_t (in0 (by decide) (by decide)) ?_
  rw [hR.2.2.2.1]
  refine W_if (fun q2 => ?_) (fun q2 => ?_)
  rotate_left
  · rw [i_lt hs (by omega)] at q2
    exact none' (by unfold aStone; rw [if_pos (Or.inr (by rw [nI_clamp hs]; omega))])
  rw [i_lt hs (by omega)] at q2
  have ng : ¬ (nI s < 0 ∨ tN T ≤ (nI s).toNatClampNeg) := by
    rw [nI_clamp hs]
    rintro (z | z)
    · exact q1 z
    · omega
  refine W_I (f114) ?_
  refine W_if (fun q3 => ?_) (fun q3 => ?_)
  · rw [bi_0] at q3
    refine none' ?_
    unfold aStone
    rw [if_neg ng, if_neg, if_neg]
    · rintro rfl; exact q3 ⟨by decide, by decide⟩
    · rintro rfl; exact q3 ⟨by decide, by decide⟩
  rw [bi_0] at q3
  obtain ⟨g1, g2⟩ := Classical.not_not.mp q3
  obtain ⟨n, hn, rfl⟩ := wi_n (k := 1) g1 g2 (by decide)
  simp only [hM.k39, hM.r39_14, hM.k45, hM.n45, hM.r39_15, hM.k46, hM.n46, z0c, eq_self, if_true, Nat.reduceAdd, true_and]
  unfold aStone
  rw [if_neg ng, nI_clamp hs]
  refine W_if (fun q4 => ?_) (fun q4 => ?_)
  · refine W_t (inB_n (by omega) (by decide)) ?_
    rw [hR.2.2.2.2.2.1 s q2]
    exact ⟨f1.mono, _, rfl, by rw [if_pos q4], f1⟩
  · refine W_t (inB_n (by omega) (by decide)) ?_
    rw [hR.2.2.2.2.2.2 s q2]
    refine ⟨f1.mono, _, rfl, ?_, f1⟩
    rw [if_neg q4, if_pos]
    rcases (show n = 0 ∨ n = 1 by omega) with rfl | rfl
    · exact absurd rfl q4
    · rfl
set_option maxRecDepth 4096 in
theorem c43 : (43 : Int32).toNatClampNeg = 0 + 43 := by decide +kernel
set_option maxRecDepth 4096 in
/-- fits -/
theorem f159 {d : Nat} {x1 x2 x3 : Int32} (h : RI0 S tp T E A mk) : Sp (F (d + 4) 159 [.ref 39, .int x1, .int x2, .int x3] S) (fun v S' => ∃ y, v = some (.int y) ∧ y = nI (sref T (pw (posA T E A)) (ptn (posA T E A)) x1 x2 x3) ∧ Fr ThP nol S S') := by
  obtain ⟨hT, hok, -⟩ := h.ok
  refine fw159 (w159_0 ?_)
  refine W_t (h.1.k39) ?_
  refine W_s fun S1 e1 => ?_
  have f1 : Fr ThP nol S S1 := by rw [e1]; exact Fr.putI ⟨rfl, rfl⟩
  have h1 := h.fr f1 ThP_s
  have hM := h1.1
  have hR := h1.2.2.1
  obtain ⟨⟨hr, h43, -, -⟩, -⟩ := h1.row
  simp only [hM.k39, hM.r39_36, hM.k63, hM.n63, z0c, eq_self, if_true, Nat.reduceAdd, true_and]
  refine W_t (inB_n (n := 43) (by omega) (by decide)) ?_
  rw [c43, h43]
  have one : ∀ y : Int32, y = bi (actsL T (pw (posA T E A)) (ptn (posA T E A)) = []) → WP (P159 (F (d + 3))) (1, [.ref 39, .int x1, .int x2, .int x3], [.int y, .int x3, .int x2, .int x1, .int 0, .ref 39], S1) (fun v S' => (gZ S ≤ gZ S' ∧ gU S ≤ gU S') ∧ ∃ y, v = some (.int y) ∧ y = nI (sref T (pw (posA T E A)) (ptn (posA T E A)) x1 x2 x3) ∧ Fr ThP nol S S') := by
    intro y hy
    refine w159_1 ?_
    simp only [hM.k39, z0c, eq_self, if_true, Nat.reduceAdd, true_and]
    rw [hy]
    refine W_I (f147 (o := 0) (ov := actsL T (pw (posA T E A)) (ptn (posA T E A)) = []) hM hR hr (by omega) hok.1) ?_
    exact ⟨f1.mono, _, rfl, rfl, f1⟩
  refine W_if (fun q => ?_) (fun q => ?_)
  · exact one 1 (bi_t ((pys_pos (ptn_lt _)).mp q)).symm
  · exact one 0 (bi_f (fun z => q ((pys_pos (ptn_lt _)).mpr z))).symm
set_option maxRecDepth 4096 in
/-- keeps: the row goes to what was before -/
theorem f155 {d : Nat} (h : RI0 S tp T E A mk) (hl : A.length < 60) : Sp (F (d + 1) 155 [.ref 39] S) (fun v S' => v = none ∧ Fr (fun a k => (a = 64 ∧ 64 * A.length ≤ k ∧ k < 64 * A.length + 64) ∨ (a = 39 ∧ k = 38)) nol S S' ∧ gI S' 39 38 = nI (A.length + 1) ∧ ∀ k, k < 64 → gI S' 64 (64 * A.length + k) = gI S 63 (0 + k)) := by
  have h38 := h.2.2.2.2.2.1
  refine fw155 (w155_0 ?_)
  refine W_t (h.1.k39) ?_
  rw [h38]
  refine W_f (by rw [show (60 : Int32) = nI 60 from rfl, i_eq (by omega) (by decide)]; omega) ?_
  show WP _ _ _
  refine w155_2 ?_
  have key : ∀ (n k : Nat) (S1 : St), n = 64 - k → k ≤ 64 → Fr (fun a k => (a = 64 ∧ 64 * A.length ≤ k ∧ k < 64 * A.length + 64) ∨ (a = 39 ∧ k = 38)) nol S S1 → gI S1 39 38 = nI A.length → (∀ j, j < k → gI S1 64 (64 * A.length + j) = gI S 63 (0 + j)) → WP (P155 (F d)) (3, [.ref 39, .int (nI k)], [], S1) (fun v S' => (gZ S ≤ gZ S' ∧ gU S ≤ gU S') ∧ v = none ∧ Fr (fun a k => (a = 64 ∧ 64 * A.length ≤ k ∧ k < 64 * A.length + 64) ∨ (a = 39 ∧ k = 38)) nol S S' ∧ gI S' 39 38 = nI (A.length + 1) ∧ ∀ k, k < 64 → gI S' 64 (64 * A.length + k) = gI S 63 (0 + k)) := by
    intro n
    induction n with
    | zero =>
      intro k S1 hn hk f1 hd h0
      have e : k = 64 := by omega
      subst e
      have hM1 := h.1.fr f1
      refine w155_3 ?_
      refine W_f (by decide +kernel) ?_
      simp only [hM1.k39, z0c, eq_self, if_true, Nat.reduceAdd, true_and]
      rw [hd, nI_1]
      refine W_s fun S2 e2 => ?_
      have f2 : Fr (fun a k => (a = 64 ∧ 64 * A.length ≤ k ∧ k < 64 * A.length + 64) ∨ (a = 39 ∧ k = 38)) nol S1 S2 := by rw [e2]; exact Fr.putI (Or.inr ⟨rfl, rfl⟩)
      exact ⟨(f1.tr f2).mono, rfl, f1.tr f2, by rw [e2, gI_pI, if_pos ⟨rfl, rfl⟩], fun k hk => by rw [e2, gI_pI, if_neg (by omega)]; exact h0 k hk⟩
    | succ n ih =>
      intro k S1 hn hk f1 hd h0
      have hM1 := h.1.fr f1
      refine w155_3 ?_
      refine W_t (by rw [k64, i_lt (by omega) (by decide)]; omega) ?_
      simp only [hM1.k39, hM1.r39_36, hM1.k63, hM1.n63, hM1.r39_37, hM1.k64, hM1.n64, z0c, eq_self, if_true, Nat.reduceAdd, true_and]
      rw [hd, k64, pk_mul, nI_add]
      refine W_t (inB_n (by omega) (by decide)) ?_
      refine W_t (inB_n (by omega) (by decide)) ?_
      rw [nI_clamp (n := k) (by omega), nI_clamp (by omega)]
      refine W_s fun S2 e2 => ?_
      have f2 : Fr (fun a k => (a = 64 ∧ 64 * A.length ≤ k ∧ k < 64 * A.length + 64) ∨ (a = 39 ∧ k = 38)) nol S1 S2 := by rw [e2]; exact Fr.putI (Or.inl ⟨rfl, by omega, by omega⟩)
      show WP _ _ _
      rw [nI_1]
      refine ih (k + 1) S2 (by omega) (by omega) (f1.tr f2) (by rw [e2, gI_pI, if_neg (by omega)]; exact hd) (fun j hj => ?_)
      rw [e2, gI_pI]
      by_cases e : j = k
      · rw [if_pos ⟨rfl, by omega⟩, e, Nat.zero_add, f1.1 _ _ (by omega)]
      · rw [if_neg (by omega)]; exact h0 j (by omega)
  exact key 64 0 S (by omega) (by omega) Fr.rf h38 (fun j hj => by omega)
/-- an act is kept and done -/
theorem keep_do {d a : Nat} (h : RI0 S tp T E A mk) (ha : a ∈ actsL T (pw (posA T E A)) (ptn (posA T E A))) {md : Nat → K} {f : St → Option Rs} {Q : Option Value → St → Prop} (hn : ∀ S', RI0 S' tp T E (A ++ [a]) mk → Fr (fun a k => a = 64 ∨ (a = 39 ∧ (38 ≤ k ∧ k ≤ 41)) ∨ (53 ≤ a ∧ a ≤ 63)) nol S S' → WR md (f S') Q) : WR md (eV (F (d + 7) 155 [.ref 39] S) fun S3 => if gK S3 39 = 8 then eV (F (d + 7) 154 [.ref 39, .int 0, .int (sI a), .int (nI (a / 4 % 16)), .int (bI a)] S3) fun S4 => f S4 else none) Q := by
  obtain ⟨hT, hok, hday⟩ := h.ok
  have hlt := hok.day_lt hT ha
  rw [hday] at hlt
  obtain ⟨hrl, hre⟩ := h.row
  refine W_Ve (f155 (d := d + 6) h hlt) ?_
  rintro S1 ⟨f1, g38, g64⟩
  have hM1 := h.1.fr f1
  refine W_t (hM1.k39) ?_
  have hR1 : RT S1 T := h.2.2.1.fr f1 (fun a k z => by rcases z with z | z <;> omega)
  have hC1 : RC S1 E := h.2.2.2.1.fr f1 (fun a k z => by rcases z with z | z <;> omega)
  have hrl1 : RoL S1 0 T (pw (posA T E A)) (ptn (posA T E A)) (pday (posA T E A)) := hrl.fr f1 (fun k _ _ z => by rcases z with z | z <;> omega)
  have hre1 : RE S1 0 (posA T E A) := hre.fr f1 (fun k _ _ _ _ z => by rcases z with z | z <;> omega)
  refine W_Ve (f154 (o := 0) (d := d) hM1 hR1 hC1 hrl1 (by omega) hok.1 (ptn_lt _) (by omega) ha) ?_
  rintro S2 ⟨f2, hrl2, hre2⟩
  have hre2 := hre2 (posA T E A) rfl rfl rfl hre1
  have fa : Fr (fun a k => a = 64 ∨ (a = 39 ∧ (38 ≤ k ∧ k ≤ 41)) ∨ (53 ≤ a ∧ a ≤ 63)) nol S S2 := (f1.weak (fun a k z => by rcases z with z | z <;> omega) (fun a k z => z)).tr (f2.weak (fun a k z => by rcases z with z | z | z <;> omega) (fun a k z => z))
  refine hn S2 ?_ fa
  obtain ⟨h1, ⟨h2a, h2b, h2c⟩, h3, h4, h5, h6, h7, h8, h9⟩ := h
  have nf : ∀ {a k}, ¬ (a = 64 ∨ (a = 39 ∧ (38 ≤ k ∧ k ≤ 41)) ∨ (53 ≤ a ∧ a ≤ 63)) → gI S2 a k = gI S a k := fun z => fa.1 _ _ z
  have hpw : pw (posA T E (A ++ [a])) = aft T (pw (posA T E A)) (ptn (posA T E A)) a := by rw [posA_app]; rfl
  have hpd : pday (posA T E (A ++ [a])) = pday (posA T E A) + 1 := by rw [posA_app]; rfl
  have hpt : ptn (posA T E (A ++ [a])) = 1 - ptn (posA T E A) := by
    show pday (posA T E (A ++ [a])) % 2 = 1 - pday (posA T E A) % 2
    rw [hpd]; omega
  refine ⟨hM1.fr f2, ⟨by rw [nf (by omega)]; exact h2a, fun i v hv => by rw [nf (by omega)]; exact h2b i v hv, h2c⟩, hR1.do' f2, hC1.do' f2, RwF.of (by rw [hpw, hpt, hpd]; exact hrl2) (by rw [posA_app]; exact hre2), ?_, fun j hj => ?_, fun i hi => (h8 i hi).fr fa (fun a k z y => by rcases z with z | z | z <;> omega), lgl_snoc h9 ha⟩
  · rw [f2.1 _ _ (by show ¬ (_ ∨ _); omega), g38, List.length_append]
    rfl
  · rw [List.length_append] at hj
    have hj : j < A.length + 1 := hj
    by_cases e : j = A.length
    · rw [e, List.take_append_of_le_length (Nat.le_refl _), List.take_length]
      refine h5.cg (fun k hk => ?_)
      show gI S2 64 (64 * A.length + k) = gI S 63 (0 + k)
      rw [f2.1 _ _ (by show ¬ (_ ∨ _); omega)]
      exact g64 k hk
    · rw [List.take_append_of_le_length (by omega)]
      refine (h7 j (by omega)).cg (fun k hk => ?_)
      show gI S2 64 (64 * j + k) = gI S 64 (64 * j + k)
      rw [f2.1 _ _ (by show ¬ (_ ∨ _); omega), f1.1 _ _ (by omega)]
end RIB
