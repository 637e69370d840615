/-! the reference: its truce, a row of it, why an act is refused, the next act -/
set_option maxRecDepth 4096 in
theorem z0c : (0 : Int32).toNatClampNeg = 0 := by decide +kernel
set_option maxRecDepth 4096 in
theorem k20 : (20 : Int32) = nI 20 := rfl
set_option maxRecDepth 4096 in
theorem k30 : (30 : Int32) = nI 30 := rfl
set_option maxRecDepth 4096 in
theorem k40 : (40 : Int32) = nI 40 := rfl
set_option maxRecDepth 4096 in
theorem k42 : (42 : Int32) = nI 42 := rfl
set_option maxRecDepth 4096 in
theorem k43 : (43 : Int32) = nI 43 := rfl
set_option maxRecDepth 4096 in
theorem k44 : (44 : Int32) = nI 44 := rfl
set_option maxRecDepth 4096 in
theorem k45 : (45 : Int32) = nI 45 := rfl
set_option maxRecDepth 4096 in
theorem k46 : (46 : Int32) = nI 46 := rfl
set_option maxRecDepth 4096 in
theorem k47 : (47 : Int32) = nI 47 := rfl
set_option maxRecDepth 4096 in
theorem k50 : (50 : Int32) = nI 50 := rfl
set_option maxRecDepth 4096 in
theorem k64 : (64 : Int32) = nI 64 := rfl
set_option maxRecDepth 4096 in
theorem in0 {N : Nat} (h : 0 < N) (h2 : N < 2 ^ 31) : inB 0 N := inB_n (n := 0) h h2
/-- the truce in slot j -/
def RTs (S : St) (j : Nat) (T : TD) : Prop := okT T ∧ gI S 41 j = nI (tW T) ∧ gI S 42 j = nI (tH T) ∧ gI S 43 j = nI (tN T) ∧ gI S 44 j = nI (tG T) ∧ ∀ i, i < tN T → gI S 45 (6 * j + i) = nI (tK T i) ∧ gI S 46 (6 * j + i) = nI (tB T i)
def RT (S : St) (T : TD) : Prop := okT T ∧ gI S 41 0 = nI (tW T) ∧ gI S 42 0 = nI (tH T) ∧ gI S 43 0 = nI (tN T) ∧ gI S 44 0 = nI (tG T) ∧ (∀ i, i < tN T → gI S 45 i = nI (tK T i)) ∧ ∀ i, i < tN T → gI S 46 i = nI (tB T i)
/-- what the rules ask of the row from o on -/
def RoW (S : St) (o : Nat) (T : TD) (w tn : Nat) : Prop := (∀ c, c < 10 → gI S 63 (o + c) = nI (hgt w c)) ∧ (∀ c, c < 10 → ∃ g, g ≤ 2 ∧ gI S 63 (o + 10 + c) = nI g ∧ (g = 0 ↔ gat w c = 0)) ∧ (∀ t, t < 2 → gI S 63 (o + 40 + t) = nI (tG T - gbit w t)) ∧ gI S 63 (o + 42) = nI tn
theorem RoW.gz {S : St} {o : Nat} {T : TD} {w tn c : Nat} (h : RoW S o T w tn) (hc : c < 10) : gI S 63 (o + 10 + c) = 0 ↔ gat w c = 0 := by
  obtain ⟨g, h1, h2, h3⟩ := h.2.1 c hc
  rw [h2, c0, i_eq (by omega) (by decide)]
  exact h3
theorem RoW.gp {S : St} {o : Nat} {T : TD} {w tn c : Nat} (h : RoW S o T w tn) (hc : c < 10) : 0 < gI S 63 (o + 10 + c) ↔ gat w c ≠ 0 := by
  obtain ⟨g, h1, h2, h3⟩ := h.2.1 c hc
  rw [h2, c0, i_lt (by decide) (by omega), ne_eq, ← h3]
  omega
theorem RT.fr {S S' : St} {T : TD} {P PL : Nat → Nat → Prop} (h : RT S T) (f : Fr P PL S S') (hn : ∀ a k, P a k → ¬ (41 ≤ a ∧ a ≤ 46)) : RT S' T := by
  obtain ⟨h0, h1, h2, h3, h4, h5, h6⟩ := h
  have n : ∀ a k, 41 ≤ a → a ≤ 46 → ¬ P a k := fun a k x y z => hn a k z ⟨x, y⟩
  exact ⟨h0, by rw [f.1 _ _ (n _ _ (by omega) (by omega))]; exact h1, by rw [f.1 _ _ (n _ _ (by omega) (by omega))]; exact h2, by rw [f.1 _ _ (n _ _ (by omega) (by omega))]; exact h3, by rw [f.1 _ _ (n _ _ (by omega) (by omega))]; exact h4, fun i hi => by rw [f.1 _ _ (n _ _ (by omega) (by omega))]; exact h5 i hi, fun i hi => by rw [f.1 _ _ (n _ _ (by omega) (by omega))]; exact h6 i hi⟩
theorem RoW.fr {S S' : St} {o : Nat} {T : TD} {w tn : Nat} {P PL : Nat → Nat → Prop} (h : RoW S o T w tn) (f : Fr P PL S S') (hn : ∀ k, o ≤ k → k < o + 43 → ¬ P 63 k) : RoW S' o T w tn := by
  obtain ⟨h1, h2, h3, h4⟩ := h
  refine ⟨fun c hc => by rw [f.1 _ _ (hn _ (by omega) (by omega))]; exact h1 c hc, fun c hc => ?_, fun t ht => by rw [f.1 _ _ (hn _ (by omega) (by omega))]; exact h3 t ht, by rw [f.1 _ _ (hn _ (by omega) (by omega))]; exact h4⟩
  obtain ⟨g, r1, r2, r3⟩ := h2 c hc
  exact ⟨g, r1, by rw [f.1 _ _ (hn _ (by omega) (by omega))]; exact r2, r3⟩
theorem bi_cg {p q : Prop} [Decidable p] [Decidable q] (h : p ↔ q) : bi p = bi q := by
  by_cases hp : p
  · rw [bi_t hp, bi_t (h.mp hp)]
  · rw [bi_f hp, bi_f (fun z => hp (h.mpr z))]
section REF
variable {S : St} {T : TD} {o w tn : Nat}
set_option maxRecDepth 4096 in
theorem f114 {d : Nat} {x0 x1 x2 : Int32} : F (d + 1) 114 [.int x0, .int x1, .int x2] S = some (some (.int (bi (¬ x0 < x1 ∧ ¬ x2 < x0))), S) := by
  refine fq114 (w114_0 ?_)
  refine W_if (fun q => ?_) (fun q => ?_)
  · exact W_b (Or.inl rfl) ⟨by rw [bi_f (fun z => z.1 q)], rfl⟩
  refine W_if (fun q2 => ?_) (fun q2 => ?_)
  · exact W_b (Or.inl rfl) ⟨by rw [bi_f (fun z => z.2 q2)], rfl⟩
  · exact W_b (Or.inr rfl) ⟨by rw [bi_t ⟨q, q2⟩], rfl⟩
set_option maxRecDepth 4096 in
theorem f143 {d : Nat} {x : Int32} (hM : ShM S) (hR : RT S T) : F (d + 1) 143 [.ref 39, .int x] S = some (some (.int (bi (¬ x < 0 ∧ x.toNatClampNeg < tW T))), S) := by
  have hW := hR.1.1
  refine fq143 (w143_0 ?_)
  refine W_if (fun q => ?_) (fun q => ?_)
  · exact W_b (Or.inl rfl) ⟨by rw [bi_f (fun z => z.1 q)], rfl⟩
  obtain ⟨c, hc, rfl⟩ := nI_of q
  simp only [hM.k39, hM.r39_10, hM.k41, hM.n41, z0c, eq_self, if_true, Nat.reduceAdd, true_and]
  refine W_t (in0 (by decide) (by decide)) ?_
  rw [hR.2.1]
  refine W_if (fun q2 => ?_) (fun q2 => ?_)
  · rw [i_lt hc (by omega)] at q2
    exact W_b (Or.inr rfl) ⟨by rw [bi_t ⟨q, by rw [nI_clamp hc]; exact q2⟩], rfl⟩
  · rw [i_lt hc (by omega)] at q2
    exact W_b (Or.inl rfl) ⟨by rw [bi_f (fun z => by rw [nI_clamp hc] at z; exact q2 z.2)], rfl⟩
set_option maxRecDepth 4096 in
theorem f144 {d c : Nat} (hM : ShM S) (hR : RT S T) (hc : c < tW T) : F (d + 1) 144 [.ref 39, .int (nI c)] S = some (some (.int (nI (tW T - 1 - c))), S) := by
  have hW := hR.1.1
  refine fq144 (w144_0 ?_)
  simp only [hM.k39, hM.r39_10, hM.k41, hM.n41, z0c, eq_self, if_true, Nat.reduceAdd, true_and]
  refine W_t (in0 (by decide) (by decide)) ?_
  exact ⟨by rw [hR.2.1, c1, pk_sub (by omega), pk_sub (by omega)], rfl⟩
/-- as wide as told -/
abbrev wideS (T : TD) (s : Nat) (x : Int32) : Prop := if tK T s = 5 then ¬ x < 1 ∧ ¬ nI (tB T s) < x else x = nI (tB T s)
set_option maxRecDepth 4096 in
theorem f145 {d s : Nat} {x : Int32} (hM : ShM S) (hR : RT S T) (hs : s < tN T) : F (d + 2) 145 [.ref 39, .int (nI s), .int x] S = some (some (.int (bi (wideS T s x))), S) := by
  have hN := hR.1.2.2.2.1
  have hi := hR.1.2.2.2.2 s hs
  refine fq145 (w145_0 ?_)
  simp only [hM.k39, hM.r39_14, hM.k45, hM.n45, hM.r39_15, hM.k46, hM.n46, z0c, eq_self, if_true, Nat.reduceAdd, true_and]
  refine W_t (inB_n (by omega) (by decide)) ?_
  rw [nI_clamp (by omega), hR.2.2.2.2.2.1 s hs]
  refine W_if (fun q => ?_) (fun q => ?_)
  · have q : tK T s = 5 := (i_eq (b := 5) (by omega) (by decide)).mp q
    refine W_t (inB_n (by omega) (by decide)) ?_
    rw [hR.2.2.2.2.2.2 s hs]
    refine W_I (f114) ?_
    exact W_b bi_01 ⟨congrArg (fun z => some (Value.int z)) (bi_cg (by unfold wideS; rw [if_pos q])), rfl⟩
  · have q : ¬ tK T s = 5 := fun z => q (by rw [z]; rfl)
    refine W_t (inB_n (by omega) (by decide)) ?_
    rw [hR.2.2.2.2.2.2 s hs]
    refine W_if (fun q2 => ?_) (fun q2 => ?_)
    · exact W_b (Or.inr rfl) ⟨by rw [bi_t (by unfold wideS; rw [if_neg q]; exact q2)], rfl⟩
    · exact W_b (Or.inl rfl) ⟨by rw [bi_f (by unfold wideS; rw [if_neg q]; exact q2)], rfl⟩
/-- what is told, as the reference asks it -/
theorem wide_told {s c : Nat} {x : Int32} (hT : okT T) (hs : s < tN T) (hc : c < tW T) : (wideS T s x ∧ ¬ (tK T s = 3 ∧ tW T - 1 - c = c)) ↔ told T s c x.toNatClampNeg := by
  have hi := hT.2.2.2.2 s hs
  unfold wideS told
  by_cases h5 : tK T s = 5
  · rw [if_pos h5]
    constructor
    · rintro ⟨⟨h1, h2⟩, -⟩
      refine ⟨hs, hc, Or.inl ⟨h5, ?_⟩⟩
      have h0 : ¬ x < 0 := fun y => h1 (by
        have := Int32.lt_iff_toInt_lt.mp y
        apply Int32.lt_iff_toInt_lt.mpr
        have e : (1 : Int32).toInt = 1 := by decide
        have e0 : (0 : Int32).toInt = 0 := by decide
        omega)
      obtain ⟨b, hb, rfl⟩ := nI_of h0
      rw [nI_clamp hb]
      rw [c1, i_lt hb (by decide)] at h1
      rw [i_lt (by omega) hb] at h2
      omega
    · rintro ⟨-, -, z | z⟩
      · have h0 : ¬ x < 0 := fun y => by have := clamp_neg y; omega
        obtain ⟨b, hb, rfl⟩ := nI_of h0
        rw [nI_clamp hb] at z
        refine ⟨⟨?_, ?_⟩, fun y => by omega⟩
        · rw [c1, i_lt hb (by decide)]; omega
        · rw [i_lt (by omega) hb]; omega
      · exact absurd h5 z.1
  · rw [if_neg h5]
    constructor
    · rintro ⟨h1, h2⟩
      refine ⟨hs, hc, Or.inr ⟨h5, by rw [h1, nI_clamp (by omega)], fun z => h2 ⟨z.1, z.2.symm⟩⟩⟩
    · rintro ⟨-, -, z | z⟩
      · exact absurd z.1 h5
      · have h0 : ¬ x < 0 := fun y => by have := clamp_neg y; omega
        obtain ⟨b, hb, rfl⟩ := nI_of h0
        rw [nI_clamp hb] at z
        exact ⟨by rw [z.2.1], fun y => z.2.2 ⟨y.1, y.2.symm⟩⟩
end REF
