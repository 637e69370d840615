/-! the class's own methods: set, leave, undo, column, act, state, count -/
theorem SP_sh {S S' : St} {P PL : Nat → Nat → Prop} (h : ShC S) (f : Fr P PL S S') : ShC S' := h.of f.2.2
theorem CI.re {S S2 S3 : St} {tp : List Nat} {T : TD} {E : Env → Int32} {A A' : List Nat} {mk : Nat → Option MkD} (h : CI S tp T E A mk) (f : Fr SP SP S S2) (hC : CurC S2 T E A') (f2 : Fr LrP nol S2 S3) (hD : DoC S3 T (posA T E A')) : CI S3 tp T E A' mk ∧ Fq CP S S3 := by
  obtain ⟨h1, h2, h3, h4, h5, h6, h7, h8⟩ := h
  let P : Nat → Nat → Prop := fun a k => (9 ≤ a ∧ a ≤ 15) ∨ a = 23 ∨ (a = 1 ∧ k = 10)
  have g1 : Fq P S S2 := f.q (fun a k z => Or.inl (z.elim id id))
  have g2 : Fq P S2 S3 := f2.q (fun a k z => z.elim (fun z => Or.inr z) False.elim)
  have g2' : Fq LrP S2 S3 := f2.q (fun a k z => z.elim id False.elim)
  have g : Fq P S S3 := g1.tr g2
  have hd : ∀ a k, P a k → ¬ dyn a := fun a k z y => by
    unfold dyn at y
    rcases z with z | z | z <;> omega
  have hdL : ∀ a k, LrP a k → ¬ dyn a := fun a k z => hd a k (Or.inr z)
  have nP : ∀ a k, (a < 9 ∨ 15 < a) → a ≠ 23 → ¬ (a = 1 ∧ k = 10) → ¬ P a k := fun a k x y w z => by
    rcases z with z | z | z
    · omega
    · exact y z
    · exact w z
  refine ⟨⟨(h1.of f.2.2).of f2.2.2, g.Lv h2, h3.fq g (nP _ _ (by omega) (by omega) (by omega)) (fun k => nP _ _ (by omega) (by omega) (by omega)), hC.fq g2' (by show ¬ (_ ∨ _); omega) hdL (fun a k z => by rcases z with z | z <;> omega) (fun k => by show ¬ (_ ∨ _); omega), hD, h6.fq g hd (fun a k z y => nP a k (by omega) (by omega) (by omega) z), h7.fq g hd (fun k => ⟨nP _ _ (by omega) (by omega) (by omega), nP _ _ (by omega) (by omega) (by omega)⟩), h8.fq g hd (fun k => ⟨nP _ _ (by omega) (by omega) (by omega), nP _ _ (by omega) (by omega) (by omega)⟩)⟩, g.weak (fun a k z => by rcases z with z | z | z <;> (show _ ∨ _; omega))⟩
theorem posA_app {T : TD} {E : Env → Int32} {A : List Nat} {a : Nat} : posA T E (A ++ [a]) = perf T E (posA T E A) a := by
  unfold posA
  rw [List.foldl_append]
  rfl
theorem lgl_snoc {T : TD} {E : Env → Int32} {A : List Nat} {a : Nat} (h : lgl T E pos0 A) (ha : a ∈ actsL T (pw (posA T E A)) (ptn (posA T E A))) : lgl T E pos0 (A ++ [a]) := lgl_app.mpr ⟨h, ⟨ha, trivial⟩⟩
section CLM
variable {S : St} {tp : List Nat} {T : TD} {E : Env → Int32} {A : List Nat} {mk : Nat → Option MkD}
/-- an act is done and looked at -/
theorem perf_look {d a : Nat} (h : CI S tp T E A mk) (ha : a ∈ actsL T (pw (posA T E A)) (ptn (posA T E A))) {md : Nat → K} {f : St → Option Rs} {Q : Option Value → St → Prop} (hn : ∀ S', CI S' tp T E (A ++ [a]) mk → Fq CP S S' → WR md (f S') Q) : WR md (eV (F (d + 6) 54 [.ref 9, .ref (gR S 1 3), .int (nI a)] S) fun S5 => if gK S5 1 = 7 then eV (F (d + 6) 107 [.ref 1] S5) fun S6 => f S6 else none) Q := by
  have hC := h.2.2.2.1
  obtain ⟨hT, hok, hday⟩ := hC.ok
  refine W_Ve (f54 (d := d + 2) h.1 hC.2.2.2.1 hC.2.1 hok ha) ?_
  rintro S2 ⟨f2, hP2, h10⟩
  have hS2 := h.1.of f2.2.2
  refine W_t (hS2.k1) ?_
  have hC2 : CurC S2 T E (A ++ [a]) := by
    refine ⟨hC.1, by rw [f2.R]; exact hC.2.1.fr f2 SP_dyn, lgl_snoc hC.2.2.1 ha, by rw [posA_app]; exact hP2, HL.app (fun i v hv => ?_) ?_⟩
    · have := (List.getElem?_eq_some_iff.mp hv).1
      rw [h10, if_neg (by omega)]
      exact hC.2.2.2.2 i v hv
    · rw [h10, if_pos hday.symm]
  refine W_Ve (f107 hS2 hC2) ?_
  rintro S3 ⟨f3, hD3⟩
  obtain ⟨g1, g2⟩ := h.re f2 hC2 f3 hD3
  exact hn S3 g1 g2
/-- what comes of a stone that is set -/
def setA (T : TD) (w tn : Nat) (A : List Nat) (x1 x2 x3 : Int32) : List Nat := if sref T w tn x1 x2 x3 = 0 then A ++ [acS x1.toNatClampNeg x2.toNatClampNeg x3.toNatClampNeg] else A
set_option maxRecDepth 4096 in
theorem f90 {d : Nat} {x1 x2 x3 : Int32} (h : CI S tp T E A mk) : Sp (F (d + 7) 90 [.ref 1, .int x1, .int x2, .int x3] S) (fun v S' => ∃ x, v = some (.int x) ∧ x = nI (sref T (pw (posA T E A)) (ptn (posA T E A)) x1 x2 x3) ∧ Fq CP S S' ∧ CI S' tp T E (setA T (pw (posA T E A)) (ptn (posA T E A)) A x1 x2 x3) mk) := by
  have hS := h.1
  have hC := h.2.2.2.1
  obtain ⟨hT, hok, hday⟩ := hC.ok
  have hle := sref_le T (pw (posA T E A)) (ptn (posA T E A)) x1 x2 x3
  refine fw90 (w90_0 ?_)
  refine W_t (hS.k1) ?_
  refine W_I (f92 h) ?_
  refine W_if (fun q => ?_) (fun q => ?_)
  · have q0 : sref T (pw (posA T E A)) (ptn (posA T E A)) x1 x2 x3 = 0 := (i_eq (b := 0) (by omega) (by decide)).mp q
    have q1 := q0
    unfold sref at q1
    by_cases z1 : ¬ (¬ x1 < 0 ∧ ¬ x2 < 0 ∧ told T x1.toNatClampNeg x2.toNatClampNeg x3.toNatClampNeg)
    · rw [if_pos z1] at q1; omega
    rw [if_neg z1] at q1
    have z1 := Classical.not_not.mp z1
    by_cases z2 : actsL T (pw (posA T E A)) (ptn (posA T E A)) = []
    · rw [if_pos z2] at q1; omega
    rw [if_neg z2] at q1
    have hb := told_b hT z1.2.2
    have z3 := told_nn hT z1.2.2
    have hact := sref_act (tn := ptn (posA T E A)) hT z1.2.2 q1
    obtain ⟨s, hs, e1⟩ := nI_of z1.1
    obtain ⟨c, hc, e2⟩ := nI_of z1.2.1
    obtain ⟨b, hb', e3⟩ := nI_of z3
    have hset : setA T (pw (posA T E A)) (ptn (posA T E A)) A x1 x2 x3 = A ++ [acS x1.toNatClampNeg x2.toNatClampNeg x3.toNatClampNeg] := if_pos q0
    rw [hset]
    rw [e1, e2, e3, nI_clamp hs, nI_clamp hc, nI_clamp hb'] at hact hb
    refine W_t (hS.k1) ?_
    refine W_t (hS.k1) ?_
    rw [e1, e2, e3]
    refine W_I (f0 hb.1 hb.2.1 hb.2.2.1 hb.2.2.2.1) ?_
    rw [hS.r1_4]
    refine W_t (hS.k9) ?_
    rw [nI_clamp hs, nI_clamp hc, nI_clamp hb']
    refine perf_look (d := d) h hact (fun S' g1 g2 => ?_)
    exact ⟨g2.mono, _, rfl, rfl, g2, g1⟩
  · refine ⟨nochg S, _, rfl, rfl, Fq.rf, ?_⟩
    unfold setA
    rw [if_neg (fun z => q (by rw [z]; rfl))]
    exact h
def leaA (T : TD) (w tn : Nat) (A : List Nat) (x : Int32) : List Nat := if gref T w tn x = 0 then A ++ [acG x.toNatClampNeg] else A
set_option maxRecDepth 4096 in
theorem f91 {d : Nat} {x : Int32} (h : CI S tp T E A mk) : Sp (F (d + 7) 91 [.ref 1, .int x] S) (fun v S' => ∃ y, v = some (.int y) ∧ y = nI (gref T (pw (posA T E A)) (ptn (posA T E A)) x) ∧ Fq CP S S' ∧ CI S' tp T E (leaA T (pw (posA T E A)) (ptn (posA T E A)) A x) mk) := by
  have hS := h.1
  have hC := h.2.2.2.1
  obtain ⟨hT, hok, hday⟩ := hC.ok
  have hle := gref_le T (pw (posA T E A)) (ptn (posA T E A)) x
  refine fw91 (w91_0 ?_)
  refine W_t (hS.k1) ?_
  refine W_I (f109 hS hC h.2.2.2.2.1) ?_
  refine W_if (fun q => ?_) (fun q => ?_)
  · have q0 : gref T (pw (posA T E A)) (ptn (posA T E A)) x = 0 := (i_eq (b := 0) (by omega) (by decide)).mp q
    have q1 := q0
    unfold gref at q1
    by_cases z1 : x < 0 ∨ tW T ≤ x.toNatClampNeg
    · rw [if_pos z1] at q1; omega
    rw [if_neg z1] at q1
    by_cases z2 : actsL T (pw (posA T E A)) (ptn (posA T E A)) = []
    · rw [if_pos z2] at q1; omega
    rw [if_neg z2] at q1
    have hW := hT.1
    have hact := gref_act (tn := ptn (posA T E A)) (c := x.toNatClampNeg) hT (hok.1.g (ptn_lt _)) (by omega) q1
    obtain ⟨c, hc, e1⟩ := nI_of (fun y => z1 (Or.inl y))
    have hset : leaA T (pw (posA T E A)) (ptn (posA T E A)) A x = A ++ [acG x.toNatClampNeg] := if_pos q0
    rw [hset]
    have hc2 : c < tW T := by
      rw [e1, nI_clamp hc] at z1
      omega
    rw [e1, nI_clamp hc] at hact
    refine W_t (hS.k1) ?_
    refine W_t (hS.k1) ?_
    rw [e1]
    refine W_I (f1 (by omega)) ?_
    rw [hS.r1_4]
    refine W_t (hS.k9) ?_
    rw [nI_clamp hc]
    refine perf_look (d := d) h hact (fun S' g1 g2 => ?_)
    exact ⟨g2.mono, _, rfl, rfl, g2, g1⟩
  · refine ⟨nochg S, _, rfl, rfl, Fq.rf, ?_⟩
    unfold leaA
    rw [if_neg (fun z => q (by rw [z]; rfl))]
    exact h
set_option maxRecDepth 4096 in
theorem f93 {d : Nat} (h : CI S tp T E A mk) : Sp (F (d + 7) 93 [.ref 1] S) (fun v S' => ∃ y, v = some (.int y) ∧ y = bi (A ≠ []) ∧ Fq CP S S' ∧ CI S' tp T E A.dropLast mk) := by
  have hS := h.1
  have hC := h.2.2.2.1
  obtain ⟨hT, hok, hday⟩ := hC.ok
  have hd60 := hok.day hT
  have hP := hC.2.2.2.1
  refine fw93 (w93_0 ?_)
  refine W_t (hS.k1) ?_
  rw [hS.r1_4]
  refine W_t (hS.k9) ?_
  rw [hP.1, hday]
  refine W_if (fun q => ?_) (fun q => ?_)
  · rw [len_0 (by omega)] at q
    refine W_b (Or.inl rfl) ⟨nochg S, _, rfl, by rw [bi_f (fun z => z q)], Fq.rf, ?_⟩
    rw [q] at h ⊢
    exact h
  · rw [len_0 (by omega)] at q
    have e : A = A.dropLast ++ [A.getLast q] := (List.dropLast_concat_getLast q).symm
    have hl : A.length = A.dropLast.length + 1 := by rw [List.length_dropLast]; have := List.length_pos_iff.mpr q; omega
    have hl2 := hC.2.2.1
    rw [e] at hl2
    have hl3 := (lgl_app.mp hl2).1
    have h10 : HL S 10 A.dropLast := fun i v hv => hC.2.2.2.2 i v (by
      rw [e, List.getElem?_append_left (List.getElem?_eq_some_iff.mp hv).1]
      exact hv)
    refine W_t (hS.k1) ?_
    refine W_t (hS.k1) ?_
    refine W_t (hS.k1) ?_
    refine W_t (hS.k9) ?_
    refine W_t (hS.k9) ?_
    rw [hl, nI_pred]
    refine W_Ve (f53 (d := d + 1) hS hC.2.1 hl3 h10 rfl (by omega)) ?_
    rintro S2 ⟨f2, hP2, hH2, -⟩
    have hS2 := hS.of f2.2.2
    have hC2 : CurC S2 T E A.dropLast := ⟨hC.1, by rw [f2.R]; exact hC.2.1.fr f2 SP_dyn, hl3, hP2, hH2⟩
    refine W_t (hS2.k1) ?_
    refine W_Ve (f107 hS2 hC2) ?_
    rintro S3 ⟨f3, hD3⟩
    obtain ⟨g1, g2⟩ := h.re f2 hC2 f3 hD3
    exact W_b (Or.inr rfl) ⟨g2.mono, _, rfl, by rw [bi_t q], g2, g1⟩
def aCol (T : TD) (p : Pos) (x1 x2 : Int32) : Int32 := if x1 < 0 ∨ tW T ≤ x1.toNatClampNeg then -1 else if x2 = 0 then nI (hgt (pw p) x1.toNatClampNeg) else if x2 = 1 then nI (gat (pw p) x1.toNatClampNeg) - 1 else if x2 = 2 then nI (phin p x1.toNatClampNeg) else if x2 = 3 then nI (pown p x1.toNatClampNeg) - 1 else -1
set_option maxRecDepth 4096 in
theorem f94 {d : Nat} {x1 x2 : Int32} (h : CI S tp T E A mk) : F (d + 2) 94 [.ref 1, .int x1, .int x2] S = some (some (.int (aCol T (posA T E A) x1 x2)), S) := by
  have hS := h.1
  have hC := h.2.2.2.1
  obtain ⟨hT, hok, hday⟩ := hC.ok
  have hF := hC.2.1
  have hP := hC.2.2.2.1
  have hW := hT.1
  refine fq94 (w94_0 ?_)
  refine W_if (fun q => ?_) (fun q => ?_)
  · exact ⟨by unfold aCol; rw [if_pos (Or.inl q)], rfl⟩
  obtain ⟨s, hs, rfl⟩ := nI_of q
  refine W_t (hS.k1) ?_
  refine W_t (hF.k) ?_
  rw [hF.1.1.2.2.1]
  refine W_if (fun q2 => ?_) (fun q2 => ?_)
  · rw [i_lt hs (by omega)] at q2
    have hc0 : ¬ (nI s < 0 ∨ tW T ≤ (nI s).toNatClampNeg) := by
      rw [nI_clamp hs]
      rintro (z | z)
      · exact q z
      · omega
    rw [hS.r1_4]
    have ea : aCol T (posA T E A) (nI s) x2 = if x2 = 0 then nI (hgt (pw (posA T E A)) s) else if x2 = 1 then nI (gat (pw (posA T E A)) s) - 1 else if x2 = 2 then nI (phin (posA T E A) s) else if x2 = 3 then nI (pown (posA T E A) s) - 1 else -1 := by
      unfold aCol
      rw [if_neg hc0, nI_clamp hs]
    rw [ea]
    refine W_if (fun q3 => ?_) (fun q3 => ?_)
    · refine W_t (hS.k1) ?_
      refine W_t (hS.k9) ?_
      rw [hP.2.1]
      refine W_I (f57 hok.1.1 (by omega)) ?_
      exact ⟨by rw [if_pos q3], rfl⟩
    rw [if_neg q3]
    refine W_if (fun q4 => ?_) (fun q4 => ?_)
    · refine W_t (hS.k1) ?_
      refine W_t (hS.k9) ?_
      rw [hP.2.1]
      refine W_I (f58 hok.1.1 (by omega)) ?_
      exact ⟨by rw [if_pos q4], rfl⟩
    rw [if_neg q4]
    refine W_if (fun q5 => ?_) (fun q5 => ?_)
    · refine W_t (hS.k1) ?_
      refine W_t (hS.k9) ?_
      rw [hS.r9_5]
      refine W_t (⟨hS.k12, by rw [hS.n12]; exact inB_n (by omega) (by decide)⟩) ?_
      rw [nI_clamp hs, hP.2.2.2.2.1 s (by omega)]
      exact ⟨by rw [if_pos q5], rfl⟩
    rw [if_neg q5]
    refine W_if (fun q6 => ?_) (fun q6 => ?_)
    · refine W_t (hS.k1) ?_
      refine W_t (hS.k9) ?_
      rw [hS.r9_6]
      refine W_t (⟨hS.k13, by rw [hS.n13]; exact inB_n (by omega) (by decide)⟩) ?_
      rw [nI_clamp hs, hP.2.2.2.2.2 s (by omega)]
      exact ⟨by rw [if_pos q6], rfl⟩
    · exact ⟨by rw [if_neg q6], rfl⟩
  · rw [i_lt hs (by omega)] at q2
    exact ⟨by unfold aCol; rw [if_pos (Or.inr (by rw [nI_clamp hs]; omega))], rfl⟩
/-- of an act -/
def aAct1 (a : Nat) (x2 : Int32) : Int32 := if x2 = 0 then (if a / 64 = 6 then -2 else nI (a / 64)) else if x2 = 1 then nI (a / 4 % 16) else if x2 = 2 then (if a / 64 = 6 then 0 else nI (a % 4 + 1)) else -1
def aAct (T : TD) (w tn : Nat) (x1 x2 : Int32) : Int32 := if x1 < 0 then -1 else match (actsL T w tn)[x1.toNatClampNeg]? with
  | none => -1
  | some a => aAct1 a x2
set_option maxRecDepth 4096 in
theorem f95 {d : Nat} {x1 x2 : Int32} (h : CI S tp T E A mk) : F (d + 3) 95 [.ref 1, .int x1, .int x2] S = some (some (.int (aAct T (pw (posA T E A)) (ptn (posA T E A)) x1 x2)), S) := by
  have hS := h.1
  have hC := h.2.2.2.1
  obtain ⟨hT, hok, hday⟩ := hC.ok
  have hD := h.2.2.2.2.1
  have hl := acts_len hT (pw (posA T E A)) (ptn (posA T E A))
  refine fq95 (w95_0 ?_)
  refine W_if (fun q => ?_) (fun q => ?_)
  · exact ⟨by unfold aAct; rw [if_pos q], rfl⟩
  obtain ⟨s, hs, rfl⟩ := nI_of q
  refine W_t (hS.k1) ?_
  rw [hD.1]
  refine W_if (fun q2 => ?_) (fun q2 => ?_)
  · rw [i_lt hs (by omega)] at q2
    have hg : (actsL T (pw (posA T E A)) (ptn (posA T E A)))[s]? = some ((actsL T (pw (posA T E A)) (ptn (posA T E A)))[s]) := List.getElem?_eq_getElem q2
    generalize (actsL T (pw (posA T E A)) (ptn (posA T E A)))[s] = a at hg
    have ha := actsL_mem.mp (List.mem_of_getElem? hg)
    have ea : aAct T (pw (posA T E A)) (ptn (posA T E A)) (nI s) x2 = aAct1 a x2 := by
      unfold aAct
      rw [if_neg q, nI_clamp hs, hg]
    rw [ea]
    refine W_t (hS.k1) ?_
    rw [hS.r1_9]
    refine W_t (⟨hS.k23, by rw [hS.n23]; exact inB_n (by omega) (by decide)⟩) ?_
    rw [nI_clamp hs, hD.2 s a hg]
    unfold aAct1
    refine W_if (fun q3 => ?_) (fun q3 => ?_)
    · rw [if_pos q3]
      refine W_I (f2 (by omega)) ?_
      by_cases h6 : a / 64 = 6
      · rw [if_pos h6, if_pos h6]
        refine W_f (by decide) ?_
        exact ⟨rfl, rfl⟩
      · rw [if_neg h6, if_neg h6]
        refine W_t (rfl) ?_
        refine W_I (f3 (by omega)) ?_
        exact ⟨rfl, rfl⟩
    rw [if_neg q3]
    refine W_if (fun q4 => ?_) (fun q4 => ?_)
    · rw [if_pos q4]
      refine W_I (f4 (by omega)) ?_
      exact ⟨rfl, rfl⟩
    rw [if_neg q4]
    refine W_if (fun q5 => ?_) (fun q5 => ?_)
    · rw [if_pos q5]
      refine W_I (f2 (by omega)) ?_
      by_cases h6 : a / 64 = 6
      · rw [if_pos h6, if_pos h6]
        refine W_f (by decide) ?_
        exact ⟨rfl, rfl⟩
      · rw [if_neg h6, if_neg h6]
        refine W_t (rfl) ?_
        refine W_I (f5) ?_
        exact ⟨rfl, rfl⟩
    · rw [if_neg q5]
      exact ⟨rfl, rfl⟩
  · rw [i_lt hs (by omega)] at q2
    refine ⟨?_, rfl⟩
    unfold aAct
    rw [if_neg q, nI_clamp hs, List.getElem?_eq_none (by omega)]
def aCount (tp : List Nat) (T : TD) (A : List Nat) (x : Int32) : Int32 := if x = 0 then nI (tW T) else if x = 1 then nI (tH T) else if x = 2 then nI (tN T) else if x = 3 then bi (small T) else if x = 4 then nI A.length else if x = 5 then nI tp.length else -1
set_option maxRecDepth 4096 in
theorem f105 {d : Nat} {x : Int32} (h : CI S tp T E A mk) : F (d + 1) 105 [.ref 1, .int x] S = some (some (.int (aCount tp T A x)), S) := by
  have hS := h.1
  have hC := h.2.2.2.1
  obtain ⟨hT, hok, hday⟩ := hC.ok
  have hF := hC.2.1
  have hP := hC.2.2.2.1
  obtain ⟨-, k0, i0, i1, i2, i3, -⟩ := hF.1.1
  refine fq105 (w105_0 ?_)
  unfold aCount
  refine W_if (fun q0 => ?_) (fun q0 => ?_)
  · refine W_t (hS.k1) ?_
    refine W_t (hF.k) ?_
    exact ⟨by rw [if_pos q0, i0], rfl⟩
  rw [if_neg q0]
  refine W_if (fun q1 => ?_) (fun q1 => ?_)
  · refine W_t (hS.k1) ?_
    refine W_t (hF.k) ?_
    exact ⟨by rw [if_pos q1, i1], rfl⟩
  rw [if_neg q1]
  refine W_if (fun q2 => ?_) (fun q2 => ?_)
  · refine W_t (hS.k1) ?_
    refine W_t (hF.k) ?_
    exact ⟨by rw [if_pos q2, i3], rfl⟩
  rw [if_neg q2]
  refine W_if (fun q3 => ?_) (fun q3 => ?_)
  · refine W_t (hS.k1) ?_
    refine W_t (hF.k) ?_
    rw [if_pos q3, hF.2.2.1]
    refine W_if (fun z => ?_) (fun z => ?_)
    · rw [bi_0] at z
      exact ⟨by rw [bi_f z], rfl⟩
    · rw [bi_0] at z
      exact ⟨by rw [bi_t (Classical.not_not.mp z)], rfl⟩
  rw [if_neg q3]
  refine W_if (fun q4 => ?_) (fun q4 => ?_)
  · refine W_t (hS.k1) ?_
    rw [hS.r1_4]
    refine W_t (hS.k9) ?_
    exact ⟨by rw [if_pos q4, hP.1, hday], rfl⟩
  rw [if_neg q4]
  refine W_if (fun q5 => ?_) (fun q5 => ?_)
  · refine W_t (hS.k1) ?_
    exact ⟨by rw [if_pos q5, h.2.2.1.1], rfl⟩
  · exact ⟨by rw [if_neg q5], rfl⟩
end CLM
