/-! the class's own methods: those that only ask, set, leave, undo -/
abbrev CP : Nat → Nat → Prop := fun a _ => a ≤ 24 ∨ (31 ≤ a ∧ a ≤ 38)
theorem PcP_dyn {pc kc : Nat} (h : pc < 25 ∧ kc < 25) : ∀ a k, PcP pc kc a k → ¬ dyn a := fun a k z y => by
  unfold dyn at y
  rcases z with z | z <;> omega
theorem isPl_17 {S : St} (h : ShC S) : isPl S 17 18 := ⟨h.k17, h.r17_0, h.k18, h.n18, Or.inl ⟨rfl, rfl⟩⟩
theorem isPl_19 {S : St} (h : ShC S) : isPl S 19 20 := ⟨h.k19, h.r19_0, h.k20, h.n20, Or.inr ⟨rfl, rfl⟩⟩
theorem sh_pc {pc kc : Nat} (h : (pc = 17 ∧ kc = 18) ∨ (pc = 19 ∧ kc = 20)) : ∀ q ∈ shC_R, ¬ PcP pc kc q.1 q.2.1 := by
  have : ∀ q ∈ shC_R, ¬ (q.1 = 18 ∨ q.1 = 20 ∨ ((q.1 = 17 ∨ q.1 = 19) ∧ 1 ≤ q.2.1)) := by decide
  intro q hq z
  refine this q hq ?_
  rcases z with z | z <;> omega
theorem sh_ge {P : Nat → Nat → Prop} (h : ∀ a k, P a k → ¬ ∃ q ∈ shC_R, q.1 = a ∧ q.2.1 = k) : ∀ q ∈ shC_R, ¬ P q.1 q.2.1 := fun q hq z => h _ _ z ⟨q, hq, rfl, rfl⟩
/-- outcomeNow -/
theorem f110 {d : Nat} {S : St} {T : TD} {E : Env → Int32} {A : List Nat} (hS : ShC S) (hC : CurC S T E A) (hI : PlI S 17 18) (hsm : small T) : Sp (F (d + 38) 110 [.ref 1] S) (fun v S' => ∃ x, v = some (.int x) ∧ x = nI (out T (-1) (-1) (pw (posA T E A)) (ptn (posA T E A))) ∧ Fq (PcP 17 18) S S' ∧ PlI S' 17 18) := by
  obtain ⟨hT, hok, -⟩ := hC.ok
  have hF := hC.2.1
  have hB := small_num hT hsm
  refine fw110 (w110_0 ?_)
  refine W_t (hS.k1) ?_
  refine W_t (hS.k1) ?_
  rw [hS.r1_6]
  refine W_t (hS.k17) ?_
  refine W_Ve (f13 (isPl_17 hS) hF hC.1 hsm hI hF.ne) ?_
  rintro S1 ⟨hp, hk, f1⟩
  have hS1 : ShC S1 := hS.fq f1 (sh_pc (Or.inl ⟨rfl, rfl⟩))
  have hP1 : SiteP S1 (posA T E A) := hC.2.2.2.1.fq f1 (fun a k z => by rcases z with z | z <;> omega)
  refine W_t (hS1.k1) ?_
  refine W_t (hS1.k1) ?_
  rw [hS1.r1_4]
  refine W_t (hS1.k9) ?_
  refine W_t (hS1.k1) ?_
  refine W_t (hS1.k9) ?_
  refine W_I (f50 hS1 hP1) ?_
  rw [hS1.r1_6]
  refine W_t (hS1.k17) ?_
  rw [hP1.2.1]
  refine W_Ie (f14 15 d _ _ 0 S1 hok.1 (ptn_lt _) hp hk (by omega) (by omega)) ?_
  rintro v S2 ⟨rfl, f2, hk2⟩
  have f2q : Fq (PcP 17 18) S1 S2 := f2.q (fun a k z => Or.inl (z.elim id False.elim))
  exact ⟨(f1.tr f2q).mono, _, rfl, rfl, f1.tr f2q, KnP.pl (hp.fr f2) hC.1 hk2⟩
/-- outcomeBehind -/
theorem f111 {d a : Nat} {S : St} {T : TD} {E : Env → Int32} {A : List Nat} (hS : ShC S) (hC : CurC S T E A) (hI : PlI S 17 18) (hsm : small T) (ha : a ∈ actsL T (pw (posA T E A)) (ptn (posA T E A))) : Sp (F (d + 38) 111 [.ref 1, .int (nI a)] S) (fun v S' => ∃ x, v = some (.int x) ∧ x = nI (out T (-1) (-1) (aft T (pw (posA T E A)) (ptn (posA T E A)) a) (1 - ptn (posA T E A)) + 2) ∧ Fq (PcP 17 18) S S' ∧ PlI S' 17 18) := by
  obtain ⟨hT, hok, -⟩ := hC.ok
  obtain ⟨a1, a2, a3⟩ := actsL_mem.mp ha
  have hF := hC.2.1
  have hB := small_num hT hsm
  have hfl := fil_aft hT hok.1 (ptn_lt _) a2 a3
  refine fw111 (w111_0 ?_)
  refine W_t (hS.k1) ?_
  refine W_t (hS.k1) ?_
  rw [hS.r1_6]
  refine W_t (hS.k17) ?_
  refine W_Ve (f13 (isPl_17 hS) hF hC.1 hsm hI hF.ne) ?_
  rintro S1 ⟨hp, hk, f1⟩
  have hS1 : ShC S1 := hS.fq f1 (sh_pc (Or.inl ⟨rfl, rfl⟩))
  have hP1 : SiteP S1 (posA T E A) := hC.2.2.2.1.fq f1 (fun a k z => by rcases z with z | z <;> omega)
  have hF1 : TF S1 (gR S1 1 3) T E := by
    rw [f1.R (by show ¬ (_ ∨ _); omega)]
    exact hF.fq f1 (PcP_dyn (by omega))
  refine W_t (hS1.k1) ?_
  refine W_t (hS1.k1) ?_
  rw [hS1.r1_4]
  refine W_t (hS1.k9) ?_
  refine W_t (hS1.k1) ?_
  refine W_t (hS1.k9) ?_
  refine W_I (f50 hS1 hP1) ?_
  refine W_t (hF1.k) ?_
  rw [hP1.2.1]
  refine W_L (f73 hF1.1.1 hok.1.1 (ptn_lt _) (cand_va hT a2) (can_in hT a2 a3)) ?_
  refine W_t (hS1.k1) ?_
  refine W_t (hS1.k1) ?_
  rw [hS1.r1_4]
  refine W_t (hS1.k9) ?_
  refine W_I (f50 hS1 hP1) ?_
  rw [hS1.r1_6]
  refine W_t (hS1.k17) ?_
  rw [i_1m (ptn_lt _)]
  refine W_Ie (f14 15 d _ _ 1 S1 (hok.1.aft hT (ptn_lt _) a2 a3) (by omega) hp hk (by omega) (by omega)) ?_
  rintro v S2 ⟨rfl, f2, hk2⟩
  have f2q : Fq (PcP 17 18) S1 S2 := f2.q (fun a k z => Or.inl (z.elim id False.elim))
  refine W_I (f11) ?_
  exact ⟨(f1.tr f2q).mono, _, rfl, rfl, f1.tr f2q, KnP.pl (hp.fr f2) hC.1 hk2⟩
/-- what the play's rows change leaves all else -/
theorem CI.pl {S S' : St} {tp : List Nat} {T : TD} {E : Env → Int32} {A : List Nat} {mk : Nat → Option MkD} (h : CI S tp T E A mk) (f : Fq (PcP 17 18) S S') (hp : PlI S' 17 18) : CI S' tp T E A mk := by
  obtain ⟨h1, h2, h3, h4, h5, h6, h7, h8⟩ := h
  have hd := PcP_dyn (pc := 17) (kc := 18) (by omega)
  refine ⟨h1.fq f (sh_pc (Or.inl ⟨rfl, rfl⟩)), f.Lv h2, h3.fq f (by show ¬ (_ ∨ _); omega) (fun k => by show ¬ (_ ∨ _); omega), h4.fq f (by show ¬ (_ ∨ _); omega) hd (fun a k z => by rcases z with z | z <;> omega) (fun k => by show ¬ (_ ∨ _); omega), h5.fq f (by show ¬ (_ ∨ _); omega) (fun k => by show ¬ (_ ∨ _); omega), h6.fq f hd (fun a k z => by rcases z with z | z <;> omega), hp, h8.fq f hd (fun k => by constructor <;> (show ¬ (_ ∨ _); omega))⟩
theorem CI.pl2 {S S' : St} {tp : List Nat} {T : TD} {E : Env → Int32} {A : List Nat} {mk : Nat → Option MkD} (h : CI S tp T E A mk) (f : Fq (PcP 19 20) S S') (hp : PlI S' 19 20) : CI S' tp T E A mk := by
  obtain ⟨h1, h2, h3, h4, h5, h6, h7, h8⟩ := h
  have hd := PcP_dyn (pc := 19) (kc := 20) (by omega)
  refine ⟨h1.fq f (sh_pc (Or.inr ⟨rfl, rfl⟩)), f.Lv h2, h3.fq f (by show ¬ (_ ∨ _); omega) (fun k => by show ¬ (_ ∨ _); omega), h4.fq f (by show ¬ (_ ∨ _); omega) hd (fun a k z => by rcases z with z | z <;> omega) (fun k => by show ¬ (_ ∨ _); omega), h5.fq f (by show ¬ (_ ∨ _); omega) (fun k => by show ¬ (_ ∨ _); omega), h6.fq f hd (fun a k z => by rcases z with z | z <;> omega), h7.fq f hd (fun k => by constructor <;> (show ¬ (_ ∨ _); omega)), hp⟩
theorem sh22 : ∀ q ∈ shC_R, q.1 ≠ 22 := by decide
theorem CI.wy {S S' : St} {tp : List Nat} {T : TD} {E : Env → Int32} {A : List Nat} {mk : Nat → Option MkD} (h : CI S tp T E A mk) (f : Fq WyP S S') : CI S' tp T E A mk := by
  obtain ⟨h1, h2, h3, h4, h5, h6, h7, h8⟩ := h
  have hw : ∀ {a k}, WyP a k → a = 22 := fun z => z
  refine ⟨h1.fq f (fun q hq z => sh22 q hq (hw z)), f.Lv h2, h3.fq f (fun z => by have := hw z; omega) (fun k z => by have := hw z; omega), h4.fq f (fun z => by have := hw z; omega) WyP_dyn (fun a k z => by have := hw z; omega) (fun k z => by have := hw z; omega), h5.fq f (fun z => by have := hw z; omega) (fun k z => by have := hw z; omega), h6.fq f WyP_dyn (fun a k z => by have := hw z; omega), h7.fq f WyP_dyn (fun k => ⟨fun z => by have := hw z; omega, fun z => by have := hw z; omega⟩), h8.fq f WyP_dyn (fun k => ⟨fun z => by have := hw z; omega, fun z => by have := hw z; omega⟩)⟩
/-! the answers -/
def aStone (T : TD) (x1 x2 : Int32) : Int32 := if x1 < 0 ∨ tN T ≤ x1.toNatClampNeg then -1 else if x2 = 0 then nI (tK T x1.toNatClampNeg) else if x2 = 1 then nI (tB T x1.toNatClampNeg) else -1
section CLM
variable {S : St} {tp : List Nat} {T : TD} {E : Env → Int32} {A : List Nat} {mk : Nat → Option MkD}
theorem f89 {d : Nat} {x1 x2 : Int32} (h : CI S tp T E A mk) : F (d + 1) 89 [.ref 1, .int x1, .int x2] S = some (some (.int (aStone T x1 x2)), S) := by
  have hS := h.1
  have hF := h.2.2.2.1.2.1
  have hT := hF.1.1.1
  have hN := hT.2.2.2.1
  obtain ⟨k1, k2, k3⟩ := hF.1.1.2.2.2.2.2.2.1
  obtain ⟨l1, l2, l3⟩ := hF.1.1.2.2.2.2.2.2.2
  refine fq89 (w89_0 ?_)
  refine W_if (fun q => ?_) (fun q => ?_)
  · exact ⟨by unfold aStone; rw [if_pos (Or.inl q)], rfl⟩
  obtain ⟨s, hs, rfl⟩ := nI_of q
  refine W_t (hS.k1) ?_
  refine W_t (hF.k) ?_
  rw [hF.1.1.2.2.2.2.2.1]
  refine W_if (fun q2 => ?_) (fun q2 => ?_)
  · rw [i_lt hs (by omega)] at q2
    have hc0 : ¬ (nI s < 0 ∨ tN T ≤ (nI s).toNatClampNeg) := by
      rw [nI_clamp hs]
      rintro (z | z)
      · exact q z
      · omega
    refine W_if (fun q3 => ?_) (fun q3 => ?_)
    · refine W_t (hS.k1) ?_
      refine W_t (hF.k) ?_
      refine W_t (⟨k1, by rw [k2]; exact inB_n (by omega) (by decide)⟩) ?_
      rw [nI_clamp hs, k3 s q2]
      exact ⟨by unfold aStone; rw [if_neg hc0, if_pos q3, nI_clamp hs], rfl⟩
    refine W_if (fun q4 => ?_) (fun q4 => ?_)
    · refine W_t (hS.k1) ?_
      refine W_t (hF.k) ?_
      refine W_t (⟨l1, by rw [l2]; exact inB_n (by omega) (by decide)⟩) ?_
      rw [nI_clamp hs, l3 s q2]
      exact ⟨by unfold aStone; rw [if_neg hc0, if_neg q3, if_pos q4, nI_clamp hs], rfl⟩
    · exact ⟨by unfold aStone; rw [if_neg hc0, if_neg q3, if_neg q4], rfl⟩
  · rw [i_lt hs (by omega)] at q2
    exact ⟨by unfold aStone; rw [if_pos (Or.inr (by rw [nI_clamp hs]; omega))], rfl⟩
/-- why a stone can't be set -/
def sref (T : TD) (w tn : Nat) (x1 x2 x3 : Int32) : Nat := if ¬ (¬ x1 < 0 ∧ ¬ x2 < 0 ∧ told T x1.toNatClampNeg x2.toNatClampNeg x3.toNatClampNeg) then 1 else if actsL T w tn = [] then 2 else stoneH T w x1.toNatClampNeg x2.toNatClampNeg x3.toNatClampNeg
theorem told_b {T : TD} {s c b : Nat} (hT : okT T) (h : told T s c b) : s < 6 ∧ c < 10 ∧ 1 ≤ b ∧ b ≤ 4 ∧ (tK T s = 1 → 2 ≤ b) := by
  obtain ⟨h1, h2, h3⟩ := h
  have hN := hT.2.2.2.1
  have hW := hT.1
  have hi := hT.2.2.2.2 s h1
  have hk := hi.2.2.2.1
  rcases h3 with z | z
  · exact ⟨by omega, by omega, by omega, by omega, fun e => by omega⟩
  · exact ⟨by omega, by omega, by omega, by omega, fun e => by have := hk e; omega⟩
/-- what is told wide can't be below 0 -/
theorem told_nn {T : TD} {s c : Nat} {x : Int32} (hT : okT T) (h : told T s c x.toNatClampNeg) : ¬ x < 0 := fun z => by
  have := told_b hT h
  rw [clamp_neg z] at this
  omega
theorem sref_le (T : TD) (w tn : Nat) (x1 x2 x3 : Int32) : sref T w tn x1 x2 x3 ≤ 6 := by
  have := stoneH_le T w x1.toNatClampNeg x2.toNatClampNeg x3.toNatClampNeg
  unfold sref
  split
  · omega
  · split <;> omega
theorem gref_le (T : TD) (w tn : Nat) (x : Int32) : gref T w tn x ≤ 6 := by
  have := gateH_le T w tn x.toNatClampNeg
  unfold gref
  split
  · omega
  · split <;> omega
theorem f92 {d : Nat} {x1 x2 x3 : Int32} (h : CI S tp T E A mk) : F (d + 4) 92 [.ref 1, .int x1, .int x2, .int x3] S = some (some (.int (nI (sref T (pw (posA T E A)) (ptn (posA T E A)) x1 x2 x3))), S) := by
  have hS := h.1
  have hC := h.2.2.2.1
  have hF := hC.2.1
  have hP := hC.2.2.2.1
  obtain ⟨hT, hok, -⟩ := hC.ok
  refine fq92 (w92_0 ?_)
  refine W_t (hS.k1) ?_
  refine W_t (hF.k) ?_
  refine W_I (f62 hF.1.1) ?_
  refine W_if (fun q => ?_) (fun q => ?_)
  · rw [bi_0] at q
    exact ⟨by unfold sref; rw [if_pos q]; rfl, rfl⟩
  rw [bi_0] at q
  have q' := Classical.not_not.mp q
  refine W_t (hS.k1) ?_
  refine W_I (f108 hS hT h.2.2.2.2.1) ?_
  refine W_if (fun q2 => ?_) (fun q2 => ?_)
  · rw [bi_0] at q2
    obtain ⟨p1, p2, p3⟩ := q'
    have hb := told_b hT p3
    have p4 := told_nn hT p3
    obtain ⟨s, hs, rfl⟩ := nI_of p1
    obtain ⟨c, hc, rfl⟩ := nI_of p2
    obtain ⟨b, hb', rfl⟩ := nI_of p4
    rw [nI_clamp hs, nI_clamp hc, nI_clamp hb'] at p3 hb
    refine W_t (hS.k1) ?_
    refine W_t (hS.k1) ?_
    rw [hS.r1_4]
    refine W_t (hS.k9) ?_
    refine W_t (hF.k) ?_
    rw [hP.2.1]
    refine W_I (f64 hF.1.1 hok.1.1 p3.1 p3.2.1 hb.2.2.1 hb.2.2.2.1 hb.2.2.2.2) ?_
    exact ⟨by unfold sref; rw [if_neg q, if_neg q2, nI_clamp hs, nI_clamp hc, nI_clamp hb'], rfl⟩
  · rw [bi_0] at q2
    exact ⟨by unfold sref; rw [if_neg q, if_pos (Classical.not_not.mp q2)]; rfl, rfl⟩
end CLM
/-- an act that is not refused can be done -/
theorem sref_act {T : TD} {w tn : Nat} {s c b : Nat} (hT : okT T) (ht : told T s c b) (h : stoneH T w s c b = 0) : acS s c b ∈ actsL T w tn := by
  have hb := told_b hT ht
  obtain ⟨e1, e2, e3⟩ := acS_s s c b hb.2.1 hb.2.2.1 hb.2.2.2.1
  have h6 : ¬ acS s c b / 64 = 6 := by omega
  refine actsL_mem.mpr ⟨by unfold acS; omega, Or.inr ⟨by rw [e1, e2, e3]; exact ht, ?_⟩, by unfold canA; rw [if_neg h6, e1, e2, e3]; exact h⟩
  rw [e1, e2, e3]
  by_cases h3 : tK T s = 3
  · exact Or.inl h3
  · refine Or.inr ?_
    unfold stoneH at h
    rw [if_neg h3] at h
    by_cases q : tW T < c + b
    · rw [if_pos q] at h; omega
    · omega
theorem gref_act {T : TD} {w tn c : Nat} (hT : okT T) (hg : gbit w tn ≤ tG T) (hc : c < tW T) (h : gateH T w tn c = 0) : acG c ∈ actsL T w tn := by
  have hW := hT.1
  obtain ⟨e1, e2⟩ := acG_s c (by omega)
  have e3 : acG c % 4 = 0 := by unfold acG; omega
  refine actsL_mem.mpr ⟨by unfold acG; omega, Or.inl ⟨e1, e3, by rw [e2]; exact hc, ?_⟩, by unfold canA; rw [if_pos e1, e2]; exact h⟩
  unfold gateH at h
  by_cases q : tG T - gbit w tn = 0
  · rw [if_pos q] at h; omega
  · omega
