/-! the class's own methods: state, pays, days, holds, best, mason, reached, histories -/
def aState (T : TD) (p : Pos) (x : Int32) : Int32 := if x = 0 then nI (pday p) else if x = 1 then (if actsL T (pw p) (ptn p) = [] then -1 else nI (ptn p)) else if x = 2 then bi (closed T (pw p)) else if x = 3 then (if actsL T (pw p) (ptn p) = [] then nI (payr T (pw p) (ptn p)) else -1) else if x = 4 then pbill p else if x = 5 then nI (phof p 0) else if x = 6 then nI (phof p 1) else if x = 7 then nI (tG T - gbit (pw p) 0) else if x = 8 then nI (tG T - gbit (pw p) 1) else nI (actsL T (pw p) (ptn p)).length
section CLM
variable {S : St} {tp : List Nat} {T : TD} {E : Env → Int32} {A : List Nat} {mk : Nat → Option MkD}
set_option maxRecDepth 4096 in
theorem f194 {d : Nat} {x : Int32} (h : CI S tp T E A mk) (hx : x = 0 ∨ x = 1 ∨ x = 2 ∨ x = 3 ∨ x = 4 ∨ x = 5 ∨ x = 6 ∨ x = 7 ∨ x = 8 ∨ x = 9) : F (d + 4) 194 [.ref 1, .int x] S = some (some (.int (aState T (posA T E A) x)), S) := by
  have hS := h.1
  have hC := h.2.2.2.1
  obtain ⟨hT, hok, hday⟩ := hC.ok
  have hF := hC.2.1
  have hP := hC.2.2.2.1
  have hD := h.2.2.2.2.1
  refine fq194 (w194_0 ?_)
  unfold aState
  rw [hS.r1_4]
  refine W_if (fun q0 => ?_) (fun q0 => ?_)
  · refine W_t (hS.k1) ?_
    refine W_t (hS.k9) ?_
    exact ⟨by rw [if_pos q0, hP.1], rfl⟩
  rw [if_neg q0]
  refine W_if (fun q1 => ?_) (fun q1 => ?_)
  · refine W_t (hS.k1) ?_
    refine W_I (f108 hS hT hD) ?_
    rw [if_pos q1]
    refine W_if (fun z => ?_) (fun z => ?_)
    · rw [bi_0] at z
      refine W_t (hS.k1) ?_
      rw [hS.r1_4]
      refine W_t (hS.k9) ?_
      refine W_I (f50 hS hP) ?_
      exact ⟨by rw [if_neg z], rfl⟩
    · rw [bi_0] at z
      exact ⟨by rw [if_pos (Classical.not_not.mp z)], rfl⟩
  rw [if_neg q1]
  refine W_if (fun q2 => ?_) (fun q2 => ?_)
  · refine W_t (hS.k1) ?_
    refine W_t (hS.k1) ?_
    refine W_t (hS.k9) ?_
    refine W_t (hF.k) ?_
    rw [hP.2.1]
    refine W_I (f74 hF.1.1 hok.1.1) ?_
    rw [if_pos q2]
    refine W_if (fun z => ?_) (fun z => ?_)
    · rw [bi_0] at z
      exact ⟨by rw [bi_f z], rfl⟩
    · rw [bi_0] at z
      exact ⟨by rw [bi_t (Classical.not_not.mp z)], rfl⟩
  rw [if_neg q2]
  refine W_if (fun q3 => ?_) (fun q3 => ?_)
  · refine W_t (hS.k1) ?_
    refine W_I (f108 hS hT hD) ?_
    rw [if_pos q3]
    refine W_if (fun z => ?_) (fun z => ?_)
    · rw [bi_0] at z
      exact ⟨by rw [if_neg z], rfl⟩
    · rw [bi_0] at z
      refine W_t (hS.k1) ?_
      refine W_t (hS.k1) ?_
      rw [hS.r1_4]
      refine W_t (hS.k9) ?_
      refine W_t (hS.k1) ?_
      refine W_t (hS.k9) ?_
      refine W_I (f50 hS hP) ?_
      refine W_t (hF.k) ?_
      rw [hP.2.1]
      refine W_I (f75 hF.1.1 hok.1.1 (ptn_lt _)) ?_
      exact ⟨by rw [if_pos (Classical.not_not.mp z)], rfl⟩
  rw [if_neg q3]
  refine W_if (fun q4 => ?_) (fun q4 => ?_)
  · refine W_t (hS.k1) ?_
    refine W_t (hS.k9) ?_
    exact ⟨by rw [if_pos q4, hP.2.2.1], rfl⟩
  rw [if_neg q4]
  refine W_if (fun q5 => ?_) (fun q5 => ?_)
  · refine W_t (hS.k1) ?_
    refine W_t (hS.k9) ?_
    rw [hS.r9_4]
    refine W_t (⟨hS.k11, by rw [hS.n11]; exact inB_n (n := 0) (by omega) (by decide)⟩) ?_
    exact ⟨by rw [if_pos q5, ← hP.2.2.2.1 0 (by omega)]; rfl, rfl⟩
  rw [if_neg q5]
  refine W_if (fun q6 => ?_) (fun q6 => ?_)
  · refine W_t (hS.k1) ?_
    refine W_t (hS.k9) ?_
    rw [hS.r9_4]
    refine W_t (⟨hS.k11, by rw [hS.n11]; exact inB_n (n := 1) (by omega) (by decide)⟩) ?_
    exact ⟨by rw [if_pos q6, ← hP.2.2.2.1 1 (by omega)]; rfl, rfl⟩
  rw [if_neg q6]
  refine W_if (fun q7 => ?_) (fun q7 => ?_)
  · refine W_t (hS.k1) ?_
    refine W_t (hS.k1) ?_
    refine W_t (hS.k9) ?_
    refine W_t (hF.k) ?_
    rw [hP.2.1]
    refine W_I (f69 (tn := 0) hF.1.1 hok.1.1 (by omega) (hok.1.g (by omega))) ?_
    exact ⟨by rw [if_pos q7], rfl⟩
  rw [if_neg q7]
  refine W_if (fun q8 => ?_) (fun q8 => ?_)
  · refine W_t (hS.k1) ?_
    refine W_t (hS.k1) ?_
    refine W_t (hS.k9) ?_
    refine W_t (hF.k) ?_
    rw [hP.2.1]
    refine W_I (f69 (tn := 1) hF.1.1 hok.1.1 (by omega) (hok.1.g (by omega))) ?_
    exact ⟨by rw [if_pos q8], rfl⟩
  rw [if_neg q8]
  refine W_if (fun q9 => ?_) (fun q9 => ?_)
  · refine W_t (hS.k1) ?_
    exact ⟨by rw [hD.1], rfl⟩
  · exfalso
    rcases hx with z | z | z | z | z | z | z | z | z | z
    · exact q0 z
    · exact q1 z
    · exact q2 z
    · exact q3 z
    · exact q4 z
    · exact q5 z
    · exact q6 z
    · exact q7 z
    · exact q8 z
    · exact q9 z
def aPays (T : TD) (w tn : Nat) : Int32 := if small T then nI (out T (-1) (-1) w tn % 2) else -1
def aDays (T : TD) (w tn : Nat) : Int32 := if small T then nI (out T (-1) (-1) w tn / 2) else -1
theorem CPof {pc kc : Nat} (h : pc < 25 ∧ kc < 25) : ∀ a k, PcP pc kc a k → CP a k := fun a k z => by rcases z with z | z <;> (show _ ∨ _; omega)
set_option maxRecDepth 4096 in
theorem f96 {d : Nat} (h : CI S tp T E A mk) : Sp (F (d + 39) 96 [.ref 1] S) (fun v S' => ∃ x, v = some (.int x) ∧ x = aPays T (pw (posA T E A)) (ptn (posA T E A)) ∧ Fq CP S S' ∧ CI S' tp T E A mk) := by
  have hS := h.1
  have hC := h.2.2.2.1
  have hF := hC.2.1
  refine fw96 (w96_0 ?_)
  refine W_t (hS.k1) ?_
  refine W_t (hF.k) ?_
  rw [hF.2.2.1]
  unfold aPays
  refine W_if (fun q => ?_) (fun q => ?_)
  · rw [bi_0] at q
    exact ⟨nochg S, _, rfl, by rw [if_neg q], Fq.rf, h⟩
  · rw [bi_0] at q
    have q := Classical.not_not.mp q
    refine W_t (hS.k1) ?_
    refine W_Ie (f110 hS hC h.2.2.2.2.2.2.1 q) ?_
    rintro v S1 ⟨rfl, f1, hp⟩
    refine W_I (f9) ?_
    exact ⟨f1.mono, _, rfl, by rw [if_pos q], f1.weak (CPof (by omega)), h.pl f1 hp⟩
set_option maxRecDepth 4096 in
theorem f97 {d : Nat} (h : CI S tp T E A mk) : Sp (F (d + 39) 97 [.ref 1] S) (fun v S' => ∃ x, v = some (.int x) ∧ x = aDays T (pw (posA T E A)) (ptn (posA T E A)) ∧ Fq CP S S' ∧ CI S' tp T E A mk) := by
  have hS := h.1
  have hC := h.2.2.2.1
  have hF := hC.2.1
  refine fw97 (w97_0 ?_)
  refine W_t (hS.k1) ?_
  refine W_t (hF.k) ?_
  rw [hF.2.2.1]
  unfold aDays
  refine W_if (fun q => ?_) (fun q => ?_)
  · rw [bi_0] at q
    exact ⟨nochg S, _, rfl, by rw [if_neg q], Fq.rf, h⟩
  · rw [bi_0] at q
    have q := Classical.not_not.mp q
    refine W_t (hS.k1) ?_
    refine W_Ie (f110 hS hC h.2.2.2.2.2.2.1 q) ?_
    rintro v S1 ⟨rfl, f1, hp⟩
    have ho := out_le (T := T) (m := -1) (r := -1) (w := pw (posA T E A)) (ptn_lt (posA T E A))
    refine W_I (f10 (by omega)) ?_
    exact ⟨f1.mono, _, rfl, by rw [if_pos q], f1.weak (CPof (by omega)), h.pl f1 hp⟩
def aHolds (T : TD) (w tn : Nat) (x : Int32) : Int32 := if x < 0 then -1 else match (actsL T w tn)[x.toNatClampNeg]? with
  | none => -1
  | some a => if small T then nI ((out T (-1) (-1) (aft T w tn a) (1 - tn) + 2) / 2) else -1
set_option maxRecDepth 4096 in
theorem f99 {d : Nat} {x : Int32} (h : CI S tp T E A mk) : Sp (F (d + 39) 99 [.ref 1, .int x] S) (fun v S' => ∃ y, v = some (.int y) ∧ y = aHolds T (pw (posA T E A)) (ptn (posA T E A)) x ∧ Fq CP S S' ∧ CI S' tp T E A mk) := by
  have hS := h.1
  have hC := h.2.2.2.1
  have hF := hC.2.1
  obtain ⟨hT, hok, hday⟩ := hC.ok
  have hD := h.2.2.2.2.1
  have hl := acts_len hT (pw (posA T E A)) (ptn (posA T E A))
  refine fw99 (w99_0 ?_)
  refine W_if (fun q => ?_) (fun q => ?_)
  · exact ⟨nochg S, _, rfl, by unfold aHolds; rw [if_pos q], Fq.rf, h⟩
  obtain ⟨s, hs, rfl⟩ := nI_of q
  refine W_t (hS.k1) ?_
  rw [hD.1]
  refine W_if (fun q2 => ?_) (fun q2 => ?_)
  · rw [i_lt hs (by omega)] at q2
    have hg : (actsL T (pw (posA T E A)) (ptn (posA T E A)))[s]? = some ((actsL T (pw (posA T E A)) (ptn (posA T E A)))[s]) := List.getElem?_eq_getElem q2
    generalize (actsL T (pw (posA T E A)) (ptn (posA T E A)))[s] = a at hg
    have hm := List.mem_of_getElem? hg
    have ea : aHolds T (pw (posA T E A)) (ptn (posA T E A)) (nI s) = if small T then nI ((out T (-1) (-1) (aft T (pw (posA T E A)) (ptn (posA T E A)) a) (1 - ptn (posA T E A)) + 2) / 2) else -1 := by
      unfold aHolds
      rw [if_neg q, nI_clamp hs, hg]
    rw [ea]
    refine W_t (hS.k1) ?_
    refine W_t (hF.k) ?_
    rw [hF.2.2.1]
    refine W_if (fun q3 => ?_) (fun q3 => ?_)
    · rw [bi_0] at q3
      exact ⟨nochg S, _, rfl, by rw [if_neg q3], Fq.rf, h⟩
    · rw [bi_0] at q3
      have q3 := Classical.not_not.mp q3
      refine W_t (hS.k1) ?_
      rw [hS.r1_9]
      refine W_t (⟨hS.k23, by rw [hS.n23]; exact inB_n (by omega) (by decide)⟩) ?_
      refine W_t (hS.k1) ?_
      rw [nI_clamp hs, hD.2 s a hg]
      refine W_Ie (f111 hS hC h.2.2.2.2.2.2.1 q3 hm) ?_
      rintro v S1 ⟨rfl, f1, hp⟩
      have ho := out_le (T := T) (m := -1) (r := -1) (w := aft T (pw (posA T E A)) (ptn (posA T E A)) a) (tn := 1 - ptn (posA T E A)) (by omega)
      refine W_I (f10 (by omega)) ?_
      exact ⟨f1.mono, _, rfl, by rw [if_pos q3], f1.weak (CPof (by omega)), h.pl f1 hp⟩
  · rw [i_lt hs (by omega)] at q2
    refine ⟨nochg S, _, rfl, ?_, Fq.rf, h⟩
    unfold aHolds
    rw [if_neg q, nI_clamp hs, List.getElem?_eq_none (by omega)]
/-- the first act that is best -/
def aBest (T : TD) (w tn : Nat) (x : Int32) : Prop := if ¬ small T ∨ actsL T w tn = [] then x = -1 else ∃ j a, x = nI j ∧ (actsL T w tn)[j]? = some a ∧ out T (-1) (-1) (aft T w tn a) (1 - tn) + 2 = out T (-1) (-1) w tn ∧ ∀ i b, i < j → (actsL T w tn)[i]? = some b → out T (-1) (-1) (aft T w tn b) (1 - tn) + 2 ≠ out T (-1) (-1) w tn
theorem scr_lt {o tn : Nat} (h : o < 200) : scr o tn ≤ 1000 := by unfold scr; split <;> omega
/-- so far the best one is of place j, and of score m -/
def bstI (tn : Nat) (f : Nat → Nat) (L : List Nat) (i : Nat) (x1 x2 : Int32) : Prop := (i = 0 ∧ x1 = -1 ∧ x2 = -1) ∨ ∃ j a, j < i ∧ x1 = nI j ∧ L[j]? = some a ∧ x2 = nI (scr (f a) tn) ∧ (L.take i).foldl (fun ch a => pick tn ch (f a)) none = some (f a) ∧ (∀ k b, k < j → L[k]? = some b → scr (f b) tn < scr (f a) tn)
set_option maxRecDepth 4096 in
theorem m1_lt {n : Nat} (h : n < 2 ^ 31) : (-1 : Int32) < nI n := by
  apply Int32.lt_iff_toInt_lt.mpr
  rw [nI_toInt h]
  have : (-1 : Int32).toInt = -1 := by decide
  omega
theorem bstI_step {tn i a : Nat} {f : Nat → Nat} {L : List Nat} {x1 x2 : Int32} (h : bstI tn f L i x1 x2) (ha : L[i]? = some a) (hf : ∀ b, b ∈ L → f b < 200) : (x2 < nI (scr (f a) tn) → bstI tn f L (i + 1) (nI i) (nI (scr (f a) tn))) ∧ (¬ x2 < nI (scr (f a) tn) → bstI tn f L (i + 1) x1 x2) := by
  have hfa := scr_lt (tn := tn) (hf a (List.mem_of_getElem? ha))
  have htk : L.take (i + 1) = L.take i ++ [a] := by rw [List.take_add_one, ha]; rfl
  rcases h with ⟨rfl, rfl, rfl⟩ | ⟨j, b, hj, rfl, hb, rfl, hfo, hlo⟩
  · refine ⟨fun _ => Or.inr ⟨0, a, by omega, rfl, ha, rfl, ?_, fun k b hk => by omega⟩, fun z => absurd (m1_lt (by omega)) z⟩
    rw [htk]
    rfl
  · have hfb := scr_lt (tn := tn) (hf b (List.mem_of_getElem? hb))
    have hstep : (L.take (i + 1)).foldl (fun ch a => pick tn ch (f a)) none = pick tn (some (f b)) (f a) := by
      rw [htk, List.foldl_append, hfo]; rfl
    refine ⟨fun z => ?_, fun z => ?_⟩
    · rw [i_lt (by omega) (by omega)] at z
      refine Or.inr ⟨i, a, by omega, rfl, ha, rfl, ?_, fun k c hk hc => ?_⟩
      · rw [hstep]
        unfold pick
        simp only []
        rw [if_pos z]
      · by_cases e : scr (f c) tn ≤ scr (f b) tn
        · omega
        · exfalso
          -- a later one that is better would have been taken
          have key : ∀ (M : List Nat) (x : Option Nat) (v : Nat), M.foldl (fun ch a => pick tn ch (f a)) x = some v → (∀ c, c ∈ M → scr (f c) tn ≤ scr v tn) ∧ ∀ u, x = some u → scr u tn ≤ scr v tn := by
            intro M
            induction M with
            | nil =>
              intro x v hv
              refine ⟨fun c hc => absurd hc List.not_mem_nil, fun u hu => ?_⟩
              have hv : x = some v := hv
              rw [hu] at hv
              rw [Option.some.inj hv]
              exact Nat.le_refl _
            | cons c M ih =>
              intro x v hv
              obtain ⟨h1, h2⟩ := ih (pick tn x (f c)) v hv
              have hc1 : scr (f c) tn ≤ scr v tn ∧ ∀ u, x = some u → scr u tn ≤ scr v tn := by
                cases x with
                | none => exact ⟨h2 (f c) rfl, fun u hu => by cases hu⟩
                | some u =>
                  have h2 : ∀ y, (if scr u tn < scr (f c) tn then some (f c) else some u) = some y → scr y tn ≤ scr v tn := h2
                  by_cases q : scr u tn < scr (f c) tn
                  · have := h2 (f c) (if_pos q)
                    exact ⟨this, fun y hy => by rw [← Option.some.inj hy]; omega⟩
                  · have := h2 u (if_neg q)
                    exact ⟨by omega, fun y hy => by rw [← Option.some.inj hy]; omega⟩
              exact ⟨fun y hy => by
                rcases List.mem_cons.mp hy with z | z
                · rw [z]; exact hc1.1
                · exact h1 y z, hc1.2⟩
          have hm : c ∈ L.take i := List.mem_of_getElem? (i := k) (by rw [List.getElem?_take_of_lt hk]; exact hc)
          exact e ((key _ _ _ hfo).1 c hm)
    · rw [i_lt (by omega) (by omega)] at z
      refine Or.inr ⟨j, b, by omega, rfl, hb, rfl, ?_, hlo⟩
      rw [hstep]
      unfold pick
      simp only []
      rw [if_neg z]
theorem scr_inj {a b tn : Nat} (ha : a < 200) (hb : b < 200) (ht : tn < 2) (h : scr a tn = scr b tn) : a = b := by
  unfold scr at h
  split at h <;> split at h <;> omega
set_option maxRecDepth 4096 in
theorem f98 {d : Nat} (h : CI S tp T E A mk) : Sp (F (d + 39) 98 [.ref 1] S) (fun v S' => ∃ x, v = some (.int x) ∧ aBest T (pw (posA T E A)) (ptn (posA T E A)) x ∧ Fq CP S S' ∧ CI S' tp T E A mk) := by
  have hF0 := h.2.2.2.1.2.1
  refine fw98 (w98_0 ?_)
  refine W_t (h.1.k1) ?_
  refine W_t (hF0.k) ?_
  rw [hF0.2.2.1]
  refine W_if (fun q => ?_) (fun q => ?_)
  · rw [bi_0] at q
    exact ⟨nochg S, _, rfl, by unfold aBest; rw [if_pos (Or.inl q)], Fq.rf, h⟩
  · rw [bi_0] at q
    have hsm := Classical.not_not.mp q
    show WP _ _ _
    obtain ⟨hT, hok, hday⟩ := h.2.2.2.1.ok
    have hl := acts_len hT (pw (posA T E A)) (ptn (posA T E A))
    have htn := ptn_lt (posA T E A)
    have hfb : ∀ b, out T (-1) (-1) (aft T (pw (posA T E A)) (ptn (posA T E A)) b) (1 - ptn (posA T E A)) + 2 < 200 := fun b => by
      have := out_le (T := T) (m := -1) (r := -1) (w := aft T (pw (posA T E A)) (ptn (posA T E A)) b) (tn := 1 - ptn (posA T E A)) (by omega)
      omega
    have key : ∀ (n i : Nat) (S1 : St) (x1 x2 : Int32), n = (actsL T (pw (posA T E A)) (ptn (posA T E A))).length - i → i ≤ (actsL T (pw (posA T E A)) (ptn (posA T E A))).length → CI S1 tp T E A mk → Fq CP S S1 → bstI (ptn (posA T E A)) (fun a => out T (-1) (-1) (aft T (pw (posA T E A)) (ptn (posA T E A)) a) (1 - ptn (posA T E A)) + 2) (actsL T (pw (posA T E A)) (ptn (posA T E A))) i x1 x2 → ∀ z4 : Value, WP (P98 (F (d + 38))) (1, [.ref 1, .int x1, .int x2, .int (nI i), z4], [], S1) (fun v S' => (gZ S ≤ gZ S' ∧ gU S ≤ gU S') ∧ ∃ x, v = some (.int x) ∧ aBest T (pw (posA T E A)) (ptn (posA T E A)) x ∧ Fq CP S S' ∧ CI S' tp T E A mk) := by
      intro n
      induction n with
      | zero =>
        intro i S1 x1 x2 hn hi h1 f1 hb z4
        have e : i = (actsL T (pw (posA T E A)) (ptn (posA T E A))).length := by omega
        refine w98_1 ?_
        refine W_t (h1.1.k1) ?_
        rw [h1.2.2.2.2.1.1]
        refine W_f (by rw [i_lt (by omega) (by omega)]; omega) ?_
        refine ⟨f1.mono, _, rfl, ?_, f1, h1⟩
        unfold aBest
        rcases hb with ⟨r1, r2, r3⟩ | ⟨j, a, hj, rfl, ha, -, hfo, hlo⟩
        · have : actsL T (pw (posA T E A)) (ptn (posA T E A)) = [] := List.length_eq_zero_iff.mp (by omega)
          rw [if_pos (Or.inr this)]
          exact r2
        · rw [if_neg]
          · rw [e, List.take_length] at hfo
            have ho : out T (-1) (-1) (pw (posA T E A)) (ptn (posA T E A)) = out T (-1) (-1) (aft T (pw (posA T E A)) (ptn (posA T E A)) a) (1 - ptn (posA T E A)) + 2 := by
              rw [out_eq hT hok.1 htn, if_neg (nI_m1 (by omega)), hfo]
              rfl
            refine ⟨j, a, rfl, ha, ho.symm, fun k b hk hb => ?_⟩
            rw [ho]
            intro z
            have := hlo k b hk hb
            simp only [z] at this
            omega
          · rintro (z | z)
            · exact z hsm
            · rw [z] at ha; simp at ha
      | succ n ih =>
        intro i S1 x1 x2 hn hi h1 f1 hb z4
        have hlt : i < (actsL T (pw (posA T E A)) (ptn (posA T E A))).length := by omega
        have hg : (actsL T (pw (posA T E A)) (ptn (posA T E A)))[i]? = some ((actsL T (pw (posA T E A)) (ptn (posA T E A)))[i]) := List.getElem?_eq_getElem hlt
        generalize (actsL T (pw (posA T E A)) (ptn (posA T E A)))[i] = a at hg
        have hm := List.mem_of_getElem? hg
        have hD := h1.2.2.2.2.1
        refine w98_1 ?_
        refine W_t (h1.1.k1) ?_
        rw [hD.1]
        refine W_t (by rw [i_lt (by omega) (by omega)]; omega) ?_
        refine W_t (h1.1.k1) ?_
        rw [h1.1.r1_9]
        refine W_t (⟨h1.1.k23, by rw [h1.1.n23]; exact inB_n (by omega) (by decide)⟩) ?_
        refine W_t (h1.1.k1) ?_
        rw [nI_clamp (by omega), hD.2 i a hg]
        refine W_Ie (f111 h1.1 h1.2.2.2.1 h1.2.2.2.2.2.2.1 hsm hm) ?_
        rintro v S2 ⟨rfl, f2, hp⟩
        have h2 := h1.pl f2 hp
        have g2 := f1.tr (f2.weak (CPof (by omega)))
        refine W_t (h2.1.k1) ?_
        rw [h2.1.r1_4]
        refine W_t (h2.1.k9) ?_
        refine W_I (f50 h2.1 h2.2.2.2.1.2.2.2.1) ?_
        refine W_I (f12 (by have := hfb a; omega) htn) ?_
        have hs := bstI_step hb hg (fun b _ => hfb b)
        refine W_if (fun z => ?_) (fun z => ?_)
        · show WP _ _ _
          refine w98_2 ?_
          show WP _ _ _
          rw [nI_1]
          exact ih (i + 1) S2 _ _ (by omega) (by omega) h2 g2 (hs.1 z) _
        · show WP _ _ _
          refine w98_2 ?_
          show WP _ _ _
          rw [nI_1]
          exact ih (i + 1) S2 _ _ (by omega) (by omega) h2 g2 (hs.2 z) _
    exact key _ 0 S (-1) (-1) rfl (by omega) h Fq.rf (Or.inl ⟨rfl, rfl, rfl⟩) .null
def aMason (T : TD) (w tn : Nat) (x1 x2 : Int32) : Int32 := if x1 < 0 ∨ 1 < x1 ∨ x2 < 0 ∨ 2 < x2 ∨ ¬ small T then -1 else nI (out T x1 x2 w tn % 2)
set_option maxRecDepth 4096 in
theorem f100 {d : Nat} {x1 x2 : Int32} (h : CI S tp T E A mk) : Sp (F (d + 38) 100 [.ref 1, .int x1, .int x2] S) (fun v S' => ∃ x, v = some (.int x) ∧ x = aMason T (pw (posA T E A)) (ptn (posA T E A)) x1 x2 ∧ Fq CP S S' ∧ CI S' tp T E A mk) := by
  have hS := h.1
  have hC := h.2.2.2.1
  have hF := hC.2.1
  obtain ⟨hT, hok, -⟩ := hC.ok
  refine fw100 (w100_0 ?_)
  unfold aMason
  refine W_if (fun q1 => ?_) (fun q1 => ?_)
  · exact ⟨nochg S, _, rfl, by rw [if_pos (Or.inl q1)], Fq.rf, h⟩
  refine W_if (fun q2 => ?_) (fun q2 => ?_)
  · exact ⟨nochg S, _, rfl, by rw [if_pos (Or.inr (Or.inl q2))], Fq.rf, h⟩
  refine W_if (fun q3 => ?_) (fun q3 => ?_)
  · exact ⟨nochg S, _, rfl, by rw [if_pos (Or.inr (Or.inr (Or.inl q3)))], Fq.rf, h⟩
  refine W_if (fun q4 => ?_) (fun q4 => ?_)
  · exact ⟨nochg S, _, rfl, by rw [if_pos (Or.inr (Or.inr (Or.inr (Or.inl q4))))], Fq.rf, h⟩
  refine W_t (hS.k1) ?_
  refine W_t (hF.k) ?_
  rw [hF.2.2.1]
  refine W_if (fun q5 => ?_) (fun q5 => ?_)
  · rw [bi_0] at q5
    exact ⟨nochg S, _, rfl, by rw [if_pos (Or.inr (Or.inr (Or.inr (Or.inr q5))))], Fq.rf, h⟩
  rw [bi_0] at q5
  have hsm := Classical.not_not.mp q5
  have hB := small_num hT hsm
  refine W_t (hS.k1) ?_
  refine W_t (hS.k1) ?_
  rw [hS.r1_7]
  refine W_t (hS.k19) ?_
  refine W_Ve (f13 (isPl_19 hS) hF hC.1 hsm h.2.2.2.2.2.2.2 hF.ne) ?_
  rintro S1 ⟨hp, hk, f1⟩
  have h1 := h.pl2 f1 (KnP.pl hp hC.1 hk)
  have hS1 := h1.1
  have hP1 := h1.2.2.2.1.2.2.2.1
  refine W_t (hS1.k1) ?_
  refine W_t (hS1.k1) ?_
  rw [hS1.r1_4]
  refine W_t (hS1.k9) ?_
  refine W_t (hS1.k1) ?_
  refine W_t (hS1.k9) ?_
  refine W_I (f50 hS1 hP1) ?_
  rw [hS1.r1_7]
  refine W_t (hS1.k19) ?_
  rw [hP1.2.1]
  refine W_Ie (f14 15 d _ _ 0 S1 hok.1 (ptn_lt _) hp hk (by omega) (by omega)) ?_
  rintro v S2 ⟨rfl, f2, hk2⟩
  have f2q : Fq (PcP 19 20) S1 S2 := f2.q (fun a k z => Or.inl (z.elim id False.elim))
  refine W_I (f9) ?_
  refine ⟨(f1.tr f2q).mono, _, rfl, ?_, (f1.tr f2q).weak (CPof (by omega)), h1.pl2 f2q (KnP.pl (hp.fr f2) hC.1 hk2)⟩
  rw [if_neg]
  rintro (z | z | z | z | z)
  · exact q1 z
  · exact q2 z
  · exact q3 z
  · exact q4 z
  · exact z hsm
def aReached (T : TD) (w tn : Nat) (x : Int32) : Int32 := if x < 0 ∨ 30 < x ∨ ¬ small T then -1 else nI (smN (indc (numl T) (wkL T w tn x.toNatClampNeg)) 3125)
theorem i_30 {n : Nat} (hn : n < 2 ^ 31) (h : ¬ (30 : Int32) < nI n) : n ≤ 30 := Nat.not_lt.mp fun z => h ((i_lt (a := 30) (by decide) hn).mpr z)
set_option maxRecDepth 4096 in
theorem f101 {d : Nat} {x : Int32} (h : CI S tp T E A mk) : Sp (F (d + 8) 101 [.ref 1, .int x] S) (fun v S' => ∃ y, v = some (.int y) ∧ y = aReached T (pw (posA T E A)) (ptn (posA T E A)) x ∧ Fq CP S S' ∧ CI S' tp T E A mk) := by
  have hS := h.1
  have hC := h.2.2.2.1
  have hF := hC.2.1
  have hP := hC.2.2.2.1
  obtain ⟨hT, hok, -⟩ := hC.ok
  refine fw101 (w101_0 ?_)
  unfold aReached
  refine W_if (fun q1 => ?_) (fun q1 => ?_)
  · exact ⟨nochg S, _, rfl, by rw [if_pos (Or.inl q1)], Fq.rf, h⟩
  obtain ⟨n, hn, rfl⟩ := nI_of q1
  refine W_if (fun q2 => ?_) (fun q2 => ?_)
  · exact ⟨nochg S, _, rfl, by rw [if_pos (Or.inr (Or.inl q2))], Fq.rf, h⟩
  have hn30 := i_30 hn q2
  refine W_t (hS.k1) ?_
  refine W_t (hF.k) ?_
  rw [hF.2.2.1]
  refine W_if (fun q5 => ?_) (fun q5 => ?_)
  · rw [bi_0] at q5
    exact ⟨nochg S, _, rfl, by rw [if_pos (Or.inr (Or.inr q5))], Fq.rf, h⟩
  rw [bi_0] at q5
  have hsm := Classical.not_not.mp q5
  refine W_t (hS.k1) ?_
  refine W_t (hS.k1) ?_
  refine W_t (hS.k1) ?_
  rw [hS.r1_4]
  refine W_t (hS.k9) ?_
  refine W_t (hS.k1) ?_
  refine W_t (hS.k9) ?_
  refine W_I (f50 hS hP) ?_
  rw [hS.r1_8]
  refine W_t (hS.k21) ?_
  rw [hP.2.1]
  refine W_Ve (f81 (b := false) hsm hok.1 (ptn_lt _) hn30 hS hF) ?_
  rintro S1 ⟨f1, hM⟩
  have f1q : Fq WyP S S1 := f1.q (fun a k z => z.elim id False.elim)
  have h1 := h.wy f1q
  refine W_t (h1.1.k1) ?_
  refine W_t (h1.1.k1) ?_
  rw [h1.1.r1_8]
  refine W_t (h1.1.k21) ?_
  refine W_Ie (f84 hsm (fun x hx => wkL_ok hT hok.1 hx) h1.1 h1.2.2.2.1.2.1 hM) ?_
  rintro v S2 ⟨rfl, f2⟩
  have f2q : Fq WyP S1 S2 := f2.q (fun a k z => z.elim id False.elim)
  refine ⟨(f1q.tr f2q).mono, _, rfl, ?_, (f1q.tr f2q).weak (fun a k z => Or.inl (by have z : a = 22 := z; omega)), h1.wy f2q⟩
  rw [if_neg, nI_clamp hn]
  rintro (z | z | z)
  · exact q1 z
  · exact q2 z
  · exact z hsm
def aHist (T : TD) (w : Nat) (x : Int32) : Int32 := if x < 0 ∨ 30 < x ∨ ¬ small T then -1 else nI ((wkL T 0 0 x.toNatClampNeg).countP (fun y => decide (numl T y = numl T w)) % md7)
set_option maxRecDepth 4096 in
theorem f102 {d : Nat} {x : Int32} (h : CI S tp T E A mk) : Sp (F (d + 8) 102 [.ref 1, .int x] S) (fun v S' => ∃ y, v = some (.int y) ∧ y = aHist T (pw (posA T E A)) x ∧ Fq CP S S' ∧ CI S' tp T E A mk) := by
  have hS := h.1
  have hC := h.2.2.2.1
  have hF := hC.2.1
  obtain ⟨hT, hok, -⟩ := hC.ok
  refine fw102 (w102_0 ?_)
  unfold aHist
  refine W_if (fun q1 => ?_) (fun q1 => ?_)
  · exact ⟨nochg S, _, rfl, by rw [if_pos (Or.inl q1)], Fq.rf, h⟩
  obtain ⟨n, hn, rfl⟩ := nI_of q1
  refine W_if (fun q2 => ?_) (fun q2 => ?_)
  · exact ⟨nochg S, _, rfl, by rw [if_pos (Or.inr (Or.inl q2))], Fq.rf, h⟩
  have hn30 := i_30 hn q2
  refine W_t (hS.k1) ?_
  refine W_t (hF.k) ?_
  rw [hF.2.2.1]
  refine W_if (fun q5 => ?_) (fun q5 => ?_)
  · rw [bi_0] at q5
    exact ⟨nochg S, _, rfl, by rw [if_pos (Or.inr (Or.inr q5))], Fq.rf, h⟩
  rw [bi_0] at q5
  have hsm := Classical.not_not.mp q5
  refine W_t (hS.k1) ?_
  refine W_t (hS.k1) ?_
  rw [hS.r1_8]
  refine W_t (hS.k21) ?_
  refine W_Ve (f81 (b := true) (w := 0) (tn := 0) hsm (okW_0 T) (by omega) hn30 hS hF) ?_
  rintro S1 ⟨f1, hM⟩
  have f1q : Fq WyP S S1 := f1.q (fun a k z => z.elim id False.elim)
  have h1 := h.wy f1q
  have hP1 := h1.2.2.2.1.2.2.2.1
  refine W_t (h1.1.k1) ?_
  refine W_t (h1.1.k1) ?_
  refine W_t (h1.1.k1) ?_
  rw [h1.1.r1_4]
  refine W_t (h1.1.k9) ?_
  rw [h1.1.r1_8]
  refine W_t (h1.1.k21) ?_
  rw [hP1.2.1]
  refine W_I (f85 hsm (fun x hx => wkL_ok hT (okW_0 T) hx) hok.1 h1.1 h1.2.2.2.1.2.1 hM) ?_
  refine ⟨f1q.mono, _, rfl, ?_, f1q.weak (fun a k z => Or.inl (by have z : a = 22 := z; omega)), h1⟩
  rw [if_neg, nI_clamp hn]
  rintro (z | z | z)
  · exact q1 z
  · exact q2 z
  · exact z hsm
end CLM
