/-! ways: a day's spread, all days -/
theorem bi_01 {p : Prop} [Decidable p] : bi p = 0 ∨ bi p = 1 := by
  unfold bi
  split
  · exact Or.inr rfl
  · exact Or.inl rfl
theorem cn_step {T : TD} {tn i j : Nat} {L : List Nat} (hT : okT T) (hL : ∀ x, x ∈ L → okW T x) : cnN T ((L.filter (fun x => decide (i ≤ num T x))).flatMap (chl T tn)) j = cnN T ((L.filter (fun x => decide (i + 1 ≤ num T x))).flatMap (chl T tn)) j + cnN T L i * cnN T (chl T tn (wallN T i)) j := by
  refine cnt_split (f := num T) (k := i) (fun x hx e => ?_) (fun x hx => ?_) (fun x hx h => ?_)
  · rw [← e, wallN_num hT (hL x hx)]
  · simp only [decide_eq_true_eq]; omega
  · simp only [decide_eq_true_eq] at h; omega
theorem cn_low {T : TD} {tn k j : Nat} {L : List Nat} (hT : okT T) (hL : ∀ x, x ∈ L → okW T x) (ht : tn < 2) (hj : j ≤ k) : cnN T ((L.filter (fun x => decide (k ≤ num T x))).flatMap (chl T tn)) j = 0 := by
  unfold cnN
  rw [List.countP_eq_zero]
  intro y hy
  obtain ⟨x, hx, hy⟩ := List.mem_flatMap.mp hy
  obtain ⟨hx1, hx2⟩ := List.mem_filter.mp hx
  obtain ⟨a, ha, rfl⟩ := List.mem_map.mp hy
  obtain ⟨a1, a2, a3⟩ := actsL_mem.mp ha
  have := num_aft hT (hL x hx1) ht a2 a3
  simp only [decide_eq_true_eq] at hx2 ⊢
  omega
/-- the row in the middle of a day: what lies from k on has been spread -/
def gdy (T : TD) (tn : Nat) (L : List Nat) (k j : Nat) : Nat := (if j < k then cnN T L j else 0) + cnN T ((L.filter (fun x => decide (k ≤ num T x))).flatMap (chl T tn)) j
theorem cn_0 {T : TD} {L : List Nat} {j : Nat} (h : ∀ x, x ∈ L → num T x ≠ j) : cnN T L j = 0 := by
  unfold cnN
  rw [List.countP_eq_zero]
  intro x hx
  simp only [decide_eq_true_eq]
  exact h x hx
theorem gdy_top {T : TD} {tn k j : Nat} {L : List Nat} (h : ∀ x, x ∈ L → num T x < k) : gdy T tn L k j = cnN T L j := by
  unfold gdy
  have e : L.filter (fun x => decide (k ≤ num T x)) = [] := by
    rw [List.filter_eq_nil_iff]
    intro x hx
    have := h x hx
    simp only [decide_eq_true_eq]
    omega
  rw [e]
  by_cases hj : j < k
  · rw [if_pos hj]; rfl
  · have z := cn_0 (T := T) (L := L) (j := j) (fun x hx => by have := h x hx; omega)
    rw [if_neg hj, z]; rfl
theorem gdy_0 {T : TD} {tn j : Nat} {L : List Nat} : gdy T tn L 0 j = cnN T (L.flatMap (chl T tn)) j := by
  unfold gdy
  have e : L.filter (fun x => decide (0 ≤ num T x)) = L := by
    rw [List.filter_eq_self]
    intro x hx
    simp
  rw [e, if_neg (by omega), Nat.zero_add]
theorem gdy_at {T : TD} {tn k : Nat} {L : List Nat} (hT : okT T) (hL : ∀ x, x ∈ L → okW T x) (ht : tn < 2) : gdy T tn L (k + 1) k = cnN T L k := by
  unfold gdy
  rw [if_pos (by omega), cn_low hT hL ht (by omega), Nat.add_zero]
theorem gdy_k0 {T : TD} {tn k : Nat} {L : List Nat} (hT : okT T) (hL : ∀ x, x ∈ L → okW T x) (ht : tn < 2) : gdy T tn L k k = 0 := by
  unfold gdy
  rw [if_neg (by omega), cn_low hT hL ht (by omega)]
theorem gdy_put {T : TD} {tn k j : Nat} {L : List Nat} (hT : okT T) (hL : ∀ x, x ∈ L → okW T x) (ht : tn < 2) : gdy T tn L k j = (if j = k then 0 else gdy T tn L (k + 1) j) + cnN T L k * cnN T (chl T tn (wallN T k)) j := by
  by_cases e : j = k
  · subst e
    rw [if_pos rfl, gdy_k0 hT hL ht]
    have h1 := cn_low (T := T) (tn := tn) (k := j) (j := j) hT hL ht (by omega)
    rw [cn_step hT hL] at h1
    omega
  · rw [if_neg e]
    unfold gdy
    rw [cn_step hT hL]
    by_cases h : j < k
    · rw [if_pos h, if_pos (by omega)]; omega
    · rw [if_neg h, if_neg (by omega)]; omega
theorem gdy_skip {T : TD} {b : Bool} {tn k j : Nat} {L : List Nat} (hT : okT T) (hL : ∀ x, x ∈ L → okW T x) (ht : tn < 2) (h : vl b (cnN T L k) = 0) : vl b (gdy T tn L k j) = vl b (gdy T tn L (k + 1) j) := by
  rw [gdy_put hT hL ht, vl_add0 (vl_mul0 _ h)]
  by_cases e : j = k
  · subst e
    rw [if_pos rfl, gdy_at hT hL ht, h, vl_0]
  · rw [if_neg e]
theorem cn_zero {T : TD} {b : Bool} {tn : Nat} {L : List Nat} (hT : okT T) (hL : ∀ x, x ∈ L → okW T x) (h : ∀ j, vl b (cnN T L j) = 0) (j : Nat) : vl b (cnN T (L.flatMap (chl T tn)) j) = 0 := by
  have key : ∀ k, vl b (cnN T ((L.filter (fun x => decide (k ≤ num T x))).flatMap (chl T tn)) j) = vl b (cnN T (L.flatMap (chl T tn)) j) := by
    intro k
    induction k with
    | zero =>
      have e : L.filter (fun x => decide (0 ≤ num T x)) = L := by
        rw [List.filter_eq_self]
        intro x hx
        simp
      rw [e]
    | succ k ih => rw [← ih, cn_step (i := k) hT hL, vl_add0 (vl_mul0 _ (h k))]
  have e : L.filter (fun x => decide ((tH T + 3) ^ tW T ≤ num T x)) = [] := by
    rw [List.filter_eq_nil_iff]
    intro x hx
    have := num_lt hT (hL x hx)
    simp only [decide_eq_true_eq]
    omega
  have := key ((tH T + 3) ^ tW T)
  rw [e] at this
  rw [← this]
  exact vl_0 b
set_option maxRecDepth 4096 in
theorem f82_loop {d t tn : Nat} {b : Bool} {T : TD} {E : Env → Int32} {L : List Nat} (hsm : small T) (ht : tn < 2) (hL : ∀ x, x ∈ L → okW T x) : ∀ (k : Nat) (S : St) (mv : Bool), k ≤ 3125 → ShC S → TF S t T E → MWy S T b (gdy T tn L k) → (mv = false → ∀ j, k ≤ j → vl b (cnN T L j) = 0) → ∀ z6 : Value, WP (P82 (F (d + 5))) (1, [.ref 21, .ref t, .int (nI tn), .int (bi (b = true)), .int (bi (mv = true)), .int (nI k - 1), z6], [], S) (fun v S' => ∃ x, v = some (.int x) ∧ (∃ mv : Bool, x = bi (mv = true) ∧ (mv = false → ∀ j, vl b (cnN T L j) = 0)) ∧ Fr WyP nol S S' ∧ MWy S' T b (cnN T (L.flatMap (chl T tn)))) := by
  intro k
  induction k with
  | zero =>
    intro S mv hk hS hF hM hmv z6
    refine w82_1 ?_
    refine W_t (by decide +kernel) ?_
    exact W_b bi_01 ⟨_, rfl, ⟨mv, rfl, fun h j => hmv h j (Nat.zero_le _)⟩, Fr.rf, fun j hj => by rw [hM j hj, gdy_0]⟩
  | succ k ih =>
    intro S mv hk hS hF hM hmv z6
    have hT := hF.1.1.1
    have hin : inB (nI k) 3125 := inB_n (by omega) (by decide)
    rw [nI_pred]
    have hv := vl_lt b (cnN T L k)
    refine w82_1 ?_
    refine W_f (nI_n0 (by omega)) ?_
    refine W_t (hS.k21) ?_
    rw [hS.r21_0]
    refine W_t (⟨hS.k22, by rw [hS.n22]; exact hin⟩) ?_
    rw [nI_clamp (by omega), hM k (by omega), gdy_at hT hL ht]
    refine W_if (fun q => ?_) (fun q => ?_)
    · have q : vl b (cnN T L k) = 0 := (i_eq (b := 0) (by omega) (by decide)).mp q
      show WP _ _ _
      refine w82_2 ?_
      show WP _ _ _
      rw [m1_add]
      refine ih S mv (by omega) hS hF (fun j hj => ?_) (fun h j hj => ?_) z6
      · rw [hM j hj, gdy_skip hT hL ht q]
      · by_cases e : j = k
        · rw [e]; exact q
        · exact hmv h j (by omega)
    · have q : ¬ vl b (cnN T L k) = 0 := fun z => q (by rw [z]; rfl)
      refine W_t (hS.k21) ?_
      refine W_t (⟨hS.k22, by rw [hS.n22]; exact hin⟩) ?_
      refine W_t (hS.k21) ?_
      refine W_t (⟨hS.k22, by rw [hS.n22]; exact hin⟩) ?_
      refine W_s fun S1 e1 => ?_
      have f1 : Fr WyP nol S S1 := by rw [e1]; exact Fr.putI rfl
      have hS1 := hS.of f1.2.2
      have hF1 := hF.fr f1 WyP_dyn
      refine W_t (hF1.1.1.2.1) ?_
      refine W_L (f78 hF1.1.1 (by omega)) ?_
      refine W_t (hS1.k21) ?_
      have hw : okW T (wallN T k) := by
        have hp : 0 < cnN T L k := Nat.pos_of_ne_zero fun z => q (by rw [z]; exact vl_0 b)
        obtain ⟨x, hx, hxk⟩ := List.countP_pos_iff.mp hp
        have hxk : num T x = k := by simpa using hxk
        rw [← hxk, wallN_num hT (hL x hx)]
        exact hL x hx
      have hM1 : MWy S1 T b (fun j => if j = k then 0 else gdy T tn L (k + 1) j) := fun j hj => by
        show _ = nI (vl b (if j = k then 0 else gdy T tn L (k + 1) j))
        rw [e1, gI_pI]
        by_cases e : j = k
        · rw [if_pos ⟨rfl, e⟩, if_pos e, vl_0]; rfl
        · rw [if_neg (fun z => e z.2), if_neg e, hM j hj]
      refine W_Ve (f83 hsm hw ht q hS1 hF1 hM1) ?_
      rintro S2 ⟨f2, hM2⟩
      show WP _ _ _
      refine w82_2 ?_
      show WP _ _ _
      rw [m1_add]
      have hS2 := hS1.of f2.2.2
      have hF2 := hF1.fr f2 WyP_dyn
      refine WP.mono (ih S2 true (by omega) hS2 hF2 (fun j hj => ?_) (fun h => by cases h) _) ?_
      · rw [hM2 j hj, gdy_put hT hL ht]
      · rintro v S' ⟨x, r1, r2, r3, r4⟩
        exact ⟨x, r1, r2, (f1.tr f2).tr r3, r4⟩
theorem f82 {d t tn : Nat} {b : Bool} {S : St} {T : TD} {E : Env → Int32} {L : List Nat} (hsm : small T) (ht : tn < 2) (hL : ∀ x, x ∈ L → okW T x) (hS : ShC S) (hF : TF S t T E) (hM : MWy S T b (cnN T L)) : Sp (F (d + 6) 82 [.ref 21, .ref t, .int (nI tn), .int (bi (b = true))] S) (fun v S' => ∃ x, v = some (.int x) ∧ (∃ mv : Bool, x = bi (mv = true) ∧ (mv = false → ∀ j, vl b (cnN T L j) = 0)) ∧ Fr WyP nol S S' ∧ MWy S' T b (cnN T (L.flatMap (chl T tn)))) := by
  have hT := hF.1.1.1
  have hB := small_num hT hsm
  have hlt : ∀ x, x ∈ L → num T x < (tH T + 3) ^ tW T := fun x hx => num_lt hT (hL x hx)
  refine fw82 (w82_0 ?_)
  refine W_t (hS.k21) ?_
  rw [hS.r21_0]
  refine W_t (by rw [hS.k22]; decide) ?_
  refine W_t (hF.1.1.2.1) ?_
  refine W_I (f79 hF.1.1) ?_
  rw [hS.n22]
  refine W_si fun v e => ?_
  have e : v = nI ((tH T + 3) ^ tW T) - 1 := by
    rw [e, c_ofNat]
    by_cases h : (tH T + 3) ^ tW T < 3125
    · rw [if_pos ((i_lt (by omega) (by decide)).mpr h)]
    · rw [if_neg (fun z => h ((i_lt (by omega) (by decide)).mp z)), show (tH T + 3) ^ tW T = 3125 by omega]
  rw [e]
  show WP _ _ _
  refine WP.mono (f82_loop (d := d) (b := b) hsm ht hL ((tH T + 3) ^ tW T) S false hB.1 hS hF (fun j hj => by rw [hM j hj, gdy_top hlt]) (fun _ j hj => ?_) .null) ?_
  · rw [cn_0 (fun x hx => by have := hlt x hx; omega)]; exact vl_0 b
  · rintro v S' ⟨x, r1, r2, r3, r4⟩
    exact ⟨r3.mono, x, r1, r2, r3, r4⟩
theorem wkL_zero {T : TD} {b : Bool} {w tn : Nat} (hT : okT T) (hw : okW T w) {n : Nat} (h : ∀ j, vl b (cnN T (wkL T w tn n) j) = 0) : ∀ m, n ≤ m → ∀ j, vl b (cnN T (wkL T w tn m) j) = 0 := by
  intro m hm
  induction hm with
  | refl => exact h
  | step _ ih => exact cn_zero hT (fun x hx => wkL_ok hT hw hx) ih
set_option maxRecDepth 4096 in
theorem f81_days {d t w tn n : Nat} {b : Bool} {T : TD} {E : Env → Int32} {x7 : Int32} {z3 : Value} (hsm : small T) (hw : okW T w) (ht : tn < 2) (hn : n ≤ 30) : ∀ (m day : Nat) (S : St) (go : Bool), m = n - day → day ≤ n → ShC S → TF S t T E → MWy S T b (cnN T (wkL T w tn day)) → (go = false → ∀ j, vl b (cnN T (wkL T w tn day) j) = 0) → WP (P81 (F (d + 6))) (2, [.ref 21, .ref t, .long (lN w), z3, .int (nI tn), .int (nI n), .int (bi (b = true)), .int x7, .int (bi (go = true)), .int (nI day)], [], S) (fun v S' => v = none ∧ Fr WyP nol S S' ∧ MWy S' T b (cnN T (wkL T w tn n))) := by
  intro m
  induction m with
  | zero =>
    intro day S go hm hd hS hF hM hgo
    have e : day = n := by omega
    subst e
    refine w81_2 ?_
    refine W_f (by rw [i_lt (by omega) (by omega)]; omega) ?_
    exact ⟨rfl, Fr.rf, hM⟩
  | succ m ih =>
    intro day S go hm hd hS hF hM hgo
    have hT := hF.1.1.1
    refine w81_2 ?_
    refine W_t (by rw [i_lt (by omega) (by omega)]; omega) ?_
    refine W_if (fun q => ?_) (fun q => ?_)
    · rw [bi_0] at q
      have hz := hgo (by simpa using q)
      refine ⟨rfl, Fr.rf, fun j hj => ?_⟩
      rw [hM j hj, hz j, wkL_zero hT hw hz n hd j]
    · refine W_t (hS.k21) ?_
      rw [nI_add, i_and1]
      refine W_Ie (f82 (L := wkL T w tn day) hsm (Nat.mod_lt _ (by decide)) (fun x hx => wkL_ok hT hw hx) hS hF hM) ?_
      rintro v S1 ⟨⟨mv, rfl, hmv⟩, f1, hM1⟩
      show WP _ _ _
      rw [nI_1]
      refine WP.mono (ih (day + 1) S1 mv (by omega) (by omega) (hS.of f1.2.2) (hF.fr f1 WyP_dyn) hM1 (fun h => cn_zero hT (fun x hx => wkL_ok hT hw hx) (hmv h))) ?_
      rintro v S' ⟨r1, r2, r3⟩
      exact ⟨r1, f1.tr r2, r3⟩
set_option maxRecDepth 4096 in
theorem f81 {d t w tn n : Nat} {b : Bool} {S : St} {T : TD} {E : Env → Int32} (hsm : small T) (hw : okW T w) (ht : tn < 2) (hn : n ≤ 30) (hS : ShC S) (hF : TF S t T E) : Sp (F (d + 7) 81 [.ref 21, .ref t, .long (lN w), .int (nI tn), .int (nI n), .int (bi (b = true))] S) (fun v S' => v = none ∧ Fr WyP nol S S' ∧ MWy S' T b (cnN T (wkL T w tn n))) := by
  have hT := hF.1.1.1
  have hB := small_num hT hsm
  have hlt := num_lt hT hw
  refine fw81 (w81_0 ?_)
  have key : ∀ (m i : Nat) (S1 : St), m = 3125 - i → i ≤ 3125 → Fr WyP nol S S1 → (∀ j, j < i → gI S1 22 j = 0) → ∀ z3 z8 z9 : Value, WP (P81 (F (d + 6))) (1, [.ref 21, .ref t, .long (lN w), z3, .int (nI tn), .int (nI n), .int (bi (b = true)), .int (nI i), z8, z9], [], S1) (fun v S' => (gZ S ≤ gZ S' ∧ gU S ≤ gU S') ∧ v = none ∧ Fr WyP nol S S' ∧ MWy S' T b (cnN T (wkL T w tn n))) := by
    intro m
    induction m with
    | zero =>
      intro i S1 hm hi f1 h0 z3 z8 z9
      have e : i = 3125 := by omega
      subst e
      have hS1 := hS.of f1.2.2
      have hF1 := hF.fr f1 WyP_dyn
      refine w81_1 ?_
      refine W_t (hS1.k21) ?_
      rw [hS1.r21_0]
      refine W_t (by rw [hS1.k22]; decide) ?_
      rw [hS1.n22]
      refine W_f (by decide +kernel) ?_
      refine W_t (hF1.1.1.2.1) ?_
      refine W_I (f76 hF1.1.1 hw.1) ?_
      refine W_t (hS1.k21) ?_
      rw [hS1.r21_0]
      refine W_t (by rw [hS1.k22]; decide) ?_
      rw [hS1.n22]
      refine W_t (by rw [c_ofNat, i_lt (by omega) (by decide)]; omega) ?_
      refine W_t (hS1.k21) ?_
      refine W_t (⟨hS1.k22, inB_n (by omega) (by decide)⟩) ?_
      refine W_s fun S2 e2 => ?_
      have f2 : Fr WyP nol S1 S2 := by rw [e2]; exact Fr.putI rfl
      show WP _ _ _
      refine WP.mono (f81_days (d := d) (b := b) (x7 := nI (num T w)) (z3 := z3) hsm hw ht hn n 0 S2 true (by omega) (by omega) (hS1.of f2.2.2) (hF1.fr f2 WyP_dyn) (fun j hj => ?_) (fun h => by cases h)) ?_
      · rw [e2, gI_pI, nI_clamp (by omega)]
        show _ = nI (vl b ([w].countP (fun x => decide (num T x = j))))
        by_cases e : j = num T w
        · rw [if_pos ⟨rfl, e⟩, e]
          cases b <;> simp [vl] <;> rfl
        · rw [if_neg (fun z => e z.2), h0 j hj]
          have : [w].countP (fun x => decide (num T x = j)) = 0 := by
            simp
            exact fun z => e z.symm
          rw [this, vl_0]; rfl
      · rintro v S' ⟨r1, r2, r3⟩
        exact ⟨((f1.tr f2).tr r2).mono, r1, (f1.tr f2).tr r2, r3⟩
    | succ m ih =>
      intro i S1 hm hi f1 h0 z3 z8 z9
      have hS1 := hS.of f1.2.2
      refine w81_1 ?_
      refine W_t (hS1.k21) ?_
      rw [hS1.r21_0]
      refine W_t (by rw [hS1.k22]; decide) ?_
      rw [hS1.n22]
      refine W_t (by rw [c_ofNat, i_lt (by omega) (by decide)]; omega) ?_
      refine W_t (hS1.k21) ?_
      refine W_t (⟨hS1.k22, inB_n (by omega) (by decide)⟩) ?_
      refine W_s fun S2 e2 => ?_
      have f2 : Fr WyP nol S1 S2 := by rw [e2]; exact Fr.putI rfl
      show WP _ _ _
      rw [nI_1]
      refine ih (i + 1) S2 (by omega) (by omega) (f1.tr f2) (fun j hj => ?_) z3 z8 z9
      rw [e2, gI_pI, nI_clamp (by omega)]
      by_cases e : j = i
      · rw [if_pos ⟨rfl, e⟩]
      · rw [if_neg (fun z => e z.2)]; exact h0 j (by omega)
  exact key 3125 0 S (by omega) (by omega) Fr.rf (fun j hj => by omega) .null .null .null
