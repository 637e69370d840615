/-! the reference's reached, histories -/
section REF
variable {T : TD} {E : Env → Int32}
abbrev cnK (T : TD) (tn : Nat) (L : List Nat) (n : Nat) : Nat := L.countP (fun x => decide (nkey T x tn = n))
def WyR (S : St) (T : TD) (b : Bool) (tn : Nat) (L : List Nat) : Prop := ∀ n, n < 65536 → gI S 68 n = nI (vl b (cnK T tn L n))
def WyT (S : St) (b : Bool) (g : Nat → Nat) : Prop := ∀ n, n < 65536 → gI S 69 n = nI (vl b (g n))
abbrev GoP : Nat → Nat → Prop := fun a k => (a = 63 ∧ 64 ≤ k) ∨ (53 ≤ a ∧ a ≤ 62) ∨ AcP a k ∨ a = 68 ∨ a = 69
theorem RT.go {S S' : St} (h : RT S T) (f : Fr GoP nol S S') : RT S' T := h.fr f (fun a k z => by rcases z with z | z | z | z | z <;> omega)
theorem RC.go {S S' : St} (h : RC S E) (f : Fr GoP nol S S') : RC S' E := h.fr f (fun a k z => by rcases z with z | z | z | z | z <;> omega)
/-- those spread so far -/
abbrev gKo (T : TD) (tn : Nat) (L : List Nat) (n j : Nat) : Nat := cnK T (1 - tn) ((L.filter (fun x => decide (nkey T x tn < n))).flatMap (chl T tn)) j
theorem chl_like {w w' tn j : Nat} (hT : okT T) (hw : okW T w) (hw' : okW T w') (ht : tn < 2) (hl : like T w w') : cnK T (1 - tn) (chl T tn w) j = cnK T (1 - tn) (chl T tn w') j := by
  unfold cnK chl
  rw [List.countP_map, List.countP_map, actsL_like hT hl ht]
  refine List.countP_congr (fun a ha => ?_)
  obtain ⟨a1, a2, a3⟩ := actsL_mem.mp (show a ∈ actsL T w tn by rw [actsL_like hT hl ht]; exact ha)
  show decide (nkey T (aft T w tn a) (1 - tn) = j) = true ↔ decide (nkey T (aft T w' tn a) (1 - tn) = j) = true
  rw [like_nkey (hl.aft hT hw.1 hw'.1 ht a2 a3)]
theorem gKo_step {tn n j x : Nat} {L : List Nat} (hT : okT T) (hs : small T) (hL : ∀ x, x ∈ L → okW T x) (ht : tn < 2) (hx : x ∈ L) (he : nkey T x tn = n) : gKo T tn L (n + 1) j = gKo T tn L n j + cnK T tn L n * cnK T (1 - tn) (chl T tn x) j := by
  refine cnt_split (f := fun x => nkey T x tn) (k := n) (fun y hy e => ?_) (fun y hy => ?_) (fun y hy h => ?_)
  · obtain ⟨-, hl⟩ := nkey_like hT hs (hL y hy) (hL x hx) ht ht (e.trans he.symm)
    exact chl_like hT (hL y hy) (hL x hx) ht hl
  · simp only [decide_eq_true_eq]; omega
  · simp only [decide_eq_true_eq] at h; omega
theorem gKo_none {tn n j : Nat} {L : List Nat} (h : ∀ x, x ∈ L → nkey T x tn ≠ n) : gKo T tn L (n + 1) j = gKo T tn L n j := by
  have e : L.filter (fun x => decide (nkey T x tn < n + 1)) = L.filter (fun x => decide (nkey T x tn < n)) := by
    refine List.filter_congr (fun x hx => ?_)
    have := h x hx
    simp only [decide_eq_decide]
    omega
  unfold gKo
  rw [e]
set_option maxRecDepth 4096 in
theorem c107 : (107 : Int32).toNatClampNeg = 64 + 43 := by decide +kernel
set_option maxRecDepth 4096 in
/-- the acts of one wall -/
theorem f182_acts {d n e x tn day : Nat} {b : Bool} {g : Nat → Nat} {S0 : St} {Q : Option Value → St → Prop} (hM0 : ShM S0) (hR0 : RT S0 T) (hC0 : RC S0 E) (hs : small T) (hw : okW T x) (ht : tn < 2) (hday : day ≤ 1) (he : vl b e ≠ 0) (hn : n < 65536) (hwn : ∀ S, Fr GoP nol S0 S → (∀ k, gI S 68 k = gI S0 68 k)  → gI S 68 n = nI (vl b e)) (next : ∀ (S : St) (x3 : Int32) (z4 : Value), Fr GoP nol S0 S → (∀ k, gI S 68 k = gI S0 68 k) → WyT S b (fun j => g j + e * cnK T (1 - tn) (chl T tn x) j) → WP (P182 (F (d + 7))) (5, [.ref 39, .int (bi (b = true)), .int (nI n), .int x3, z4], [], S) Q) : ∀ (M2 M1 : List Nat) (c : Nat) (S : St) (x3 : Int32), Itr T x tn c M1 M2 → Fr GoP nol S0 S → (∀ k, gI S 68 k = gI S0 68 k) → RoL S 64 T x tn day → nxA S T M2 x3 → WyT S b (fun j => g j + e * cnK T (1 - tn) (M1.map (aft T x tn)) j) → ∀ z4 : Value, WP (P182 (F (d + 7))) (3, [.ref 39, .int (bi (b = true)), .int (nI n), .int x3, z4], [], S) Q := by
  have hT := hR0.1
  intro M2
  induction M2 with
  | nil =>
    intro M1 c S x3 hi f h68 hrow hx hW z4
    have hx : x3 = -1 := hx
    subst hx
    refine w182_3 ?_
    refine W_t (by decide) ?_
    refine next S _ _ f h68 ?_
    have e1 := hi.1
    rw [List.append_nil] at e1
    unfold chl
    rw [e1]
    exact hW
  | cons a M ih =>
    intro M1 c S x3 hi f h68 hrow hx hW z4
    obtain ⟨rfl, hF⟩ := hx
    have hmem := (hi.head hT).1
    obtain ⟨a1, a2, a3⟩ := actsL_mem.mp hmem
    have hlt := hi.lt hT
    have hM := hM0.fr f
    have hok := hw.aft hT ht a2 a3
    have hnl := nkey_lt hT hs hok (tn := 1 - tn) (by omega)
    refine w182_3 ?_
    refine W_f (nI_n0 (by omega)) ?_
    simp only [hM.k39, z0c, eq_self, if_true, Nat.reduceAdd, true_and]
    refine W_Ve (f169 (d := d + 6) (o := 64) (b := 128) hM (by omega) (by omega) (by omega)) ?_
    rintro S3 ⟨f3, hcp⟩
    have hM3 := hM.fr f3
    have f3' : Fr GoP nol S S3 := f3.weak (fun a k z => Or.inl ⟨z.1, by have := z.2; omega⟩) (fun a k z => z)
    have f03 := f.tr f3'
    have hF3 : actF S3 a := by
      obtain ⟨q1, q2, q3⟩ := hF
      exact ⟨by rw [f3.1 _ _ (by show ¬ (_ ∧ _); omega)]; exact q1, by rw [f3.1 _ _ (by show ¬ (_ ∧ _); omega)]; exact q2, by rw [f3.1 _ _ (by show ¬ (_ ∧ _); omega)]; exact q3⟩
    simp only [hM3.k39, z0c, eq_self, if_true, Nat.reduceAdd, true_and]
    rw [hF3.1, hF3.2.1, hF3.2.2]
    refine W_Ve (f154 (d := d) (o := 128) hM3 (hR0.go f03) (hC0.go f03) (hrow.cp hcp) (by omega) hw ht (by omega) hmem) ?_
    rintro S4 ⟨f4, hrow4, -⟩
    have hM4 := hM3.fr f4
    have f4' : Fr GoP nol S3 S4 := f4.weak (fun a k z => by
      rcases z with z | z | z
      · exact Or.inl ⟨z.1, by omega⟩
      · exact Or.inr (Or.inl z)
      · exact Or.inr (Or.inr (Or.inl z))) (fun a k z => z)
    have f04 := f03.tr f4'
    have h68' : ∀ k, gI S4 68 k = gI S0 68 k := fun k => by rw [f4.1 _ _ (by show ¬ (_ ∨ _); omega), f3.1 _ _ (by show ¬ (_ ∧ _); omega)]; exact h68 k
    have h69 : ∀ k, gI S4 69 k = gI S 69 k := fun k => by rw [f4.1 _ _ (by show ¬ (_ ∨ _); omega), f3.1 _ _ (by show ¬ (_ ∧ _); omega)]
    have hrow' : RoL S4 64 T x tn day := (hrow.fr f3 (fun k h1 h2 z => by have z : (63 : Nat) = 63 ∧ _ := z; omega)).fr f4 (fun k h1 h2 z => by rcases z with z | z | z <;> omega)
    simp only [hM4.k39, z0c, eq_self, if_true, Nat.reduceAdd, true_and]
    refine W_I (f167 (d := d + 5) (o := 128) hM4 (hR0.go f04) hrow4.1 (by omega)) ?_
    have hWm := hW (nkey T (aft T x tn a) (1 - tn)) hnl
    simp only [hM4.k39, hM4.r39_47, hM4.k69, hM4.n69, hM4.r39_46, hM4.k68, hM4.n68, z0c, eq_self, if_true, Nat.reduceAdd, true_and]
    have hst := vl_step (c := g (nkey T (aft T x tn a) (1 - tn)) + e * cnK T (1 - tn) (M1.map (aft T x tn)) (nkey T (aft T x tn a) (1 - tn))) he
    have hmul : g (nkey T (aft T x tn a) (1 - tn)) + e * (cnK T (1 - tn) (M1.map (aft T x tn)) (nkey T (aft T x tn a) (1 - tn)) + 1) = g (nkey T (aft T x tn a) (1 - tn)) + e * cnK T (1 - tn) (M1.map (aft T x tn)) (nkey T (aft T x tn a) (1 - tn)) + e := by rw [Nat.mul_add, Nat.mul_one]; omega
    have fin : ∀ y : Int32, y = nI (vl b (g (nkey T (aft T x tn a) (1 - tn)) + e * (cnK T (1 - tn) (M1.map (aft T x tn)) (nkey T (aft T x tn a) (1 - tn)) + 1))) → WP (P182 (F (d + 7))) (4, [.ref 39, .int (bi (b = true)), .int (nI n), .int (nI (refK T a)), .int (nI (nkey T (aft T x tn a) (1 - tn)))], [.int y, .int (nI (nkey T (aft T x tn a) (1 - tn))), .ref 69], S4) Q := by
      intro y hy
      refine w182_4 ?_
      refine W_t (⟨hM4.k69, by rw [hM4.n69]; exact inB_n (by omega) (by decide)⟩) ?_
      rw [nI_clamp (by omega)]
      refine W_s fun S5 e5 => ?_
      have f5 : Fr GoP nol S4 S5 := by rw [e5]; exact Fr.putI (Or.inr (Or.inr (Or.inr (Or.inr rfl))))
      have hM5 := hM4.fr f5
      have hrow5 : RoL S5 64 T x tn day := hrow'.fr (P := fun a _ => a = 69) (PL := nol) (by rw [e5]; exact Fr.putI rfl) (fun k _ _ z => by omega)
      simp only [hM5.k39, z0c, eq_self, if_true, Nat.reduceAdd, true_and]
      refine W_Ie (f149n (d := d + 3) (o := 64) hM5 (hR0.go (f04.tr f5)) hrow5.1 (by omega) hw ht hi) ?_
      rintro x3 S6 ⟨f6, hx6⟩
      have f6' : Fr GoP nol S5 S6 := f6.weak (fun a k z => Or.inr (Or.inr (Or.inl z))) (fun a k z => z)
      show WP _ _ _
      refine ih (M1 ++ [a]) _ S6 x3 (hi.next hT) ((f04.tr f5).tr f6') (fun k => ?_) (hrow5.fr f6 (fun k _ _ z => by have z : (63 : Nat) = 39 ∧ _ := z; omega)) hx6 (fun j hj => ?_) _
      · rw [f6.1 _ _ (by show ¬ (_ ∧ _); omega), e5, gI_pI, if_neg (by omega)]; exact h68' k
      · show _ = nI (vl b (g j + e * ((M1 ++ [a]).map (aft T x tn)).countP (fun z => decide (nkey T z (1 - tn) = j))))
        rw [f6.1 _ _ (by show ¬ (_ ∧ _); omega), e5, gI_pI, List.map_append, List.countP_append]
        by_cases ej : j = nkey T (aft T x tn a) (1 - tn)
        · rw [if_pos ⟨rfl, ej⟩, hy, ej]
          simp [cnK]
        · rw [if_neg (fun z => ej z.2), h69, hW j hj]
          have z0 : ([a].map (aft T x tn)).countP (fun z => decide (nkey T z (1 - tn) = j)) = 0 := by
            simp
            exact fun z => ej z.symm
          rw [z0, Nat.add_zero]
    rw [hmul] at fin
    cases b with
    | false =>
      refine W_t (rfl) ?_
      refine fin 1 ?_
      rw [hst]; rfl
    | true =>
      refine W_f (by decide) ?_
      refine W_t (inB_n (by omega) (by decide)) ?_
      refine W_t (inB_n (by omega) (by decide)) ?_
      refine W_f (by decide +kernel) ?_
      rw [nI_clamp (by omega), nI_clamp (by omega), h69, hWm, hwn S4 f04 h68']
      refine fin _ ?_
      rw [Wy_add he, hst]; rfl
set_option maxRecDepth 4096 in
/-- goesOn -/
theorem f182 {d tn : Nat} {b : Bool} {S : St} {L : List Nat} (hM : ShM S) (hR : RT S T) (hC : RC S E) (hs : small T) (hL : ∀ x, x ∈ L → okW T x) (ht : tn < 2) (hW : WyR S T b tn L) : Sp (F (d + 8) 182 [.ref 39, .int (bi (b = true))] S) (fun v S' => v = none ∧ Fr GoP nol S S' ∧ WyR S' T b (1 - tn) (L.flatMap (chl T tn))) := by
  have hT := hR.1
  refine fw182 (w182_0 ?_)
  -- the third loop: back into the first row
  have six : ∀ (m k : Nat) (S1 : St), m = 65536 - k → k ≤ 65536 → Fr GoP nol S S1 → (∀ j, j < 65536 → gI S1 69 j = nI (vl b (cnK T (1 - tn) (L.flatMap (chl T tn)) j))) → (∀ j, j < k → gI S1 68 j = nI (vl b (cnK T (1 - tn) (L.flatMap (chl T tn)) j))) → ∀ z3 z4 : Value, WP (P182 (F (d + 7))) (6, [.ref 39, .int (bi (b = true)), .int (nI k), z3, z4], [], S1) (fun v S' => (gZ S ≤ gZ S' ∧ gU S ≤ gU S') ∧ v = none ∧ Fr GoP nol S S' ∧ WyR S' T b (1 - tn) (L.flatMap (chl T tn))) := by
    intro m
    induction m with
    | zero =>
      intro k S1 hm hk f1 h69 h68 z3 z4
      have e : k = 65536 := by omega
      subst e
      refine w182_6 ?_
      refine W_f (by decide +kernel) ?_
      exact ⟨f1.mono, rfl, f1, h68⟩
    | succ m ih =>
      intro k S1 hm hk f1 h69 h68 z3 z4
      have hM1 := hM.fr f1
      refine w182_6 ?_
      refine W_t (by rw [show (65536 : Int32) = nI 65536 from rfl, i_lt (by omega) (by decide)]; omega) ?_
      simp only [hM1.k39, hM1.r39_46, hM1.k68, hM1.n68, hM1.r39_47, hM1.k69, hM1.n69, z0c, eq_self, if_true, Nat.reduceAdd, true_and]
      refine W_t (inB_n (by omega) (by decide)) ?_
      refine W_t (inB_n (by omega) (by decide)) ?_
      rw [nI_clamp (by omega)]
      refine W_s fun S2 e2 => ?_
      have f2 : Fr GoP nol S1 S2 := by rw [e2]; exact Fr.putI (Or.inr (Or.inr (Or.inr (Or.inl rfl))))
      show WP _ _ _
      rw [nI_1]
      refine ih (k + 1) S2 (by omega) (by omega) (f1.tr f2) (fun j hj => by rw [e2, gI_pI, if_neg (by omega)]; exact h69 j hj) (fun j hj => ?_) _ _
      rw [e2, gI_pI]
      by_cases e : j = k
      · rw [if_pos ⟨rfl, e⟩, h69 k (by omega), e]
      · rw [if_neg (fun z => e z.2)]; exact h68 j (by omega)
  -- the second loop: all walls
  have two : ∀ (m n : Nat) (S1 : St), m = 65536 - n → n ≤ 65536 → Fr GoP nol S S1 → (∀ k, gI S1 68 k = gI S 68 k) → WyT S1 b (gKo T tn L n) → ∀ z3 z4 : Value, WP (P182 (F (d + 7))) (2, [.ref 39, .int (bi (b = true)), .int (nI n), z3, z4], [], S1) (fun v S' => (gZ S ≤ gZ S' ∧ gU S ≤ gU S') ∧ v = none ∧ Fr GoP nol S S' ∧ WyR S' T b (1 - tn) (L.flatMap (chl T tn))) := by
    intro m
    induction m with
    | zero =>
      intro n S1 hm hn f1 h68 h69 z3 z4
      have e : n = 65536 := by omega
      subst e
      refine w182_2 ?_
      refine W_f (by decide +kernel) ?_
      show WP _ _ _
      refine six 65536 0 S1 (by omega) (by omega) f1 (fun j hj => ?_) (fun j hj => by omega) _ _
      rw [h69 j hj]
      have ef : L.filter (fun x => decide (nkey T x tn < 65536)) = L := by
        rw [List.filter_eq_self]
        intro x hx
        exact decide_eq_true (nkey_lt hT hs (hL x hx) ht)
      show nI (vl b (cnK T (1 - tn) ((L.filter (fun x => decide (nkey T x tn < 65536))).flatMap (chl T tn)) j)) = _
      rw [ef]
    | succ m ih =>
      intro n S1 hm hn f1 h68 h69 z3 z4
      have hM1 := hM.fr f1
      have hv := vl_lt b (cnK T tn L n)
      have back : ∀ (S2 : St) (z3 z4 : Value), Fr GoP nol S S2 → (∀ k, gI S2 68 k = gI S 68 k) → WyT S2 b (gKo T tn L (n + 1)) → WP (P182 (F (d + 7))) (5, [.ref 39, .int (bi (b = true)), .int (nI n), z3, z4], [], S2) (fun v S' => (gZ S ≤ gZ S' ∧ gU S ≤ gU S') ∧ v = none ∧ Fr GoP nol S S' ∧ WyR S' T b (1 - tn) (L.flatMap (chl T tn))) := by
        intro S2 z3 z4 f2 q1 q2
        refine w182_5 ?_
        show WP _ _ _
        rw [nI_1]
        exact ih (n + 1) S2 (by omega) (by omega) f2 q1 q2 _ _
      refine w182_2 ?_
      refine W_t (by rw [show (65536 : Int32) = nI 65536 from rfl, i_lt (by omega) (by decide)]; omega) ?_
      simp only [hM1.k39, hM1.r39_46, hM1.k68, hM1.n68, z0c, eq_self, if_true, Nat.reduceAdd, true_and]
      refine W_t (inB_n (by omega) (by decide)) ?_
      rw [nI_clamp (by omega), h68 n, hW n (by omega)]
      by_cases hex : ∃ x, x ∈ L ∧ nkey T x tn = n
      · obtain ⟨x, hx, hxn⟩ := hex
        refine W_if (fun q => ?_) (fun q => ?_)
        · have q : vl b (cnK T tn L n) = 0 := (i_cst 0 (by omega) (by decide)).mp q
          refine back S1 _ _ f1 h68 (fun j hj => ?_)
          rw [h69 j hj, gKo_step hT hs hL ht hx hxn, vl_add0 (vl_mul0 _ q)]
        · have q : vl b (cnK T tn L n) ≠ 0 := fun z => q (by rw [z]; rfl)
          have hl := f168 (d := d) (o := 64) hM1 (hR.go f1) hs (hL x hx) ht (by omega)
          rw [hxn] at hl
          refine W_Ve (hl) ?_
          rintro S2 ⟨f2, day, hday, hrow⟩
          have f2' : Fr GoP nol S1 S2 := f2.weak (fun a k z => by
            rcases z with z | z | z
            · exact Or.inl ⟨z.1, by omega⟩
            · exact Or.inr (Or.inl z)
            · exact Or.inr (Or.inr (Or.inl z))) (fun a k z => z)
          have f02 := f1.tr f2'
          have hM2 := hM1.fr f2
          have g68 : ∀ k, gI S2 68 k = gI S 68 k := fun k => by rw [f2.1 _ _ (by show ¬ (_ ∨ _); omega)]; exact h68 k
          have g69 : ∀ k, gI S2 69 k = gI S1 69 k := fun k => f2.1 _ _ (by show ¬ (_ ∨ _); omega)
          simp only [hM2.k39, hM2.r39_36, hM2.k63, hM2.n63, z0c, eq_self, if_true, Nat.reduceAdd, true_and]
          refine W_t (inB_n (n := 107) (by omega) (by decide)) ?_
          rw [c107, hrow.2.1]
          refine W_if (fun q2 => ?_) (fun q2 => ?_)
          · have q2 := (pys_pos ht).mp q2
            refine back S2 _ _ f02 g68 (fun j hj => ?_)
            have e0 : chl T tn x = [] := by unfold chl; rw [q2]; rfl
            rw [g69, h69 j hj, gKo_step hT hs hL ht hx hxn, e0]
            rfl
          · refine W_Ie (f149s (d := d + 3) (o := 64) hM2 (hR.go f02) hrow.1 (by omega) (hL x hx) ht) ?_
            rintro x3 S3 ⟨f3, hx3⟩
            have f3' : Fr GoP nol S2 S3 := f3.weak (fun a k z => Or.inr (Or.inr (Or.inl z))) (fun a k z => z)
            have f03 := f02.tr f3'
            have k68 : ∀ k, gI S3 68 k = gI S 68 k := fun k => by rw [f3.1 _ _ (by show ¬ (_ ∧ _); omega)]; exact g68 k
            have hrow3 : RoL S3 64 T x tn day := hrow.fr f3 (fun k _ _ z => by have z : (63 : Nat) = 39 ∧ _ := z; omega)
            show WP _ _ _
            refine f182_acts (d := d) (e := cnK T tn L n) (x := x) (tn := tn) (g := gKo T tn L n) (hM.fr f03) (hR.go f03) (hC.go f03) hs (hL x hx) ht hday q (by omega) (fun S4 _ h4 => by rw [h4, k68, hW n (by omega)]) (fun S4 x3 z4 f4 h4 w4 => ?_) (actsL T x tn) [] 0 S3 x3 Itr.start Fr.rf (fun _ => rfl) hrow3 hx3 (fun j hj => ?_) _
            · refine back S4 _ _ (f03.tr f4) (fun k => by rw [h4, k68]) (fun j hj => ?_)
              rw [w4 j hj, gKo_step hT hs hL ht hx hxn]
            · rw [f3.1 _ _ (by show ¬ (_ ∧ _); omega), g69, h69 j hj]
              show _ = nI (vl b (gKo T tn L n j + cnK T tn L n * 0))
              rw [Nat.mul_zero, Nat.add_zero]
      · have h0 : cnK T tn L n = 0 := by
          unfold cnK
          rw [List.countP_eq_zero]
          intro x hx
          simp only [decide_eq_true_eq]
          exact fun z => hex ⟨x, hx, z⟩
        refine W_t (by rw [h0, vl_0]; rfl) ?_
        refine back S1 _ _ f1 h68 (fun j hj => ?_)
        rw [h69 j hj, gKo_none (fun x hx z => hex ⟨x, hx, z⟩)]
  have one : ∀ (m k : Nat) (S1 : St), m = 65536 - k → k ≤ 65536 → Fr GoP nol S S1 → (∀ k, gI S1 68 k = gI S 68 k) → (∀ j, j < k → gI S1 69 j = 0) → ∀ z3 z4 : Value, WP (P182 (F (d + 7))) (1, [.ref 39, .int (bi (b = true)), .int (nI k), z3, z4], [], S1) (fun v S' => (gZ S ≤ gZ S' ∧ gU S ≤ gU S') ∧ v = none ∧ Fr GoP nol S S' ∧ WyR S' T b (1 - tn) (L.flatMap (chl T tn))) := by
    intro m
    induction m with
    | zero =>
      intro k S1 hm hk f1 h68 h69 z3 z4
      have e : k = 65536 := by omega
      subst e
      refine w182_1 ?_
      refine W_f (by decide +kernel) ?_
      show WP _ _ _
      refine two 65536 0 S1 (by omega) (by omega) f1 h68 (fun j hj => ?_) _ _
      rw [h69 j hj]
      have ef : L.filter (fun x => decide (nkey T x tn < 0)) = [] := by
        rw [List.filter_eq_nil_iff]
        intro x hx
        simp
      show _ = nI (vl b (cnK T (1 - tn) ((L.filter (fun x => decide (nkey T x tn < 0))).flatMap (chl T tn)) j))
      rw [ef]
      show _ = nI (vl b 0)
      rw [vl_0]; rfl
    | succ m ih =>
      intro k S1 hm hk f1 h68 h69 z3 z4
      have hM1 := hM.fr f1
      refine w182_1 ?_
      refine W_t (by rw [show (65536 : Int32) = nI 65536 from rfl, i_lt (by omega) (by decide)]; omega) ?_
      simp only [hM1.k39, hM1.r39_47, hM1.k69, hM1.n69, z0c, eq_self, if_true, Nat.reduceAdd, true_and]
      refine W_t (inB_n (by omega) (by decide)) ?_
      rw [nI_clamp (by omega)]
      refine W_s fun S2 e2 => ?_
      have f2 : Fr GoP nol S1 S2 := by rw [e2]; exact Fr.putI (Or.inr (Or.inr (Or.inr (Or.inr rfl))))
      show WP _ _ _
      rw [nI_1]
      refine ih (k + 1) S2 (by omega) (by omega) (f1.tr f2) (fun j => by rw [e2, gI_pI, if_neg (by omega)]; exact h68 j) (fun j hj => ?_) _ _
      rw [e2, gI_pI]
      by_cases e : j = k
      · rw [if_pos ⟨rfl, e⟩]
      · rw [if_neg (fun z => e z.2)]; exact h69 j (by omega)
  exact one 65536 0 S (by omega) (by omega) Fr.rf (fun _ => rfl) (fun j hj => by omega) .null .null
end REF
