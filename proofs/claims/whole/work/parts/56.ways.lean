/-! ways: how many come to which wall; the class's Ways -/
abbrev md7 : Nat := 1000000007
/-- a count as it is kept: mod, or just that it is some -/
def vl (b : Bool) (c : Nat) : Nat := if b then c % md7 else if c = 0 then 0 else 1
theorem vl_lt (b : Bool) (c : Nat) : vl b c < 1000000007 := by
  unfold vl
  cases b with
  | true => exact Nat.mod_lt _ (by decide)
  | false => simp only [Bool.false_eq_true, if_false]; split <;> decide
theorem vl_0 (b : Bool) : vl b 0 = 0 := by cases b <;> rfl
theorem vl_add {b : Bool} {a c c' : Nat} (h : vl b c = vl b c') : vl b (a + c) = vl b (a + c') := by
  unfold vl at h ⊢
  cases b with
  | true =>
    simp only [if_true] at h ⊢
    rw [Nat.add_mod, h, ← Nat.add_mod]
  | false =>
    simp only [Bool.false_eq_true, if_false] at h ⊢
    by_cases h1 : c = 0
    · by_cases h2 : c' = 0
      · rw [h1, h2]
      · rw [if_pos h1, if_neg h2] at h; cases h
    · by_cases h2 : c' = 0
      · rw [if_neg h1, if_pos h2] at h; cases h
      · rw [if_neg (by omega), if_neg (by omega)]
theorem vl_mul0 {b : Bool} {c : Nat} (m : Nat) (h : vl b c = 0) : vl b (c * m) = 0 := by
  unfold vl at h ⊢
  cases b with
  | true =>
    simp only [if_true] at h ⊢
    rw [Nat.mul_mod, h, Nat.zero_mul]; rfl
  | false =>
    simp only [Bool.false_eq_true, if_false] at h ⊢
    by_cases h1 : c = 0
    · rw [h1, Nat.zero_mul, if_pos rfl]
    · rw [if_neg h1] at h; cases h
theorem vl_add0 {b : Bool} {a c : Nat} (h : vl b c = 0) : vl b (a + c) = vl b a := by
  rw [vl_add (c' := 0) (by rw [h, vl_0]), Nat.add_zero]
theorem cP_cons {p : Nat → Bool} {x : Nat} {L : List Nat} : (x :: L).countP p = L.countP p + if p x = true then 1 else 0 := List.countP_cons
/-- those that come out of walls: split by one key -/
theorem cnt_split {ch : Nat → List Nat} {q P P' : Nat → Bool} {f : Nat → Nat} {k m : Nat} : ∀ {L : List Nat}, (∀ x, x ∈ L → f x = k → (ch x).countP q = m) → (∀ x, x ∈ L → (P' x = true ↔ P x = true ∨ f x = k)) → (∀ x, x ∈ L → P x = true → f x ≠ k) → ((L.filter P').flatMap ch).countP q = ((L.filter P).flatMap ch).countP q + L.countP (fun x => decide (f x = k)) * m
  | [], _, _, _ => by simp
  | x :: L, h1, h2, h3 => by
    have ih := cnt_split (ch := ch) (q := q) (P := P) (P' := P') (f := f) (k := k) (m := m) (L := L) (fun y hy => h1 y (by simp [hy])) (fun y hy => h2 y (by simp [hy])) (fun y hy => h3 y (by simp [hy]))
    have g2 := h2 x (by simp)
    have g3 := h3 x (by simp)
    rw [cP_cons]
    by_cases hf : f x = k
    · have gp' : P' x = true := g2.mpr (Or.inr hf)
      have gp : P x = false := Bool.eq_false_iff.mpr fun z => g3 z hf
      rw [List.filter_cons_of_pos gp', List.filter_cons_of_neg (by simp [gp]), List.flatMap_cons, List.countP_append, h1 x (by simp) hf, ih, if_pos (decide_eq_true hf), Nat.add_mul]
      omega
    · rw [if_neg (by simp [hf]), Nat.add_zero]
      by_cases gp : P x = true
      · have gp' : P' x = true := g2.mpr (Or.inl gp)
        rw [List.filter_cons_of_pos gp', List.filter_cons_of_pos gp, List.flatMap_cons, List.flatMap_cons, List.countP_append, List.countP_append, ih]
        omega
      · have gp' : ¬ P' x = true := fun z => (g2.mp z).elim gp hf
        rw [List.filter_cons_of_neg gp', List.filter_cons_of_neg gp, ih]
/-- the walls that come out of one -/
def chl (T : TD) (tn w : Nat) : List Nat := (actsL T w tn).map (aft T w tn)
/-- all walls that come about, each as often as it does -/
def wkL (T : TD) (w tn : Nat) : Nat → List Nat
  | 0 => [w]
  | d + 1 => (wkL T w tn d).flatMap (chl T ((tn + d) % 2))
theorem chl_ok {T : TD} {tn w x : Nat} (hT : okT T) (hw : okW T w) (ht : tn < 2) (h : x ∈ chl T tn w) : okW T x := by
  obtain ⟨a, ha, rfl⟩ := List.mem_map.mp h
  obtain ⟨a1, a2, a3⟩ := actsL_mem.mp ha
  exact hw.aft hT ht a2 a3
theorem wkL_ok {T : TD} {w tn : Nat} (hT : okT T) (hw : okW T w) : ∀ {d x : Nat}, x ∈ wkL T w tn d → okW T x
  | 0, x, h => by rw [List.mem_singleton.mp h]; exact hw
  | d + 1, x, h => by
    obtain ⟨y, hy, hx⟩ := List.mem_flatMap.mp h
    exact chl_ok hT (wkL_ok hT hw hy) (Nat.mod_lt _ (by decide)) hx
theorem dig_mono {T : TD} {w w' c : Nat} (hT : okT T) (hw : okW T w) (hc : c < 10) (h : plc w' c = plc w c ∨ (gat w c = 0 ∧ (hgt w c < plc w' c ∧ plc w' c ≤ tH T) ) ∨ (gat w c = 0 ∧ hgt w c ≤ tH T ∧ 8 ≤ plc w' c)) : dig T w c ≤ dig T w' c := by
  have hH := hT.2.1
  rcases h with h | h | h
  · unfold dig; rw [gat_of h, hgt_of h]; exact Nat.le_refl _
  · have g' : gat w' c = 0 := gat0.mpr (by omega)
    unfold dig
    rw [if_pos h.1, if_pos g', ← plc_hgt g']
    omega
  · have g' : ¬ gat w' c = 0 := fun z => by have := gat0.mp z; omega
    unfold dig
    rw [if_pos h.1, if_neg g']
    omega
theorem numG_mono {B : Nat} {dg dg' : Nat → Nat} : ∀ {n c : Nat}, (∀ j, c ≤ j → j < c + n → dg j ≤ dg' j) → numG B dg c n ≤ numG B dg' c n
  | 0, _, _ => Nat.le_refl _
  | n + 1, c, h => Nat.add_le_add (Nat.mul_le_mul_right _ (numG_mono (fun j h1 h2 => h j (by omega) (by omega)))) (h c (by omega) (by omega))
theorem num_aft {T : TD} {w tn a : Nat} (hT : okT T) (hw : okW T w) (ht : tn < 2) (ha : cand T a) (hc : canA T w tn a) : num T w < num T (aft T w tn a) := by
  have hW := hT.1
  have hp := aft_plc hT hw.1 ht ha hc
  have hok := hw.aft hT ht ha hc
  have h1 : num T w ≤ num T (aft T w tn a) := numG_mono (fun j _ h2 => by
    refine dig_mono hT hw (by omega) ?_
    rw [hp j (by omega)]
    rcases newp_cases hT ha hc j with z | z | z
    · exact Or.inl z
    · exact Or.inr (Or.inl ⟨z.2.1, z.2.2.1, z.2.2.2⟩)
    · exact Or.inr (Or.inr ⟨z.2.2.1, by omega, by omega⟩))
  have h2 : num T w ≠ num T (aft T w tn a) := fun e => by
    have e2 := num_inj hT hw hok e
    have h3 := hp (a / 4 % 16) (by have := cand_col ha; omega)
    rw [← e2] at h3
    exact (newp_col hT ha hc).1 h3.symm
  omega
theorem numl_lt {T : TD} {w : Nat} (hT : okT T) (hw : okW T w) : numl T w < (tH T + 3) ^ tW T := by
  have := hT.1
  refine numG_lt (fun j h1 h2 => ?_)
  have := dig_lt hT hw (c := j) (by omega)
  have := digl_le (T := T) (w := w) (c := j)
  omega
theorem numl_le {T : TD} {w : Nat} : numl T w ≤ num T w := numG_mono (fun _ _ _ => digl_le)
/-- the row of counts -/
def MWy (S : St) (T : TD) (b : Bool) (g : Nat → Nat) : Prop := ∀ j, j < 3125 → gI S 22 j = nI (vl b (g j))
abbrev cnN (T : TD) (L : List Nat) (j : Nat) : Nat := L.countP (fun x => decide (num T x = j))
abbrev WyP : Nat → Nat → Prop := fun a _ => a = 22
theorem WyP_dyn : ∀ a k, WyP a k → ¬ dyn a := fun a k h z => by have h : a = 22 := h; unfold dyn at z; omega
theorem Wy_add {b : Bool} {c e : Nat} (h : vl b e ≠ 0) : Int64.toInt32 (((nI (vl b c)).toInt64 + (nI (vl b e)).toInt64) - ((nI (vl b c)).toInt64 + (nI (vl b e)).toInt64) / 1000000007 * 1000000007) = nI ((vl b c + vl b e) % md7) := by
  have h1 := vl_lt b c
  have h2 := vl_lt b e
  rw [nI_l (by omega), nI_l (by omega), lN_add, show (1000000007 : Int64) = lN 1000000007 from rfl, pk_lRem (by omega) (by decide) (by decide), lN_i]
theorem vl_step {b : Bool} {c e : Nat} (h : vl b e ≠ 0) : vl b (c + e) = if b then (vl b c + vl b e) % md7 else 1 := by
  cases b with
  | true =>
    show (c + e) % md7 = (c % md7 + e % md7) % md7
    rw [← Nat.add_mod]
  | false =>
    have : e ≠ 0 := fun z => h (by rw [z]; rfl)
    show (if c + e = 0 then 0 else 1) = 1
    rw [if_neg (by omega)]
set_option maxRecDepth 4096 in
theorem f83_loop {d t w tn e : Nat} {b : Bool} {T : TD} {E : Env → Int32} {g : Nat → Nat} (hsm : small T) (hw : okW T w) (ht : tn < 2) (he : vl b e ≠ 0) : ∀ (n i : Nat) (S : St), n = (candL T).length - i → i ≤ (candL T).length → ShC S → TF S t T E → MWy S T b (fun j => g j + e * cnN T ((((candL T).take i).filter (fun a => decide (canA T w tn a))).map (aft T w tn)) j) → ∀ z3 z8 z9 : Value, WP (P83 (F (d + 4))) (1, [.ref 21, .ref t, .long (lN w), z3, .int (nI tn), .int (nI (vl b e)), .int (bi (b = true)), .int (nI i), z8, z9], [], S) (fun v S' => v = none ∧ Fr WyP nol S S' ∧ MWy S' T b (fun j => g j + e * cnN T (chl T tn w) j)) := by
  intro n
  induction n with
  | zero =>
    intro i S hn hi hS hF hM z3 z8 z9
    have hTC := hF.1
    have hT := hTC.1
    have hokT := hT.1
    have hlen := candL_250 T hokT
    have e0 : i = (candL T).length := by omega
    subst e0
    rw [List.take_length] at hM
    refine w83_1 ?_
    refine W_t (hT.2.1) ?_
    refine W_t (by rw [hTC.2.1]; decide) ?_
    refine W_f (by rw [hTC.2.2.1, c_ofNat, i_lt (by omega) (by omega)]; omega) ?_
    exact ⟨rfl, Fr.rf, hM⟩
  | succ n ih =>
    intro i S hn hi hS hF hM z3 z8 z9
    have hTC := hF.1
    have hT := hTC.1
    have hokT := hT.1
    have hlen := candL_250 T hokT
    have hg := hw.2.1 tn ht
    have hilt : i < (candL T).length := by omega
    obtain ⟨a, ha⟩ : ∃ a, (candL T)[i]? = some a := ⟨_, List.getElem?_eq_getElem hilt⟩
    have hget : gI S (gR S t 8) (nI i).toNatClampNeg = nI a := by rw [nI_clamp (by omega)]; exact hTC.2.2.2 i _ ha
    have hmem := candL_mem.mp (List.mem_of_getElem? ha)
    have htk : (candL T).take (i + 1) = (candL T).take i ++ [a] := by rw [List.take_add_one, ha]; rfl
    have ih' := fun S' => ih (i + 1) S' (by omega) (by omega)
    rw [htk, List.filter_append, List.map_append] at ih'
    generalize hpre : (((candL T).take i).filter (fun a => decide (canA T w tn a))).map (aft T w tn) = pre at ih' hM ⊢
    refine w83_1 ?_
    refine W_t (hT.2.1) ?_
    refine W_t (by rw [hTC.2.1]; decide) ?_
    refine W_t (by rw [hTC.2.2.1, c_ofNat, i_lt (by omega) (by omega)]; omega) ?_
    refine W_t (hT.2.1) ?_
    refine W_t (⟨hTC.2.1, by rw [hTC.2.2.1]; exact inB_n hilt (by omega)⟩) ?_
    refine W_t (hT.2.1) ?_
    rw [hget]
    refine W_I (f71 hT hw.1 ht hg (cand_va hokT hmem.2)) ?_
    refine W_if (fun q => ?_) (fun q => ?_)
    · rw [bi_0] at q
      show WP _ _ _
      refine w83_3 ?_
      show WP _ _ _
      rw [nI_1]
      rw [show [a].filter (fun a => decide (canA T w tn a)) = [] by simp [q], List.map_nil, List.append_nil] at ih'
      exact ih' S hS hF hM _ _ _
    · rw [bi_0] at q
      have q := Classical.not_not.mp q
      rw [show [a].filter (fun a => decide (canA T w tn a)) = [a] by simp [q]] at ih'
      have hok := hw.aft hokT ht hmem.2 q
      have hnum := num_lt hokT hok
      have hs := small_num hokT hsm
      refine W_t (hT.2.1) ?_
      refine W_L (f73 hT hw.1 ht (cand_va hokT hmem.2) (can_in hokT hmem.2 q)) ?_
      refine W_t (hT.2.1) ?_
      refine W_I (f76 hT hok.1) ?_
      refine W_t (hS.k21) ?_
      refine W_t (by rw [hS.r21_0, hS.k22]; decide) ?_
      refine W_t (by rw [hS.r21_0, hS.n22, c_ofNat, i_lt (by omega) (by omega)]; omega) ?_
      refine W_t (hS.k21) ?_
      rw [hS.r21_0, nI_clamp (by omega), hM _ (by omega)]
      have fin : ∀ (y0 : Int32) (x9 : Int32) (x8 : Int32) (z3 : Value), y0 = nI (vl b (g (num T (aft T w tn a)) + e * (cnN T pre (num T (aft T w tn a)) + 1))) → WP (P83 (F (d + 4))) (2, [.ref 21, .ref t, .long (lN w), z3, .int (nI tn), .int (nI (vl b e)), .int (bi (b = true)), .int (nI i), .int x8, .int x9], [.int y0, .int (nI (num T (aft T w tn a))), .ref 22], S) (fun v S' => v = none ∧ Fr WyP nol S S' ∧ MWy S' T b (fun j => g j + e * cnN T (chl T tn w) j)) := by
        intro y0 x9 x8 z3 hy
        refine w83_2 ?_
        refine W_t (by rw [hS.k22, hS.n22]; exact ⟨rfl, inB_n (by omega) (by decide)⟩) ?_
        refine W_s fun S1 e1 => ?_
        rw [nI_clamp (by omega)] at e1
        have f1 : Fr WyP nol S S1 := by rw [e1]; exact Fr.putI rfl
        show WP _ _ _
        refine w83_3 ?_
        show WP _ _ _
        rw [nI_1]
        refine WP.mono (ih' S1 (hS.of f1.2.2) (hF.fr f1 WyP_dyn) (fun j hj => ?_) _ _ _) ?_
        · show _ = nI (vl b (g j + e * (pre ++ [aft T w tn a]).countP (fun x => decide (num T x = j))))
          rw [e1, gI_pI, List.countP_append]
          by_cases ej : j = num T (aft T w tn a)
          · rw [if_pos ⟨rfl, ej⟩, hy, ej]
            simp [cnN]
          · rw [if_neg (fun z => ej z.2), hM j hj]
            rw [show [aft T w tn a].countP (fun x => decide (num T x = j)) = 0 by simp; exact fun z => ej z.symm, Nat.add_zero]
        · rintro v S' ⟨r1, r2, r3⟩
          exact ⟨r1, f1.tr r2, r3⟩
      have hst := vl_step (c := g (num T (aft T w tn a)) + e * cnN T pre (num T (aft T w tn a))) he
      have hmul : g (num T (aft T w tn a)) + e * (cnN T pre (num T (aft T w tn a)) + 1) = g (num T (aft T w tn a)) + e * cnN T pre (num T (aft T w tn a)) + e := by rw [Nat.mul_add, Nat.mul_one]; omega
      rw [hmul] at fin
      cases b with
      | false =>
        refine W_t (rfl) ?_
        refine fin _ _ _ _ ?_
        rw [hst]; rfl
      | true =>
        refine W_f (by decide) ?_
        refine W_t (hS.k21) ?_
        refine W_t (by rw [hS.k22, hS.n22]; exact ⟨rfl, inB_n (by omega) (by decide)⟩) ?_
        refine W_f (by decide +kernel) ?_
        refine fin _ _ _ _ ?_
        rw [Wy_add he, hst]; rfl
theorem f83 {d t w tn e : Nat} {b : Bool} {S : St} {T : TD} {E : Env → Int32} {g : Nat → Nat} (hsm : small T) (hw : okW T w) (ht : tn < 2) (he : vl b e ≠ 0) (hS : ShC S) (hF : TF S t T E) (hM : MWy S T b g) : Sp (F (d + 5) 83 [.ref 21, .ref t, .long (lN w), .int (nI tn), .int (nI (vl b e)), .int (bi (b = true))] S) (fun v S' => v = none ∧ Fr WyP nol S S' ∧ MWy S' T b (fun j => g j + e * cnN T (chl T tn w) j)) := by
  refine fw83 (w83_0 ?_)
  refine WP.mono (f83_loop (g := g) hsm hw ht he (candL T).length 0 S (by omega) (by omega) hS hF (fun j hj => ?_) .null .null .null) ?_
  · rw [hM j hj]
    show nI (vl b (g j)) = nI (vl b (g j + e * 0))
    rw [Nat.mul_zero, Nat.add_zero]
  · rintro v S' ⟨r1, r2, r3⟩
    exact ⟨r2.mono, r1, r2, r3⟩
