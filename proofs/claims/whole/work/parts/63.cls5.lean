/-! the class's own methods: lots, mark, feed -/
def lotg (g : Nat) : Nat := (g * 1103515245 + 12345) % 2147483648
def lot1 (T : TD) : Nat → Nat → Nat → Nat → Nat × Nat × Nat
  | 0, w, tn, g => (payr T w tn, 0, g)
  | n + 1, w, tn, g => match (actsL T w tn)[lotg g / 65536 % (actsL T w tn).length]? with
    | none => (payr T w tn, 0, g)
    | some a => ((lot1 T n (aft T w tn a) (1 - tn) (lotg g)).1, (lot1 T n (aft T w tn a) (1 - tn) (lotg g)).2.1 + 1, (lot1 T n (aft T w tn a) (1 - tn) (lotg g)).2.2)
set_option maxRecDepth 4096 in
theorem lot1_n {T : TD} {n w tn g : Nat} (h : actsL T w tn = []) : lot1 T n w tn g = (payr T w tn, 0, g) := by
  cases n with
  | zero => rfl
  | succ n =>
    unfold lot1
    rw [h]
    rfl
set_option maxRecDepth 4096 in
theorem lot1_s {T : TD} {n w tn g a : Nat} (h : (actsL T w tn)[lotg g / 65536 % (actsL T w tn).length]? = some a) : lot1 T (n + 1) w tn g = ((lot1 T n (aft T w tn a) (1 - tn) (lotg g)).1, (lot1 T n (aft T w tn a) (1 - tn) (lotg g)).2.1 + 1, (lot1 T n (aft T w tn a) (1 - tn) (lotg g)).2.2) := by
  conv => lhs; unfold lot1
  rw [h]
/-- n plays: in how many town 0 pays, how many days, the seed behind -/
def lotN (T : TD) (w tn : Nat) : Nat → Nat → Nat × Nat × Nat
  | 0, g => (0, 0, g)
  | n + 1, g => ((lotN T w tn n g).1 + (if (lot1 T 60 w tn (lotN T w tn n g).2.2).1 = 0 then 1 else 0), (lotN T w tn n g).2.1 + (lot1 T 60 w tn (lotN T w tn n g).2.2).2.1, (lot1 T 60 w tn (lotN T w tn n g).2.2).2.2)
theorem lotg_lt (g : Nat) : lotg g < 2 ^ 31 := Nat.mod_lt _ (by decide)
set_option maxRecDepth 4096 in
theorem lot1_g {T : TD} : ∀ {n w tn g : Nat}, g < 2 ^ 31 → (lot1 T n w tn g).2.2 < 2 ^ 31
  | 0, w, tn, g, h => h
  | n + 1, w, tn, g, h => by
    cases hq : (actsL T w tn)[lotg g / 65536 % (actsL T w tn).length]? with
    | none =>
      unfold lot1
      rw [hq]
      exact h
    | some a =>
      rw [lot1_s hq]
      exact lot1_g (lotg_lt g)
theorem lotN_g {T : TD} {w tn g : Nat} (h : g < 2 ^ 31) : ∀ {n : Nat}, (lotN T w tn n g).2.2 < 2 ^ 31
  | 0 => h
  | n + 1 => lot1_g (lotN_g h)
theorem lot_draw {g n : Nat} (hg : g < 2 ^ 31) (hn : 0 < n) (hn2 : n < 2 ^ 31) : (lN g * 1103515245 + 12345) - (lN g * 1103515245 + 12345) / 2147483648 * 2147483648 = lN (lotg g) ∧ Int64.toInt32 ((lN (lotg g) / 65536) - (lN (lotg g) / 65536) / (nI n).toInt64 * (nI n).toInt64) = nI (lotg g / 65536 % n) := by
  have h1 : g * 1103515245 + 12345 < 2 ^ 63 := by omega
  have h2 := lotg_lt g
  refine ⟨?_, ?_⟩
  · rw [show (1103515245 : Int64) = lN 1103515245 from rfl, show (12345 : Int64) = lN 12345 from rfl, show (2147483648 : Int64) = lN 2147483648 from rfl, lN_mul, lN_add, pk_lRem h1 (by decide) (by decide)]
    rfl
  · rw [nI_l hn2, show (65536 : Int64) = lN 65536 from rfl, pk_lDiv (by omega) (by decide) (by decide), pk_lRem (by omega) hn (by omega), lN_i]
abbrev DrP : Nat → Nat → Prop := fun a _ => a = 24
theorem DrP_dyn : ∀ a k, DrP a k → ¬ dyn a := fun a k z y => by have z : a = 24 := z; unfold dyn at y; omega
section CLM
variable {S : St} {tp : List Nat} {T : TD} {E : Env → Int32} {A : List Nat} {mk : Nat → Option MkD}
set_option maxRecDepth 4096 in
theorem i60 {n : Nat} (h : n < 2 ^ 31) : nI n < 60 ↔ n < 60 := i_lt (b := 60) h (by decide)
set_option maxRecDepth 4096 in
theorem f103_in {d : Nat} {S0 : St} {x1 x2 x3 x6 x8 : Int32} {Q : Option Value → St → Prop} (hS0 : ShC S0) (hF0 : TF S0 (gR S0 1 3) T E) : ∀ (n day w tn g al : Nat) (S : St), n = 60 - day → day ≤ 60 → okW T w → tn < 2 → g < 2 ^ 31 → Fr DrP nol S0 S → HL S 24 (actsL T w tn) → (∀ (S' : St) (w' tn' : Nat) (z5 z10 : Value) (x12 x13 : Int32), okW T w' → tn' < 2 → Fr DrP nol S0 S' → payr T w' tn' = (lot1 T n w tn g).1 → WP (P103 (F (d + 5))) (3, [.ref 1, .int x1, .int x2, .int x3, .long (lN (lot1 T n w tn g).2.2), z5, .int x6, .int (nI (al + (lot1 T n w tn g).2.1)), .int x8, .long (lN w'), z10, .int (nI tn'), .int x12, .int x13], [], S') Q) → ∀ z5 z10 : Value, WP (P103 (F (d + 5))) (2, [.ref 1, .int x1, .int x2, .int x3, .long (lN g), z5, .int x6, .int (nI al), .int x8, .long (lN w), z10, .int (nI tn), .int (nI (actsL T w tn).length), .int (nI day)], [], S) Q := by
  have hT := hF0.1.1.1
  intro n
  induction n with
  | zero =>
    intro day w tn g al S hn hd hw ht hg f hl hx z5 z10
    refine w103_2 ?_
    refine W_f (by rw [i60 (by omega)]; omega) ?_
    exact hx S w tn z5 z10 _ _ hw ht f rfl
  | succ n ih =>
    intro day w tn g al S hn hd hw ht hg f hl hx z5 z10
    have hlen := acts_len hT w tn
    refine w103_2 ?_
    refine W_t (by rw [i60 (by omega)]; omega) ?_
    refine W_if (fun q => ?_) (fun q => ?_)
    · rw [show (0 : Int32) = nI 0 from rfl, i_lt (by decide) (by omega)] at q
      obtain ⟨e1, e2⟩ := lot_draw (n := (actsL T w tn).length) hg q (by omega)
      have hS := hS0.of f.2.2
      have hF : TF S (gR S 1 3) T E := by rw [f.R]; exact hF0.fr f DrP_dyn
      have hix : lotg g / 65536 % (actsL T w tn).length < (actsL T w tn).length := Nat.mod_lt _ q
      have hgt : (actsL T w tn)[lotg g / 65536 % (actsL T w tn).length]? = some ((actsL T w tn)[lotg g / 65536 % (actsL T w tn).length]) := List.getElem?_eq_getElem hix
      generalize (actsL T w tn)[lotg g / 65536 % (actsL T w tn).length] = a at hgt
      obtain ⟨a1, a2, a3⟩ := actsL_mem.mp (List.mem_of_getElem? hgt)
      refine W_f (by decide +kernel) ?_
      refine W_sj fun v e => ?_
      rw [e1] at e
      subst e
      refine W_t (hS.k1) ?_
      refine W_t (hS.k1) ?_
      refine W_f (by decide +kernel) ?_
      refine W_f (by rw [nI_l (by omega), show (0 : Int64) = lN 0 from rfl, pk_lEQ (by omega) (by decide)]; omega) ?_
      rw [e2, hS.r1_11]
      refine W_t (⟨hS.k24, by rw [hS.n24]; exact inB_n (by omega) (by decide)⟩) ?_
      refine W_t (hF.k) ?_
      rw [nI_clamp (by omega), hl _ a hgt]
      refine W_L (f73 (d := d + 2) hF.1.1 hw.1 ht (cand_va hT a2) (can_in hT a2 a3)) ?_
      refine W_t (hS.k1) ?_
      refine W_t (hS.k1) ?_
      refine W_t (hF.k) ?_
      rw [i_1m ht, hS.r1_11]
      have hw' := hw.aft hT ht a2 a3
      refine W_Ie (f72 (d := d) (tn := 1 - tn) hF.1 hw'.1 (by omega) (hw'.g (by omega)) hS.k24 hS.n24 (candL_250 T hT) (dyn_ne hF.2.2.2.1 (by decide)).symm (dyn_ne hF.2.2.2.2.1 (by decide)).symm (dyn_ne hF.2.2.2.2.2.1 (by decide)).symm (dyn_ne hF.2.2.2.2.2.2.2 (by decide)).symm) ?_
      rintro v S1 ⟨rfl, f1, hl1⟩
      show WP _ _ _
      rw [nI_1, nI_1]
      refine ih (day + 1) _ _ (lotg g) (al + 1) S1 (by omega) (by omega) hw' (by omega) (lotg_lt g) (f.tr f1) hl1 (fun S' w' tn' z5 z10 x12 x13 g1 g2 g3 g4 => ?_) _ _
      have := hx S' w' tn' z5 z10 x12 x13 g1 g2 g3 (by rw [lot1_s hgt]; exact g4)
      rw [lot1_s hgt] at this
      rw [show al + 1 + (lot1 T n (aft T w tn a) (1 - tn) (lotg g)).2.1 = al + ((lot1 T n (aft T w tn a) (1 - tn) (lotg g)).2.1 + 1) by omega]
      exact this
    · rw [show (0 : Int32) = nI 0 from rfl, i_lt (by decide) (by omega)] at q
      have hnil : actsL T w tn = [] := List.length_eq_zero_iff.mp (by omega)
      have := hx S w tn z5 z10 (nI (actsL T w tn).length) (nI day) hw ht f (by rw [lot1_n hnil])
      rw [lot1_n hnil] at this
      exact this
def aLots (T : TD) (w tn : Nat) (x1 x2 x3 : Int32) : Int32 := if x1 < 0 ∨ 9999 < x1 ∨ x2 < 1 ∨ 100 < x2 ∨ x3 < 0 ∨ 1 < x3 then -1 else if x3 = 0 then nI (lotN T w tn x2.toNatClampNeg x1.toNatClampNeg).1 else nI (lotN T w tn x2.toNatClampNeg x1.toNatClampNeg).2.1
theorem CI.dr {S' : St} (h : CI S tp T E A mk) (f : Fr DrP nol S S') : CI S' tp T E A mk := by
  obtain ⟨h1, h2, h3, h4, h5, h6, h7, h8⟩ := h
  have g : Fq DrP S S' := f.q (fun a k z => z.elim id False.elim)
  have hw : ∀ {a k}, DrP a k → a = 24 := fun z => z
  refine ⟨h1.of f.2.2, g.Lv h2, h3.fq g (fun z => by have := hw z; omega) (fun k z => by have := hw z; omega), h4.fq g (fun z => by have := hw z; omega) DrP_dyn (fun a k z => by have := hw z; omega) (fun k z => by have := hw z; omega), h5.fq g (fun z => by have := hw z; omega) (fun k z => by have := hw z; omega), h6.fq g DrP_dyn (fun a k z => by have := hw z; omega), h7.fq g DrP_dyn (fun k => ⟨fun z => by have := hw z; omega, fun z => by have := hw z; omega⟩), h8.fq g DrP_dyn (fun k => ⟨fun z => by have := hw z; omega, fun z => by have := hw z; omega⟩)⟩
set_option maxRecDepth 4096 in
theorem f103 {d : Nat} {x1 x2 x3 : Int32} (h : CI S tp T E A mk) : Sp (F (d + 6) 103 [.ref 1, .int x1, .int x2, .int x3] S) (fun v S' => ∃ y, v = some (.int y) ∧ y = aLots T (pw (posA T E A)) (ptn (posA T E A)) x1 x2 x3 ∧ Fq CP S S' ∧ CI S' tp T E A mk) := by
  have hS := h.1
  have hC := h.2.2.2.1
  have hF := hC.2.1
  obtain ⟨hT, hok, -⟩ := hC.ok
  refine fw103 (w103_0 ?_)
  unfold aLots
  refine W_if (fun q1 => ?_) (fun q1 => ?_)
  · exact ⟨nochg S, _, rfl, by rw [if_pos (Or.inl q1)], Fq.rf, h⟩
  refine W_if (fun q2 => ?_) (fun q2 => ?_)
  · exact ⟨nochg S, _, rfl, by rw [if_pos (Or.inr (Or.inl q2))], Fq.rf, h⟩
  refine W_if (fun q3 => ?_) (fun q3 => ?_)
  · exact ⟨nochg S, _, rfl, by rw [if_pos (Or.inr (Or.inr (Or.inl q3)))], Fq.rf, h⟩
  refine W_if (fun q4 => ?_) (fun q4 => ?_)
  · exact ⟨nochg S, _, rfl, by rw [if_pos (Or.inr (Or.inr (Or.inr (Or.inl q4))))], Fq.rf, h⟩
  refine W_if (fun q5 => ?_) (fun q5 => ?_)
  · exact ⟨nochg S, _, rfl, by rw [if_pos (Or.inr (Or.inr (Or.inr (Or.inr (Or.inl q5)))))], Fq.rf, h⟩
  refine W_if (fun q6 => ?_) (fun q6 => ?_)
  · exact ⟨nochg S, _, rfl, by rw [if_pos (Or.inr (Or.inr (Or.inr (Or.inr (Or.inr q6)))))], Fq.rf, h⟩
  have hneg : ¬ (x1 < 0 ∨ 9999 < x1 ∨ x2 < 1 ∨ 100 < x2 ∨ x3 < 0 ∨ 1 < x3) := by
    rintro (z | z | z | z | z | z)
    · exact q1 z
    · exact q2 z
    · exact q3 z
    · exact q4 z
    · exact q5 z
    · exact q6 z
  rw [if_neg hneg]
  obtain ⟨sd, hsd, rfl⟩ := nI_of q1
  have hsd2 : sd ≤ 9999 := Nat.not_lt.mp fun z => q2 ((i_lt (a := 9999) (by decide) hsd).mpr z)
  have q3' : ¬ x2 < 0 := fun y => q3 (by
    have := Int32.lt_iff_toInt_lt.mp y
    apply Int32.lt_iff_toInt_lt.mpr
    have e : (1 : Int32).toInt = 1 := by decide
    have e0 : (0 : Int32).toInt = 0 := by decide
    omega)
  obtain ⟨pl, hpl, rfl⟩ := nI_of q3'
  have hpl2 : pl ≤ 100 := Nat.not_lt.mp fun z => q4 ((i_lt (a := 100) (by decide) hpl).mpr z)
  rw [nI_clamp hsd, nI_clamp hpl]
  rw [nI_l (by omega)]
  show WP _ _ _
  have key : ∀ (n k : Nat) (S1 : St), n = pl - k → k ≤ pl → Fr DrP nol S S1 → ∀ z5 z9 z10 z11 z12 z13 : Value, WP (P103 (F (d + 5))) (1, [.ref 1, .int (nI sd), .int (nI pl), .int x3, .long (lN (lotN T (pw (posA T E A)) (ptn (posA T E A)) k sd).2.2), z5, .int (nI (lotN T (pw (posA T E A)) (ptn (posA T E A)) k sd).1), .int (nI (lotN T (pw (posA T E A)) (ptn (posA T E A)) k sd).2.1), .int (nI k), z9, z10, z11, z12, z13], [], S1) (fun v S' => (gZ S ≤ gZ S' ∧ gU S ≤ gU S') ∧ ∃ y, v = some (.int y) ∧ y = (if x3 = 0 then nI (lotN T (pw (posA T E A)) (ptn (posA T E A)) pl sd).1 else nI (lotN T (pw (posA T E A)) (ptn (posA T E A)) pl sd).2.1) ∧ Fq CP S S' ∧ CI S' tp T E A mk) := by
    intro n
    induction n with
    | zero =>
      intro k S1 hn hk f1 z5 z9 z10 z11 z12 z13
      have e : k = pl := by omega
      subst e
      have f1q : Fq CP S S1 := f1.q (fun a k z => Or.inl (by have z : a = 24 := z.elim id False.elim; omega))
      refine w103_1 ?_
      refine W_f (by rw [i_lt (by omega) (by omega)]; omega) ?_
      refine W_if (fun z => ?_) (fun z => ?_)
      · exact ⟨f1q.mono, _, rfl, by rw [if_pos z], f1q, h.dr f1⟩
      · exact ⟨f1q.mono, _, rfl, by rw [if_neg z], f1q, h.dr f1⟩
    | succ n ih =>
      intro k S1 hn hk f1 z5 z9 z10 z11 z12 z13
      have h1 := h.dr f1
      have hS1 := h1.1
      have hF1 := h1.2.2.2.1.2.1
      have hP1 := h1.2.2.2.1.2.2.2.1
      refine w103_1 ?_
      refine W_t (by rw [i_lt (by omega) (by omega)]; omega) ?_
      refine W_t (hS1.k1) ?_
      rw [hS1.r1_4]
      refine W_t (hS1.k9) ?_
      refine W_t (hS1.k1) ?_
      refine W_t (hS1.k9) ?_
      refine W_I (f50 hS1 hP1) ?_
      refine W_t (hS1.k1) ?_
      refine W_t (hS1.k1) ?_
      refine W_t (hF1.k) ?_
      rw [hP1.2.1, hS1.r1_11]
      refine W_Ie (f72 (d := d) hF1.1 hok.1.1 (ptn_lt _) (hok.1.g (ptn_lt _)) hS1.k24 hS1.n24 (candL_250 T hT) (dyn_ne hF1.2.2.2.1 (by decide)).symm (dyn_ne hF1.2.2.2.2.1 (by decide)).symm (dyn_ne hF1.2.2.2.2.2.1 (by decide)).symm (dyn_ne hF1.2.2.2.2.2.2.2 (by decide)).symm) ?_
      rintro v S2 ⟨rfl, f2, hl2⟩
      have f12 := f1.tr f2
      have h2 := h.dr f12
      show WP _ _ _
      refine f103_in h.1 hF 60 0 _ _ _ _ S2 rfl (by omega) hok.1 (ptn_lt _) (lotN_g (by omega)) f12 hl2 (fun S' w' tn' z5 z10 x12 x13 g1 g2 g3 g4 => ?_) _ _
      have h3 := h.dr g3
      have hF3 := h3.2.2.2.1.2.1
      refine w103_3 ?_
      refine W_t (h3.1.k1) ?_
      refine W_t (hF3.k) ?_
      refine W_I (f75 hF3.1.1 g1.1 g2) ?_
      have hp := payr_le (T := T) (w := w') g2
      have fin : ∀ (b : Nat) (y0 : Int32), y0 = nI b → b = (if (lot1 T 60 (pw (posA T E A)) (ptn (posA T E A)) (lotN T (pw (posA T E A)) (ptn (posA T E A)) k sd).2.2).1 = 0 then 1 else 0) → WP (P103 (F (d + 5))) (4, [.ref 1, .int (nI sd), .int (nI pl), .int x3, .long (lN (lot1 T 60 (pw (posA T E A)) (ptn (posA T E A)) (lotN T (pw (posA T E A)) (ptn (posA T E A)) k sd).2.2).2.2), z5, .int (nI (lotN T (pw (posA T E A)) (ptn (posA T E A)) k sd).1), .int (nI ((lotN T (pw (posA T E A)) (ptn (posA T E A)) k sd).2.1 + (lot1 T 60 (pw (posA T E A)) (ptn (posA T E A)) (lotN T (pw (posA T E A)) (ptn (posA T E A)) k sd).2.2).2.1)), .int (nI k), .long (lN w'), z10, .int (nI tn'), .int x12, .int x13], [.int y0, .int (nI (lotN T (pw (posA T E A)) (ptn (posA T E A)) k sd).1)], S') (fun v S' => (gZ S ≤ gZ S' ∧ gU S ≤ gU S') ∧ ∃ y, v = some (.int y) ∧ y = (if x3 = 0 then nI (lotN T (pw (posA T E A)) (ptn (posA T E A)) pl sd).1 else nI (lotN T (pw (posA T E A)) (ptn (posA T E A)) pl sd).2.1) ∧ Fq CP S S' ∧ CI S' tp T E A mk) := by
        intro b y0 hy hb
        refine w103_4 ?_
        show WP _ _ _
        rw [hy, nI_add, nI_1, hb]
        exact ih (k + 1) S' (by omega) (by omega) g3 _ _ _ _ _ _
      refine W_if (fun z => ?_) (fun z => ?_)
      · have z : payr T w' tn' = 0 := (i_eq (b := 0) (by omega) (by decide)).mp z
        exact fin 1 1 rfl (by rw [if_pos (by rw [← g4]; exact z)])
      · have z : ¬ payr T w' tn' = 0 := fun y => z (by rw [y]; rfl)
        exact fin 0 0 rfl (by rw [if_neg (by rw [← g4]; exact z)])
  exact key pl 0 S (by omega) (by omega) Fr.rf _ _ _ _ _ _
/-! marks -/
abbrev MkP (i : Nat) : Nat → Nat → Prop := fun a k => (a = 31 + 2 * i ∧ k ≠ 1) ∨ a = 32 + 2 * i
theorem ShC.mrk {S : St} (h : ShC S) {i : Nat} (hi : i < 4) : gR S 16 i = 31 + 2 * i ∧ gK S (31 + 2 * i) = 0 ∧ gR S (31 + 2 * i) 1 = 32 + 2 * i ∧ gK S (32 + 2 * i) = 100 ∧ gN S (32 + 2 * i) = 60 := by
  rcases (show i = 0 ∨ i = 1 ∨ i = 2 ∨ i = 3 by omega) with rfl | rfl | rfl | rfl
  · exact ⟨h.r16_0, h.k31, h.r31_1, h.k32, h.n32⟩
  · exact ⟨h.r16_1, h.k33, h.r33_1, h.k34, h.n34⟩
  · exact ⟨h.r16_2, h.k35, h.r35_1, h.k36, h.n36⟩
  · exact ⟨h.r16_3, h.k37, h.r37_1, h.k38, h.n38⟩
set_option maxRecDepth 4096 in
theorem f7 {d i t : Nat} (hS : ShC S) (hi : i < 4) : Sp (F (d + 1) 7 [.ref (31 + 2 * i), .ref t, .ref 9] S) (fun v S' => v = none ∧ Fq (MkP i) S S' ∧ gR S' (31 + 2 * i) 0 = t ∧ gI S' (31 + 2 * i) 2 = gI S 9 1 ∧ ∀ k, k < 60 → gI S' (32 + 2 * i) k = gI S 10 k) := by
  obtain ⟨m1, m2, m3, m4, m5⟩ := hS.mrk hi
  refine fw7 (w7_0 ?_)
  refine W_t (m2) ?_
  refine W_s fun S1 e1 => ?_
  have f1 : Fq (MkP i) S S1 := by rw [e1]; exact Fq.pR (Or.inl ⟨rfl, by omega⟩)
  refine W_t (by rw [f1.K]; exact hS.k9) ?_
  refine W_t (by rw [f1.K]; exact m2) ?_
  have r1 : gR S1 9 0 = 10 := by rw [f1.R (by show ¬ (_ ∨ _); omega)]; exact hS.r9_0
  have r2 : gR S1 (31 + 2 * i) 1 = 32 + 2 * i := by rw [f1.R (by show ¬ (_ ∨ _); omega)]; exact m3
  rw [r1, r2]
  refine W_t (by rw [f1.K, f1.K, f1.N, f1.N, hS.k10, m4, hS.n10, m5]; decide) ?_
  refine W_s fun S2 e2 => ?_
  have f2 : Fq (MkP i) S1 S2 := by
    rw [e2]
    refine ⟨fun a k hn => ⟨?_, rfl, rfl⟩, rfl⟩
    rw [gI_cpI, if_neg]
    rintro ⟨z, -⟩
    exact hn (Or.inr z)
  refine W_t (by rw [f2.K, f1.K]; exact hS.k9) ?_
  refine W_t (by rw [f2.K, f1.K]; exact m2) ?_
  refine W_s fun S3 e3 => ?_
  have f3 : Fq (MkP i) S2 S3 := by rw [e3]; exact Fq.pI (Or.inl ⟨rfl, by omega⟩)
  have f := (f1.tr f2).tr f3
  refine ⟨f.mono, rfl, f, ?_, ?_, fun k hk => ?_⟩
  · rw [e3, gR_pI, e2, gR_cpI, e1, gR_pR, if_pos ⟨rfl, rfl⟩]
  · rw [e3, gI_pI, if_pos ⟨rfl, rfl⟩, (f1.tr f2).I (by show ¬ (_ ∨ _); omega)]
  · rw [e3, gI_pI, if_neg (by omega), e2, gI_cpI, if_pos ⟨rfl, by
      have : (0 : Int32).toNatClampNeg = 0 := by decide +kernel
      omega, by
      have : (60 : Int32).toNatClampNeg = 60 := by decide +kernel
      have : (0 : Int32).toNatClampNeg = 0 := by decide +kernel
      omega⟩, f1.I (by show ¬ (_ ∨ _); omega)]
    congr 1
    have : (0 : Int32).toNatClampNeg = 0 := by decide +kernel
    omega
/-- what a mark makes of the marks, of the truce, of what was done -/
def mkM (T : TD) (E : Env → Int32) (A : List Nat) (mk : Nat → Option MkD) (x1 x2 : Int32) : Nat → Option MkD := if x1 < 0 ∨ 4 ≤ x1.toNatClampNeg ∨ x2 ≠ 0 then mk else fun i => if i = x1.toNatClampNeg then some (T, E, A) else mk i
def mkD (T : TD) (E : Env → Int32) (A : List Nat) (mk : Nat → Option MkD) (x1 x2 : Int32) : MkD := if x1 < 0 ∨ 4 ≤ x1.toNatClampNeg ∨ x2 = 0 then (T, E, A) else match mk x1.toNatClampNeg with
  | none => (T, E, A)
  | some q => q
def mkB (mk : Nat → Option MkD) (x1 x2 : Int32) : Bool := if x1 < 0 ∨ 4 ≤ x1.toNatClampNeg then false else if x2 = 0 then true else (mk x1.toNatClampNeg).isSome
theorem CI.mkT {S' : St} {i : Nat} (h : CI S tp T E A mk) (hi : i < 4) (f : Fq (MkP i) S S') (h1 : gR S' (31 + 2 * i) 0 = gR S 1 3) (h2 : gI S' (31 + 2 * i) 2 = gI S 9 1) (h3 : ∀ k, k < 60 → gI S' (32 + 2 * i) k = gI S 10 k) : CI S' tp T E A (fun j => if j = i then some (T, E, A) else mk j) := by
  obtain ⟨g1, g2, g3, g4, g5, g6, g7, g8⟩ := h
  obtain ⟨hT, hok, hday⟩ := g4.ok
  have hd60 := hok.day hT
  have hd : ∀ a k, MkP i a k → ¬ dyn a := fun a k z y => by
    unfold dyn at y
    rcases z with z | z <;> omega
  have nP : ∀ a k, (a < 31 ∨ 38 < a) → ¬ MkP i a k := fun a k x z => by rcases z with z | z <;> omega
  have hsh : ∀ q ∈ shC_R, ¬ MkP i q.1 q.2.1 := by
    have : ∀ q ∈ shC_R, (31 ≤ q.1 ∧ q.1 ≤ 38) → q.2.1 = 1 ∧ q.1 % 2 = 1 := by decide
    intro q hq z
    have t := this q hq (by rcases z with z | z <;> omega)
    rcases z with z | z <;> omega
  refine ⟨g1.fq f hsh, f.Lv g2, g3.fq f (nP _ _ (by omega)) (fun k => nP _ _ (by omega)), g4.fq f (nP _ _ (by omega)) hd (fun a k z => by rcases z with z | z <;> omega) (fun k => nP _ _ (by omega)), g5.fq f (nP _ _ (by omega)) (fun k => nP _ _ (by omega)), fun j hj => ?_, g7.fq f hd (fun k => ⟨nP _ _ (by omega), nP _ _ (by omega)⟩), g8.fq f hd (fun k => ⟨nP _ _ (by omega), nP _ _ (by omega)⟩)⟩
  by_cases e : j = i
  · subst e
    simp only [if_true]
    refine ⟨g4.1, by rw [h1]; exact g4.2.1.fq f hd, g4.2.2.1, fun k v hv => ?_, by rw [h2, g4.2.2.2.1.1, hday]⟩
    have := (List.getElem?_eq_some_iff.mp hv).1
    rw [h3 k (by have : k < A.length := this; omega)]
    exact g4.2.2.2.2 k v hv
  · simp only [if_neg e]
    exact (g6 j hj).fq f hd (fun k => ⟨fun z => by rcases z with z | z <;> omega, fun z => by rcases z with z | z <;> omega⟩)
set_option maxRecDepth 4096 in
theorem f104 {d : Nat} {x1 x2 : Int32} (h : CI S tp T E A mk) : Sp (F (d + 7) 104 [.ref 1, .int x1, .int x2] S) (fun v S' => ∃ y, v = some (.int y) ∧ y = bi (mkB mk x1 x2 = true) ∧ Fq CP S S' ∧ CI S' tp (mkD T E A mk x1 x2).1 (mkD T E A mk x1 x2).2.1 (mkD T E A mk x1 x2).2.2 (mkM T E A mk x1 x2)) := by
  have hS := h.1
  have hC := h.2.2.2.1
  obtain ⟨hT, hok, hday⟩ := hC.ok
  refine fw104 (w104_0 ?_)
  refine W_if (fun q => ?_) (fun q => ?_)
  · refine W_b (Or.inl rfl) ⟨nochg S, _, rfl, ?_, Fq.rf, ?_⟩
    · unfold mkB; rw [if_pos (Or.inl q)]; rfl
    · unfold mkD mkM; rw [if_pos (Or.inl q), if_pos (Or.inl q)]; exact h
  obtain ⟨i, hi, rfl⟩ := nI_of q
  refine W_t (hS.k1) ?_
  rw [hS.r1_5]
  refine W_t (by rw [hS.k16]; decide) ?_
  rw [hS.n16, c_ofNat]
  refine W_if (fun q2 => ?_) (fun q2 => ?_)
  rotate_left
  · rw [i_lt hi (by decide)] at q2
    have hc : 4 ≤ (nI i).toNatClampNeg := by rw [nI_clamp hi]; omega
    refine W_b (Or.inl rfl) ⟨nochg S, _, rfl, ?_, Fq.rf, ?_⟩
    · unfold mkB; rw [if_pos (Or.inr hc)]; rfl
    · unfold mkD mkM; rw [if_pos (Or.inr (Or.inl hc)), if_pos (Or.inr (Or.inl hc))]; exact h
  rw [i_lt hi (by decide)] at q2
  obtain ⟨m1, m2, m3, m4, m5⟩ := hS.mrk q2
  have hng : ¬ (nI i < 0 ∨ 4 ≤ (nI i).toNatClampNeg) := by
    rw [nI_clamp hi]
    rintro (z | z)
    · exact q z
    · omega
  refine W_t (hS.k1) ?_
  refine W_t (⟨hS.k16, inB_n q2 (by decide)⟩) ?_
  rw [nI_clamp hi, m1]
  refine W_if (fun q3 => ?_) (fun q3 => ?_)
  · refine W_t (hS.k1) ?_
    refine W_t (hS.k1) ?_
    refine W_t (m2) ?_
    rw [hS.r1_4]
    refine W_Ve (f7 hS q2) ?_
    rintro S1 ⟨f1, r1, r2, r3⟩
    refine W_b (Or.inr rfl) ⟨f1.mono, _, rfl, ?_, f1.weak (fun a k z => Or.inr (by rcases z with z | z <;> omega)), ?_⟩
    · unfold mkB; rw [if_neg hng, if_pos q3]; rfl
    · have e1 : mkD T E A mk (nI i) x2 = (T, E, A) := if_pos (Or.inr (Or.inr q3))
      have e2 : mkM T E A mk (nI i) x2 = fun j => if j = i then some (T, E, A) else mk j := by
        unfold mkM
        rw [if_neg, nI_clamp hi]
        rintro (z | z | z)
        · exact hng (Or.inl z)
        · exact hng (Or.inr z)
        · exact z q3
      rw [e1, e2]
      exact h.mkT q2 f1 r1 r2 r3
  · refine W_t (m2) ?_
    have hm := h.2.2.2.2.2.1 i q2
    have e2 : mkM T E A mk (nI i) x2 = mk := if_pos (Or.inr (Or.inr q3))
    have hn3 : ¬ (nI i < 0 ∨ 4 ≤ (nI i).toNatClampNeg ∨ x2 = 0) := by
      rintro (z | z | z)
      · exact hng (Or.inl z)
      · exact hng (Or.inr z)
      · exact q3 z
    have e1 : mkD T E A mk (nI i) x2 = match mk i with | none => (T, E, A) | some q => q := by
      unfold mkD
      rw [if_neg hn3, nI_clamp hi]
    have e3 : mkB mk (nI i) x2 = (mk i).isSome := by
      unfold mkB
      rw [if_neg hng, if_neg q3, nI_clamp hi]
    rw [e2, e1, e3]
    cases hmk : mk i with
    | none =>
      rw [hmk] at hm
      have hm : gR S (31 + 2 * i) 0 = 0 := hm
      refine W_t (hm) ?_
      exact W_b (Or.inl rfl) ⟨nochg S, _, rfl, rfl, Fq.rf, h⟩
    | some q =>
      rw [hmk] at hm
      obtain ⟨n1, n2, n3, n4, n5⟩ := hm
      have hTq := n2.1.1.1
      have hokq := lgl_ok hTq (okP_0 q.1) n3
      have hd60 := hokq.1.day hTq
      rw [hokq.2] at hd60
      have hd60 : 0 + q.2.2.length ≤ 60 := hd60
      refine W_f (n2.ne) ?_
      refine W_t (m2) ?_
      refine W_t (hS.k1) ?_
      refine W_s fun S2 e2 => ?_
      let P : Nat → Nat → Prop := fun a k => (9 ≤ a ∧ a ≤ 15) ∨ a = 23 ∨ (a = 1 ∧ k = 10) ∨ (a = 1 ∧ k = 3)
      have nP : ∀ a k, (a < 9 ∨ 15 < a) → a ≠ 23 → ¬ (a = 1 ∧ k = 10) → ¬ (a = 1 ∧ k = 3) → ¬ P a k := fun a k x y w v z => by
        rcases z with z | z | z | z
        · omega
        · exact y z
        · exact w z
        · exact v z
      have hd : ∀ a k, P a k → ¬ dyn a := fun a k z y => by
        unfold dyn at y
        rcases z with z | z | z | z <;> omega
      have hsh : ∀ q ∈ shC_R, ¬ (q.1 = 1 ∧ q.2.1 = 3) := by decide
      have f2' : Fq (fun a k => a = 1 ∧ k = 3) S S2 := by rw [e2]; exact Fq.pR ⟨rfl, rfl⟩
      have f2 : Fq P S S2 := f2'.weak (fun a k z => Or.inr (Or.inr (Or.inr z)))
      have hS2 : ShC S2 := hS.fq f2' hsh
      obtain ⟨m1', m2', m3', m4', m5'⟩ := hS2.mrk q2
      refine W_t (hS2.k1) ?_
      refine W_t (m2') ?_
      rw [hS2.r1_4, m3']
      refine W_t (hS2.k9) ?_
      refine W_Ve (f52 hS2 m4' m5') ?_
      rintro S3 ⟨f3, h10⟩
      have hS3 := hS2.of f3.2.2
      have f3q : Fq P S2 S3 := f3.q (fun a k z => Or.inl (by have z : a = 10 := z.elim id False.elim; omega))
      obtain ⟨m1'', m2'', m3'', m4'', m5''⟩ := hS3.mrk q2
      refine W_t (hS3.k1) ?_
      refine W_t (hS3.k1) ?_
      refine W_t (m2'') ?_
      rw [hS3.r1_4]
      refine W_t (hS3.k9) ?_
      have r13 : gR S3 1 3 = gR S (31 + 2 * i) 0 := by rw [f3.R, e2, gR_pR, if_pos ⟨rfl, rfl⟩]
      have i31 : gI S3 (31 + 2 * i) 2 = nI q.2.2.length := by rw [(f2.tr f3q).I (nP _ _ (by omega) (by omega) (by omega) (by omega))]; exact n5
      rw [r13, i31]
      have hF3 : TF S3 (gR S (31 + 2 * i) 0) q.1 q.2.1 := n2.fq (f2.tr f3q) hd
      have hL3 : HL S3 10 q.2.2 := fun k v hv => by
        have := (List.getElem?_eq_some_iff.mp hv).1
        rw [h10 k (by omega), f2.I (nP _ _ (by omega) (by omega) (by omega) (by omega))]
        exact n4 k v hv
      refine W_Ve (f53 (d := d + 1) hS3 hF3 n3 hL3 rfl (by omega)) ?_
      rintro S4 ⟨f4, hP4, hL4, -⟩
      have hS4 := hS3.of f4.2.2
      have f4q : Fq P S3 S4 := f4.q (fun a k z => Or.inl (z.elim id id))
      have hC4 : CurC S4 q.1 q.2.1 q.2.2 := ⟨n1, by rw [f4.R, r13]; exact hF3.fr f4 SP_dyn, n3, hP4, hL4⟩
      refine W_t (hS4.k1) ?_
      refine W_Ve (f107 hS4 hC4) ?_
      rintro S5 ⟨f5, hD5⟩
      have f5q : Fq P S4 S5 := f5.q (fun a k z => by
        have z : LrP a k := z.elim id False.elim
        rcases z with z | z
        · exact Or.inr (Or.inl z)
        · exact Or.inr (Or.inr (Or.inl z)))
      have f5L : Fq LrP S4 S5 := f5.q (fun a k z => z.elim id False.elim)
      have f : Fq P S S5 := ((f2.tr f3q).tr f4q).tr f5q
      have hdL : ∀ a k, LrP a k → ¬ dyn a := fun a k z y => by
        unfold dyn at y
        rcases z with z | z <;> omega
      refine W_b (Or.inr rfl) ⟨f.mono, _, rfl, rfl, f.weak (fun a k z => by rcases z with z | z | z | z <;> (show _ ∨ _; omega)), hS4.of f5.2.2, f.Lv h.2.1, h.2.2.1.fq f (nP _ _ (by omega) (by omega) (by omega) (by omega)) (fun k => nP _ _ (by omega) (by omega) (by omega) (by omega)), hC4.fq f5L (by show ¬ (_ ∨ _); omega) hdL (fun a k z => by rcases z with z | z <;> omega) (fun k => by show ¬ (_ ∨ _); omega), hD5, h.2.2.2.2.2.1.fq f hd (fun a k z y => nP a k (by omega) (by omega) (by omega) (by omega) z), h.2.2.2.2.2.2.1.fq f hd (fun k => ⟨nP _ _ (by omega) (by omega) (by omega) (by omega), nP _ _ (by omega) (by omega) (by omega) (by omega)⟩), h.2.2.2.2.2.2.2.fq f hd (fun k => ⟨nP _ _ (by omega) (by omega) (by omega) (by omega), nP _ _ (by omega) (by omega) (by omega) (by omega)⟩)⟩
end CLM
