/-! the class's feed -/
def tk1 (tp : List Nat) (s : Nat) : List Nat := if (s = 10 ∨ (32 ≤ s ∧ s ≤ 126)) ∧ tp.length < 1000 then tp ++ [s] else tp
def tkS (n : Nat) : Nat → List Nat → List Nat
  | 0, tp => tp
  | k + 1, tp => tkS n k (tk1 tp (n / 2 ^ (8 * k) % 256))
abbrev FeP : Nat → Nat → Prop := fun a k => a = 2 ∨ (a = 1 ∧ k = 1)
theorem FeP_dyn : ∀ a k, FeP a k → ¬ dyn a := fun a k z y => by
  unfold dyn at y
  rcases z with z | z <;> omega
theorem fe_byte {n k : Nat} (hn : n < 2 ^ 64) (hk : k < 8) : Int64.toInt32 (((lN n).toUInt64 >>> ((nI (8 * k)).toInt64.toUInt64 &&& Int64.toUInt64 63)).toInt64) &&& 255 = nI (n / 2 ^ (8 * k) % 256) := by
  rw [wb_shr hn (by omega), lN_i, show (255 : Int32) = nI (2 ^ 8 - 1) from rfl, tw_and _ 8 (by decide)]
theorem fe_char {s : Nat} (h : s < 256) : vp_nar .char (((nI s).toUInt32 % 65536).toInt32) = nI s := by
  rw [pk_vc, pk_char, pk_tn (by omega), Nat.mod_eq_of_lt (by omega)]
set_option maxRecDepth 4096 in
theorem f106_loop {d n : Nat} {S0 : St} (hS0 : ShC S0) (hn : n < 2 ^ 64) : ∀ (k : Nat) (tp : List Nat) (S : St), k ≤ 8 → Fr FeP nol S0 S → TapeC S tp → ∀ z2 z4 z5 : Value, WP (P106 (F d)) (1, [.ref 1, .long (lN n), z2, .int (nI (8 * k) - 8), z4, z5], [], S) (fun v S' => v = none ∧ Fr FeP nol S0 S' ∧ TapeC S' (tkS n k tp)) := by
  intro k
  induction k with
  | zero =>
    intro tp S hk f ht z2 z4 z5
    refine w106_1 ?_
    refine W_t (by decide +kernel) ?_
    exact ⟨rfl, f, ht⟩
  | succ k ih =>
    intro tp S hk f ht z2 z4 z5
    have hS := hS0.of f.2.2
    have e : nI (8 * (k + 1)) - 8 = nI (8 * k) := by
      rw [c8, pk_sub (by omega)]
      rfl
    rw [e]
    have hs : n / 2 ^ (8 * k) % 256 < 256 := Nat.mod_lt _ (by decide)
    have back : ∀ (tp' : List Nat) (S' : St) (z2 : Value) (x4 x5 : Int32), tp' = tk1 tp (n / 2 ^ (8 * k) % 256) → Fr FeP nol S0 S' → TapeC S' tp' → WP (P106 (F d)) (5, [.ref 1, .long (lN n), z2, .int (nI (8 * k)), .int x4, .int x5], [], S') (fun v S' => v = none ∧ Fr FeP nol S0 S' ∧ TapeC S' (tkS n (k + 1) tp)) := by
      intro tp' S' z2 x4 x5 ht' f' h'
      refine w106_5 ?_
      show WP _ _ _
      have := ih tp' S' (by omega) f' h' (jk z2) (.int x4) (.int x5)
      rw [ht'] at this
      rw [show nI (8 * k) + (-8) = nI (8 * k) - 8 by rw [Int32.sub_eq_add_neg]]
      exact this
    have yes : (n / 2 ^ (8 * k) % 256 = 10 ∨ (32 ≤ n / 2 ^ (8 * k) % 256 ∧ n / 2 ^ (8 * k) % 256 ≤ 126)) → ∀ z2 z5 : Value, WP (P106 (F d)) (2, [.ref 1, .long (lN n), z2, .int (nI (8 * k)), .int (nI (n / 2 ^ (8 * k) % 256)), z5], [], S) (fun v S' => v = none ∧ Fr FeP nol S0 S' ∧ TapeC S' (tkS n (k + 1) tp)) := by
      intro hok z2 z5
      refine w106_2 ?_
      refine w106_4 ?_
      refine W_f (by decide) ?_
      refine W_t (hS.k1) ?_
      refine W_t (hS.k1) ?_
      rw [hS.r1_0]
      refine W_t (by rw [hS.k2]; decide) ?_
      rw [hS.n2, c_ofNat, ht.1]
      have hl := ht.2.1
      refine W_if (fun q => ?_) (fun q => ?_)
      · rw [i_lt (by omega) (by decide)] at q
        refine W_t (hS.k1) ?_
        refine W_t (hS.k1) ?_
        refine W_t (⟨hS.k2, inB_n q (by decide)⟩) ?_
        refine W_s fun S1 e1 => ?_
        rw [fe_char hs, nI_clamp (by omega)] at e1
        have f1 : Fr FeP nol S S1 := by rw [e1]; exact Fr.putI (Or.inl rfl)
        refine W_t (by rw [f1.K]; exact hS.k1) ?_
        refine W_t (by rw [f1.K]; exact hS.k1) ?_
        refine W_s fun S2 e2 => ?_
        have f2 : Fr FeP nol S1 S2 := by rw [e2]; exact Fr.putI (Or.inr ⟨rfl, rfl⟩)
        show WP _ _ _
        refine back (tp ++ [n / 2 ^ (8 * k) % 256]) S2 _ _ _ (by unfold tk1; rw [if_pos ⟨hok, q⟩]) ((f.tr f1).tr f2) ⟨?_, by rw [List.length_append]; show tp.length + 1 ≤ 1000; omega, fun v hv => ?_, HL.app (fun i v hv => ?_) ?_⟩
        · rw [e2, gI_pI, if_pos ⟨rfl, rfl⟩, e1, gI_pI, if_neg (by omega), ht.1, nI_1, List.length_append]
          rfl
        · rcases List.mem_append.mp hv with z | z
          · exact ht.2.2.1 v z
          · rw [List.mem_singleton.mp z]; exact hok
        · have := (List.getElem?_eq_some_iff.mp hv).1
          rw [e2, gI_pI, if_neg (by omega), e1, gI_pI, if_neg (by omega)]
          exact ht.2.2.2 i v hv
        · rw [e2, gI_pI, if_neg (by omega), e1, gI_pI, if_pos ⟨rfl, rfl⟩]
      · rw [i_lt (by omega) (by decide)] at q
        exact back tp S _ _ _ (by unfold tk1; rw [if_neg (fun z => q z.2)]) f ht
    have no : ¬ (n / 2 ^ (8 * k) % 256 = 10 ∨ (32 ≤ n / 2 ^ (8 * k) % 256 ∧ n / 2 ^ (8 * k) % 256 ≤ 126)) → ∀ z2 z5 : Value, WP (P106 (F d)) (3, [.ref 1, .long (lN n), z2, .int (nI (8 * k)), .int (nI (n / 2 ^ (8 * k) % 256)), z5], [], S) (fun v S' => v = none ∧ Fr FeP nol S0 S' ∧ TapeC S' (tkS n (k + 1) tp)) := by
      intro hok z2 z5
      refine w106_3 ?_
      refine w106_4 ?_
      refine W_t (rfl) ?_
      exact back tp S _ _ _ (by unfold tk1; rw [if_neg (fun z => hok z.1)]) f ht
    refine w106_1 ?_
    refine W_f (nI_n0 (by omega)) ?_
    refine W_si fun v ev => ?_
    rw [fe_byte hn (by omega)] at ev
    subst ev
    refine W_if (fun q1 => ?_) (fun q1 => ?_)
    · rw [c10, i_eq (by omega) (by decide)] at q1
      exact yes (Or.inl q1) _ _
    rw [c10, i_eq (by omega) (by decide)] at q1
    refine W_if (fun q2 => ?_) (fun q2 => ?_)
    · rw [show (32 : Int32) = nI 32 from rfl, i_lt (by omega) (by decide)] at q2
      exact no (by omega) _ _
    rw [show (32 : Int32) = nI 32 from rfl, i_lt (by omega) (by decide)] at q2
    refine W_if (fun q3 => ?_) (fun q3 => ?_)
    · rw [show (126 : Int32) = nI 126 from rfl, i_lt (by decide) (by omega)] at q3
      exact no (by omega) _ _
    · rw [show (126 : Int32) = nI 126 from rfl, i_lt (by decide) (by omega)] at q3
      exact yes (by omega) _ _
set_option maxRecDepth 4096 in
theorem f106 {d n : Nat} {S : St} {tp : List Nat} (hS : ShC S) (hn : n < 2 ^ 64) (ht : TapeC S tp) : Sp (F (d + 1) 106 [.ref 1, .long (lN n)] S) (fun v S' => v = none ∧ Fr FeP nol S S' ∧ TapeC S' (tkS n 8 tp)) := by
  refine fw106 (w106_0 ?_)
  show WP _ _ _
  have := f106_loop (d := d) hS hn 8 tp S (by omega) Fr.rf ht .null .null .null
  rw [show nI (8 * 8) - 8 = 56 by decide +kernel] at this
  refine WP.mono this ?_
  rintro v S' ⟨r1, r2, r3⟩
  exact ⟨r2.mono, r1, r2, r3⟩
theorem CI.fe {S S' : St} {tp tp' : List Nat} {T : TD} {E : Env → Int32} {A : List Nat} {mk : Nat → Option MkD} (h : CI S tp T E A mk) (f : Fr FeP nol S S') (ht : TapeC S' tp') : CI S' tp' T E A mk := by
  obtain ⟨h1, h2, h3, h4, h5, h6, h7, h8⟩ := h
  have g : Fq FeP S S' := f.q (fun a k z => z.elim id False.elim)
  have nP : ∀ a k, a ≠ 2 → ¬ (a = 1 ∧ k = 1) → ¬ FeP a k := fun a k x y z => z.elim x y
  refine ⟨h1.of f.2.2, g.Lv h2, ht, h4.fq g (nP _ _ (by omega) (by omega)) FeP_dyn (fun a k z => by rcases z with z | z <;> omega) (fun k => nP _ _ (by omega) (by omega)), h5.fq g (nP _ _ (by omega) (by omega)) (fun k => nP _ _ (by omega) (by omega)), h6.fq g FeP_dyn (fun a k z => by rcases z with z | z <;> omega), h7.fq g FeP_dyn (fun k => ⟨nP _ _ (by omega) (by omega), nP _ _ (by omega) (by omega)⟩), h8.fq g FeP_dyn (fun k => ⟨nP _ _ (by omega) (by omega), nP _ _ (by omega) (by omega)⟩)⟩
abbrev fed (tp : List Nat) (a b c : Nat) : List Nat := tkS c 8 (tkS b 8 (tkS a 8 tp))
set_option maxRecDepth 4096 in
theorem f87 {d a b c : Nat} {S : St} {tp : List Nat} {T : TD} {E : Env → Int32} {A : List Nat} {mk : Nat → Option MkD} (h : CI S tp T E A mk) (ha : a < 2 ^ 64) (hb : b < 2 ^ 64) (hc : c < 2 ^ 64) : Sp (F (d + 2) 87 [.ref 1, .long (lN a), .long (lN b), .long (lN c)] S) (fun v S' => ∃ y, v = some (.int y) ∧ y = nI (fed tp a b c).length ∧ Fq CP S S' ∧ CI S' (fed tp a b c) T E A mk) := by
  have hS := h.1
  refine fw87 (w87_0 ?_)
  refine W_t (hS.k1) ?_
  refine W_Ve (f106 hS ha h.2.2.1) ?_
  rintro S1 ⟨f1, t1⟩
  have hS1 := hS.of f1.2.2
  refine W_t (hS1.k1) ?_
  refine W_Ve (f106 hS1 hb t1) ?_
  rintro S2 ⟨f2, t2⟩
  have hS2 := hS1.of f2.2.2
  refine W_t (hS2.k1) ?_
  refine W_Ve (f106 hS2 hc t2) ?_
  rintro S3 ⟨f3, t3⟩
  have hS3 := hS2.of f3.2.2
  have f := (f1.tr f2).tr f3
  refine W_t (hS3.k1) ?_
  have fq : Fq CP S S3 := f.q (fun a k z => Or.inl (by have z : FeP a k := z.elim id False.elim; rcases z with z | z <;> omega))
  exact ⟨fq.mono, _, rfl, t3.1, fq, h.fe f t3⟩
