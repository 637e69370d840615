/-! the reference's pays, days, best, holds -/
section RIB
variable {S : St} {tp : List Nat} {T : TD} {E : Env → Int32} {A : List Nat} {mk : Nat → Option MkD}
def KyI (S : St) (T : TD) : Prop := gI S 39 44 = 0 ∨ (gI S 39 44 = 1 ∧ KnR S T)
theorem KyI.fr {S S' : St} {P PL : Nat → Nat → Prop} (h : KyI S T) (f : Fr P PL S S') (hn : ∀ a k, P a k → ¬ (a = 39 ∧ k = 44) ∧ a ≠ 65 ∧ a ≠ 66) : KyI S' T := by
  have e : gI S' 39 44 = gI S 39 44 := f.1 _ _ (fun z => (hn _ _ z).1 ⟨rfl, rfl⟩)
  rcases h with h | ⟨h, hk⟩
  · exact Or.inl (by rw [e]; exact h)
  · refine Or.inr ⟨by rw [e]; exact h, fun w tn h1 h2 => ?_⟩
    rw [f.1 _ _ (fun z => (hn _ _ z).2.1 rfl), f.1 _ _ (fun z => (hn _ _ z).2.2 rfl)]
    exact hk w tn h1 h2
/-- the reference's cells hold a state -/
def RI (S : St) (tp : List Nat) (T : TD) (E : Env → Int32) (A : List Nat) (mk : Nat → Option MkD) : Prop := RI0 S tp T E A mk ∧ KyI S T
theorem RI.th {S' : St} {P : Nat → Nat → Prop} (h : RI S tp T E A mk) (f : Fr P nol S S') (hp : ∀ a k, P a k → TaP a k) : RI S' tp T E A mk := ⟨h.1.fr f (fun a k z => TaP_s a k (hp a k z)), h.2.fr f (fun a k z => by have := hp a k z; have y : a = 39 ∧ _ := this; omega)⟩
abbrev KwP : Nat → Nat → Prop := fun a k => a = 65 ∨ (a = 39 ∧ k = 44)
set_option maxRecDepth 4096 in
/-- knows -/
theorem f170 {d : Nat} (hM : ShM S) (hT : okT T) (hs : small T) (h : KyI S T) : Sp (F (d + 1) 170 [.ref 39] S) (fun v S' => v = none ∧ Fr KwP nol S S' ∧ gI S' 39 44 = 1 ∧ KnR S' T) := by
  refine fw170 (w170_0 ?_)
  simp only [hM.k39, z0c, eq_self, if_true, Nat.reduceAdd, true_and]
  refine W_if (fun q => ?_) (fun q => ?_)
  · refine W_t (Or.inr trivial) ?_
    refine W_s fun S1 e1 => ?_
    have f1 : Fr KwP nol S S1 := by rw [e1]; exact Fr.putI (Or.inr ⟨rfl, rfl⟩)
    have g1 : gI S1 39 44 = 1 := by rw [e1, gI_pI, if_pos ⟨rfl, rfl⟩]
    show WP _ _ _
    have key : ∀ (n k : Nat) (S2 : St), n = 65536 - k → k ≤ 65536 → Fr KwP nol S S2 → gI S2 39 44 = 1 → (∀ j, j < k → gI S2 65 j = 0) → WP (P170 (F d)) (1, [.ref 39, .int (nI k)], [], S2) (fun v S' => (gZ S ≤ gZ S' ∧ gU S ≤ gU S') ∧ v = none ∧ Fr KwP nol S S' ∧ gI S' 39 44 = 1 ∧ KnR S' T) := by
      intro n
      induction n with
      | zero =>
        intro k S2 hn hk f2 g2 h0
        have e : k = 65536 := by omega
        subst e
        refine w170_1 ?_
        refine W_f (by decide +kernel) ?_
        exact ⟨f2.mono, rfl, f2, g2, fun w tn hw ht => Or.inl (h0 _ (nkey_lt hT hs hw ht))⟩
      | succ n ih =>
        intro k S2 hn hk f2 g2 h0
        have hM2 := hM.fr f2
        refine w170_1 ?_
        refine W_t (by rw [show (65536 : Int32) = nI 65536 from rfl, i_lt (by omega) (by decide)]; omega) ?_
        simp only [hM2.k39, hM2.r39_42, hM2.k65, hM2.n65, z0c, eq_self, if_true, Nat.reduceAdd, true_and]
        refine W_t (inB_n (by omega) (by decide)) ?_
        rw [nI_clamp (by omega)]
        refine W_s fun S3 e3 => ?_
        have f3 : Fr KwP nol S2 S3 := by rw [e3]; exact Fr.putI (Or.inl rfl)
        show WP _ _ _
        rw [nI_1]
        refine ih (k + 1) S3 (by omega) (by omega) (f2.tr f3) (by rw [e3, gI_pI, if_neg (by omega)]; exact g2) (fun j hj => ?_)
        rw [e3, gI_pI]
        by_cases e : j = k
        · rw [if_pos ⟨rfl, e⟩]; decide +kernel
        · rw [if_neg (fun z => e z.2)]; exact h0 j (by omega)
    exact key 65536 0 S1 (by omega) (by omega) f1 g1 (fun j hj => by omega)
  · rcases h with z | ⟨z, hk⟩
    · exact absurd z q
    · exact ⟨nochg S, rfl, Fr.rf, z, hk⟩
/-- what a search changes -/
abbrev NoP : Nat → Nat → Prop := fun a k => (a = 63 ∧ 64 ≤ k) ∨ (53 ≤ a ∧ a ≤ 62) ∨ (a = 39 ∧ (k = 0 ∨ (39 ≤ k ∧ k ≤ 41) ∨ k = 44)) ∨ a = 65 ∨ a = 66
theorem NoP_s : ∀ a k, NoP a k → Scr a k := fun a k z => by
  rcases z with z | z | z | z | z
  · exact Or.inr (Or.inr (Or.inr (Or.inl z)))
  · exact Or.inr (Or.inr (Or.inl (by omega)))
  · exact Or.inl ⟨z.1, by omega, by omega⟩
  · exact Or.inr (Or.inr (Or.inr (Or.inr (by omega))))
  · exact Or.inr (Or.inr (Or.inr (Or.inr (by omega))))
theorem KwP_no : ∀ a k, KwP a k → NoP a k := fun a k z => by
  rcases z with z | z
  · exact Or.inr (Or.inr (Or.inr (Or.inl z)))
  · exact Or.inr (Or.inr (Or.inl ⟨z.1, Or.inr (Or.inr z.2)⟩))
theorem SoP_no {o : Nat} : ∀ a k, SoP o a k → NoP a k := fun a k z => by
  rcases z with z | z | z | z | z
  · exact Or.inl ⟨z.1, by omega⟩
  · exact Or.inr (Or.inl z)
  · exact Or.inr (Or.inr (Or.inl ⟨z.1, Or.inr (Or.inl z.2)⟩))
  · exact Or.inr (Or.inr (Or.inr (Or.inl z)))
  · exact Or.inr (Or.inr (Or.inr (Or.inr z)))
theorem CpP_no : ∀ a k, CpP 64 a k → NoP a k := fun a k z => Or.inl ⟨z.1, z.2.1⟩
theorem DoP_no : ∀ a k, DoP 64 a k → NoP a k := fun a k z => by
  rcases z with z | z | z
  · exact Or.inl ⟨z.1, z.2.1⟩
  · exact Or.inr (Or.inl z)
  · exact Or.inr (Or.inr (Or.inl ⟨z.1, Or.inr (Or.inl z.2)⟩))
theorem AcP_no : ∀ a k, AcP a k → NoP a k := fun a k z => Or.inr (Or.inr (Or.inl ⟨z.1, Or.inr (Or.inl z.2)⟩))
theorem KnR.fr {S S' : St} {P PL : Nat → Nat → Prop} (h : KnR S T) (f : Fr P PL S S') (hn : ∀ a k, P a k → a ≠ 65 ∧ a ≠ 66) : KnR S' T := fun w tn h1 h2 => by
  rw [f.1 _ _ (fun z => (hn _ _ z).1 rfl), f.1 _ _ (fun z => (hn _ _ z).2 rfl)]
  exact h w tn h1 h2
theorem RI.no {S' : St} (h : RI S tp T E A mk) (f : Fr NoP nol S S') (h1 : gI S' 39 44 = 1) (h2 : KnR S' T) : RI S' tp T E A mk := ⟨h.1.fr f NoP_s, Or.inr ⟨h1, h2⟩⟩
set_option maxRecDepth 4096 in
/-- now -/
theorem f173 {d : Nat} (hs : small T) (h : RI S tp T E A mk) : Sp (F (d + 24) 173 [.ref 39] S) (fun v S' => ∃ x, v = some (.int x) ∧ x = nI (nkey T (pw (posA T E A)) (ptn (posA T E A))) ∧ Fr NoP nol S S' ∧ gI S' 39 44 = 1 ∧ KnR S' T ∧ gI S' 65 (nkey T (pw (posA T E A)) (ptn (posA T E A))) = nI (1 + out T (-1) (-1) (pw (posA T E A)) (ptn (posA T E A)) % 2) ∧ gI S' 66 (nkey T (pw (posA T E A)) (ptn (posA T E A))) = nI (out T (-1) (-1) (pw (posA T E A)) (ptn (posA T E A)) / 2)) := by
  obtain ⟨hT, hok, hday⟩ := h.1.ok
  have hd60 := hok.day hT
  have hB := small_num hT hs
  refine fw173 (w173_0 ?_)
  refine W_t (h.1.1.k39) ?_
  refine W_Ve (f170 h.1.1 hT hs h.2) ?_
  rintro S1 ⟨f1, g1, k1⟩
  have n1 := f1.weak KwP_no (fun a k z => z)
  have h1 := h.1.fr n1 NoP_s
  refine W_t (h1.1.k39) ?_
  have e64 : (64 : Int32) = nI 64 := rfl
  refine W_Ve (f169 (d := d + 22) (o := 0) (b := 64) h1.1 (by omega) (by omega) (by omega)) ?_
  rintro S2 ⟨f2, cp⟩
  have n2 := n1.tr (f2.weak CpP_no (fun a k z => z))
  have h2 := h.1.fr n2 NoP_s
  have k2 : KnR S2 T := k1.fr f2 (fun a k z => by have z : a = 63 ∧ _ := z; omega)
  have hrow := h1.row.1.cp cp
  refine W_t (h2.1.k39) ?_
  refine W_Ie (f172 (E := E) hs 15 d _ _ _ 64 S2 h2.1 h2.2.2.1 h2.2.2.2.1 hrow k2 hok.1 (ptn_lt _) (by omega) (by omega) (by omega)) ?_
  rintro v S3 ⟨rfl, f3, -, k3, p1, p2⟩
  have n3 := n2.tr (f3.weak SoP_no (fun a k z => z))
  refine ⟨n3.mono, _, rfl, rfl, n3, ?_, k3, p1, p2⟩
  rw [f3.1 _ _ (by show ¬ (_ ∨ _); omega), f2.1 _ _ (by show ¬ (_ ∧ _); omega)]
  exact g1
set_option maxRecDepth 4096 in
theorem f174 {d : Nat} (h : RI S tp T E A mk) : Sp (F (d + 25) 174 [.ref 39] S) (fun v S' => ∃ y, v = some (.int y) ∧ y = aPays T (pw (posA T E A)) (ptn (posA T E A)) ∧ Fr NoP nol S S' ∧ RI S' tp T E A mk) := by
  obtain ⟨hT, hok, hday⟩ := h.1.ok
  refine fw174 (w174_0 ?_)
  refine W_t (h.1.1.k39) ?_
  refine W_s fun S1 e1 => ?_
  have f1 : Fr ThP nol S S1 := by rw [e1]; exact Fr.putI ⟨rfl, rfl⟩
  have n1 : Fr NoP nol S S1 := f1.weak (fun a k z => Or.inr (Or.inr (Or.inl ⟨z.1, Or.inl z.2⟩))) (fun a k z => z)
  have h1 : RI S1 tp T E A mk := h.th f1 (fun a k z => ⟨z.1, Or.inl z.2⟩)
  have hM := h1.1.1
  simp only [hM.k39, z0c, eq_self, if_true, Nat.reduceAdd, true_and]
  refine W_I (f165 hM h1.1.2.2.1) ?_
  unfold aPays
  refine W_if (fun q => ?_) (fun q => ?_)
  · rw [bi_0] at q
    exact ⟨n1.mono, _, rfl, by rw [if_neg q], n1, h1⟩
  rw [bi_0] at q
  have hs := Classical.not_not.mp q
  simp only [hM.k39, hM.r39_42, hM.k65, hM.n65, z0c, eq_self, if_true, Nat.reduceAdd, true_and]
  refine W_Ie (f173 hs h1) ?_
  rintro v S2 ⟨rfl, n2, g2, k2, p1, p2⟩
  have hM2 := hM.fr n2
  have hlt := nkey_lt hT hs hok.1 (ptn_lt (posA T E A))
  refine W_t (⟨hM2.k65, by rw [hM2.n65]; exact inB_n (by omega) (by decide)⟩) ?_
  rw [nI_clamp (by omega), p1, c1, pk_sub (by omega), Nat.add_sub_cancel_left]
  exact ⟨(n1.tr n2).mono, _, rfl, by rw [if_pos hs], n1.tr n2, h1.no n2 g2 k2⟩
set_option maxRecDepth 4096 in
theorem f175 {d : Nat} (h : RI S tp T E A mk) : Sp (F (d + 25) 175 [.ref 39] S) (fun v S' => ∃ y, v = some (.int y) ∧ y = aDays T (pw (posA T E A)) (ptn (posA T E A)) ∧ Fr NoP nol S S' ∧ RI S' tp T E A mk) := by
  obtain ⟨hT, hok, hday⟩ := h.1.ok
  refine fw175 (w175_0 ?_)
  refine W_t (h.1.1.k39) ?_
  refine W_s fun S1 e1 => ?_
  have f1 : Fr ThP nol S S1 := by rw [e1]; exact Fr.putI ⟨rfl, rfl⟩
  have n1 : Fr NoP nol S S1 := f1.weak (fun a k z => Or.inr (Or.inr (Or.inl ⟨z.1, Or.inl z.2⟩))) (fun a k z => z)
  have h1 : RI S1 tp T E A mk := h.th f1 (fun a k z => ⟨z.1, Or.inl z.2⟩)
  have hM := h1.1.1
  simp only [hM.k39, z0c, eq_self, if_true, Nat.reduceAdd, true_and]
  refine W_I (f165 hM h1.1.2.2.1) ?_
  unfold aDays
  refine W_if (fun q => ?_) (fun q => ?_)
  · rw [bi_0] at q
    exact ⟨n1.mono, _, rfl, by rw [if_neg q], n1, h1⟩
  rw [bi_0] at q
  have hs := Classical.not_not.mp q
  simp only [hM.k39, hM.r39_43, hM.k66, hM.n66, z0c, eq_self, if_true, Nat.reduceAdd, true_and]
  refine W_Ie (f173 hs h1) ?_
  rintro v S2 ⟨rfl, n2, g2, k2, p1, p2⟩
  have hM2 := hM.fr n2
  have hlt := nkey_lt hT hs hok.1 (ptn_lt (posA T E A))
  refine W_t (⟨hM2.k66, by rw [hM2.n66]; exact inB_n (by omega) (by decide)⟩) ?_
  rw [nI_clamp (by omega), p2]
  exact ⟨(n1.tr n2).mono, _, rfl, by rw [if_pos hs], n1.tr n2, h1.no n2 g2 k2⟩
set_option maxRecDepth 4096 in
/-- behind: an act that is there -/
theorem f176 {d : Nat} {x : Int32} (hs : small T) (h : RI S tp T E A mk) : Sp (F (d + 24) 176 [.ref 39, .int x] S) (fun v S' => ∃ y, v = some (.int y) ∧ Fr NoP nol S S' ∧ gI S' 39 44 = 1 ∧ KnR S' T ∧ (gI S 39 44 = 1 → StK S S') ∧ ((¬ x < 0 ∧ x.toNatClampNeg < (actsL T (pw (posA T E A)) (ptn (posA T E A))).length) ∨ y = -1) ∧ ∀ a, ¬ x < 0 → (actsL T (pw (posA T E A)) (ptn (posA T E A)))[x.toNatClampNeg]? = some a → y = nI (nkey T (aft T (pw (posA T E A)) (ptn (posA T E A)) a) (1 - ptn (posA T E A))) ∧ gI S' 65 (nkey T (aft T (pw (posA T E A)) (ptn (posA T E A)) a) (1 - ptn (posA T E A))) = nI (1 + ouB T (pw (posA T E A)) (ptn (posA T E A)) a % 2) ∧ gI S' 66 (nkey T (aft T (pw (posA T E A)) (ptn (posA T E A)) a) (1 - ptn (posA T E A))) + 1 = nI (ouB T (pw (posA T E A)) (ptn (posA T E A)) a / 2)) := by
  obtain ⟨hT, hok, hday⟩ := h.1.ok
  have hd60 := hok.day hT
  have hB := small_num hT hs
  have hkey : gI S 39 44 = 1 → Sp (F (d + 23) 170 [.ref 39] S) (fun v S' => v = none ∧ S' = S) := fun z => by
    refine fw170 (w170_0 ?_)
    refine W_t (h.1.1.k39) ?_
    refine W_f (by rw [z]; decide) ?_
    exact ⟨nochg S, rfl, rfl⟩
  refine fw176 (w176_0 ?_)
  refine W_t (h.1.1.k39) ?_
  have start : Sp (F (d + 23) 170 [.ref 39] S) (fun v S' => v = none ∧ Fr KwP nol S S' ∧ gI S' 39 44 = 1 ∧ KnR S' T ∧ (gI S 39 44 = 1 → StK S S')) := by
    obtain ⟨r, S', e, r1, f1, g1, k1⟩ := f170 (d := d + 22) h.1.1 hT hs h.2
    refine ⟨r, S', e, r1, f1, g1, k1, fun z k hk => ?_⟩
    obtain ⟨r2, S2, e2, q1, q2⟩ := hkey z
    rw [e] at e2
    have := (Prod.mk.inj (Option.some.inj e2)).2
    rw [this, q2]
    exact hk
  refine W_Ve (start) ?_
  rintro S1 ⟨f1, g1, k1, st1⟩
  have n1 := f1.weak KwP_no (fun a k z => z)
  have h1 := h.1.fr n1 NoP_s
  have hM1 := h1.1
  obtain ⟨⟨hr, h43, -, -⟩, -⟩ := h1.row
  simp only [hM1.k39, hM1.r39_36, hM1.k63, hM1.n63, z0c, eq_self, if_true, Nat.reduceAdd, true_and]
  refine W_t (inB_n (n := 43) (by omega) (by decide)) ?_
  rw [c43, h43]
  refine W_if (fun q => ?_) (fun q => ?_)
  · have q := (pys_pos (ptn_lt _)).mp q
    refine ⟨n1.mono, _, rfl, n1, g1, k1, st1, Or.inr rfl, fun a _ ha => ?_⟩
    rw [q] at ha
    simp at ha
  refine W_Ie (f152 (o := 0) (d := d + 18) (x2 := x) hM1 h1.2.2.1 hr (by omega) hok.1 (ptn_lt _)) ?_
  rintro v S2 ⟨rfl, f2, ha⟩
  have n2 := n1.tr (f2.weak AcP_no (fun a k z => z))
  have h2 := h.1.fr n2 NoP_s
  have hM2 := h2.1
  have g2 : gI S2 39 44 = 1 := by rw [f2.1 _ _ (by show ¬ (_ ∧ _); omega)]; exact g1
  have k2 : KnR S2 T := k1.fr f2 (fun a k z => by have z : a = 39 ∧ _ := z; omega)
  have st2 : gI S 39 44 = 1 → StK S S2 := fun z k hk => by rw [f2.1 _ _ (by show ¬ (_ ∧ _); omega)]; exact st1 z k hk
  refine W_if (fun q2 => ?_) (fun q2 => ?_)
  · rw [bi_0] at q2
    refine ⟨n2.mono, _, rfl, n2, g2, k2, st2, Or.inr rfl, fun a z1 z2 => ?_⟩
    exact absurd ⟨z1, (List.getElem?_eq_some_iff.mp z2).1⟩ q2
  rw [bi_0] at q2
  obtain ⟨z1, z2⟩ := Classical.not_not.mp q2
  have hg : (actsL T (pw (posA T E A)) (ptn (posA T E A)))[x.toNatClampNeg]? = some ((actsL T (pw (posA T E A)) (ptn (posA T E A)))[x.toNatClampNeg]) := List.getElem?_eq_getElem z2
  generalize (actsL T (pw (posA T E A)) (ptn (posA T E A)))[x.toNatClampNeg] = a at hg
  have hF := ha a z1 hg
  have hmem := List.mem_of_getElem? hg
  obtain ⟨a1, a2, a3⟩ := actsL_mem.mp hmem
  have hfl := fil_aft hT hok.1 (ptn_lt _) a2 a3
  simp only [hM2.k39, z0c, eq_self, if_true, Nat.reduceAdd, true_and]
  refine W_Ve (f169 (d := d + 22) (o := 0) (b := 64) hM2 (by omega) (by omega) (by omega)) ?_
  rintro S3 ⟨f3, cp⟩
  have n3 := n2.tr (f3.weak CpP_no (fun a k z => z))
  have h3 := h.1.fr n3 NoP_s
  have hM3 := h3.1
  have hrow := h2.row.1.cp cp
  have hF3 : actF S3 a := by
    obtain ⟨q1, q2, q3⟩ := hF
    exact ⟨by rw [f3.1 _ _ (by show ¬ (_ ∧ _); omega)]; exact q1, by rw [f3.1 _ _ (by show ¬ (_ ∧ _); omega)]; exact q2, by rw [f3.1 _ _ (by show ¬ (_ ∧ _); omega)]; exact q3⟩
  simp only [hM3.k39, z0c, eq_self, if_true, Nat.reduceAdd, true_and]
  rw [hF3.1, hF3.2.1, hF3.2.2]
  refine W_Ve (f154 (d := d + 16) (o := 64) hM3 h3.2.2.1 h3.2.2.2.1 hrow (by omega) hok.1 (ptn_lt _) (by omega) hmem) ?_
  rintro S4 ⟨f4, hrow4, -⟩
  have n4 := n3.tr (f4.weak DoP_no (fun a k z => z))
  have h4 := h.1.fr n4 NoP_s
  have k4 : KnR S4 T := (k2.fr f3 (fun a k z => by have z : a = 63 ∧ _ := z; omega)).fr f4 (fun a k z => by rcases z with z | z | z <;> omega)
  refine W_t (h4.1.k39) ?_
  refine W_Ie (f172 (E := E) hs 15 d _ _ _ 64 S4 h4.1 h4.2.2.1 h4.2.2.2.1 hrow4 k4 (hok.1.aft hT (ptn_lt _) a2 a3) (by omega) (by omega) (by omega) (by omega)) ?_
  rintro v S5 ⟨rfl, f5, st5, k5, p1, p2⟩
  have n5 := n4.tr (f5.weak SoP_no (fun a k z => z))
  have hg5 : ∀ (k : Nat), gI S4 65 k = gI S2 65 k := fun k => by rw [f4.1 _ _ (by show ¬ (_ ∨ _); omega), f3.1 _ _ (by show ¬ (_ ∧ _); omega)]
  refine ⟨n5.mono, _, rfl, n5, ?_, k5, fun z k hk => st5 k (by rw [hg5]; exact st2 z k hk), Or.inl ⟨z1, z2⟩, fun b _ hb => ?_⟩
  · rw [f5.1 _ _ (by show ¬ (_ ∨ _); omega), f4.1 _ _ (by show ¬ (_ ∨ _); omega), f3.1 _ _ (by show ¬ (_ ∧ _); omega)]
    exact g2
  · rw [hg] at hb
    have hb := Option.some.inj hb
    subst hb
    refine ⟨rfl, ?_, ?_⟩
    · rw [p1]
      congr 1
      show _ = 1 + (_ + 2) % 2
      omega
    · rw [p2, nI_1]
      congr 1
      show _ = (_ + 2) / 2
      omega
set_option maxRecDepth 4096 in
theorem f178 {d : Nat} {x : Int32} (h : RI S tp T E A mk) : Sp (F (d + 25) 178 [.ref 39, .int x] S) (fun v S' => ∃ y, v = some (.int y) ∧ y = aHolds T (pw (posA T E A)) (ptn (posA T E A)) x ∧ Fr NoP nol S S' ∧ RI S' tp T E A mk) := by
  obtain ⟨hT, hok, hday⟩ := h.1.ok
  refine fw178 (w178_0 ?_)
  refine W_t (h.1.1.k39) ?_
  refine W_s fun S1 e1 => ?_
  have f1 : Fr ThP nol S S1 := by rw [e1]; exact Fr.putI ⟨rfl, rfl⟩
  have n1 : Fr NoP nol S S1 := f1.weak (fun a k z => Or.inr (Or.inr (Or.inl ⟨z.1, Or.inl z.2⟩))) (fun a k z => z)
  have h1 : RI S1 tp T E A mk := h.th f1 (fun a k z => ⟨z.1, Or.inl z.2⟩)
  have hM := h1.1.1
  simp only [hM.k39, z0c, eq_self, if_true, Nat.reduceAdd, true_and]
  refine W_I (f165 hM h1.1.2.2.1) ?_
  unfold aHolds
  refine W_if (fun q => ?_) (fun q => ?_)
  · rw [bi_0] at q
    refine ⟨n1.mono, _, rfl, ?_, n1, h1⟩
    by_cases z : x < 0
    · rw [if_pos z]
    · rw [if_neg z]
      cases (actsL T (pw (posA T E A)) (ptn (posA T E A)))[x.toNatClampNeg]? with
      | none => rfl
      | some a => show _ = if small T then _ else _; rw [if_neg q]
  rw [bi_0] at q
  have hs := Classical.not_not.mp q
  simp only [hM.k39, z0c, eq_self, if_true, Nat.reduceAdd, true_and]
  refine W_Ie (f176 hs h1) ?_
  rintro v S2 ⟨n2, g2, k2, -, hor, hval⟩
  have hM2 := hM.fr n2
  have hri := h1.no n2 g2 k2
  have n12 := n1.tr n2
  by_cases hin : ¬ x < 0 ∧ x.toNatClampNeg < (actsL T (pw (posA T E A)) (ptn (posA T E A))).length
  · obtain ⟨z1, z2⟩ := hin
    have hg : (actsL T (pw (posA T E A)) (ptn (posA T E A)))[x.toNatClampNeg]? = some ((actsL T (pw (posA T E A)) (ptn (posA T E A)))[x.toNatClampNeg]) := List.getElem?_eq_getElem z2
    generalize (actsL T (pw (posA T E A)) (ptn (posA T E A)))[x.toNatClampNeg] = a at hg
    obtain ⟨a1, a2, a3⟩ := actsL_mem.mp (List.mem_of_getElem? hg)
    obtain ⟨rfl, p1, p2⟩ := hval a z1 hg
    have hlt := nkey_lt hT hs (hok.1.aft hT (ptn_lt _) a2 a3) (tn := 1 - ptn (posA T E A)) (by omega)
    refine W_f (nI_n0 (by omega)) ?_
    simp only [hM2.k39, hM2.r39_43, hM2.k66, hM2.n66, z0c, eq_self, if_true, Nat.reduceAdd, true_and]
    refine W_t (inB_n (by omega) (by decide)) ?_
    rw [nI_clamp (by omega), p2]
    refine ⟨n12.mono, _, rfl, ?_, n12, hri⟩
    rw [if_neg z1, hg]
    show _ = if small T then _ else _
    rw [if_pos hs]
  · have ev : v = -1 := hor.resolve_left hin
    subst ev
    refine W_t (by decide) ?_
    refine ⟨n12.mono, _, rfl, ?_, n12, hri⟩
    by_cases z : x < 0
    · rw [if_pos z]
    · rw [if_neg z, List.getElem?_eq_none (Nat.not_lt.mp fun y => hin ⟨z, y⟩)]
theorem pick_mem {tn : Nat} {f : Nat → Nat} : ∀ {L : List Nat} {x : Option Nat} {v : Nat}, L.foldl (fun ch a => pick tn ch (f a)) x = some v → (∃ a, a ∈ L ∧ f a = v) ∨ x = some v
  | [], x, v, h => Or.inr h
  | a :: L, x, v, h => by
    have h : L.foldl (fun ch a => pick tn ch (f a)) (pick tn x (f a)) = some v := h
    rcases pick_mem h with ⟨b, hb, e⟩ | e
    · exact Or.inl ⟨b, by simp [hb], e⟩
    · cases x with
      | none => exact Or.inl ⟨a, by simp, Option.some.inj e⟩
      | some c =>
        have e : (if scr c tn < scr (f a) tn then some (f a) else some c) = some v := e
        split at e
        · exact Or.inl ⟨a, by simp, Option.some.inj e⟩
        · exact Or.inr e
/-- some act is best -/
theorem best_ex {w tn : Nat} (hT : okT T) (hw : okW T w) (ht : tn < 2) (hne : actsL T w tn ≠ []) : ∃ (j a : Nat), (actsL T w tn)[j]? = some a ∧ ouB T w tn a = out T (-1) (-1) w tn ∧ ∀ (i b : Nat), i < j → (actsL T w tn)[i]? = some b → ouB T w tn b ≠ out T (-1) (-1) w tn := by
  have hoe := out_eq (m := -1) (r := -1) hT hw ht
  rw [if_neg (nI_m1 (by omega))] at hoe
  have hex : ∃ j : Nat, ∃ a : Nat, (actsL T w tn)[j]? = some a ∧ ouB T w tn a = out T (-1) (-1) w tn := by
    cases hf : (actsL T w tn).foldl (fun ch a => pick tn ch (out T (-1) (-1) (aft T w tn a) (1 - tn) + 2)) none with
    | none =>
      exfalso
      cases hL : actsL T w tn with
      | nil => exact hne hL
      | cons a L =>
        rw [hL] at hf
        have key : ∀ (L : List Nat) (v : Nat), L.foldl (fun ch a => pick tn ch (out T (-1) (-1) (aft T w tn a) (1 - tn) + 2)) (some v) ≠ none := by
          intro L
          induction L with
          | nil => intro v z; cases z
          | cons c L ih =>
            intro v
            show L.foldl _ (if scr v tn < scr (out T (-1) (-1) (aft T w tn c) (1 - tn) + 2) tn then some (out T (-1) (-1) (aft T w tn c) (1 - tn) + 2) else some v) ≠ none
            split
            · exact ih _
            · exact ih _
        exact key L _ hf
    | some e =>
      rw [hf] at hoe
      have hoe : out T (-1) (-1) w tn = e := hoe
      rcases pick_mem (f := fun a => out T (-1) (-1) (aft T w tn a) (1 - tn) + 2) hf with ⟨a, ha, he⟩ | z
      · obtain ⟨j, hj⟩ := List.getElem?_of_mem ha
        exact ⟨j, a, hj, by rw [hoe]; exact he⟩
      · cases z
  obtain ⟨j, ⟨a, h1, h2⟩, h3⟩ := pk_least _ hex
  exact ⟨j, a, h1, h2, fun i b hi hb e => h3 i hi ⟨b, hb, e⟩⟩
theorem aBest_of {w tn j a : Nat} {x : Int32} (hs : small T) (hx : x = nI j) (h1 : (actsL T w tn)[j]? = some a) (h2 : ouB T w tn a = out T (-1) (-1) w tn) (h3 : ∀ i b, i < j → (actsL T w tn)[i]? = some b → ouB T w tn b ≠ out T (-1) (-1) w tn) : aBest T w tn x := by
  unfold aBest
  rw [if_neg]
  · exact ⟨j, a, hx, h1, h2, h3⟩
  · rintro (z | z)
    · exact z hs
    · rw [z] at h1; simp at h1
/-- one answer is best alone -/
theorem aBest_uni {w tn : Nat} {x y : Int32} (hx : aBest T w tn x) (hy : aBest T w tn y) : x = y := by
  unfold aBest at hx hy
  by_cases h : ¬ small T ∨ actsL T w tn = []
  · rw [if_pos h] at hx hy
    rw [hx, hy]
  · rw [if_neg h] at hx hy
    obtain ⟨j, a, rfl, j1, j2, j3⟩ := hx
    obtain ⟨k, b, rfl, k1, k2, k3⟩ := hy
    rcases Nat.lt_trichotomy j k with z | z | z
    · exact absurd j2 (k3 j a z j1)
    · rw [z]
    · exact absurd k2 (j3 k b z k1)
set_option maxRecDepth 4096 in
theorem f177 {d : Nat} (h : RI S tp T E A mk) : Sp (F (d + 25) 177 [.ref 39] S) (fun v S' => ∃ y, v = some (.int y) ∧ aBest T (pw (posA T E A)) (ptn (posA T E A)) y ∧ Fr NoP nol S S' ∧ RI S' tp T E A mk) := by
  obtain ⟨hT, hok, hday⟩ := h.1.ok
  have htn := ptn_lt (posA T E A)
  refine fw177 (w177_0 ?_)
  refine W_t (h.1.1.k39) ?_
  refine W_s fun S1 e1 => ?_
  have f1 : Fr ThP nol S S1 := by rw [e1]; exact Fr.putI ⟨rfl, rfl⟩
  have n1 : Fr NoP nol S S1 := f1.weak (fun a k z => Or.inr (Or.inr (Or.inl ⟨z.1, Or.inl z.2⟩))) (fun a k z => z)
  have h1 : RI S1 tp T E A mk := h.th f1 (fun a k z => ⟨z.1, Or.inl z.2⟩)
  have hM := h1.1.1
  simp only [hM.k39, z0c, eq_self, if_true, Nat.reduceAdd, true_and]
  refine W_I (f165 hM h1.1.2.2.1) ?_
  refine W_if (fun q => ?_) (fun q => ?_)
  · rw [bi_0] at q
    refine ⟨n1.mono, _, rfl, ?_, n1, h1⟩
    unfold aBest
    rw [if_pos (Or.inl q)]
  rw [bi_0] at q
  have hs := Classical.not_not.mp q
  obtain ⟨⟨hr, h43, -, -⟩, -⟩ := h1.1.row
  simp only [hM.k39, hM.r39_36, hM.k63, hM.n63, z0c, eq_self, if_true, Nat.reduceAdd, true_and]
  refine W_t (inB_n (n := 43) (by omega) (by decide)) ?_
  rw [c43, h43]
  refine W_if (fun q2 => ?_) (fun q2 => ?_)
  · have q2 := (pys_pos (ptn_lt _)).mp q2
    refine ⟨n1.mono, _, rfl, ?_, n1, h1⟩
    unfold aBest
    rw [if_pos (Or.inr q2)]
  have hne : actsL T (pw (posA T E A)) (ptn (posA T E A)) ≠ [] := fun z => q2 ((pys_pos (ptn_lt _)).mpr z)
  refine W_Ie (f173 hs h1) ?_
  rintro v S2 ⟨rfl, n2, g2, k2, p1, p2⟩
  obtain ⟨j, aj, j1, j2, j3⟩ := best_ex hT hok.1 htn hne
  have hlt := nkey_lt hT hs hok.1 htn
  have hob := out_le (T := T) (m := -1) (r := -1) (w := pw (posA T E A)) htn
  have hlen := acts_len hT (pw (posA T E A)) (ptn (posA T E A))
  have hjl := (List.getElem?_eq_some_iff.mp j1).1
  have hnz : gI S2 65 (nkey T (pw (posA T E A)) (ptn (posA T E A))) ≠ 0 := by rw [p1]; exact nI_ne0 (by omega) (by omega)
  show WP _ _ _
  have key : ∀ (n i : Nat) (S3 : St), n = j - i → i ≤ j → Fr NoP nol S S3 → RI S3 tp T E A mk → gI S3 39 44 = 1 → KnR S3 T → gI S3 65 (nkey T (pw (posA T E A)) (ptn (posA T E A))) ≠ 0 → ∀ z3 : Value, WP (P177 (F (d + 24))) (1, [.ref 39, .int (nI (nkey T (pw (posA T E A)) (ptn (posA T E A)))), .int (nI i), z3], [], S3) (fun v S' => (gZ S ≤ gZ S' ∧ gU S ≤ gU S') ∧ ∃ y, v = some (.int y) ∧ aBest T (pw (posA T E A)) (ptn (posA T E A)) y ∧ Fr NoP nol S S' ∧ RI S' tp T E A mk) := by
    intro n
    induction n with
    | zero =>
      intro i S3 hn hi n3 h3 g3 k3 hz3 z3
      have e : i = j := by omega
      subst e
      have hM3 := h3.1.1
      refine w177_1 ?_
      simp only [hM3.k39, z0c, eq_self, if_true, Nat.reduceAdd, true_and]
      refine W_Ie (f176 hs h3) ?_
      rintro v S4 ⟨n4, g4, k4, st4, -, hval⟩
      have hM4 := hM3.fr n4
      obtain ⟨a1, a2, a3⟩ := actsL_mem.mp (List.mem_of_getElem? j1)
      obtain ⟨rfl, r1, r2⟩ := hval aj (nI_n0 (by omega)) (by rw [nI_clamp (by omega)]; exact j1)
      have hlt2 := nkey_lt hT hs (hok.1.aft hT htn a2 a3) (tn := 1 - ptn (posA T E A)) (by omega)
      have hnow := (k4 (pw (posA T E A)) (ptn (posA T E A)) hok.1 htn).resolve_left (st4 g3 _ hz3)
      simp only [hM4.k39, hM4.r39_42, hM4.k65, hM4.n65, hM4.r39_43, hM4.k66, hM4.n66, z0c, eq_self, if_true, Nat.reduceAdd, true_and]
      refine W_t (inB_n (by omega) (by decide)) ?_
      refine W_t (inB_n (by omega) (by decide)) ?_
      rw [nI_clamp (by omega), nI_clamp (by omega), r1, hnow.1, j2]
      refine W_t (rfl) ?_
      refine W_t (inB_n (by omega) (by decide)) ?_
      refine W_t (inB_n (by omega) (by decide)) ?_
      rw [r2, hnow.2, j2]
      refine W_t (rfl) ?_
      exact ⟨(n3.tr n4).mono, _, rfl, aBest_of hs rfl j1 j2 j3, n3.tr n4, h3.no n4 g4 k4⟩
    | succ n ih =>
      intro i S3 hn hi n3 h3 g3 k3 hz3 z3
      have hM3 := h3.1.1
      have hil : i < (actsL T (pw (posA T E A)) (ptn (posA T E A))).length := by omega
      have hg : (actsL T (pw (posA T E A)) (ptn (posA T E A)))[i]? = some ((actsL T (pw (posA T E A)) (ptn (posA T E A)))[i]) := List.getElem?_eq_getElem hil
      generalize (actsL T (pw (posA T E A)) (ptn (posA T E A)))[i] = a at hg
      refine w177_1 ?_
      simp only [hM3.k39, z0c, eq_self, if_true, Nat.reduceAdd, true_and]
      refine W_Ie (f176 hs h3) ?_
      rintro v S4 ⟨n4, g4, k4, st4, -, hval⟩
      have hM4 := hM3.fr n4
      obtain ⟨a1, a2, a3⟩ := actsL_mem.mp (List.mem_of_getElem? hg)
      obtain ⟨rfl, r1, r2⟩ := hval a (nI_n0 (by omega)) (by rw [nI_clamp (by omega)]; exact hg)
      have hlt2 := nkey_lt hT hs (hok.1.aft hT htn a2 a3) (tn := 1 - ptn (posA T E A)) (by omega)
      have hz4 := st4 g3 _ hz3
      have hnow := (k4 (pw (posA T E A)) (ptn (posA T E A)) hok.1 htn).resolve_left hz4
      have hno := j3 i a (by omega) hg
      have hou := ouB_lt (T := T) (w := pw (posA T E A)) (a := a) htn
      have two : ∀ x3 : Int32, WP (P177 (F (d + 24))) (2, [.ref 39, .int (nI (nkey T (pw (posA T E A)) (ptn (posA T E A)))), .int (nI i), .int x3], [], S4) (fun v S' => (gZ S ≤ gZ S' ∧ gU S ≤ gU S') ∧ ∃ y, v = some (.int y) ∧ aBest T (pw (posA T E A)) (ptn (posA T E A)) y ∧ Fr NoP nol S S' ∧ RI S' tp T E A mk) := by
        intro x3
        refine w177_2 ?_
        show WP _ _ _
        rw [nI_1]
        exact ih (i + 1) S4 (by omega) (by omega) (n3.tr n4) (h3.no n4 g4 k4) g4 k4 hz4 _
      simp only [hM4.k39, hM4.r39_42, hM4.k65, hM4.n65, hM4.r39_43, hM4.k66, hM4.n66, z0c, eq_self, if_true, Nat.reduceAdd, true_and]
      refine W_t (inB_n (by omega) (by decide)) ?_
      refine W_t (inB_n (by omega) (by decide)) ?_
      rw [nI_clamp (by omega), nI_clamp (by omega), r1, hnow.1]
      refine W_if (fun z1 => ?_) (fun z1 => ?_)
      · rw [i_eq (by omega) (by omega)] at z1
        refine W_t (inB_n (by omega) (by decide)) ?_
        refine W_t (inB_n (by omega) (by decide)) ?_
        rw [r2, hnow.2]
        refine W_if (fun z2 => ?_) (fun z2 => ?_)
        · rw [i_eq (by omega) (by omega)] at z2
          exact absurd (by omega) hno
        · exact two _
      · exact two _
  exact key j 0 S2 (by omega) (by omega) (n1.tr n2) (h1.no n2 g2 k2) g2 k2 hnz .null
end RIB
