/-! the reference's lots -/
abbrev LoP : Nat → Nat → Prop := fun a k => (a = 63 ∧ 64 ≤ k) ∨ (53 ≤ a ∧ a ≤ 62) ∨ TaP a k
abbrev LoL : Nat → Nat → Prop := fun a k => a = 39 ∧ k = 48
theorem LoP_s : ∀ a k, LoP a k → Scr a k := fun a k z => by
  rcases z with z | z | z
  · exact Or.inr (Or.inr (Or.inr (Or.inl z)))
  · exact Or.inr (Or.inr (Or.inl (by omega)))
  · exact TaP_s a k z
section RIB
variable {S : St} {tp : List Nat} {T : TD} {E : Env → Int32} {A : List Nat} {mk : Nat → Option MkD}
theorem RI.lo {S' : St} (h : RI S tp T E A mk) (f : Fr LoP LoL S S') : RI S' tp T E A mk := ⟨h.1.fr f LoP_s, h.2.fr f (fun a k z => by
  rcases z with z | z | z
  · omega
  · omega
  · have z : a = 39 ∧ _ := z; omega)⟩
set_option maxRecDepth 4096 in
theorem f185 {d g n : Nat} (hM : ShM S) (hg : gL S 39 48 = lN g) (hg2 : g < 2 ^ 31) (hn : 0 < n) (hn2 : n < 2 ^ 31) : Sp (F (d + 1) 185 [.ref 39, .int (nI n)] S) (fun v S' => ∃ x, v = some (.int x) ∧ x = nI (lotg g / 65536 % n) ∧ Fr nol LoL S S' ∧ gL S' 39 48 = lN (lotg g)) := by
  obtain ⟨e1, e2⟩ := lot_draw (n := n) hg2 hn hn2
  refine fw185 (w185_0 ?_)
  refine W_t (hM.k39) ?_
  refine W_f (by decide +kernel) ?_
  refine W_t (hM.k39) ?_
  rw [hg, e1]
  refine W_s fun S1 g1 => ?_
  have f1 : Fr nol LoL S S1 := by rw [g1]; exact Fr.putL ⟨rfl, rfl⟩
  have gg : gL S1 39 48 = lN (lotg g) := by rw [g1, gL_pL, if_pos ⟨rfl, rfl⟩]
  refine W_t ((hM.fr f1).k39) ?_
  refine W_f (by decide +kernel) ?_
  refine W_f (by rw [nI_l hn2, show (0 : Int64) = lN 0 from rfl, pk_lEQ (by omega) (by decide)]; omega) ?_
  rw [gg, e2]
  exact ⟨f1.mono, _, rfl, rfl, f1, gg⟩
set_option maxRecDepth 4096 in
theorem f186_in {d : Nat} {S0 : St} {x1 x2 x3 x4 x6 : Int32} {Q : Option Value → St → Prop} (hM0 : ShM S0) (hR0 : RT S0 T) (hC0 : RC S0 E) : ∀ (n w tn g al day : Nat) (S : St), okW T w → tn < 2 → g < 2 ^ 31 → 60 ≤ n + fil T w → day ≤ fil T w + 60 → Fr LoP LoL S0 S → gL S 39 48 = lN g → RoL S 64 T w tn day → (∀ (S' : St) (w' tn' : Nat), actsL T w' tn' = [] → tn' < 2 → payr T w' tn' = (lot1 T n w tn g).1 → Fr LoP LoL S0 S' → gL S' 39 48 = lN (lot1 T n w tn g).2.2 → gI S' 63 (64 + 43) = nI (1 + payr T w' tn') → WP (P186 (F (d + 7))) (2, [.ref 39, .int x1, .int x2, .int x3, .int x4, .int (nI (al + (lot1 T n w tn g).2.1)), .int x6], [], S') Q) → WP (P186 (F (d + 7))) (2, [.ref 39, .int x1, .int x2, .int x3, .int x4, .int (nI al), .int x6], [], S) Q := by
  have hT := hR0.1
  intro n
  induction n with
  | zero =>
    intro w tn g al day S hw ht hg hfil hday f hgl hrow next
    have hno : actsL T w tn = [] := by
      cases hL : actsL T w tn with
      | nil => rfl
      | cons a L =>
        exfalso
        obtain ⟨a1, a2, a3⟩ := actsL_mem.mp (show a ∈ actsL T w tn by rw [hL]; simp)
        have h1 := fil_aft hT hw ht a2 a3
        have h2 := fil_60 hT (hw.aft hT ht a2 a3)
        omega
    have ep : pys T w tn = 1 + payr T w tn := if_pos hno
    exact next S w tn hno ht rfl f hgl (by rw [hrow.2.1, ep])
  | succ n ih =>
    intro w tn g al day S hw ht hg hfil hday f hgl hrow next
    by_cases hno : actsL T w tn = []
    · have ep : pys T w tn = 1 + payr T w tn := if_pos hno
      have := next S w tn hno ht (by rw [lot1_n hno]) f (by rw [lot1_n hno]; exact hgl) (by rw [hrow.2.1, ep])
      rw [lot1_n hno] at this
      exact this
    · have ep : pys T w tn = 0 := if_neg hno
      have hM := hM0.fr f
      have hR : RT S T := hR0.fr f (fun a k z => by rcases z with z | z | z <;> omega)
      have hlen := acts_len hT w tn
      have hpos : 0 < (actsL T w tn).length := List.length_pos_iff.mpr hno
      have hf60 := fil_60 hT hw
      refine w186_2 ?_
      simp only [hM.k39, hM.r39_36, hM.k63, hM.n63, z0c, eq_self, if_true, Nat.reduceAdd, true_and]
      refine W_t (inB_n (n := 107) (by omega) (by decide)) ?_
      rw [c107, hrow.2.1, ep]
      refine W_t (rfl) ?_
      refine W_Ie (f151 (d := d + 2) (o := 64) hM hR hrow.1 (by omega) hw ht) ?_
      rintro v S1 ⟨rfl, f1⟩
      have f1' : Fr LoP LoL S S1 := f1.weak (fun a k z => Or.inr (Or.inr ⟨z.1, Or.inr z.2⟩)) (fun a k z => z.elim)
      have hM1 := hM.fr f1
      have hrow1 : RoL S1 64 T w tn day := hrow.fr f1 (fun k _ _ z => by have z : (63 : Nat) = 39 ∧ _ := z; omega)
      simp only [hM1.k39, z0c, eq_self, if_true, Nat.reduceAdd, true_and]
      refine W_Ie (f185 (d := d + 6) hM1 (show gL S1 39 48 = lN g by rw [f1.2.1 _ _ (fun z => z)]; exact hgl) hg hpos (by omega)) ?_
      rintro v S2 ⟨rfl, f2, hgl2⟩
      have f2' : Fr LoP LoL S1 S2 := f2.weak (fun a k z => z.elim) (fun a k z => z)
      have hM2 := hM1.fr f2
      have hrow2 : RoL S2 64 T w tn day := hrow1.fr f2 (fun k _ _ z => z)
      have f02 := (f.tr f1').tr f2'
      simp only [hM2.k39, z0c, eq_self, if_true, Nat.reduceAdd, true_and]
      refine W_Ie (f152 (d := d + 2) (o := 64) hM2 (hR0.fr f02 (fun a k z => by rcases z with z | z | z <;> omega)) hrow2.1 (by omega) hw ht) ?_
      rintro v S3 ⟨rfl, f3, hact⟩
      have f3' : Fr LoP LoL S2 S3 := f3.weak (fun a k z => Or.inr (Or.inr ⟨z.1, Or.inr z.2⟩)) (fun a k z => z.elim)
      have hM3 := hM2.fr f3
      have f03 := f02.tr f3'
      have hrow3 : RoL S3 64 T w tn day := hrow2.fr f3 (fun k _ _ z => by have z : (63 : Nat) = 39 ∧ _ := z; omega)
      have hix : lotg g / 65536 % (actsL T w tn).length < (actsL T w tn).length := Nat.mod_lt _ hpos
      have hgt : (actsL T w tn)[lotg g / 65536 % (actsL T w tn).length]? = some ((actsL T w tn)[lotg g / 65536 % (actsL T w tn).length]) := List.getElem?_eq_getElem hix
      generalize (actsL T w tn)[lotg g / 65536 % (actsL T w tn).length] = a at hgt
      obtain ⟨q1, q2, q3⟩ := hact a (nI_n0 (by omega)) (by rw [nI_clamp (by omega)]; exact hgt)
      have hmem := List.mem_of_getElem? hgt
      obtain ⟨a1, a2, a3⟩ := actsL_mem.mp hmem
      have hfa := fil_aft hT hw ht a2 a3
      simp only [hM3.k39, z0c, eq_self, if_true, Nat.reduceAdd, true_and]
      rw [q1, q2, q3]
      refine W_Ve (f154 (d := d) (o := 64) hM3 (hR0.fr f03 (fun a k z => by rcases z with z | z | z <;> omega)) (hC0.fr f03 (fun a k z => by rcases z with z | z | z <;> omega)) hrow3 (by omega) hw ht (by omega) hmem) ?_
      rintro S4 ⟨f4, hrow4, -⟩
      have f4' : Fr LoP LoL S3 S4 := f4.weak (fun a k z => by
        rcases z with z | z | z
        · exact Or.inl ⟨z.1, by omega⟩
        · exact Or.inr (Or.inl z)
        · exact Or.inr (Or.inr ⟨z.1, Or.inr z.2⟩)) (fun a k z => z.elim)
      show WP _ _ _
      rw [nI_1]
      refine ih (aft T w tn a) (1 - tn) (lotg g) (al + 1) (day + 1) S4 (hw.aft hT ht a2 a3) (by omega) (lotg_lt g) (by omega) (by omega) (f03.tr f4') ?_ hrow4 (fun S' w' tn' g1 g2 g3 g4 g5 g6 => ?_)
      · rw [f4.2.1 _ _ (fun z => z), f3.2.1 _ _ (fun z => z)]; exact hgl2
      · have := next S' w' tn' g1 g2 (by rw [lot1_s hgt]; exact g3) g4 (by rw [lot1_s hgt]; exact g5) g6
        rw [lot1_s hgt] at this
        rw [show al + 1 + (lot1 T n (aft T w tn a) (1 - tn) (lotg g)).2.1 = al + ((lot1 T n (aft T w tn a) (1 - tn) (lotg g)).2.1 + 1) by omega]
        exact this
set_option maxRecDepth 4096 in
theorem f186 {d : Nat} {x1 x2 x3 : Int32} (h : RI S tp T E A mk) : Sp (F (d + 8) 186 [.ref 39, .int x1, .int x2, .int x3] S) (fun v S' => ∃ y, v = some (.int y) ∧ y = aLots T (pw (posA T E A)) (ptn (posA T E A)) x1 x2 x3 ∧ Fr LoP LoL S S' ∧ RI S' tp T E A mk) := by
  obtain ⟨hT, hok, hday⟩ := h.1.ok
  have htn := ptn_lt (posA T E A)
  have hd60 := hok.day hT
  refine fw186 (w186_0 ?_)
  refine W_t (h.1.1.k39) ?_
  refine W_s fun S1 e1 => ?_
  have f1 : Fr LoP LoL S S1 := by rw [e1]; exact Fr.putI (Or.inr (Or.inr ⟨rfl, Or.inl rfl⟩))
  have h1 := h.lo f1
  unfold aLots
  refine W_I (f114) ?_
  refine W_if (fun q1 => ?_) (fun q1 => ?_)
  · rw [bi_0] at q1
    refine ⟨f1.mono, _, rfl, ?_, f1, h1⟩
    rw [if_pos]
    by_cases z : x1 < 0
    · exact Or.inl z
    · exact Or.inr (Or.inl (Classical.byContradiction fun y => q1 ⟨z, y⟩))
  rw [bi_0] at q1
  obtain ⟨g1, g2⟩ := Classical.not_not.mp q1
  refine W_I (f114) ?_
  refine W_if (fun q2 => ?_) (fun q2 => ?_)
  · rw [bi_0] at q2
    refine ⟨f1.mono, _, rfl, ?_, f1, h1⟩
    rw [if_pos]
    by_cases z : x2 < 1
    · exact Or.inr (Or.inr (Or.inl z))
    · exact Or.inr (Or.inr (Or.inr (Or.inl (Classical.byContradiction fun y => q2 ⟨z, y⟩))))
  rw [bi_0] at q2
  obtain ⟨g3, g4⟩ := Classical.not_not.mp q2
  refine W_I (f114) ?_
  refine W_if (fun q3 => ?_) (fun q3 => ?_)
  · rw [bi_0] at q3
    refine ⟨f1.mono, _, rfl, ?_, f1, h1⟩
    rw [if_pos]
    by_cases z : x3 < 0
    · exact Or.inr (Or.inr (Or.inr (Or.inr (Or.inl z))))
    · exact Or.inr (Or.inr (Or.inr (Or.inr (Or.inr (Classical.byContradiction fun y => q3 ⟨z, y⟩)))))
  rw [bi_0] at q3
  obtain ⟨g5, g6⟩ := Classical.not_not.mp q3
  have ng : ¬ (x1 < 0 ∨ 9999 < x1 ∨ x2 < 1 ∨ 100 < x2 ∨ x3 < 0 ∨ 1 < x3) := by
    rintro (z | z | z | z | z | z)
    · exact g1 z
    · exact g2 z
    · exact g3 z
    · exact g4 z
    · exact g5 z
    · exact g6 z
  rw [if_neg ng]
  obtain ⟨sd, hsd, rfl⟩ := wi_n (k := 9999) g1 g2 (by decide)
  have g3' : ¬ x2 < 0 := fun y => g3 (by
    have := Int32.lt_iff_toInt_lt.mp y
    apply Int32.lt_iff_toInt_lt.mpr
    have e : (1 : Int32).toInt = 1 := by decide
    have e0 : (0 : Int32).toInt = 0 := by decide
    omega)
  obtain ⟨pl, hpl, rfl⟩ := wi_n (k := 100) g3' g4 (by decide)
  rw [nI_clamp (n := sd) (by omega), nI_clamp (n := pl) (by omega), nI_l (by omega)]
  refine W_t (h1.1.1.k39) ?_
  refine W_s fun S2 e2 => ?_
  have f2 : Fr LoP LoL S1 S2 := by rw [e2]; exact Fr.putL ⟨rfl, rfl⟩
  have gl2 : gL S2 39 48 = lN sd := by rw [e2, gL_pL, if_pos ⟨rfl, rfl⟩]
  show WP _ _ _
  have hokw : okW T (pw (posA T E A)) := hok.1
  have key : ∀ (m k : Nat) (S3 : St), m = pl - k → k ≤ pl → Fr LoP LoL S S3 → gL S3 39 48 = lN (lotN T (pw (posA T E A)) (ptn (posA T E A)) k sd).2.2 → WP (P186 (F (d + 7))) (1, [.ref 39, .int (nI sd), .int (nI pl), .int x3, .int (nI (lotN T (pw (posA T E A)) (ptn (posA T E A)) k sd).1), .int (nI (lotN T (pw (posA T E A)) (ptn (posA T E A)) k sd).2.1), .int (nI k)], [], S3) (fun v S' => (gZ S ≤ gZ S' ∧ gU S ≤ gU S') ∧ ∃ y, v = some (.int y) ∧ y = (if x3 = 0 then nI (lotN T (pw (posA T E A)) (ptn (posA T E A)) pl sd).1 else nI (lotN T (pw (posA T E A)) (ptn (posA T E A)) pl sd).2.1) ∧ Fr LoP LoL S S' ∧ RI S' tp T E A mk) := by
    intro m
    induction m with
    | zero =>
      intro k S3 hm hk f3 gl
      have e : k = pl := by omega
      subst e
      refine w186_1 ?_
      refine W_f (by rw [i_lt (by omega) (by omega)]; omega) ?_
      refine W_if (fun z => ?_) (fun z => ?_)
      · exact ⟨f3.mono, _, rfl, by rw [if_pos z], f3, h.lo f3⟩
      · exact ⟨f3.mono, _, rfl, by rw [if_neg z], f3, h.lo f3⟩
    | succ m ih =>
      intro k S3 hm hk f3 gl
      have h3 := h.lo f3
      refine w186_1 ?_
      refine W_t (by rw [i_lt (by omega) (by omega)]; omega) ?_
      refine W_t (h3.1.1.k39) ?_
      refine W_Ve (f169 (d := d + 6) (o := 0) (b := 64) h3.1.1 (by omega) (by omega) (by omega)) ?_
      rintro S4 ⟨f4, cp⟩
      have f4' : Fr LoP LoL S3 S4 := f4.weak (fun a k z => Or.inl ⟨z.1, z.2.1⟩) (fun a k z => z.elim)
      have f04 := f3.tr f4'
      have h4 := h.lo f04
      have hrow := h3.1.row.1.cp cp
      have gl4 : gL S4 39 48 = lN (lotN T (pw (posA T E A)) (ptn (posA T E A)) k sd).2.2 := by rw [f4.2.1 _ _ (fun z => z)]; exact gl
      show WP _ _ _
      refine f186_in (E := E) (d := d) h.1.1 h.1.2.2.1 h.1.2.2.2.1 60 (pw (posA T E A)) (ptn (posA T E A)) (lotN T (pw (posA T E A)) (ptn (posA T E A)) k sd).2.2 _ (pday (posA T E A)) S4 hokw htn (lotN_g (by omega)) (by omega) (by omega) f04 gl4 hrow (fun S5 w' tn' r1 r2 r3 r4 r5 r6 => ?_)
      have h5 := h.lo r4
      have hM5 := h5.1.1
      have hpl' := payr_le (T := T) (w := w') r2
      refine w186_2 ?_
      simp only [hM5.k39, hM5.r39_36, hM5.k63, hM5.n63, z0c, eq_self, if_true, Nat.reduceAdd, true_and]
      refine W_t (inB_n (n := 107) (by omega) (by decide)) ?_
      rw [c107, r6]
      refine W_f (by rw [c0, i_eq (by omega) (by decide)]; omega) ?_
      refine W_t (inB_n (n := 107) (by omega) (by decide)) ?_
      have fin : ∀ (b : Nat) (y : Int32), y = nI b → b = (if (lot1 T 60 (pw (posA T E A)) (ptn (posA T E A)) (lotN T (pw (posA T E A)) (ptn (posA T E A)) k sd).2.2).1 = 0 then 1 else 0) → WP (P186 (F (d + 7))) (3, [.ref 39, .int (nI sd), .int (nI pl), .int x3, .int (nI (lotN T (pw (posA T E A)) (ptn (posA T E A)) k sd).1), .int (nI ((lotN T (pw (posA T E A)) (ptn (posA T E A)) k sd).2.1 + (lot1 T 60 (pw (posA T E A)) (ptn (posA T E A)) (lotN T (pw (posA T E A)) (ptn (posA T E A)) k sd).2.2).2.1)), .int (nI k)], [.int y, .int (nI (lotN T (pw (posA T E A)) (ptn (posA T E A)) k sd).1)], S5) (fun v S' => (gZ S ≤ gZ S' ∧ gU S ≤ gU S') ∧ ∃ y, v = some (.int y) ∧ y = (if x3 = 0 then nI (lotN T (pw (posA T E A)) (ptn (posA T E A)) pl sd).1 else nI (lotN T (pw (posA T E A)) (ptn (posA T E A)) pl sd).2.1) ∧ Fr LoP LoL S S' ∧ RI S' tp T E A mk) := by
        intro b y hy hb
        refine w186_3 ?_
        show WP _ _ _
        rw [hy, nI_add, nI_1, hb]
        exact ih (k + 1) S5 (by omega) (by omega) r4 r5
      refine W_if (fun z => ?_) (fun z => ?_)
      · rw [c1, i_eq (by omega) (by decide)] at z
        exact fin 1 1 rfl (by rw [if_pos (by omega)])
      · rw [c1, i_eq (by omega) (by decide)] at z
        exact fin 0 0 rfl (by rw [if_neg (by omega)])
  exact key pl 0 S2 (by omega) (by omega) (f1.tr f2) gl2
end RIB
