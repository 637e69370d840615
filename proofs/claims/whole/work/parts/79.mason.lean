/-! the reference's mason -/
section REF
variable {T : TD} {E : Env → Int32}
def MsK (S : St) (T : TD) (m r : Int32) : Prop := ∀ w tn, okW T w → tn < 2 → gI S 67 (nkey T w tn) = 0 ∨ gI S 67 (nkey T w tn) = nI (1 + out T m r w tn % 2)
theorem MsK.fr {S S' : St} {m r : Int32} {P PL : Nat → Nat → Prop} (h : MsK S T m r) (f : Fr P PL S S') (hn : ∀ a k, P a k → a ≠ 67) : MsK S' T m r := fun w tn h1 h2 => by
  rw [f.1 _ _ (fun z => hn _ _ z rfl)]
  exact h w tn h1 h2
def refO (T : TD) (o : Option Nat) : Int32 := match o with
  | none => -1
  | some a => nI (refK T a)
set_option maxRecDepth 4096 in
/-- ruled -/
theorem f179 {d o w tn : Nat} {S : St} {r : Int32} (hM : ShM S) (hR : RT S T) (hrow : RoW S o T w tn) (ho : o + 64 ≤ 2560) (hw : okW T w) (ht : tn < 2) (hr : r = 0 ∨ r = 1 ∨ r = 2) : Sp (F (d + 5) 179 [.ref 39, .int (nI o), .int r] S) (fun v S' => ∃ x, v = some (.int x) ∧ x = refO T ((actsL T w tn).foldl (pickA r w) none) ∧ Fr AcP nol S S') := by
  have hT := hR.1
  have hW := hT.1
  refine fw179 (w179_0 ?_)
  simp only [hM.k39, z0c, eq_self, if_true, Nat.reduceAdd, true_and]
  refine W_Ie (f149s hM hR hrow ho hw ht) ?_
  rintro x S1 ⟨f1, h1⟩
  show WP _ _ _
  have key : ∀ (M2 M1 : List Nat) (b : Nat) (x3 x4 x5 : Int32) (S1 : St), Itr T w tn b M1 M2 → Fr AcP nol S S1 → nxA S1 T M2 x5 → x3 = refO T (M1.foldl (pickA r w) none) → (∀ a, M1.foldl (pickA r w) none = some a → x4 = nI (hgt w (a / 4 % 16)) ∧ a ∈ M1) → ∀ z6 : Value, WP (P179 (F (d + 4))) (1, [.ref 39, .int (nI o), .int r, .int x3, .int x4, .int x5, z6], [], S1) (fun v S' => (gZ S ≤ gZ S' ∧ gU S ≤ gU S') ∧ ∃ x, v = some (.int x) ∧ x = refO T ((actsL T w tn).foldl (pickA r w) none) ∧ Fr AcP nol S S') := by
    intro M2
    induction M2 with
    | nil =>
      intro M1 b x3 x4 x5 S1 hi f1 hx h3 h4 z6
      have hx : x5 = -1 := hx
      subst hx
      refine w179_1 ?_
      refine W_t (by decide) ?_
      refine ⟨f1.mono, _, rfl, ?_, f1⟩
      rw [h3, hi.1, List.append_nil]
    | cons a M ih =>
      intro M1 b x3 x4 x5 S1 hi f1 hx h3 h4 z6
      obtain ⟨rfl, hF⟩ := hx
      have hlt := hi.lt hT
      have hmem := (hi.head hT).1
      have hcol : a / 4 % 16 < tW T := cand_col (actsL_mem.mp hmem).2.1
      have hM1 := hM.fr f1
      have hrow1 := hrow.ac f1
      have hh := hgt_le w (a / 4 % 16)
      have efold : (M1 ++ [a]).foldl (pickA r w) none = pickA r w (M1.foldl (pickA r w) none) a := by rw [List.foldl_append]; rfl
      have three : ∀ (x3 x4 x6 : Int32), x3 = refO T ((M1 ++ [a]).foldl (pickA r w) none) → (∀ c, (M1 ++ [a]).foldl (pickA r w) none = some c → x4 = nI (hgt w (c / 4 % 16)) ∧ c ∈ M1 ++ [a]) → WP (P179 (F (d + 4))) (3, [.ref 39, .int (nI o), .int r, .int x3, .int x4, .int (nI (refK T a)), .int x6], [], S1) (fun v S' => (gZ S ≤ gZ S' ∧ gU S ≤ gU S') ∧ ∃ x, v = some (.int x) ∧ x = refO T ((actsL T w tn).foldl (pickA r w) none) ∧ Fr AcP nol S S') := by
        intro x3 x4 x6 g3 g4
        refine w179_3 ?_
        simp only [hM1.k39, z0c, eq_self, if_true, Nat.reduceAdd, true_and]
        refine W_Ie (f149n hM1 (hR.ac f1) hrow1 ho hw ht hi) ?_
        rintro x5 S2 ⟨f2, hx2⟩
        show WP _ _ _
        exact ih (M1 ++ [a]) _ x3 x4 x5 S2 (hi.next hT) (f1.tr f2) hx2 g3 g4 _
      have two : (M1 ++ [a]).foldl (pickA r w) none = some a → ∀ x3 x4 : Int32, WP (P179 (F (d + 4))) (2, [.ref 39, .int (nI o), .int r, .int x3, .int x4, .int (nI (refK T a)), .int (nI (hgt w (a / 4 % 16)))], [], S1) (fun v S' => (gZ S ≤ gZ S' ∧ gU S ≤ gU S') ∧ ∃ x, v = some (.int x) ∧ x = refO T ((actsL T w tn).foldl (pickA r w) none) ∧ Fr AcP nol S S') := by
        intro e x3 x4
        refine w179_2 ?_
        refine three _ _ _ (by rw [e]; rfl) (fun c hc => ?_)
        rw [e] at hc
        rw [← Option.some.inj hc]
        exact ⟨rfl, by simp⟩
      refine w179_1 ?_
      refine W_f (nI_n0 (by omega)) ?_
      simp only [hM1.k39, hM1.r39_36, hM1.k63, hM1.n63, z0c, eq_self, if_true, Nat.reduceAdd, true_and]
      rw [hF.2.1, nI_add]
      refine W_t (inB_n (by omega) (by decide)) ?_
      rw [nI_clamp (by omega), hrow1.1 _ (by omega)]
      refine W_si fun v ev => ?_
      subst ev
      cases hc : M1.foldl (pickA r w) none with
      | none =>
        rw [hc] at h3 efold
        have h3 : x3 = -1 := h3
        refine W_t (by rw [h3]; decide) ?_
        exact two (by rw [efold]; rfl) _ _
      | some c =>
        rw [hc] at efold
        obtain ⟨e4, hc1⟩ := h4 c hc
        rw [hc] at h3
        have h3 : x3 = nI (refK T c) := h3
        have hcm : c ∈ actsL T w tn := by rw [hi.1]; simp [hc1]
        have hck := (okK_of hT hcm).2
        have hN := hT.2.2.2.1
        have hhc := hgt_le w (c / 4 % 16)
        have epk : pickA r w (some c) a = if r = 1 ∨ (r = 2 ∧ hgt w (a / 4 % 16) < hgt w (c / 4 % 16)) then some a else some c := rfl
        have skip : ¬ (r = 1 ∨ (r = 2 ∧ hgt w (a / 4 % 16) < hgt w (c / 4 % 16))) → WP (P179 (F (d + 4))) (3, [.ref 39, .int (nI o), .int r, .int x3, .int x4, .int (nI (refK T a)), .int (nI (hgt w (a / 4 % 16)))], [], S1) (fun v S' => (gZ S ≤ gZ S' ∧ gU S ≤ gU S') ∧ ∃ x, v = some (.int x) ∧ x = refO T ((actsL T w tn).foldl (pickA r w) none) ∧ Fr AcP nol S S') := by
          intro hno
          refine three _ _ _ (by rw [efold, epk, if_neg hno]; exact h3) (fun c' hc' => ?_)
          rw [efold, epk, if_neg hno] at hc'
          rw [← Option.some.inj hc']
          exact ⟨e4, by simp [hc1]⟩
        refine W_f (by rw [h3]; exact nI_n0 (by omega)) ?_
        refine W_if (fun q1 => ?_) (fun q1 => ?_)
        · exact two (by rw [efold, epk, if_pos (Or.inl q1)]) _ _
        refine W_if (fun q2 => ?_) (fun q2 => ?_)
        · exact skip (by
            rintro (z | z)
            · exact q1 z
            · rw [q2] at z; exact absurd z.1 (by decide))
        have r2 : r = 2 := (hr.resolve_left q2).resolve_left q1
        rw [e4]
        refine W_if (fun q3 => ?_) (fun q3 => ?_)
        · rw [i_lt (by omega) (by omega)] at q3
          exact two (by rw [efold, epk, if_pos (Or.inr ⟨r2, q3⟩)]) _ _
        · rw [i_lt (by omega) (by omega)] at q3
          rw [← e4]
          exact skip (by
            rintro (z | z)
            · exact q1 z
            · exact q3 z.2)
  exact key _ [] 0 (-1) 0 x S1 Itr.start f1 h1 rfl (fun a ha => by cases ha) .null
/-- who pays for one that is best: by who pays for some -/
theorem pick_par {tn : Nat} {f : Nat → Nat} (ht : tn < 2) (hf : ∀ a, f a < 200) : ∀ {L : List Nat} {x : Option Nat} {v : Nat}, L.foldl (fun ch a => pick tn ch (f a)) x = some v → (∀ u, x = some u → u < 200) → (v % 2 ≠ tn ↔ (∃ a, a ∈ L ∧ f a % 2 ≠ tn) ∨ ∃ u, x = some u ∧ u % 2 ≠ tn)
  | [], x, v, h, _ => by
    have h : x = some v := h
    constructor
    · intro z; exact Or.inr ⟨v, h, z⟩
    · rintro (⟨a, ha, -⟩ | ⟨u, hu, z⟩)
      · cases ha
      · rw [h] at hu
        rw [Option.some.inj hu]; exact z
  | a :: L, x, v, h, hx => by
    have h : L.foldl (fun ch a => pick tn ch (f a)) (pick tn x (f a)) = some v := h
    have hfa := hf a
    have hx' : ∀ u, pick tn x (f a) = some u → u < 200 := fun u hu => by
      cases x with
      | none => rw [← Option.some.inj hu]; exact hfa
      | some c =>
        have hu : (if scr c tn < scr (f a) tn then some (f a) else some c) = some u := hu
        split at hu
        · rw [← Option.some.inj hu]; exact hfa
        · rw [← Option.some.inj hu]; exact hx c rfl
    rw [pick_par ht hf h hx']
    have hstep : (∃ u, pick tn x (f a) = some u ∧ u % 2 ≠ tn) ↔ (f a % 2 ≠ tn ∨ ∃ u, x = some u ∧ u % 2 ≠ tn) := by
      cases x with
      | none =>
        constructor
        · rintro ⟨u, hu, z⟩
          rw [← Option.some.inj hu] at z
          exact Or.inl z
        · rintro (z | ⟨u, hu, -⟩)
          · exact ⟨f a, rfl, z⟩
          · cases hu
      | some c =>
        have hc := hx c rfl
        show (∃ u, (if scr c tn < scr (f a) tn then some (f a) else some c) = some u ∧ u % 2 ≠ tn) ↔ _
        by_cases q : scr c tn < scr (f a) tn
        · rw [if_pos q]
          constructor
          · rintro ⟨u, hu, z⟩
            rw [← Option.some.inj hu] at z
            exact Or.inl z
          · rintro (z | ⟨u, hu, z⟩)
            · exact ⟨f a, rfl, z⟩
            · rw [← Option.some.inj hu] at z
              refine ⟨f a, rfl, fun y => ?_⟩
              unfold scr at q
              rw [if_neg z, if_pos y] at q
              omega
        · rw [if_neg q]
          constructor
          · rintro ⟨u, hu, z⟩
            exact Or.inr ⟨u, hu, z⟩
          · rintro (z | ⟨u, hu, z⟩)
            · refine ⟨c, rfl, fun y => ?_⟩
              unfold scr at q
              rw [if_pos y, if_neg z] at q
              omega
            · exact ⟨u, hu, z⟩
    rw [hstep]
    constructor
    · rintro (⟨b, hb, z⟩ | z | z)
      · exact Or.inl ⟨b, by simp [hb], z⟩
      · exact Or.inl ⟨a, by simp, z⟩
      · exact Or.inr z
    · rintro (⟨b, hb, z⟩ | z)
      · rcases List.mem_cons.mp hb with e | e
        · rw [e] at z; exact Or.inr (Or.inl z)
        · exact Or.inl ⟨b, e, z⟩
      · exact Or.inr (Or.inr z)
abbrev MaP (o : Nat) : Nat → Nat → Prop := fun a k => (a = 63 ∧ o + 64 ≤ k) ∨ (53 ≤ a ∧ a ≤ 62) ∨ AcP a k ∨ a = 67
abbrev MaQ (S : St) (o : Nat) (T : TD) (m r : Int32) (w tn : Nat) : Option Value → St → Prop := fun v S' => ∃ x, v = some (.int x) ∧ x = nI (1 + out T m r w tn % 2) ∧ Fr (MaP o) nol S S' ∧ MsK S' T m r
theorem RT.ma {S S' : St} {o : Nat} (h : RT S T) (f : Fr (MaP o) nol S S') : RT S' T := h.fr f (fun a k z => by rcases z with z | z | z | z <;> omega)
theorem RC.ma {S S' : St} {o : Nat} (h : RC S E) (f : Fr (MaP o) nol S S') : RC S' E := h.fr f (fun a k z => by rcases z with z | z | z | z <;> omega)
theorem RoL.ma {S S' : St} {o w tn day : Nat} (h : RoL S o T w tn day) (f : Fr (MaP o) nol S S') : RoL S' o T w tn day := h.fr f (fun k h1 h2 z => by rcases z with z | z | z | z <;> omega)
set_option maxRecDepth 4096 in
/-- the answer is put down -/
theorem f180_end {D o w tn : Nat} {S0 S : St} {m r x2 x3 x5 x6 x7 x8 : Int32} {z9 z10 : Value} (hM0 : ShM S0) (hT : okT T) (hs : small T) (hw : okW T w) (ht : tn < 2) (f : Fr (MaP o) nol S0 S) (hk : MsK S T m r) (h5 : x5 = nI (1 + out T m r w tn % 2)) : WP (P180 (F D)) (7, [.ref 39, .int (nI o), .int x2, .int x3, .int (nI (nkey T w tn)), .int x5, .int x6, .int x7, .int x8, z9, z10], [], S) (fun v S' => (gZ S0 ≤ gZ S' ∧ gU S0 ≤ gU S') ∧ MaQ S0 o T m r w tn v S') := by
  have hM := hM0.fr f
  have hlt := nkey_lt hT hs hw ht
  refine w180_7 ?_
  simp only [hM.k39, hM.r39_45, hM.k67, hM.n67, z0c, eq_self, if_true, Nat.reduceAdd, true_and]
  refine W_t (inB_n (by omega) (by decide)) ?_
  rw [nI_clamp (by omega), h5, vb8 (by omega)]
  refine W_s fun S1 e1 => ?_
  have f1 : Fr (MaP o) nol S S1 := by rw [e1]; exact Fr.putI (Or.inr (Or.inr (Or.inr rfl)))
  refine ⟨(f.tr f1).mono, _, rfl, rfl, f.tr f1, fun w2 t2 hw2 ht2 => ?_⟩
  rw [e1, gI_pI]
  by_cases e : nkey T w2 t2 = nkey T w tn
  · obtain ⟨rfl, hl⟩ := nkey_like hT hs hw2 hw ht2 ht e
    rw [if_pos ⟨rfl, e⟩]
    exact Or.inr (by rw [out_like hT hw2 hw ht2 hl])
  · rw [if_neg (fun z => e z.2)]
    exact hk w2 t2 hw2 ht2
/-- a place of the list -/
theorem Itr.at {w tn a : Nat} (hT : okT T) (ha : a ∈ actsL T w tn) : ∃ M1 M, Itr T w tn (refK T a) M1 (a :: M) := by
  obtain ⟨M1, M, e⟩ := List.append_of_mem ha
  have hs := actsL_sorted T w tn
  rw [e] at hs
  have hp := List.pairwise_append.mp hs
  refine ⟨M1, M, e, fun x hx => refK_lt hT (by rw [e]; simp [hx]) ha (hp.2.2 x hx a (by simp)), fun x hx => ?_⟩
  rcases List.mem_cons.mp hx with z | z
  · rw [z]; exact Nat.le_refl _
  · exact Nat.le_of_lt (refK_lt hT ha (by rw [e]; simp [z]) ((List.pairwise_cons.mp hp.2.1).1 x z))
set_option maxRecDepth 4096 in
/-- one act: laid out, done, asked -/
theorem f180_act {d o w tn day a : Nat} {S0 S : St} {m r : Int32} {md : Nat → K} {g : Int32 → St → Option Rs} {Q : Option Value → St → Prop} (hM0 : ShM S0) (hR0 : RT S0 T) (hC0 : RC S0 E) (hrow0 : RoL S0 o T w tn day) (ho : o + 128 ≤ 2560) (hw : okW T w) (ht : tn < 2) (hday : day < 990) (hrec : ∀ a, a ∈ actsL T w tn → ∀ S, ShM S → RT S T → RC S E → RoL S (o + 64) T (aft T w tn a) (1 - tn) (day + 1) → MsK S T m r → Sp (F (d + 7) 180 [.ref 39, .int (nI (o + 64)), .int m, .int r] S) (MaQ S (o + 64) T m r (aft T w tn a) (1 - tn))) (f : Fr (MaP o) nol S0 S) (hk : MsK S T m r) (hmem : a ∈ actsL T w tn) (hF : actF S a) (next : ∀ S5, Fr (MaP o) nol S0 S5 → MsK S5 T m r → WR md (g (nI (1 + out T m r (aft T w tn a) (1 - tn) % 2)) S5) Q) : WR md (eV (F (d + 7) 169 [.ref 39, .int (nI o), .int (nI o + 64)] S) fun S1 => if gK S1 39 = 8 then (if gK S1 39 = 8 then (if gK S1 39 = 8 then (if gK S1 39 = 8 then (eV (F (d + 7) 154 [.ref 39, .int (nI o + 64), .int (gI S1 39 39), .int (gI S1 39 40), .int (gI S1 39 41)] S1) fun S2 => if gK S2 39 = 8 then (eI (F (d + 7) 180 [.ref 39, .int (nI o + 64), .int m, .int r] S2) fun v4 S3 => g v4 S3) else none) else none) else none) else none) else none) Q := by
  have hT := hR0.1
  obtain ⟨a1, a2, a3⟩ := actsL_mem.mp hmem
  have hM := hM0.fr f
  have hrow := hrow0.ma f
  rw [k64, nI_add]
  refine W_Ve (f169 (d := d + 6) (o := o) (b := o + 64) hM (by omega) (by omega) (by omega)) ?_
  rintro S3 ⟨f3, hcp⟩
  have hM3 := hM.fr f3
  have f3' : Fr (MaP o) nol S S3 := f3.weak (fun a k z => Or.inl ⟨z.1, z.2.1⟩) (fun a k z => z)
  have f03 := f.tr f3'
  have hF3 : actF S3 a := by
    obtain ⟨q1, q2, q3⟩ := hF
    exact ⟨by rw [f3.1 _ _ (by show ¬ (_ ∧ _); omega)]; exact q1, by rw [f3.1 _ _ (by show ¬ (_ ∧ _); omega)]; exact q2, by rw [f3.1 _ _ (by show ¬ (_ ∧ _); omega)]; exact q3⟩
  have hk3 : MsK S3 T m r := hk.fr f3 (fun a k z => by have z : a = 63 ∧ _ := z; omega)
  simp only [hM3.k39, z0c, eq_self, if_true, Nat.reduceAdd, true_and]
  rw [hF3.1, hF3.2.1, hF3.2.2]
  refine W_Ve (f154 (d := d) (o := o + 64) hM3 (hR0.ma f03) (hC0.ma f03) (hrow.cp hcp) (by omega) hw ht (by omega) hmem) ?_
  rintro S4 ⟨f4, hrow4, -⟩
  have hM4 := hM3.fr f4
  have f4' : Fr (MaP o) nol S3 S4 := f4.weak (fun a k z => by
    rcases z with z | z | z
    · exact Or.inl ⟨z.1, by omega⟩
    · exact Or.inr (Or.inl z)
    · exact Or.inr (Or.inr (Or.inl z))) (fun a k z => z)
  have f04 := f03.tr f4'
  have hk4 : MsK S4 T m r := hk3.fr f4 (fun a k z => by rcases z with z | z | z <;> omega)
  simp only [hM4.k39, z0c, eq_self, if_true, Nat.reduceAdd, true_and]
  refine W_Ie (hrec a hmem S4 hM4 (hR0.ma f04) (hC0.ma f04) hrow4 hk4) ?_
  rintro v S5 ⟨rfl, f5, hk5⟩
  have f5' : Fr (MaP o) nol S4 S5 := f5.weak (fun a k z => by
    rcases z with z | z | z | z
    · exact Or.inl ⟨z.1, by omega⟩
    · exact Or.inr (Or.inl z)
    · exact Or.inr (Or.inr (Or.inl z))
    · exact Or.inr (Or.inr (Or.inr z))) (fun a k z => z)
  exact next S5 (f04.tr f5') hk5
set_option maxRecDepth 4096 in
/-- the other town's turn -/
theorem f180_loop {d o w tn day tw : Nat} {S0 : St} {r x7 : Int32} (hM0 : ShM S0) (hR0 : RT S0 T) (hC0 : RC S0 E) (hrow0 : RoL S0 o T w tn day) (ho : o + 128 ≤ 2560) (hs : small T) (hw : okW T w) (ht : tn < 2) (htw : tw < 2) (hne : tn ≠ tw) (hday : day < 990) (hrec : ∀ a, a ∈ actsL T w tn → ∀ S, ShM S → RT S T → RC S E → RoL S (o + 64) T (aft T w tn a) (1 - tn) (day + 1) → MsK S T (nI tw) r → Sp (F (d + 7) 180 [.ref 39, .int (nI (o + 64)), .int (nI tw), .int r] S) (MaQ S (o + 64) T (nI tw) r (aft T w tn a) (1 - tn))) : ∀ (M2 M1 : List Nat) (b : Nat) (S : St) (x5 x8 : Int32), Itr T w tn b M1 M2 → actsL T w tn ≠ [] → Fr (MaP o) nol S0 S → MsK S T (nI tw) r → nxA S T M2 x8 → (∀ c, c ∈ M1 → out T (nI tw) r (aft T w tn c) (1 - tn) % 2 = tn) → x5 = (if M1 = [] then 0 else nI (1 + tn)) → ∀ z9 z10 : Value, WP (P180 (F (d + 7))) (5, [.ref 39, .int (nI o), .int (nI tw), .int r, .int (nI (nkey T w tn)), .int x5, .int 0, .int x7, .int x8, z9, z10], [], S) (fun v S' => (gZ S0 ≤ gZ S' ∧ gU S0 ≤ gU S') ∧ MaQ S0 o T (nI tw) r w tn v S') := by
  have hT := hR0.1
  have hnm : ¬ nI tn = nI tw := fun z => hne ((i_eq (by omega) (by omega)).mp z)
  -- who pays in the end, by the acts
  have hpar : actsL T w tn ≠ [] → (out T (nI tw) r w tn % 2 ≠ tn ↔ ∃ a, a ∈ actsL T w tn ∧ out T (nI tw) r (aft T w tn a) (1 - tn) % 2 ≠ tn) := fun hne' => by
    have hoe := out_eq (m := nI tw) (r := r) hT hw ht
    rw [if_neg hnm] at hoe
    cases hf : (actsL T w tn).foldl (fun ch a => pick tn ch (out T (nI tw) r (aft T w tn a) (1 - tn) + 2)) none with
    | none =>
      exfalso
      cases hL : actsL T w tn with
      | nil => exact hne' hL
      | cons a L =>
        rw [hL] at hf
        have key : ∀ (L : List Nat) (v : Nat), L.foldl (fun ch a => pick tn ch (out T (nI tw) r (aft T w tn a) (1 - tn) + 2)) (some v) ≠ none := by
          intro L
          induction L with
          | nil => intro v z; cases z
          | cons c L ih =>
            intro v
            show L.foldl _ (if scr v tn < scr (out T (nI tw) r (aft T w tn c) (1 - tn) + 2) tn then some (out T (nI tw) r (aft T w tn c) (1 - tn) + 2) else some v) ≠ none
            split
            · exact ih _
            · exact ih _
        exact key L _ hf
    | some e =>
      rw [hf] at hoe
      have hoe : out T (nI tw) r w tn = e := hoe
      rw [hoe, pick_par (f := fun a => out T (nI tw) r (aft T w tn a) (1 - tn) + 2) ht (fun a => by have := out_le (T := T) (m := nI tw) (r := r) (w := aft T w tn a) (tn := 1 - tn) (by omega); omega) hf (fun u hu => by cases hu)]
      constructor
      · rintro (⟨a, ha, z⟩ | ⟨u, hu, -⟩)
        · exact ⟨a, ha, by omega⟩
        · cases hu
      · rintro ⟨a, ha, z⟩
        exact Or.inl ⟨a, ha, by show (_ + 2) % 2 ≠ tn; omega⟩
  intro M2
  induction M2 with
  | nil =>
    intro M1 b S x5 x8 hi hac f hk hx hall h5 z9 z10
    have hx : x8 = -1 := hx
    subst hx
    have e1 := hi.1
    rw [List.append_nil] at e1
    refine w180_5 ?_
    refine W_t (by decide) ?_
    have hn1 : M1 ≠ [] := by rw [← e1]; exact hac
    rw [if_neg hn1] at h5
    refine f180_end hM0 hT hs hw ht f hk ?_
    rw [h5]
    have : out T (nI tw) r w tn % 2 = tn := Classical.byContradiction fun z => by
      obtain ⟨a, ha, y⟩ := (hpar hac).mp z
      exact y (hall a (by rw [← e1]; exact ha))
    rw [this]
  | cons a M ih =>
    intro M1 b S x5 x8 hi hac f hk hx hall h5 z9 z10
    obtain ⟨rfl, hF⟩ := hx
    have hmem := (hi.head hT).1
    have hlt := hi.lt hT
    have hM := hM0.fr f
    have hp2 : out T (nI tw) r (aft T w tn a) (1 - tn) % 2 < 2 := Nat.mod_lt _ (by decide)
    refine w180_5 ?_
    refine W_f (nI_n0 (by omega)) ?_
    simp only [hM.k39, z0c, eq_self, if_true, Nat.reduceAdd, true_and]
    refine f180_act (d := d) hM0 hR0 hC0 hrow0 ho hw ht hday hrec f hk hmem hF (fun S5 f5 k5 => ?_)
    have hM5 := hM0.fr f5
    rw [c1, nI_add]
    have hno5 : ¬ x5 = nI (1 + tw) := by
      rw [h5]
      split
      · exact fun z => absurd ((i_eq (a := 0) (by decide) (by omega)).mp z) (by omega)
      · exact fun z => absurd ((i_eq (by omega) (by omega)).mp z) (by omega)
    refine W_f (hno5) ?_
    show WP _ _ _
    refine w180_6 ?_
    refine W_t (rfl) ?_
    rw [c1, nI_add]
    refine W_if (fun q => ?_) (fun q => ?_)
    · rw [i_eq (by omega) (by omega)] at q
      refine f180_end hM0 hT hs hw ht f5 k5 ?_
      have hp : out T (nI tw) r (aft T w tn a) (1 - tn) % 2 ≠ tn := by omega
      have h1 := (hpar hac).mpr ⟨a, hmem, hp⟩
      congr 1
      omega
    · rw [i_eq (by omega) (by omega)] at q
      simp only [hM5.k39, z0c, eq_self, if_true, Nat.reduceAdd, true_and]
      refine W_Ie (f149n (d := d + 3) hM5 (hR0.ma f5) (hrow0.ma f5).1 (by omega) hw ht hi) ?_
      rintro x8 S6 ⟨f6, hx6⟩
      have f6' : Fr (MaP o) nol S5 S6 := f6.weak (fun a k z => Or.inr (Or.inr (Or.inl z))) (fun a k z => z)
      show WP _ _ _
      refine ih (M1 ++ [a]) _ S6 _ x8 (hi.next hT) hac (f5.tr f6') (k5.fr f6 (fun a k z => by have z : a = 39 ∧ _ := z; omega)) hx6 (fun c hc => ?_) ?_ _ _
      · rcases List.mem_append.mp hc with z | z
        · exact hall c z
        · rw [List.mem_singleton.mp z]; omega
      · rw [if_neg (by simp)]
        congr 1
        omega
set_option maxRecDepth 4096 in
/-- masons -/
theorem f180 {tw : Nat} {r : Int32} (hs : small T) (htw : tw < 2) (hr : r = 0 ∨ r = 1 ∨ r = 2) : ∀ (k d w tn day o : Nat) (S : St), ShM S → RT S T → RC S E → RoL S o T w tn day → MsK S T (nI tw) r → okW T w → tn < 2 → tW T * tH T ≤ fil T w + k → o + 64 * (k + 2) ≤ 2560 → day + k < 900 → Sp (F (d + k + 8) 180 [.ref 39, .int (nI o), .int (nI tw), .int r] S) (MaQ S o T (nI tw) r w tn) := by
  intro k
  induction k with
  | zero =>
    intro d w tn day o S hM hR hC hrow hk hw ht hfil ho hday
    have hT := hR.1
    have hno : actsL T w tn = [] := by
      cases hL : actsL T w tn with
      | nil => rfl
      | cons a L =>
        exfalso
        obtain ⟨a1, a2, a3⟩ := actsL_mem.mp (show a ∈ actsL T w tn by rw [hL]; simp)
        have h1 := fil_aft hT hw ht a2 a3
        have h2 := fil_le hT (hw.aft hT ht a2 a3)
        omega
    have hlt := nkey_lt hT hs hw ht
    have hpl := payr_le (T := T) (w := w) ht
    have ep : pys T w tn = 1 + payr T w tn := if_pos hno
    have eo : out T (nI tw) r w tn = payr T w tn := by
      rw [out_eq hT hw ht, hno]
      split <;> rfl
    refine fw180 (w180_0 ?_)
    simp only [hM.k39, z0c, eq_self, if_true, Nat.reduceAdd, true_and]
    refine W_I (f167 hM hR hrow.1 (by omega)) ?_
    simp only [hM.k39, hM.r39_45, hM.k67, hM.n67, hM.r39_36, hM.k63, hM.n63, z0c, eq_self, if_true, Nat.reduceAdd, true_and]
    refine W_t (inB_n (by omega) (by decide)) ?_
    rw [nI_clamp (by omega)]
    refine W_if (fun q => ?_) (fun q => ?_)
    · refine W_t (inB_n (by omega) (by decide)) ?_
      rcases hk w tn hw ht with z | z
      · rw [z] at q; exact absurd q (by decide)
      · exact ⟨nochg S, _, rfl, z, Fr.rf, hk⟩
    rw [k43, nI_add, k42, nI_add]
    refine W_t (inB_n (by omega) (by decide)) ?_
    rw [nI_clamp (n := o + 43) (by omega), hrow.2.1]
    refine W_si fun v e => ?_
    refine W_t (inB_n (by omega) (by decide)) ?_
    rw [nI_clamp (n := o + 42) (by omega), hrow.1.2.2.2]
    have hv : v = nI (1 + out T (nI tw) r w tn % 2) := by rw [e, ep, eo]; congr 1; omega
    have hv0 : 0 < v := by rw [e]; exact (pys_pos ht).mpr hno
    have one : ∀ y : Int32, WP (P180 (F (d + 0 + 7))) (1, [.ref 39, .int (nI o), .int (nI tw), .int r, .int (nI (nkey T w tn)), .int v, .null, .null, .null, .null, .null], [.int y], S) (fun v S' => (gZ S ≤ gZ S' ∧ gU S ≤ gU S') ∧ MaQ S o T (nI tw) r w tn v S') := by
      intro y
      have two : WP (P180 (F (d + 0 + 7))) (2, [.ref 39, .int (nI o), .int (nI tw), .int r, .int (nI (nkey T w tn)), .int v, .int y, .null, .null, .null, .null], [], S) (fun v S' => (gZ S ≤ gZ S' ∧ gU S ≤ gU S') ∧ MaQ S o T (nI tw) r w tn v S') := by
        refine w180_2 ?_
        refine w180_3 ?_
        refine W_t (hv0) ?_
        show WP _ _ _
        refine w180_4 ?_
        refine w180_5 ?_
        refine W_t (by decide) ?_
        exact f180_end hM hT hs hw ht Fr.rf hk hv
      refine w180_1 ?_
      refine W_if (fun z => ?_) (fun z => ?_)
      · exact two
      · refine W_f (fun y => by rw [y] at hv0; exact absurd hv0 (by decide)) ?_
        exact two
    refine W_if (fun z => ?_) (fun z => ?_)
    · exact one 1
    · exact one 0
  | succ k ih =>
    intro d w tn day o S hM hR hC hrow hk hw ht hfil ho hday
    have hT := hR.1
    have hlt := nkey_lt hT hs hw ht
    have hpl := payr_le (T := T) (w := w) ht
    have hrec : ∀ a, a ∈ actsL T w tn → ∀ S, ShM S → RT S T → RC S E → RoL S (o + 64) T (aft T w tn a) (1 - tn) (day + 1) → MsK S T (nI tw) r → Sp (F (d + k + 1 + 7) 180 [.ref 39, .int (nI (o + 64)), .int (nI tw), .int r] S) (MaQ S (o + 64) T (nI tw) r (aft T w tn a) (1 - tn)) := fun a ha S2 m1 m2 m3 m4 m5 => by
      obtain ⟨a1, a2, a3⟩ := actsL_mem.mp ha
      have h1 := fil_aft hT hw ht a2 a3
      exact ih d (aft T w tn a) (1 - tn) (day + 1) (o + 64) S2 m1 m2 m3 m4 m5 (hw.aft hT ht a2 a3) (by omega) (by omega) (by omega) (by omega)
    refine fw180 (w180_0 ?_)
    simp only [hM.k39, z0c, eq_self, if_true, Nat.reduceAdd, true_and]
    refine W_I (f167 hM hR hrow.1 (by omega)) ?_
    simp only [hM.k39, hM.r39_45, hM.k67, hM.n67, hM.r39_36, hM.k63, hM.n63, z0c, eq_self, if_true, Nat.reduceAdd, true_and]
    refine W_t (inB_n (by omega) (by decide)) ?_
    rw [nI_clamp (by omega)]
    refine W_if (fun q => ?_) (fun q => ?_)
    · refine W_t (inB_n (by omega) (by decide)) ?_
      rcases hk w tn hw ht with z | z
      · rw [z] at q; exact absurd q (by decide)
      · exact ⟨nochg S, _, rfl, z, Fr.rf, hk⟩
    rw [k43, nI_add, k42, nI_add]
    refine W_t (inB_n (by omega) (by decide)) ?_
    rw [nI_clamp (n := o + 43) (by omega), hrow.2.1]
    refine W_si fun v e => ?_
    refine W_t (inB_n (by omega) (by decide)) ?_
    rw [nI_clamp (n := o + 42) (by omega), hrow.1.2.2.2]
    by_cases hno : actsL T w tn = []
    · have ep : pys T w tn = 1 + payr T w tn := if_pos hno
      have eo : out T (nI tw) r w tn = payr T w tn := by
        rw [out_eq hT hw ht, hno]
        split <;> rfl
      have hv : v = nI (1 + out T (nI tw) r w tn % 2) := by rw [e, ep, eo]; congr 1; omega
      have hv0 : 0 < v := by rw [e]; exact (pys_pos ht).mpr hno
      have one : ∀ y : Int32, WP (P180 (F (d + (k + 1) + 7))) (1, [.ref 39, .int (nI o), .int (nI tw), .int r, .int (nI (nkey T w tn)), .int v, .null, .null, .null, .null, .null], [.int y], S) (fun v S' => (gZ S ≤ gZ S' ∧ gU S ≤ gU S') ∧ MaQ S o T (nI tw) r w tn v S') := by
        intro y
        have two : WP (P180 (F (d + (k + 1) + 7))) (2, [.ref 39, .int (nI o), .int (nI tw), .int r, .int (nI (nkey T w tn)), .int v, .int y, .null, .null, .null, .null], [], S) (fun v S' => (gZ S ≤ gZ S' ∧ gU S ≤ gU S') ∧ MaQ S o T (nI tw) r w tn v S') := by
          refine w180_2 ?_
          refine w180_3 ?_
          refine W_t (hv0) ?_
          show WP _ _ _
          refine w180_4 ?_
          refine w180_5 ?_
          refine W_t (by decide) ?_
          exact f180_end hM hT hs hw ht Fr.rf hk hv
        refine w180_1 ?_
        refine W_if (fun z => ?_) (fun z => ?_)
        · exact two
        · refine W_f (fun y => by rw [y] at hv0; exact absurd hv0 (by decide)) ?_
          exact two
      refine W_if (fun z => ?_) (fun z => ?_)
      · exact one 1
      · exact one 0
    · have ep : pys T w tn = 0 := if_neg hno
      rw [ep] at e
      have e : v = 0 := e
      subst e
      by_cases hm : tn = tw
      · -- the mason's own turn
        refine W_t (by rw [hm]) ?_
        show WP _ _ _
        refine w180_1 ?_
        refine W_f (by decide) ?_
        refine W_t (rfl) ?_
        simp only [hM.k39, z0c, eq_self, if_true, Nat.reduceAdd, true_and]
        refine W_Ie (f179 (d := d + k + 3) hM hR hrow.1 (by omega) hw ht hr) ?_
        rintro v S1 ⟨rfl, f1⟩
        have hM1 := hM.fr f1
        have f1' : Fr (MaP o) nol S S1 := f1.weak (fun a k z => Or.inr (Or.inr (Or.inl z))) (fun a k z => z)
        have hk1 : MsK S1 T (nI tw) r := hk.fr f1 (fun a k z => by have z : a = 39 ∧ _ := z; omega)
        have hoe := out_eq (m := nI tw) (r := r) hT hw ht
        rw [if_pos (by rw [hm])] at hoe
        cases hf : (actsL T w tn).foldl (pickA r w) none with
        | none =>
          exfalso
          cases hL : actsL T w tn with
          | nil => exact hno hL
          | cons a L =>
            rw [hL] at hf
            have key : ∀ (L : List Nat) (v : Nat), L.foldl (pickA r w) (some v) ≠ none := by
              intro L
              induction L with
              | nil => intro v z; cases z
              | cons c L ih =>
                intro v
                show L.foldl (pickA r w) (if r = 1 ∨ (r = 2 ∧ hgt w (c / 4 % 16) < hgt w (v / 4 % 16)) then some c else some v) ≠ none
                split
                · exact ih _
                · exact ih _
            exact key L _ hf
        | some a =>
          rw [hf] at hoe
          have hoe : out T (nI tw) r w tn = out T (nI tw) r (aft T w tn a) (1 - tn) + 2 := hoe
          have ha : a ∈ actsL T w tn := (pickA_mem hf).resolve_right (fun z => by cases z)
          obtain ⟨M1, M, hi⟩ := Itr.at hT ha
          have hlt2 := hi.lt hT
          have hbk := (okK_of hT ha).2
          show WP _ _ _
          refine w180_3 ?_
          refine W_f (by decide) ?_
          refine W_f (by decide) ?_
          simp only [hM1.k39, z0c, eq_self, if_true, Nat.reduceAdd, true_and]
          refine W_Ie (f149 (d := d + k + 4) (b := refK T a) (x2 := nI (refK T a) - 1) hM1 (hR.ac f1) (hrow.1.ac f1) (by omega) hw ht (by rw [Int32.sub_add_cancel]) (by omega) hi) ?_
          rintro x8 S2 ⟨f2, hx8⟩
          have f2' : Fr (MaP o) nol S1 S2 := f2.weak (fun a k z => Or.inr (Or.inr (Or.inl z))) (fun a k z => z)
          have f02 := f1'.tr f2'
          obtain ⟨rfl, hF⟩ := hx8
          show WP _ _ _
          refine w180_4 ?_
          refine w180_5 ?_
          refine W_f (nI_n0 (by omega)) ?_
          have hM2 := hM.fr f02
          simp only [hM2.k39, z0c, eq_self, if_true, Nat.reduceAdd, true_and]
          refine f180_act (d := d + k + 1) hM hR hC hrow (by omega) hw ht (by omega) hrec f02 (hk1.fr f2 (fun a k z => by have z : a = 39 ∧ _ := z; omega)) ha hF (fun S5 f5 k5 => ?_)
          rw [c1, nI_add]
          refine W_f (fun z => absurd ((i_eq (a := 0) (by decide) (by omega)).mp z) (by omega)) ?_
          show WP _ _ _
          refine w180_6 ?_
          refine W_f (by decide) ?_
          refine f180_end hM hT hs hw ht f5 k5 ?_
          rw [hoe]
          congr 1
          omega
      · refine W_f (fun z => hm ((i_eq (by omega) (by omega)).mp z)) ?_
        show WP _ _ _
        refine w180_1 ?_
        refine W_t (rfl) ?_
        show WP _ _ _
        refine w180_2 ?_
        refine w180_3 ?_
        refine W_f (by decide) ?_
        refine W_t (rfl) ?_
        simp only [hM.k39, z0c, eq_self, if_true, Nat.reduceAdd, true_and]
        refine W_Ie (f149s (d := d + k + 4) hM hR hrow.1 (by omega) hw ht) ?_
        rintro x8 S1 ⟨f1, hx8⟩
        have f1' : Fr (MaP o) nol S S1 := f1.weak (fun a k z => Or.inr (Or.inr (Or.inl z))) (fun a k z => z)
        show WP _ _ _
        refine w180_4 ?_
        exact f180_loop (d := d + k + 1) hM hR hC hrow (by omega) hs hw ht htw hm (by omega) hrec (actsL T w tn) [] 0 S1 0 x8 Itr.start hno f1' (hk.fr f1 (fun a k z => by have z : a = 39 ∧ _ := z; omega)) hx8 (fun c hc => by cases hc) rfl _ _
end REF
abbrev MnP : Nat → Nat → Prop := fun a k => (a = 63 ∧ 64 ≤ k) ∨ (53 ≤ a ∧ a ≤ 62) ∨ TaP a k ∨ a = 67
theorem MnP_s : ∀ a k, MnP a k → Scr a k := fun a k z => by
  rcases z with z | z | z | z
  · exact Or.inr (Or.inr (Or.inr (Or.inl z)))
  · exact Or.inr (Or.inr (Or.inl (by omega)))
  · exact TaP_s a k z
  · exact Or.inr (Or.inr (Or.inr (Or.inr (by omega))))
section RIB
variable {S : St} {tp : List Nat} {T : TD} {E : Env → Int32} {A : List Nat} {mk : Nat → Option MkD}
theorem RI.mn {S' : St} (h : RI S tp T E A mk) (f : Fr MnP nol S S') : RI S' tp T E A mk := ⟨h.1.fr f MnP_s, h.2.fr f (fun a k z => by
  rcases z with z | z | z | z
  · omega
  · omega
  · have z : a = 39 ∧ _ := z; omega
  · omega)⟩
set_option maxRecDepth 4096 in
theorem f181 {d : Nat} {x1 x2 : Int32} (h : RI S tp T E A mk) : Sp (F (d + 24) 181 [.ref 39, .int x1, .int x2] S) (fun v S' => ∃ y, v = some (.int y) ∧ y = aMason T (pw (posA T E A)) (ptn (posA T E A)) x1 x2 ∧ Fr MnP nol S S' ∧ RI S' tp T E A mk) := by
  obtain ⟨hT, hok, hday⟩ := h.1.ok
  have hd60 := hok.day hT
  refine fw181 (w181_0 ?_)
  refine W_t (h.1.1.k39) ?_
  refine W_s fun S1 e1 => ?_
  have f1 : Fr MnP nol S S1 := by rw [e1]; exact Fr.putI (Or.inr (Or.inr (Or.inl ⟨rfl, Or.inl rfl⟩)))
  have h1 := h.mn f1
  have hM := h1.1.1
  unfold aMason
  refine W_I (f114) ?_
  refine W_if (fun q1 => ?_) (fun q1 => ?_)
  · rw [bi_0] at q1
    refine ⟨f1.mono, _, rfl, ?_, f1, h1⟩
    rw [if_pos]
    by_cases z : x1 < 0
    · exact Or.inl z
    · exact Or.inr (Or.inl (Classical.byContradiction fun y => q1 ⟨z, y⟩))
  rw [bi_0] at q1
  obtain ⟨g1, g2⟩ := Classical.not_not.mp q1
  obtain ⟨tw, htw, rfl⟩ := wi_n (k := 1) g1 g2 (by decide)
  refine W_I (f114) ?_
  refine W_if (fun q2 => ?_) (fun q2 => ?_)
  · rw [bi_0] at q2
    refine ⟨f1.mono, _, rfl, ?_, f1, h1⟩
    rw [if_pos]
    by_cases z : x2 < 0
    · exact Or.inr (Or.inr (Or.inl z))
    · exact Or.inr (Or.inr (Or.inr (Or.inl (Classical.byContradiction fun y => q2 ⟨z, y⟩))))
  rw [bi_0] at q2
  obtain ⟨g3, g4⟩ := Classical.not_not.mp q2
  simp only [hM.k39, z0c, eq_self, if_true, Nat.reduceAdd, true_and]
  refine W_I (f165 hM h1.1.2.2.1) ?_
  refine W_if (fun q3 => ?_) (fun q3 => ?_)
  · rw [bi_0] at q3
    refine ⟨f1.mono, _, rfl, ?_, f1, h1⟩
    rw [if_pos (Or.inr (Or.inr (Or.inr (Or.inr q3))))]
  rw [bi_0] at q3
  have hs := Classical.not_not.mp q3
  have hB := small_num hT hs
  have ng : ¬ (nI tw < 0 ∨ 1 < nI tw ∨ x2 < 0 ∨ 2 < x2 ∨ ¬ small T) := by
    rintro (z | z | z | z | z)
    · exact g1 z
    · exact g2 z
    · exact g3 z
    · exact g4 z
    · exact z hs
  rw [if_neg ng]
  have hr : x2 = 0 ∨ x2 = 1 ∨ x2 = 2 := by
    obtain ⟨n, hn, rfl⟩ := wi_n (k := 2) g3 g4 (by decide)
    rcases (show n = 0 ∨ n = 1 ∨ n = 2 by omega) with rfl | rfl | rfl
    · exact Or.inl rfl
    · exact Or.inr (Or.inl rfl)
    · exact Or.inr (Or.inr rfl)
  show WP _ _ _
  have key : ∀ (n k : Nat) (S2 : St), n = 65536 - k → k ≤ 65536 → Fr MnP nol S S2 → (∀ j, j < k → gI S2 67 j = 0) → WP (P181 (F (d + 23))) (1, [.ref 39, .int (nI tw), .int x2, .int (nI k)], [], S2) (fun v S' => (gZ S ≤ gZ S' ∧ gU S ≤ gU S') ∧ ∃ y, v = some (.int y) ∧ y = nI (out T (nI tw) x2 (pw (posA T E A)) (ptn (posA T E A)) % 2) ∧ Fr MnP nol S S' ∧ RI S' tp T E A mk) := by
    intro n
    induction n with
    | zero =>
      intro k S2 hn hk f2 h0
      have e : k = 65536 := by omega
      subst e
      have h2 := h.mn f2
      refine w181_1 ?_
      refine W_f (by decide +kernel) ?_
      refine W_t (h2.1.1.k39) ?_
      refine W_Ve (f169 (d := d + 22) (o := 0) (b := 64) h2.1.1 (by omega) (by omega) (by omega)) ?_
      rintro S3 ⟨f3, cp⟩
      have n3 : Fr MnP nol S S3 := f2.tr (f3.weak (fun a k z => Or.inl ⟨z.1, z.2.1⟩) (fun a k z => z))
      have h3 := h.mn n3
      have hrow := h2.1.row.1.cp cp
      have k3 : MsK S3 T (nI tw) x2 := fun w tn h1 h2 => Or.inl (by rw [f3.1 _ _ (by show ¬ (_ ∧ _); omega)]; exact h0 _ (nkey_lt hT hs h1 h2))
      refine W_t (h3.1.1.k39) ?_
      refine W_Ie (f180 (E := E) hs (by omega) hr 15 d _ _ _ 64 S3 h3.1.1 h3.1.2.2.1 h3.1.2.2.2.1 hrow k3 hok.1 (ptn_lt _) (by omega) (by omega) (by omega)) ?_
      rintro v S4 ⟨rfl, f4, k4⟩
      have n4 : Fr MnP nol S S4 := n3.tr (f4.weak (fun a k z => by
        rcases z with z | z | z | z
        · exact Or.inl ⟨z.1, by omega⟩
        · exact Or.inr (Or.inl z)
        · exact Or.inr (Or.inr (Or.inl ⟨z.1, Or.inr z.2⟩))
        · exact Or.inr (Or.inr (Or.inr z))) (fun a k z => z))
      exact ⟨n4.mono, _, rfl, by rw [c1, pk_sub (by omega), Nat.add_sub_cancel_left], n4, h.mn n4⟩
    | succ n ih =>
      intro k S2 hn hk f2 h0
      have hM2 := h.1.1.fr f2
      refine w181_1 ?_
      refine W_t (by rw [show (65536 : Int32) = nI 65536 from rfl, i_lt (by omega) (by decide)]; omega) ?_
      simp only [hM2.k39, hM2.r39_45, hM2.k67, hM2.n67, z0c, eq_self, if_true, Nat.reduceAdd, true_and]
      refine W_t (inB_n (by omega) (by decide)) ?_
      rw [nI_clamp (by omega)]
      refine W_s fun S3 e3 => ?_
      have f3 : Fr MnP nol S2 S3 := by rw [e3]; exact Fr.putI (Or.inr (Or.inr (Or.inr rfl)))
      show WP _ _ _
      rw [nI_1]
      refine ih (k + 1) S3 (by omega) (by omega) (f2.tr f3) (fun j hj => ?_)
      rw [e3, gI_pI]
      by_cases e : j = k
      · rw [if_pos ⟨rfl, e⟩]; decide +kernel
      · rw [if_neg (fun z => e z.2)]; exact h0 j (by omega)
  exact key 65536 0 S1 (by omega) (by omega) f1 (fun j hj => by omega)
end RIB
