/-! the reference's solves: how play ends -/
theorem pickA_like {T : TD} {r : Int32} {w w' : Nat} (hl : like T w w') : ∀ {L : List Nat} {x : Option Nat}, (∀ a, a ∈ L → a / 4 % 16 < tW T) → (∀ v, x = some v → v / 4 % 16 < tW T) → L.foldl (pickA r w) x = L.foldl (pickA r w') x
  | [], x, _, _ => rfl
  | a :: L, x, h1, h2 => by
    have ha := h1 a (by simp)
    have e : pickA r w x a = pickA r w' x a := by
      cases x with
      | none => rfl
      | some c =>
        unfold pickA
        simp only []
        rw [(hl.1 _ ha).1, (hl.1 _ (h2 c rfl)).1]
    show L.foldl (pickA r w) (pickA r w x a) = L.foldl (pickA r w') (pickA r w' x a)
    rw [e]
    refine pickA_like hl (fun b hb => h1 b (by simp [hb])) (fun v hv => ?_)
    cases x with
    | none =>
      have : a = v := Option.some.inj hv
      rw [← this]; exact ha
    | some c =>
      have hv : (if r = 1 ∨ (r = 2 ∧ hgt w' (a / 4 % 16) < hgt w' (c / 4 % 16)) then some a else some c) = some v := hv
      split at hv
      · rw [← Option.some.inj hv]; exact ha
      · rw [← Option.some.inj hv]; exact h2 c rfl
theorem outc_like {T : TD} {m r : Int32} (hT : okT T) : ∀ {n w w' tn : Nat}, okW T w → okW T w' → tn < 2 → like T w w' → outc T m r n w tn = outc T m r n w' tn
  | 0, w, w', tn, _, _, _, _ => rfl
  | n + 1, w, w', tn, hw, hw', ht, hl => by
    have ea := actsL_like (tn := tn) hT hl ht
    have hrec : ∀ a, a ∈ actsL T w' tn → outc T m r n (aft T w tn a) (1 - tn) = outc T m r n (aft T w' tn a) (1 - tn) := fun a ha => by
      obtain ⟨b1, b2, b3⟩ := actsL_mem.mp ha
      obtain ⟨a1, a2, a3⟩ := actsL_mem.mp (by rw [ea]; exact ha : a ∈ actsL T w tn)
      exact outc_like hT (hw.aft hT ht a2 a3) (hw'.aft hT ht b2 b3) (by omega) (hl.aft hT hw.1 hw'.1 ht a2 a3)
    rw [outc_s, outc_s, ea, payr_like hl]
    by_cases hm : nI tn = m
    · rw [if_pos hm, if_pos hm, pickA_like hl (fun a ha => cand_col (actsL_mem.mp ha).2.1) (fun v hv => by cases hv)]
      cases hp : (actsL T w' tn).foldl (pickA r w') none with
      | none => rfl
      | some a =>
        have ha : a ∈ actsL T w' tn := (pickA_mem hp).resolve_right (fun z => by cases z)
        show outc T m r n (aft T w tn a) (1 - tn) + 2 = outc T m r n (aft T w' tn a) (1 - tn) + 2
        rw [hrec a ha]
    · rw [if_neg hm, if_neg hm, foldl_cg (g := fun ch a => pick tn ch (outc T m r n (aft T w' tn a) (1 - tn) + 2)) (fun a ha y => by rw [hrec a ha])]
theorem out_like {T : TD} {m r : Int32} {w w' tn : Nat} (hT : okT T) (hw : okW T w) (hw' : okW T w') (ht : tn < 2) (hl : like T w w') : out T m r w tn = out T m r w' tn := outc_like hT hw hw' ht hl
/-- what is known of how play ends is true -/
def KnR (S : St) (T : TD) : Prop := ∀ w tn, okW T w → tn < 2 → gI S 65 (nkey T w tn) = 0 ∨ (gI S 65 (nkey T w tn) = nI (1 + out T (-1) (-1) w tn % 2) ∧ gI S 66 (nkey T w tn) = nI (out T (-1) (-1) w tn / 2))
set_option maxRecDepth 4096 in
theorem by8 : ∀ n, n < 128 → (nI n).toInt8.toInt32 = nI n := by decide +kernel
set_option maxRecDepth 4096 in
theorem vb8 {n : Nat} (h : n < 128) : vp_nar .byte (nI n).toInt8.toInt32 = nI n := by rw [pk_vb, by8 n h]
set_option maxRecDepth 4096 in
theorem f171 {d tn c e : Nat} {S : St} (ht : tn < 2) (hc : c < 200) (he : e < 200) : F (d + 1) 171 [.int (nI tn), .int (nI (1 + e % 2)), .int (nI (e / 2)), .int (nI (1 + c % 2)), .int (nI (c / 2))] S = some (some (.int (bi (scr c tn < scr e tn))), S) := by
  refine fq171 (w171_0 ?_)
  rw [c1, nI_add]
  refine W_if (fun q1 => ?_) (fun q1 => ?_)
  · rw [i_eq (by omega) (by omega)] at q1
    refine W_if (fun q2 => ?_) (fun q2 => ?_)
    · rw [i_eq (by omega) (by omega)] at q2
      have h1 : c % 2 = tn := by omega
      have h2 : e % 2 = tn := by omega
      have es : scr c tn < scr e tn ↔ c / 2 < e / 2 := by unfold scr; rw [if_pos h1, if_pos h2]
      refine W_if (fun q3 => ?_) (fun q3 => ?_)
      · rw [i_lt (by omega) (by omega)] at q3
        exact W_b (Or.inr rfl) ⟨by rw [bi_t (es.mpr q3)]; rfl, rfl⟩
      · rw [i_lt (by omega) (by omega)] at q3
        exact W_b (Or.inl rfl) ⟨by rw [bi_f (fun z => q3 (es.mp z))], rfl⟩
    · rw [i_eq (by omega) (by omega)] at q2
      have h1 : ¬ c % 2 = tn := by omega
      have h2 : ¬ e % 2 = tn := by omega
      have es : scr c tn < scr e tn ↔ e / 2 < c / 2 := by unfold scr; rw [if_neg h1, if_neg h2]; omega
      refine W_if (fun q3 => ?_) (fun q3 => ?_)
      · rw [i_lt (by omega) (by omega)] at q3
        exact W_b (Or.inr rfl) ⟨by rw [bi_t (es.mpr q3)]; rfl, rfl⟩
      · rw [i_lt (by omega) (by omega)] at q3
        exact W_b (Or.inl rfl) ⟨by rw [bi_f (fun z => q3 (es.mp z))], rfl⟩
  · rw [i_eq (by omega) (by omega)] at q1
    refine W_if (fun q2 => ?_) (fun q2 => ?_)
    · rw [i_eq (by omega) (by omega)] at q2
      refine W_b (Or.inr rfl) ⟨?_, rfl⟩
      rw [bi_t]
      · rfl
      · unfold scr
        rw [if_pos (by omega), if_neg (by omega)]
        omega
    · rw [i_eq (by omega) (by omega)] at q2
      refine W_b (Or.inl rfl) ⟨?_, rfl⟩
      rw [bi_f]
      unfold scr
      rw [if_neg (by omega), if_pos (by omega)]
      omega
abbrev SoP (o : Nat) : Nat → Nat → Prop := fun a k => (a = 63 ∧ o + 64 ≤ k) ∨ (53 ≤ a ∧ a ≤ 62) ∨ AcP a k ∨ a = 65 ∨ a = 66
abbrev StK (S S' : St) : Prop := ∀ k, gI S 65 k ≠ 0 → gI S' 65 k ≠ 0
/-- the end of one: what is known now -/
abbrev SoQ (S : St) (o : Nat) (T : TD) (w tn : Nat) : Option Value → St → Prop := fun v S' => ∃ x, v = some (.int x) ∧ x = nI (nkey T w tn) ∧ Fr (SoP o) nol S S' ∧ StK S S' ∧ KnR S' T ∧ gI S' 65 (nkey T w tn) = nI (1 + out T (-1) (-1) w tn % 2) ∧ gI S' 66 (nkey T w tn) = nI (out T (-1) (-1) w tn / 2)
def accR (c : Option Nat) (x3 x4 x5 : Int32) : Prop := match c with
  | none => x3 = 0 ∧ x4 = 0 ∧ x5 = 0
  | some e => x3 = nI (1 + e % 2) ∧ x4 = nI (e / 2) ∧ x5 = 1
section REF
variable {T : TD} {E : Env → Int32}
abbrev ouB (T : TD) (w tn a : Nat) : Nat := out T (-1) (-1) (aft T w tn a) (1 - tn) + 2
theorem ouB_lt {w tn a : Nat} (ht : tn < 2) : ouB T w tn a < 200 := by
  have := out_le (T := T) (m := -1) (r := -1) (w := aft T w tn a) (tn := 1 - tn) (by omega)
  show _ + 2 < 200
  omega
theorem RT.so {S S' : St} {o : Nat} (h : RT S T) (f : Fr (SoP o) nol S S') : RT S' T := h.fr f (fun a k z => by rcases z with z | z | z | z | z <;> omega)
theorem RC.so {S S' : St} {o : Nat} (h : RC S E) (f : Fr (SoP o) nol S S') : RC S' E := h.fr f (fun a k z => by rcases z with z | z | z | z | z <;> omega)
theorem RoL.so {S S' : St} {o w tn day : Nat} (h : RoL S o T w tn day) (f : Fr (SoP o) nol S S') : RoL S' o T w tn day := h.fr f (fun k h1 h2 z => by rcases z with z | z | z | z | z <;> omega)
theorem KnR.put {S S1 S2 : St} {w tn : Nat} (hT : okT T) (hs : small T) (hw : okW T w) (ht : tn < 2) (hk : KnR S T) (e1 : S1 = pI S 65 (nkey T w tn) (nI (1 + out T (-1) (-1) w tn % 2))) (e2 : S2 = pI S1 66 (nkey T w tn) (nI (out T (-1) (-1) w tn / 2))) : KnR S2 T := by
  intro w2 t2 hw2 ht2
  by_cases e : nkey T w2 t2 = nkey T w tn
  · obtain ⟨rfl, hl⟩ := nkey_like hT hs hw2 hw ht2 ht e
    refine Or.inr ⟨?_, ?_⟩
    · rw [e, e2, gI_pI, if_neg (by omega), e1, gI_pI, if_pos ⟨rfl, rfl⟩, out_like hT hw2 hw ht2 hl]
    · rw [e, e2, gI_pI, if_pos ⟨rfl, rfl⟩, out_like hT hw2 hw ht2 hl]
  · have r : gI S2 65 (nkey T w2 t2) = gI S 65 (nkey T w2 t2) ∧ gI S2 66 (nkey T w2 t2) = gI S 66 (nkey T w2 t2) := ⟨by rw [e2, gI_pI, if_neg (by omega), e1, gI_pI, if_neg (fun z => e z.2)], by rw [e2, gI_pI, if_neg (fun z => e z.2), e1, gI_pI, if_neg (by omega)]⟩
    rw [r.1, r.2]
    exact hk w2 t2 hw2 ht2
set_option maxRecDepth 4096 in
/-- the answer is put down -/
theorem f172_end {D o w tn : Nat} {S0 S : St} {x5 : Int32} {z7 z8 : Value} (hM0 : ShM S0) (hT : okT T) (hs : small T) (hw : okW T w) (ht : tn < 2) (f : Fr (SoP o) nol S0 S) (hst : StK S0 S) (hk : KnR S T) : WP (P172 (F D)) (3, [.ref 39, .int (nI o), .int (nI (nkey T w tn)), .int (nI (1 + out T (-1) (-1) w tn % 2)), .int (nI (out T (-1) (-1) w tn / 2)), .int x5, .int (-1), z7, z8], [], S) (fun v S' => (gZ S0 ≤ gZ S' ∧ gU S0 ≤ gU S') ∧ SoQ S0 o T w tn v S') := by
  have hM := hM0.fr f
  have hlt := nkey_lt hT hs hw ht
  have ho := out_le (T := T) (m := -1) (r := -1) (w := w) ht
  refine w172_3 ?_
  refine W_t (by decide) ?_
  simp only [hM.k39, hM.r39_42, hM.k65, hM.n65, z0c, eq_self, if_true, Nat.reduceAdd, true_and]
  refine W_t (inB_n (by omega) (by decide)) ?_
  rw [nI_clamp (by omega), vb8 (by omega), vb8 (by omega)]
  refine W_s fun S1 e1 => ?_
  have f1 : Fr (SoP o) nol S S1 := by rw [e1]; exact Fr.putI (Or.inr (Or.inr (Or.inr (Or.inl rfl))))
  have hM1 := hM.fr f1
  simp only [hM1.k39, hM1.r39_43, hM1.k66, hM1.n66, z0c, eq_self, if_true, Nat.reduceAdd, true_and]
  refine W_t (inB_n (by omega) (by decide)) ?_
  refine W_s fun S2 e2 => ?_
  have f2 : Fr (SoP o) nol S1 S2 := by rw [e2]; exact Fr.putI (Or.inr (Or.inr (Or.inr (Or.inr rfl))))
  have fa := (f.tr f1).tr f2
  have hst2 : StK S0 S2 := fun k hk' => by
    rw [e2, gI_pI, if_neg (by omega), e1, gI_pI]
    by_cases e : k = nkey T w tn
    · rw [if_pos ⟨rfl, e⟩]; exact nI_ne0 (by omega) (by omega)
    · rw [if_neg (fun z => e z.2)]; exact hst k hk'
  exact ⟨fa.mono, _, rfl, rfl, fa, hst2, hk.put hT hs hw ht e1 e2, by rw [e2, gI_pI, if_neg (by omega), e1, gI_pI, if_pos ⟨rfl, rfl⟩], by rw [e2, gI_pI, if_pos ⟨rfl, rfl⟩]⟩
set_option maxRecDepth 4096 in
theorem f172_loop {d o w tn day : Nat} {S0 : St} (hM0 : ShM S0) (hR0 : RT S0 T) (hC0 : RC S0 E) (hrow0 : RoL S0 o T w tn day) (ho : o + 128 ≤ 2560) (hs : small T) (hw : okW T w) (ht : tn < 2) (hday : day < 990) (hrec : ∀ a, a ∈ actsL T w tn → ∀ S, ShM S → RT S T → RC S E → RoL S (o + 64) T (aft T w tn a) (1 - tn) (day + 1) → KnR S T → Sp (F (d + 7) 172 [.ref 39, .int (nI (o + 64))] S) (SoQ S (o + 64) T (aft T w tn a) (1 - tn))) : ∀ (M2 M1 : List Nat) (b : Nat) (S : St) (x3 x4 x5 x6 : Int32), Itr T w tn b M1 M2 → actsL T w tn ≠ [] → Fr (SoP o) nol S0 S → StK S0 S → KnR S T → nxA S T M2 x6 → accR (M1.foldl (fun ch a => pick tn ch (ouB T w tn a)) none) x3 x4 x5 → ∀ z7 z8 : Value, WP (P172 (F (d + 7))) (3, [.ref 39, .int (nI o), .int (nI (nkey T w tn)), .int x3, .int x4, .int x5, .int x6, z7, z8], [], S) (fun v S' => (gZ S0 ≤ gZ S' ∧ gU S0 ≤ gU S') ∧ SoQ S0 o T w tn v S') := by
  have hT := hR0.1
  intro M2
  induction M2 with
  | nil =>
    intro M1 b S x3 x4 x5 x6 hi hne f hst hk hx hac z7 z8
    have hx : x6 = -1 := hx
    subst hx
    have e1 := hi.1
    rw [List.append_nil] at e1
    rw [← e1] at hac
    have hoe := out_eq (m := -1) (r := -1) hT hw ht
    rw [if_neg (nI_m1 (by omega))] at hoe
    cases hf : (actsL T w tn).foldl (fun ch a => pick tn ch (ouB T w tn a)) none with
    | none =>
      exfalso
      cases hL : actsL T w tn with
      | nil => exact hne hL
      | cons a L =>
        rw [hL] at hf
        have key : ∀ (L : List Nat) (v : Nat), L.foldl (fun ch a => pick tn ch (ouB T w tn a)) (some v) ≠ none := by
          intro L
          induction L with
          | nil => intro v z; cases z
          | cons c L ih =>
            intro v
            show L.foldl _ (pick tn (some v) (ouB T w tn c)) ≠ none
            show L.foldl _ (if scr v tn < scr (ouB T w tn c) tn then some (ouB T w tn c) else some v) ≠ none
            split
            · exact ih _
            · exact ih _
        exact key L _ hf
    | some e =>
      rw [hf] at hac hoe
      have hoe : out T (-1) (-1) w tn = e := hoe
      obtain ⟨r1, r2, r3⟩ := hac
      rw [r1, r2, ← hoe]
      exact f172_end hM0 hT hs hw ht f hst hk
  | cons a M ih =>
    intro M1 b S x3 x4 x5 x6 hi hne f hst hk hx hac z7 z8
    obtain ⟨rfl, hF⟩ := hx
    have hmem := (hi.head hT).1
    obtain ⟨a1, a2, a3⟩ := actsL_mem.mp hmem
    have hlt := hi.lt hT
    have hM := hM0.fr f
    have hR := hR0.so f
    have hC := hC0.so f
    have hrow := hrow0.so f
    have hfe := ouB_lt (T := T) (w := w) (a := a) ht
    have hok := hw.aft hT ht a2 a3
    refine w172_3 ?_
    refine W_f (nI_n0 (by omega)) ?_
    simp only [hM.k39, z0c, eq_self, if_true, Nat.reduceAdd, true_and]
    rw [k64, nI_add]
    refine W_Ve (f169 (d := d + 6) (o := o) (b := o + 64) hM (by omega) (by omega) (by omega)) ?_
    rintro S3 ⟨f3, hcp⟩
    have hM3 := hM.fr f3
    have f3' : Fr (SoP o) nol S S3 := f3.weak (fun a k z => Or.inl ⟨z.1, z.2.1⟩) (fun a k z => z)
    have f03 := f.tr f3'
    have hF3 : actF S3 a := by
      obtain ⟨q1, q2, q3⟩ := hF
      exact ⟨by rw [f3.1 _ _ (by show ¬ (_ ∧ _); omega)]; exact q1, by rw [f3.1 _ _ (by show ¬ (_ ∧ _); omega)]; exact q2, by rw [f3.1 _ _ (by show ¬ (_ ∧ _); omega)]; exact q3⟩
    have hk3 : KnR S3 T := fun w2 t2 h1 h2 => by
      rw [f3.1 _ _ (by show ¬ (_ ∧ _); omega), f3.1 _ _ (by show ¬ (_ ∧ _); omega)]
      exact hk w2 t2 h1 h2
    simp only [hM3.k39, z0c, eq_self, if_true, Nat.reduceAdd, true_and]
    rw [hF3.1, hF3.2.1, hF3.2.2]
    refine W_Ve (f154 (d := d) (o := o + 64) hM3 (hR0.so f03) (hC0.so f03) (hrow.cp hcp) (by omega) hw ht (by omega) hmem) ?_
    rintro S4 ⟨f4, hrow4, -⟩
    have hM4 := hM3.fr f4
    have f4' : Fr (SoP o) nol S3 S4 := f4.weak (fun a k z => by
      rcases z with z | z | z
      · exact Or.inl ⟨z.1, by omega⟩
      · exact Or.inr (Or.inl z)
      · exact Or.inr (Or.inr (Or.inl z))) (fun a k z => z)
    have f04 := f03.tr f4'
    have hk4 : KnR S4 T := fun w2 t2 h1 h2 => by
      rw [f4.1 _ _ (by show ¬ (_ ∨ _); omega), f4.1 _ _ (by show ¬ (_ ∨ _); omega)]
      exact hk3 w2 t2 h1 h2
    simp only [hM4.k39, z0c, eq_self, if_true, Nat.reduceAdd, true_and]
    refine W_Ie (hrec a hmem S4 hM4 (hR0.so f04) (hC0.so f04) hrow4 hk4) ?_
    rintro v S5 ⟨rfl, f5, hst5, hk5, p1, p2⟩
    have hM5 := hM4.fr f5
    have hst05 : StK S0 S5 := fun k hk' => hst5 k (by rw [f4.1 _ _ (by show ¬ (_ ∨ _); omega), f3.1 _ _ (by show ¬ (_ ∧ _); omega)]; exact hst k hk')
    have f5' : Fr (SoP o) nol S4 S5 := f5.weak (fun a k z => by
      rcases z with z | z | z | z | z
      · exact Or.inl ⟨z.1, by omega⟩
      · exact Or.inr (Or.inl z)
      · exact Or.inr (Or.inr (Or.inl z))
      · exact Or.inr (Or.inr (Or.inr (Or.inl z)))
      · exact Or.inr (Or.inr (Or.inr (Or.inr z)))) (fun a k z => z)
    have f05 := f04.tr f5'
    have hR5 := hR0.so f05
    have hrow5 := hrow0.so f05
    have hnl := nkey_lt hT hs hok (tn := 1 - tn) (by omega)
    have hob := out_le (T := T) (m := -1) (r := -1) (w := aft T w tn a) (tn := 1 - tn) (by omega)
    -- the next act
    have five : ∀ (x3 x4 x5 : Int32), accR ((M1 ++ [a]).foldl (fun ch a => pick tn ch (ouB T w tn a)) none) x3 x4 x5 → ∀ x7 x8 : Int32, WP (P172 (F (d + 7))) (5, [.ref 39, .int (nI o), .int (nI (nkey T w tn)), .int x3, .int x4, .int x5, .int (nI (refK T a)), .int x7, .int x8], [], S5) (fun v S' => (gZ S0 ≤ gZ S' ∧ gU S0 ≤ gU S') ∧ SoQ S0 o T w tn v S') := by
      intro x3 x4 x5 hacc x7 x8
      refine w172_5 ?_
      simp only [hM5.k39, z0c, eq_self, if_true, Nat.reduceAdd, true_and]
      refine W_Ie (f149n (d := d + 3) hM5 hR5 hrow5.1 (by omega) hw ht hi) ?_
      rintro x6 S6 ⟨f6, hx6⟩
      have f6' : Fr (SoP o) nol S5 S6 := f6.weak (fun a k z => Or.inr (Or.inr (Or.inl z))) (fun a k z => z)
      have hk6 : KnR S6 T := fun w2 t2 h1 h2 => by
        rw [f6.1 _ _ (by show ¬ (_ ∧ _); omega), f6.1 _ _ (by show ¬ (_ ∧ _); omega)]
        exact hk5 w2 t2 h1 h2
      show WP _ _ _
      exact ih (M1 ++ [a]) _ S6 _ _ _ x6 (hi.next hT) hne (f05.tr f6') (fun k hk' => by rw [f6.1 _ _ (by show ¬ (_ ∧ _); omega)]; exact hst05 k hk') hk6 hx6 hacc _ _
    have efold : (M1 ++ [a]).foldl (fun ch a => pick tn ch (ouB T w tn a)) none = pick tn (M1.foldl (fun ch a => pick tn ch (ouB T w tn a)) none) (ouB T w tn a) := by
      rw [List.foldl_append]; rfl
    have four : accR ((M1 ++ [a]).foldl (fun ch a => pick tn ch (ouB T w tn a)) none) (nI (1 + ouB T w tn a % 2)) (nI (ouB T w tn a / 2)) 1 → ∀ x7 : Int32, WP (P172 (F (d + 7))) (4, [.ref 39, .int (nI o), .int (nI (nkey T w tn)), .int x3, .int x4, .int x5, .int (nI (refK T a)), .int x7, .int (nI (nkey T (aft T w tn a) (1 - tn)))], [], S5) (fun v S' => (gZ S0 ≤ gZ S' ∧ gU S0 ≤ gU S') ∧ SoQ S0 o T w tn v S') := by
      intro hacc x7
      refine w172_4 ?_
      simp only [hM5.k39, hM5.r39_42, hM5.k65, hM5.n65, hM5.r39_43, hM5.k66, hM5.n66, z0c, eq_self, if_true, Nat.reduceAdd, true_and]
      refine W_t (inB_n (by omega) (by decide)) ?_
      refine W_t (inB_n (by omega) (by decide)) ?_
      rw [nI_clamp (by omega), p1, p2, nI_1]
      have q1 : out T (-1) (-1) (aft T w tn a) (1 - tn) % 2 = ouB T w tn a % 2 := by show _ = (_ + 2) % 2; omega
      have q2 : out T (-1) (-1) (aft T w tn a) (1 - tn) / 2 + 1 = ouB T w tn a / 2 := by show _ = (_ + 2) / 2; omega
      rw [q1, q2]
      exact five _ _ _ hacc _ _
    cases hc : M1.foldl (fun ch a => pick tn ch (ouB T w tn a)) none with
    | none =>
      rw [hc] at hac efold
      obtain ⟨rfl, rfl, rfl⟩ := hac
      refine W_t (rfl) ?_
      refine four ?_ _
      rw [efold]
      exact ⟨rfl, rfl, rfl⟩
    | some c =>
      rw [hc] at hac efold
      obtain ⟨rfl, rfl, rfl⟩ := hac
      have hcl : c < 200 := by
        have := pick_le (tn := tn) (B := 199) (f := ouB T w tn) (L := M1) (x := none) (fun a _ => by have := ouB_lt (T := T) (w := w) (a := a) ht; omega) (fun v hv => by cases hv) c hc
        omega
      refine W_f (by decide) ?_
      simp only [hM5.k39, hM5.r39_36, hM5.k63, hM5.n63, hM5.r39_42, hM5.k65, hM5.n65, hM5.r39_43, hM5.k66, hM5.n66, z0c, eq_self, if_true, Nat.reduceAdd, true_and]
      rw [k42, nI_add]
      refine W_t (inB_n (by omega) (by decide)) ?_
      refine W_t (inB_n (by omega) (by decide)) ?_
      refine W_t (inB_n (by omega) (by decide)) ?_
      rw [nI_clamp (n := o + 42) (by omega), hrow5.1.2.2.2, nI_clamp (by omega), p1, p2, nI_1]
      have q1 : out T (-1) (-1) (aft T w tn a) (1 - tn) % 2 = ouB T w tn a % 2 := by show _ = (_ + 2) % 2; omega
      have q2 : out T (-1) (-1) (aft T w tn a) (1 - tn) / 2 + 1 = ouB T w tn a / 2 := by show _ = (_ + 2) / 2; omega
      rw [q1, q2]
      refine W_I (f171 ht hcl hfe) ?_
      have epk : pick tn (some c) (ouB T w tn a) = if scr c tn < scr (ouB T w tn a) tn then some (ouB T w tn a) else some c := rfl
      refine W_if (fun z => ?_) (fun z => ?_)
      · rw [bi_0] at z
        refine five _ _ _ ?_ _ _
        rw [efold, epk, if_neg z]
        exact ⟨rfl, rfl, rfl⟩
      · rw [bi_0] at z
        refine four ?_ _
        rw [efold, epk, if_pos (Classical.not_not.mp z)]
        exact ⟨rfl, rfl, rfl⟩
set_option maxRecDepth 4096 in
/-- solves -/
theorem f172 (hs : small T) : ∀ (k d w tn day o : Nat) (S : St), ShM S → RT S T → RC S E → RoL S o T w tn day → KnR S T → okW T w → tn < 2 → tW T * tH T ≤ fil T w + k → o + 64 * (k + 2) ≤ 2560 → day + k < 900 → Sp (F (d + k + 8) 172 [.ref 39, .int (nI o)] S) (SoQ S o T w tn) := by
  intro k
  induction k with
  | zero =>
    intro d w tn day o S hM hR hC hrow hk hw ht hfil ho hday
    have hT := hR.1
    have hno : actsL T w tn = [] := by
      cases hL : actsL T w tn with
      | nil => rfl
      | cons a L =>
        exfalso
        obtain ⟨a1, a2, a3⟩ := actsL_mem.mp (show a ∈ actsL T w tn by rw [hL]; simp)
        have h1 := fil_aft hT hw ht a2 a3
        have h2 := fil_le hT (hw.aft hT ht a2 a3)
        omega
    have hlt := nkey_lt hT hs hw ht
    have hpl := payr_le (T := T) (w := w) ht
    refine fw172 (w172_0 ?_)
    simp only [hM.k39, z0c, eq_self, if_true, Nat.reduceAdd, true_and]
    refine W_I (f167 hM hR hrow.1 (by omega)) ?_
    simp only [hM.k39, hM.r39_42, hM.k65, hM.n65, hM.r39_36, hM.k63, hM.n63, z0c, eq_self, if_true, Nat.reduceAdd, true_and]
    refine W_t (inB_n (by omega) (by decide)) ?_
    rw [nI_clamp (by omega)]
    refine W_if (fun q => ?_) (fun q => ?_)
    · rcases hk w tn hw ht with z | z
      · rw [z] at q; exact absurd q (by decide)
      · exact ⟨nochg S, _, rfl, rfl, Fr.rf, fun _ h => h, hk, z.1, z.2⟩
    rw [k43, nI_add]
    refine W_t (inB_n (by omega) (by decide)) ?_
    rw [nI_clamp (by omega), hrow.2.1]
    refine W_si fun v e => ?_
    have ep : pys T w tn = 1 + payr T w tn := if_pos hno
    have eo : out T (-1) (-1) w tn = payr T w tn := by
      rw [out_eq hT hw ht, if_neg (nI_m1 (by omega)), hno]
      rfl
    refine W_t (by rw [e]; exact (pys_pos ht).mpr hno) ?_
    show WP _ _ _
    refine w172_1 ?_
    refine W_f (by decide) ?_
    show WP _ _ _
    refine w172_2 ?_
    show WP _ _ _
    have := f172_end (D := d + 0 + 7) (o := o) (x5 := 1) (z7 := .null) (z8 := .null) hM hT hs hw ht Fr.rf (fun _ h => h) hk
    rw [eo, show payr T w tn % 2 = payr T w tn by omega, show payr T w tn / 2 = 0 by omega, ← ep, ← e] at this
    exact this
  | succ k ih =>
    intro d w tn day o S hM hR hC hrow hk hw ht hfil ho hday
    have hT := hR.1
    have hlt := nkey_lt hT hs hw ht
    have hpl := payr_le (T := T) (w := w) ht
    refine fw172 (w172_0 ?_)
    simp only [hM.k39, z0c, eq_self, if_true, Nat.reduceAdd, true_and]
    refine W_I (f167 hM hR hrow.1 (by omega)) ?_
    simp only [hM.k39, hM.r39_42, hM.k65, hM.n65, hM.r39_36, hM.k63, hM.n63, z0c, eq_self, if_true, Nat.reduceAdd, true_and]
    refine W_t (inB_n (by omega) (by decide)) ?_
    rw [nI_clamp (by omega)]
    refine W_if (fun q => ?_) (fun q => ?_)
    · rcases hk w tn hw ht with z | z
      · rw [z] at q; exact absurd q (by decide)
      · exact ⟨nochg S, _, rfl, rfl, Fr.rf, fun _ h => h, hk, z.1, z.2⟩
    rw [k43, nI_add]
    refine W_t (inB_n (by omega) (by decide)) ?_
    rw [nI_clamp (by omega), hrow.2.1]
    refine W_si fun v e => ?_
    by_cases hno : actsL T w tn = []
    · have ep : pys T w tn = 1 + payr T w tn := if_pos hno
      have eo : out T (-1) (-1) w tn = payr T w tn := by
        rw [out_eq hT hw ht, if_neg (nI_m1 (by omega)), hno]
        rfl
      refine W_t (by rw [e]; exact (pys_pos ht).mpr hno) ?_
      show WP _ _ _
      refine w172_1 ?_
      refine W_f (by decide) ?_
      show WP _ _ _
      refine w172_2 ?_
      show WP _ _ _
      have := f172_end (D := d + (k + 1) + 7) (o := o) (x5 := 1) (z7 := .null) (z8 := .null) hM hT hs hw ht Fr.rf (fun _ h => h) hk
      rw [eo, show payr T w tn % 2 = payr T w tn by omega, show payr T w tn / 2 = 0 by omega, ← ep, ← e] at this
      exact this
    · have ep : pys T w tn = 0 := if_neg hno
      rw [ep] at e
      refine W_f (by rw [e]; decide) ?_
      show WP _ _ _
      refine w172_1 ?_
      refine W_t (rfl) ?_
      simp only [hM.k39, z0c, eq_self, if_true, Nat.reduceAdd, true_and]
      refine W_Ie (f149s (d := d + k + 4) hM hR hrow.1 (by omega) hw ht) ?_
      rintro x6 S1 ⟨f1, hx6⟩
      have f1' : Fr (SoP o) nol S S1 := f1.weak (fun a k z => Or.inr (Or.inr (Or.inl z))) (fun a k z => z)
      have hk1 : KnR S1 T := fun w2 t2 h1 h2 => by
        rw [f1.1 _ _ (by show ¬ (_ ∧ _); omega), f1.1 _ _ (by show ¬ (_ ∧ _); omega)]
        exact hk w2 t2 h1 h2
      show WP _ _ _
      refine w172_2 ?_
      show WP _ _ _
      refine f172_loop (d := d + k + 1) hM hR hC hrow (by omega) hs hw ht (by omega) (fun a ha S2 m1 m2 m3 m4 m5 => ?_) (actsL T w tn) [] 0 S1 v 0 0 x6 Itr.start hno f1' (fun k hk' => by rw [f1.1 _ _ (by show ¬ (_ ∧ _); omega)]; exact hk') hk1 hx6 ⟨e, rfl, rfl⟩ _ _
      obtain ⟨a1, a2, a3⟩ := actsL_mem.mp ha
      have h1 := fil_aft hT hw ht a2 a3
      exact ih d (aft T w tn a) (1 - tn) (day + 1) (o + 64) S2 m1 m2 m3 m4 m5 (hw.aft hT ht a2 a3) (by omega) (by omega) (by omega) (by omega)
end REF
