/-! the reference: the next act, all acts, looks -/
/-- an act's number as the reference has it -/
def refK (T : TD) (a : Nat) : Nat := if a / 64 = 6 then 50 * tN T + a / 4 % 16 else 50 * (a / 64) + 5 * (a / 4 % 16) + (a % 4 + 1)
def okK (T : TD) (w tn k : Nat) : Prop := (k < 50 * tN T ∧ told T (k / 50) (k / 5 % 10) (k % 5) ∧ stoneH T w (k / 50) (k / 5 % 10) (k % 5) = 0) ∨ (50 * tN T ≤ k ∧ k - 50 * tN T < tW T ∧ gateH T w tn (k - 50 * tN T) = 0)
theorem act_s {T : TD} {w tn a : Nat} (hT : okT T) (ha : a ∈ actsL T w tn) (h6 : ¬ a / 64 = 6) : a / 64 < tN T ∧ a / 4 % 16 < 10 ∧ a % 4 + 1 ≤ 4 ∧ told T (a / 64) (a / 4 % 16) (a % 4 + 1) ∧ stoneH T w (a / 64) (a / 4 % 16) (a % 4 + 1) = 0 := by
  obtain ⟨h1, h2, h3⟩ := actsL_mem.mp ha
  have hW := hT.1
  rcases h2 with h2 | h2
  · exact absurd h2.1 h6
  · unfold canA at h3
    rw [if_neg h6] at h3
    have := h2.1.2.1
    exact ⟨h2.1.1, by omega, by omega, h2.1, h3⟩
theorem act_g {T : TD} {w tn a : Nat} (hT : okT T) (ha : a ∈ actsL T w tn) (h6 : a / 64 = 6) : a / 4 % 16 < tW T ∧ a % 4 = 0 ∧ gateH T w tn (a / 4 % 16) = 0 := by
  obtain ⟨h1, h2, h3⟩ := actsL_mem.mp ha
  have hN := hT.2.2.2.1
  rcases h2 with h2 | h2
  · unfold canA at h3
    rw [if_pos h6] at h3
    exact ⟨h2.2.2.1, h2.2.1, h3⟩
  · have := h2.1.1
    omega
theorem refK_s {T : TD} {a : Nat} (h6 : ¬ a / 64 = 6) (hs : a / 64 < tN T) (hc : a / 4 % 16 < 10) : refK T a < 50 * tN T ∧ refK T a / 50 = a / 64 ∧ refK T a / 5 % 10 = a / 4 % 16 ∧ refK T a % 5 = a % 4 + 1 := by
  unfold refK
  rw [if_neg h6]
  generalize a / 64 = s at *
  generalize a / 4 % 16 = c at *
  have hb : a % 4 < 4 := Nat.mod_lt _ (by decide)
  generalize a % 4 = b at *
  refine ⟨by omega, by omega, by omega, by omega⟩
theorem okK_of {T : TD} {w tn a : Nat} (hT : okT T) (ha : a ∈ actsL T w tn) : okK T w tn (refK T a) ∧ refK T a < 50 * tN T + 10 := by
  have hW := hT.1
  by_cases h6 : a / 64 = 6
  · obtain ⟨h1, h2, h3⟩ := act_g hT ha h6
    have e : refK T a = 50 * tN T + a / 4 % 16 := if_pos h6
    have e2 : refK T a - 50 * tN T = a / 4 % 16 := by omega
    exact ⟨Or.inr ⟨by omega, by rw [e2]; exact h1, by rw [e2]; exact h3⟩, by omega⟩
  · obtain ⟨h1, h2, h3, h4, h5⟩ := act_s hT ha h6
    obtain ⟨e1, e2, e3, e4⟩ := refK_s (T := T) h6 h1 h2
    exact ⟨Or.inl ⟨e1, by rw [e2, e3, e4]; exact h4, by rw [e2, e3, e4]; exact h5⟩, by omega⟩
theorem okK_ex {T : TD} {w tn k : Nat} (hT : okT T) (hg : gbit w tn ≤ tG T) (h : okK T w tn k) : ∃ a, a ∈ actsL T w tn ∧ refK T a = k := by
  have hW := hT.1
  have hN := hT.2.2.2.1
  rcases h with ⟨h1, h2, h3⟩ | ⟨h1, h2, h3⟩
  · have hb := told_b hT h2
    refine ⟨acS (k / 50) (k / 5 % 10) (k % 5), sref_act hT h2 h3, ?_⟩
    obtain ⟨e1, e2, e3⟩ := acS_s (k / 50) (k / 5 % 10) (k % 5) hb.2.1 hb.2.2.1 hb.2.2.2.1
    unfold refK
    rw [if_neg (by omega), e1, e2, e3]
    omega
  · refine ⟨acG (k - 50 * tN T), gref_act hT hg h2 h3, ?_⟩
    obtain ⟨e1, e2⟩ := acG_s (k - 50 * tN T) (by omega)
    unfold refK
    rw [if_pos e1, e2]
    omega
theorem refK_lt {T : TD} {w tn a b : Nat} (hT : okT T) (ha : a ∈ actsL T w tn) (hb : b ∈ actsL T w tn) (h : a < b) : refK T a < refK T b := by
  have hN := hT.2.2.2.1
  by_cases ha6 : a / 64 = 6
  · obtain ⟨a1, a2, a3⟩ := act_g hT ha ha6
    have ea : refK T a = 50 * tN T + a / 4 % 16 := if_pos ha6
    by_cases hb6 : b / 64 = 6
    · obtain ⟨b1, b2, b3⟩ := act_g hT hb hb6
      have eb : refK T b = 50 * tN T + b / 4 % 16 := if_pos hb6
      omega
    · obtain ⟨b1, b2, b3, -⟩ := act_s hT hb hb6
      omega
  · obtain ⟨a1, a2, a3, -⟩ := act_s hT ha ha6
    have ea := refK_s (T := T) ha6 a1 a2
    by_cases hb6 : b / 64 = 6
    · have eb : refK T b = 50 * tN T + b / 4 % 16 := if_pos hb6
      omega
    · obtain ⟨b1, b2, b3, -⟩ := act_s hT hb hb6
      have eb : refK T b = 50 * (b / 64) + 5 * (b / 4 % 16) + (b % 4 + 1) := if_neg hb6
      have ea' : refK T a = 50 * (a / 64) + 5 * (a / 4 % 16) + (a % 4 + 1) := if_neg ha6
      clear ea
      have da : a = 64 * (a / 64) + 4 * (a / 4 % 16) + a % 4 := by omega
      have db : b = 64 * (b / 64) + 4 * (b / 4 % 16) + b % 4 := by omega
      have ma : a % 4 < 4 := Nat.mod_lt _ (by decide)
      have mb : b % 4 < 4 := Nat.mod_lt _ (by decide)
      rw [ea', eb]
      generalize a / 64 = a1 at *
      generalize b / 64 = b1 at *
      generalize a / 4 % 16 = a2 at *
      generalize b / 4 % 16 = b2 at *
      generalize a % 4 = a3 at *
      generalize b % 4 = b3 at *
      omega
theorem actsL_sorted (T : TD) (w tn : Nat) : (actsL T w tn).Pairwise (· < ·) := by
  unfold actsL candL
  exact List.Pairwise.filter _ (List.Pairwise.filter _ List.pairwise_lt_range)
/-- of the acts that can be done some are through, the next number to look at is b -/
def Itr (T : TD) (w tn b : Nat) (M1 M2 : List Nat) : Prop := actsL T w tn = M1 ++ M2 ∧ (∀ a, a ∈ M1 → refK T a < b) ∧ ∀ a, a ∈ M2 → b ≤ refK T a
theorem Itr.start {T : TD} {w tn : Nat} : Itr T w tn 0 [] (actsL T w tn) := ⟨rfl, fun a h => absurd h List.not_mem_nil, fun a _ => Nat.zero_le _⟩
theorem Itr.head {T : TD} {w tn b a : Nat} {M1 M : List Nat} (hT : okT T) (h : Itr T w tn b M1 (a :: M)) : a ∈ actsL T w tn ∧ ∀ x, x ∈ M → refK T a < refK T x := by
  have hs := actsL_sorted T w tn
  rw [h.1] at hs
  have h2 := (List.pairwise_append.mp hs).2.1
  have hm : a ∈ actsL T w tn := by rw [h.1]; simp
  refine ⟨hm, fun x hx => refK_lt hT hm (by rw [h.1]; simp [hx]) ((List.pairwise_cons.mp h2).1 x hx)⟩
theorem Itr.next {T : TD} {w tn b a : Nat} {M1 M : List Nat} (hT : okT T) (h : Itr T w tn b M1 (a :: M)) : Itr T w tn (refK T a + 1) (M1 ++ [a]) M := by
  obtain ⟨h1, h2⟩ := h.head hT
  refine ⟨by rw [h.1]; simp, fun x hx => ?_, fun x hx => h2 x hx⟩
  rcases List.mem_append.mp hx with z | z
  · have e1 := h.2.1 x z
    have e2 := h.2.2 a (by simp)
    omega
  · rw [List.mem_singleton.mp z]
    omega
theorem Itr.lt {T : TD} {w tn b a : Nat} {M1 M : List Nat} (hT : okT T) (h : Itr T w tn b M1 (a :: M)) : refK T a < 310 := by
  have := (okK_of hT (h.head hT).1).2
  have hN := hT.2.2.2.1
  omega
/-- the fields hold an act -/
def actF (S : St) (a : Nat) : Prop := gI S 39 39 = (if a / 64 = 6 then -2 else nI (a / 64)) ∧ gI S 39 40 = nI (a / 4 % 16) ∧ gI S 39 41 = (if a / 64 = 6 then 0 else nI (a % 4 + 1))
def nxA (S : St) (T : TD) (M : List Nat) (x : Int32) : Prop := match M with
  | [] => x = -1
  | a :: _ => x = nI (refK T a) ∧ actF S a
abbrev AcP : Nat → Nat → Prop := fun a k => a = 39 ∧ 39 ≤ k ∧ k ≤ 41
theorem RT.ac {S S' : St} {T : TD} (h : RT S T) (f : Fr AcP nol S S') : RT S' T := h.fr f (fun a k z => by have z : a = 39 ∧ _ := z; omega)
theorem RoW.ac {S S' : St} {o : Nat} {T : TD} {w tn : Nat} (h : RoW S o T w tn) (f : Fr AcP nol S S') : RoW S' o T w tn := h.fr f (fun k _ _ z => by have z : (63 : Nat) = 39 ∧ _ := z; omega)
theorem ShM.fr {S S' : St} {P PL : Nat → Nat → Prop} (h : ShM S) (f : Fr P PL S S') : ShM S' := h.of f.2.2
section REF
variable {S : St} {T : TD} {o w tn : Nat}
set_option maxRecDepth 4096 in
theorem f149_loop {d : Nat} {S0 : St} {x2 : Int32} (hM0 : ShM S0) (hR0 : RT S0 T) (hrow0 : RoW S0 o T w tn) (ho : o + 64 ≤ 2560) (hw : okW T w) (ht : tn < 2) : ∀ (n b : Nat) (M1 M2 : List Nat) (S : St), n = 50 * tN T + 10 - b → b ≤ 50 * tN T + 10 → Itr T w tn b M1 M2 → Fr AcP nol S0 S → WP (P149 (F (d + 3))) (1, [.ref 39, .int (nI o), .int x2, .int (nI (50 * tN T)), .int (nI b)], [], S) (fun v S' => ∃ x, v = some (.int x) ∧ Fr AcP nol S0 S' ∧ nxA S' T M2 x) := by
  have hT := hR0.1
  have hN := hT.2.2.2.1
  have hW := hT.1
  intro n
  induction n with
  | zero =>
    intro b M1 M2 S hn hb hi f
    refine w149_1 ?_
    rw [c10, nI_add]
    refine W_f (by rw [i_lt (by omega) (by omega)]; omega) ?_
    refine ⟨_, rfl, f, ?_⟩
    cases M2 with
    | nil => rfl
    | cons a M =>
      have h1 := (okK_of hT (hi.head hT).1).2
      have h2 := hi.2.2 a (by simp)
      omega
  | succ n ih =>
    intro b M1 M2 S hn hb hi f
    refine w149_1 ?_
    rw [c10, nI_add]
    refine W_t (by rw [i_lt (by omega) (by omega)]; omega) ?_
    have k5 : b / 5 % 10 < 10 := Nat.mod_lt _ (by decide)
    -- the three fields, then the question
    have four : ∀ (S3 : St) (y : Int32), Fr AcP nol S0 S3 → gI S3 39 39 = (if b < 50 * tN T then nI (b / 50) else -2) → gI S3 39 40 = (if b < 50 * tN T then nI (b / 5 % 10) else nI (b - 50 * tN T)) → y = (if b < 50 * tN T then nI (b % 5) else 0) → WP (P149 (F (d + 3))) (4, [.ref 39, .int (nI o), .int x2, .int (nI (50 * tN T)), .int (nI b)], [.int y, .ref 39], S3) (fun v S' => ∃ x, v = some (.int x) ∧ Fr AcP nol S0 S' ∧ nxA S' T M2 x) := by
      intro S3 y f3 h39 h40 hy
      refine w149_4 ?_
      refine W_t ((hM0.fr f3).k39) ?_
      refine W_s fun S4 e4 => ?_
      have f4 : Fr AcP nol S0 S4 := f3.tr (by rw [e4]; exact Fr.putI ⟨rfl, by omega, by omega⟩)
      have hM4 := hM0.fr f4
      have hR4 := hR0.ac f4
      have hrow4 := hrow0.ac f4
      have g39 : gI S4 39 39 = (if b < 50 * tN T then nI (b / 50) else -2) := by rw [e4, gI_pI, if_neg (by omega)]; exact h39
      have g40 : gI S4 39 40 = (if b < 50 * tN T then nI (b / 5 % 10) else nI (b - 50 * tN T)) := by rw [e4, gI_pI, if_neg (by omega)]; exact h40
      have g41 : gI S4 39 41 = (if b < 50 * tN T then nI (b % 5) else 0) := by rw [e4, gI_pI, if_pos ⟨rfl, rfl⟩]; exact hy
      have yes : okK T w tn b → ∃ x, some (Value.int (nI b)) = some (.int x) ∧ Fr AcP nol S0 S4 ∧ nxA S4 T M2 x := by
        intro hk
        obtain ⟨a, ha, hab⟩ := okK_ex hT (hw.g ht) hk
        have ha2 := ha
        rw [hi.1] at ha2
        rcases List.mem_append.mp ha2 with z | z
        · have := hi.2.1 a z; omega
        · cases M2 with
          | nil => cases z
          | cons a' M =>
            have hh := hi.head hT
            have haa : a = a' := by
              rcases List.mem_cons.mp z with z | z
              · exact z
              · have h1 := hh.2 a z
                have h2 := hi.2.2 a' (by simp)
                omega
            subst haa
            refine ⟨_, rfl, f4, by rw [hab], ?_⟩
            unfold actF
            rw [g39, g40, g41]
            by_cases h6 : a / 64 = 6
            · have e : refK T a = 50 * tN T + a / 4 % 16 := if_pos h6
              rw [if_pos h6, if_pos h6, if_neg (by omega), if_neg (by omega), if_neg (by omega)]
              exact ⟨rfl, congrArg nI (by omega), rfl⟩
            · obtain ⟨h1, h2, h3, -⟩ := act_s hT ha h6
              obtain ⟨e1, e2, e3, e4⟩ := refK_s (T := T) h6 h1 h2
              rw [hab] at e1 e2 e3 e4
              rw [if_neg h6, if_neg h6, if_pos e1, if_pos e1, if_pos e1, e2, e3, e4]
              exact ⟨rfl, rfl, rfl⟩
      have no : ¬ okK T w tn b → WP (P149 (F (d + 3))) (5, [.ref 39, .int (nI o), .int x2, .int (nI (50 * tN T)), .int (nI b)], [], S4) (fun v S' => ∃ x, v = some (.int x) ∧ Fr AcP nol S0 S' ∧ nxA S' T M2 x) := by
        intro hk
        refine w149_5 ?_
        show WP _ _ _
        rw [nI_1]
        refine ih (b + 1) M1 M2 S4 (by omega) (by omega) ⟨hi.1, fun a ha => by have := hi.2.1 a ha; omega, fun a ha => ?_⟩ f4
        have h1 := hi.2.2 a ha
        have h2 : refK T a ≠ b := fun e => hk (by rw [← e]; exact (okK_of hT (by rw [hi.1]; simp [ha])).1)
        omega
      refine W_if (fun q => ?_) (fun q => ?_)
      · rw [i_lt (by omega) (by omega)] at q
        simp only [hM4.k39, z0c, eq_self, if_true, Nat.reduceAdd, true_and]
        rw [g39, g40, g41, if_pos q, if_pos q, if_pos q]
        have h147 := f147 (d := d) (x2 := nI (b / 50)) (x3 := nI (b / 5 % 10)) (x4 := nI (b % 5)) (ov := False) hM4 hR4 hrow4 ho hw
        rw [show bi False = 0 from rfl] at h147
        refine W_I (h147) ?_
        have ew : whyS T w False (nI (b / 50)) (nI (b / 5 % 10)) (nI (b % 5)) = if told T (b / 50) (b / 5 % 10) (b % 5) then stoneH T w (b / 50) (b / 5 % 10) (b % 5) else 1 := by
          unfold whyS
          rw [nI_clamp (by omega), nI_clamp (by omega), nI_clamp (by omega)]
          by_cases htd : told T (b / 50) (b / 5 % 10) (b % 5)
          · rw [if_neg (fun z => z ⟨nI_n0 (by omega), nI_n0 (by omega), htd⟩), if_neg id, if_pos htd]
          · rw [if_pos (fun z => htd z.2.2), if_neg htd]
        rw [ew]
        have hle := stoneH_le T w (b / 50) (b / 5 % 10) (b % 5)
        by_cases htd : told T (b / 50) (b / 5 % 10) (b % 5)
        · rw [if_pos htd]
          refine W_if (fun z => ?_) (fun z => ?_)
          · have z := (i_eq (b := 0) (by omega) (by decide)).mp z
            exact yes (Or.inl ⟨q, htd, z⟩)
          · have z : ¬ stoneH T w (b / 50) (b / 5 % 10) (b % 5) = 0 := fun y => z (by rw [y]; rfl)
            refine no (fun y => ?_)
            rcases y with y | y
            · exact z y.2.2
            · omega
        · rw [if_neg htd]
          refine W_f (by decide +kernel) ?_
          refine no (fun y => ?_)
          rcases y with y | y
          · exact htd y.2.1
          · omega
      · rw [i_lt (by omega) (by omega)] at q
        simp only [hM4.k39, z0c, eq_self, if_true, Nat.reduceAdd, true_and]
        rw [g40, if_neg q]
        have h148 := f148 (d := d + 1) (x2 := nI (b - 50 * tN T)) (ov := False) hM4 hR4 hrow4 ho ht
        rw [show bi False = 0 from rfl] at h148
        refine W_I (h148) ?_
        have ew : whyG T w tn False (nI (b - 50 * tN T)) = if b - 50 * tN T < tW T then gateH T w tn (b - 50 * tN T) else 1 := by
          unfold whyG
          rw [nI_clamp (by omega)]
          by_cases hc : b - 50 * tN T < tW T
          · rw [if_neg, if_neg id, if_pos hc]
            rintro (z | z)
            · exact nI_n0 (by omega) z
            · omega
          · rw [if_pos (Or.inr (by omega)), if_neg hc]
        rw [ew]
        have hle := gateH_le T w tn (b - 50 * tN T)
        by_cases hc : b - 50 * tN T < tW T
        · rw [if_pos hc]
          refine W_if (fun z => ?_) (fun z => ?_)
          · have z := (i_eq (b := 0) (by omega) (by decide)).mp z
            exact yes (Or.inr ⟨by omega, hc, z⟩)
          · have z : ¬ gateH T w tn (b - 50 * tN T) = 0 := fun y => z (by rw [y]; rfl)
            refine no (fun y => ?_)
            rcases y with y | y
            · omega
            · exact z y.2.2
        · rw [if_neg hc]
          refine W_f (by decide +kernel) ?_
          refine no (fun y => ?_)
          rcases y with y | y
          · omega
          · exact hc y.2.1
    have three : ∀ (S2 : St) (y : Int32), Fr AcP nol S0 S2 → gI S2 39 39 = (if b < 50 * tN T then nI (b / 50) else -2) → y = (if b < 50 * tN T then nI (b / 5 % 10) else nI (b - 50 * tN T)) → WP (P149 (F (d + 3))) (3, [.ref 39, .int (nI o), .int x2, .int (nI (50 * tN T)), .int (nI b)], [.int y, .ref 39], S2) (fun v S' => ∃ x, v = some (.int x) ∧ Fr AcP nol S0 S' ∧ nxA S' T M2 x) := by
      intro S2 y f2 h39 hy
      refine w149_3 ?_
      refine W_t ((hM0.fr f2).k39) ?_
      refine W_s fun S3 e3 => ?_
      have f3 : Fr AcP nol S0 S3 := f2.tr (by rw [e3]; exact Fr.putI ⟨rfl, by omega, by omega⟩)
      have g39 : gI S3 39 39 = (if b < 50 * tN T then nI (b / 50) else -2) := by rw [e3, gI_pI, if_neg (by omega)]; exact h39
      have g40 : gI S3 39 40 = (if b < 50 * tN T then nI (b / 5 % 10) else nI (b - 50 * tN T)) := by rw [e3, gI_pI, if_pos ⟨rfl, rfl⟩]; exact hy
      refine W_if (fun q => ?_) (fun q => ?_)
      · rw [i_lt (by omega) (by omega)] at q
        refine W_f (by decide) ?_
        exact four S3 _ f3 g39 g40 (by rw [if_pos q, c5, pk_rem (by omega) (by decide) (by decide)])
      · rw [i_lt (by omega) (by omega)] at q
        exact four S3 _ f3 g39 g40 (by rw [if_neg q])
    have two : ∀ y : Int32, y = (if b < 50 * tN T then nI (b / 50) else -2) → WP (P149 (F (d + 3))) (2, [.ref 39, .int (nI o), .int x2, .int (nI (50 * tN T)), .int (nI b)], [.int y, .ref 39], S) (fun v S' => ∃ x, v = some (.int x) ∧ Fr AcP nol S0 S' ∧ nxA S' T M2 x) := by
      intro y hy
      refine w149_2 ?_
      refine W_t ((hM0.fr f).k39) ?_
      refine W_s fun S2 e2 => ?_
      have f2 : Fr AcP nol S0 S2 := f.tr (by rw [e2]; exact Fr.putI ⟨rfl, by omega, by omega⟩)
      have g39 : gI S2 39 39 = (if b < 50 * tN T then nI (b / 50) else -2) := by rw [e2, gI_pI, if_pos ⟨rfl, rfl⟩]; exact hy
      refine W_if (fun q => ?_) (fun q => ?_)
      · rw [i_lt (by omega) (by omega)] at q
        refine W_f (by decide) ?_
        refine W_f (by decide) ?_
        exact three S2 _ f2 g39 (by rw [if_pos q, c5, c10, pk_div (by omega) (by decide) (by decide), pk_rem (by omega) (by decide) (by decide)])
      · rw [i_lt (by omega) (by omega)] at q
        exact three S2 _ f2 g39 (by rw [if_neg q, pk_sub (by omega)])
    refine W_if (fun q => ?_) (fun q => ?_)
    · rw [i_lt (by omega) (by omega)] at q
      refine W_f (by decide +kernel) ?_
      exact two _ (by rw [if_pos q, k50, pk_div (by omega) (by decide) (by decide)])
    · rw [i_lt (by omega) (by omega)] at q
      exact two _ (by rw [if_neg q])
set_option maxRecDepth 4096 in
/-- nextAct -/
theorem f149 {d b : Nat} {x2 : Int32} {M1 M2 : List Nat} (hM : ShM S) (hR : RT S T) (hrow : RoW S o T w tn) (ho : o + 64 ≤ 2560) (hw : okW T w) (ht : tn < 2) (hx : x2 + 1 = nI b) (hb : b ≤ 50 * tN T + 10) (hi : Itr T w tn b M1 M2) : Sp (F (d + 4) 149 [.ref 39, .int (nI o), .int x2] S) (fun v S' => ∃ x, v = some (.int x) ∧ Fr AcP nol S S' ∧ nxA S' T M2 x) := by
  have hN := hR.1.2.2.2.1
  refine fw149 (w149_0 ?_)
  simp only [hM.k39, hM.r39_12, hM.k43, hM.n43, z0c, eq_self, if_true, Nat.reduceAdd, true_and]
  refine W_t (in0 (by decide) (by decide)) ?_
  rw [hR.2.2.2.1]
  refine W_si fun v e => ?_
  rw [k50, pk_mul] at e
  rw [e, hx]
  show WP _ _ _
  refine WP.mono (f149_loop (d := d) hM hR hrow ho hw ht _ b M1 M2 S rfl hb hi Fr.rf) ?_
  rintro v S' ⟨x, r1, r2, r3⟩
  exact ⟨r2.mono, x, r1, r2, r3⟩
set_option maxRecDepth 4096 in
theorem m1p1 : (-1 : Int32) + 1 = nI 0 := by decide +kernel
set_option maxRecDepth 4096 in
/-- from the first one on -/
theorem f149s {d : Nat} (hM : ShM S) (hR : RT S T) (hrow : RoW S o T w tn) (ho : o + 64 ≤ 2560) (hw : okW T w) (ht : tn < 2) : Sp (F (d + 4) 149 [.ref 39, .int (nI o), .int (-1)] S) (fun v S' => ∃ x, v = some (.int x) ∧ Fr AcP nol S S' ∧ nxA S' T (actsL T w tn) x) := f149 hM hR hrow ho hw ht m1p1 (by omega) Itr.start
set_option maxRecDepth 4096 in
/-- the one behind -/
theorem f149n {d b a : Nat} {M1 M : List Nat} (hM : ShM S) (hR : RT S T) (hrow : RoW S o T w tn) (ho : o + 64 ≤ 2560) (hw : okW T w) (ht : tn < 2) (hi : Itr T w tn b M1 (a :: M)) : Sp (F (d + 4) 149 [.ref 39, .int (nI o), .int (nI (refK T a))] S) (fun v S' => ∃ x, v = some (.int x) ∧ Fr AcP nol S S' ∧ nxA S' T M x) := f149 hM hR hrow ho hw ht (nI_1 _) (by have := (okK_of hR.1 (hi.head hR.1).1).2; omega) (hi.next hR.1)
theorem nxA.neg {M : List Nat} {x : Int32} (hT : okT T) {b : Nat} {M1 : List Nat} (hi : Itr T w tn b M1 M) (h : nxA S T M x) : x < 0 ↔ M = [] := by
  cases M with
  | nil =>
    have h : x = -1 := h
    rw [h]
    exact ⟨fun _ => rfl, fun _ => by decide⟩
  | cons a M =>
    have h : x = nI (refK T a) ∧ _ := h
    rw [h.1]
    have := hi.lt hT
    exact ⟨fun z => absurd z (nI_n0 (by omega)), fun z => by cases z⟩
set_option maxRecDepth 4096 in
/-- hasAct -/
theorem f150 {d : Nat} (hM : ShM S) (hR : RT S T) (hrow : RoW S o T w tn) (ho : o + 64 ≤ 2560) (hw : okW T w) (ht : tn < 2) : Sp (F (d + 5) 150 [.ref 39, .int (nI o)] S) (fun v S' => ∃ x, v = some (.int x) ∧ x = bi (actsL T w tn ≠ []) ∧ Fr AcP nol S S') := by
  refine fw150 (w150_0 ?_)
  simp only [hM.k39, z0c, eq_self, if_true, Nat.reduceAdd, true_and]
  refine W_Ie (f149s hM hR hrow ho hw ht) ?_
  rintro x S1 ⟨f1, h1⟩
  have hn := h1.neg hR.1 Itr.start
  refine W_if (fun q => ?_) (fun q => ?_)
  · exact W_b (Or.inl rfl) ⟨f1.mono, _, rfl, by rw [bi_f (fun z => z (hn.mp q))], f1⟩
  · exact W_b (Or.inr rfl) ⟨f1.mono, _, rfl, by rw [bi_t (p := actsL T w tn ≠ []) (fun z => q (hn.mpr z))], f1⟩
set_option maxRecDepth 4096 in
/-- acts -/
theorem f151 {d : Nat} (hM : ShM S) (hR : RT S T) (hrow : RoW S o T w tn) (ho : o + 64 ≤ 2560) (hw : okW T w) (ht : tn < 2) : Sp (F (d + 5) 151 [.ref 39, .int (nI o)] S) (fun v S' => ∃ x, v = some (.int x) ∧ x = nI (actsL T w tn).length ∧ Fr AcP nol S S') := by
  have hT := hR.1
  refine fw151 (w151_0 ?_)
  simp only [hM.k39, z0c, eq_self, if_true, Nat.reduceAdd, true_and]
  refine W_Ie (f149s hM hR hrow ho hw ht) ?_
  rintro x S1 ⟨f1, h1⟩
  have key : ∀ (M2 M1 : List Nat) (b : Nat) (x : Int32) (S1 : St), Itr T w tn b M1 M2 → Fr AcP nol S S1 → nxA S1 T M2 x → WP (P151 (F (d + 4))) (1, [.ref 39, .int (nI o), .int (nI M1.length), .int x], [], S1) (fun v S' => (gZ S ≤ gZ S' ∧ gU S ≤ gU S') ∧ ∃ x, v = some (.int x) ∧ x = nI (actsL T w tn).length ∧ Fr AcP nol S S') := by
    intro M2
    induction M2 with
    | nil =>
      intro M1 b x S1 hi f1 h1
      have h1 : x = -1 := h1
      subst h1
      refine w151_1 ?_
      refine W_t (by decide) ?_
      exact ⟨f1.mono, _, rfl, by rw [hi.1, List.append_nil], f1⟩
    | cons a M ih =>
      intro M1 b x S1 hi f1 h1
      obtain ⟨rfl, -⟩ := h1
      have := hi.lt hT
      refine w151_1 ?_
      refine W_f (nI_n0 (by omega)) ?_
      have hM1 := hM.fr f1
      simp only [hM1.k39, z0c, eq_self, if_true, Nat.reduceAdd, true_and]
      refine W_Ie (f149n hM1 (hR.ac f1) (hrow.ac f1) ho hw ht hi) ?_
      rintro x S2 ⟨f2, h2⟩
      show WP _ _ _
      rw [nI_1]
      have := ih (M1 ++ [a]) _ x S2 (hi.next hT) (f1.tr f2) h2
      rw [List.length_append] at this
      exact this
  exact key _ [] 0 x S1 Itr.start f1 h1
set_option maxRecDepth 4096 in
/-- finds -/
theorem f152 {d : Nat} {x2 : Int32} (hM : ShM S) (hR : RT S T) (hrow : RoW S o T w tn) (ho : o + 64 ≤ 2560) (hw : okW T w) (ht : tn < 2) : Sp (F (d + 5) 152 [.ref 39, .int (nI o), .int x2] S) (fun v S' => ∃ x, v = some (.int x) ∧ x = bi (¬ x2 < 0 ∧ x2.toNatClampNeg < (actsL T w tn).length) ∧ Fr AcP nol S S' ∧ ∀ a, ¬ x2 < 0 → (actsL T w tn)[x2.toNatClampNeg]? = some a → actF S' a) := by
  have hT := hR.1
  have hlen := acts_len hT w tn
  refine fw152 (w152_0 ?_)
  simp only [hM.k39, z0c, eq_self, if_true, Nat.reduceAdd, true_and]
  refine W_Ie (f149s hM hR hrow ho hw ht) ?_
  rintro x S1 ⟨f1, h1⟩
  have key : ∀ (M2 M1 : List Nat) (b : Nat) (x : Int32) (S1 : St), Itr T w tn b M1 M2 → Fr AcP nol S S1 → nxA S1 T M2 x → (¬ x2 < 0 → M1.length ≤ x2.toNatClampNeg) → (x2 < 0 → M1 = []) → WP (P152 (F (d + 4))) (1, [.ref 39, .int (nI o), .int x2, .int x, .int (nI M1.length)], [], S1) (fun v S' => (gZ S ≤ gZ S' ∧ gU S ≤ gU S') ∧ ∃ x, v = some (.int x) ∧ x = bi (¬ x2 < 0 ∧ x2.toNatClampNeg < (actsL T w tn).length) ∧ Fr AcP nol S S' ∧ ∀ a, ¬ x2 < 0 → (actsL T w tn)[x2.toNatClampNeg]? = some a → actF S' a) := by
    intro M2
    induction M2 with
    | nil =>
      intro M1 b x S1 hi f1 h1 hl hz
      have h1 : x = -1 := h1
      subst h1
      have fin : WP (P152 (F (d + 4))) (2, [.ref 39, .int (nI o), .int x2, .int (-1), .int (nI M1.length)], [], S1) (fun v S' => (gZ S ≤ gZ S' ∧ gU S ≤ gU S') ∧ ∃ x, v = some (.int x) ∧ x = bi (¬ x2 < 0 ∧ x2.toNatClampNeg < (actsL T w tn).length) ∧ Fr AcP nol S S' ∧ ∀ a, ¬ x2 < 0 → (actsL T w tn)[x2.toNatClampNeg]? = some a → actF S' a) := by
        have hle : ¬ x2 < 0 → (actsL T w tn).length ≤ x2.toNatClampNeg := fun z => by
          rw [hi.1, List.append_nil]
          exact hl z
        refine w152_2 ?_
        refine W_if (fun q => ?_) (fun q => ?_)
        · exact W_b (Or.inl rfl) ⟨f1.mono, _, rfl, by rw [bi_f (fun z => z.1 q)], f1, fun a z => absurd q z⟩
        · refine W_t (by decide) ?_
          refine W_b (Or.inl rfl) ⟨f1.mono, _, rfl, by rw [bi_f (fun z => by have := hle q; omega)], f1, fun a _ ha => ?_⟩
          rw [List.getElem?_eq_none (hle q)] at ha
          cases ha
      refine w152_1 ?_
      refine W_if (fun q => ?_) (fun q => ?_)
      · refine W_t (by decide) ?_
        exact fin
      · exact fin
    | cons a M ih =>
      intro M1 b x S1 hi f1 h1 hl hz
      obtain ⟨rfl, h2⟩ := h1
      have hlt := hi.lt hT
      have hM1 := hM.fr f1
      have hl1 : M1.length < (actsL T w tn).length := by rw [hi.1]; simp
      refine w152_1 ?_
      by_cases q : x2 < 0
      · have e := hz q
        subst e
        have hno : ¬ nI ([] : List Nat).length < x2 := by
          intro z
          have z1 := Int32.lt_iff_toInt_lt.mp z
          have z2 := Int32.lt_iff_toInt_lt.mp q
          have e0 : (0 : Int32).toInt = 0 := by decide
          have e1 : (nI ([] : List Nat).length).toInt = 0 := by decide
          omega
        refine W_f (hno) ?_
        show WP _ _ _
        refine w152_2 ?_
        refine W_t (q) ?_
        exact W_b (Or.inl rfl) ⟨f1.mono, _, rfl, by rw [bi_f (fun z => z.1 q)], f1, fun a z => absurd q z⟩
      · obtain ⟨i, hi2, e⟩ := nI_of q
        have hle := hl q
        rw [e, nI_clamp hi2] at hle
        rw [e]
        refine W_if (fun q2 => ?_) (fun q2 => ?_)
        · rw [i_lt (by omega) hi2] at q2
          refine W_f (nI_n0 (by omega)) ?_
          simp only [hM1.k39, z0c, eq_self, if_true, Nat.reduceAdd, true_and]
          refine W_Ie (f149n hM1 (hR.ac f1) (hrow.ac f1) ho hw ht hi) ?_
          rintro x S2 ⟨f2, h2⟩
          show WP _ _ _
          rw [nI_1]
          have := ih (M1 ++ [a]) _ x S2 (hi.next hT) (f1.tr f2) h2 (fun _ => by rw [e, nI_clamp hi2, List.length_append]; show M1.length + 1 ≤ i; omega) (fun z => absurd z q)
          rw [List.length_append, e] at this
          exact this
        · rw [i_lt (by omega) hi2] at q2
          have ei : i = M1.length := by omega
          show WP _ _ _
          refine w152_2 ?_
          refine W_f (nI_n0 hi2) ?_
          refine W_f (nI_n0 (by omega)) ?_
          refine W_b (Or.inr rfl) ⟨f1.mono, _, rfl, by rw [bi_t ⟨nI_n0 hi2, by rw [nI_clamp hi2]; omega⟩], f1, fun a' _ ha => ?_⟩
          rw [nI_clamp hi2, hi.1, ei, List.getElem?_append_right (by omega), Nat.sub_self] at ha
          have ha : a = a' := by simpa using ha
          rw [← ha]
          exact h2
  exact key _ [] 0 x S1 Itr.start f1 h1 (fun _ => Nat.zero_le _) (fun _ => rfl)
set_option maxRecDepth 4096 in
/-- isClosed -/
theorem f141 {d : Nat} (hM : ShM S) (hR : RT S T) (hrow : RoW S o T w tn) (ho : o + 64 ≤ 2560) : F (d + 1) 141 [.ref 39, .int (nI o)] S = some (some (.int (bi (closed T w))), S) := by
  have hT := hR.1
  have hW := hT.1
  have hH := hT.2.1
  refine fq141 (w141_0 ?_)
  have key : ∀ (m c : Nat), m = tW T - c → c ≤ tW T → (∀ j, j < c → gat w j = 0 → tH T ≤ hgt w j) → WP (P141 (F d)) (1, [.ref 39, .int (nI o), .int (nI c)], [], S) (fun r S' => r = some (.int (bi (closed T w))) ∧ S' = S) := by
    intro m
    induction m with
    | zero =>
      intro c hm hc hall
      have e : c = tW T := by omega
      subst e
      refine w141_1 ?_
      simp only [hM.k39, hM.r39_10, hM.k41, hM.n41, z0c, eq_self, if_true, Nat.reduceAdd, true_and]
      refine W_t (in0 (by decide) (by decide)) ?_
      rw [hR.2.1]
      refine W_f (by rw [i_lt (by omega) (by omega)]; omega) ?_
      exact W_b (Or.inr rfl) ⟨by rw [bi_t (fun j hj => hall j hj)], rfl⟩
    | succ m ih =>
      intro c hm hc hall
      have hh := hgt_le w c
      have next : (gat w c = 0 → tH T ≤ hgt w c) → WP (P141 (F d)) (2, [.ref 39, .int (nI o), .int (nI c)], [], S) (fun r S' => r = some (.int (bi (closed T w))) ∧ S' = S) := by
        intro hok
        refine w141_2 ?_
        show WP _ _ _
        rw [nI_1]
        refine ih (c + 1) (by omega) (by omega) (fun j hj hg => ?_)
        by_cases e : j = c
        · subst e; exact hok hg
        · exact hall j (by omega) hg
      refine w141_1 ?_
      simp only [hM.k39, hM.r39_10, hM.k41, hM.n41, hM.r39_36, hM.k63, hM.n63, hM.r39_11, hM.k42, hM.n42, z0c, eq_self, if_true, Nat.reduceAdd, true_and]
      refine W_t (in0 (by decide) (by decide)) ?_
      rw [hR.2.1]
      refine W_t (by rw [i_lt (by omega) (by omega)]; omega) ?_
      rw [c10, nI_add, nI_add, nI_add]
      refine W_t (inB_n (by omega) (by decide)) ?_
      rw [nI_clamp (by omega)]
      have hgz := hrow.gz (c := c) (by omega)
      refine W_if (fun q => ?_) (fun q => ?_)
      · have q := hgz.mp q
        refine W_t (inB_n (by omega) (by decide)) ?_
        refine W_t (in0 (by decide) (by decide)) ?_
        rw [nI_clamp (by omega), hrow.1 c (by omega), hR.2.2.1]
        refine W_if (fun q2 => ?_) (fun q2 => ?_)
        · rw [i_lt (by omega) (by omega)] at q2
          exact W_b (Or.inl rfl) ⟨by rw [bi_f (fun z => by have := z c (by omega) q; omega)], rfl⟩
        · rw [i_lt (by omega) (by omega)] at q2
          exact next (fun _ => by omega)
      · exact next (fun z => absurd (hgz.mpr z) q)
  exact key (tW T) 0 rfl (by omega) (fun j hj => by omega)
/-- 0: it goes on; else 1 and who pays -/
def pys (T : TD) (w tn : Nat) : Nat := if actsL T w tn = [] then 1 + payr T w tn else 0
abbrev LkP (o : Nat) : Nat → Nat → Prop := fun a k => (a = 63 ∧ (k = o + 43 ∨ k = o + 44)) ∨ AcP a k
set_option maxRecDepth 4096 in
/-- looks -/
theorem f142 {d day : Nat} (hM : ShM S) (hR : RT S T) (hrow : RoW S o T w tn) (ho : o + 64 ≤ 2560) (hw : okW T w) (ht : tn < 2) (hd : day < 2 ^ 31) (hd1 : gI S 63 (o + 45) = nI day) (hd2 : closed T w → 0 < day) : Sp (F (d + 6) 142 [.ref 39, .int (nI o)] S) (fun v S' => v = none ∧ Fr (LkP o) nol S S' ∧ gI S' 63 (o + 44) = bi (closed T w) ∧ gI S' 63 (o + 43) = nI (pys T w tn)) := by
  have hT := hR.1
  refine fw142 (w142_0 ?_)
  have fin : ∀ (S1 : St) (y : Int32) (x2 : Int32), Fr (LkP o) nol S S1 → gI S1 63 (o + 44) = bi (closed T w) → y = nI (pys T w tn) → WP (P142 (F (d + 5))) (4, [.ref 39, .int (nI o), .int x2], [.int y, .int (nI o + 43), .ref 63], S1) (fun v S' => (gZ S ≤ gZ S' ∧ gU S ≤ gU S') ∧ v = none ∧ Fr (LkP o) nol S S' ∧ gI S' 63 (o + 44) = bi (closed T w) ∧ gI S' 63 (o + 43) = nI (pys T w tn)) := by
    intro S1 y x2 f1 h44 hy
    have hM1 := hM.fr f1
    refine w142_4 ?_
    rw [k43, nI_add]
    refine W_t (⟨hM1.k63, by rw [hM1.n63]; exact inB_n (by omega) (by decide)⟩) ?_
    refine W_s fun S2 e2 => ?_
    rw [nI_clamp (by omega)] at e2
    have f2 : Fr (LkP o) nol S S2 := f1.tr (by rw [e2]; exact Fr.putI (Or.inl ⟨rfl, Or.inl rfl⟩))
    exact ⟨f2.mono, rfl, f2, by rw [e2, gI_pI, if_neg (by omega)]; exact h44, by rw [e2, gI_pI, if_pos ⟨rfl, rfl⟩, hy]⟩
  have three : ∀ y : Int32, y = bi (closed T w) → WP (P142 (F (d + 5))) (3, [.ref 39, .int (nI o), .int y], [.int y, .int (nI o + 44), .ref 63], S) (fun v S' => (gZ S ≤ gZ S' ∧ gU S ≤ gU S') ∧ v = none ∧ Fr (LkP o) nol S S' ∧ gI S' 63 (o + 44) = bi (closed T w) ∧ gI S' 63 (o + 43) = nI (pys T w tn)) := by
    intro y hy
    refine w142_3 ?_
    rw [k44, nI_add]
    refine W_t (⟨hM.k63, by rw [hM.n63]; exact inB_n (by omega) (by decide)⟩) ?_
    refine W_s fun S1 e1 => ?_
    rw [nI_clamp (by omega)] at e1
    have f1 : Fr (LkP o) nol S S1 := by rw [e1]; exact Fr.putI (Or.inl ⟨rfl, Or.inr rfl⟩)
    have hM1 := hM.fr f1
    have hR1 : RT S1 T := hR.fr f1 (fun a k z => by rcases z with z | z <;> omega)
    have hrow1 : RoW S1 o T w tn := hrow.fr f1 (fun k h1 h2 z => by rcases z with z | z <;> omega)
    have h44 : gI S1 63 (o + 44) = bi (closed T w) := by rw [e1, gI_pI, if_pos ⟨rfl, rfl⟩, hy]
    simp only [hM1.k39, hM1.r39_36, hM1.k63, hM1.n63, z0c, eq_self, if_true, Nat.reduceAdd, true_and]
    rw [hy]
    refine W_if (fun q => ?_) (fun q => ?_)
    · rw [bi_0] at q
      refine W_Ie (f150 hM1 hR1 hrow1 ho hw ht) ?_
      rintro v S2 ⟨rfl, f2⟩
      have f2' : Fr (LkP o) nol S1 S2 := f2.weak (fun a k z => Or.inr z) (fun a k z => z)
      have hM2 := hM1.fr f2
      have hrow2 := hrow1.ac f2
      have h44' : gI S2 63 (o + 44) = bi (closed T w) := by rw [f2.1 _ _ (by show ¬ ((63 : Nat) = 39 ∧ _); omega)]; exact h44
      refine W_if (fun q2 => ?_) (fun q2 => ?_)
      · rw [bi_0] at q2
        have q2 := Classical.not_not.mp q2
        simp only [hM2.k39, hM2.r39_36, hM2.k63, hM2.n63, z0c, eq_self, if_true, Nat.reduceAdd, true_and]
        rw [k42, nI_add]
        refine W_t (inB_n (by omega) (by decide)) ?_
        rw [nI_clamp (by omega), hrow2.2.2.2, c1, nI_add]
        refine fin S2 _ _ (f1.tr f2') h44' ?_
        unfold pys payr
        rw [if_pos q2, if_neg q]
      · rw [bi_0] at q2
        refine fin S2 _ _ (f1.tr f2') h44' ?_
        unfold pys
        rw [if_neg (fun z => q2 (fun y => y z))]
        rfl
    · rw [bi_0] at q
      have q := Classical.not_not.mp q
      rw [k42, nI_add]
      refine W_t (inB_n (by omega) (by decide)) ?_
      rw [nI_clamp (by omega), hrow1.2.2.2, c2, pk_sub (by omega)]
      refine fin S1 _ _ f1 h44 ?_
      unfold pys payr
      rw [if_pos (closed_no hT q), if_pos q]
      congr 1
      omega
  have two : ∀ (y : Int32) (z : Value), y = bi (closed T w) → WP (P142 (F (d + 5))) (2, [.ref 39, .int (nI o), z], [.int y], S) (fun v S' => (gZ S ≤ gZ S' ∧ gU S ≤ gU S') ∧ v = none ∧ Fr (LkP o) nol S S' ∧ gI S' 63 (o + 44) = bi (closed T w) ∧ gI S' 63 (o + 43) = nI (pys T w tn)) := by
    intro y z hy
    refine w142_2 ?_
    simp only [hM.k39, hM.r39_36, hM.k63, hM.n63, z0c, eq_self, if_true, Nat.reduceAdd, true_and]
    have h3 := three y hy
    refine W_if (fun q => ?_) (fun q => ?_)
    · rw [q] at h3 ⊢
      exact h3
    · have : y = 1 := by
        rw [hy] at q ⊢
        exact bi_01.resolve_left q
      rw [this] at h3 ⊢
      exact h3
  simp only [hM.k39, hM.r39_36, hM.k63, hM.n63, z0c, eq_self, if_true, Nat.reduceAdd, true_and]
  rw [k45, nI_add]
  refine W_t (inB_n (by omega) (by decide)) ?_
  rw [nI_clamp (by omega), hd1]
  refine W_if (fun q => ?_) (fun q => ?_)
  · refine W_I (f141 hM hR hrow ho) ?_
    refine W_if (fun q2 => ?_) (fun q2 => ?_)
    · refine w142_1 ?_
      exact two 0 _ q2.symm
    · exact two 1 _ (bi_01.resolve_left q2).symm
  · rw [c0, i_lt (by decide) hd] at q
    refine w142_1 ?_
    exact two 0 _ (by rw [bi_f (fun z => q (hd2 z))])
end REF
