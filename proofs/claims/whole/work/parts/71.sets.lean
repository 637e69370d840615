/-! the reference's sets: what a stone makes of a row -/
theorem aft_gate {T : TD} {w tn a : Nat} (hT : okT T) (hw : w < 2 ^ 42) (ht : tn < 2) (ha : a ∈ actsL T w tn) (h6 : a / 64 = 6) : ∀ c, c < 10 → hgt (aft T w tn a) c = hgt w c ∧ gat (aft T w tn a) c = if c = a / 4 % 16 then 1 + tn else gat w c := by
  obtain ⟨a1, a2, a3⟩ := actsL_mem.mp ha
  obtain ⟨g1, g2, g3⟩ := can_gate h6 a3
  intro c hc
  have hp := aft_plc hT hw ht a2 a3 c hc
  unfold newp at hp
  rw [if_pos h6] at hp
  by_cases e : c = a / 4 % 16
  · rw [if_pos e] at hp
    rw [if_pos e]
    have r1 : hgt (aft T w tn a) c = 0 := by unfold hgt; rw [hp, if_neg (by omega)]
    have r2 : gat (aft T w tn a) c = 1 + tn := by unfold gat; rw [hp, if_neg (by omega)]; omega
    exact ⟨by rw [r1, e, g3], r2⟩
  · rw [if_neg e] at hp
    rw [if_neg e]
    exact ⟨hgt_of hp, gat_of hp⟩
theorem aft_twin {T : TD} {w tn a : Nat} (hT : okT T) (hw : w < 2 ^ 42) (ht : tn < 2) (ha : a ∈ actsL T w tn) (h6 : ¬ a / 64 = 6) (h3 : tK T (a / 64) = 3) : ∀ c, c < 10 → hgt (aft T w tn a) c = (if c = a / 4 % 16 ∨ c = tW T - 1 - a / 4 % 16 then hgt w c + 1 else hgt w c) ∧ gat (aft T w tn a) c = gat w c := by
  obtain ⟨a1, a2, a3⟩ := actsL_mem.mp ha
  obtain ⟨g1, g2, g3, g4⟩ := can_twin h6 h3 a3
  have hH := hT.2.1
  intro c hc
  have hp := aft_plc hT hw ht a2 a3 c hc
  unfold newp at hp
  rw [if_neg h6, if_pos h3] at hp
  by_cases e : c = a / 4 % 16 ∨ c = tW T - 1 - a / 4 % 16
  · rw [if_pos e] at hp
    rw [if_pos e]
    have hlt : hgt w c < tH T := by
      rcases e with e | e
      · rw [e]; exact g3
      · rw [e]; exact g4
    have hg : gat w c = 0 := by
      rcases e with e | e
      · rw [e]; exact g1
      · rw [e]; exact g2
    exact ⟨hgt_v hp (by omega), by rw [hg, gat0, hp]; omega⟩
  · rw [if_neg e] at hp
    rw [if_neg e]
    exact ⟨hgt_of hp, gat_of hp⟩
theorem aft_stone {T : TD} {w tn a : Nat} (hT : okT T) (hw : w < 2 ^ 42) (ht : tn < 2) (ha : a ∈ actsL T w tn) (h6 : ¬ a / 64 = 6) (h3 : ¬ tK T (a / 64) = 3) : ∀ c, c < 10 → hgt (aft T w tn a) c = (if a / 4 % 16 ≤ c ∧ c < a / 4 % 16 + (a % 4 + 1) then hgt w (a / 4 % 16) + 1 else hgt w c) ∧ gat (aft T w tn a) c = gat w c := by
  obtain ⟨a1, a2, a3⟩ := actsL_mem.mp ha
  obtain ⟨g1, g2, g3, g4⟩ := can_stone h6 h3 a3
  have hH := hT.2.1
  intro c hc
  have hp := aft_plc hT hw ht a2 a3 c hc
  unfold newp at hp
  rw [if_neg h6, if_neg h3] at hp
  by_cases e : a / 4 % 16 ≤ c ∧ c < a / 4 % 16 + (a % 4 + 1)
  · rw [if_pos e] at hp
    rw [if_pos e]
    have hg := g2 (c - a / 4 % 16) (by omega)
    rw [show a / 4 % 16 + (c - a / 4 % 16) = c by omega] at hg
    exact ⟨hgt_v hp (by omega), by rw [hg, gat0, hp]; omega⟩
  · rw [if_neg e] at hp
    rw [if_neg e]
    exact ⟨hgt_of hp, gat_of hp⟩
/-- no column under a stone is higher than its first -/
theorem act_low {T : TD} {w tn a : Nat} (hT : okT T) (ha : a ∈ actsL T w tn) (h6 : ¬ a / 64 = 6) (h3 : ¬ tK T (a / 64) = 3) : ∀ j, j < a % 4 + 1 → hgt w (a / 4 % 16 + j) ≤ hgt w (a / 4 % 16) := by
  obtain ⟨a1, a2, a3⟩ := actsL_mem.mp ha
  obtain ⟨g1, g2, g3, g4⟩ := can_stone h6 h3 a3
  obtain ⟨b1, b2⟩ := cand_bw hT a2 h6
  exact st_le hT b1.1 b2 g2 g3
section REF
variable {S : St} {T : TD} {o w tn : Nat}
abbrev LpP (o : Nat) : Nat → Nat → Prop := fun a k => a = 63 ∧ ((o ≤ k ∧ k < o + 10) ∨ (o + 20 ≤ k ∧ k < o + 40))
/-- j columns of a stone are through -/
def setI (S S1 : St) (o w c j h ow : Nat) : Prop := Fr (LpP o) nol S S1 ∧ (∀ x, x < 10 → gI S1 63 (o + x) = if c ≤ x ∧ x < c + j then nI (h + 1) else gI S 63 (o + x)) ∧ (∀ x, x < 10 → gI S1 63 (o + 20 + x) = if c ≤ x ∧ x < c + j then gI S 63 (o + 20 + x) + (nI h - nI (hgt w x)) else gI S 63 (o + 20 + x)) ∧ ∀ x, x < 10 → gI S1 63 (o + 30 + x) = if c ≤ x ∧ x < c + j then nI (1 + ow) else gI S 63 (o + 30 + x)
set_option maxRecDepth 4096 in
theorem f153_loop {d s c b : Nat} {Q : Option Value → St → Prop} (hM : ShM S) (hrow : RoW S o T w tn) (ho : o + 64 ≤ 2560) (ht : tn < 2) (hk : tK T s ≤ 5) (hb : c + b ≤ 10) (hlow : ∀ j, j < b → hgt w (c + j) ≤ hgt w c) (next : ∀ (S1 : St) (x9 : Int32), setI S S1 o w c b (hgt w c) (ownr (tK T s) tn) → x9 = nI (c + b) → WP (P153 (F d)) (1, [.ref 39, .int (nI o), .int (nI s), .int (nI c), .int (nI b), .int (nI tn), .int (nI (tK T s)), .int (nI (hgt w c)), .int (nI (hols w c b)), .int x9], [], S1) Q) : ∀ (n j : Nat) (S1 : St), n = b - j → j ≤ b → setI S S1 o w c j (hgt w c) (ownr (tK T s) tn) → WP (P153 (F d)) (1, [.ref 39, .int (nI o), .int (nI s), .int (nI c), .int (nI b), .int (nI tn), .int (nI (tK T s)), .int (nI (hgt w c)), .int (nI (hols w c j)), .int (nI (c + j))], [], S1) Q := by
  intro n
  induction n with
  | zero =>
    intro j S1 hn hj h1
    have e : j = b := by omega
    subst e
    exact next S1 _ h1 rfl
  | succ n ih =>
    intro j S1 hn hj h1
    obtain ⟨f1, e1, e2, e3⟩ := h1
    have hM1 := hM.fr f1
    have hl := hlow j (by omega)
    have hh := hgt_le w c
    have hrd : gI S1 63 (o + (c + j)) = nI (hgt w (c + j)) := by
      rw [e1 (c + j) (by omega), if_neg (by omega)]
      exact hrow.1 (c + j) (by omega)
    have hrd2 : gI S1 63 (o + 20 + (c + j)) = gI S 63 (o + 20 + (c + j)) := by rw [e2 (c + j) (by omega), if_neg (by omega)]
    refine w153_1 ?_
    rw [nI_add]
    refine W_t (by rw [i_lt (by omega) (by omega)]; omega) ?_
    simp only [hM1.k39, hM1.r39_36, hM1.k63, hM1.n63, z0c, eq_self, if_true, Nat.reduceAdd, true_and]
    rw [nI_add, k20, nI_add, nI_add, k30, nI_add, nI_add]
    refine W_t (inB_n (by omega) (by decide)) ?_
    rw [nI_clamp (by omega), nI_clamp (by omega), hrd, hrd2]
    refine W_si fun v ev => ?_
    rw [pk_sub hl, nI_add] at ev
    refine W_t (inB_n (by omega) (by decide)) ?_
    refine W_t (inB_n (by omega) (by decide)) ?_
    refine W_t (inB_n (by omega) (by decide)) ?_
    refine W_s fun S2 g2 => ?_
    have f2 : Fr (LpP o) nol S1 S2 := by rw [g2]; exact Fr.putI ⟨rfl, by omega⟩
    have hM2 := hM1.fr f2
    simp only [hM2.k39, hM2.r39_36, hM2.k63, hM2.n63, z0c, eq_self, if_true, Nat.reduceAdd, true_and]
    refine W_t (inB_n (by omega) (by decide)) ?_
    refine W_s fun S3 g3 => ?_
    have f3 : Fr (LpP o) nol S2 S3 := by rw [g3]; exact Fr.putI ⟨rfl, by omega⟩
    have hM3 := hM2.fr f3
    simp only [hM3.k39, hM3.r39_36, hM3.k63, hM3.n63, z0c, eq_self, if_true, Nat.reduceAdd, true_and]
    have two : ∀ y : Int32, y = nI (1 + ownr (tK T s) tn) → WP (P153 (F d)) (2, [.ref 39, .int (nI o), .int (nI s), .int (nI c), .int (nI b), .int (nI tn), .int (nI (tK T s)), .int (nI (hgt w c)), .int v, .int (nI (c + j))], [.int y, .int (nI (o + 30 + (c + j))), .ref 63], S3) Q := by
      intro y hy
      refine w153_2 ?_
      rw [nI_clamp (by omega)]
      refine W_t (⟨hM3.k63, by rw [hM3.n63]; exact inB_n (by omega) (by decide)⟩) ?_
      refine W_s fun S4 g4 => ?_
      have f4 : Fr (LpP o) nol S3 S4 := by rw [g4]; exact Fr.putI ⟨rfl, by omega⟩
      show WP _ _ _
      rw [nI_1, ev]
      refine ih (j + 1) S4 (by omega) (by omega) ⟨((f1.tr f2).tr f3).tr f4, fun x hx => ?_, fun x hx => ?_, fun x hx => ?_⟩
      · rw [g4, gI_pI, if_neg (by omega), g3, gI_pI]
        by_cases e : x = c + j
        · rw [if_pos ⟨rfl, by omega⟩, if_pos (by omega), nI_1]
        · rw [if_neg (by omega), g2, gI_pI, if_neg (by omega), e1 x hx]
          by_cases z : c ≤ x ∧ x < c + j
          · rw [if_pos z, if_pos (by omega)]
          · rw [if_neg z, if_neg (by omega)]
      · rw [g4, gI_pI, if_neg (by omega), g3, gI_pI, if_neg (by omega), g2, gI_pI]
        by_cases e : x = c + j
        · rw [if_pos ⟨rfl, by omega⟩, if_pos (by omega), e]
        · rw [if_neg (by omega), e2 x hx]
          by_cases z : c ≤ x ∧ x < c + j
          · rw [if_pos z, if_pos (by omega)]
          · rw [if_neg z, if_neg (by omega)]
      · rw [g4, gI_pI]
        by_cases e : x = c + j
        · rw [if_pos ⟨rfl, by omega⟩, if_pos (by omega), hy]
        · rw [if_neg (by omega), g3, gI_pI, if_neg (by omega), g2, gI_pI, if_neg (by omega), e3 x hx]
          by_cases z : c ≤ x ∧ x < c + j
          · rw [if_pos z, if_pos (by omega)]
          · rw [if_neg z, if_neg (by omega)]
    refine W_if (fun q => ?_) (fun q => ?_)
    · have q : tK T s = 4 := (i_cst 4 (by omega) (by decide)).mp q
      refine two _ ?_
      rw [c2, pk_sub (by omega)]
      show _ = nI (1 + if tK T s = 4 then 1 - tn else tn)
      rw [if_pos q]
      congr 1
      omega
    · have q : ¬ tK T s = 4 := fun z => q (by rw [z]; rfl)
      refine two _ ?_
      rw [c1, nI_add]
      show _ = nI (1 + if tK T s = 4 then 1 - tn else tn)
      rw [if_neg q]
abbrev StP (o : Nat) : Nat → Nat → Prop := fun a k => (a = 63 ∧ ((o ≤ k ∧ k < o + 10) ∨ (o + 20 ≤ k ∧ k < o + 40) ∨ (o + 46 ≤ k ∧ k ≤ o + 48))) ∨ (53 ≤ a ∧ a ≤ 62)
/-- what a stone makes of the row -/
def setQ (S S' : St) (o : Nat) (T : TD) (E : Env → Int32) (w tn a : Nat) : Prop := Fr (StP o) nol S S' ∧ (∀ x, x < 10 → gI S' 63 (o + x) = nI (hgt (aft T w tn a) x)) ∧ (∀ x, x < 10 → gI S' 63 (o + 20 + x) = if a / 4 % 16 ≤ x ∧ x < a / 4 % 16 + (a % 4 + 1) then gI S 63 (o + 20 + x) + (nI (hgt w (a / 4 % 16)) - nI (hgt w x)) else gI S 63 (o + 20 + x)) ∧ (∀ x, x < 10 → gI S' 63 (o + 30 + x) = if (a / 4 % 16 ≤ x ∧ x < a / 4 % 16 + (a % 4 + 1)) ∨ (tK T (a / 64) = 3 ∧ x = tW T - 1 - a / 4 % 16) then nI (1 + ownr (tK T (a / 64)) tn) else gI S 63 (o + 30 + x)) ∧ gI S' 63 (o + 46) = gI S 63 (o + 46) + E (if tK T (a / 64) = 3 then 2 else nI (a % 4 + 1), nI (hgt w (a / 4 % 16)), nI (hols w (a / 4 % 16) (a % 4 + 1)), gI S 63 (o + 45)) ∧ ∀ t, t < 2 → gI S' 63 (o + 47 + t) = if t = ownr (tK T (a / 64)) tn then gI S 63 (o + 47 + t) + nI (hols w (a / 4 % 16) (a % 4 + 1)) else gI S 63 (o + 47 + t)
theorem RC.fr {S S' : St} {E : Env → Int32} {P PL : Nat → Nat → Prop} (h : RC S E) (f : Fr P PL S S') (hn : ∀ a k, P a k → ¬ (48 ≤ a ∧ a ≤ 50)) : RC S' E := by
  obtain ⟨cs, h1, h2, h3, h4, h5⟩ := h
  refine ⟨cs, h1, ?_, ?_, fun i c hc => ?_, h5⟩
  · rw [f.1 _ _ (fun z => hn _ _ z (by omega))]; exact h2
  · rw [f.1 _ _ (fun z => hn _ _ z (by omega))]; exact h3
  · rw [f.1 _ _ (fun z => hn _ _ z (by omega))]; exact h4 i c hc
set_option maxRecDepth 4096 in
theorem f153 {d a : Nat} {E : Env → Int32} (hM : ShM S) (hR : RT S T) (hC : RC S E) (hrow : RoW S o T w tn) (ho : o + 64 ≤ 2560) (hw : okW T w) (ht : tn < 2) (ha : a ∈ actsL T w tn) (h6 : ¬ a / 64 = 6) : Sp (F (d + 4) 153 [.ref 39, .int (nI o), .int (nI (a / 64)), .int (nI (a / 4 % 16)), .int (nI (a % 4 + 1))] S) (fun v S' => v = none ∧ setQ S S' o T E w tn a) := by
  have hT := hR.1
  have hW := hT.1
  have hN := hT.2.2.2.1
  obtain ⟨s1, s2, s3, s4, s5⟩ := act_s hT ha h6
  have hi := hT.2.2.2.2 (a / 64) s1
  have hc : a / 4 % 16 < tW T := s4.2.1
  have hb1 : tK T (a / 64) = 3 → a % 4 + 1 = 1 := fun h3 => by
    have := hi.2.2.2.2 (Or.inr h3)
    rcases s4.2.2 with z | z <;> omega
  have hcb : a / 4 % 16 + (a % 4 + 1) ≤ 10 := by
    by_cases h3 : tK T (a / 64) = 3
    · have := hb1 h3; omega
    · obtain ⟨a1, a2, a3⟩ := actsL_mem.mp ha
      have := (can_stone h6 h3 a3).1
      omega
  have hlow : ∀ j, j < a % 4 + 1 → hgt w (a / 4 % 16 + j) ≤ hgt w (a / 4 % 16) := by
    by_cases h3 : tK T (a / 64) = 3
    · intro j hj
      have := hb1 h3
      rw [show j = 0 by omega]
      exact Nat.le_refl _
    · exact act_low hT ha h6 h3
  have hot : ownr (tK T (a / 64)) tn < 2 := by
    by_cases h4 : tK T (a / 64) = 4
    · rw [show ownr (tK T (a / 64)) tn = 1 - tn from if_pos h4]; omega
    · rw [show ownr (tK T (a / 64)) tn = tn from if_neg h4]; exact ht
  refine fw153 (w153_0 ?_)
  simp only [hM.k39, hM.r39_36, hM.k63, hM.n63, hM.r39_14, hM.k45, hM.n45, z0c, eq_self, if_true, Nat.reduceAdd, true_and]
  rw [k42, nI_add, nI_add]
  refine W_t (inB_n (by omega) (by decide)) ?_
  rw [nI_clamp (by omega), hrow.2.2.2]
  refine W_si fun v1 e1 => ?_
  subst e1
  refine W_t (inB_n (by omega) (by decide)) ?_
  rw [nI_clamp (n := a / 64) (by omega), hR.2.2.2.2.2.1 _ s1]
  refine W_t (inB_n (by omega) (by decide)) ?_
  rw [nI_clamp (by omega), hrow.1 _ (by omega)]
  refine W_si fun v2 e2 => ?_
  subst e2
  show WP _ _ _
  have start := f153_loop (d := d + 3) (s := a / 64) (c := a / 4 % 16) (b := a % 4 + 1) (Q := fun v S' => (gZ S ≤ gZ S' ∧ gU S ≤ gU S') ∧ v = none ∧ setQ S S' o T E w tn a) hM hrow ho ht hi.1 hcb hlow
  refine start ?_ (a % 4 + 1) 0 S (by omega) (by omega) ⟨Fr.rf, fun x _ => by rw [if_neg (by omega)], fun x _ => by rw [if_neg (by omega)], fun x _ => by rw [if_neg (by omega)]⟩
  intro S1 x9 hI hx9
  obtain ⟨f1, i1, i2, i3⟩ := hI
  have hM1 := hM.fr f1
  have hR1 : RT S1 T := hR.fr f1 (fun a k z => by have z : a = 63 ∧ _ := z; omega)
  -- behind the twin's other column
  have three : ∀ S2 : St, Fr (LpP o) nol S S2 → (∀ x, x < 10 → gI S2 63 (o + x) = nI (hgt (aft T w tn a) x)) → (∀ x, x < 10 → gI S2 63 (o + 20 + x) = gI S1 63 (o + 20 + x)) → (∀ x, x < 10 → gI S2 63 (o + 30 + x) = if (a / 4 % 16 ≤ x ∧ x < a / 4 % 16 + (a % 4 + 1)) ∨ (tK T (a / 64) = 3 ∧ x = tW T - 1 - a / 4 % 16) then nI (1 + ownr (tK T (a / 64)) tn) else gI S 63 (o + 30 + x)) → ∀ x9 : Int32, WP (P153 (F (d + 3))) (3, [.ref 39, .int (nI o), .int (nI (a / 64)), .int (nI (a / 4 % 16)), .int (nI (a % 4 + 1)), .int (nI tn), .int (nI (tK T (a / 64))), .int (nI (hgt w (a / 4 % 16))), .int (nI (hols w (a / 4 % 16) (a % 4 + 1))), .int x9], [], S2) (fun v S' => (gZ S ≤ gZ S' ∧ gU S ≤ gU S') ∧ v = none ∧ setQ S S' o T E w tn a) := by
    intro S2 f2 j1 j2 j3 x9
    have hM2 := hM.fr f2
    -- with the town whose the holes are
    have four : ∀ y : Int32, y = nI (ownr (tK T (a / 64)) tn) → WP (P153 (F (d + 3))) (4, [.ref 39, .int (nI o), .int (nI (a / 64)), .int (nI (a / 4 % 16)), .int (nI (a % 4 + 1)), .int (nI tn), .int (nI (tK T (a / 64))), .int (nI (hgt w (a / 4 % 16))), .int (nI (hols w (a / 4 % 16) (a % 4 + 1))), .int x9], [.int y, .int (nI o + 47), .ref 63], S2) (fun v S' => (gZ S ≤ gZ S' ∧ gU S ≤ gU S') ∧ v = none ∧ setQ S S' o T E w tn a) := by
      intro y hy
      generalize how : ownr (tK T (a / 64)) tn = ow at *
      refine w153_4 ?_
      rw [hy, k47, nI_add, nI_add]
      refine W_t (⟨hM2.k63, by rw [hM2.n63]; exact inB_n (by omega) (by decide)⟩) ?_
      refine W_t (⟨hM2.k63, by rw [hM2.n63]; exact inB_n (by omega) (by decide)⟩) ?_
      rw [nI_clamp (by omega)]
      refine W_s fun S3 g3 => ?_
      have f3 : Fr (StP o) nol S2 S3 := by rw [g3]; exact Fr.putI (Or.inl ⟨rfl, by omega⟩)
      have f2' : Fr (StP o) nol S S2 := f2.weak (fun a k z => Or.inl ⟨z.1, by have := z.2; omega⟩) (fun a k z => z)
      have hM3 := hM2.fr f3
      have h45 : gI S3 63 (o + 45) = gI S 63 (o + 45) := by
        rw [g3, gI_pI, if_neg (by omega), f2.1 _ _ (by show ¬ (_ ∧ _); omega)]
      have h46 : gI S3 63 (o + 46) = gI S 63 (o + 46) := by
        rw [g3, gI_pI, if_neg (by omega), f2.1 _ _ (by show ¬ (_ ∧ _); omega)]
      simp only [hM3.k39, hM3.r39_34, hM3.k62, hM3.n62, z0c, eq_self, if_true, Nat.reduceAdd, true_and]
      -- the fine
      have five : ∀ y : Int32, y = (if tK T (a / 64) = 3 then 2 else nI (a % 4 + 1)) → WP (P153 (F (d + 3))) (5, [.ref 39, .int (nI o), .int (nI (a / 64)), .int (nI (a / 4 % 16)), .int (nI (a % 4 + 1)), .int (nI tn), .int (nI (tK T (a / 64))), .int (nI (hgt w (a / 4 % 16))), .int (nI (hols w (a / 4 % 16) (a % 4 + 1))), .int x9], [.int y, .int 1, .ref 62], S3) (fun v S' => (gZ S ≤ gZ S' ∧ gU S ≤ gU S') ∧ v = none ∧ setQ S S' o T E w tn a) := by
        intro y hy
        refine w153_5 ?_
        rw [show (1 : Int32).toNatClampNeg = 1 by decide +kernel, show (2 : Int32).toNatClampNeg = 2 by decide +kernel, show (3 : Int32).toNatClampNeg = 3 by decide +kernel, show (4 : Int32).toNatClampNeg = 4 by decide +kernel]
        refine W_t (⟨hM3.k62, by rw [hM3.n62]; exact inB_n (n := 1) (by omega) (by decide)⟩) ?_
        refine W_s fun T1 t1 => ?_
        refine W_t (by rw [t1]; exact hM3.k39) ?_
        have q1 : Fr (StP o) nol S3 T1 := by rw [t1]; exact Fr.putI (Or.inr (by omega))
        have hT1 := hM3.fr q1
        rw [hT1.r39_34]
        refine W_t (⟨hT1.k62, by rw [hT1.n62]; exact inB_n (n := 2) (by omega) (by decide)⟩) ?_
        refine W_s fun T2 t2 => ?_
        have q2 : Fr (StP o) nol T1 T2 := by rw [t2]; exact Fr.putI (Or.inr (by omega))
        have hT2 := hT1.fr q2
        simp only [hT2.k39, hT2.r39_34, hT2.k62, hT2.n62, z0c, eq_self, if_true, Nat.reduceAdd, true_and]
        refine W_t (inB_n (n := 3) (by omega) (by decide)) ?_
        refine W_s fun T3 t3 => ?_
        have q3 : Fr (StP o) nol T2 T3 := by rw [t3]; exact Fr.putI (Or.inr (by omega))
        have hT3 := hT2.fr q3
        simp only [hT3.k39, hT3.r39_34, hT3.k62, hT3.n62, hT3.r39_36, hT3.k63, hT3.n63, z0c, eq_self, if_true, Nat.reduceAdd, true_and]
        rw [k45, nI_add]
        refine W_t (inB_n (by omega) (by decide)) ?_
        refine W_t (inB_n (n := 4) (by omega) (by decide)) ?_
        rw [nI_clamp (n := o + 45) (by omega)]
        refine W_s fun T4 t4 => ?_
        have q4 : Fr (StP o) nol T3 T4 := by rw [t4]; exact Fr.putI (Or.inr (by omega))
        have hT4 := hT3.fr q4
        have qa := ((q1.tr q2).tr q3).tr q4
        have g63 : ∀ k, gI T4 63 k = gI S3 63 k := fun k => by rw [t4, gI_pI, if_neg (by omega), t3, gI_pI, if_neg (by omega), t2, gI_pI, if_neg (by omega), t1, gI_pI, if_neg (by omega)]
        have v1 : gI T4 62 1 = (if tK T (a / 64) = 3 then 2 else nI (a % 4 + 1)) := by rw [t4, gI_pI, if_neg (by omega), t3, gI_pI, if_neg (by omega), t2, gI_pI, if_neg (by omega), t1, gI_pI, if_pos ⟨rfl, rfl⟩, hy]
        have v2 : gI T4 62 2 = nI (hgt w (a / 4 % 16)) := by rw [t4, gI_pI, if_neg (by omega), t3, gI_pI, if_neg (by omega), t2, gI_pI, if_pos ⟨rfl, rfl⟩]
        have v3 : gI T4 62 3 = nI (hols w (a / 4 % 16) (a % 4 + 1)) := by rw [t4, gI_pI, if_neg (by omega), t3, gI_pI, if_pos ⟨rfl, rfl⟩]
        have v4 : gI T4 62 4 = gI S 63 (o + 45) := by rw [t4, gI_pI, if_pos ⟨rfl, rfl⟩, t3, gI_pI, if_neg (by omega), t2, gI_pI, if_neg (by omega), t1, gI_pI, if_neg (by omega), h45]
        have hC4 : RC T4 E := ((hC.fr f2' (fun a k z => by rcases z with z | z <;> omega)).fr f3 (fun a k z => by rcases z with z | z <;> omega)).fr qa (fun a k z => by rcases z with z | z <;> omega)
        simp only [hT4.k39, hT4.r39_36, hT4.k63, hT4.n63, hT4.r39_18, hT4.k49, hT4.n49, hT4.r39_17, hT4.k48, hT4.n48, hT4.r39_34, hT4.k62, hT4.n62, z0c, eq_self, if_true, Nat.reduceAdd, true_and]
        rw [k46, nI_add]
        refine W_t (inB_n (by omega) (by decide)) ?_
        refine W_t (in0 (by decide) (by decide)) ?_
        refine W_t (in0 (by decide) (by decide)) ?_
        rw [nI_clamp (n := o + 46) (by omega), g63, h46]
        obtain ⟨cs, c1', c2', c3', c4', c5', c6'⟩ := hC4
        rw [c2', c3']
        -- the end
        have six : ∀ (S5 : St) (y : Int32), Fr (StP o) nol T4 S5 → (∀ k, gI S5 63 k = gI T4 63 k) → y = E (gI T4 62 1, gI T4 62 2, gI T4 62 3, gI T4 62 4) → WP (P153 (F (d + 3))) (6, [.ref 39, .int (nI o), .int (nI (a / 64)), .int (nI (a / 4 % 16)), .int (nI (a % 4 + 1)), .int (nI tn), .int (nI (tK T (a / 64))), .int (nI (hgt w (a / 4 % 16))), .int (nI (hols w (a / 4 % 16) (a % 4 + 1))), .int x9], [.int y, .int (gI S 63 (o + 46)), .int (nI (o + 46)), .ref 63], S5) (fun v S' => (gZ S ≤ gZ S' ∧ gU S ≤ gU S') ∧ v = none ∧ setQ S S' o T E w tn a) := by
          intro S5 y f5 k5 hy5
          have hM5 := hT4.fr f5
          refine w153_6 ?_
          rw [nI_clamp (by omega)]
          refine W_t (⟨hM5.k63, by rw [hM5.n63]; exact inB_n (by omega) (by decide)⟩) ?_
          refine W_s fun S6 g6 => ?_
          have f6 : Fr (StP o) nol S5 S6 := by rw [g6]; exact Fr.putI (Or.inl ⟨rfl, by omega⟩)
          have fa := (((f2'.tr f3).tr qa).tr f5).tr f6
          have r63 : ∀ k, k ≠ o + 46 → k ≠ o + 47 + ow → gI S6 63 k = gI S2 63 k := fun k z1 z2 => by
            rw [g6, gI_pI, if_neg (fun z => z1 z.2), k5, g63, g3, gI_pI, if_neg (fun z => z2 (by have := z.2; omega))]
          refine ⟨fa.mono, rfl, fa, fun x hx => ?_, fun x hx => ?_, fun x hx => ?_, ?_, fun t ht' => ?_⟩
          · rw [r63 _ (by omega) (by omega)]; exact j1 x hx
          · rw [r63 _ (by omega) (by omega), j2 x hx, i2 x hx]
          · rw [r63 _ (by omega) (by omega), j3 x hx, how]
          · rw [g6, gI_pI, if_pos ⟨rfl, rfl⟩, hy5, v1, v2, v3, v4]
          · rw [how]
            by_cases e : t = ow
            · rw [if_pos e, g6, gI_pI, if_neg (by omega), k5, g63, g3, gI_pI, if_pos ⟨rfl, by omega⟩, e, f2.1 _ _ (by show ¬ (_ ∧ _); omega)]
            · rw [if_neg e, r63 _ (by omega) (by omega), f2.1 _ _ (by show ¬ (_ ∧ _); omega)]
        refine W_if (fun z => ?_) (fun z => ?_)
        · have hcs : cs = [] := (len_0 (by omega)).mp z
          refine W_t (inB_n (n := 1) (by omega) (by decide)) ?_
          exact six T4 _ Fr.rf (fun k => rfl) (by rw [c5' hcs])
        · have hcs : cs ≠ [] := fun y => z (by rw [y]; rfl)
          obtain ⟨qf, hq1, hq2⟩ := c6' hcs T4.1
          refine W_I (f127 hT4 c1' c2' c3' c4' hq1) ?_
          have hwo : ∀ a k, (a < 53 ∨ 61 < a) → (wTests qf.2 0) a k = T4.1 a k := fun a k h => by rw [wTests_o h, wRun_o hq1 h]; exact wOpens_o h
          refine six (wSt T4 (wTests qf.2 0)) _ ⟨fun a k hn => ?_, fun _ _ _ => rfl, rfl⟩ (fun k => hwo 63 k (by omega)) hq2
          exact hwo a k (by
            rcases Nat.lt_or_ge a 53 with z | z
            · exact Or.inl z
            · rcases Nat.lt_or_ge 61 a with y | y
              · exact Or.inr y
              · exact absurd (Or.inr (by omega)) hn)
      refine W_if (fun q => ?_) (fun q => ?_)
      · have q : tK T (a / 64) = 3 := (i_cst 3 (by omega) (by decide)).mp q
        exact five 2 (by rw [if_pos q])
      · exact five _ (by rw [if_neg (fun z => q (by rw [z]; rfl))])
    refine w153_3 ?_
    simp only [hM2.k39, hM2.r39_36, hM2.k63, hM2.n63, z0c, eq_self, if_true, Nat.reduceAdd, true_and]
    refine W_if (fun q => ?_) (fun q => ?_)
    · have q : tK T (a / 64) = 4 := (i_cst 4 (by omega) (by decide)).mp q
      refine four _ ?_
      rw [i_1m ht]
      show _ = nI (if tK T (a / 64) = 4 then 1 - tn else tn)
      rw [if_pos q]
    · have q : ¬ tK T (a / 64) = 4 := fun z => q (by rw [z]; rfl)
      refine four _ ?_
      show _ = nI (if tK T (a / 64) = 4 then 1 - tn else tn)
      rw [if_neg q]
  refine w153_1 ?_
  rw [hx9, nI_add]
  refine W_f (by rw [i_lt (by omega) (by omega)]; omega) ?_
  refine W_if (fun q => ?_) (fun q => ?_)
  · have q : tK T (a / 64) = 3 := (i_cst 3 (by omega) (by decide)).mp q
    have hb := hb1 q
    have hat := aft_twin hT hw.1 ht ha h6 q
    have hne : ¬ a / 4 % 16 = tW T - 1 - a / 4 % 16 := by
      rcases s4.2.2 with z | z
      · omega
      · exact fun y => z.2.2 ⟨q, y⟩
    simp only [hM1.k39, hM1.r39_36, hM1.k63, hM1.n63, z0c, eq_self, if_true, Nat.reduceAdd, true_and]
    refine W_I (f144 hM1 hR1 hc) ?_
    rw [nI_add]
    refine W_t (⟨hM1.k63, by rw [hM1.n63]; exact inB_n (by omega) (by decide)⟩) ?_
    refine W_t (⟨hM1.k63, by rw [hM1.n63]; exact inB_n (by omega) (by decide)⟩) ?_
    rw [nI_clamp (by omega)]
    refine W_s fun S2 g2 => ?_
    have f2 : Fr (LpP o) nol S1 S2 := by rw [g2]; exact Fr.putI ⟨rfl, by omega⟩
    have hM2 := hM1.fr f2
    simp only [hM2.k39, hM2.r39_36, hM2.k63, hM2.n63, z0c, eq_self, if_true, Nat.reduceAdd, true_and]
    refine W_I (f144 hM2 (hR1.fr f2 (fun a k z => by have z : a = 63 ∧ _ := z; omega)) hc) ?_
    rw [k30, nI_add, nI_add]
    refine W_t (⟨hM2.k63, by rw [hM2.n63]; exact inB_n (by omega) (by decide)⟩) ?_
    rw [nI_clamp (by omega)]
    refine W_s fun S3 g3 => ?_
    have f3 : Fr (LpP o) nol S2 S3 := by rw [g3]; exact Fr.putI ⟨rfl, by omega⟩
    show WP _ _ _
    refine three S3 ((f1.tr f2).tr f3) (fun x hx => ?_) (fun x hx => ?_) (fun x hx => ?_) _
    · rw [(hat x hx).1, g3, gI_pI, if_neg (by omega), g2, gI_pI]
      by_cases e : x = tW T - 1 - a / 4 % 16
      · rw [if_pos ⟨rfl, by omega⟩, if_pos (Or.inr e), ← e, i1 x hx, if_neg (by omega), hrow.1 x hx, nI_1]
      · rw [if_neg (by omega), i1 x hx]
        by_cases e2 : x = a / 4 % 16
        · rw [if_pos (by omega), if_pos (Or.inl e2), e2]
        · rw [if_neg (by omega), if_neg (by omega), hrow.1 x hx]
    · rw [g3, gI_pI, if_neg (by omega), g2, gI_pI, if_neg (by omega)]
    · rw [g3, gI_pI]
      have eo : ownr (tK T (a / 64)) tn = tn := if_neg (by omega)
      by_cases e : x = tW T - 1 - a / 4 % 16
      · rw [if_pos ⟨rfl, by omega⟩, if_pos (Or.inr ⟨q, e⟩), eo, c1, nI_add]
      · rw [if_neg (by omega), g2, gI_pI, if_neg (by omega), i3 x hx]
        by_cases e2 : a / 4 % 16 ≤ x ∧ x < a / 4 % 16 + (a % 4 + 1)
        · rw [if_pos e2, if_pos (Or.inl e2)]
        · rw [if_neg e2, if_neg (by omega)]
  · have q : ¬ tK T (a / 64) = 3 := fun z => q (by rw [z]; rfl)
    have hat := aft_stone hT hw.1 ht ha h6 q
    show WP _ _ _
    refine three S1 f1 (fun x hx => ?_) (fun x hx => rfl) (fun x hx => ?_) _
    · rw [(hat x hx).1, i1 x hx]
      by_cases e : a / 4 % 16 ≤ x ∧ x < a / 4 % 16 + (a % 4 + 1)
      · rw [if_pos e, if_pos e]
      · rw [if_neg e, if_neg e, hrow.1 x hx]
    · rw [i3 x hx]
      by_cases e : a / 4 % 16 ≤ x ∧ x < a / 4 % 16 + (a % 4 + 1)
      · rw [if_pos e, if_pos (Or.inl e)]
      · rw [if_neg e, if_neg]
        rintro (z | z)
        · exact e z
        · exact q z.1
end REF
