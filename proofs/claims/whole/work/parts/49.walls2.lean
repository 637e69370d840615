/-! walls alike; a wall and its number -/
theorem newp_like {T : TD} {w w' tn a : Nat} (hT : okT T) (hl : like T w w') (ha : cand T a) (c : Nat) (hc : c < tW T) : (newp T w tn a c = plc w c ∧ newp T w' tn a c = plc w' c) ∨ newp T w tn a c = newp T w' tn a c := by
  have hcol := cand_col ha
  unfold newp
  by_cases h6 : a / 64 = 6
  · rw [if_pos h6, if_pos h6]
    by_cases e : c = a / 4 % 16
    · rw [if_pos e, if_pos e]; exact Or.inr rfl
    · rw [if_neg e, if_neg e]; exact Or.inl ⟨rfl, rfl⟩
  · rw [if_neg h6, if_neg h6]
    by_cases h3 : tK T (a / 64) = 3
    · rw [if_pos h3, if_pos h3]
      by_cases e : c = a / 4 % 16 ∨ c = tW T - 1 - a / 4 % 16
      · rw [if_pos e, if_pos e, (hl.1 c hc).1]; exact Or.inr rfl
      · rw [if_neg e, if_neg e]; exact Or.inl ⟨rfl, rfl⟩
    · rw [if_neg h3, if_neg h3]
      by_cases e : a / 4 % 16 ≤ c ∧ c < a / 4 % 16 + (a % 4 + 1)
      · rw [if_pos e, if_pos e, (hl.1 _ hcol).1]; exact Or.inr rfl
      · rw [if_neg e, if_neg e]; exact Or.inl ⟨rfl, rfl⟩
theorem like.aft {T : TD} {w w' tn a : Nat} (hT : okT T) (hw : w < 2 ^ 42) (hw' : w' < 2 ^ 42) (hl : like T w w') (ht : tn < 2) (ha : cand T a) (hc : canA T w tn a) : like T (aft T w tn a) (aft T w' tn a) := by
  have hc' := hl.can hT ht ha hc
  have hp := aft_plc hT hw ht ha hc
  have hp' := aft_plc hT hw' ht ha hc'
  have hW := hT.1
  refine ⟨fun c h => ?_, fun t h => ?_⟩
  · rcases newp_like hT hl ha c h (tn := tn) with z | z
    · have e1 : plc (Jvm.Pilot.CTruceWallLaw_law_r1614_95ca75.aft T w tn a) c = plc w c := by rw [hp c (by omega), z.1]
      have e2 : plc (Jvm.Pilot.CTruceWallLaw_law_r1614_95ca75.aft T w' tn a) c = plc w' c := by rw [hp' c (by omega), z.2]
      rw [hgt_of e1, hgt_of e2, gat_of e1, gat_of e2]
      exact hl.1 c h
    · have e1 : plc (Jvm.Pilot.CTruceWallLaw_law_r1614_95ca75.aft T w tn a) c = plc (Jvm.Pilot.CTruceWallLaw_law_r1614_95ca75.aft T w' tn a) c := by rw [hp c (by omega), hp' c (by omega), z]
      rw [hgt_of e1, gat_of e1]
      exact ⟨rfl, Iff.rfl⟩
  · rw [aft_gbit hT hw ht ha hc, aft_gbit hT hw' ht ha hc', hl.2 t h]
theorem actsL_like {T : TD} {w w' tn : Nat} (hT : okT T) (hl : like T w w') (ht : tn < 2) : actsL T w tn = actsL T w' tn := by
  unfold actsL
  apply List.filter_congr
  intro a ha
  have hc := (candL_mem.mp ha).2
  by_cases h : canA T w tn a
  · rw [decide_eq_true h, decide_eq_true (hl.can hT ht hc h)]
  · rw [decide_eq_false h, decide_eq_false (fun z => h (hl.symm.can hT ht hc z))]
theorem closed_like {T : TD} {w w' : Nat} (hl : like T w w') (h : closed T w) : closed T w' := fun c hc hg => by
  have q := hl.1 c hc
  rw [← q.1]
  exact h c hc (q.2.mpr hg)
theorem payr_like {T : TD} {w w' tn : Nat} (hl : like T w w') : payr T w tn = payr T w' tn := by
  unfold payr
  by_cases h : closed T w
  · rw [if_pos h, if_pos (closed_like hl h)]
  · rw [if_neg h, if_neg (fun z => h (closed_like hl.symm z))]
theorem actsL_mem {T : TD} {w tn a : Nat} : a ∈ actsL T w tn ↔ a < 448 ∧ cand T a ∧ canA T w tn a := by
  unfold actsL
  rw [List.mem_filter, candL_mem, decide_eq_true_iff, and_assoc]
/-- a closed wall leaves no act -/
theorem closed_no {T : TD} {w tn : Nat} (hT : okT T) (h : closed T w) : actsL T w tn = [] := by
  apply List.eq_nil_iff_forall_not_mem.mpr
  intro a ha
  obtain ⟨-, h1, h2⟩ := actsL_mem.mp ha
  have hcol := cand_col h1
  have hH := hT.2.1
  by_cases h6 : a / 64 = 6
  · obtain ⟨g1, g2, g3⟩ := can_gate h6 h2
    have := h _ hcol g2
    omega
  · by_cases h3 : tK T (a / 64) = 3
    · obtain ⟨g1, g2, g3, g4⟩ := can_twin h6 h3 h2
      have := h _ hcol g1
      omega
    · obtain ⟨g1, g2, g3, g4⟩ := can_stone h6 h3 h2
      have := h _ hcol (by simpa using g2 0 (by omega))
      omega
theorem w_ext {w w' : Nat} (hw : w < 2 ^ 42) (hw' : w' < 2 ^ 42) (hp : ∀ c, c < 10 → plc w c = plc w' c) (hg : ∀ t, t < 2 → gbit w t = gbit w' t) : w = w' := by
  apply Nat.eq_of_testBit_eq
  intro i
  by_cases h1 : i < 40
  · have := congrArg (fun n => Nat.testBit n (i % 4)) (hp (i / 4) (by omega))
    simp only [plc_bit] at this
    rw [show 4 * (i / 4) + i % 4 = i by omega] at this
    simpa [show i % 4 < 4 by omega] using this
  · by_cases h2 : i < 42
    · have := hg (i - 40) (by omega)
      rw [gbit_bit, gbit_bit, show 40 + (i - 40) = i by omega] at this
      cases h3 : w.testBit i <;> cases h4 : w'.testBit i <;> rw [h3, h4] at this <;> first | rfl | (exfalso; revert this; decide)
    · rw [Nat.testBit_lt_two_pow (Nat.lt_of_lt_of_le hw (Nat.pow_le_pow_right (by decide) (by omega))), Nat.testBit_lt_two_pow (Nat.lt_of_lt_of_le hw' (Nat.pow_le_pow_right (by decide) (by omega)))]
theorem dig_lt {T : TD} {w c : Nat} (hT : okT T) (hw : okW T w) (hc : c < 10) : dig T w c < tH T + 3 := by
  have h1 := hw.hgt_le hc hT.2.1.2
  have h2 := hw.gat_le hc hT.2.1.2
  unfold dig
  split <;> omega
theorem digl_le {T : TD} {w c : Nat} : digl T w c ≤ dig T w c := by
  unfold dig digl
  split <;> omega
theorem plc_dig {T : TD} {w c : Nat} (hT : okT T) (hw : okW T w) (hc : c < 10) : plc w c = if tH T < dig T w c then 8 + (dig T w c - tH T - 1) else dig T w c := by
  have h1 := hw.hgt_le hc hT.2.1.2
  have h3 := plc_lt w c
  unfold dig
  by_cases g : gat w c = 0
  · rw [if_pos g, if_neg (by omega), plc_hgt g]
  · rw [if_neg g, if_pos (by omega)]
    have h4 : ¬ plc w c < 8 := fun z => g (gat0.mpr z)
    unfold gat
    rw [if_neg h4]
    omega
theorem num_lt {T : TD} {w : Nat} (hT : okT T) (hw : okW T w) : num T w < (tH T + 3) ^ tW T := by
  have := hT.1
  exact numG_lt (fun j h1 h2 => dig_lt hT hw (by omega))
theorem num_dig {T : TD} {w c : Nat} (hT : okT T) (hw : okW T w) (hc : c < tW T) : num T w / (tH T + 3) ^ c % (tH T + 3) = dig T w c := by
  have := hT.1
  unfold num
  rw [numG_at hc (fun j h1 h2 => dig_lt hT hw (by omega)), Nat.zero_add]
theorem okW.ext {T : TD} {w w' : Nat} (hT : okT T) (hw : okW T w) (hw' : okW T w') (h : ∀ c, c < tW T → plc w c = plc w' c) : w = w' := by
  have hW := hT.1
  refine w_ext hw.1 hw'.1 (fun c hc => ?_) (fun t ht => ?_)
  · by_cases e : c < tW T
    · exact h c e
    · rw [hw.2.2.2.1 c (by omega) hc, hw'.2.2.2.1 c (by omega) hc]
  · have h1 := hw.2.2.2.2 t ht
    have h2 := hw'.2.2.2.2 t ht
    have e : (∃ c, c < tW T ∧ plc w c = 8 + t) ↔ ∃ c, c < tW T ∧ plc w' c = 8 + t := by
      constructor
      · rintro ⟨c, a, b⟩; exact ⟨c, a, by rw [← h c a]; exact b⟩
      · rintro ⟨c, a, b⟩; exact ⟨c, a, by rw [h c a]; exact b⟩
    rw [← h1, ← h2] at e
    have b1 : gbit w t < 2 := Nat.mod_lt _ (by decide)
    have b2 : gbit w' t < 2 := Nat.mod_lt _ (by decide)
    by_cases q : gbit w t = 1
    · rw [q, e.mp q]
    · have := fun z => q (e.mpr z)
      omega
theorem num_inj {T : TD} {w w' : Nat} (hT : okT T) (hw : okW T w) (hw' : okW T w') (h : num T w = num T w') : w = w' := by
  have hW := hT.1
  refine okW.ext hT hw hw' fun c e => ?_
  have : dig T w c = dig T w' c := by rw [← num_dig hT hw e, ← num_dig hT hw' e, h]
  rw [plc_dig hT hw (by omega), plc_dig hT hw' (by omega), this]
/-- the wall of digits, place by place -/
theorem walU_plc {T : TD} {dg : Nat → Nat} (hH : tH T ≤ 6) (h : ∀ j, dg j < tH T + 3) : ∀ {c : Nat}, c ≤ 10 → (∀ j, j < 10 → plc (walU T dg c) j = if j < c then (if tH T < dg j then 8 + (dg j - tH T - 1) else dg j) else 0) ∧ ∀ t, t < 2 → (gbit (walU T dg c) t = 1 ↔ ∃ j, j < c ∧ dg j = tH T + 1 + t)
  | 0, _ => by
    refine ⟨fun j _ => by rw [if_neg (by omega)]; exact plc_0 j, fun t _ => ?_⟩
    show gbit 0 t = 1 ↔ _
    rw [gbit_0]
    constructor
    · intro z; omega
    · rintro ⟨j, hj, -⟩; omega
  | c + 1, hc => by
    obtain ⟨ih1, ih2⟩ := walU_plc (T := T) (dg := dg) hH h (c := c) (by omega)
    have hl := walU_lt (T := T) (dg := dg) hH h (c := c) (by omega)
    have hd := h c
    unfold walU
    by_cases e : tH T < dg c
    · rw [if_pos e]
      refine ⟨fun j hj => ?_, fun t ht => ?_⟩
      · rw [plc_setg hj, plc_putp hl (by omega) (by omega) hj]
        by_cases q : j = c
        · subst q
          rw [if_pos rfl, if_pos (by omega), if_pos e]
        · rw [if_neg q, ih1 j hj]
          by_cases q2 : j < c
          · rw [if_pos q2, if_pos (show j < c + 1 by omega)]
          · rw [if_neg q2, if_neg (by omega)]
      · rw [gbit_setg, gbit_putp hl (by omega) (by omega)]
        by_cases q : t = dg c - tH T - 1
        · rw [if_pos q]
          exact ⟨fun _ => ⟨c, by omega, by omega⟩, fun _ => rfl⟩
        · rw [if_neg q, ih2 t ht]
          constructor
          · rintro ⟨j, a, b⟩; exact ⟨j, by omega, b⟩
          · rintro ⟨j, a, b⟩
            by_cases q3 : j = c
            · subst q3; omega
            · exact ⟨j, by omega, b⟩
    · rw [if_neg e]
      refine ⟨fun j hj => ?_, fun t ht => ?_⟩
      · rw [plc_putp hl (by omega) (by omega) hj]
        by_cases q : j = c
        · subst q
          rw [if_pos rfl, if_pos (by omega), if_neg e]
        · rw [if_neg q, ih1 j hj]
          by_cases q2 : j < c
          · rw [if_pos q2, if_pos (show j < c + 1 by omega)]
          · rw [if_neg q2, if_neg (by omega)]
      · rw [gbit_putp hl (by omega) (by omega), ih2 t ht]
        constructor
        · rintro ⟨j, a, b⟩; exact ⟨j, by omega, b⟩
        · rintro ⟨j, a, b⟩
          by_cases q3 : j = c
          · subst q3; omega
          · exact ⟨j, by omega, b⟩
theorem wallN_lt {T : TD} (hT : okT T) (n : Nat) : wallN T n < 2 ^ 42 := walU_lt hT.2.1.2 (fun j => Nat.mod_lt _ (by omega)) hT.1.2
/-- any number's wall is good but for its gates -/
theorem wallN_ok {T : TD} {n : Nat} (hT : okT T) (hg : ∀ c t, c < tW T → t < 2 → n / (tH T + 3) ^ c % (tH T + 3) = tH T + 1 + t → tG T = 1) : okW T (wallN T n) := by
  have hd : ∀ j, n / (tH T + 3) ^ j % (tH T + 3) < tH T + 3 := fun j => Nat.mod_lt _ (by omega)
  have hW := hT.1
  have hH := hT.2.1
  obtain ⟨h1, h2⟩ := walU_plc (T := T) (dg := fun j => n / (tH T + 3) ^ j % (tH T + 3)) hH.2 hd (c := tW T) hW.2
  refine ⟨wallN_lt hT n, fun t ht => ?_, fun c hc => ?_, fun c hc hc10 => ?_, fun t ht => ?_⟩
  · have b1 : gbit (wallN T n) t < 2 := Nat.mod_lt _ (by decide)
    by_cases q : gbit (wallN T n) t = 1
    · obtain ⟨j, a, b⟩ := (h2 t ht).mp q
      rw [hg j t a ht b]; omega
    · omega
  · rw [show plc (wallN T n) c = _ from h1 c hc]
    have := hd c
    by_cases q : c < tW T
    · rw [if_pos q]
      by_cases q2 : tH T < n / (tH T + 3) ^ c % (tH T + 3)
      · rw [if_pos q2]; omega
      · rw [if_neg q2]; omega
    · rw [if_neg q]; omega
  · rw [show plc (wallN T n) c = _ from h1 c hc10, if_neg (by omega)]
  · rw [show gbit (wallN T n) t = gbit (walU T (fun j => n / (tH T + 3) ^ j % (tH T + 3)) (tW T)) t from rfl, h2 t ht]
    constructor
    · rintro ⟨c, a, b⟩
      refine ⟨c, a, ?_⟩
      rw [show plc (wallN T n) c = _ from h1 c (by omega), if_pos a]
      rw [b, if_pos (by omega)]
      omega
    · rintro ⟨c, a, b⟩
      refine ⟨c, a, ?_⟩
      rw [show plc (wallN T n) c = _ from h1 c (by omega), if_pos a] at b
      have := hd c
      split at b <;> omega
theorem wallN_dig {T : TD} {n c : Nat} (hT : okT T) (hc : c < tW T) : dig T (wallN T n) c = n / (tH T + 3) ^ c % (tH T + 3) := by
  have hd : ∀ j, n / (tH T + 3) ^ j % (tH T + 3) < tH T + 3 := fun j => Nat.mod_lt _ (by omega)
  have hW := hT.1
  have hH := hT.2.1
  obtain ⟨h1, h2⟩ := walU_plc (T := T) (dg := fun j => n / (tH T + 3) ^ j % (tH T + 3)) hH.2 hd (c := tW T) hW.2
  have hp : plc (wallN T n) c = _ := h1 c (by omega)
  rw [if_pos hc] at hp
  have := hd c
  unfold dig
  by_cases q : tH T < n / (tH T + 3) ^ c % (tH T + 3)
  · rw [if_pos q] at hp
    have g : ¬ gat (wallN T n) c = 0 := fun z => by have := gat0.mp z; omega
    rw [if_neg g]
    unfold gat
    rw [if_neg (by omega), hp]
    omega
  · rw [if_neg q] at hp
    have g : gat (wallN T n) c = 0 := gat0.mpr (by omega)
    rw [if_pos g, ← plc_hgt g, hp]
theorem num_wallN {T : TD} {n : Nat} (hT : okT T) (hn : n < (tH T + 3) ^ tW T) : num T (wallN T n) = n := by
  unfold num
  rw [numG_congr (dg' := fun j => n / (tH T + 3) ^ j % (tH T + 3)) (fun j _ h => wallN_dig hT (by omega)), numG_digits (by omega) n (by simpa using hn)]
  simp
theorem wallN_num {T : TD} {w : Nat} (hT : okT T) (hw : okW T w) : wallN T (num T w) = w := by
  have hW := hT.1
  have hok : okW T (wallN T (num T w)) := wallN_ok hT (fun c t hc ht e => by
    rw [num_dig hT hw hc] at e
    have hg : gat w c = 1 + t := by
      have h1 := hw.hgt_le (c := c) (by omega) hT.2.1.2
      unfold dig at e
      split at e <;> omega
    have hp : plc w c = 8 + t := by
      unfold gat at hg
      split at hg <;> omega
    have h2 := (hw.2.2.2.2 t ht).mpr ⟨c, hc, hp⟩
    have h3 := hw.2.1 t ht
    have := hT.2.2.1
    omega)
  exact num_inj hT hok hw (num_wallN hT (num_lt hT hw))
