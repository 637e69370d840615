/-! walls: what an act makes of one; which are alike; how full they are -/
theorem plc_hgt {w c : Nat} (h : gat w c = 0) : plc w c = hgt w c := by
  have := plc_lt w c
  unfold gat at h
  unfold hgt
  split
  · rfl
  · rw [if_neg ‹_›] at h; omega
theorem gat0 {w c : Nat} : gat w c = 0 ↔ plc w c < 8 := by
  have := plc_lt w c
  unfold gat
  split <;> omega
theorem gat_of {w w' c c' : Nat} (h : plc w c = plc w' c') : gat w c = gat w' c' := by unfold gat; rw [h]
theorem hgt_of {w w' c c' : Nat} (h : plc w c = plc w' c') : hgt w c = hgt w' c' := by unfold hgt; rw [h]
theorem hgt_v {w c v : Nat} (h : plc w c = v) (hv : v < 8) : hgt w c = v := by unfold hgt; rw [h, if_pos hv]
/-- a good wall -/
def okW (T : TD) (w : Nat) : Prop := w < 2 ^ 42 ∧ (∀ t, t < 2 → gbit w t ≤ tG T) ∧ (∀ c, c < 10 → plc w c ≤ tH T ∨ plc w c = 8 ∨ plc w c = 9) ∧ (∀ c, tW T ≤ c → c < 10 → plc w c = 0) ∧ ∀ t, t < 2 → (gbit w t = 1 ↔ ∃ c, c < tW T ∧ plc w c = 8 + t)
theorem plc_0 (c : Nat) : plc 0 c = 0 := by simp [plc]
theorem gbit_0 (t : Nat) : gbit 0 t = 0 := by simp [gbit]
theorem okW_0 (T : TD) : okW T 0 := by
  refine ⟨by decide, fun t _ => by rw [gbit_0]; omega, fun c _ => by rw [plc_0]; omega, fun c _ _ => plc_0 c, fun t _ => ?_⟩
  rw [gbit_0]
  constructor
  · intro h; omega
  · rintro ⟨c, -, h⟩; rw [plc_0] at h; omega
theorem okW.hgt_le {T : TD} {w c : Nat} (h : okW T w) (hc : c < 10) (hT : tH T ≤ 6) : hgt w c ≤ tH T := by
  unfold hgt
  rcases h.2.2.1 c hc with z | z | z
  · split <;> omega
  · rw [z]; simp
  · rw [z]; simp
theorem okW.gat_le {T : TD} {w c : Nat} (h : okW T w) (hc : c < 10) (hT : tH T ≤ 6) : gat w c ≤ 2 := by
  unfold gat
  rcases h.2.2.1 c hc with z | z | z
  · rw [if_pos (by omega)]; omega
  · rw [z]; simp
  · rw [z]; simp
theorem plc_putn {w c v : Nat} (hw : w < 2 ^ 42) (hv : v < 16) : ∀ {n : Nat}, c + n ≤ 10 → ∀ {j : Nat}, j < 10 → plc (putn w c v n) j = if c ≤ j ∧ j < c + n then v else plc w j
  | 0, _, j, _ => by rw [if_neg (by omega)]; rfl
  | n + 1, h, j, hj => by
    show plc (putp (putn w c v n) (c + n) v) j = _
    rw [plc_putp (putn_lt hw hv (by omega)) (by omega) hv hj]
    by_cases e : j = c + n
    · rw [if_pos e, if_pos (by omega)]
    · rw [if_neg e, plc_putn hw hv (by omega) hj]
      by_cases e2 : c ≤ j ∧ j < c + n
      · rw [if_pos e2, if_pos (by omega)]
      · rw [if_neg e2, if_neg (by omega)]
theorem gbit_putn {w c v : Nat} (hw : w < 2 ^ 42) (hv : v < 16) : ∀ {n : Nat}, c + n ≤ 10 → ∀ (t : Nat), gbit (putn w c v n) t = gbit w t
  | 0, _, _ => rfl
  | n + 1, h, t => by
    show gbit (putp (putn w c v n) (c + n) v) t = _
    rw [gbit_putp (putn_lt hw hv (by omega)) (by omega) hv, gbit_putn hw hv (by omega)]
/-- what can be done: of its three kinds -/
theorem can_gate {T : TD} {w tn a : Nat} (h6 : a / 64 = 6) (hc : canA T w tn a) : gbit w tn < tG T ∧ gat w (a / 4 % 16) = 0 ∧ hgt w (a / 4 % 16) = 0 := by
  unfold canA at hc
  rw [if_pos h6] at hc
  unfold gateH at hc
  split at hc
  · omega
  · split at hc
    · omega
    · split at hc
      · refine ⟨by omega, by omega, by omega⟩
      · omega
theorem can_twin {T : TD} {w tn a : Nat} (h6 : ¬ a / 64 = 6) (h3 : tK T (a / 64) = 3) (hc : canA T w tn a) : gat w (a / 4 % 16) = 0 ∧ gat w (tW T - 1 - a / 4 % 16) = 0 ∧ hgt w (a / 4 % 16) < tH T ∧ hgt w (tW T - 1 - a / 4 % 16) < tH T := by
  unfold canA at hc
  rw [if_neg h6] at hc
  unfold stoneH at hc
  rw [if_pos h3] at hc
  unfold twinH at hc
  split at hc
  · omega
  · split at hc
    · refine ⟨by omega, by omega, by omega, by omega⟩
    · omega
theorem can_stone {T : TD} {w tn a : Nat} (h6 : ¬ a / 64 = 6) (h3 : ¬ tK T (a / 64) = 3) (hc : canA T w tn a) : a / 4 % 16 + (a % 4 + 1) ≤ tW T ∧ (∀ j, j < a % 4 + 1 → gat w (a / 4 % 16 + j) = 0) ∧ stS T w (a / 64) (a / 4 % 16) (a % 4 + 1) ∧ hgt w (a / 4 % 16) < tH T := by
  unfold canA at hc
  rw [if_neg h6] at hc
  unfold stoneH at hc
  rw [if_neg h3] at hc
  split at hc
  · omega
  · split at hc
    · omega
    · rename_i g1 g2
      have g2 := Classical.not_not.mp g2
      split at hc
      · omega
      · rename_i g3
        have g3 := Classical.not_not.mp g3
        split at hc
        · rename_i g4
          have := g2 0 (by omega)
          rw [Nat.add_zero] at this
          rw [plc_hgt this] at g4
          exact ⟨by omega, g2, g3, g4⟩
        · omega
/-- no stone that is set lies lower than what it covers -/
theorem st_le {T : TD} {w s c b : Nat} (hT : okT T) (hs : s < tN T) (hb : tK T s = 2 → b = 1) (hg : ∀ j, j < b → gat w (c + j) = 0) (h : stS T w s c b) : ∀ j, j < b → hgt w (c + j) ≤ hgt w c := by
  intro j hj
  have e0 : plc w c = hgt w c := plc_hgt (by simpa using hg 0 (by omega))
  have ej : plc w (c + j) = hgt w (c + j) := plc_hgt (hg j hj)
  rw [← e0, ← ej]
  unfold stS at h
  by_cases h2 : tK T s = 2
  · have := hb h2
    rw [show j = 0 by omega, Nat.add_zero]
    exact Nat.le_refl _
  · rw [if_neg h2] at h
    by_cases h1 : tK T s = 1
    · rw [if_pos h1] at h
      by_cases hj0 : j = 0
      · rw [hj0, Nat.add_zero]; exact Nat.le_refl _
      · by_cases hjl : j + 1 < b
        · exact h.1 j hj (by omega) hjl
        · rw [show j = b - 1 by omega]; exact Nat.le_of_eq h.2
    · rw [if_neg h1] at h
      exact Nat.le_of_eq (h j hj)
theorem cand_bw {T : TD} {a : Nat} (hT : okT T) (h : cand T a) (h6 : ¬ a / 64 = 6) : told T (a / 64) (a / 4 % 16) (a % 4 + 1) ∧ (tK T (a / 64) = 2 → a % 4 + 1 = 1) := by
  rcases h with h | h
  · exact absurd h.1 h6
  · refine ⟨h.1, fun h2 => ?_⟩
    obtain ⟨h1, -, h3⟩ := h.1
    have := (hT.2.2.2.2 _ h1).2.2.2.2 (Or.inl h2)
    omega
/-- the places behind an act -/
def newp (T : TD) (w tn a c : Nat) : Nat := if a / 64 = 6 then (if c = a / 4 % 16 then 8 + tn else plc w c) else if tK T (a / 64) = 3 then (if c = a / 4 % 16 ∨ c = tW T - 1 - a / 4 % 16 then hgt w c + 1 else plc w c) else if a / 4 % 16 ≤ c ∧ c < a / 4 % 16 + (a % 4 + 1) then hgt w (a / 4 % 16) + 1 else plc w c
theorem aft_plc {T : TD} {w tn a : Nat} (hT : okT T) (hw : w < 2 ^ 42) (ht : tn < 2) (ha : cand T a) (hc : canA T w tn a) : ∀ c, c < 10 → plc (aft T w tn a) c = newp T w tn a c := by
  intro c hc10
  have hW := hT.1
  unfold aft newp
  have hh := hgt_le w (a / 4 % 16)
  have hh2 := hgt_le w (tW T - 1 - a / 4 % 16)
  by_cases h6 : a / 64 = 6
  · rw [if_pos h6, if_pos h6]
    rcases ha with z | z
    · rw [plc_setg hc10, plc_putp hw (by omega) (by omega) hc10]
    · have := z.1.1; have := hT.2.2.2.1; omega
  · rw [if_neg h6, if_neg h6]
    obtain ⟨⟨t1, t2, t3⟩, -⟩ := cand_bw hT ha h6
    by_cases h3 : tK T (a / 64) = 3
    · rw [if_pos h3, if_pos h3]
      rw [plc_putp (putp_lt hw (by omega) (by omega)) (by omega) (by omega) hc10]
      by_cases e : c = tW T - 1 - a / 4 % 16
      · rw [if_pos e, if_pos (Or.inr e), e]
      · rw [if_neg e, plc_putp hw (by omega) (by omega) hc10]
        by_cases e2 : c = a / 4 % 16
        · rw [if_pos e2, if_pos (Or.inl e2), e2]
        · rw [if_neg e2, if_neg (fun z => z.elim e2 e)]
    · rw [if_neg h3, if_neg h3]
      have := (can_stone h6 h3 hc).1
      rw [plc_putn hw (by omega) (by omega) hc10]
theorem aft_gbit {T : TD} {w tn a : Nat} (hT : okT T) (hw : w < 2 ^ 42) (ht : tn < 2) (ha : cand T a) (hc : canA T w tn a) : ∀ t, gbit (aft T w tn a) t = if a / 64 = 6 ∧ t = tn then 1 else gbit w t := by
  intro t
  have hW := hT.1
  unfold aft
  have hh := hgt_le w (a / 4 % 16)
  have hh2 := hgt_le w (tW T - 1 - a / 4 % 16)
  by_cases h6 : a / 64 = 6
  · rw [if_pos h6, gbit_setg]
    by_cases e : t = tn
    · rw [if_pos e, if_pos ⟨h6, e⟩]
    · rw [if_neg e, if_neg (fun z => e z.2)]
      rcases ha with z | z
      · rw [gbit_putp hw (by omega) (by omega)]
      · have := z.1.1; have := hT.2.2.2.1; omega
  · have e : (if a / 64 = 6 ∧ t = tn then 1 else gbit w t) = gbit w t := if_neg (fun z => h6 z.1)
    rw [e, if_neg h6]
    obtain ⟨⟨t1, t2, t3⟩, -⟩ := cand_bw hT ha h6
    by_cases h3 : tK T (a / 64) = 3
    · rw [if_pos h3, gbit_putp (putp_lt hw (by omega) (by omega)) (by omega) (by omega), gbit_putp hw (by omega) (by omega)]
    · rw [if_neg h3]
      have := (can_stone h6 h3 hc).1
      rw [gbit_putn hw (by omega) (by omega)]
theorem aft_lt {T : TD} {w tn a : Nat} (hT : okT T) (hw : w < 2 ^ 42) (ht : tn < 2) (ha : cand T a) (hc : canA T w tn a) : aft T w tn a < 2 ^ 42 := by
  have hW := hT.1
  unfold aft
  have hh := hgt_le w (a / 4 % 16)
  have hh2 := hgt_le w (tW T - 1 - a / 4 % 16)
  by_cases h6 : a / 64 = 6
  · rw [if_pos h6]
    rcases ha with z | z
    · exact setg_lt (putp_lt hw (by omega) (by omega)) ht
    · have := z.1.1; have := hT.2.2.2.1; omega
  · rw [if_neg h6]
    obtain ⟨⟨t1, t2, t3⟩, -⟩ := cand_bw hT ha h6
    by_cases h3 : tK T (a / 64) = 3
    · rw [if_pos h3]
      exact putp_lt (putp_lt hw (by omega) (by omega)) (by omega) (by omega)
    · rw [if_neg h3]
      have := (can_stone h6 h3 hc).1
      exact putn_lt hw (by omega) (by omega)
theorem cand_col {T : TD} {a : Nat} (ha : cand T a) : a / 4 % 16 < tW T := by
  rcases ha with z | z
  · exact z.2.2.1
  · exact z.1.2.1
/-- of an act that can be done: what each column becomes -/
theorem newp_cases {T : TD} {w tn a : Nat} (hT : okT T) (ha : cand T a) (hc : canA T w tn a) (c : Nat) : newp T w tn a c = plc w c ∨ (c < tW T ∧ gat w c = 0 ∧ hgt w c < newp T w tn a c ∧ newp T w tn a c ≤ tH T) ∨ (a / 64 = 6 ∧ c = a / 4 % 16 ∧ gat w c = 0 ∧ hgt w c = 0 ∧ newp T w tn a c = 8 + tn) := by
  have hcol := cand_col ha
  unfold newp
  by_cases h6 : a / 64 = 6
  · rw [if_pos h6]
    by_cases e : c = a / 4 % 16
    · obtain ⟨h1, h2, h3⟩ := can_gate h6 hc
      rw [if_pos e]
      exact Or.inr (Or.inr ⟨h6, e, by rw [e]; exact h2, by rw [e]; exact h3, rfl⟩)
    · rw [if_neg e]; exact Or.inl rfl
  · rw [if_neg h6]
    obtain ⟨⟨t1, t2, t3⟩, t4⟩ := cand_bw hT ha h6
    by_cases h3 : tK T (a / 64) = 3
    · rw [if_pos h3]
      obtain ⟨g1, g2, g3, g4⟩ := can_twin h6 h3 hc
      by_cases e : c = a / 4 % 16 ∨ c = tW T - 1 - a / 4 % 16
      · rw [if_pos e]
        refine Or.inr (Or.inl ?_)
        rcases e with rfl | rfl
        · exact ⟨hcol, g1, by omega, by omega⟩
        · exact ⟨by omega, g2, by omega, by omega⟩
      · rw [if_neg e]; exact Or.inl rfl
    · rw [if_neg h3]
      obtain ⟨g1, g2, g3, g4⟩ := can_stone h6 h3 hc
      by_cases e : a / 4 % 16 ≤ c ∧ c < a / 4 % 16 + (a % 4 + 1)
      · rw [if_pos e]
        have q := st_le hT t1 t4 g2 g3 (c - a / 4 % 16) (by omega)
        have q2 := g2 (c - a / 4 % 16) (by omega)
        rw [show a / 4 % 16 + (c - a / 4 % 16) = c by omega] at q q2
        exact Or.inr (Or.inl ⟨by omega, q2, by omega, by omega⟩)
      · rw [if_neg e]; exact Or.inl rfl
theorem newp_col {T : TD} {w tn a : Nat} (hT : okT T) (ha : cand T a) (hc : canA T w tn a) : newp T w tn a (a / 4 % 16) ≠ plc w (a / 4 % 16) ∧ gat w (a / 4 % 16) = 0 := by
  unfold newp
  by_cases h6 : a / 64 = 6
  · obtain ⟨h1, h2, h3⟩ := can_gate h6 hc
    rw [if_pos h6, if_pos rfl, plc_hgt h2]
    exact ⟨by omega, h2⟩
  · rw [if_neg h6]
    by_cases h3 : tK T (a / 64) = 3
    · obtain ⟨g1, g2, g3, g4⟩ := can_twin h6 h3 hc
      rw [if_pos h3, if_pos (Or.inl rfl), plc_hgt g1]
      exact ⟨by omega, g1⟩
    · obtain ⟨g1, g2, g3, g4⟩ := can_stone h6 h3 hc
      have g0 := g2 0 (by omega)
      rw [Nat.add_zero] at g0
      rw [if_neg h3, if_pos (by omega), plc_hgt g0]
      exact ⟨by omega, g0⟩
theorem okW.aft {T : TD} {w tn a : Nat} (hT : okT T) (hw : okW T w) (ht : tn < 2) (ha : cand T a) (hc : canA T w tn a) : okW T (aft T w tn a) := by
  obtain ⟨w1, w2, w3, w4, w5⟩ := hw
  have hp := aft_plc hT w1 ht ha hc
  have hg := aft_gbit hT w1 ht ha hc
  have hcol := cand_col ha
  have hW := hT.1
  refine ⟨aft_lt hT w1 ht ha hc, fun t h2 => ?_, fun c h10 => ?_, fun c h1 h10 => ?_, fun t h2 => ?_⟩
  · rw [hg]
    split
    · rename_i z
      have := (can_gate z.1 hc).1
      omega
    · exact w2 t h2
  · rw [hp c h10]
    rcases newp_cases hT ha hc c with z | z | z
    · rw [z]; exact w3 c h10
    · exact Or.inl z.2.2.2
    · rw [z.2.2.2.2]; omega
  · rw [hp c h10]
    rcases newp_cases hT ha hc c with z | z | z
    · rw [z]; exact w4 c h1 h10
    · omega
    · omega
  · rw [hg]
    by_cases e : a / 64 = 6 ∧ t = tn
    · rw [if_pos e]
      refine ⟨fun _ => ⟨a / 4 % 16, hcol, ?_⟩, fun _ => rfl⟩
      rw [hp _ (by omega)]
      unfold newp
      rw [if_pos e.1, if_pos rfl, e.2]
    · rw [if_neg e, w5 t h2]
      constructor
      · rintro ⟨c, h1, h3⟩
        refine ⟨c, h1, ?_⟩
        rw [hp c (by omega)]
        rcases newp_cases hT ha hc c with z | z | z
        · rw [z]; exact h3
        · have := gat0.mp z.2.1; omega
        · have := gat0.mp z.2.2.1; omega
      · rintro ⟨c, h1, h3⟩
        refine ⟨c, h1, ?_⟩
        rw [hp c (by omega)] at h3
        rcases newp_cases hT ha hc c with z | z | z
        · rw [← z]; exact h3
        · have := z.2.2.2; have := hT.2.1; omega
        · have := z.2.2.2.2
          exact absurd ⟨z.1, by omega⟩ e
/-- a sum -/
def smN (f : Nat → Nat) : Nat → Nat
  | 0 => 0
  | n + 1 => smN f n + f n
theorem smN_le {f g : Nat → Nat} : ∀ {n : Nat}, (∀ c, c < n → f c ≤ g c) → smN f n ≤ smN g n
  | 0, _ => Nat.le_refl _
  | n + 1, h => Nat.add_le_add (smN_le (fun c hc => h c (by omega))) (h n (by omega))
theorem smN_lt {f g : Nat → Nat} {k : Nat} : ∀ {n : Nat}, (∀ c, c < n → f c ≤ g c) → k < n → f k < g k → smN f n < smN g n
  | 0, _, hk, _ => by omega
  | n + 1, h, hk, hlt => by
    show smN f n + f n < smN g n + g n
    by_cases e : k = n
    · subst e
      have := smN_le (f := f) (g := g) (n := k) (fun c hc => h c (by omega))
      omega
    · have := smN_lt (f := f) (g := g) (n := n) (fun c hc => h c (by omega)) (by omega) hlt
      have := h n (by omega)
      omega
theorem smN_const (v : Nat) : ∀ n, smN (fun _ => v) n = n * v
  | 0 => by simp [smN]
  | n + 1 => by show smN _ n + v = _; rw [smN_const v n, Nat.add_mul, Nat.one_mul]
/-- how full a wall is -/
def fil (T : TD) (w : Nat) : Nat := smN (fun c => if gat w c = 0 then hgt w c else tH T) (tW T)
theorem fil_le {T : TD} {w : Nat} (hT : okT T) (hw : okW T w) : fil T w ≤ tW T * tH T := by
  unfold fil
  rw [← smN_const (tH T) (tW T)]
  refine smN_le fun c hc => ?_
  have := hT.1; have h6 := hT.2.1.2
  split
  · exact hw.hgt_le (by omega) h6
  · exact Nat.le_refl _
theorem fil_aft {T : TD} {w tn a : Nat} (hT : okT T) (hw : okW T w) (ht : tn < 2) (ha : cand T a) (hc : canA T w tn a) : fil T w < fil T (aft T w tn a) := by
  have hp := aft_plc hT hw.1 ht ha hc
  have hcol := cand_col ha
  have hW := hT.1
  have hH := hT.2.1
  have key : ∀ c, c < tW T → newp T w tn a c ≠ plc w c → (if gat w c = 0 then hgt w c else tH T) < (if gat (aft T w tn a) c = 0 then hgt (aft T w tn a) c else tH T) := by
    intro c h1 hne
    rcases newp_cases hT ha hc c with z | z | z
    · exact absurd z hne
    · have e : gat (aft T w tn a) c = 0 := gat0.mpr (by rw [hp c (by omega)]; omega)
      rw [if_pos z.2.1, if_pos e, ← plc_hgt e, hp c (by omega)]
      exact z.2.2.1
    · have e : ¬ gat (aft T w tn a) c = 0 := fun q => by have := gat0.mp q; rw [hp c (by omega)] at this; omega
      rw [if_pos z.2.2.1, if_neg e]
      omega
  unfold fil
  refine smN_lt (k := a / 4 % 16) (fun c h1 => ?_) hcol ?_
  · by_cases e : newp T w tn a c = plc w c
    · have e2 : plc (aft T w tn a) c = plc w c := by rw [hp c (by omega), e]
      rw [gat_of e2, hgt_of e2]
      exact Nat.le_refl _
    · exact Nat.le_of_lt (key c h1 e)
  · exact key _ hcol (newp_col hT ha hc).1
/-- walls that no rule tells apart -/
def like (T : TD) (w w' : Nat) : Prop := (∀ c, c < tW T → hgt w c = hgt w' c ∧ (gat w c = 0 ↔ gat w' c = 0)) ∧ ∀ t, t < 2 → gbit w t = gbit w' t
theorem like.refl (T : TD) (w : Nat) : like T w w := ⟨fun _ _ => ⟨rfl, Iff.rfl⟩, fun _ _ => rfl⟩
theorem like.symm {T : TD} {w w' : Nat} (h : like T w w') : like T w' w := ⟨fun c hc => ⟨(h.1 c hc).1.symm, (h.1 c hc).2.symm⟩, fun t ht => (h.2 t ht).symm⟩
theorem like.can {T : TD} {w w' tn a : Nat} (hT : okT T) (hl : like T w w') (ht : tn < 2) (ha : cand T a) (hc : canA T w tn a) : canA T w' tn a := by
  have hcol := cand_col ha
  unfold canA
  by_cases h6 : a / 64 = 6
  · obtain ⟨g1, g2, g3⟩ := can_gate h6 hc
    rw [if_pos h6]
    have q := hl.1 _ hcol
    unfold gateH
    rw [if_neg (by rw [← hl.2 tn ht]; omega), if_neg (fun z => z (q.2.mp g2)), if_pos (q.1 ▸ g3)]
  · rw [if_neg h6]
    unfold stoneH
    obtain ⟨⟨t1, t2, t3⟩, t4⟩ := cand_bw hT ha h6
    by_cases h3 : tK T (a / 64) = 3
    · obtain ⟨g1, g2, g3, g4⟩ := can_twin h6 h3 hc
      have q := hl.1 _ hcol
      have q' := hl.1 (tW T - 1 - a / 4 % 16) (by omega)
      rw [if_pos h3]
      unfold twinH
      rw [if_neg (fun z => z.elim (fun z => z (q.2.mp g1)) (fun z => z (q'.2.mp g2))), if_pos ⟨q.1 ▸ g3, q'.1 ▸ g4⟩]
    · obtain ⟨g1, g2, g3, g4⟩ := can_stone h6 h3 hc
      have g2' : ∀ j, j < a % 4 + 1 → gat w' (a / 4 % 16 + j) = 0 := fun j hj => (hl.1 _ (by omega)).2.mp (g2 j hj)
      have pe : ∀ j, j < a % 4 + 1 → plc w' (a / 4 % 16 + j) = plc w (a / 4 % 16 + j) := fun j hj => by
        rw [plc_hgt (g2 j hj), plc_hgt (g2' j hj), (hl.1 _ (by omega)).1]
      have pe0 : plc w' (a / 4 % 16) = plc w (a / 4 % 16) := by simpa using pe 0 (by omega)
      rw [if_neg h3, if_neg (by omega), if_neg (fun z => z g2'), if_neg, if_pos]
      · rw [pe0, plc_hgt (by simpa using g2 0 (by omega))]
        exact g4
      · refine fun z => z ?_
        unfold stS at g3 ⊢
        by_cases k2 : tK T (a / 64) = 2
        · rw [if_pos k2] at g3 ⊢
          rw [pe0]
          refine ⟨g3.1.imp id (fun y => ?_), ?_⟩
          · have q := hl.1 (a / 4 % 16 - 1) (by omega)
            rw [← q.1]
            exact y.imp (fun z x => z (q.2.mpr x)) id
          · by_cases hlast : a / 4 % 16 + 1 < tW T
            · have q := hl.1 (a / 4 % 16 + 1) hlast
              rw [← q.1]
              exact g3.2.imp id (fun y => y.imp (fun z x => z (q.2.mpr x)) id)
            · exact Or.inl (by omega)
        · rw [if_neg k2] at g3 ⊢
          by_cases k1 : tK T (a / 64) = 1
          · rw [if_pos k1] at g3 ⊢
            refine ⟨fun j h1 h2 h3 => ?_, ?_⟩
            · rw [pe j h1, pe0]; exact g3.1 j h1 h2 h3
            · rw [pe (a % 4 + 1 - 1) (by omega), pe0]; exact g3.2
          · rw [if_neg k1] at g3 ⊢
            intro j hj
            rw [pe j hj, pe0]
            exact g3 j hj
