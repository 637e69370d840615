/-! canDo, after, isClosed, payer, power -/
/-- an act's number: a gate's, or a stone's with a place and a width -/
abbrev vaG (T : TD) (a : Nat) : Prop := a / 64 = 6 ∧ a / 4 % 16 < tW T
abbrev vaS (T : TD) (a : Nat) : Prop := a / 64 < tN T ∧ a / 4 % 16 < tW T ∧ (tK T (a / 64) = 1 → 2 ≤ a % 4 + 1)
abbrev vaA (T : TD) (a : Nat) : Prop := vaG T a ∨ vaS T a
abbrev canA (T : TD) (w tn a : Nat) : Prop := if a / 64 = 6 then gateH T w tn (a / 4 % 16) = 0 else stoneH T w (a / 64) (a / 4 % 16) (a % 4 + 1) = 0
theorem vaA_lt {T : TD} {a : Nat} (hT : okT T) (h : vaA T a) : a < 448 := by
  have := hT.2.2.2.1
  rcases h with h | h
  · have := h.1; omega
  · have := h.1; omega
theorem twinH_le (T : TD) (w c : Nat) : twinH T w c ≤ 6 := by unfold twinH; split <;> (try split) <;> omega
theorem stoneH_le (T : TD) (w s c b : Nat) : stoneH T w s c b ≤ 6 := by
  have := twinH_le T w c
  unfold stoneH
  split
  · exact this
  · split
    · omega
    · split
      · omega
      · split
        · omega
        · split <;> omega
theorem gateH_le (T : TD) (w tn c : Nat) : gateH T w tn c ≤ 6 := by
  unfold gateH
  split
  · omega
  · split
    · omega
    · split <;> omega
theorem f71 {d t w tn a : Nat} {S : St} {T : TD} (hT : TA S t T) (hw : w < 2 ^ 42) (ht : tn < 2) (hg : gbit w tn ≤ tG T) (ha : vaA T a) : F (d + 4) 71 [.ref t, .long (lN w), .int (nI tn), .int (nI a)] S = some (some (.int (bi (canA T w tn a))), S) := by
  have hK : gK S t = 5 := hT.2.1
  have hlt := vaA_lt hT.1 ha
  have hW := hT.1.1
  have hN := hT.1.2.2.2.1
  refine fq71 (w71_0 ?_)
  refine W_I (f4 (by omega)) ?_
  refine W_I (f2 (by omega)) ?_
  refine W_if (fun h => ?_) (fun h => ?_)
  · have h6 : ¬ a / 64 = 6 := fun z => by rw [if_pos z] at h; exact absurd h (by decide)
    obtain ⟨s1, s2, s3⟩ : vaS T a := ha.resolve_left (fun z => h6 z.1)
    have hs := stoneH_le T w (a / 64) (a / 4 % 16) (a % 4 + 1)
    refine W_I (f3 (by omega)) ?_
    refine W_I f5 ?_
    refine W_t hK ?_
    refine W_I (f64 hT hw s1 s2 (by omega) (by omega) s3) ?_
    refine W_if (fun q => ?_) (fun q => ?_)
    · have q := (i_eq (b := 0) (by omega) (by decide)).mp q
      exact W_b (Or.inr rfl) ⟨by rw [bi_t (by unfold canA; rw [if_neg h6]; exact q)], rfl⟩
    · have q := fun z => q ((i_eq (b := 0) (by omega) (by decide)).mpr z)
      exact W_b (Or.inl rfl) ⟨by rw [bi_f (by unfold canA; rw [if_neg h6]; exact q)], rfl⟩
  · have h6 : a / 64 = 6 := Classical.byContradiction fun z => by rw [if_neg z] at h; exact h rfl
    have hc : a / 4 % 16 < tW T := by
      rcases ha with z | z
      · exact z.2
      · exact z.2.1
    have hs := gateH_le T w tn (a / 4 % 16)
    refine W_t hK ?_
    refine W_I (f68 hT hw ht hg (by omega)) ?_
    refine W_if (fun q => ?_) (fun q => ?_)
    · have q := (i_eq (b := 0) (by omega) (by decide)).mp q
      exact W_b (Or.inr rfl) ⟨by rw [bi_t (by unfold canA; rw [if_pos h6]; exact q)], rfl⟩
    · have q := fun z => q ((i_eq (b := 0) (by omega) (by decide)).mpr z)
      exact W_b (Or.inl rfl) ⟨by rw [bi_f (by unfold canA; rw [if_pos h6]; exact q)], rfl⟩
/-- n places from c on are put -/
def putn (w c v : Nat) : Nat → Nat
  | 0 => w
  | n + 1 => putp (putn w c v n) (c + n) v
theorem putn_lt {w c v : Nat} (hw : w < 2 ^ 42) (hv : v < 16) : ∀ {n : Nat}, c + n ≤ 10 → putn w c v n < 2 ^ 42
  | 0, _ => hw
  | n + 1, h => putp_lt (putn_lt hw hv (by omega)) (by omega) hv
/-- the wall behind an act -/
def aft (T : TD) (w tn a : Nat) : Nat := if a / 64 = 6 then setg (putp w (a / 4 % 16) (8 + tn)) tn else if tK T (a / 64) = 3 then putp (putp w (a / 4 % 16) (hgt w (a / 4 % 16) + 1)) (tW T - 1 - a / 4 % 16) (hgt w (tW T - 1 - a / 4 % 16) + 1) else putn w (a / 4 % 16) (hgt w (a / 4 % 16) + 1) (a % 4 + 1)
theorem f73_loop {d t w tn a : Nat} {S : St} {T : TD} (hw : w < 2 ^ 42) (ha : a < 448) (hin : a / 4 % 16 + (a % 4 + 1) ≤ 10) : ∀ (m n : Nat), m = a % 4 + 1 - n → n ≤ a % 4 + 1 → ∀ z2 z8 : Value, WP (P73 (F (d + 1))) (1, [.ref t, .long (lN w), z2, .int (nI tn), .int (nI a), .int (nI (a / 4 % 16)), .int (nI (hgt w (a / 4 % 16) + 1)), .long (lN (putn w (a / 4 % 16) (hgt w (a / 4 % 16) + 1) n)), z8, .int (nI (a / 4 % 16 + n))], [], S) (fun r S' => r = some (.long (lN (putn w (a / 4 % 16) (hgt w (a / 4 % 16) + 1) (a % 4 + 1)))) ∧ S' = S) := by
  have hh := hgt_le w (a / 4 % 16)
  intro m
  induction m with
  | zero =>
    intro n hm hn z2 z8
    have e : n = a % 4 + 1 := by omega
    subst e
    refine w73_1 ?_
    refine W_I f5 ?_
    rw [nI_add]
    refine W_f (by rw [i_lt (by omega) (by omega)]; omega) ?_
    exact ⟨rfl, rfl⟩
  | succ m ih =>
    intro n hm hn z2 z8
    refine w73_1 ?_
    refine W_I f5 ?_
    rw [nI_add]
    refine W_t (by rw [i_lt (by omega) (by omega)]; omega) ?_
    refine W_L (f59 (putn_lt hw (by omega) (by omega)) (by omega) (by omega)) ?_
    show WP _ _ _
    rw [nI_1]
    exact ih (n + 1) (by omega) (by omega) z2 .null
theorem f73 {d t w tn a : Nat} {S : St} {T : TD} (hT : TA S t T) (hw : w < 2 ^ 42) (ht : tn < 2) (ha : vaA T a) (hin : ¬ a / 64 = 6 → ¬ tK T (a / 64) = 3 → a / 4 % 16 + (a % 4 + 1) ≤ 10) : F (d + 3) 73 [.ref t, .long (lN w), .int (nI tn), .int (nI a)] S = some (some (.long (lN (aft T w tn a))), S) := by
  have hK : gK S t = 5 := hT.2.1
  have hlt := vaA_lt hT.1 ha
  have hW := hT.1.1
  have hN := hT.1.2.2.2.1
  have hc : a / 4 % 16 < tW T := by
    rcases ha with z | z
    · exact z.2
    · exact z.2.1
  have hh := hgt_le w (a / 4 % 16)
  refine fq73 (w73_0 ?_)
  refine W_I (f4 (by omega)) ?_
  refine W_I (f2 (by omega)) ?_
  refine W_if (fun h => ?_) (fun h => ?_)
  · have h6 : ¬ a / 64 = 6 := fun z => by rw [if_pos z] at h; exact absurd h (by decide)
    obtain ⟨s1, s2, s3⟩ : vaS T a := ha.resolve_left (fun z => h6 z.1)
    obtain ⟨k1, k2, k3⟩ := hT.2.2.2.2.2.2.1
    have hks := hT.1.2.2.2.2 (a / 64) s1
    refine W_I (f57 hw (by omega)) ?_
    refine W_t hK ?_
    refine W_I (f3 (by omega)) ?_
    refine W_t ⟨k1, by rw [k2]; show 0 ≤ (nI (a / 64)).toInt ∧ (nI (a / 64)).toInt < 6; rw [nI_toInt (by omega)]; omega⟩ ?_
    rw [nI_clamp (by omega), k3 (a / 64) s1]
    refine W_if (fun q => ?_) (fun q => ?_)
    · have q := (i_eq (b := 3) (by omega) (by decide)).mp q
      have hh2 := hgt_le w (tW T - 1 - a / 4 % 16)
      refine W_t hK ?_
      refine W_I (f63 hT hc) ?_
      rw [nI_1]
      refine W_L (f59 hw (by omega) (by omega)) ?_
      refine W_I (f57 hw (by omega)) ?_
      rw [nI_1]
      refine W_L (f59 (putp_lt hw (by omega) (by omega)) (by omega) (by omega)) ?_
      exact ⟨by unfold aft; rw [if_neg h6, if_pos q], rfl⟩
    · have q := fun z => q ((i_eq (b := 3) (by omega) (by decide)).mpr z)
      show WP _ _ _
      rw [nI_1]
      refine WP.mono (f73_loop (d := d + 1) (T := T) hw hlt (hin h6 q) (a % 4 + 1) 0 rfl (by omega) .null .null) ?_
      rintro r S' ⟨rfl, rfl⟩
      exact ⟨by unfold aft; rw [if_neg h6, if_neg q], rfl⟩
  · have h6 : a / 64 = 6 := Classical.byContradiction fun z => by rw [if_neg z] at h; exact h rfl
    refine W_L (f70 hw (by omega) ht) ?_
    exact ⟨by unfold aft; rw [if_pos h6], rfl⟩
/-- the wall is closed -/
abbrev closed (T : TD) (w : Nat) : Prop := ∀ c, c < tW T → gat w c = 0 → tH T ≤ hgt w c
theorem f74_loop {d t w : Nat} {S : St} {T : TD} (hT : TA S t T) (hw : w < 2 ^ 42) : ∀ (m c : Nat), m = tW T - c → c ≤ tW T → (∀ j, j < c → gat w j = 0 → tH T ≤ hgt w j) → ∀ z2 : Value, WP (P74 (F (d + 1))) (1, [.ref t, .long (lN w), z2, .int (nI c)], [], S) (fun r S' => r = some (.int (bi (closed T w))) ∧ S' = S) := by
  have hK : gK S t = 5 := hT.2.1
  have h0 : gI S t 0 = nI (tW T) := hT.2.2.1
  have h1 : gI S t 1 = nI (tH T) := hT.2.2.2.1
  have hW := hT.1.1
  have hH := hT.1.2.1
  intro m
  induction m with
  | zero =>
    intro c hm hc hall z2
    have e : c = tW T := by omega
    subst e
    refine w74_1 ?_
    refine W_t hK ?_
    rw [h0]
    refine W_f (by rw [i_lt (by omega) (by omega)]; omega) ?_
    exact W_b (Or.inr rfl) ⟨by rw [bi_t (fun j hj => hall j hj)], rfl⟩
  | succ m ih =>
    intro c hm hc hall z2
    have hh := hgt_le w c
    refine w74_1 ?_
    refine W_t hK ?_
    rw [h0]
    refine W_t (by rw [i_lt (by omega) (by omega)]; omega) ?_
    have next : (gat w c = 0 → tH T ≤ hgt w c) → WP (P74 (F (d + 1))) (2, [.ref t, .long (lN w), z2, .int (nI c)], [], S) (fun r S' => r = some (.int (bi (closed T w))) ∧ S' = S) := by
      intro hok
      refine w74_2 ?_
      show WP _ _ _
      rw [nI_1]
      refine ih (c + 1) (by omega) (by omega) (fun j hj hg => ?_) _
      by_cases e : j = c
      · subst e; exact hok hg
      · exact hall j (by omega) hg
    refine W_I (f58 hw (by omega)) ?_
    refine W_if (fun q => ?_) (fun q => ?_)
    · rw [gat_m1] at q
      refine W_I (f57 hw (by omega)) ?_
      refine W_t hK ?_
      rw [h1]
      refine W_if (fun q' => ?_) (fun q' => ?_)
      · rw [i_lt (by omega) (by omega)] at q'
        exact W_b (Or.inl rfl) ⟨by rw [bi_f (fun z => by have := z c (by omega) q; omega)], rfl⟩
      · rw [i_lt (by omega) (by omega)] at q'
        exact next (fun _ => by omega)
    · rw [gat_m1] at q
      exact next (fun z => absurd z q)
theorem f74 {d t w : Nat} {S : St} {T : TD} (hT : TA S t T) (hw : w < 2 ^ 42) : F (d + 2) 74 [.ref t, .long (lN w)] S = some (some (.int (bi (closed T w))), S) := by
  refine fq74 (w74_0 ?_)
  exact f74_loop hT hw (tW T) 0 rfl (by omega) (fun j hj => by omega) .null
/-- who pays for a wall that is over when town tn would be on turn -/
def payr (T : TD) (w tn : Nat) : Nat := if closed T w then 1 - tn else tn
theorem f75 {d t w tn : Nat} {S : St} {T : TD} (hT : TA S t T) (hw : w < 2 ^ 42) (ht : tn < 2) : F (d + 3) 75 [.ref t, .long (lN w), .int (nI tn)] S = some (some (.int (nI (payr T w tn))), S) := by
  refine fq75 (w75_0 ?_)
  refine W_t hT.2.1 ?_
  refine W_I (f74 hT hw) ?_
  refine W_if (fun h => ?_) (fun h => ?_)
  · rw [bi_0] at h
    exact ⟨by unfold payr; rw [if_neg h], rfl⟩
  · rw [bi_0] at h
    have h := Classical.not_not.mp h
    refine ⟨?_, rfl⟩
    unfold payr
    rw [if_pos h, show (1 : Int32) = nI 1 from rfl, pk_sub (by omega)]
