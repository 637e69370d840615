/-! an act is done on the site -/
abbrev LdP : Nat → Nat → Prop := fun a k => (11 ≤ a ∧ a ≤ 15) ∨ (a = 9 ∧ k = 3)
theorem LdP_SP : ∀ a k, LdP a k → SP a k := fun a k h => by
  have h : (11 ≤ a ∧ a ≤ 15) ∨ (a = 9 ∧ k = 3) := h
  show 9 ≤ a ∧ a ≤ 15
  omega
theorem RP_LdP : ∀ a k, RP a k → LdP a k := fun a k h => by
  have h : a = 15 ∨ (a = 14 ∧ k = 1) := h
  show (11 ≤ a ∧ a ≤ 15) ∨ (a = 9 ∧ k = 3)
  omega
theorem RP_site : ∀ a k, RP a k → a ≠ 9 ∧ a ≠ 11 ∧ a ≠ 12 ∧ a ≠ 13 := fun a k h => by
  have h : a = 15 ∨ (a = 14 ∧ k = 1) := h
  omega
theorem LdP_dyn : ∀ a k, LdP a k → ¬ dyn a := fun a k h => SP_dyn a k (LdP_SP a k h)
theorem dyn_ne {a b : Nat} (h : dyn a) (hb : b < 25) : a ≠ b := fun e => by subst e; unfold dyn at h; omega
/-- the fine is reckoned and put on the bill -/
theorem bill_on {d t : Nat} {S : St} {T : TD} {E : Env → Int32} {x2 x3 x4 x5 : Int32} (hS : ShC S) (hF : TF S t T E) : Sp (F (d + 2) 45 [.ref 14, .ref (gR S t 6), .int x2, .int x3, .int x4, .int x5] S) (fun r S' => ∃ x, r = some (.int x) ∧ x = E (x2, x3, x4, x5) ∧ Fr RP nol S S') := by
  obtain ⟨h1, ⟨C, h2, h3⟩, h4, h5, h6, h7, h8, h9⟩ := hF
  exact f45 hS h2 (dyn_ne h8 (by decide)) (dyn_ne h8 (by decide)) (h3 _)
theorem f55_loop {d t a c b h ow : Nat} {x2 x3 : Int32} {S0 : St} {T : TD} {E : Env → Int32} {p : Pos} (hS0 : ShC S0) (hF0 : TF S0 t T E) (hw : pw p < 2 ^ 42) (hc : c + b ≤ 10) (hb : 1 ≤ b) (hh : h = hgt (pw p) c) (how : ow < 2) (hst : ∀ j, j < b → hgt (pw p) (c + j) ≤ h) : ∀ (m j : Nat) (S : St), m = b - j → j ≤ b → Fr LdP nol S0 S → SiteP S (pw p, pbill p, phof p, (fun x => if c ≤ x ∧ x < c + j then phin p x + (h - hgt (pw p) x) else phin p x), (fun x => if c ≤ x ∧ x < c + j then 1 + ow else pown p x), pday p) → ∀ z10 : Value, WP (P55 (F (d + 2))) (2, [.ref 9, .ref t, .int x2, .int x3, .int (nI c), .int (nI b), .int (nI h), .int (nI ow), .int (nI (smN (fun j => hgt (pw p) c - hgt (pw p) (c + j)) j)), .int (nI (c + j)), z10], [], S) (fun r S' => r = none ∧ Fr LdP nol S0 S' ∧ SiteP S' (pw p, pbill p + E (nI b, nI h, nI (hols (pw p) c b), nI (pday p)), up1 (phof p) ow (phof p ow + hols (pw p) c b), (fun x => if c ≤ x ∧ x < c + b then phin p x + (h - hgt (pw p) x) else phin p x), (fun x => if c ≤ x ∧ x < c + b then 1 + ow else pown p x), pday p)) := by
  intro m
  induction m with
  | zero =>
    intro j S hm hj hf hP z10
    have e : j = b := by omega
    subst e
    have hS := hS0.of hf.2.2
    refine w55_2 ?_
    refine W_f (by rw [nI_add, i_lt (by omega) (by omega)]; omega) ?_
    refine W_t (hS.k9) ?_
    refine W_t (by rw [hS.r9_4, hS.k11, hS.n11]; exact ⟨rfl, inB_n (by omega) (by decide)⟩) ?_
    refine W_t (by rw [hS.r9_4, hS.k11, hS.n11]; exact ⟨rfl, inB_n (by omega) (by decide)⟩) ?_
    refine W_s fun S5 e5 => ?_
    rw [hS.r9_4, nI_clamp (by omega), hP.2.2.2.1 ow how, nI_add] at e5
    have f5 : Fr LdP nol S S5 := by rw [e5]; exact Fr.putI (Or.inl ⟨by decide, by decide⟩)
    have hS5 := hS.of f5.2.2
    have hF5 : TF S5 t T E := hF0.fr (hf.tr f5) LdP_dyn
    have hP5 := hP.putHof (k := ow) (v := nI (phof p ow + smN (fun i => hgt (pw p) c - hgt (pw p) (c + i)) j)) rfl
    rw [← e5] at hP5
    refine W_t (hS5.k9) ?_
    refine W_t (hS5.k9) ?_
    refine W_t (hF5.1.1.2.1) ?_
    refine W_t (hS5.k9) ?_
    refine W_t (by rw [hS5.r9_7]; exact hS5.k14) ?_
    rw [hS5.r9_7, hP5.1]
    refine W_Ie (bill_on hS5 hF5) ?_
    rintro v7 S6 ⟨rfl, f6⟩
    have f6' : Fr LdP nol S5 S6 := f6.weak RP_LdP (fun _ _ z => z)
    have hS6 := hS5.of f6.2.2
    refine W_t (hS6.k9) ?_
    refine W_s fun S8 e8 => ?_
    have hP8 := (hP5.fr f6 RP_site (fun z => z)).putBill (v := gI S5 9 3 + E (nI j, nI h, nI (smN (fun i => hgt (pw p) c - hgt (pw p) (c + i)) j), nI (pday p)))
    have f8 : Fr LdP nol S6 S8 := by rw [e8]; exact Fr.putI (Or.inr ⟨rfl, rfl⟩)
    refine ⟨rfl, ((hf.tr f5).tr f6').tr f8, ?_⟩
    rw [e8]
    rw [hP5.2.2.1] at hP8 ⊢
    exact hP8
  | succ m ih =>
    intro j S hm hj hf hP z10
    have hS := hS0.of hf.2.2
    have hjl := hst j (by omega)
    refine w55_2 ?_
    refine W_t (by rw [nI_add, i_lt (by omega) (by omega)]; omega) ?_
    refine W_t (hS.k9) ?_
    rw [hP.2.1]
    refine W_I (f57 hw (by omega)) ?_
    have e0 : nI h - nI (hgt (pw p) (c + j)) = nI (h - hgt (pw p) (c + j)) := pk_sub hjl
    rw [e0]
    refine W_t (hS.k9) ?_
    refine W_t (by rw [hS.r9_5, hS.k12, hS.n12]; exact ⟨rfl, inB_n (by omega) (by decide)⟩) ?_
    refine W_t (by rw [hS.r9_5, hS.k12, hS.n12]; exact ⟨rfl, inB_n (by omega) (by decide)⟩) ?_
    refine W_s fun S3 e3 => ?_
    rw [hS.r9_5, nI_clamp (by omega), hP.2.2.2.2.1 (c + j) (by omega), nI_add] at e3
    have f3 : Fr LdP nol S S3 := by rw [e3]; exact Fr.putI (Or.inl ⟨by decide, by decide⟩)
    have hS3 := hS.of f3.2.2
    refine W_t (hS3.k9) ?_
    refine W_t (by rw [hS3.r9_6, hS3.k13, hS3.n13]; exact ⟨rfl, inB_n (by omega) (by decide)⟩) ?_
    refine W_s fun S4 e4 => ?_
    rw [hS3.r9_6, nI_clamp (by omega)] at e4
    have f4 : Fr LdP nol S3 S4 := by rw [e4]; exact Fr.putI (Or.inl ⟨by decide, by decide⟩)
    have hP3 := hP.putHin (k := c + j) (n := phin p (c + j) + (h - hgt (pw p) (c + j))) (v := nI (phin p (c + j) + (h - hgt (pw p) (c + j)))) rfl
    have hcj : ¬ (c ≤ c + j ∧ c + j < c + j) := by omega
    dsimp only [phin] at e3
    rw [if_neg hcj] at e3
    rw [← e3] at hP3
    have hP4 := hP3.putOwn (k := c + j) (n := 1 + ow) (v := nI ow) (by rw [Nat.add_comm, nI_pred])
    rw [← e4] at hP4
    show WP _ _ _
    rw [nI_add, nI_1, hh]
    rw [hh] at hP4
    subst hh
    refine ih (j + 1) S4 (by omega) (by omega) ((hf.tr f3).tr f4) (hP4.cg rfl rfl (fun _ _ => rfl) (fun x hx => ?_) (fun x hx => ?_) rfl) _
    · show (if x = c + j then _ else if c ≤ x ∧ x < c + j then _ else _) = (if c ≤ x ∧ x < c + (j + 1) then _ else _)
      by_cases q : x = c + j
      · rw [if_pos q, if_pos (by omega), q]
      · rw [if_neg q]
        by_cases q2 : c ≤ x ∧ x < c + j
        · rw [if_pos q2, if_pos (by omega)]
        · rw [if_neg q2, if_neg (by omega)]
    · show (if x = c + j then _ else if c ≤ x ∧ x < c + j then _ else _) = (if c ≤ x ∧ x < c + (j + 1) then _ else _)
      by_cases q : x = c + j
      · rw [if_pos q, if_pos (by omega)]
      · rw [if_neg q]
        by_cases q2 : c ≤ x ∧ x < c + j
        · rw [if_pos q2, if_pos (by omega)]
        · rw [if_neg q2, if_neg (by omega)]
theorem f55 {d t a : Nat} {S : St} {T : TD} {E : Env → Int32} {p : Pos} (hS : ShC S) (hP : SiteP S p) (hF : TF S t T E) (hw : okW T (pw p)) (ha : a ∈ actsL T (pw p) (ptn p)) (h6 : ¬ a / 64 = 6) : Sp (F (d + 3) 55 [.ref 9, .ref t, .int (nI a)] S) (fun r S' => r = none ∧ Fr LdP nol S S' ∧ SiteP S' (perL T E p a)) := by
  obtain ⟨ha1, ha2, ha3⟩ := actsL_mem.mp ha
  have hT := hF.1.1
  have hokT := hT.1
  have hW := hokT.1
  obtain ⟨k1, k2, k3⟩ := hT.2.2.2.2.2.2.1
  obtain ⟨⟨t1, t2, t3⟩, t4⟩ := cand_bw hokT ha2 h6
  have hN := hokT.2.2.2.1
  have hks := hokT.2.2.2.2 _ t1
  have htn : ptn p < 2 := Nat.mod_lt _ (by decide)
  refine fw55 (w55_0 ?_)
  refine W_t (hT.2.1) ?_
  refine W_I (f3 (by omega)) ?_
  refine W_t (⟨k1, by rw [k2]; exact inB_n (by omega) (by decide)⟩) ?_
  rw [nI_clamp (by omega), k3 _ t1]
  refine W_I (f4 (by omega)) ?_
  refine W_I (f5) ?_
  refine W_t (hS.k9) ?_
  rw [hP.2.1]
  refine W_I (f57 hw.1 (by omega)) ?_
  have on : ∀ (ow : Nat) (y0 : Int32), y0 = nI ow → ow = ownr (tK T (a / 64)) (ptn p) → WP (P55 (F (d + 2))) (1, [.ref 9, .ref t, .int (nI a), .int (nI (tK T (a / 64))), .int (nI (a / 4 % 16)), .int (nI (a % 4 + 1)), .int (nI (hgt (pw p) (a / 4 % 16))), .null, .null, .null, .null], [.int y0], S) (fun r S' => (gZ S ≤ gZ S' ∧ gU S ≤ gU S') ∧ r = none ∧ Fr LdP nol S S' ∧ SiteP S' (perL T E p a)) := by
    intro ow y0 hy how
    have how2 : ow < 2 := by
      rw [how]
      show (if tK T (a / 64) = 4 then 1 - ptn p else ptn p) < 2
      split <;> omega
    subst hy
    refine w55_1 ?_
    refine W_if (fun q => ?_) (fun q => ?_)
    · simp (disch := omega) only [c0, c1, c2, c3, c4, c5, c6, c7, c8, c9, c10, c_ofNat, i_lt, i_eq, i_le] at q
      have how3 : ow = ptn p := by
        rw [how]
        show (if tK T (a / 64) = 4 then 1 - ptn p else ptn p) = ptn p
        rw [if_neg (by omega)]
      refine W_t (hS.k9) ?_
      refine W_t (by rw [hS.r9_6, hS.k13, hS.n13]; exact ⟨rfl, inB_n (by omega) (by decide)⟩) ?_
      refine W_s fun S1 e1 => ?_
      rw [hS.r9_6, nI_clamp (by omega)] at e1
      have f1 : Fr LdP nol S S1 := by rw [e1]; exact Fr.putI (Or.inl ⟨by decide, by decide⟩)
      have hS1 := hS.of f1.2.2
      have hF1 := hF.fr f1 LdP_dyn
      have hP1 := hP.putOwn (k := a / 4 % 16) (n := 1 + ow) (v := nI ow) (by rw [Nat.add_comm, nI_pred])
      rw [← e1] at hP1
      refine W_t (hS1.k9) ?_
      refine W_t (hF1.1.1.2.1) ?_
      refine W_I (f63 hF1.1.1 t2) ?_
      refine W_t (by rw [hS1.r9_6, hS1.k13, hS1.n13]; exact ⟨rfl, inB_n (by omega) (by decide)⟩) ?_
      refine W_s fun S4 e4 => ?_
      rw [hS1.r9_6, nI_clamp (by omega)] at e4
      have f4 : Fr LdP nol S1 S4 := by rw [e4]; exact Fr.putI (Or.inl ⟨by decide, by decide⟩)
      have hS4 := hS1.of f4.2.2
      have hF4 := hF1.fr f4 LdP_dyn
      have hP4 := hP1.putOwn (k := tW T - 1 - a / 4 % 16) (n := 1 + ow) (v := nI ow) (by rw [Nat.add_comm, nI_pred])
      rw [← e4] at hP4
      refine W_t (hS4.k9) ?_
      refine W_t (hS4.k9) ?_
      refine W_t (hF4.1.1.2.1) ?_
      refine W_t (hS4.k9) ?_
      refine W_t (by rw [hS4.r9_7]; exact hS4.k14) ?_
      rw [hS4.r9_7, hP4.1]
      refine W_Ie (bill_on hS4 hF4) ?_
      rintro v7 S6 ⟨rfl, f6⟩
      have f6' : Fr LdP nol S4 S6 := f6.weak RP_LdP (fun _ _ z => z)
      have hS6 := hS4.of f6.2.2
      refine W_t (hS6.k9) ?_
      refine W_s fun S8 e8 => ?_
      have hP8 := (hP4.fr f6 RP_site (fun z => z)).putBill (v := gI S4 9 3 + E (2, nI (hgt (pw p) (a / 4 % 16)), 0, nI (pday p)))
      have f8 : Fr LdP nol S6 S8 := by rw [e8]; exact Fr.putI (Or.inr ⟨rfl, rfl⟩)
      have ff := ((f1.tr f4).tr f6').tr f8
      refine ⟨ff.mono, rfl, ff, ?_⟩
      rw [e8]
      rw [hP4.2.2.1] at hP8 ⊢
      unfold perL
      rw [if_neg h6, if_pos q, ← how3]
      exact hP8
    · have q : ¬ tK T (a / 64) = 3 := fun z => q (by rw [z]; rfl)
      obtain ⟨g1, g2, g3, g4⟩ := can_stone h6 q ha3
      have hst := st_le hokT t1 t4 g2 g3
      show WP _ _ _
      have := f55_loop (d := d) (t := t) (a := a) (c := a / 4 % 16) (b := a % 4 + 1) (h := hgt (pw p) (a / 4 % 16)) (ow := ow) (x2 := nI a) (x3 := nI (tK T (a / 64))) hS hF hw.1 (by omega) (by omega) rfl how2 hst (a % 4 + 1) 0 S (by omega) (by omega) Fr.rf (hP.cg rfl rfl (fun _ _ => rfl) (fun x _ => by show _ = (if _ then _ else _); rw [if_neg (by omega)]) (fun x _ => by show _ = (if _ then _ else _); rw [if_neg (by omega)]) rfl) .null
      refine WP.mono this ?_
      rintro r S' ⟨rfl, r2, r3⟩
      refine ⟨r2.mono, rfl, r2, ?_⟩
      unfold perL
      rw [if_neg h6, if_neg q, ← how]
      exact r3
  refine W_if (fun q => ?_) (fun q => ?_)
  · simp (disch := omega) only [c0, c1, c2, c3, c4, c5, c6, c7, c8, c9, c10, c_ofNat, i_lt, i_eq, i_le] at q
    refine W_t (hS.k9) ?_
    refine W_I (f50 hS hP) ?_
    refine on (1 - ptn p) _ ?_ ?_
    · rw [c1, pk_sub (by omega)]
    · show _ = (if tK T (a / 64) = 4 then 1 - ptn p else ptn p)
      rw [if_pos q]
  · have q : ¬ tK T (a / 64) = 4 := fun z => q (by rw [z]; rfl)
    refine W_t (hS.k9) ?_
    refine W_I (f50 hS hP) ?_
    refine on (ptn p) _ rfl ?_
    show _ = (if tK T (a / 64) = 4 then 1 - ptn p else ptn p)
    rw [if_neg q]
/-- a good position -/
def okP (T : TD) (p : Pos) : Prop := okW T (pw p) ∧ pday p ≤ fil T (pw p)
theorem okP.day {T : TD} {p : Pos} (hT : okT T) (h : okP T p) : pday p ≤ 60 := by
  have h1 := fil_le hT h.1
  have h2 : tW T * tH T ≤ 10 * 6 := Nat.mul_le_mul hT.1.2 hT.2.1.2
  have := h.2
  omega
theorem okP.perf {T : TD} {E : Env → Int32} {p : Pos} {a : Nat} (hT : okT T) (h : okP T p) (ha : a ∈ actsL T (pw p) (ptn p)) : okP T (perf T E p a) := by
  obtain ⟨ha1, ha2, ha3⟩ := actsL_mem.mp ha
  have htn : ptn p < 2 := Nat.mod_lt _ (by decide)
  have := fil_aft hT h.1 htn ha2 ha3
  refine ⟨h.1.aft hT htn ha2 ha3, ?_⟩
  show pday p + 1 ≤ fil T (aft T (pw p) (ptn p) a)
  have := h.2
  omega
theorem okP.day_lt {T : TD} {p : Pos} {a : Nat} (hT : okT T) (h : okP T p) (ha : a ∈ actsL T (pw p) (ptn p)) : pday p < 60 := by
  have := (h.perf (E := fun _ => 0) hT ha).day hT
  have e : pday (Jvm.Pilot.CTruceWallLaw_law_r1614_95ca75.perf T (fun _ => 0) p a) = pday p + 1 := rfl
  omega
theorem okP_0 (T : TD) : okP T pos0 := ⟨okW_0 T, Nat.zero_le _⟩
theorem can_in {T : TD} {w tn a : Nat} (hT : okT T) (ha2 : cand T a) (ha3 : canA T w tn a) : ¬ a / 64 = 6 → ¬ tK T (a / 64) = 3 → a / 4 % 16 + (a % 4 + 1) ≤ 10 := fun h6 h3 => Nat.le_trans (can_stone h6 h3 ha3).1 hT.1.2
theorem f54 {d t a : Nat} {S : St} {T : TD} {E : Env → Int32} {p : Pos} (hS : ShC S) (hP : SiteP S p) (hF : TF S t T E) (hok : okP T p) (ha : a ∈ actsL T (pw p) (ptn p)) : Sp (F (d + 4) 54 [.ref 9, .ref t, .int (nI a)] S) (fun r S' => r = none ∧ Fr SP SP S S' ∧ SiteP S' (perf T E p a) ∧ ∀ k, gI S' 10 k = if k = pday p then nI a else gI S 10 k) := by
  obtain ⟨ha1, ha2, ha3⟩ := actsL_mem.mp ha
  have hokT := hF.1.1.1
  have hday := hok.day_lt hokT ha
  have htn : ptn p < 2 := Nat.mod_lt _ (by decide)
  refine fw54 (w54_0 ?_)
  refine W_t (hS.k9) ?_
  refine W_t (hS.k9) ?_
  refine W_t (by rw [hS.r9_0, hS.k10]; decide) ?_
  refine W_t (by rw [hS.r9_0, hS.n10, hP.1, c_ofNat, i_lt (by omega) (by omega)]; omega) ?_
  refine W_I (f2 (by omega)) ?_
  have on : ∀ S3 : St, Fr LdP nol S S3 → SiteP S3 (perL T E p a) → WP (P54 (F (d + 3))) (1, [.ref 9, .ref t, .int (nI a)], [], S3) (fun r S' => (gZ S ≤ gZ S' ∧ gU S ≤ gU S') ∧ r = none ∧ Fr SP SP S S' ∧ SiteP S' (perf T E p a) ∧ ∀ k, gI S' 10 k = if k = pday p then nI a else gI S 10 k) := by
    intro S3 f3 hP3
    have hS3 := hS.of f3.2.2
    have hF3 := hF.fr f3 LdP_dyn
    have ew : pw (perL T E p a) = pw p := by unfold perL; split <;> (try split) <;> rfl
    have ed : pday (perL T E p a) = pday p := by unfold perL; split <;> (try split) <;> rfl
    refine w54_1 ?_
    refine W_t (hS3.k9) ?_
    refine W_t (hS3.k9) ?_
    refine W_I (f50 hS3 hP3) ?_
    refine W_t (hF3.1.1.2.1) ?_
    rw [hP3.2.1, ew, show ptn (perL T E p a) = ptn p from by show pday (perL T E p a) % 2 = _; rw [ed]]
    refine W_L (f73 hF3.1.1 hok.1.1 htn (cand_va hokT ha2) (can_in hokT ha2 ha3)) ?_
    refine W_t (hS3.k9) ?_
    refine W_s fun S5 e5 => ?_
    have hP5 := hP3.putW (v := lN (aft T (pw p) (ptn p) a)) rfl
    rw [← e5] at hP5
    have f5 : Fr SP SP S3 S5 := by rw [e5]; exact Fr.putL ⟨by decide, by decide⟩
    have hS5 := hS3.of f5.2.2
    refine W_t (hS5.k9) ?_
    refine W_t (hS5.k9) ?_
    refine W_t (by rw [hS5.r9_0, hS5.k10, hS5.n10, hP5.1]; exact ⟨rfl, inB_n (by show pday (perL T E p a) < 60; omega) (by decide)⟩) ?_
    refine W_s fun S6 e6 => ?_
    rw [hS5.r9_0, hP5.1, nI_clamp (by show pday (perL T E p a) < _; omega), show pday (aft T (pw p) (ptn p) a, pbill (perL T E p a), phof (perL T E p a), phin (perL T E p a), pown (perL T E p a), pday (perL T E p a)) = pday p from ed] at e6
    have f6 : Fr (fun a _ => a = 10) nol S5 S6 := by rw [e6]; exact Fr.putI rfl
    have f6' : Fr SP SP S5 S6 := f6.weak (fun a k z => by have z : a = 10 := z; show 9 ≤ a ∧ a ≤ 15; omega) (fun _ _ z => z.elim)
    have hS6 := hS5.of f6.2.2
    have hP6 := hP5.fr f6 (fun a k z => by have z : a = 10 := z; omega) (fun z => z)
    refine W_t (hS6.k9) ?_
    refine W_t (hS6.k9) ?_
    refine W_s fun S7 e7 => ?_
    have hP7 := hP6.putDay (v := gI S6 9 1 + 1) (n := pday p + 1) (by rw [hP6.1, nI_1]; exact congrArg (fun n => nI (n + 1)) ed)
    rw [← e7] at hP7
    have f7 : Fr SP SP S6 S7 := by rw [e7]; exact SP_i (by decide) (by decide)
    have ff : Fr SP SP S S7 := (((f3.weak LdP_SP (fun _ _ z => z.elim)).tr f5).tr f6').tr f7
    refine ⟨ff.mono, rfl, ff, hP7, fun k => ?_⟩
    rw [e7, gI_pI, if_neg (by omega), e6, gI_pI]
    by_cases q : k = pday p
    · rw [if_pos ⟨rfl, q⟩, if_pos q]
    · rw [if_neg (fun z => q z.2), if_neg q, e5, gI_pL, f3.1 _ _ (by show ¬ ((11 ≤ 10 ∧ 10 ≤ 15) ∨ (10 = 9 ∧ k = 3)); omega)]
  refine W_if (fun q => ?_) (fun q => ?_)
  · have h6 : ¬ a / 64 = 6 := fun z => by rw [if_pos z] at q; exact absurd q (by decide)
    refine W_t (hS.k9) ?_
    refine W_Ve (f55 hS hP hF hok.1 ha h6) ?_
    rintro S3 ⟨f3, hP3⟩
    exact on S3 f3 hP3
  · have h6 : a / 64 = 6 := Classical.byContradiction fun z => by rw [if_neg z] at q; exact q rfl
    refine on S Fr.rf ?_
    unfold perL
    rw [if_pos h6]
    exact hP
/-- a run of acts that can be done, from a position on -/
def lgl (T : TD) (E : Env → Int32) : Pos → List Nat → Prop
  | _, [] => True
  | p, a :: A => a ∈ actsL T (pw p) (ptn p) ∧ lgl T E (perf T E p a) A
theorem lgl_app {T : TD} {E : Env → Int32} : ∀ {A B : List Nat} {p : Pos}, lgl T E p (A ++ B) ↔ lgl T E p A ∧ lgl T E (A.foldl (perf T E) p) B
  | [], B, p => by simp [lgl]
  | a :: A, B, p => by
    show (_ ∧ lgl T E _ (A ++ B)) ↔ ((_ ∧ lgl T E _ A) ∧ _)
    rw [lgl_app, and_assoc]
    rfl
theorem lgl_ok {T : TD} {E : Env → Int32} (hT : okT T) : ∀ {A : List Nat} {p : Pos}, okP T p → lgl T E p A → okP T (A.foldl (perf T E) p) ∧ pday (A.foldl (perf T E) p) = pday p + A.length
  | [], p, h, _ => ⟨h, rfl⟩
  | a :: A, p, h, hl => by
    obtain ⟨h1, h2⟩ := lgl_ok hT (A := A) (h.perf (E := E) hT hl.1) hl.2
    refine ⟨h1, ?_⟩
    show pday (A.foldl (perf T E) (perf T E p a)) = _
    rw [h2]
    show pday p + 1 + A.length = pday p + (a :: A).length
    simp
    omega
theorem f53_loop {d t n : Nat} {S0 : St} {T : TD} {E : Env → Int32} (hS0 : ShC S0) (hF0 : TF S0 t T E) (hn : n < 2 ^ 31) : ∀ (B A : List Nat) (S : St), n = A.length + B.length → lgl T E pos0 (A ++ B) → Fr SP SP S0 S → SiteP S (A.foldl (perf T E) pos0) → HL S 10 (A ++ B) → WP (P53 (F (d + 4))) (1, [.ref 9, .ref t, .int (nI n), .int (nI A.length)], [], S) (fun r S' => r = none ∧ Fr SP SP S0 S' ∧ SiteP S' ((A ++ B).foldl (perf T E) pos0) ∧ HL S' 10 (A ++ B) ∧ ∀ k, gI S' 10 k = gI S 10 k) := by
  intro B
  induction B with
  | nil =>
    intro A S hlen hl hf hP hL
    refine w53_1 ?_
    refine W_f (by rw [i_lt (by omega) (by omega)]; simp at hlen; omega) ?_
    rw [List.append_nil] at hL ⊢
    exact ⟨rfl, hf, hP, hL, fun _ => rfl⟩
  | cons a B ih =>
    intro A S hlen hl hf hP hL
    have hS := hS0.of hf.2.2
    have hF := hF0.fr hf SP_dyn
    have hokT := hF.1.1.1
    obtain ⟨hl1, hl2⟩ := lgl_app.mp hl
    obtain ⟨ok1, ok2⟩ := lgl_ok hokT (okP_0 T) hl1
    have ok2 : pday (A.foldl (perf T E) pos0) = A.length := by rw [ok2]; show 0 + _ = _; omega
    have hday := ok1.day_lt hokT hl2.1
    have hget : gI S 10 A.length = nI a := hL A.length a (by rw [List.getElem?_append_right (Nat.le_refl _)]; simp)
    simp only [List.length_cons] at hlen
    refine w53_1 ?_
    refine W_t (by rw [i_lt (by omega) (by omega)]; omega) ?_
    refine W_t (hS.k9) ?_
    refine W_t (by rw [hS.r9_0, hS.k10]; decide) ?_
    refine W_t (by rw [hS.r9_0, hS.n10, c_ofNat, i_lt (by omega) (by omega)]; omega) ?_
    refine W_t (hS.k9) ?_
    refine W_t (by rw [hS.r9_0, hS.k10, hS.n10]; exact ⟨rfl, inB_n (by omega) (by decide)⟩) ?_
    refine W_t (hS.k9) ?_
    rw [hS.r9_0, nI_clamp (by omega), hget]
    refine W_Ve (f54 hS hP hF ok1 hl2.1) ?_
    rintro S1 ⟨f1, hP1, hg1⟩
    show WP _ _ _
    have e10 : ∀ k, gI S1 10 k = gI S 10 k := fun k => by
      rw [hg1, ok2]
      by_cases q : k = A.length
      · rw [if_pos q, q, hget]
      · rw [if_neg q]
    rw [nI_1]
    have := ih (A ++ [a]) S1 (by simp; omega) (by simpa using hl) (hf.tr f1) (by rw [List.foldl_append]; exact hP1) (fun i v hv => by rw [e10]; exact hL i v (by simpa using hv))
    rw [show (A ++ [a]).length = A.length + 1 by simp, List.append_assoc] at this
    refine WP.mono this ?_
    rintro r S' ⟨r1, r2, r3, r4, r5⟩
    exact ⟨r1, r2, r3, r4, fun k => by rw [r5, e10]⟩
theorem f53 {d t n : Nat} {S : St} {T : TD} {E : Env → Int32} {A : List Nat} (hS : ShC S) (hF : TF S t T E) (hl : lgl T E pos0 A) (hL : HL S 10 A) (hn : A.length = n) (hn2 : n < 2 ^ 31) : Sp (F (d + 5) 53 [.ref 9, .ref t, .int (nI n)] S) (fun r S' => r = none ∧ Fr SP SP S S' ∧ SiteP S' (A.foldl (perf T E) pos0) ∧ HL S' 10 A ∧ ∀ k, gI S' 10 k = gI S 10 k) := by
  refine fw53 (w53_0 ?_)
  refine W_t (hS.k9) ?_
  refine W_Ve (f51 hS) ?_
  rintro S1 ⟨f1, hP1, hg1⟩
  show WP _ _ _
  have := f53_loop (d := d) (hS.of f1.2.2) (hF.fr f1 SP_dyn) hn2 A [] S1 (by simp [hn]) hl Fr.rf hP1 (fun i v hv => by rw [hg1]; exact hL i v hv)
  refine WP.mono this ?_
  rintro r S' ⟨r1, r2, r3, r4, r5⟩
  exact ⟨(f1.tr r2).mono, r1, f1.tr r2, r3, r4, fun k => by rw [r5, hg1]⟩
theorem f52 {d x : Nat} {S : St} (hS : ShC S) (hx : gK S x = 100) (hn : gN S x = 60) : Sp (F (d + 1) 52 [.ref 9, .ref x] S) (fun r S' => r = none ∧ Fr (fun a _ => a = 10) nol S S' ∧ ∀ k, k < 60 → gI S' 10 k = gI S x k) := by
  refine fw52 (w52_0 ?_)
  refine W_t (hS.k9) ?_
  refine W_t (by rw [hS.r9_0, hS.k10, hS.n10, hx, hn]; decide +kernel) ?_
  refine W_s fun S1 e1 => ?_
  rw [hS.r9_0, show (0 : Int32).toNatClampNeg = 0 from by decide +kernel, show (60 : Int32).toNatClampNeg = 60 from by decide +kernel] at e1
  have f1 : Fr (fun a _ => a = 10) nol S S1 := by
    rw [e1]
    exact ⟨fun a k h => by rw [gI_cpI, if_neg (fun z => h z.1)], fun _ _ _ => rfl, rfl⟩
  refine ⟨f1.mono, rfl, f1, fun k hk => ?_⟩
  rw [e1, gI_cpI, if_pos ⟨rfl, by omega, by omega⟩]
  simp
