/-! the reference's does, nothing, copies, begins, keeps -/
/-- all of a position that a row can hold -/
def RE (S : St) (o : Nat) (p : Pos) : Prop := (∀ c, c < 10 → gI S 63 (o + 10 + c) = nI (gat (pw p) c)) ∧ (∀ c, c < 10 → gI S 63 (o + 20 + c) = nI (phin p c)) ∧ (∀ c, c < 10 → gI S 63 (o + 30 + c) = nI (pown p c)) ∧ gI S 63 (o + 46) = pbill p ∧ ∀ t, t < 2 → gI S 63 (o + 47 + t) = nI (phof p t)
/-- a row that has been looked at -/
def RoL (S : St) (o : Nat) (T : TD) (w tn day : Nat) : Prop := RoW S o T w tn ∧ gI S 63 (o + 43) = nI (pys T w tn) ∧ gI S 63 (o + 44) = bi (closed T w) ∧ gI S 63 (o + 45) = nI day
theorem RE.fr {S S' : St} {o : Nat} {p : Pos} {P PL : Nat → Nat → Prop} (h : RE S o p) (f : Fr P PL S S') (hn : ∀ k, o ≤ k → k < o + 64 → k ≠ o + 43 → k ≠ o + 44 → ¬ P 63 k) : RE S' o p := by
  obtain ⟨h1, h2, h3, h4, h5⟩ := h
  exact ⟨fun c hc => by rw [f.1 _ _ (hn _ (by omega) (by omega) (by omega) (by omega))]; exact h1 c hc, fun c hc => by rw [f.1 _ _ (hn _ (by omega) (by omega) (by omega) (by omega))]; exact h2 c hc, fun c hc => by rw [f.1 _ _ (hn _ (by omega) (by omega) (by omega) (by omega))]; exact h3 c hc, by rw [f.1 _ _ (hn _ (by omega) (by omega) (by omega) (by omega))]; exact h4, fun c hc => by rw [f.1 _ _ (hn _ (by omega) (by omega) (by omega) (by omega))]; exact h5 c hc⟩
theorem RoL.fr {S S' : St} {o : Nat} {T : TD} {w tn day : Nat} {P PL : Nat → Nat → Prop} (h : RoL S o T w tn day) (f : Fr P PL S S') (hn : ∀ k, o ≤ k → k < o + 64 → ¬ P 63 k) : RoL S' o T w tn day := by
  obtain ⟨h1, h2, h3, h4⟩ := h
  exact ⟨h1.fr f (fun k a b => hn k a (by omega)), by rw [f.1 _ _ (hn _ (by omega) (by omega))]; exact h2, by rw [f.1 _ _ (hn _ (by omega) (by omega))]; exact h3, by rw [f.1 _ _ (hn _ (by omega) (by omega))]; exact h4⟩
abbrev sI (a : Nat) : Int32 := if a / 64 = 6 then -2 else nI (a / 64)
abbrev bI (a : Nat) : Int32 := if a / 64 = 6 then 0 else nI (a % 4 + 1)
abbrev DoP (o : Nat) : Nat → Nat → Prop := fun a k => (a = 63 ∧ o ≤ k ∧ k < o + 64) ∨ (53 ≤ a ∧ a ≤ 62) ∨ AcP a k
set_option maxRecDepth 4096 in
theorem m2_ne {n : Nat} (h : n < 2 ^ 31) : nI n ≠ -2 := fun e => by
  have h1 := nI_toInt h
  rw [e] at h1
  have : (-2 : Int32).toInt = -2 := by decide
  omega
section REF
variable {S : St} {T : TD} {o w tn : Nat}
theorem RT.do' {S S' : St} {T : TD} (h : RT S T) (f : Fr (DoP o) nol S S') : RT S' T := h.fr f (fun a k z => by rcases z with z | z | z <;> omega)
theorem RC.do' {S S' : St} {E : Env → Int32} (h : RC S E) (f : Fr (DoP o) nol S S') : RC S' E := h.fr f (fun a k z => by rcases z with z | z | z <;> omega)
set_option maxRecDepth 4096 in
theorem f154 {d a day : Nat} {E : Env → Int32} (hM : ShM S) (hR : RT S T) (hC : RC S E) (hrow : RoL S o T w tn day) (ho : o + 64 ≤ 2560) (hw : okW T w) (ht : tn < 2) (hday : day < 1000) (ha : a ∈ actsL T w tn) : Sp (F (d + 7) 154 [.ref 39, .int (nI o), .int (sI a), .int (nI (a / 4 % 16)), .int (bI a)] S) (fun v S' => v = none ∧ Fr (DoP o) nol S S' ∧ RoL S' o T (aft T w tn a) (1 - tn) (day + 1) ∧ ∀ p, pw p = w → ptn p = tn → pday p = day → RE S o p → RE S' o (perf T E p a)) := by
  have hT := hR.1
  have hW := hT.1
  have hH := hT.2.1
  have hN := hT.2.2.2.1
  obtain ⟨a1, a2, a3⟩ := actsL_mem.mp ha
  have hok := hw.aft hT ht a2 a3
  have hgb := aft_gbit hT hw.1 ht a2 a3
  have hc : a / 4 % 16 < tW T := cand_col a2
  -- behind the act itself: the day, the turn, looks
  have one : ∀ (S3 : St) (x2 x3 x4 : Int32), Fr (DoP o) nol S S3 → (∀ x, x < 10 → gI S3 63 (o + x) = nI (hgt (aft T w tn a) x)) → (∀ x, x < 10 → ∃ g, g ≤ 2 ∧ gI S3 63 (o + 10 + x) = nI g ∧ (g = 0 ↔ gat (aft T w tn a) x = 0)) → (∀ t, t < 2 → gI S3 63 (o + 40 + t) = nI (tG T - gbit (aft T w tn a) t)) → gI S3 63 (o + 45) = nI day → (∀ p, pw p = w → ptn p = tn → pday p = day → RE S o p → RE S3 o (perf T E p a)) → WP (P154 (F (d + 6))) (1, [.ref 39, .int (nI o), .int x2, .int x3, .int x4, .int (nI tn)], [], S3) (fun v S' => (gZ S ≤ gZ S' ∧ gU S ≤ gU S') ∧ v = none ∧ Fr (DoP o) nol S S' ∧ RoL S' o T (aft T w tn a) (1 - tn) (day + 1) ∧ ∀ p, pw p = w → ptn p = tn → pday p = day → RE S o p → RE S' o (perf T E p a)) := by
    intro S3 x2 x3 x4 f3 r1 r2 r3 r4 r5
    have hM3 := hM.fr f3
    refine w154_1 ?_
    simp only [hM3.k39, hM3.r39_36, hM3.k63, hM3.n63, z0c, eq_self, if_true, Nat.reduceAdd, true_and]
    rw [k45, nI_add]
    refine W_t (inB_n (by omega) (by decide)) ?_
    refine W_t (inB_n (by omega) (by decide)) ?_
    rw [nI_clamp (n := o + 45) (by omega), r4, nI_1]
    refine W_s fun S4 g4 => ?_
    have f4 : Fr (DoP o) nol S3 S4 := by rw [g4]; exact Fr.putI (Or.inl ⟨rfl, by omega, by omega⟩)
    have hM4 := hM3.fr f4
    simp only [hM4.k39, hM4.r39_36, hM4.k63, hM4.n63, z0c, eq_self, if_true, Nat.reduceAdd, true_and]
    rw [k42, nI_add, i_1m ht]
    refine W_t (inB_n (by omega) (by decide)) ?_
    rw [nI_clamp (by omega)]
    refine W_s fun S5 g5 => ?_
    have f5 : Fr (DoP o) nol S4 S5 := by rw [g5]; exact Fr.putI (Or.inl ⟨rfl, by omega, by omega⟩)
    have hM5 := hM4.fr f5
    have fa := (f3.tr f4).tr f5
    have hR5 := hR.do' fa
    have k63 : ∀ k, k ≠ o + 42 → k ≠ o + 45 → gI S5 63 k = gI S3 63 k := fun k z1 z2 => by rw [g5, gI_pI, if_neg (fun z => z1 z.2), g4, gI_pI, if_neg (fun z => z2 z.2)]
    have hrow5 : RoW S5 o T (aft T w tn a) (1 - tn) := by
      refine ⟨fun x hx => ?_, fun x hx => ?_, fun t ht' => ?_, ?_⟩
      · rw [k63 _ (by omega) (by omega)]; exact r1 x hx
      · rw [k63 _ (by omega) (by omega)]; exact r2 x hx
      · rw [k63 _ (by omega) (by omega)]; exact r3 t ht'
      · rw [g5, gI_pI, if_pos ⟨rfl, rfl⟩]
    have h45 : gI S5 63 (o + 45) = nI (day + 1) := by rw [g5, gI_pI, if_neg (by omega), g4, gI_pI, if_pos ⟨rfl, rfl⟩]
    simp only [hM5.k39, z0c, eq_self, if_true, Nat.reduceAdd, true_and]
    refine W_Ve (f142 (d := d) hM5 hR5 hrow5 ho hok (by omega) (by omega) h45 (fun _ => by omega)) ?_
    rintro S6 ⟨f6, e44, e43⟩
    have f6' : Fr (DoP o) nol S5 S6 := f6.weak (fun a k z => by
      rcases z with z | z
      · exact Or.inl ⟨z.1, by omega, by omega⟩
      · exact Or.inr (Or.inr z)) (fun a k z => z)
    refine ⟨(fa.tr f6').mono, rfl, fa.tr f6', ⟨hrow5.fr f6 (fun k h1 h2 z => by rcases z with z | z <;> omega), e43, e44, by rw [f6.1 _ _ (by show ¬ (_ ∨ _); omega)]; exact h45⟩, fun p p1 p2 p3 p4 => ?_⟩
    have := r5 p p1 p2 p3 p4
    have t5 : RE S5 o (perf T E p a) := ⟨fun c hc => by rw [k63 _ (by omega) (by omega)]; exact this.1 c hc, fun c hc => by rw [k63 _ (by omega) (by omega)]; exact this.2.1 c hc, fun c hc => by rw [k63 _ (by omega) (by omega)]; exact this.2.2.1 c hc, by rw [k63 _ (by omega) (by omega)]; exact this.2.2.2.1, fun c hc => by rw [k63 _ (by omega) (by omega)]; exact this.2.2.2.2 c hc⟩
    exact t5.fr f6 (fun k h1 h2 h3 h4 z => by rcases z with z | z <;> omega)
  obtain ⟨hr, hr43, hr44, hr45⟩ := hrow
  refine fw154 (w154_0 ?_)
  simp only [hM.k39, hM.r39_36, hM.k63, hM.n63, z0c, eq_self, if_true, Nat.reduceAdd, true_and]
  rw [k42, nI_add]
  refine W_t (inB_n (by omega) (by decide)) ?_
  rw [nI_clamp (n := o + 42) (by omega), hr.2.2.2]
  refine W_si fun v e => ?_
  subst e
  by_cases h6 : a / 64 = 6
  · have es : sI a = -2 := if_pos h6
    have hat := aft_gate hT hw.1 ht ha h6
    obtain ⟨g1, g2, g3⟩ := can_gate h6 a3
    rw [es]
    refine W_t (rfl) ?_
    rw [c10, nI_add, nI_add]
    refine W_t (inB_n (by omega) (by decide)) ?_
    rw [nI_clamp (n := o + 10 + a / 4 % 16) (by omega), c1, nI_add]
    refine W_s fun S2 e2 => ?_
    have f2 : Fr (DoP o) nol S S2 := by rw [e2]; exact Fr.putI (Or.inl ⟨rfl, by omega, by omega⟩)
    have hM2 := hM.fr f2
    simp only [hM2.k39, hM2.r39_36, hM2.k63, hM2.n63, z0c, eq_self, if_true, Nat.reduceAdd, true_and]
    rw [k40, nI_add, nI_add]
    refine W_t (inB_n (by omega) (by decide)) ?_
    refine W_t (inB_n (by omega) (by decide)) ?_
    rw [nI_clamp (n := o + 40 + tn) (by omega)]
    have hl : gI S2 63 (o + 40 + tn) = nI (tG T - gbit w tn) := by rw [e2, gI_pI, if_neg (by omega)]; exact hr.2.2.1 tn ht
    rw [hl, pk_sub (by omega)]
    refine W_s fun S3 e3 => ?_
    have f3 : Fr (DoP o) nol S2 S3 := by rw [e3]; exact Fr.putI (Or.inl ⟨rfl, by omega, by omega⟩)
    have k63 : ∀ k, k ≠ o + 10 + a / 4 % 16 → k ≠ o + 40 + tn → gI S3 63 k = gI S 63 k := fun k z1 z2 => by rw [e3, gI_pI, if_neg (fun z => z2 z.2), e2, gI_pI, if_neg (fun z => z1 z.2)]
    have hG := hT.2.2.1
    show WP _ _ _
    refine one S3 _ _ _ (f2.tr f3) (fun x hx => ?_) (fun x hx => ?_) (fun t ht' => ?_) ?_ (fun p p1 p2 p3 p4 => ?_)
    · rw [k63 _ (by omega) (by omega), (hat x hx).1]; exact hr.1 x hx
    · rw [(hat x hx).2]
      by_cases ex : x = a / 4 % 16
      · refine ⟨1 + tn, by omega, ?_, ?_⟩
        · rw [e3, gI_pI, if_neg (by omega), e2, gI_pI, if_pos ⟨rfl, by omega⟩]
        · rw [if_pos ex]
      · rw [k63 _ (by omega) (by omega), if_neg ex]; exact hr.2.1 x hx
    · rw [hgb t]
      by_cases et : t = tn
      · rw [if_pos ⟨h6, et⟩, e3, gI_pI, if_pos ⟨rfl, by omega⟩]
        congr 1
        omega
      · rw [if_neg (fun z => et z.2), k63 _ (by omega) (by omega)]; exact hr.2.2.1 t ht'
    · rw [k63 _ (by omega) (by omega)]; exact hr45
    · obtain ⟨q1, q2, q3, q4, q5⟩ := p4
      have ep : perL T E p a = p := if_pos h6
      refine ⟨fun c hc => ?_, fun c hc => ?_, fun c hc => ?_, ?_, fun t ht' => ?_⟩
      · show _ = nI (gat (aft T (pw p) (ptn p) a) c)
        rw [p1, p2, (hat c hc).2]
        by_cases ex : c = a / 4 % 16
        · rw [if_pos ex, e3, gI_pI, if_neg (by omega), e2, gI_pI, if_pos ⟨rfl, by omega⟩]
        · rw [if_neg ex, k63 _ (by omega) (by omega), q1 c hc, p1]
      · show _ = nI (phin (perL T E p a) c)
        rw [ep, k63 _ (by omega) (by omega)]; exact q2 c hc
      · show _ = nI (pown (perL T E p a) c)
        rw [ep, k63 _ (by omega) (by omega)]; exact q3 c hc
      · show _ = pbill (perL T E p a)
        rw [ep, k63 _ (by omega) (by omega)]; exact q4
      · show _ = nI (phof (perL T E p a) t)
        rw [ep, k63 _ (by omega) (by omega)]; exact q5 t ht'
  · have es : sI a = nI (a / 64) := if_neg h6
    have eb : bI a = nI (a % 4 + 1) := if_neg h6
    obtain ⟨s1, s2, s3, s4, s5⟩ := act_s hT ha h6
    rw [es, eb]
    refine W_f (m2_ne (by omega)) ?_
    refine W_Ve (f153 (d := d + 2) hM hR hC hr ho hw ht ha h6) ?_
    rintro S2 ⟨f2, j1, j2, j3, j4, j5⟩
    have f2' : Fr (DoP o) nol S S2 := f2.weak (fun a k z => by
      rcases z with z | z
      · exact Or.inl ⟨z.1, by omega, by omega⟩
      · exact Or.inr (Or.inl z)) (fun a k z => z)
    have k63 : ∀ k, (o + 10 ≤ k ∧ k < o + 20) ∨ (o + 40 ≤ k ∧ k ≤ o + 45) → gI S2 63 k = gI S 63 k := fun k z => f2.1 _ _ (fun y => by rcases y with y | y <;> omega)
    have hga : ∀ x, x < 10 → gat (aft T w tn a) x = gat w x := fun x hx => by
      by_cases h3 : tK T (a / 64) = 3
      · exact (aft_twin hT hw.1 ht ha h6 h3 x hx).2
      · exact (aft_stone hT hw.1 ht ha h6 h3 x hx).2
    show WP _ _ _
    refine one S2 _ _ _ f2' j1 (fun x hx => ?_) (fun t ht' => ?_) ?_ (fun p p1 p2 p3 p4 => ?_)
    · rw [k63 _ (by omega), hga x hx]; exact hr.2.1 x hx
    · rw [k63 _ (by omega), hgb t, if_neg (fun z => h6 z.1)]; exact hr.2.2.1 t ht'
    · rw [k63 _ (by omega)]; exact hr45
    · obtain ⟨q1, q2, q3, q4, q5⟩ := p4
      refine ⟨fun c hc => ?_, fun c hc => ?_, fun c hc => ?_, ?_, fun t ht' => ?_⟩
      · show _ = nI (gat (aft T (pw p) (ptn p) a) c)
        rw [p1, p2, hga c hc, k63 _ (by omega), q1 c hc, p1]
      · show _ = nI (phin (perL T E p a) c)
        rw [j2 c hc]
        by_cases h3 : tK T (a / 64) = 3
        · have ep : phin (perL T E p a) = phin p := by unfold perL; rw [if_neg h6, if_pos h3]
          have hb : a % 4 + 1 = 1 := by
            have := (hT.2.2.2.2 (a / 64) s1).2.2.2.2 (Or.inr h3)
            rcases s4.2.2 with z | z <;> omega
          rw [ep]
          by_cases ex : a / 4 % 16 ≤ c ∧ c < a / 4 % 16 + (a % 4 + 1)
          · rw [if_pos ex, show c = a / 4 % 16 by omega, pk_sub (Nat.le_refl _), q2 _ (by omega), nI_add]
            congr 1
            omega
          · rw [if_neg ex]; exact q2 c hc
        · have ep : phin (perL T E p a) c = if a / 4 % 16 ≤ c ∧ c < a / 4 % 16 + (a % 4 + 1) then phin p c + (hgt (pw p) (a / 4 % 16) - hgt (pw p) c) else phin p c := by unfold perL; rw [if_neg h6, if_neg h3]
          rw [ep, p1]
          by_cases ex : a / 4 % 16 ≤ c ∧ c < a / 4 % 16 + (a % 4 + 1)
          · have hl := act_low hT ha h6 h3 (c - a / 4 % 16) (by omega)
            rw [show a / 4 % 16 + (c - a / 4 % 16) = c by omega] at hl
            rw [if_pos ex, if_pos ex, q2 c hc, pk_sub hl, nI_add]
          · rw [if_neg ex, if_neg ex]; exact q2 c hc
      · show _ = nI (pown (perL T E p a) c)
        rw [j3 c hc]
        by_cases h3 : tK T (a / 64) = 3
        · have ep : pown (perL T E p a) = up1 (up1 (pown p) (a / 4 % 16) (1 + ptn p)) (tW T - 1 - a / 4 % 16) (1 + ptn p) := by unfold perL; rw [if_neg h6, if_pos h3]
          have hb : a % 4 + 1 = 1 := by
            have := (hT.2.2.2.2 (a / 64) s1).2.2.2.2 (Or.inr h3)
            rcases s4.2.2 with z | z <;> omega
          have eo : ownr (tK T (a / 64)) tn = tn := if_neg (by omega)
          rw [ep, p2, eo]
          show _ = nI (if c = tW T - 1 - a / 4 % 16 then 1 + tn else if c = a / 4 % 16 then 1 + tn else pown p c)
          by_cases e1 : c = tW T - 1 - a / 4 % 16
          · rw [if_pos (Or.inr ⟨h3, e1⟩), if_pos e1]
          · by_cases e2 : c = a / 4 % 16
            · rw [if_pos (Or.inl (by omega)), if_neg e1, if_pos e2]
            · rw [if_neg (by omega), if_neg e1, if_neg e2]; exact q3 c hc
        · have ep : pown (perL T E p a) c = if a / 4 % 16 ≤ c ∧ c < a / 4 % 16 + (a % 4 + 1) then 1 + ownr (tK T (a / 64)) (ptn p) else pown p c := by unfold perL; rw [if_neg h6, if_neg h3]
          rw [ep, p2]
          by_cases ex : a / 4 % 16 ≤ c ∧ c < a / 4 % 16 + (a % 4 + 1)
          · rw [if_pos ex, if_pos (Or.inl ex)]
          · rw [if_neg ex, if_neg]
            · exact q3 c hc
            · rintro (z | z)
              · exact ex z
              · exact h3 z.1
      · show _ = pbill (perL T E p a)
        rw [j4, q4, hr45]
        by_cases h3 : tK T (a / 64) = 3
        · have ep : pbill (perL T E p a) = pbill p + E (2, nI (hgt (pw p) (a / 4 % 16)), 0, nI (pday p)) := by unfold perL; rw [if_neg h6, if_pos h3]
          have hb : a % 4 + 1 = 1 := by
            have := (hT.2.2.2.2 (a / 64) s1).2.2.2.2 (Or.inr h3)
            rcases s4.2.2 with z | z <;> omega
          have eh : hols w (a / 4 % 16) 1 = 0 := by
            show 0 + (hgt w (a / 4 % 16) - hgt w (a / 4 % 16 + 0)) = 0
            rw [Nat.add_zero]; omega
          rw [ep, if_pos h3, p1, p3, hb, eh]
          rfl
        · have ep : pbill (perL T E p a) = pbill p + E (nI (a % 4 + 1), nI (hgt (pw p) (a / 4 % 16)), nI (hols (pw p) (a / 4 % 16) (a % 4 + 1)), nI (pday p)) := by unfold perL; rw [if_neg h6, if_neg h3]
          rw [ep, if_neg h3, p1, p3]
      · show _ = nI (phof (perL T E p a) t)
        rw [j5 t ht']
        by_cases h3 : tK T (a / 64) = 3
        · have ep : phof (perL T E p a) = phof p := by unfold perL; rw [if_neg h6, if_pos h3]
          have hb : a % 4 + 1 = 1 := by
            have := (hT.2.2.2.2 (a / 64) s1).2.2.2.2 (Or.inr h3)
            rcases s4.2.2 with z | z <;> omega
          have eh : hols w (a / 4 % 16) 1 = 0 := by
            show 0 + (hgt w (a / 4 % 16) - hgt w (a / 4 % 16 + 0)) = 0
            rw [Nat.add_zero]; omega
          rw [ep, hb, eh, q5 t ht']
          split
          · rw [nI_add]
            rfl
          · rfl
        · have ep : phof (perL T E p a) = up1 (phof p) (ownr (tK T (a / 64)) (ptn p)) (phof p (ownr (tK T (a / 64)) (ptn p)) + hols (pw p) (a / 4 % 16) (a % 4 + 1)) := by unfold perL; rw [if_neg h6, if_neg h3]
          rw [ep, p2, p1]
          show _ = nI (if t = ownr (tK T (a / 64)) tn then _ else phof p t)
          by_cases ex : t = ownr (tK T (a / 64)) tn
          · rw [if_pos ex, if_pos ex, q5 t ht', nI_add, ex]
          · rw [if_neg ex, if_neg ex]; exact q5 t ht'
set_option maxRecDepth 4096 in
/-- nothing: an empty row -/
theorem f140 {d : Nat} (hM : ShM S) (hR : RT S T) (ho : o + 64 ≤ 2560) : Sp (F (d + 1) 140 [.ref 39, .int (nI o)] S) (fun v S' => v = none ∧ Fr (DoP o) nol S S' ∧ RoW S' o T 0 0 ∧ RE S' o pos0 ∧ gI S' 63 (o + 45) = nI 0) := by
  have hG := hR.1.2.2.1
  refine fw140 (w140_0 ?_)
  have key : ∀ (n k : Nat) (S1 : St), n = 64 - k → k ≤ 64 → Fr (DoP o) nol S S1 → (∀ j, j < k → gI S1 63 (o + j) = 0) → WP (P140 (F d)) (1, [.ref 39, .int (nI o), .int (nI k)], [], S1) (fun v S' => (gZ S ≤ gZ S' ∧ gU S ≤ gU S') ∧ v = none ∧ Fr (DoP o) nol S S' ∧ RoW S' o T 0 0 ∧ RE S' o pos0 ∧ gI S' 63 (o + 45) = nI 0) := by
    intro n
    induction n with
    | zero =>
      intro k S1 hn hk f1 h0
      have e : k = 64 := by omega
      subst e
      have hM1 := hM.fr f1
      have hR1 := hR.do' f1
      refine w140_1 ?_
      refine W_f (by decide +kernel) ?_
      simp only [hM1.k39, hM1.r39_13, hM1.k44, hM1.n44, hM1.r39_36, hM1.k63, hM1.n63, z0c, eq_self, if_true, Nat.reduceAdd, true_and]
      rw [k40, nI_add]
      refine W_t (in0 (by decide) (by decide)) ?_
      refine W_t (inB_n (by omega) (by decide)) ?_
      rw [nI_clamp (n := o + 40) (by omega), hR1.2.2.2.2.1]
      refine W_s fun S2 e2 => ?_
      have f2 : Fr (DoP o) nol S1 S2 := by rw [e2]; exact Fr.putI (Or.inl ⟨rfl, by omega, by omega⟩)
      have hM2 := hM1.fr f2
      have hR2 := hR1.do' f2
      simp only [hM2.k39, hM2.r39_13, hM2.k44, hM2.n44, hM2.r39_36, hM2.k63, hM2.n63, z0c, eq_self, if_true, Nat.reduceAdd, true_and]
      rw [nI_1]
      refine W_t (in0 (by decide) (by decide)) ?_
      refine W_t (inB_n (by omega) (by decide)) ?_
      rw [nI_clamp (n := o + 40 + 1) (by omega), hR2.2.2.2.2.1]
      refine W_s fun S3 e3 => ?_
      have f3 : Fr (DoP o) nol S2 S3 := by rw [e3]; exact Fr.putI (Or.inl ⟨rfl, by omega, by omega⟩)
      have fa := (f1.tr f2).tr f3
      have z : ∀ j, j < 64 → j ≠ 40 → j ≠ 41 → gI S3 63 (o + j) = 0 := fun j h1 h2 h3 => by rw [e3, gI_pI, if_neg (by omega), e2, gI_pI, if_neg (by omega)]; exact h0 j h1
      have hp : ∀ c, plc 0 c = 0 := plc_0
      have hh : ∀ c, hgt 0 c = 0 := fun c => by unfold hgt; rw [hp]; rfl
      have hg : ∀ c, gat 0 c = 0 := fun c => by unfold gat; rw [hp]; rfl
      refine ⟨fa.mono, rfl, fa, ⟨fun c hc => ?_, fun c hc => ⟨0, by omega, ?_, ?_⟩, fun t ht => ?_, ?_⟩, ⟨fun c hc => ?_, fun c hc => ?_, fun c hc => ?_, ?_, fun t ht => ?_⟩, ?_⟩
      · rw [z c (by omega) (by omega) (by omega), hh]; rfl
      · rw [Nat.add_assoc, z _ (by omega) (by omega) (by omega)]; rfl
      · rw [hg]
      · rw [gbit_0, Nat.sub_zero]
        rcases (show t = 0 ∨ t = 1 by omega) with rfl | rfl
        · rw [e3, gI_pI, if_neg (by omega), e2, gI_pI, if_pos ⟨rfl, by omega⟩]
        · rw [e3, gI_pI, if_pos ⟨rfl, by omega⟩]
      · rw [z 42 (by omega) (by omega) (by omega)]; rfl
      · show _ = nI (gat 0 c)
        rw [Nat.add_assoc, z _ (by omega) (by omega) (by omega), hg]; rfl
      · rw [Nat.add_assoc, z _ (by omega) (by omega) (by omega)]; rfl
      · rw [Nat.add_assoc, z _ (by omega) (by omega) (by omega)]; rfl
      · rw [z 46 (by omega) (by omega) (by omega)]; rfl
      · rw [Nat.add_assoc, z _ (by omega) (by omega) (by omega)]; rfl
      · rw [z 45 (by omega) (by omega) (by omega)]; rfl
    | succ n ih =>
      intro k S1 hn hk f1 h0
      have hM1 := hM.fr f1
      refine w140_1 ?_
      refine W_t (by rw [k64, i_lt (by omega) (by decide)]; omega) ?_
      simp only [hM1.k39, hM1.r39_36, hM1.k63, hM1.n63, z0c, eq_self, if_true, Nat.reduceAdd, true_and]
      rw [nI_add]
      refine W_t (inB_n (by omega) (by decide)) ?_
      rw [nI_clamp (by omega)]
      refine W_s fun S2 e2 => ?_
      have f2 : Fr (DoP o) nol S1 S2 := by rw [e2]; exact Fr.putI (Or.inl ⟨rfl, by omega, by omega⟩)
      show WP _ _ _
      rw [nI_1]
      refine ih (k + 1) S2 (by omega) (by omega) (f1.tr f2) (fun j hj => ?_)
      rw [e2, gI_pI]
      by_cases e : j = k
      · rw [if_pos ⟨rfl, by omega⟩]
      · rw [if_neg (by omega)]; exact h0 j (by omega)
  exact key 64 0 S (by omega) (by omega) Fr.rf (fun j hj => by omega)
theorem closed_0 (hT : okT T) : ¬ closed T 0 := fun h => by
  have h1 := hT.1
  have h2 := hT.2.1
  have := h 0 (by omega) (by unfold gat; rw [plc_0]; rfl)
  have e : hgt 0 0 = 0 := by unfold hgt; rw [plc_0]; rfl
  omega
abbrev BgP : Nat → Nat → Prop := fun a k => DoP 0 a k ∨ (a = 39 ∧ (k = 38 ∨ k = 44))
set_option maxRecDepth 4096 in
/-- begins -/
theorem f139 {d : Nat} (hM : ShM S) (hR : RT S T) : Sp (F (d + 7) 139 [.ref 39] S) (fun v S' => v = none ∧ Fr BgP nol S S' ∧ RoL S' 0 T 0 0 0 ∧ RE S' 0 pos0 ∧ gI S' 39 38 = 0 ∧ gI S' 39 44 = 0) := by
  have hT := hR.1
  refine fw139 (w139_0 ?_)
  refine W_t (hM.k39) ?_
  refine W_s fun S1 e1 => ?_
  have f1 : Fr BgP nol S S1 := by rw [e1]; exact Fr.putI (Or.inr ⟨rfl, Or.inl rfl⟩)
  have hM1 := hM.fr f1
  refine W_t (⟨hM1.k39, Or.inl rfl⟩) ?_
  refine W_s fun S2 e2 => ?_
  have f2 : Fr BgP nol S1 S2 := by rw [e2]; exact Fr.putI (Or.inr ⟨rfl, Or.inr rfl⟩)
  have hM2 := hM1.fr f2
  have hR2 : RT S2 T := hR.fr (f1.tr f2) (fun a k z => by rcases z with (z | z | z) | z <;> omega)
  refine W_t (hM2.k39) ?_
  refine W_Ve (f140 (o := 0) hM2 hR2 (by omega)) ?_
  rintro S3 ⟨f3, r3, x3, d3⟩
  have hM3 := hM2.fr f3
  have f3' : Fr BgP nol S2 S3 := f3.weak (fun a k z => Or.inl z) (fun a k z => z)
  refine W_t (hM3.k39) ?_
  refine W_Ve (f142 (o := 0) (d := d) (day := 0) hM3 (hR2.do' f3) r3 (by omega) (okW_0 T) (by omega) (by omega) d3 (fun z => absurd z (closed_0 hT))) ?_
  rintro S4 ⟨f4, q1, q2⟩
  have f4' : Fr BgP nol S3 S4 := f4.weak (fun a k z => by
    rcases z with z | z
    · exact Or.inl (Or.inl ⟨z.1, by omega, by omega⟩)
    · exact Or.inl (Or.inr (Or.inr z))) (fun a k z => z)
  have fa := ((f1.tr f2).tr f3').tr f4'
  have z38 : ∀ k, k = 38 ∨ k = 44 → gI S4 39 k = gI S2 39 k := fun k hk => by
    rw [f4.1 _ _ (by show ¬ (_ ∨ _); omega), f3.1 _ _ (by show ¬ (_ ∨ _); omega)]
  refine ⟨fa.mono, rfl, fa, ⟨r3.fr f4 (fun k h1 h2 z => by rcases z with z | z <;> omega), q2, q1, by rw [f4.1 _ _ (by show ¬ (_ ∨ _); omega)]; exact d3⟩, x3.fr f4 (fun k h1 h2 h3 h4 z => by rcases z with z | z <;> omega), ?_, ?_⟩
  · rw [z38 _ (Or.inl rfl), e2, gI_pI, if_neg (by omega), e1, gI_pI, if_pos ⟨rfl, rfl⟩]
  · rw [z38 _ (Or.inr rfl), e2, gI_pI, if_pos ⟨rfl, rfl⟩]
abbrev CpP (b : Nat) : Nat → Nat → Prop := fun a k => a = 63 ∧ b ≤ k ∧ k < b + 64
set_option maxRecDepth 4096 in
/-- copies -/
theorem f169 {d b : Nat} (hM : ShM S) (ho : o + 64 ≤ 2560) (hb : b + 64 ≤ 2560) (hd : o + 64 ≤ b ∨ b + 64 ≤ o) : Sp (F (d + 1) 169 [.ref 39, .int (nI o), .int (nI b)] S) (fun v S' => v = none ∧ Fr (CpP b) nol S S' ∧ ∀ k, k < 64 → gI S' 63 (b + k) = gI S 63 (o + k)) := by
  refine fw169 (w169_0 ?_)
  have key : ∀ (n k : Nat) (S1 : St), n = 64 - k → k ≤ 64 → Fr (CpP b) nol S S1 → (∀ j, j < k → gI S1 63 (b + j) = gI S 63 (o + j)) → WP (P169 (F d)) (1, [.ref 39, .int (nI o), .int (nI b), .int (nI k)], [], S1) (fun v S' => (gZ S ≤ gZ S' ∧ gU S ≤ gU S') ∧ v = none ∧ Fr (CpP b) nol S S' ∧ ∀ k, k < 64 → gI S' 63 (b + k) = gI S 63 (o + k)) := by
    intro n
    induction n with
    | zero =>
      intro k S1 hn hk f1 h0
      have e : k = 64 := by omega
      subst e
      refine w169_1 ?_
      refine W_f (by decide +kernel) ?_
      exact ⟨f1.mono, rfl, f1, h0⟩
    | succ n ih =>
      intro k S1 hn hk f1 h0
      have hM1 := hM.fr f1
      refine w169_1 ?_
      refine W_t (by rw [k64, i_lt (by omega) (by decide)]; omega) ?_
      simp only [hM1.k39, hM1.r39_36, hM1.k63, hM1.n63, z0c, eq_self, if_true, Nat.reduceAdd, true_and]
      rw [nI_add, nI_add]
      refine W_t (inB_n (by omega) (by decide)) ?_
      refine W_t (inB_n (by omega) (by decide)) ?_
      rw [nI_clamp (by omega), nI_clamp (by omega)]
      refine W_s fun S2 e2 => ?_
      have f2 : Fr (CpP b) nol S1 S2 := by rw [e2]; exact Fr.putI ⟨rfl, by omega, by omega⟩
      show WP _ _ _
      rw [nI_1]
      refine ih (k + 1) S2 (by omega) (by omega) (f1.tr f2) (fun j hj => ?_)
      rw [e2, gI_pI]
      by_cases e : j = k
      · rw [if_pos ⟨rfl, by omega⟩, e, f1.1 _ _ (by show ¬ (_ ∧ _); omega)]
      · rw [if_neg (by omega)]; exact h0 j (by omega)
  exact key 64 0 S (by omega) (by omega) Fr.rf (fun j hj => by omega)
theorem RoL.cp {S S' : St} {b day : Nat} (h : RoL S o T w tn day) (hc : ∀ k, k < 64 → gI S' 63 (b + k) = gI S 63 (o + k)) : RoL S' b T w tn day := by
  obtain ⟨⟨h1, h2, h3, h4⟩, h5, h6, h7⟩ := h
  refine ⟨⟨fun c hc' => by rw [hc c (by omega)]; exact h1 c hc', fun c hc' => ?_, fun t ht => by rw [Nat.add_assoc, hc _ (by omega), ← Nat.add_assoc]; exact h3 t ht, by rw [hc 42 (by omega)]; exact h4⟩, by rw [hc 43 (by omega)]; exact h5, by rw [hc 44 (by omega)]; exact h6, by rw [hc 45 (by omega)]; exact h7⟩
  obtain ⟨g, r1, r2, r3⟩ := h2 c hc'
  exact ⟨g, r1, by rw [Nat.add_assoc, hc _ (by omega), ← Nat.add_assoc]; exact r2, r3⟩
end REF
