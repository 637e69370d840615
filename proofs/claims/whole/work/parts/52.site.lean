/-! positions; the site -/
/-- a position: the wall, the bill, the towns' holes, the columns' holes, 1 and the owner on top, the day -/
abbrev Pos : Type := Nat × Int32 × (Nat → Nat) × (Nat → Nat) × (Nat → Nat) × Nat
abbrev pw (p : Pos) : Nat := p.1
abbrev pbill (p : Pos) : Int32 := p.2.1
abbrev phof (p : Pos) : Nat → Nat := p.2.2.1
abbrev phin (p : Pos) : Nat → Nat := p.2.2.2.1
abbrev pown (p : Pos) : Nat → Nat := p.2.2.2.2.1
abbrev pday (p : Pos) : Nat := p.2.2.2.2.2
abbrev ptn (p : Pos) : Nat := pday p % 2
def pos0 : Pos := (0, 0, fun _ => 0, fun _ => 0, fun _ => 0, 0)
abbrev up1 (f : Nat → Nat) (k v : Nat) : Nat → Nat := fun x => if x = k then v else f x
/-- whose a stone of a kind is -/
abbrev ownr (k tn : Nat) : Nat := if k = 4 then 1 - tn else tn
abbrev hols (w c b : Nat) : Nat := smN (fun j => hgt w c - hgt w (c + j)) b
/-- what an act does but to the wall -/
def perL (T : TD) (E : Env → Int32) (p : Pos) (a : Nat) : Pos :=
  if a / 64 = 6 then p
  else if tK T (a / 64) = 3 then (pw p, pbill p + E (2, nI (hgt (pw p) (a / 4 % 16)), 0, nI (pday p)), phof p, phin p, up1 (up1 (pown p) (a / 4 % 16) (1 + ptn p)) (tW T - 1 - a / 4 % 16) (1 + ptn p), pday p)
  else (pw p, pbill p + E (nI (a % 4 + 1), nI (hgt (pw p) (a / 4 % 16)), nI (hols (pw p) (a / 4 % 16) (a % 4 + 1)), nI (pday p)), up1 (phof p) (ownr (tK T (a / 64)) (ptn p)) (phof p (ownr (tK T (a / 64)) (ptn p)) + hols (pw p) (a / 4 % 16) (a % 4 + 1)), (fun x => if a / 4 % 16 ≤ x ∧ x < a / 4 % 16 + (a % 4 + 1) then phin p x + (hgt (pw p) (a / 4 % 16) - hgt (pw p) x) else phin p x), (fun x => if a / 4 % 16 ≤ x ∧ x < a / 4 % 16 + (a % 4 + 1) then 1 + ownr (tK T (a / 64)) (ptn p) else pown p x), pday p)
def perf (T : TD) (E : Env → Int32) (p : Pos) (a : Nat) : Pos := (aft T (pw p) (ptn p) a, (perL T E p a).2.1, (perL T E p a).2.2.1, (perL T E p a).2.2.2.1, (perL T E p a).2.2.2.2.1, pday p + 1)
/-- the site holds a position -/
def SiteP (S : St) (p : Pos) : Prop := gI S 9 1 = nI (pday p) ∧ gL S 9 2 = lN (pw p) ∧ gI S 9 3 = pbill p ∧ (∀ t, t < 2 → gI S 11 t = nI (phof p t)) ∧ (∀ c, c < 10 → gI S 12 c = nI (phin p c)) ∧ ∀ c, c < 10 → gI S 13 c = nI (pown p c) - 1
theorem SiteP.cg {S : St} {p q : Pos} (h : SiteP S p) (e1 : pw p = pw q) (e2 : pbill p = pbill q) (e3 : ∀ t, t < 2 → phof p t = phof q t) (e4 : ∀ t, t < 10 → phin p t = phin q t) (e5 : ∀ t, t < 10 → pown p t = pown q t) (e6 : pday p = pday q) : SiteP S q := by
  obtain ⟨a, b, c, d, e, f⟩ := h
  exact ⟨e6 ▸ a, e1 ▸ b, e2 ▸ c, fun t ht => e3 t ht ▸ d t ht, fun t ht => e4 t ht ▸ e t ht, fun t ht => e5 t ht ▸ f t ht⟩
theorem SiteP.putHin {S : St} {p : Pos} (h : SiteP S p) {k n : Nat} {v : Int32} (hv : v = nI n) : SiteP (pI S 12 k v) (pw p, pbill p, phof p, up1 (phin p) k n, pown p, pday p) := by
  obtain ⟨a, b, c, d, e, f⟩ := h
  refine ⟨?_, b, ?_, fun t ht => ?_, fun t ht => ?_, fun t ht => ?_⟩
  · rw [gI_pI, if_neg (by omega)]; exact a
  · rw [gI_pI, if_neg (by omega)]; exact c
  · rw [gI_pI, if_neg (by omega)]; exact d t ht
  · rw [gI_pI]
    show _ = nI (if t = k then n else phin p t)
    by_cases q : t = k
    · rw [if_pos ⟨rfl, q⟩, if_pos q, hv]
    · rw [if_neg (fun z => q z.2), if_neg q]; exact e t ht
  · rw [gI_pI, if_neg (by omega)]; exact f t ht
theorem SiteP.putOwn {S : St} {p : Pos} (h : SiteP S p) {k n : Nat} {v : Int32} (hv : v = nI n - 1) : SiteP (pI S 13 k v) (pw p, pbill p, phof p, phin p, up1 (pown p) k n, pday p) := by
  obtain ⟨a, b, c, d, e, f⟩ := h
  refine ⟨?_, b, ?_, fun t ht => ?_, fun t ht => ?_, fun t ht => ?_⟩
  · rw [gI_pI, if_neg (by omega)]; exact a
  · rw [gI_pI, if_neg (by omega)]; exact c
  · rw [gI_pI, if_neg (by omega)]; exact d t ht
  · rw [gI_pI, if_neg (by omega)]; exact e t ht
  · rw [gI_pI]
    show _ = nI (if t = k then n else pown p t) - 1
    by_cases q : t = k
    · rw [if_pos ⟨rfl, q⟩, if_pos q, hv]
    · rw [if_neg (fun z => q z.2), if_neg q]; exact f t ht
theorem SiteP.putHof {S : St} {p : Pos} (h : SiteP S p) {k n : Nat} {v : Int32} (hv : v = nI n) : SiteP (pI S 11 k v) (pw p, pbill p, up1 (phof p) k n, phin p, pown p, pday p) := by
  obtain ⟨a, b, c, d, e, f⟩ := h
  refine ⟨?_, b, ?_, fun t ht => ?_, fun t ht => ?_, fun t ht => ?_⟩
  · rw [gI_pI, if_neg (by omega)]; exact a
  · rw [gI_pI, if_neg (by omega)]; exact c
  · rw [gI_pI]
    show _ = nI (if t = k then n else phof p t)
    by_cases q : t = k
    · rw [if_pos ⟨rfl, q⟩, if_pos q, hv]
    · rw [if_neg (fun z => q z.2), if_neg q]; exact d t ht
  · rw [gI_pI, if_neg (by omega)]; exact e t ht
  · rw [gI_pI, if_neg (by omega)]; exact f t ht
theorem SiteP.putBill {S : St} {p : Pos} (h : SiteP S p) {v : Int32} : SiteP (pI S 9 3 v) (pw p, v, phof p, phin p, pown p, pday p) := by
  obtain ⟨a, b, c, d, e, f⟩ := h
  refine ⟨?_, b, ?_, fun t ht => ?_, fun t ht => ?_, fun t ht => ?_⟩
  · rw [gI_pI, if_neg (by omega)]; exact a
  · rw [gI_pI, if_pos ⟨rfl, rfl⟩]
  · rw [gI_pI, if_neg (by omega)]; exact d t ht
  · rw [gI_pI, if_neg (by omega)]; exact e t ht
  · rw [gI_pI, if_neg (by omega)]; exact f t ht
theorem SiteP.putDay {S : St} {p : Pos} (h : SiteP S p) {v : Int32} {n : Nat} (hv : v = nI n) : SiteP (pI S 9 1 v) (pw p, pbill p, phof p, phin p, pown p, n) := by
  obtain ⟨a, b, c, d, e, f⟩ := h
  refine ⟨?_, b, ?_, fun t ht => ?_, fun t ht => ?_, fun t ht => ?_⟩
  · rw [gI_pI, if_pos ⟨rfl, rfl⟩, hv]
  · rw [gI_pI, if_neg (by omega)]; exact c
  · rw [gI_pI, if_neg (by omega)]; exact d t ht
  · rw [gI_pI, if_neg (by omega)]; exact e t ht
  · rw [gI_pI, if_neg (by omega)]; exact f t ht
theorem SiteP.putW {S : St} {p : Pos} (h : SiteP S p) {v : Int64} {n : Nat} (hv : v = lN n) : SiteP (pL S 9 2 v) (n, pbill p, phof p, phin p, pown p, pday p) := by
  obtain ⟨a, b, c, d, e, f⟩ := h
  exact ⟨a, by rw [gL_pL, if_pos ⟨rfl, rfl⟩, hv], c, d, e, f⟩
theorem SiteP.fr {S S' : St} {p : Pos} {P L : Nat → Nat → Prop} (h : SiteP S p) (hf : Fr P L S S') (h1 : ∀ a k, P a k → a ≠ 9 ∧ a ≠ 11 ∧ a ≠ 12 ∧ a ≠ 13) (h2 : ¬ L 9 2) : SiteP S' p := by
  obtain ⟨a, b, c, d, e, f⟩ := h
  refine ⟨?_, ?_, ?_, fun t ht => ?_, fun t ht => ?_, fun t ht => ?_⟩
  · rw [hf.1 _ _ (fun z => (h1 _ _ z).1 rfl)]; exact a
  · rw [hf.2.1 _ _ h2]; exact b
  · rw [hf.1 _ _ (fun z => (h1 _ _ z).1 rfl)]; exact c
  · rw [hf.1 _ _ (fun z => (h1 _ _ z).2.1 rfl)]; exact d t ht
  · rw [hf.1 _ _ (fun z => (h1 _ _ z).2.2.1 rfl)]; exact e t ht
  · rw [hf.1 _ _ (fun z => (h1 _ _ z).2.2.2 rfl)]; exact f t ht
/-- places of the site -/
abbrev SP : Nat → Nat → Prop := fun a _ => 9 ≤ a ∧ a ≤ 15
theorem SP_i {S : St} {a k : Nat} {v : Int32} (h : 9 ≤ a) (h2 : a ≤ 15) : Fr SP SP S (pI S a k v) := Fr.putI ⟨h, h2⟩
/-- a truce's cells -/
def dyn (a : Nat) : Prop := (25 ≤ a ∧ a ≤ 30) ∨ 74 ≤ a
abbrev small (T : TD) : Prop := tW T ≤ 5 ∧ (tH T + 1) ^ tW T ≤ 256
/-- cell t holds a truce and its fine -/
def TF (S : St) (t : Nat) (T : TD) (E : Env → Int32) : Prop := TC S t T ∧ (∃ C, HC S (gR S t 6) C ∧ ∀ e, evC e C [] = some [E e]) ∧ gI S t 7 = bi (small T) ∧ dyn t ∧ dyn (gR S t 4) ∧ dyn (gR S t 5) ∧ dyn (gR S t 6) ∧ dyn (gR S t 8)
theorem TF.fr {S S' : St} {t : Nat} {T : TD} {E : Env → Int32} {P L : Nat → Nat → Prop} (h : TF S t T E) (hf : Fr P L S S') (hd : ∀ a k, P a k → ¬ dyn a) : TF S' t T E := by
  obtain ⟨h1, ⟨C, h2, h3⟩, h4, h5, h6, h7, h8, h9⟩ := h
  have n1 : ∀ {a}, dyn a → ∀ k, ¬ P a k := fun ha k z => hd _ _ z ha
  refine ⟨h1.fr hf (n1 h5) (n1 h6) (n1 h7) (n1 h9), ⟨C, ?_, h3⟩, ?_, h5, ?_, ?_, ?_, ?_⟩
  · rw [hf.R]; exact h2.fr hf (n1 h8)
  · rw [hf.1 _ _ (n1 h5 _)]; exact h4
  all_goals (rw [hf.R]; assumption)
theorem HC.fx {S S' : St} {a : Nat} {C : List Int32} {P : Nat → Nat → Prop} (h : HC S a C) (hv : Lv S) (hf : FX P S S') (hn : ∀ k, ¬ P a k) : HC S' a C := by
  have l0 := hv.le h.1 (by decide)
  exact ⟨by rw [hf.K l0]; exact h.1, by rw [hf.N l0]; exact h.2.1, h.2.2.1, fun i v hv => by rw [hf.I l0 (hn _)]; exact h.2.2.2 i v hv⟩
theorem TF.fx {S S' : St} {t : Nat} {T : TD} {E : Env → Int32} {P : Nat → Nat → Prop} (h : TF S t T E) (hv : Lv S) (hf : FX P S S') (hd : ∀ a k, P a k → ¬ dyn a) : TF S' t T E := by
  obtain ⟨h1, ⟨C, h2, h3⟩, h4, h5, h6, h7, h8, h9⟩ := h
  have n1 : ∀ {a}, dyn a → ∀ k, ¬ P a k := fun ha k z => hd _ _ z ha
  have l0 := hv.le h1.1.2.1 (by decide)
  refine ⟨h1.fx hv hf (n1 h5) (n1 h6) (n1 h7) (n1 h9), ⟨C, ?_, h3⟩, ?_, h5, ?_, ?_, ?_, ?_⟩
  · rw [hf.R l0 (n1 h5 _)]; exact h2.fx hv hf (n1 h8)
  · rw [hf.I l0 (n1 h5 _)]; exact h4
  all_goals (rw [hf.R l0 (n1 h5 _)]; assumption)
theorem SP_dyn : ∀ a k, SP a k → ¬ dyn a := fun a k h z => by unfold dyn at z; have h : 9 ≤ a ∧ a ≤ 15 := h; omega
theorem i_and1 (n : Nat) : nI n &&& 1 = nI (n % 2) := tw_and n 1 (by decide)
theorem f50 {d : Nat} {S : St} {p : Pos} (hS : ShC S) (h : SiteP S p) : F (d + 1) 50 [.ref 9] S = some (some (.int (nI (ptn p))), S) := by
  refine fq50 (w50_0 ?_)
  refine W_t (hS.k9) ?_
  exact ⟨by rw [h.1, i_and1], rfl⟩
theorem f51 {d : Nat} {S : St} (hS : ShC S) : Sp (F (d + 1) 51 [.ref 9] S) (fun r S' => r = none ∧ Fr SP SP S S' ∧ SiteP S' pos0 ∧ ∀ k, gI S' 10 k = gI S 10 k) := by
  refine fw51 (w51_0 ?_)
  refine W_t (hS.k9) ?_
  refine W_s fun S1 e1 => ?_
  have f1 : Fr SP SP S S1 := by rw [e1]; exact SP_i (by decide) (by decide)
  refine W_t (by rw [f1.K]; exact hS.k9) ?_
  refine W_s fun S2 e2 => ?_
  have f2 : Fr SP SP S S2 := by rw [e2]; exact f1.tr (Fr.putL ⟨by decide, by decide⟩)
  refine W_t (by rw [f2.K]; exact hS.k9) ?_
  refine W_s fun S3 e3 => ?_
  have f3 : Fr SP SP S S3 := by rw [e3]; exact f2.tr (SP_i (by decide) (by decide))
  refine W_t (by rw [f3.K]; exact hS.k9) ?_
  refine W_t (by rw [f3.R, f3.K, f3.N, hS.r9_4, hS.k11, hS.n11]; exact ⟨rfl, inB_n (n := 0) (by decide) (by decide)⟩) ?_
  refine W_s fun S4 e4 => ?_
  rw [f3.R, hS.r9_4, show (0 : Int32).toNatClampNeg = 0 from by decide +kernel] at e4
  have f4 : Fr SP SP S S4 := by rw [e4]; exact f3.tr (SP_i (by decide) (by decide))
  refine W_t (by rw [f4.K]; exact hS.k9) ?_
  refine W_t (by rw [f4.R, f4.K, f4.N, hS.r9_4, hS.k11, hS.n11]; exact ⟨rfl, inB_n (n := 1) (by decide) (by decide)⟩) ?_
  refine W_s fun S5 e5 => ?_
  rw [f4.R, hS.r9_4, show (1 : Int32).toNatClampNeg = 1 from by decide +kernel] at e5
  have f5 : Fr SP SP S S5 := by rw [e5]; exact f4.tr (SP_i (by decide) (by decide))
  have q1 : gI S5 9 1 = 0 := by rw [e5, gI_pI, if_neg (by decide), e4, gI_pI, if_neg (by decide), e3, gI_pI, if_neg (by decide), e2, gI_pL, e1, gI_pI, if_pos ⟨rfl, rfl⟩]
  have q2 : gL S5 9 2 = 0 := by rw [e5, gL_pI, e4, gL_pI, e3, gL_pI, e2, gL_pL, if_pos ⟨rfl, rfl⟩]
  have q3 : gI S5 9 3 = 0 := by rw [e5, gI_pI, if_neg (by decide), e4, gI_pI, if_neg (by decide), e3, gI_pI, if_pos ⟨rfl, rfl⟩]
  have q4 : gI S5 11 0 = 0 := by rw [e5, gI_pI, if_neg (by decide), e4, gI_pI, if_pos ⟨rfl, rfl⟩]
  have q5 : gI S5 11 1 = 0 := by rw [e5, gI_pI, if_pos ⟨rfl, rfl⟩]
  have q6 : ∀ k, gI S5 10 k = gI S 10 k := fun k => by
    rw [e5, gI_pI, if_neg (by omega), e4, gI_pI, if_neg (by omega), e3, gI_pI, if_neg (by omega), e2, gI_pL, e1, gI_pI, if_neg (by omega)]
  show WP _ _ _
  have key : ∀ (m c : Nat) (S' : St), m = 10 - c → c ≤ 10 → Fr (fun a _ => a = 12 ∨ a = 13) nol S5 S' → (∀ j, j < c → gI S' 12 j = 0 ∧ gI S' 13 j = -1) → WP (P51 (F d)) (1, [.ref 9, .int (nI c)], [], S') (fun r S' => (gZ S ≤ gZ S' ∧ gU S ≤ gU S') ∧ r = none ∧ Fr SP SP S S' ∧ SiteP S' pos0 ∧ ∀ k, gI S' 10 k = gI S 10 k) := by
    intro m
    induction m with
    | zero =>
      intro c S' hm hc hf hz
      have hff : Fr SP SP S S' := f5.tr (hf.weak (fun a k z => by have z : a = 12 ∨ a = 13 := z; show 9 ≤ a ∧ a ≤ 15; omega) (fun _ _ z => z.elim))
      refine w51_1 ?_
      refine W_f (by rw [c10, i_lt (by omega) (by decide)]; omega) ?_
      refine ⟨hff.mono, rfl, hff, ⟨?_, ?_, ?_, fun t ht => ?_, fun t ht => ?_, fun t ht => ?_⟩, fun k => ?_⟩
      · rw [hf.1 _ _ (by decide)]; exact q1
      · rw [hf.2.1 _ _ (fun z => z)]; exact q2
      · rw [hf.1 _ _ (by decide)]; exact q3
      · rw [hf.1 _ _ (by show ¬ (11 = 12 ∨ 11 = 13); decide)]
        rcases (show t = 0 ∨ t = 1 by omega) with rfl | rfl
        · exact q4
        · exact q5
      · exact (hz t (by omega)).1
      · exact (hz t (by omega)).2
      · rw [hf.1 _ _ (by show ¬ (10 = 12 ∨ 10 = 13); decide)]; exact q6 k
    | succ m ih =>
      intro c S' hm hc hf hz
      have fs : S'.2.2 = S.2.2 := by rw [hf.2.2, f5.2.2]
      have hS' := hS.of fs
      refine w51_1 ?_
      refine W_t (by rw [c10, i_lt (by omega) (by decide)]; omega) ?_
      refine W_t (hS'.k9) ?_
      refine W_t (by rw [hS'.r9_5, hS'.k12, hS'.n12]; exact ⟨rfl, inB_n (by omega) (by decide)⟩) ?_
      refine W_s fun S6 e6 => ?_
      rw [hS'.r9_5, nI_clamp (by omega)] at e6
      have f6 : Fr (fun a _ => a = 12 ∨ a = 13) nol S' S6 := by rw [e6]; exact Fr.putI (Or.inl rfl)
      have hS6 := hS'.of f6.2.2
      refine W_t (hS6.k9) ?_
      refine W_t (by rw [hS6.r9_6, hS6.k13, hS6.n13]; exact ⟨rfl, inB_n (by omega) (by decide)⟩) ?_
      refine W_s fun S7 e7 => ?_
      rw [hS6.r9_6, nI_clamp (by omega)] at e7
      have f7 : Fr (fun a _ => a = 12 ∨ a = 13) nol S6 S7 := by rw [e7]; exact Fr.putI (Or.inr rfl)
      show WP _ _ _
      rw [nI_1]
      refine ih (c + 1) S7 (by omega) (by omega) ((hf.tr f6).tr f7) (fun j hj => ?_)
      by_cases e : j = c
      · subst e
        constructor
        · rw [e7, gI_pI, if_neg (by omega), e6, gI_pI, if_pos ⟨rfl, rfl⟩]
        · rw [e7, gI_pI, if_pos ⟨rfl, rfl⟩]
      · have := hz j (by omega)
        constructor
        · rw [e7, gI_pI, if_neg (by omega), e6, gI_pI, if_neg (by omega)]; exact this.1
        · rw [e7, gI_pI, if_neg (by omega), e6, gI_pI, if_neg (by omega)]; exact this.2
  exact key 10 0 S5 rfl (by omega) Fr.rf (fun j hj => by omega)
