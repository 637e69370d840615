/-! the class as a whole: what its cells hold; Play's prepare, lookRound and their like -/
/-- only some places have changed, and nothing is new -/
def Fq (P : Nat → Nat → Prop) (S S' : St) : Prop := (∀ a k, ¬ P a k → gI S' a k = gI S a k ∧ gL S' a k = gL S a k ∧ gR S' a k = gR S a k) ∧ S'.2.2.2 = S.2.2.2
section FQ
variable {P PL P' : Nat → Nat → Prop} {S S' S'' : St}
theorem Fq.rf : Fq P S S := ⟨fun _ _ _ => ⟨rfl, rfl, rfl⟩, rfl⟩
theorem Fq.tr (h : Fq P S S') (h' : Fq P S' S'') : Fq P S S'' := ⟨fun a k hp => ⟨(h'.1 a k hp).1.trans (h.1 a k hp).1, (h'.1 a k hp).2.1.trans (h.1 a k hp).2.1, (h'.1 a k hp).2.2.trans (h.1 a k hp).2.2⟩, h'.2.trans h.2⟩
theorem Fq.weak (h : Fq P S S') (hp : ∀ a k, P a k → P' a k) : Fq P' S S' := ⟨fun a k hn => h.1 a k (fun z => hn (hp a k z)), h.2⟩
theorem Fr.q (h : Fr P PL S S') (hp : ∀ a k, P a k ∨ PL a k → P' a k) : Fq P' S S' := ⟨fun a k hn => ⟨h.1 a k (fun z => hn (hp a k (Or.inl z))), h.2.1 a k (fun z => hn (hp a k (Or.inr z))), h.R a k⟩, by rw [h.2.2]⟩
theorem Fq.I (h : Fq P S S') {a k : Nat} (hp : ¬ P a k) : gI S' a k = gI S a k := (h.1 a k hp).1
theorem Fq.L (h : Fq P S S') {a k : Nat} (hp : ¬ P a k) : gL S' a k = gL S a k := (h.1 a k hp).2.1
theorem Fq.R (h : Fq P S S') {a k : Nat} (hp : ¬ P a k) : gR S' a k = gR S a k := (h.1 a k hp).2.2
theorem Fq.K (h : Fq P S S') (a : Nat) : gK S' a = gK S a := by unfold gK; rw [h.2]
theorem Fq.N (h : Fq P S S') (a : Nat) : gN S' a = gN S a := by unfold gN; rw [h.2]
theorem Fq.Z (h : Fq P S S') : gZ S' = gZ S := by unfold gZ; rw [h.2]
theorem Fq.U (h : Fq P S S') : gU S' = gU S := by unfold gU; rw [h.2]
theorem Fq.mono (h : Fq P S S') : gZ S ≤ gZ S' ∧ gU S ≤ gU S' := by rw [h.Z, h.U]; exact ⟨Nat.le_refl _, Nat.le_refl _⟩
theorem Fq.X (h : Fq P S S') : FX P S S' := ⟨h.mono, fun a _ => ⟨fun k hn => h.1 a k hn, h.K a, h.N a⟩⟩
theorem Fq.Lv (h : Fq P S S') (hv : Lv S) : Lv S' := hv.Z h.2
theorem Fq.pI {a k : Nat} {v : Int32} (h : P a k) : Fq P S (pI S a k v) := (Fr.putI (P := P) (L := P) h).q (fun _ _ z => z.elim id id)
theorem Fq.pL {a k : Nat} {v : Int64} (h : P a k) : Fq P S (pL S a k v) := (Fr.putL (P := P) (L := P) h).q (fun _ _ z => z.elim id id)
theorem Fq.pR {a k v : Nat} (h : P a k) : Fq P S (pR S a k v) := ⟨fun b j hn => ⟨rfl, rfl, by rw [gR_pR, if_neg (by rintro ⟨rfl, rfl⟩; exact hn h)]⟩, rfl⟩
theorem HL.fq {a : Nat} {M : List Nat} (h : HL S a M) (f : Fq P S S') (hn : ∀ k, ¬ P a k) : HL S' a M := fun i v hv => by rw [f.I (hn i)]; exact h i v hv
theorem TA.fq {t : Nat} {T : TD} (h : TA S t T) (hf : Fq P S S') (h1 : ∀ k, ¬ P t k) (h2 : ∀ k, ¬ P (gR S t 4) k) (h3 : ∀ k, ¬ P (gR S t 5) k) : TA S' t T := by
  obtain ⟨o, a, b, c, d, e, ⟨f1, f2, f3⟩, g1, g2, g3⟩ := h
  refine ⟨o, by rw [hf.K]; exact a, by rw [hf.I (h1 _)]; exact b, by rw [hf.I (h1 _)]; exact c, by rw [hf.I (h1 _)]; exact d, by rw [hf.I (h1 _)]; exact e, ⟨by rw [hf.R (h1 _), hf.K]; exact f1, by rw [hf.R (h1 _), hf.N]; exact f2, fun i hi => by rw [hf.R (h1 _), hf.I (h2 _)]; exact f3 i hi⟩, by rw [hf.R (h1 _), hf.K]; exact g1, by rw [hf.R (h1 _), hf.N]; exact g2, fun i hi => by rw [hf.R (h1 _), hf.I (h3 _)]; exact g3 i hi⟩
theorem HC.fq {a : Nat} {C : List Int32} (h : HC S a C) (f : Fq P S S') (hn : ∀ k, ¬ P a k) : HC S' a C :=
  ⟨by rw [f.K]; exact h.1, by rw [f.N]; exact h.2.1, h.2.2.1, fun i v hv => by rw [f.I (hn i)]; exact h.2.2.2 i v hv⟩
theorem TF.fq {t : Nat} {T : TD} {E : Env → Int32} (h : TF S t T E) (hf : Fq P S S') (hd : ∀ a k, P a k → ¬ dyn a) : TF S' t T E := by
  obtain ⟨h1, ⟨C, h2, h3⟩, h4, h5, h6, h7, h8, h9⟩ := h
  have n1 : ∀ {a}, dyn a → ∀ k, ¬ P a k := fun ha k z => hd _ _ z ha
  refine ⟨⟨h1.1.fq hf (n1 h5) (n1 h6) (n1 h7), ?_, ?_, ?_⟩, ⟨C, ?_, h3⟩, ?_, h5, ?_, ?_, ?_, ?_⟩
  · rw [hf.R (n1 h5 _), hf.K]; exact h1.2.1
  · rw [hf.R (n1 h5 _), hf.N]; exact h1.2.2.1
  · rw [hf.R (n1 h5 _)]; exact h1.2.2.2.fq hf (n1 h9)
  · rw [hf.R (n1 h5 _)]; exact h2.fq hf (n1 h8)
  · rw [hf.I (n1 h5 _)]; exact h4
  all_goals (rw [hf.R (n1 h5 _)]; assumption)
theorem SiteP.fq {p : Pos} (h : SiteP S p) (hf : Fq P S S') (h1 : ∀ a k, P a k → a ≠ 9 ∧ a ≠ 11 ∧ a ≠ 12 ∧ a ≠ 13) : SiteP S' p := by
  obtain ⟨a, b, c, d, e, f⟩ := h
  refine ⟨?_, ?_, ?_, fun t ht => ?_, fun t ht => ?_, fun t ht => ?_⟩
  · rw [hf.I (fun z => (h1 _ _ z).1 rfl)]; exact a
  · rw [hf.L (fun z => (h1 _ _ z).1 rfl)]; exact b
  · rw [hf.I (fun z => (h1 _ _ z).1 rfl)]; exact c
  · rw [hf.I (fun z => (h1 _ _ z).2.1 rfl)]; exact d t ht
  · rw [hf.I (fun z => (h1 _ _ z).2.2.1 rfl)]; exact e t ht
  · rw [hf.I (fun z => (h1 _ _ z).2.2.2 rfl)]; exact f t ht
theorem ShC.fq (h : ShC S) (f : Fq P S S') (hn : ∀ q ∈ shC_R, ¬ P q.1 q.2.1) : ShC S' := ⟨fun q hq => by rw [f.R (hn q hq)]; exact h.1 q hq, fun q hq => by rw [f.K, f.N]; exact h.2 q hq⟩
end FQ
/-- a truce has nothing beyond its stones -/
def nT (T : TD) : Prop := ∀ i, tN T ≤ i → tK T i = 0 ∧ tB T i = 0
theorem nI_jn {a b : Nat} (h : nI a = nI b) (ha : a < 2 ^ 31) (hb : b < 2 ^ 31) : a = b := (i_eq ha hb).mp h
/-- one cell holds one truce -/
theorem TA.uni {S : St} {t : Nat} {T T' : TD} (h : TA S t T) (h' : TA S t T') (n : nT T) (n' : nT T') : T = T' := by
  obtain ⟨⟨hW, hH, hG, hN, hi⟩, -, w, g, ga, st, ⟨-, -, k⟩, -, -, b⟩ := h
  obtain ⟨⟨hW', hH', hG', hN', hi'⟩, -, w', g', ga', st', ⟨-, -, k'⟩, -, -, b'⟩ := h'
  have e1 : tW T = tW T' := nI_jn (w.symm.trans w') (by omega) (by omega)
  have e2 : tH T = tH T' := nI_jn (g.symm.trans g') (by omega) (by omega)
  have e3 : tG T = tG T' := nI_jn (ga.symm.trans ga') (by omega) (by omega)
  have e4 : tN T = tN T' := nI_jn (st.symm.trans st') (by omega) (by omega)
  have e5 : ∀ i, tK T i = tK T' i := fun i => by
    by_cases h : i < tN T
    · have q := hi i h
      have q' := hi' i (by omega)
      exact nI_jn ((k i h).symm.trans (k' i (by omega))) (by omega) (by omega)
    · rw [(n i (by omega)).1, (n' i (by omega)).1]
  have e6 : ∀ i, tB T i = tB T' i := fun i => by
    by_cases h : i < tN T
    · have q := hi i h
      have q' := hi' i (by omega)
      exact nI_jn ((b i h).symm.trans (b' i (by omega))) (by omega) (by omega)
    · rw [(n i (by omega)).2, (n' i (by omega)).2]
  obtain ⟨T1, T2, T3, T4, T5, T6⟩ := T
  obtain ⟨U1, U2, U3, U4, U5, U6⟩ := T'
  have e1 : T1 = U1 := e1
  have e2 : T2 = U2 := e2
  have e3 : T3 = U3 := e3
  have e4 : T4 = U4 := e4
  have e5 : T5 = U5 := funext e5
  have e6 : T6 = U6 := funext e6
  rw [e1, e2, e3, e4, e5, e6]
/-- what a play holds is true of its truce -/
def PlI (S : St) (pc kc : Nat) : Prop := gR S pc 1 = 0 ∨ ∃ T E, nT T ∧ TF S (gR S pc 1) T E ∧ KnP S kc T (gI S pc 2) (gI S pc 3)
theorem PlI.fq {P : Nat → Nat → Prop} {S S' : St} {pc kc : Nat} (h : PlI S pc kc) (f : Fq P S S') (hd : ∀ a k, P a k → ¬ dyn a) (hn : ∀ k, ¬ P pc k ∧ ¬ P kc k) : PlI S' pc kc := by
  rcases h with h | ⟨T, E, h1, h2, h3⟩
  · exact Or.inl (by rw [f.R (hn _).1]; exact h)
  · refine Or.inr ⟨T, E, h1, by rw [f.R (hn _).1]; exact h2.fq f hd, fun w tn hw ht => ?_⟩
    rw [f.I (hn _).2, f.I (hn _).1, f.I (hn _).1]
    exact h3 w tn hw ht
theorem PlI.fx {P : Nat → Nat → Prop} {S S' : St} {pc kc : Nat} (h : PlI S pc kc) (hv : Lv S) (f : FX P S S') (hz : pc ≤ gZ S ∧ kc ≤ gZ S) (hd : ∀ a k, P a k → ¬ dyn a) (hn : ∀ k, ¬ P pc k ∧ ¬ P kc k) : PlI S' pc kc := by
  rcases h with h | ⟨T, E, h1, h2, h3⟩
  · exact Or.inl (by rw [f.R hz.1 (hn _).1]; exact h)
  · refine Or.inr ⟨T, E, h1, by rw [f.R hz.1 (hn _).1]; exact h2.fx hv f hd, fun w tn hw ht => ?_⟩
    rw [f.I hz.2 (hn _).2, f.I hz.1 (hn _).1, f.I hz.1 (hn _).1]
    exact h3 w tn hw ht
abbrev PcP (pc kc : Nat) : Nat → Nat → Prop := fun a k => a = kc ∨ (a = pc ∧ 1 ≤ k)
theorem f13 {d pc kc t : Nat} {S : St} {T : TD} {E : Env → Int32} {m r : Int32} (hpl : isPl S pc kc) (hF : TF S t T E) (hn : nT T) (hsm : small T) (hI : PlI S pc kc) (ht0 : t ≠ 0) : Sp (F (d + 1) 13 [.ref pc, .ref t, .int m, .int r] S) (fun v S' => v = none ∧ PrS S' pc kc t T E m r ∧ KnP S' kc T m r ∧ Fq (PcP pc kc) S S') := by
  have hnd := hpl.nd
  refine fw13 (w13_0 ?_)
  have hB := small_num hF.1.1.1 hsm
  have hdyn : ∀ a k, PcP pc kc a k → ¬ dyn a := fun a k z => by
    rcases z with z | z
    · rw [z]; exact hnd.1
    · rw [z.1]; exact hnd.2.1
  have fill : ∀ (n i : Nat) (S1 : St), n = 6250 - i → i ≤ 6250 → Fq (PcP pc kc) S S1 → PrS S1 pc kc t T E m r → (∀ j, j < i → gI S1 kc j = 0) → WP (P13 (F d)) (2, [.ref pc, .ref t, .int m, .int r, .int (nI i)], [], S1) (fun v S' => (gZ S ≤ gZ S' ∧ gU S ≤ gU S') ∧ v = none ∧ PrS S' pc kc t T E m r ∧ KnP S' kc T m r ∧ Fq (PcP pc kc) S S') := by
    intro n
    induction n with
    | zero =>
      intro i S1 hn' hi f1 hp h0
      have e : i = 6250 := by omega
      subst e
      obtain ⟨k1, k2, k3, k4, k5⟩ := hp.1
      refine w13_2 ?_
      refine W_t (k1) ?_
      rw [k2]
      refine W_t (by rw [k3]; decide) ?_
      rw [k4]
      refine W_f (by decide +kernel) ?_
      refine ⟨f1.mono, rfl, hp, fun w tn hw htn => Or.inl (h0 _ ?_), f1⟩
      have := num_lt hF.1.1.1 hw
      omega
    | succ n ih =>
      intro i S1 hn' hi f1 hp h0
      obtain ⟨k1, k2, k3, k4, k5⟩ := hp.1
      refine w13_2 ?_
      refine W_t (k1) ?_
      rw [k2]
      refine W_t (by rw [k3]; decide) ?_
      rw [k4]
      refine W_t (by rw [c_ofNat, i_lt (by omega) (by decide)]; omega) ?_
      refine W_t (k1) ?_
      refine W_t (⟨k3, inB_n (by omega) (by decide)⟩) ?_
      refine W_s fun S2 e2 => ?_
      have f2 : Fr (fun a _ => a = kc) nol S1 S2 := by rw [e2]; exact Fr.putI rfl
      have f2q : Fq (PcP pc kc) S1 S2 := f2.q (fun a k z => Or.inl (z.elim id False.elim))
      show WP _ _ _
      rw [nI_1]
      refine ih (i + 1) S2 (by omega) (by omega) (f1.tr f2q) (hp.fr f2) (fun j hj => ?_)
      rw [e2, gI_pI, nI_clamp (by omega)]
      by_cases e : j = i
      · rw [if_pos ⟨rfl, e⟩]
      · rw [if_neg (fun z => e z.2)]; exact h0 j (by omega)
  have reset : WP (P13 (F d)) (1, [.ref pc, .ref t, .int m, .int r, .null], [], S) (fun v S' => (gZ S ≤ gZ S' ∧ gU S ≤ gU S') ∧ v = none ∧ PrS S' pc kc t T E m r ∧ KnP S' kc T m r ∧ Fq (PcP pc kc) S S') := by
    obtain ⟨k1, k2, k3, k4, k5⟩ := hpl
    refine w13_1 ?_
    refine W_t (k1) ?_
    refine W_s fun S1 e1 => ?_
    have f1 : Fq (PcP pc kc) S S1 := by rw [e1]; exact Fq.pR (Or.inr ⟨rfl, by omega⟩)
    refine W_t (by rw [f1.K]; exact k1) ?_
    refine W_s fun S2 e2 => ?_
    have f2 : Fq (PcP pc kc) S S2 := f1.tr (by rw [e2]; exact Fq.pI (Or.inr ⟨rfl, by omega⟩))
    refine W_t (by rw [f2.K]; exact k1) ?_
    refine W_s fun S3 e3 => ?_
    have f3 : Fq (PcP pc kc) S S3 := f2.tr (by rw [e3]; exact Fq.pI (Or.inr ⟨rfl, by omega⟩))
    show WP _ _ _
    refine fill 6250 0 S3 (by omega) (by omega) f3 ⟨⟨by rw [f3.K]; exact k1, by rw [f3.R (by show ¬ (_ ∨ _); omega)]; exact k2, by rw [f3.K]; exact k3, by rw [f3.N]; exact k4, k5⟩, ?_, ?_, ?_, hF.fq f3 hdyn, hsm⟩ (fun j hj => by omega)
    · rw [e3, gR_pI, e2, gR_pI, e1, gR_pR, if_pos ⟨rfl, rfl⟩]
    · rw [e3, gI_pI, if_neg (by omega), e2, gI_pI, if_pos ⟨rfl, rfl⟩]
    · rw [e3, gI_pI, if_pos ⟨rfl, rfl⟩]
  refine W_t (hpl.1) ?_
  refine W_if (fun q1 => ?_) (fun q1 => ?_)
  · refine W_t (hpl.1) ?_
    refine W_if (fun q2 => ?_) (fun q2 => ?_)
    · refine W_t (hpl.1) ?_
      refine W_if (fun q3 => ?_) (fun q3 => ?_)
      · refine ⟨nochg S, rfl, ⟨hpl, q1, q2, q3, hF, hsm⟩, ?_, Fq.rf⟩
        rcases hI with h | ⟨T', E', h1, h2, h3⟩
        · exact absurd (q1.symm.trans h) ht0
        · rw [q1] at h2
          rw [q2, q3, h2.1.1.uni hF.1.1 h1 hn] at h3
          exact h3
      · exact reset
    · exact reset
  · exact reset
theorem KnP.pl {S : St} {pc kc t : Nat} {T : TD} {E : Env → Int32} {m r : Int32} (h : PrS S pc kc t T E m r) (hn : nT T) (hk : KnP S kc T m r) : PlI S pc kc := Or.inr ⟨T, E, hn, by rw [h.2.1]; exact h.2.2.2.2.1, by rw [h.2.2.1, h.2.2.2.1]; exact hk⟩
/-- the tape -/
def TapeC (S : St) (tp : List Nat) : Prop := gI S 1 1 = nI tp.length ∧ tp.length ≤ 1000 ∧ (∀ v, v ∈ tp → v = 10 ∨ (32 ≤ v ∧ v ≤ 126)) ∧ HL S 2 tp
abbrev posA (T : TD) (E : Env → Int32) (A : List Nat) : Pos := A.foldl (perf T E) pos0
/-- the truce and what was done -/
def CurC (S : St) (T : TD) (E : Env → Int32) (A : List Nat) : Prop := nT T ∧ TF S (gR S 1 3) T E ∧ lgl T E pos0 A ∧ SiteP S (posA T E A) ∧ HL S 10 A
/-- what can be done -/
def DoC (S : St) (T : TD) (p : Pos) : Prop := gI S 1 10 = nI (actsL T (pw p) (ptn p)).length ∧ HL S 23 (actsL T (pw p) (ptn p))
abbrev MkD : Type := TD × (Env → Int32) × List Nat
def MkC1 (S : St) (i : Nat) (m : Option MkD) : Prop := match m with
  | none => gR S (31 + 2 * i) 0 = 0
  | some q => nT q.1 ∧ TF S (gR S (31 + 2 * i) 0) q.1 q.2.1 ∧ lgl q.1 q.2.1 pos0 q.2.2 ∧ HL S (32 + 2 * i) q.2.2 ∧ gI S (31 + 2 * i) 2 = nI q.2.2.length
def MkC (S : St) (mk : Nat → Option MkD) : Prop := ∀ i, i < 4 → MkC1 S i (mk i)
/-- the class's cells hold a state -/
def CI (S : St) (tp : List Nat) (T : TD) (E : Env → Int32) (A : List Nat) (mk : Nat → Option MkD) : Prop := ShC S ∧ Lv S ∧ TapeC S tp ∧ CurC S T E A ∧ DoC S T (posA T E A) ∧ MkC S mk ∧ PlI S 17 18 ∧ PlI S 19 20
section CFQ
variable {P : Nat → Nat → Prop} {S S' : St}
theorem TapeC.fq {tp : List Nat} (h : TapeC S tp) (f : Fq P S S') (h1 : ¬ P 1 1) (h2 : ∀ k, ¬ P 2 k) : TapeC S' tp := ⟨by rw [f.I h1]; exact h.1, h.2.1, h.2.2.1, h.2.2.2.fq f h2⟩
theorem CurC.fq {T : TD} {E : Env → Int32} {A : List Nat} (h : CurC S T E A) (f : Fq P S S') (h1 : ¬ P 1 3) (hd : ∀ a k, P a k → ¬ dyn a) (hs : ∀ a k, P a k → a ≠ 9 ∧ a ≠ 11 ∧ a ≠ 12 ∧ a ≠ 13) (h10 : ∀ k, ¬ P 10 k) : CurC S' T E A := ⟨h.1, by rw [f.R h1]; exact h.2.1.fq f hd, h.2.2.1, h.2.2.2.1.fq f hs, h.2.2.2.2.fq f h10⟩
theorem DoC.fq {T : TD} {p : Pos} (h : DoC S T p) (f : Fq P S S') (h1 : ¬ P 1 10) (h2 : ∀ k, ¬ P 23 k) : DoC S' T p := ⟨by rw [f.I h1]; exact h.1, h.2.fq f h2⟩
theorem MkC1.fq {i : Nat} {m : Option MkD} (h : MkC1 S i m) (f : Fq P S S') (hd : ∀ a k, P a k → ¬ dyn a) (h1 : ∀ k, ¬ P (31 + 2 * i) k ∧ ¬ P (32 + 2 * i) k) : MkC1 S' i m := by
  cases m with
  | none => show gR S' _ _ = 0; rw [f.R (h1 _).1]; exact h
  | some q => exact ⟨h.1, by rw [f.R (h1 _).1]; exact h.2.1.fq f hd, h.2.2.1, h.2.2.2.1.fq f (fun k => (h1 k).2), by rw [f.I (h1 _).1]; exact h.2.2.2.2⟩
theorem MkC.fq {mk : Nat → Option MkD} (h : MkC S mk) (f : Fq P S S') (hd : ∀ a k, P a k → ¬ dyn a) (h1 : ∀ a k, P a k → ¬ (31 ≤ a ∧ a ≤ 38)) : MkC S' mk := fun i hi => (h i hi).fq f hd (fun k => ⟨fun z => h1 _ _ z (by omega), fun z => h1 _ _ z (by omega)⟩)
end CFQ
theorem CurC.ok {S : St} {T : TD} {E : Env → Int32} {A : List Nat} (h : CurC S T E A) : okT T ∧ okP T (posA T E A) ∧ pday (posA T E A) = A.length := by
  have hT := h.2.1.1.1.1
  have := lgl_ok hT (okP_0 T) h.2.2.1
  exact ⟨hT, this.1, by rw [this.2]; show 0 + A.length = A.length; omega⟩
theorem TF.k {S : St} {t : Nat} {T : TD} {E : Env → Int32} (h : TF S t T E) : gK S t = 5 := h.1.1.2.1
theorem TF.ne {S : St} {t : Nat} {T : TD} {E : Env → Int32} (h : TF S t T E) : t ≠ 0 := fun e => by have := h.2.2.2.1; unfold dyn at this; omega
theorem ptn_lt (p : Pos) : ptn p < 2 := Nat.mod_lt _ (by decide)
theorem okW.g {T : TD} {w tn : Nat} (h : okW T w) (ht : tn < 2) : gbit w tn ≤ tG T := h.2.1 tn ht
abbrev LrP : Nat → Nat → Prop := fun a k => a = 23 ∨ (a = 1 ∧ k = 10)
/-- lookRound -/
theorem f107 {d : Nat} {S : St} {T : TD} {E : Env → Int32} {A : List Nat} (hS : ShC S) (hC : CurC S T E A) : Sp (F (d + 6) 107 [.ref 1] S) (fun v S' => v = none ∧ Fr LrP nol S S' ∧ DoC S' T (posA T E A)) := by
  obtain ⟨hT, hok, -⟩ := hC.ok
  have hF := hC.2.1
  have hP := hC.2.2.2.1
  refine fw107 (w107_0 ?_)
  refine W_t (hS.k1) ?_
  refine W_t (hS.k1) ?_
  rw [hS.r1_4]
  refine W_t (hS.k9) ?_
  refine W_t (hS.k1) ?_
  refine W_t (hS.k9) ?_
  refine W_I (f50 hS hP) ?_
  refine W_t (hS.k1) ?_
  refine W_t (hF.k) ?_
  rw [hP.2.1, hS.r1_9]
  refine W_Ie (f72 hF.1 hok.1.1 (ptn_lt _) (hok.1.g (ptn_lt _)) hS.k23 hS.n23 (candL_250 T hT) (dyn_ne hF.2.2.2.1 (by decide)).symm (dyn_ne hF.2.2.2.2.1 (by decide)).symm (dyn_ne hF.2.2.2.2.2.1 (by decide)).symm (dyn_ne hF.2.2.2.2.2.2.2 (by decide)).symm) ?_
  rintro v S1 ⟨rfl, f1, h1⟩
  refine W_t (by rw [f1.K]; exact hS.k1) ?_
  refine W_s fun S2 e2 => ?_
  have g1 : Fr LrP nol S S1 := f1.weak (fun a k z => Or.inl z) (fun a k z => z)
  have g2 : Fr LrP nol S1 S2 := by rw [e2]; exact Fr.putI (Or.inr ⟨rfl, rfl⟩)
  refine ⟨(g1.tr g2).mono, rfl, g1.tr g2, ?_, fun i v hv => ?_⟩
  · rw [e2, gI_pI, if_pos ⟨rfl, rfl⟩]
  · rw [e2, gI_pI, if_neg (by omega)]; exact h1 i v hv
theorem len_0 {L : List Nat} (h : L.length < 2 ^ 31) : nI L.length = 0 ↔ L = [] := by
  rw [c0, i_eq h (by decide)]
  exact List.length_eq_zero_iff
theorem acts_len {T : TD} (hT : okT T) (w tn : Nat) : (actsL T w tn).length ≤ 250 := Nat.le_trans (List.length_filter_le _ _) (candL_250 T hT)
/-- isOver -/
theorem f108 {d : Nat} {S : St} {T : TD} {p : Pos} (hS : ShC S) (hT : okT T) (h : DoC S T p) : F (d + 1) 108 [.ref 1] S = some (some (.int (bi (actsL T (pw p) (ptn p) = []))), S) := by
  have hl := acts_len hT (pw p) (ptn p)
  refine fq108 (w108_0 ?_)
  refine W_t (hS.k1) ?_
  rw [h.1]
  refine W_if (fun q => ?_) (fun q => ?_)
  · rw [len_0 (by omega)] at q
    exact W_b (Or.inr rfl) ⟨by rw [bi_t q], rfl⟩
  · rw [len_0 (by omega)] at q
    exact W_b (Or.inl rfl) ⟨by rw [bi_f q], rfl⟩
/-- why a gate can't be left -/
def gref (T : TD) (w tn : Nat) (x : Int32) : Nat := if x < 0 ∨ tW T ≤ x.toNatClampNeg then 1 else if actsL T w tn = [] then 2 else gateH T w tn x.toNatClampNeg
theorem f109 {d : Nat} {S : St} {T : TD} {E : Env → Int32} {A : List Nat} {x : Int32} (hS : ShC S) (hC : CurC S T E A) (hD : DoC S T (posA T E A)) : F (d + 3) 109 [.ref 1, .int x] S = some (some (.int (nI (gref T (pw (posA T E A)) (ptn (posA T E A)) x))), S) := by
  obtain ⟨hT, hok, -⟩ := hC.ok
  have hF := hC.2.1
  have hP := hC.2.2.2.1
  have hW := hT.1
  refine fq109 (w109_0 ?_)
  refine W_if (fun q => ?_) (fun q => ?_)
  · exact ⟨by unfold gref; rw [if_pos (Or.inl q)]; rfl, rfl⟩
  obtain ⟨c, hc, rfl⟩ := nI_of q
  refine W_t (hS.k1) ?_
  refine W_t (hF.k) ?_
  rw [hF.1.1.2.2.1]
  refine W_if (fun q2 => ?_) (fun q2 => ?_)
  · rw [i_lt hc (by omega)] at q2
    have hc0 : ¬ (nI c < 0 ∨ tW T ≤ (nI c).toNatClampNeg) := by
      rw [nI_clamp hc]
      rintro (z | z)
      · exact q z
      · omega
    refine W_t (hS.k1) ?_
    refine W_I (f108 hS hT hD) ?_
    refine W_if (fun q3 => ?_) (fun q3 => ?_)
    · rw [bi_0] at q3
      refine W_t (hS.k1) ?_
      refine W_t (hS.k1) ?_
      rw [hS.r1_4]
      refine W_t (hS.k9) ?_
      refine W_t (hS.k1) ?_
      refine W_t (hS.k9) ?_
      refine W_I (f50 hS hP) ?_
      refine W_t (hF.k) ?_
      rw [hP.2.1]
      refine W_I (f68 hF.1.1 hok.1.1 (ptn_lt _) (hok.1.g (ptn_lt _)) (by omega)) ?_
      exact ⟨by unfold gref; rw [if_neg hc0, if_neg q3, nI_clamp hc], rfl⟩
    · rw [bi_0] at q3
      exact ⟨by unfold gref; rw [if_neg hc0, if_pos (Classical.not_not.mp q3)]; rfl, rfl⟩
  · rw [i_lt hc (by omega)] at q2
    exact ⟨by unfold gref; rw [if_pos (Or.inr (by rw [nI_clamp hc]; omega))]; rfl, rfl⟩
