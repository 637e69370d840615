section CLS
variable {S S' : St} {tp : List Nat} {p c : Nat}
set_option maxRecDepth 4096 in
theorem f21s {D : Nat} (hS : ShC S) (hT : HL S 2 tp) (hln : tp.length ≤ 1000) (hv : ∀ v, v ∈ tp → v = 10 ∨ (32 ≤ v ∧ v ≤ 126)) : Sp (F (D + 39) 21 [.ref 3, .ref 2, .int (nI tp.length)] S) (fun r S' => (ShC S' ∧ Fq RdF S S') ∧ ∃ res, txF tp res ∧ match res with
    | .inl f => r = some (.int (nI f)) ∧ 0 < f ∧ f < 2 ^ 31
    | .inr (w, hh, s) => r = some (.int 0) ∧ (∃ q, CLs S' tp q s) ∧ gI S' 3 0 = nI w ∧ gI S' 3 1 = nI hh) := by
  refine fw21 (w21_0 ?_)
  refine W_t (hS.k3) ?_
  refine W_s fun S1 e1 => ?_
  have f1 : Fq RdF S S1 := by rw [e1]; exact Fq.pR (by decide)
  have hS1 : ShC S1 := by
    refine ShC.fq (P := fun a k => a = 3 ∧ k = 11) hS (by rw [e1]; exact Fq.pR ⟨rfl, rfl⟩) (by decide)
  have r1 : gR S1 3 11 = 2 := by rw [e1, gR_pR, if_pos ⟨rfl, rfl⟩]
  have t1 : HL S1 2 tp := fun i v hi => by rw [e1, gI_pR]; exact hT i v hi
  clear e1
  refine W_t (hS1.k3) ?_
  refine W_s fun S2 e2 => ?_
  refine W_t (by rw [e2]; exact hS1.k3) ?_
  refine W_s fun S3 e3 => ?_
  refine W_t (by rw [e3, e2]; exact hS1.k3) ?_
  refine W_s fun S4 e4 => ?_
  refine W_t (by rw [e4, e3, e2]; exact hS1.k3) ?_
  refine W_s fun S5 e5 => ?_
  refine W_t (by rw [e5, e4, e3, e2]; exact hS1.k3) ?_
  refine W_s fun S6 e6 => ?_
  refine W_t (by rw [e6, e5, e4, e3, e2]; exact hS1.k3) ?_
  refine W_s fun S7 e7 => ?_
  refine W_t (⟨by rw [e7, e6, e5, e4, e3, e2]; exact hS1.k3, Or.inl rfl⟩) ?_
  refine W_s fun S8 e8 => ?_
  refine W_t (⟨by rw [e8, e7, e6, e5, e4, e3, e2]; exact hS1.k3, Or.inl rfl⟩) ?_
  refine W_s fun S9 e9 => ?_
  have f9 : Fr (fun a k => a = 3) nol S1 S9 := by
    rw [e9, e8, e7, e6, e5, e4, e3, e2]
    have pu : ∀ (S : St) (k : Nat) (v : Int32), Fr (fun a k => a = 3) nol S (pI S 3 k v) := fun _ _ _ => Fr.putI rfl
    exact (((((((pu _ _ _).tr (pu _ _ _)).tr (pu _ _ _)).tr (pu _ _ _)).tr (pu _ _ _)).tr (pu _ _ _)).tr (pu _ _ _)).tr (pu _ _ _)
  have hS9 := hS1.of f9.2.2
  have k12 : gI S9 3 12 = nI tp.length := by rw [e9, e8, e7, e6, e5, e4, e3, e2]; rfl
  have k13 : gI S9 3 13 = 0 := by rw [e9, e8, e7, e6, e5, e4, e3, e2]; rfl
  have k15 : gI S9 3 15 = nI 0 := by rw [e9, e8, e7, e6, e5, e4, e3, e2]; rfl
  have k2 : gI S9 3 2 = nI 0 := by rw [e9, e8, e7, e6, e5, e4, e3, e2]; rfl
  have k3 : gI S9 3 3 = nI 0 := by rw [e9, e8, e7, e6, e5, e4, e3, e2]; rfl
  have k8 : gI S9 3 8 = nI 0 := by rw [e9, e8, e7, e6, e5, e4, e3, e2]; rfl
  have k9 : gI S9 3 9 = 0 := by rw [e9, e8, e7, e6, e5, e4, e3, e2]; rfl
  have k10 : gI S9 3 10 = 0 := by rw [e9, e8, e7, e6, e5, e4, e3, e2]; rfl
  clear e9 e8 e7 e6 e5 e4 e3 e2
  have hR9 : Rdr S9 tp := ⟨hS9, by rw [f9.R]; exact r1, k12, fun i v hi => by rw [f9.1 _ _ (by omega)]; exact t1 i v hi, hln, hv⟩
  have f09 : Fq RdF S S9 := f1.tr (f9.q (fun a k z => by rcases z with z | z; exact ⟨by omega, by omega⟩; exact z.elim))
  refine W_t (hS9.k3) ?_
  refine W_Ve (f37 (d := D + 31) (p := 0) hR9 k13 k15 (Nat.zero_le _)) ?_
  intro S10 ⟨f10, h10⟩
  have hS10 := hS9.of f10.2.2
  have c10' : CS S10 tp 0 [] := ⟨hR9.fr f10 (fun k z => absurd z.1 (by decide)) (fun z => absurd z.2.1 (by decide)), h10, by rw [f10.1 _ _ (by omega)]; exact k13, by rw [f10.1 _ _ (by omega)]; exact k8, fun i x hi => (by cases hi), Nat.zero_le _⟩
  refine W_t (hS10.k3) ?_
  refine W_Ve (f22 (D := D + 29) c10') ?_
  intro S11 ⟨f11, h11⟩
  have hS11 := hS10.of f11.2.2
  have f011 : Fq RdF S S11 := (f09.tr (f10.q (fun a k z => by rcases z with z | z <;> exact ⟨by omega, by omega⟩))).tr (f11.q (fun a k z => by rcases z with z | z <;> exact ⟨by omega, by omega⟩))
  show WP _ _ _
  cases e : wlF tp with
  | inl f =>
    rw [e] at h11
    have fin : WP (P21 (F (D + 38))) (3, [.ref 3, .ref 2, .int (nI tp.length), .int 0], [], S11) (fun r S' => (gZ S ≤ gZ S' ∧ gU S ≤ gU S') ∧ (ShC S' ∧ Fq RdF S S') ∧ ∃ res, txF tp res ∧ match res with
        | .inl f => r = some (.int (nI f)) ∧ 0 < f ∧ f < 2 ^ 31
        | .inr (w, hh, s) => r = some (.int 0) ∧ (∃ q, CLs S' tp q s) ∧ gI S' 3 0 = nI w ∧ gI S' 3 1 = nI hh) := by
      refine w21_3 ?_
      refine W_t (hS11.k3) ?_
      refine ⟨f011.mono, ⟨hS11, f011⟩, .inl f, ?_, by rw [h11.1], h11.2.1, h11.2.2⟩
      unfold txF
      rw [e]
    refine w21_1 ?_
    refine W_t (by decide) ?_
    refine W_t (hS11.k3) ?_
    refine W_f (h11.ne) ?_
    exact fin
  | inr z =>
    obtain ⟨w, hh, q⟩ := z
    rw [e] at h11
    obtain ⟨c11, k0, k1⟩ := h11
    have g11 : ∀ k, (k = 2 ∨ k = 3 ∨ k = 9 ∨ k = 10) → gI S11 3 k = gI S9 3 k := fun k hk => by
      rw [f11.1 _ _ (by omega), f10.1 _ _ (by omega)]
    refine WP.mono (f21_loop (D := D) hS11 hln tp.length 0 q ls0 S11 (by omega) (Nat.zero_le _) Fr.rf rfl rfl ⟨c11, by rw [g11 2 (by omega)]; exact k2, by rw [g11 9 (by omega), k9]; rfl, by rw [g11 10 (by omega), k10]; rfl, ⟨by rw [g11 3 (by omega)]; exact k3, Nat.zero_le _, fun i w hi => (by cases hi)⟩, fun i x hi => (by cases hi), fun i x hi => (by cases hi), rfl, rfl, Nat.zero_le _, fun _ => rfl⟩) ?_
    intro r S12 ⟨f12, res, n, hl, hm⟩
    have f012 : Fq RdF S S12 := f011.tr (f12.q (fun a k z => by rcases z with z | z <;> exact ⟨by omega, by omega⟩))
    cases res with
    | inl f =>
      refine ⟨f012.mono, ⟨hS11.of f12.2.2, f012⟩, .inl f, ?_, hm⟩
      unfold txF
      rw [e]
      exact ⟨n, Or.inl ⟨f, hl, rfl⟩⟩
    | inr s =>
      obtain ⟨m1, m2, m3, m4⟩ := hm
      refine ⟨f012.mono, ⟨hS11.of f12.2.2, f012⟩, .inr (w, hh, s), ?_, m1, m2, by rw [m3]; exact k0, by rw [m4]; exact k1⟩
      unfold txF
      rw [e]
      exact ⟨n, Or.inr ⟨s, hl, rfl⟩⟩
theorem CLs.rdh {q w h : Nat} {s : LnS} (hc : CLs S tp q s) (h0 : gI S 3 0 = nI w) (h1 : gI S 3 1 = nI h) (hx : txF tp (.inr (w, h, s))) : RdH S w h s := by
  obtain ⟨⟨c1, c2, c3, c4, c5, c6⟩, d1, d2, d3, d4, d5, d6, d7, d8, d9, d10⟩ := hc
  have hS := c1.1
  have hl := c1.2.2.2.2.1
  obtain ⟨x1, x2, x3⟩ := txF_ok hx
  exact ⟨⟨hS.k3, hS.r3_4, hS.r3_5, hS.r3_7⟩, ⟨⟨hS.k4, hS.n4⟩, ⟨hS.k5, hS.n5⟩, hS.k7, hS.n7⟩, ⟨h0, h1, d1, d4.1, d3⟩, ⟨d5, d6⟩, fun _ => ⟨c4, by omega, c5⟩, x2, x3, x1⟩
theorem ShC.z {S : St} (h : ShC S) (hv : Lv S) : 38 ≤ gZ S := hv.le h.k38 (by decide)
theorem shC_le : (∀ q ∈ shC_R, q.1 ≤ 38) ∧ ∀ q ∈ shC_K, q.1 ≤ 38 := by decide
theorem ShC.fx {P : Nat → Nat → Prop} (h : ShC S) (hv : Lv S) (f : FX P S S') (hn : ∀ q ∈ shC_R, ¬ P q.1 q.2.1) : ShC S' := by
  have hz := h.z hv
  refine ⟨fun q hq => ?_, fun q hq => ?_⟩
  · rw [f.R (Nat.le_trans (shC_le.1 q hq) hz) (hn q hq)]; exact h.1 q hq
  · rw [f.K (Nat.le_trans (shC_le.2 q hq) hz), f.N (Nat.le_trans (shC_le.2 q hq) hz)]; exact h.2 q hq
theorem MkC1.fx {P : Nat → Nat → Prop} {i : Nat} {m : Option MkD} (h : MkC1 S i m) (hi : i < 4) (hz : 38 ≤ gZ S) (hv : Lv S) (f : FX P S S') (hd : ∀ a k, P a k → ¬ dyn a) (h1 : ∀ k, ¬ P (31 + 2 * i) k ∧ ¬ P (32 + 2 * i) k) : MkC1 S' i m := by
  have r := f.R (show 31 + 2 * i ≤ gZ S by omega) (h1 0).1
  cases m with
  | none => exact r.trans h
  | some q => exact ⟨h.1, by rw [r]; exact h.2.1.fx hv f hd, h.2.2.1, h.2.2.2.1.fx (by omega) f (fun k _ => (h1 k).2), by rw [f.I (by omega) (h1 2).1]; exact h.2.2.2.2⟩
theorem MkC.fx {P : Nat → Nat → Prop} {mk : Nat → Option MkD} (h : MkC S mk) (hz : 38 ≤ gZ S) (hv : Lv S) (f : FX P S S') (hd : ∀ a k, P a k → ¬ dyn a) (h1 : ∀ a k, P a k → ¬ (31 ≤ a ∧ a ≤ 38)) : MkC S' mk := fun i hi => (h i hi).fx hi hz hv f hd (fun k => ⟨fun z => h1 _ _ z (by omega), fun z => h1 _ _ z (by omega)⟩)
theorem TapeC.nil (h : gI S 1 1 = 0) : TapeC S [] := ⟨h, by decide, fun v hv => absurd hv List.not_mem_nil, fun i v hv => by cases hv⟩
abbrev TrP : Nat → Nat → Prop := fun a k => (3 ≤ a ∧ a ≤ 7) ∨ (a = 1 ∧ (k = 1 ∨ k = 3 ∨ k = 10)) ∨ (9 ≤ a ∧ a ≤ 15) ∨ a = 23
theorem itL_le {q : Nat} {s : LnS} (hc : CLs S tp q s) : (itL s).length ≤ 1000 := by
  have h1 := hc.1.2.2.2.2.2
  have h2 := hc.1.1.2.2.2.2.1
  have h3 := hc.2.2.2.2.2.2.2.2.2.1
  unfold itL
  split
  · omega
  · show 1 ≤ 1000; omega
set_option maxRecDepth 4096 in
/-- truce of the class -/
theorem f88 {d : Nat} {T : TD} {E : Env → Int32} {A : List Nat} {mk : Nat → Option MkD} (h : CI S tp T E A mk) (hz : 73 ≤ gZ S) : Sp (F (d + 40) 88 [.ref 1] S) (fun v S' => FX CP S S' ∧ (gZ S' ≤ gZ S + 6 ∧ gU S' ≤ gU S + 1600) ∧ ∃ res, txF tp res ∧ match res with
    | .inl f => v = some (.int (nI f)) ∧ CI S' [] T E A mk
    | .inr (w, hh, s) => v = some (.int 0) ∧ CI S' [] (tdL w hh s) (fnL s) [] mk) := by
  obtain ⟨hS, hv, hT, hC, hD, hM, hp1, hp2⟩ := h
  obtain ⟨t1, t2, t3, t4⟩ := hT
  refine fw88 (w88_0 ?_)
  refine W_t (hS.k1) ?_
  refine W_t (hS.k1) ?_
  refine W_t (hS.k1) ?_
  rw [hS.r1_2, hS.r1_0, t1]
  refine W_t (hS.k3) ?_
  obtain ⟨r, S1, e1, ⟨hS1, f1⟩, res, hres, hm⟩ := f21s (D := d) hS t4 t2 t3
  have g1 : ∀ S3, S3 = pI S1 1 1 0 → Fq (fun a k => RdF a k ∨ (a = 1 ∧ k = 1)) S S3 ∧ ShC S3 := fun S3 e => by
    have z : Fq (fun a k => RdF a k ∨ (a = 1 ∧ k = 1)) S1 S3 := by rw [e]; exact Fq.pI (Or.inr ⟨rfl, rfl⟩)
    exact ⟨(f1.weak (fun a k z => Or.inl z)).tr z, by rw [e]; exact hS1⟩
  cases res with
  | inl f =>
    obtain ⟨rfl, hf0, hf⟩ := hm
    refine W_I (e1) ?_
    refine W_t (hS1.k1) ?_
    refine W_s fun S3 e3 => ?_
    obtain ⟨g3, hS3⟩ := g1 S3 e3
    have hne : nI f ≠ 0 := fun z => by
      have := nI_toInt (n := f) (by omega)
      rw [z] at this
      have h0 : (0 : Int32).toInt = 0 := by decide
      omega
    refine W_f (hne) ?_
    have hd : ∀ a k, (RdF a k ∨ (a = 1 ∧ k = 1)) → ¬ dyn a := fun a k z y => by
      unfold dyn at y
      rcases z with ⟨z1, z2⟩ | ⟨z1, z2⟩ <;> omega
    have np : ∀ a k, (a < 3 ∨ 7 < a) → ¬ (a = 1 ∧ k = 1) → ¬ (RdF a k ∨ (a = 1 ∧ k = 1)) := fun a k x y z => by
      rcases z with ⟨z1, z2⟩ | z
      · omega
      · exact y z
    refine ⟨g3.mono, g3.X.weak (fun a k _ z => by rcases z with ⟨z1, z2⟩ | ⟨z1, z2⟩ <;> exact Or.inl (by omega)), ⟨by rw [g3.Z]; omega, by rw [g3.U]; omega⟩, .inl f, hres, rfl, hS3, g3.Lv hv, TapeC.nil (by rw [e3, gI_pI, if_pos ⟨rfl, rfl⟩]), hC.fq g3 (np _ _ (by omega) (by omega)) hd (fun a k z => by rcases z with ⟨z1, z2⟩ | ⟨z1, z2⟩ <;> omega) (fun k => np _ _ (by omega) (by omega)), hD.fq g3 (np _ _ (by omega) (by omega)) (fun k => np _ _ (by omega) (by omega)), hM.fq g3 hd (fun a k z y => np a k (by omega) (by omega) z), hp1.fq g3 hd (fun k => ⟨np _ _ (by omega) (by omega), np _ _ (by omega) (by omega)⟩), hp2.fq g3 hd (fun k => ⟨np _ _ (by omega) (by omega), np _ _ (by omega) (by omega)⟩)⟩
  | inr z =>
    obtain ⟨w, hh, s⟩ := z
    obtain ⟨rfl, ⟨q, hq⟩, k0, k1⟩ := hm
    have hit := itL_le hq
    refine W_I (e1) ?_
    refine W_t (hS1.k1) ?_
    refine W_s fun S3 e3 => ?_
    obtain ⟨g3, hS3⟩ := g1 S3 e3
    have hr1 : RdH S1 w hh s := hq.rdh k0 k1 hres
    have hr3 : RdH S3 w hh s := by
      refine hr1.fx (P := fun a k => a = 1 ∧ k = 1) (by rw [e3]; exact FX.pI (fun _ => ⟨rfl, rfl⟩)) (by rw [f1.Z]; omega) (fun a k _ _ z => by omega)
    have z3 := g3.Z
    have u3 := g3.U
    have v3 := g3.Lv hv
    have i3 : gI S3 1 1 = 0 := by rw [e3, gI_pI, if_pos ⟨rfl, rfl⟩]
    clear e3
    refine W_t (rfl) ?_
    refine W_t (hS3.k1) ?_
    rw [hS3.r1_2]
    refine W_t (hS3.k3) ?_
    refine W_Re (f19 (d := d + 34) hr3 v3 (by omega)) ?_
    intro x S4 ⟨hx, ⟨z4, u4⟩, f4, v4, t4', c4, i4, r4, r5, r6, r8⟩
    have hS4 : ShC S4 := hS3.fx v3 f4 (fun _ _ z => z)
    refine W_t (hS4.k1) ?_
    refine W_s fun S6 e6 => ?_
    obtain ⟨x1, x2, x3⟩ := txF_ok hres
    have hT := okT_td x1 x2 x3
    have hcand := candL_250 _ hT.1
    have q6 : Fq (fun a k => a = 1 ∧ k = 3) S4 S6 := by rw [e6]; exact Fq.pR ⟨rfl, rfl⟩
    have hS6 : ShC S6 := hS4.fq q6 (by decide)
    have g6 : FX TrP S S6 := (g3.X.weak (fun a k _ z => by rcases z with z | ⟨z1, z2⟩; exact Or.inl z; exact Or.inr (Or.inl ⟨z1, by omega⟩))).tr ((f4.weak (fun _ _ _ z => z.elim)).tr (q6.X.weak (fun a k _ z => Or.inr (Or.inl ⟨z.1, by omega⟩))))
    have v6 : Lv S6 := q6.Lv v4
    have z6 : gZ S6 = gZ S + 6 := by rw [q6.Z]; omega
    have u6 : gU S6 ≤ gU S + 1600 := by rw [q6.U]; omega
    have r13 : gR S6 1 3 = x := by rw [e6, gR_pR, if_pos ⟨rfl, rfl⟩]
    have i6 : gI S6 1 1 = 0 := by rw [e6, gI_pR, f4.I (by omega) (fun z => z)]; exact i3
    have dy : ∀ n, 74 ≤ n → dyn n := fun n hn => Or.inr hn
    have tf4 : TF S4 x (tdL w hh s) (fnL s) := ⟨t4', ⟨itL s, c4, fnL_ev x1⟩, i4, dy _ (by omega), dy _ (by omega), dy _ (by omega), dy _ (by omega), dy _ (by omega)⟩
    have tf6 : TF S6 x (tdL w hh s) (fnL s) := tf4.fq q6 (fun a k z y => by unfold dyn at y; omega)
    clear e6 t4' c4 i4 tf4
    refine W_t (hS6.k1) ?_
    rw [hS6.r1_4]
    refine W_t (hS6.k9) ?_
    refine W_Ve (f51 (d := d + 38) hS6) ?_
    intro S7 ⟨f7, s7, _⟩
    have hS7 := hS6.of f7.2.2
    refine W_t (hS7.k1) ?_
    have C7 : CurC S7 (tdL w hh s) (fnL s) [] := ⟨hT.2, by rw [f7.R, r13]; exact tf6.fr f7 (fun a k z y => by unfold dyn at y; have z : 9 ≤ a ∧ a ≤ 15 := z; omega), trivial, s7, fun i v hv => by cases hv⟩
    refine W_Ve (f107 (d := d + 33) hS7 C7) ?_
    intro S8 ⟨f8, d8⟩
    have g7 : FX TrP S6 S7 := f7.X (fun a k _ z => Or.inr (Or.inr (Or.inl (z.elim id id))))
    have q8 : Fq LrP S7 S8 := f8.q (fun a k z => z.elim id False.elim)
    have g8 : FX TrP S S8 := (g6.tr g7).tr (q8.X.weak (fun a k _ z => by rcases z with z | z; exact Or.inr (Or.inr (Or.inr z)); exact Or.inr (Or.inl ⟨z.1, Or.inr (Or.inr z.2)⟩)))
    have hd : ∀ a k, TrP a k → ¬ dyn a := fun a k z y => by
      unfold dyn at y
      rcases z with z | z | z | z <;> omega
    have hz38 := hS.z hv
    refine ⟨g8.1, g8.weak (fun a k _ z => by rcases z with z | z | z | z <;> exact Or.inl (by omega)), ⟨?_, ?_⟩, .inr (w, hh, s), hres, rfl, hS7.of f8.2.2, q8.Lv (v6.Z (by rw [f7.2.2])), TapeC.nil ?_, C7.fq q8 (by decide) (fun a k z y => ?_) (fun a k z => by rcases z with z | z <;> omega) (fun k z => by rcases z with z | z <;> omega), d8, hM.fx hz38 hv g8 hd (fun a k z y => by rcases z with z | z | z | z <;> omega), hp1.fx hv g8 ⟨by omega, by omega⟩ hd (fun k => ⟨fun z => by rcases z with z | z | z | z <;> omega, fun z => by rcases z with z | z | z | z <;> omega⟩), hp2.fx hv g8 ⟨by omega, by omega⟩ hd (fun k => ⟨fun z => by rcases z with z | z | z | z <;> omega, fun z => by rcases z with z | z | z | z <;> omega⟩)⟩
    · rw [q8.Z, f7.Z, z6]; omega
    · rw [q8.U, f7.U]; exact u6
    · rw [f8.1 _ _ (by decide), f7.1 _ _ (by decide)]; exact i6
    · unfold dyn at y
      rcases z with z | z <;> omega
end CLS
