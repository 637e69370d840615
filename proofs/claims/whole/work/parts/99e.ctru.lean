/-- what the reader holds behind a good text -/
def RdH (S : St) (w h : Nat) (s : LnS) : Prop := (gK S 3 = 2 ∧ gR S 3 4 = 4 ∧ gR S 3 5 = 5 ∧ gR S 3 7 = 7) ∧ ((gK S 4 = 100 ∧ gN S 4 = 6) ∧ (gK S 5 = 100 ∧ gN S 5 = 6) ∧ (gK S 7 = 100 ∧ gN S 7 = 1000)) ∧ (gI S 3 0 = nI w ∧ gI S 3 1 = nI h ∧ gI S 3 2 = nI s.1 ∧ gI S 3 3 = nI s.2.2.2.1.length ∧ gI S 3 10 = bo s.2.2.1) ∧ (HL S 4 s.2.2.2.2.1 ∧ HL S 5 s.2.2.2.2.2.1) ∧ (s.2.2.1 = true → gI S 3 8 = nI s.2.2.2.2.2.2.1.length ∧ s.2.2.2.2.2.2.1.length ≤ 1000 ∧ ∀ i v, s.2.2.2.2.2.2.1[i]? = some v → gI S 7 i = v) ∧ (2 ≤ w ∧ w ≤ 10) ∧ (1 ≤ h ∧ h ≤ 6) ∧ okLn s
section CLS
variable {S S' : St} {w h : Nat} {s : LnS}
theorem RdH.fx {P : Nat → Nat → Prop} (hr : RdH S w h s) (f : FX P S S') (hz : 7 ≤ gZ S) (hn : ∀ a k, 3 ≤ a → a ≤ 7 → ¬ P a k) : RdH S' w h s := by
  obtain ⟨⟨a1, a2, a3, a4⟩, ⟨⟨b1, b2⟩, ⟨b3, b4⟩, b5, b6⟩, ⟨c1, c2, c3, c4, c5⟩, ⟨d1, d2⟩, e1, g⟩ := hr
  have n3 : ∀ k, ¬ P 3 k := fun k => hn 3 k (by decide) (by decide)
  have z3 : 3 ≤ gZ S := by omega
  have z4 : 4 ≤ gZ S := by omega
  have z5 : 5 ≤ gZ S := by omega
  refine ⟨⟨(f.K z3).trans a1, (f.R z3 (n3 _)).trans a2, (f.R z3 (n3 _)).trans a3, (f.R z3 (n3 _)).trans a4⟩, ⟨⟨(f.K z4).trans b1, (f.N z4).trans b2⟩, ⟨(f.K z5).trans b3, (f.N z5).trans b4⟩, (f.K hz).trans b5, (f.N hz).trans b6⟩, ⟨(f.I z3 (n3 _)).trans c1, (f.I z3 (n3 _)).trans c2, (f.I z3 (n3 _)).trans c3, (f.I z3 (n3 _)).trans c4, (f.I z3 (n3 _)).trans c5⟩, ⟨d1.fx z4 f (fun k _ => hn _ _ (by decide) (by decide)), d2.fx z5 f (fun k _ => hn _ _ (by decide) (by decide))⟩, fun y => ?_, g⟩
  obtain ⟨y1, y2, y3⟩ := e1 y
  exact ⟨(f.I z3 (n3 _)).trans y1, y2, fun i v hi => (f.I hz (hn _ _ (by decide) (by decide))).trans (y3 i v hi)⟩
set_option maxRecDepth 4096 in
theorem f20 {d : Nat} (hr : RdH S w h s) (hv : Lv S) (hz : 7 ≤ gZ S) : Sp (F (d + 1) 20 [.ref 3] S) (fun v S' => ∃ x : Nat, v = some (.ref x) ∧ x = gZ S + 1 ∧ gZ S' = gZ S + 1 ∧ gU S' = gU S + (itL s).length ∧ FX nol S S' ∧ Lv S' ∧ HC S' x (itL s)) := by
  obtain ⟨⟨a1, a2, a3, a4⟩, ⟨-, -, b5, b6⟩, ⟨c1, c2, c3, c4, c5⟩, -, e1, g⟩ := hr
  refine fw20 (w20_0 ?_)
  refine W_t (a1) ?_
  by_cases z : s.2.2.1 = true
  · obtain ⟨y1, y2, y3⟩ := e1 z
    have hit : itL s = s.2.2.2.2.2.2.1 := if_pos z
    rw [hit]
    have c5' : gI S 3 10 ≠ 0 := by rw [c5]; unfold bo; rw [if_pos z]; decide
    refine W_f (c5') ?_
    refine W_t (a1) ?_
    show WP _ _ _
    refine w20_1 ?_
    generalize s.2.2.2.2.2.2.1 = js at y1 y2 y3
    rw [y1, nI_toInt (by omega)]
    refine W_t (⟨by omega, by omega⟩) ?_
    refine W_s fun S1 e1 => ?_
    have f1 : FX nol S S1 := by rw [e1]; exact FX.nw _ _
    have n3 : ∀ {a k}, ¬ nol a k := fun z => z
    refine W_t (by rw [f1.K (by omega)]; exact a1) ?_
    refine W_f (by rw [f1.I (by omega) n3]; exact c5') ?_
    refine W_t (by rw [f1.K (by omega)]; exact a1) ?_
    refine W_t (by rw [f1.K (by omega)]; exact a1) ?_
    have k8 : gI S1 3 8 = nI js.length := by rw [f1.I (by omega) n3]; exact y1
    have r7 : gR S1 3 7 = 7 := by rw [f1.R (by omega) n3]; exact a4
    rw [k8, r7]
    have kN : gK S1 (gZ S + 1) = 100 := by rw [e1, gK_nw, if_pos rfl]
    have nN : gN S1 (gZ S + 1) = js.length := by rw [e1, gN_nw, if_pos rfl, nI_clamp (by omega)]
    refine W_t (by rw [f1.K hz, f1.N hz, kN, nN, b5, b6, nI_toInt (by omega), show (0 : Int32).toInt = 0 from by decide]; omega) ?_
    refine W_s fun S2 e2 => ?_
    have f2 : FX nol S S2 := by
      refine FX.weak (P := fun a _ => gZ S < a) ?_ (fun a k ha z => absurd (show gZ S < a from z) (by omega))
      refine (f1.weak (fun _ _ _ z => z.elim)).tr ?_
      rw [e2]
      exact FX.cpI (fun _ k _ _ => by show gZ S < gZ S + 1; omega)
    refine ⟨f2.1, gZ S + 1, rfl, rfl, ?_, ?_, f2, ?_, ?_, ?_, ?_, ?_⟩
    · rw [e2, gZ_cpI, e1, gZ_nw]
    · rw [e2, gU_cpI, e1, gU_nw, nI_clamp (by omega)]
    · rw [e2]; exact Lv.Z (by rw [e1]; exact hv.nw _ _) rfl
    · rw [e2, gK_cpI]; exact kN
    · rw [e2, gN_cpI]; exact nN
    · omega
    · intro i v hi
      have hl := (List.getElem?_eq_some_iff.mp hi).1
      rw [e2, gI_cpI, nI_clamp (by omega), show (0 : Int32).toNatClampNeg = 0 from by decide, if_pos ⟨rfl, by omega, by omega⟩, f1.I hz n3, show 0 + (i - 0) = i by omega]
      exact y3 i v hi
  · have hit : itL s = [-138] := if_neg z
    rw [hit]
    have c5' : gI S 3 10 = 0 := by rw [c5]; unfold bo; rw [if_neg z]
    refine W_t (c5') ?_
    show WP _ _ _
    refine w20_1 ?_
    refine W_t (by decide) ?_
    refine W_s fun S1 e1 => ?_
    have f1 : FX nol S S1 := by rw [e1]; exact FX.nw _ _
    have n3 : ∀ {a k}, ¬ nol a k := fun z => z
    refine W_t (by rw [f1.K (by omega)]; exact a1) ?_
    refine W_t (by rw [f1.I (by omega) n3]; exact c5') ?_
    have kN : gK S1 (gZ S + 1) = 100 := by rw [e1, gK_nw, if_pos rfl]
    have nN : gN S1 (gZ S + 1) = 1 := by rw [e1, gN_nw, if_pos rfl]; decide
    refine W_t (⟨kN, by rw [nN]; decide⟩) ?_
    refine W_s fun S2 e2 => ?_
    have f2 : FX nol S S2 := by
      refine FX.weak (P := fun a _ => gZ S < a) ?_ (fun a k ha z => absurd (show gZ S < a from z) (by omega))
      refine (f1.weak (fun _ _ _ z => z.elim)).tr ?_
      rw [e2]
      exact FX.pI (fun _ => by show gZ S < gZ S + 1; omega)
    refine ⟨f2.1, gZ S + 1, rfl, rfl, ?_, ?_, f2, ?_, ?_, ?_, ?_, ?_⟩
    · rw [e2, gZ_pI, e1, gZ_nw]
    · rw [e2, gU_pI, e1, gU_nw]; rfl
    · rw [e2]; exact Lv.Z (by rw [e1]; exact hv.nw _ _) rfl
    · rw [e2, gK_pI]; exact kN
    · rw [e2, gN_pI]; exact nN
    · decide
    · intro i v hi
      have hl := (List.getElem?_eq_some_iff.mp hi).1
      have hi0 : i = 0 := by simp only [List.length_cons, List.length_nil] at hl; omega
      subst hi0
      rw [e2, gI_pI, if_pos ⟨rfl, by decide⟩]
      exact Option.some.inj hi
/-- what a new truce holds before its last two fields are laid -/
def NtH (S : St) (t w h : Nat) (s : LnS) (S11 : St) : Prop := (gZ S11 = gZ S + 3 ∧ gU S11 = gU S + 12 + (itL s).length ∧ Lv S11 ∧ FX (fun a _ => a = t) S S11 ∧ gK S11 t = 5) ∧ (gI S11 t 0 = nI w ∧ gI S11 t 1 = nI h ∧ gI S11 t 2 = nI s.1 ∧ gI S11 t 3 = nI s.2.2.2.1.length) ∧ (gR S11 t 4 = gZ S + 1 ∧ gR S11 t 5 = gZ S + 2 ∧ gR S11 t 6 = gZ S + 3) ∧ (gK S11 (gZ S + 1) = 100 ∧ gN S11 (gZ S + 1) = 6 ∧ HL S11 (gZ S + 1) s.2.2.2.2.1) ∧ (gK S11 (gZ S + 2) = 100 ∧ gN S11 (gZ S + 2) = 6 ∧ HL S11 (gZ S + 2) s.2.2.2.2.2.1) ∧ HC S11 (gZ S + 3) (itL s)
set_option maxRecDepth 4096 in
theorem f56_2 {d t : Nat} {S11 : St} {y : Int32} (hN : NtH S t w h s S11) (ht : 8 ≤ t ∧ t ≤ gZ S) (hT : okT (tdL w h s)) (hl1 : s.2.2.2.2.1.length = s.2.2.2.1.length) (hl2 : s.2.2.2.2.2.1.length = s.2.2.2.1.length) (hy : y = bi (small (tdL w h s))) : WP (P56 (F (d + 3))) (2, [.ref t, .ref 3], [.int y, .ref t], S11) (fun v S' => (gZ S ≤ gZ S' ∧ gU S ≤ gU S') ∧ v = none ∧ (gZ S' = gZ S + 5 ∧ gU S' = gU S + 262 + (itL s).length + (candL (tdL w h s)).length) ∧ FX (fun a _ => a = t) S S' ∧ Lv S' ∧ TC S' t (tdL w h s) ∧ HC S' (gR S' t 6) (itL s) ∧ gI S' t 7 = bi (small (tdL w h s)) ∧ gR S' t 4 = gZ S + 1 ∧ gR S' t 5 = gZ S + 2 ∧ gR S' t 6 = gZ S + 3 ∧ gR S' t 8 = gZ S + 5) := by
  obtain ⟨⟨z11, u11, v11, g11, k11⟩, i11, r11, a11, b11, c11⟩ := hN
  have n1 : ¬ (gZ S + 1 = t) := by have := ht.2; omega
  have n2 : ¬ (gZ S + 2 = t) := by have := ht.2; omega
  have n3 : ¬ (gZ S + 3 = t) := by have := ht.2; omega
  have fp : ∀ (S : St) (k : Nat) (v : Int32), FX (fun a _ => a = t) S (pI S t k v) := fun _ _ _ => FX.pI (fun _ => rfl)
  have fr : ∀ (S : St) (k : Nat) (v : Nat), FX (fun a _ => a = t) S (pR S t k v) := fun _ _ _ => FX.pR (fun _ => rfl)
  refine w56_2 ?_
  refine W_t (⟨k11, by rw [hy]; unfold bi; by_cases z : small (tdL w h s); exact Or.inr (if_pos z); exact Or.inl (if_neg z)⟩) ?_
  refine W_s fun S12 e12 => ?_
  have f12 : FX (fun a _ => a = t) S11 S12 := by rw [e12]; exact fp _ _ _
  have hT12 : TA S12 t (tdL w h s) := by
    have d1 : ∀ i, i < s.2.2.2.1.length → gI S12 (gZ S + 1) i = nI (s.2.2.2.2.1.getD i 0) := fun i hi => by
      have a1 : i < s.2.2.2.2.1.length := by rw [hl1]; exact hi
      rw [e12, gI_pI, if_neg (fun z => n1 z.1), gD _ a1]
      exact a11.2.2 i _ (List.getElem?_eq_getElem a1)
    have d2 : ∀ i, i < s.2.2.2.1.length → gI S12 (gZ S + 2) i = nI (s.2.2.2.2.2.1.getD i 0) := fun i hi => by
      have a1 : i < s.2.2.2.2.2.1.length := by rw [hl2]; exact hi
      rw [e12, gI_pI, if_neg (fun z => n2 z.1), gD _ a1]
      exact b11.2.2 i _ (List.getElem?_eq_getElem a1)
    have q4 : gR S12 t 4 = gZ S + 1 := by rw [e12]; exact r11.1
    have q5 : gR S12 t 5 = gZ S + 2 := by rw [e12]; exact r11.2.1
    refine ⟨hT, by rw [e12]; exact k11, ?_, ?_, ?_, ?_, ⟨by rw [q4, e12]; exact a11.1, by rw [q4, e12]; exact a11.2.1, by rw [q4]; exact d1⟩, by rw [q5, e12]; exact b11.1, by rw [q5, e12]; exact b11.2.1, by rw [q5]; exact d2⟩
    · rw [e12, gI_pI, if_neg (fun z => absurd z.2 (by decide))]; exact i11.1
    · rw [e12, gI_pI, if_neg (fun z => absurd z.2 (by decide))]; exact i11.2.1
    · rw [e12, gI_pI, if_neg (fun z => absurd z.2 (by decide))]; exact i11.2.2.1
    · rw [e12, gI_pI, if_neg (fun z => absurd z.2 (by decide))]; exact i11.2.2.2
  have l12 : t ≤ gZ S12 := by rw [e12, gZ_pI, z11]; exact Nat.le_trans ht.2 (Nat.le_add_right _ _)
  have z12 : gZ S12 = gZ S + 3 := by rw [e12]; exact z11
  have u12 : gU S12 = gU S + 12 + (itL s).length := by rw [e12]; exact u11
  have v12 : Lv S12 := v11.Z (by rw [e12]; rfl)
  have i12 : gI S12 t 7 = bi (small (tdL w h s)) := by rw [e12, gI_pI, if_pos ⟨rfl, rfl⟩]; exact hy
  have r12 : gR S12 t 4 = gZ S + 1 ∧ gR S12 t 5 = gZ S + 2 ∧ gR S12 t 6 = gZ S + 3 := by rw [e12]; exact r11
  have c12 : HC S12 (gZ S + 3) (itL s) := c11.fx v11 f12 (fun _ => n3)
  clear e12
  refine W_t (hT12.2.1) ?_
  refine W_Re (f61 (d := d) hT12 v12) ?_
  intro x2 S13 ⟨hx2, z13, u13, f13, v13, k13, n13, l13⟩
  have hx3 : x2 = gZ S + 5 := by rw [hx2, z12]
  clear hx2
  refine W_t (by rw [f13.K l12]; exact hT12.2.1) ?_
  refine W_s fun S14 e14 => ?_
  have f14 : FX (fun a _ => a = t) S13 S14 := by rw [e14]; exact fr _ _ _
  have g13 : FX (fun a _ => a = t) S S13 := (g11.tr f12).tr (f13.weak (fun _ _ _ z => z.elim))
  have g14 := g13.tr f14
  have q8 : gR S14 t 8 = gZ S + 5 := by rw [e14, gR_pR, if_pos ⟨rfl, rfl⟩]; exact hx3
  have q4 : gR S14 t 4 = gZ S + 1 := by rw [e14, gR_pR, if_neg (fun z => absurd z.2 (by decide)), f13.R l12 (fun z => z)]; exact r12.1
  have q5 : gR S14 t 5 = gZ S + 2 := by rw [e14, gR_pR, if_neg (fun z => absurd z.2 (by decide)), f13.R l12 (fun z => z)]; exact r12.2.1
  have q6 : gR S14 t 6 = gZ S + 3 := by rw [e14, gR_pR, if_neg (fun z => absurd z.2 (by decide)), f13.R l12 (fun z => z)]; exact r12.2.2
  have hT13 : TA S13 t (tdL w h s) := hT12.fx v12 f13 (fun _ z => z) (fun _ z => z) (fun _ z => z)
  refine ⟨g14.1, rfl, ⟨?_, ?_⟩, g14, v13.Z (by rw [e14]; rfl), ⟨?_, ?_, ?_, ?_⟩, ?_, ?_, q4, q5, q6, q8⟩
  · rw [e14, gZ_pR, z13, z12]
  · rw [e14, gU_pR, u13, u12]; omega
  · obtain ⟨t1, t2, t3, t4, t5, t6, t7, t8⟩ := hT13
    have p4 : gR S13 t 4 = gZ S + 1 := by rw [f13.R l12 (fun z => z)]; exact r12.1
    have p5 : gR S13 t 5 = gZ S + 2 := by rw [f13.R l12 (fun z => z)]; exact r12.2.1
    rw [p4] at t7
    rw [p5] at t8
    refine ⟨t1, by rw [e14]; exact t2, by rw [e14]; exact t3, by rw [e14]; exact t4, by rw [e14]; exact t5, by rw [e14]; exact t6, ?_, ?_⟩
    · rw [q4, e14]; exact t7
    · rw [q5, e14]; exact t8
  · rw [q8, e14, ← hx3]; exact k13
  · rw [q8, e14, ← hx3]; exact n13
  · rw [q8, e14, ← hx3]; exact l13
  · rw [q6]
    exact (c12.fx v12 f13 (fun _ z => z)).fx v13 f14 (fun _ => n3)
  · rw [e14, gI_pR, f13.I l12 (fun z => z)]; exact i12
set_option maxRecDepth 4096 in
theorem f56 {d t : Nat} (hr : RdH S w h s) (hv : Lv S) (ht : 8 ≤ t ∧ t ≤ gZ S) (hk : gK S t = 5) : Sp (F (d + 4) 56 [.ref t, .ref 3] S) (fun v S' => v = none ∧ (gZ S' = gZ S + 5 ∧ gU S' = gU S + 262 + (itL s).length + (candL (tdL w h s)).length) ∧ FX (fun a _ => a = t) S S' ∧ Lv S' ∧ TC S' t (tdL w h s) ∧ HC S' (gR S' t 6) (itL s) ∧ gI S' t 7 = bi (small (tdL w h s)) ∧ gR S' t 4 = gZ S + 1 ∧ gR S' t 5 = gZ S + 2 ∧ gR S' t 6 = gZ S + 3 ∧ gR S' t 8 = gZ S + 5) := by
  have hT := okT_td hr.2.2.2.2.2.2.2 hr.2.2.2.2.2.1 hr.2.2.2.2.2.2.1
  have fp : ∀ (S : St) (k : Nat) (v : Int32), FX (fun a _ => a = t) S (pI S t k v) := fun _ _ _ => FX.pI (fun _ => rfl)
  have fr : ∀ (S : St) (k : Nat) (v : Nat), FX (fun a _ => a = t) S (pR S t k v) := fun _ _ _ => FX.pR (fun _ => rfl)
  have nn : ∀ a (k : Nat), 3 ≤ a → a ≤ 7 → ¬ (a = t) := fun a _ _ _ => by omega
  refine fw56 (w56_0 ?_)
  refine W_f (by omega) ?_
  refine W_t (hr.1.1) ?_
  refine W_t (hk) ?_
  refine W_s fun S1 e1 => ?_
  refine W_t (by rw [e1, gK_pI]; exact hr.1.1) ?_
  refine W_t (by rw [e1, gK_pI]; exact hk) ?_
  refine W_s fun S2 e2 => ?_
  refine W_t (by rw [e2, e1, gK_pI, gK_pI]; exact hr.1.1) ?_
  refine W_t (by rw [e2, e1, gK_pI, gK_pI]; exact hk) ?_
  refine W_s fun S3 e3 => ?_
  refine W_t (by rw [e3, e2, e1, gK_pI, gK_pI, gK_pI]; exact hr.1.1) ?_
  refine W_t (by rw [e3, e2, e1, gK_pI, gK_pI, gK_pI]; exact hk) ?_
  refine W_s fun S4 e4 => ?_
  have f4 : FX (fun a _ => a = t) S S4 := by rw [e4, e3, e2, e1]; exact (((fp _ _ _).tr (fp _ _ _)).tr (fp _ _ _)).tr (fp _ _ _)
  have hr4 := hr.fx f4 (by omega) nn
  have z4 : gZ S4 = gZ S := by rw [e4, e3, e2, e1]; rfl
  have u4 : gU S4 = gU S := by rw [e4, e3, e2, e1]; rfl
  have v4 : Lv S4 := hv.Z (by rw [e4, e3, e2, e1]; rfl)
  have k4 : gK S4 t = 5 := by rw [f4.K ht.2]; exact hk
  have i4 : gI S4 t 0 = nI w ∧ gI S4 t 1 = nI h ∧ gI S4 t 2 = nI s.1 ∧ gI S4 t 3 = nI s.2.2.2.1.length := by
    obtain ⟨-, -, ⟨c1, c2, c3, c4, -⟩, -⟩ := hr
    have n3 : ¬ (3 = t) := by omega
    rw [e4, e3, e2, e1]
    simp only [gI_pI, n3, false_and, if_false, true_and, if_true, show ¬ (0 = 1) from by decide, show ¬ (0 = 2) from by decide, show ¬ (0 = 3) from by decide, show ¬ (1 = 2) from by decide, show ¬ (1 = 3) from by decide, show ¬ (2 = 3) from by decide]
    exact ⟨c1, c2, c3, c4⟩
  clear e4 e3 e2 e1
  refine W_t (hr4.1.1) ?_
  rw [hr4.1.2.1]
  refine W_t (hr4.2.1.1.1) ?_
  refine W_s fun S5 e5 => ?_
  have f5 : FX (fun a _ => a = t) S4 S5 := by rw [e5]; exact FX.clI _
  refine W_t (by rw [e5, gK_clI, if_pos rfl]) ?_
  refine W_t (by rw [f5.K (by omega)]; exact k4) ?_
  refine W_s fun S6 e6 => ?_
  have f6 : FX (fun a _ => a = t) S4 S6 := f5.tr (by rw [e6]; exact fr _ _ _)
  have hr6 := hr4.fx f6 (by omega) nn
  have z6 : gZ S6 = gZ S + 1 := by rw [e6, e5, gZ_pR, gZ_clI, z4]
  have u6 : gU S6 = gU S + 6 := by rw [e6, e5, gU_pR, gU_clI, u4, hr4.2.1.1.2]
  have v6 : Lv S6 := Lv.Z (S := S5) (by rw [e5]; exact v4.clI _) (by rw [e6]; rfl)
  have k6 : gK S6 t = 5 := by rw [f6.K (by omega)]; exact k4
  have i6 : gI S6 t 0 = nI w ∧ gI S6 t 1 = nI h ∧ gI S6 t 2 = nI s.1 ∧ gI S6 t 3 = nI s.2.2.2.1.length := by
    rw [e6, e5]
    simp only [gI_pR, gI_clI, if_neg (show ¬ t = gZ S4 + 1 by omega)]
    exact i4
  have r6 : gR S6 t 4 = gZ S + 1 := by rw [e6, gR_pR, if_pos ⟨rfl, rfl⟩, z4]
  have a6 : gK S6 (gZ S + 1) = 100 ∧ gN S6 (gZ S + 1) = 6 ∧ HL S6 (gZ S + 1) s.2.2.2.2.1 := by
    rw [← z4, e6, e5]
    refine ⟨by rw [gK_pR, gK_clI, if_pos rfl], by rw [gN_pR, gN_clI, if_pos rfl]; exact hr4.2.1.1.2, fun i v hi => ?_⟩
    rw [gI_pR, gI_clI, if_pos rfl]
    exact hr4.2.2.2.1.1 i v hi
  clear e5 e6
  refine W_t (hr6.1.1) ?_
  rw [hr6.1.2.2.1]
  refine W_t (hr6.2.1.2.1.1) ?_
  refine W_s fun S7 e7 => ?_
  have f7 : FX (fun a _ => a = t) S6 S7 := by rw [e7]; exact FX.clI _
  refine W_t (by rw [e7, gK_clI, if_pos rfl]) ?_
  refine W_t (by rw [f7.K (by omega)]; exact k6) ?_
  refine W_s fun S8 e8 => ?_
  have f8 : FX (fun a _ => a = t) S6 S8 := f7.tr (by rw [e8]; exact fr _ _ _)
  have hr8 := hr6.fx f8 (by omega) nn
  have z8 : gZ S8 = gZ S + 2 := by rw [e8, e7, gZ_pR, gZ_clI, z6]
  have u8 : gU S8 = gU S + 12 := by rw [e8, e7, gU_pR, gU_clI, u6, hr6.2.1.2.1.2]
  have v8 : Lv S8 := Lv.Z (S := S7) (by rw [e7]; exact v6.clI _) (by rw [e8]; rfl)
  have k8 : gK S8 t = 5 := by rw [f8.K (by omega)]; exact k6
  have i8 : gI S8 t 0 = nI w ∧ gI S8 t 1 = nI h ∧ gI S8 t 2 = nI s.1 ∧ gI S8 t 3 = nI s.2.2.2.1.length := by
    rw [e8, e7]
    simp only [gI_pR, gI_clI, if_neg (show ¬ t = gZ S6 + 1 by omega)]
    exact i6
  have r8 : gR S8 t 4 = gZ S + 1 ∧ gR S8 t 5 = gZ S + 2 := by
    rw [e8, e7]
    refine ⟨by rw [gR_pR, if_neg (by omega), gR_clI, if_neg (by omega)]; exact r6, by rw [gR_pR, if_pos ⟨rfl, rfl⟩, z6]⟩
  have a8 : gK S8 (gZ S + 1) = 100 ∧ gN S8 (gZ S + 1) = 6 ∧ HL S8 (gZ S + 1) s.2.2.2.2.1 := ⟨by rw [f8.K (by omega)]; exact a6.1, by rw [f8.N (by omega)]; exact a6.2.1, a6.2.2.fx (by omega) f8 (fun _ _ => by omega)⟩
  have b8 : gK S8 (gZ S + 2) = 100 ∧ gN S8 (gZ S + 2) = 6 ∧ HL S8 (gZ S + 2) s.2.2.2.2.2.1 := by
    rw [show gZ S + 2 = gZ S6 + 1 by omega, e8, e7]
    refine ⟨by rw [gK_pR, gK_clI, if_pos rfl], by rw [gN_pR, gN_clI, if_pos rfl]; exact hr6.2.1.2.1.2, fun i v hi => ?_⟩
    rw [gI_pR, gI_clI, if_pos rfl]
    exact hr6.2.2.2.1.2 i v hi
  clear e7 e8
  refine W_t (hr8.1.1) ?_
  refine W_Re (f20 (d := d + 2) hr8 v8 (by omega)) ?_
  intro x S9 ⟨hx, z9, u9, f9, v9, c9⟩
  rw [z8] at hx z9
  rw [u8] at u9
  refine W_t (by rw [f9.K (by omega)]; exact k8) ?_
  refine W_s fun S11 e11 => ?_
  have z11 : gZ S11 = gZ S + 3 := by rw [e11]; exact z9
  have u11 : gU S11 = gU S + 12 + (itL s).length := by rw [e11]; exact u9
  have v11 : Lv S11 := v9.Z (by rw [e11]; rfl)
  have f11 : FX (fun a _ => a = t) S8 S11 := (f9.weak (fun _ _ _ z => z.elim)).tr (by rw [e11]; exact fr _ _ _)
  have g11 : FX (fun a _ => a = t) S S11 := ((f4.tr f6).tr f8).tr f11
  have k11 : gK S11 t = 5 := by rw [f11.K (by omega)]; exact k8
  have i11 : gI S11 t 0 = nI w ∧ gI S11 t 1 = nI h ∧ gI S11 t 2 = nI s.1 ∧ gI S11 t 3 = nI s.2.2.2.1.length := by
    rw [e11]
    simp only [gI_pR]
    have l8 : t ≤ gZ S8 := by omega
    exact ⟨(f9.I l8 (fun z => z)).trans i8.1, (f9.I l8 (fun z => z)).trans i8.2.1, (f9.I l8 (fun z => z)).trans i8.2.2.1, (f9.I l8 (fun z => z)).trans i8.2.2.2⟩
  have r11 : gR S11 t 4 = gZ S + 1 ∧ gR S11 t 5 = gZ S + 2 ∧ gR S11 t 6 = gZ S + 3 := by
    rw [e11]
    refine ⟨by rw [gR_pR, if_neg (by omega), f9.R (by omega) (fun z => z)]; exact r8.1, by rw [gR_pR, if_neg (by omega), f9.R (by omega) (fun z => z)]; exact r8.2, by rw [gR_pR, if_pos ⟨rfl, rfl⟩]; exact hx⟩
  have a11 : gK S11 (gZ S + 1) = 100 ∧ gN S11 (gZ S + 1) = 6 ∧ HL S11 (gZ S + 1) s.2.2.2.2.1 := ⟨by rw [f11.K (by omega)]; exact a8.1, by rw [f11.N (by omega)]; exact a8.2.1, a8.2.2.fx (by omega) f11 (fun _ _ => by omega)⟩
  have b11 : gK S11 (gZ S + 2) = 100 ∧ gN S11 (gZ S + 2) = 6 ∧ HL S11 (gZ S + 2) s.2.2.2.2.2.1 := ⟨by rw [f11.K (by omega)]; exact b8.1, by rw [f11.N (by omega)]; exact b8.2.1, b8.2.2.fx (by omega) f11 (fun _ _ => by omega)⟩
  have c11 : HC S11 (gZ S + 3) (itL s) := by
    rw [e11]
    rw [hx] at c9
    exact c9
  clear e11 a8 b8 r8 i8 i6 i4 a6 r6
  have fin : NtH S t w h s S11 := ⟨⟨z11, u11, v11, g11, k11⟩, i11, r11, a11, b11, c11⟩
  refine W_t (k11) ?_
  have hw := hr.2.2.2.2.2.1
  have hh := hr.2.2.2.2.2.2.1
  rw [i11.1, i11.2.1]
  refine W_if (fun q => ?_) (fun q => ?_)
  · show WP _ _ _
    refine w56_1 ?_
    show WP _ _ _
    refine f56_2 fin ht hT.1 hr.2.2.2.2.2.2.2.2.2.1 hr.2.2.2.2.2.2.2.2.2.2.1 ?_
    simp (disch := omega) only [c5, i_lt] at q
    unfold bi
    rw [if_neg (fun z => by have z1 : w ≤ 5 := z.1; omega)]
  · simp (disch := omega) only [c5, i_lt] at q
    refine W_t (k11) ?_
    refine W_t (k11) ?_
    rw [show nI h + 1 = nI (h + 1) from nI_1 h]
    refine W_I (f60 (d := d + 2) (b := h + 1) (e := w) (by omega)) ?_
    have hp : (h + 1) ^ w ≤ 7 ^ 5 := Nat.le_trans (Nat.pow_le_pow_left (by omega) w) (Nat.pow_le_pow_right (by decide) (by omega))
    have hc256 : (256 : Int32) = nI 256 := by decide
    rw [hc256]
    refine W_if (fun q2 => ?_) (fun q2 => ?_)
    · show WP _ _ _
      refine w56_1 ?_
      show WP _ _ _
      refine f56_2 fin ht hT.1 hr.2.2.2.2.2.2.2.2.2.1 hr.2.2.2.2.2.2.2.2.2.2.1 ?_
      rw [i_lt (by decide) (by omega)] at q2
      unfold bi
      rw [if_neg (fun z => by have z1 : (h + 1) ^ w ≤ 256 := z.2; omega)]
    · show WP _ _ _
      refine f56_2 fin ht hT.1 hr.2.2.2.2.2.2.2.2.2.1 hr.2.2.2.2.2.2.2.2.2.2.1 ?_
      rw [i_lt (by decide) (by omega)] at q2
      unfold bi
      rw [if_pos ⟨by show w ≤ 5; omega, by show (h + 1) ^ w ≤ 256; omega⟩]
set_option maxRecDepth 4096 in
/-- a new truce: six cells -/
theorem f19 {d : Nat} (hr : RdH S w h s) (hv : Lv S) (hz : 7 ≤ gZ S) : Sp (F (d + 5) 19 [.ref 3] S) (fun v S' => ∃ x : Nat, v = some (.ref x) ∧ x = gZ S + 1 ∧ (gZ S' = gZ S + 6 ∧ gU S' = gU S + 271 + (itL s).length + (candL (tdL w h s)).length) ∧ FX nol S S' ∧ Lv S' ∧ TC S' x (tdL w h s) ∧ HC S' (gR S' x 6) (itL s) ∧ gI S' x 7 = bi (small (tdL w h s)) ∧ gR S' x 4 = gZ S + 2 ∧ gR S' x 5 = gZ S + 3 ∧ gR S' x 6 = gZ S + 4 ∧ gR S' x 8 = gZ S + 6) := by
  refine fw19 (w19_0 ?_)
  refine W_s fun S1 e1 => ?_
  have f1 : FX nol S S1 := by rw [e1]; exact FX.nw _ _
  have z1 : gZ S1 = gZ S + 1 := by rw [e1]; rfl
  have u1 : gU S1 = gU S + 9 := by rw [e1]; rfl
  refine W_f (by omega) ?_
  refine W_Ve (f56 (d := d) (t := gZ S + 1) (hr.fx f1 hz (fun _ _ _ _ z => z)) (by rw [e1]; exact hv.nw _ _) (by omega) (by rw [e1, gK_nw, if_pos rfl])) ?_
  intro S2 ⟨⟨z2, u2⟩, f2, v2, t2, c2, i2, r4, r5, r6, r8⟩
  have g2 : FX nol S S2 := by
    refine FX.weak (P := fun a _ => gZ S < a) ?_ (fun a k ha z => absurd (show gZ S < a from z) (by omega))
    exact (f1.weak (fun _ _ _ z => z.elim)).tr (f2.weak (fun a k _ z => by have z : a = gZ S + 1 := z; show gZ S < a; omega))
  rw [z1] at z2 r4 r5 r6 r8
  rw [u1] at u2
  have u3 : gU S2 = gU S + 271 + (itL s).length + (candL (tdL w h s)).length := by omega
  exact ⟨g2.1, gZ S + 1, rfl, rfl, ⟨z2, u3⟩, g2, v2, t2, c2, i2, r4, r5, r6, r8⟩
end CLS
