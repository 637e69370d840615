/-! the class's reader of a fine -/
def CS (S : St) (tp : List Nat) (p : Nat) (js : List Int32) : Prop := Rdr S tp ∧ LxC S tp p ∧ gI S 3 13 = 0 ∧ gI S 3 8 = nI js.length ∧ (∀ i x, js[i]? = some x → gI S 7 i = x) ∧ p ≤ tp.length
abbrev GrP : Nat → Nat → Prop := fun a k => a = 7 ∨ (a = 3 ∧ (k = 8 ∨ (13 ≤ k ∧ k ≤ 17)))
def Flt (S : St) (f : Nat) : Prop := gI S 3 13 = nI f ∧ 0 < f ∧ f < 2 ^ 31
def RRes (S : St) (tp : List Nat) (p : Nat) (js : List Int32) (S' : St) (K : Nat → List Int32 → Prop) (X : Nat → Prop) : Prop := Fr GrP LxL S S' ∧ ((∃ f, Flt S' f ∧ X f) ∨ ∃ q ks, CS S' tp q (js ++ ks) ∧ ks.length + p ≤ q ∧ K q ks)
section CLS
variable {S S' : St} {tp : List Nat} {p q c d : Nat} {js ks : List Int32}
theorem Flt.ne {f : Nat} (h : Flt S f) : gI S 3 13 ≠ 0 := by
  rw [h.1, c0]
  intro e
  rw [i_eq h.2.2 (by decide)] at e
  have := h.2.1
  omega
theorem flt_i {k : Nat} (hp : p ≤ tp.length) (hn : tp.length ≤ 1000) (hk : 0 < k) (hk2 : k < 16) (e : gI S 3 13 = nI (k + 16 * tkA tp p)) : Flt S (k + 16 * tkA tp p) := by
  have := tkA_le hp
  exact ⟨e, by omega, by omega⟩
theorem LxC.fr {P L : Nat → Nat → Prop} (h : LxC S tp p) (f : Fr P L S S') (h1 : ∀ k, 14 ≤ k → k ≤ 17 → ¬ P 3 k) (h2 : ¬ L 3 18) : LxC S' tp p := by
  unfold LxC at h ⊢
  rw [f.1 _ _ (h1 14 (by decide) (by decide)), f.1 _ _ (h1 15 (by decide) (by decide)), f.1 _ _ (h1 16 (by decide) (by decide)), f.1 _ _ (h1 17 (by decide) (by decide)), f.2.1 _ _ h2]
  exact h
theorem tkC_n (h : tp.length ≤ p) : tkC tp p = 259 := by
  have e : tkA tp p = p := wh_n h
  unfold tkC
  rw [e, List.getElem?_eq_none h]
theorem tkN_le (h : p ≤ tp.length) : tkN tp p ≤ tp.length := by
  have ha := tkA_le h
  unfold tkN
  cases hc : tp[tkA tp p]? with
  | none => exact ha
  | some c =>
    have := (List.getElem?_eq_some_iff.mp hc).1
    show (if ltr c = true then _ else if dgt c = true then _ else _) ≤ _
    split
    · exact wh_le ha
    · split
      · exact wh_le ha
      · omega
theorem tkN_gt (h : tkC tp p ≠ 259) : p < tkN tp p := by
  have hg := tkA_ge (tp := tp) (p := p)
  unfold tkN
  cases hc : tp[tkA tp p]? with
  | none => exfalso; apply h; unfold tkC; rw [hc]
  | some c =>
    show _ < (if ltr c = true then _ else if dgt c = true then _ else _)
    split
    · rename_i q
      rw [wh_s hc q]
      have := wh_ge (f := ltr) (tp := tp) (p := tkA tp p + 1)
      omega
    · split
      · rename_i q
        rw [wh_s hc q]
        have := wh_ge (f := dgt) (tp := tp) (p := tkA tp p + 1)
        omega
      · omega
set_option maxRecDepth 4096 in
theorem f31x {D : Nat} {x : Int32} (hS : ShC S) (h : gI S 3 13 ≠ 0) : F (D + 1) 31 [.ref 3, .int x] S = some (none, S) := by
  refine fq31 (w31_0 ?_)
  refine W_t (hS.k3) ?_
  refine W_f (h) ?_
  exact ⟨rfl, rfl⟩
set_option maxRecDepth 4096 in
theorem f31 {D : Nat} {x : Int32} (h : CS S tp p js) (hl : js.length < 1000) : Sp (F (D + 1) 31 [.ref 3, .int x] S) (fun r S' => r = none ∧ Fr GrP LxL S S' ∧ CS S' tp p (js ++ [x])) := by
  obtain ⟨hR, hx, h13, h8, hc, hp⟩ := h
  have hS := hR.1
  refine fw31 (w31_0 ?_)
  refine W_t (hS.k3) ?_
  refine W_t (h13) ?_
  refine W_t (hS.k3) ?_
  refine W_t (hS.k3) ?_
  rw [hS.r3_7]
  refine W_t (by rw [hS.k7]; decide) ?_
  rw [hS.n7, h8]
  refine W_t (by rw [c_ofNat, i_lt (by omega) (by decide)]; exact hl) ?_
  refine W_t (hS.k3) ?_
  refine W_t (hS.k3) ?_
  refine W_t (⟨hS.k7, inB_n hl (by decide)⟩) ?_
  rw [nI_clamp (by omega)]
  refine W_s fun S1 e1 => ?_
  have f1 : Fr GrP LxL S S1 := by rw [e1]; exact Fr.putI (Or.inl rfl)
  refine W_t (by rw [f1.K]; exact hS.k3) ?_
  refine W_t (by rw [f1.K]; exact hS.k3) ?_
  refine W_s fun S2 e2 => ?_
  have f2 : Fr (fun a k => a = 7 ∨ (a = 3 ∧ k = 8)) nol S S2 := by
    refine Fr.tr (S' := S1) ?_ ?_
    · rw [e1]; exact Fr.putI (Or.inl rfl)
    · rw [e2]; exact Fr.putI (Or.inr ⟨rfl, rfl⟩)
  have f3 : Fr GrP LxL S S2 := f2.weak (fun a k z => by rcases z with z | z; exact Or.inl z; exact Or.inr ⟨z.1, Or.inl z.2⟩) (fun a k z => z.elim)
  refine ⟨f3.mono, rfl, f3, hR.fr f2 (fun k z => by omega) (by omega), hx.fr f2 (fun k _ _ z => by omega) (fun z => z), ?_, ?_, ?_, hp⟩
  · rw [f2.1 _ _ (by omega)]; exact h13
  · rw [e2, gI_pI, if_pos ⟨rfl, rfl⟩, e1, gI_pI, if_neg (by omega), h8, nI_1, List.length_append]
    rfl
  · intro i y hy
    rw [e2, gI_pI, if_neg (by omega), e1, gI_pI]
    by_cases e : i = js.length
    · rw [if_pos ⟨rfl, e⟩]
      rw [e, List.getElem?_append_right (Nat.le_refl _), Nat.sub_self] at hy
      exact Option.some.inj hy
    · rw [if_neg (fun z => e z.2)]
      have := (List.getElem?_eq_some_iff.mp hy).1
      rw [List.length_append] at this
      have h1 : [x].length = 1 := rfl
      rw [List.getElem?_append_left (by omega)] at hy
      exact hc i y hy
set_option maxRecDepth 4096 in
theorem f32x {D : Nat} {x : Int32} (hS : ShC S) (h : gI S 3 13 ≠ 0) : F (D + 1) 32 [.ref 3, .int x] S = some (none, S) := by
  refine fq32 (w32_0 ?_)
  refine W_t (hS.k3) ?_
  refine W_f (h) ?_
  exact ⟨rfl, rfl⟩
set_option maxRecDepth 4096 in
theorem f32 {D k : Nat} (h : CS S tp p js) (hk : 0 < k) (hk2 : k < 16) : Sp (F (D + 1) 32 [.ref 3, .int (nI k)] S) (fun r S' => r = none ∧ Fr GrP LxL S S' ∧ Flt S' (k + 16 * tkA tp p)) := by
  obtain ⟨hR, hx, h13, h8, hc, hp⟩ := h
  have hS := hR.1
  refine fw32 (w32_0 ?_)
  refine W_t (hS.k3) ?_
  refine W_t (h13) ?_
  refine W_t (hS.k3) ?_
  refine W_t (hS.k3) ?_
  refine W_s fun S1 e1 => ?_
  have f1 : Fr GrP LxL S S1 := by rw [e1]; exact Fr.putI (Or.inr ⟨rfl, Or.inr (by omega)⟩)
  refine ⟨f1.mono, rfl, f1, flt_i hp hR.2.2.2.2.1 hk hk2 ?_⟩
  rw [e1, gI_pI, if_pos ⟨rfl, rfl⟩, hx.1, show (16 : Int32) = nI 16 from rfl, pk_mul, nI_add]
theorem CS.x (h : CS S tp p js) (f : Fr LxP LxL S S') (hx : LxC S' tp q) (hq : q ≤ tp.length) : CS S' tp q js :=
  ⟨h.1.fr f (fun k z => absurd z.1 (by decide)) (fun z => absurd z.2.1 (by decide)), hx, by rw [f.1 _ _ (by omega)]; exact h.2.2.1, by rw [f.1 _ _ (by omega)]; exact h.2.2.2.1, fun i x hi => by rw [f.1 _ _ (by omega)]; exact h.2.2.2.2.1 i x hi, hq⟩
set_option maxRecDepth 4096 in
theorem f37c {D : Nat} (h : CS S tp p js) (hc : tkC tp p ≠ 259) : Sp (F (D + 7) 37 [.ref 3] S) (fun r S' => r = none ∧ Fr GrP LxL S S' ∧ CS S' tp (tkN tp p) js) := by
  obtain ⟨r, S1, e, er, f, hx⟩ := f37 (d := D) h.1 h.2.2.1 (h.2.1.2.2.1 hc) (tkN_le h.2.2.2.2.2)
  exact ⟨r, S1, e, er, f.weak (fun a k z => Or.inr ⟨z.1, Or.inr (by omega)⟩) (fun _ _ z => z), h.x f hx (tkN_le h.2.2.2.2.2)⟩
set_option maxRecDepth 4096 in
theorem f33x {D : Nat} {x : Int32} (hS : ShC S) (h : gI S 3 13 ≠ 0) : F (D + 2) 33 [.ref 3, .int x] S = some (none, S) := by
  refine fq33 (w33_0 ?_)
  refine W_t (hS.k3) ?_
  refine W_if (fun z => ?_) (fun z => ?_)
  · refine W_t (hS.k3) ?_
    refine W_V (f37x hS h) ?_
    exact ⟨rfl, rfl⟩
  · refine W_t (hS.k3) ?_
    refine W_V (f32x hS h) ?_
    exact ⟨rfl, rfl⟩
theorem tkC_lt : tkC tp p < 260 := by
  unfold tkC
  cases hc : tp[tkA tp p]? with
  | none => show 259 < 260; decide
  | some c =>
    show (if ltr c = true then _ else _) < _
    split
    · split
      · decide
      · rcases kw_cases (seg tp (tkA tp p) (wh ltr tp (tkA tp p))) with y | y <;> omega
    · split
      · split <;> decide
      · split
        · rename_i q
          unfold sgn at q
          have := decide_eq_true_iff.mp q
          omega
        · decide
set_option maxRecDepth 4096 in
theorem f33 {D : Nat} (h : CS S tp p js) (hc : c < 259) : Sp (F (D + 8) 33 [.ref 3, .int (nI c)] S) (fun r S' => r = none ∧ Fr GrP LxL S S' ∧ ((tkC tp p = c ∧ CS S' tp (tkN tp p) js) ∨ (tkC tp p ≠ c ∧ Flt S' (1 + 16 * tkA tp p)))) := by
  have hS := h.1.1
  have hlt := tkC_lt (tp := tp) (p := p)
  refine fw33 (w33_0 ?_)
  refine W_t (hS.k3) ?_
  rw [h.2.1.2.1]
  refine W_if (fun z => ?_) (fun z => ?_)
  · rw [i_eq (by omega) (by omega)] at z
    refine W_t (hS.k3) ?_
    refine W_Ve (f37c h (by omega)) ?_
    intro S1 ⟨f1, g1⟩
    exact ⟨f1.mono, rfl, f1, Or.inl ⟨z, g1⟩⟩
  · rw [i_eq (by omega) (by omega)] at z
    refine W_t (hS.k3) ?_
    refine W_Ve (f32 (k := 1) h (by decide) (by decide)) ?_
    intro S1 ⟨f1, g1⟩
    exact ⟨f1.mono, rfl, f1, Or.inr ⟨z, g1⟩⟩
/-! what a read piece says -/
def okC (cs : List Nat) : Prop := cs ≠ [] ∧ ∀ c, c ∈ cs → c < 20000
def KP (tp : List Nat) (d p q : Nat) (ks : List Int32) : Prop := d < 5 ∧ ∃ cs, okC cs ∧ gpP tp d p q cs ∧ evP d cs ks
def KL (tp : List Nat) (d p q : Nat) (ks : List Int32) : Prop := d < 5 ∧ ∃ cs, okC cs ∧ gpL tp d p q cs ∧ evL d cs ks
def KU (tp : List Nat) (d p q : Nat) (ks : List Int32) : Prop := d < 5 ∧ ∃ cs, okC cs ∧ gpL tp d p q cs ∧ evU d cs ks
def KT (tp : List Nat) (d p q : Nat) (b : Bool) (ks : List Int32) : Prop := d < 5 ∧ ∃ cs, okC cs ∧ gpT tp d p q cs b ∧ evT d cs ks
def KE (tp : List Nat) (d p q : Nat) (b : Bool) (ks : List Int32) : Prop := d < 5 ∧ ∃ cs, okC cs ∧ gpT tp d p q cs b ∧ evE d cs ks
theorem okC.j {cs ds : List Nat} {x : Nat} (h : okC cs) (h2 : okC ds) (hx : x < 20000) : okC (cs ++ x :: ds) := by
  refine ⟨fun e => ?_, fun c hc => ?_⟩
  · have := congrArg List.length e
    rw [List.length_append, List.length_cons] at this
    have h0 : ([] : List Nat).length = 0 := rfl
    omega
  · rcases List.mem_append.mp hc with z | z
    · exact h.2 c z
    · rcases List.mem_cons.mp z with y | y
      · rw [y]; exact hx
      · exact h2.2 c y
abbrev PrC (tp : List Nat) (d : Nat) (S : St) (p : Nat) (js : List Int32) : Option Value → St → Prop := fun r S' => r = none ∧ RRes S tp p js S' (KP tp d p) (gxP tp d p)
abbrev LrC (tp : List Nat) (d : Nat) (S : St) (p : Nat) (js : List Int32) : Option Value → St → Prop := fun r S' => r = none ∧ RRes S tp p js S' (fun q ks => KL tp d p q ks ∧ tkC tp q ≠ 42) (gxL tp d p)
abbrev UrC (tp : List Nat) (d : Nat) (S : St) (p : Nat) (js : List Int32) : Option Value → St → Prop := fun r S' => r = none ∧ RRes S tp p js S' (fun q ks => KU tp d p q ks ∧ tkC tp q ≠ 42 ∧ tkC tp q ≠ 43 ∧ tkC tp q ≠ 45) (gxL tp d p)
abbrev TrC (tp : List Nat) (d : Nat) (S : St) (p : Nat) (js : List Int32) : Option Value → St → Prop := fun r S' => r = none ∧ RRes S tp p js S' (fun q ks => ∃ b, KT tp d p q b ks ∧ tkC tp q ≠ 42 ∧ tkC tp q ≠ 43 ∧ tkC tp q ≠ 45 ∧ (b = false → tkC tp q ≠ 60 ∧ tkC tp q ≠ 61)) (gxT tp d p)
abbrev ErC (tp : List Nat) (d : Nat) (S : St) (p : Nat) (js : List Int32) : Option Value → St → Prop := fun r S' => r = none ∧ RRes S tp p js S' (fun q ks => ∃ b, KE tp d p q b ks ∧ ends (tkC tp q) b) (gxT tp d p)
set_option maxRecDepth 4096 in
theorem f29 {G : Nat} (hP : ∀ S p js, CS S tp p js → js.length ≤ p → Sp (F (G + 8) 30 [.ref 3, .int (nI d)] S) (PrC tp d S p js)) (h : CS S tp p js) (hl : js.length ≤ p) : Sp (F (G + 9) 29 [.ref 3, .int (nI d)] S) (LrC tp d S p js) := by
  have hn := h.1.2.2.2.2.1
  have flt : ∀ (S1 : St) (f : Nat) (i : Nat), Fr GrP LxL S S1 → Flt S1 f → gxL tp d p f → WP (P29 (F (G + 8))) (1, [.ref 3, .int (nI d), .int (nI i)], [], S1) (fun r S' => (gZ S ≤ gZ S' ∧ gU S ≤ gU S') ∧ LrC tp d S p js r S') := by
    intro S1 f i f1 hf hx
    have hS1 := h.1.1.of f1.2.2
    have fin : WR (P29 (F (G + 8))) (some (.inr (none, S1))) (fun r S' => (gZ S ≤ gZ S' ∧ gU S ≤ gU S') ∧ LrC tp d S p js r S') := ⟨f1.mono, rfl, f1, Or.inl ⟨f, hf, hx⟩⟩
    refine w29_1 ?_
    refine W_if (fun z => ?_) (fun z => ?_)
    · refine W_t (hS1.k3) ?_
      refine W_f (hf.ne) ?_
      exact fin
    · exact fin
  have loop : ∀ (n i q : Nat) (ks : List Int32) (S1 : St), tp.length - q ≤ n → i + p ≤ q → Fr GrP LxL S S1 → CS S1 tp q (js ++ ks) → ks.length + p ≤ q → KL tp d p q ks → WP (P29 (F (G + 8))) (1, [.ref 3, .int (nI d), .int (nI i)], [], S1) (fun r S' => (gZ S ≤ gZ S' ∧ gU S ≤ gU S') ∧ LrC tp d S p js r S') := by
    intro n
    induction n with
    | zero =>
      intro i q ks S1 hq hi f1 h1 hk hK
      have hS1 := h1.1.1
      have ec : tkC tp q = 259 := tkC_n (by omega)
      have fin : WR (P29 (F (G + 8))) (some (.inr (none, S1))) (fun r S' => (gZ S ≤ gZ S' ∧ gU S ≤ gU S') ∧ LrC tp d S p js r S') := ⟨f1.mono, rfl, f1, Or.inr ⟨q, ks, h1, hk, hK, by omega⟩⟩
      refine w29_1 ?_
      refine W_if (fun z => ?_) (fun z => ?_)
      · refine W_t (hS1.k3) ?_
        refine W_t (h1.2.2.1) ?_
        refine W_t (hS1.k3) ?_
        refine W_f (by rw [h1.2.1.2.1, ec]; decide) ?_
        exact fin
      · exact fin
    | succ n ih =>
      intro i q ks S1 hq hi f1 h1 hk hK
      have hS1 := h1.1.1
      have hqn := h1.2.2.2.2.2
      have hlt := tkC_lt (tp := tp) (p := q)
      have fin : tkC tp q ≠ 42 → WR (P29 (F (G + 8))) (some (.inr (none, S1))) (fun r S' => (gZ S ≤ gZ S' ∧ gU S ≤ gU S') ∧ LrC tp d S p js r S') := fun e => ⟨f1.mono, rfl, f1, Or.inr ⟨q, ks, h1, hk, hK, e⟩⟩
      refine w29_1 ?_
      refine W_if (fun z => ?_) (fun z => ?_)
      · refine W_t (hS1.k3) ?_
        refine W_t (h1.2.2.1) ?_
        refine W_t (hS1.k3) ?_
        rw [h1.2.1.2.1]
        refine W_if (fun y => ?_) (fun y => ?_)
        · rw [show (42 : Int32) = nI 42 from rfl, i_eq (by omega) (by decide)] at y
          have hgt := tkN_gt (tp := tp) (p := q) (by omega)
          have hle := tkN_le (tp := tp) hqn
          refine W_t (hS1.k3) ?_
          refine W_Ve (f37c h1 (by omega)) ?_
          intro S2 ⟨f2, h2⟩
          have hS2 := h2.1.1
          refine W_t (hS2.k3) ?_
          refine W_Ve (hP S2 (tkN tp q) (js ++ ks) h2 (by rw [List.length_append]; omega)) ?_
          intro S3 ⟨f3, h3⟩
          have hS3 := hS2.of f3.2.2
          refine W_t (hS3.k3) ?_
          rcases h3 with ⟨f, hf, hx⟩ | ⟨r, ls, h3, hls, hd, ds, ho, hg, he⟩
          · refine W_V (f31x hS3 hf.ne) ?_
            show WP _ _ _
            rw [nI_1]
            refine flt S3 f (i + 1) ((f1.tr f2).tr f3) hf ?_
            obtain ⟨_, cs, _, hg1, _⟩ := hK
            exact hg1.xbin (Or.inr (Or.inr y)) hx.l
          · have hrn := h3.2.2.2.2.2
            refine W_Ve (f31 (x := -42) h3 (by rw [List.length_append, List.length_append]; omega)) ?_
            intro S4 ⟨f4, h4⟩
            show WP _ _ _
            rw [nI_1]
            rw [List.append_assoc, List.append_assoc] at h4
            refine ih (i + 1) r (ks ++ (ls ++ [-42])) S4 (by omega) (by omega) (((f1.tr f2).tr f3).tr f4) h4 (by rw [List.length_append, List.length_append]; have : [(-42 : Int32)].length = 1 := rfl; omega) ?_
            obtain ⟨_, cs, ho1, hg1, he1⟩ := hK
            refine ⟨hd, cs ++ 22 :: ds, ho1.j ho (by decide), ?_, ?_⟩
            · have := hg1.bin (Or.inr (Or.inr y)) hg.l
              rw [y, if_neg (by decide), if_neg (by decide)] at this
              exact this
            · have := he1.mul hd he
              rw [List.append_assoc] at this
              exact this
        · rw [show (42 : Int32) = nI 42 from rfl, i_eq (by omega) (by decide)] at y
          exact fin y
      · have : 1000 ≤ i := by
          by_cases w : i < 1000
          · exact absurd (by rw [show (1000 : Int32) = nI 1000 from rfl, i_lt (by omega) (by decide)]; exact w) z
          · omega
        exact fin (by rw [tkC_n (by omega)]; decide)
  refine fw29 (w29_0 ?_)
  refine W_t (h.1.1.k3) ?_
  refine W_Ve (hP S p js h hl) ?_
  intro S1 ⟨f1, h1⟩
  show WP _ _ _
  rcases h1 with ⟨f, hf, hx⟩ | ⟨r, ls, h1, hls, hd, ds, ho, hg, he⟩
  · exact flt S1 f 0 f1 hf hx.l
  · exact loop tp.length 0 r ls S1 (by omega) (by omega) f1 h1 hls ⟨hd, ds, ho, hg.l, he.l hd⟩
set_option maxRecDepth 4096 in
theorem f28 {G : Nat} (hL : ∀ S p js, CS S tp p js → js.length ≤ p → Sp (F (G + 9) 29 [.ref 3, .int (nI d)] S) (LrC tp d S p js)) (h : CS S tp p js) (hl : js.length ≤ p) : Sp (F (G + 10) 28 [.ref 3, .int (nI d)] S) (UrC tp d S p js) := by
  have hn := h.1.2.2.2.2.1
  have flt : ∀ (S1 : St) (f : Nat) (i : Nat) (z3 : Value), Fr GrP LxL S S1 → Flt S1 f → gxL tp d p f → WP (P28 (F (G + 9))) (1, [.ref 3, .int (nI d), .int (nI i), z3], [], S1) (fun r S' => (gZ S ≤ gZ S' ∧ gU S ≤ gU S') ∧ UrC tp d S p js r S') := by
    intro S1 f i z3 f1 hf hx
    have hS1 := h.1.1.of f1.2.2
    have fin : WR (P28 (F (G + 9))) (some (.inr (none, S1))) (fun r S' => (gZ S ≤ gZ S' ∧ gU S ≤ gU S') ∧ UrC tp d S p js r S') := ⟨f1.mono, rfl, f1, Or.inl ⟨f, hf, hx⟩⟩
    refine w28_1 ?_
    refine W_if (fun z => ?_) (fun z => ?_)
    · refine W_t (hS1.k3) ?_
      refine W_f (hf.ne) ?_
      exact fin
    · exact fin
  have loop : ∀ (n i q : Nat) (ks : List Int32) (S1 : St) (z3 : Value), tkC tp q ≠ 42 → tp.length - q ≤ n → i + p ≤ q → Fr GrP LxL S S1 → CS S1 tp q (js ++ ks) → ks.length + p ≤ q → KU tp d p q ks → WP (P28 (F (G + 9))) (1, [.ref 3, .int (nI d), .int (nI i), z3], [], S1) (fun r S' => (gZ S ≤ gZ S' ∧ gU S ≤ gU S') ∧ UrC tp d S p js r S') := by
    intro n
    induction n with
    | zero =>
      intro i q ks S1 z3 h42 hq hi f1 h1 hk hK
      have hS1 := h1.1.1
      have ec : tkC tp q = 259 := tkC_n (by omega)
      have fin : WR (P28 (F (G + 9))) (some (.inr (none, S1))) (fun r S' => (gZ S ≤ gZ S' ∧ gU S ≤ gU S') ∧ UrC tp d S p js r S') := ⟨f1.mono, rfl, f1, Or.inr ⟨q, ks, h1, hk, hK, by omega, by omega, by omega⟩⟩
      refine w28_1 ?_
      refine W_if (fun z => ?_) (fun z => ?_)
      · refine W_t (hS1.k3) ?_
        refine W_t (h1.2.2.1) ?_
        refine W_t (hS1.k3) ?_
        refine W_f (by rw [h1.2.1.2.1, ec]; decide) ?_
        refine W_t (hS1.k3) ?_
        refine W_f (by rw [h1.2.1.2.1, ec]; decide) ?_
        exact fin
      · exact fin
    | succ n ih =>
      intro i q ks S1 z3 h42 hq hi f1 h1 hk hK
      have hS1 := h1.1.1
      have hqn := h1.2.2.2.2.2
      have hlt := tkC_lt (tp := tp) (p := q)
      have fin : tkC tp q ≠ 43 ∧ tkC tp q ≠ 45 → WR (P28 (F (G + 9))) (some (.inr (none, S1))) (fun r S' => (gZ S ≤ gZ S' ∧ gU S ≤ gU S') ∧ UrC tp d S p js r S') := fun e => ⟨f1.mono, rfl, f1, Or.inr ⟨q, ks, h1, hk, hK, h42, e.1, e.2⟩⟩
      have two : tkC tp q = 43 ∨ tkC tp q = 45 → WP (P28 (F (G + 9))) (2, [.ref 3, .int (nI d), .int (nI i), z3], [], S1) (fun r S' => (gZ S ≤ gZ S' ∧ gU S ≤ gU S') ∧ UrC tp d S p js r S') := by
        intro y
        have hgt := tkN_gt (tp := tp) (p := q) (by omega)
        have hle := tkN_le (tp := tp) hqn
        refine w28_2 ?_
        rw [h1.2.1.2.1]
        refine W_t (hS1.k3) ?_
        refine W_t (hS1.k3) ?_
        refine W_Ve (f37c h1 (by omega)) ?_
        intro S2 ⟨f2, h2⟩
        have hS2 := h2.1.1
        refine W_t (hS2.k3) ?_
        refine W_Ve (hL S2 (tkN tp q) (js ++ ks) h2 (by rw [List.length_append]; omega)) ?_
        intro S3 ⟨f3, h3⟩
        have hS3 := hS2.of f3.2.2
        refine W_t (hS3.k3) ?_
        rcases h3 with ⟨f, hf, hx⟩ | ⟨r, ls, h3, hls, ⟨hd, ds, ho, hg, he⟩, r42⟩
        · refine W_V (f31x hS3 hf.ne) ?_
          show WP _ _ _
          rw [nI_1]
          refine flt S3 f (i + 1) _ ((f1.tr f2).tr f3) hf ?_
          obtain ⟨_, cs, _, hg1, _⟩ := hK
          exact hg1.xbin (by omega) hx
        · have hrn := h3.2.2.2.2.2
          refine W_Ve (f31 (x := -(nI (tkC tp q))) h3 (by rw [List.length_append, List.length_append]; omega)) ?_
          intro S4 ⟨f4, h4⟩
          show WP _ _ _
          rw [nI_1]
          rw [List.append_assoc, List.append_assoc] at h4
          refine ih (i + 1) r (ks ++ (ls ++ [-(nI (tkC tp q))])) S4 _ r42 (by omega) (by omega) (((f1.tr f2).tr f3).tr f4) h4 (by rw [List.length_append, List.length_append]; have : [-(nI (tkC tp q))].length = 1 := rfl; omega) ?_
          obtain ⟨_, cs, ho1, hg1, he1⟩ := hK
          refine ⟨hd, cs ++ (if tkC tp q = 43 then 20 else if tkC tp q = 45 then 21 else 22) :: ds, ho1.j ho (by split; decide; split <;> decide), hg1.bin (by omega) hg, ?_⟩
          have := he1.add hd y he
          rw [List.append_assoc] at this
          exact this
      refine w28_1 ?_
      refine W_if (fun z => ?_) (fun z => ?_)
      · refine W_t (hS1.k3) ?_
        refine W_t (h1.2.2.1) ?_
        refine W_t (hS1.k3) ?_
        rw [h1.2.1.2.1]
        refine W_if (fun y => ?_) (fun y => ?_)
        · rw [show (43 : Int32) = nI 43 from rfl, i_eq (by omega) (by decide)] at y
          exact two (Or.inl y)
        · rw [show (43 : Int32) = nI 43 from rfl, i_eq (by omega) (by decide)] at y
          refine W_t (hS1.k3) ?_
          refine W_if (fun y2 => ?_) (fun y2 => ?_)
          · rw [show (45 : Int32) = nI 45 from rfl, i_eq (by omega) (by decide)] at y2
            exact two (Or.inr y2)
          · rw [show (45 : Int32) = nI 45 from rfl, i_eq (by omega) (by decide)] at y2
            exact fin ⟨y, y2⟩
      · have : 1000 ≤ i := by
          by_cases w : i < 1000
          · exact absurd (by rw [show (1000 : Int32) = nI 1000 from rfl, i_lt (by omega) (by decide)]; exact w) z
          · omega
        exact fin ⟨by rw [tkC_n (by omega)]; decide, by rw [tkC_n (by omega)]; decide⟩
  refine fw28 (w28_0 ?_)
  refine W_t (h.1.1.k3) ?_
  refine W_Ve (hL S p js h hl) ?_
  intro S1 ⟨f1, h1⟩
  show WP _ _ _
  rcases h1 with ⟨f, hf, hx⟩ | ⟨r, ls, h1, hls, ⟨hd, ds, ho, hg, he⟩, r42⟩
  · exact flt S1 f 0 _ f1 hf hx
  · exact loop tp.length 0 r ls S1 _ r42 (by omega) (by omega) f1 h1 hls ⟨hd, ds, ho, hg, he.u⟩
set_option maxRecDepth 4096 in
theorem f27 {G : Nat} (hU : ∀ S p js, CS S tp p js → js.length ≤ p → Sp (F (G + 10) 28 [.ref 3, .int (nI d)] S) (UrC tp d S p js)) (h : CS S tp p js) (hl : js.length ≤ p) : Sp (F (G + 11) 27 [.ref 3, .int (nI d)] S) (TrC tp d S p js) := by
  have hn := h.1.2.2.2.2.1
  refine fw27 (w27_0 ?_)
  refine W_t (h.1.1.k3) ?_
  refine W_Ve (hU S p js h hl) ?_
  intro S1 ⟨f1, h1⟩
  have hS1 := h.1.1.of f1.2.2
  refine W_t (hS1.k3) ?_
  rcases h1 with ⟨f, hf, hx⟩ | ⟨q, ks, h1, hk, ⟨hd, cs, ho1, hg1, he1⟩, r42, r43, r45⟩
  · refine W_f (hf.ne) ?_
    exact ⟨f1.mono, rfl, f1, Or.inl ⟨f, hf, hx.t⟩⟩
  · refine W_t (h1.2.2.1) ?_
    refine W_t (hS1.k3) ?_
    have hlt := tkC_lt (tp := tp) (p := q)
    have hqn := h1.2.2.2.2.2
    have one : tkC tp q = 60 ∨ tkC tp q = 61 → ∀ z2 : Value, WP (P27 (F (G + 10))) (1, [.ref 3, .int (nI d), z2], [], S1) (fun r S' => (gZ S ≤ gZ S' ∧ gU S ≤ gU S') ∧ TrC tp d S p js r S') := by
      intro y z2
      have hgt := tkN_gt (tp := tp) (p := q) (by omega)
      have hle := tkN_le (tp := tp) hqn
      refine w27_1 ?_
      rw [h1.2.1.2.1]
      refine W_t (hS1.k3) ?_
      refine W_t (hS1.k3) ?_
      refine W_Ve (f37c h1 (by omega)) ?_
      intro S2 ⟨f2, h2⟩
      have hS2 := h2.1.1
      refine W_t (hS2.k3) ?_
      refine W_Ve (hU S2 (tkN tp q) (js ++ ks) h2 (by rw [List.length_append]; omega)) ?_
      intro S3 ⟨f3, h3⟩
      have hS3 := hS2.of f3.2.2
      have f13 := (f1.tr f2).tr f3
      refine W_t (hS3.k3) ?_
      rcases h3 with ⟨f, hf, hx⟩ | ⟨r, ls, h3, hls, ⟨_, ds, ho, hg, he⟩, s42, s43, s45⟩
      · refine W_V (f31x hS3 hf.ne) ?_
        exact ⟨f13.mono, rfl, f13, Or.inl ⟨f, hf, hg1.xcmp y hx⟩⟩
      · have hrn := h3.2.2.2.2.2
        refine W_Ve (f31 (x := -(nI (tkC tp q))) h3 (by rw [List.length_append, List.length_append]; omega)) ?_
        intro S4 ⟨f4, h4⟩
        rw [List.append_assoc, List.append_assoc] at h4
        refine ⟨(f13.tr f4).mono, rfl, f13.tr f4, Or.inr ⟨r, ks ++ (ls ++ [-(nI (tkC tp q))]), h4, by rw [List.length_append, List.length_append]; have : [-(nI (tkC tp q))].length = 1 := rfl; omega, true, ⟨hd, cs ++ (if tkC tp q = 60 then 24 else 25) :: ds, ho1.j ho (by split <;> decide), hg1.cmp y hg, ?_⟩, s42, s43, s45, fun z => by cases z⟩⟩
        have := he1.cmp hd y he
        rw [List.append_assoc] at this
        exact this
    rw [h1.2.1.2.1]
    refine W_if (fun y => ?_) (fun y => ?_)
    · rw [show (60 : Int32) = nI 60 from rfl, i_eq (by omega) (by decide)] at y
      exact one (Or.inl y) _
    · rw [show (60 : Int32) = nI 60 from rfl, i_eq (by omega) (by decide)] at y
      refine W_t (hS1.k3) ?_
      refine W_if (fun y2 => ?_) (fun y2 => ?_)
      · rw [show (61 : Int32) = nI 61 from rfl, i_eq (by omega) (by decide)] at y2
        exact one (Or.inr y2) _
      · rw [show (61 : Int32) = nI 61 from rfl, i_eq (by omega) (by decide)] at y2
        exact ⟨f1.mono, rfl, f1, Or.inr ⟨q, ks, h1, hk, false, ⟨hd, cs, ho1, hg1.t, he1.t⟩, r42, r43, r45, fun _ => ⟨y, y2⟩⟩⟩
set_option maxRecDepth 4096 in
theorem f26 {G : Nat} (hT : ∀ S p js, CS S tp p js → js.length ≤ p → Sp (F (G + 11) 27 [.ref 3, .int (nI d)] S) (TrC tp d S p js)) (h : CS S tp p js) (hl : js.length ≤ p) : Sp (F (G + 12) 26 [.ref 3, .int (nI d)] S) (ErC tp d S p js) := by
  have hn := h.1.2.2.2.2.1
  have flt : ∀ (S1 : St) (f : Nat) (i : Nat) (z3 : Value), Fr GrP LxL S S1 → Flt S1 f → gxT tp d p f → WP (P26 (F (G + 11))) (1, [.ref 3, .int (nI d), .int (nI i), z3], [], S1) (fun r S' => (gZ S ≤ gZ S' ∧ gU S ≤ gU S') ∧ ErC tp d S p js r S') := by
    intro S1 f i z3 f1 hf hx
    have hS1 := h.1.1.of f1.2.2
    have fin : WR (P26 (F (G + 11))) (some (.inr (none, S1))) (fun r S' => (gZ S ≤ gZ S' ∧ gU S ≤ gU S') ∧ ErC tp d S p js r S') := ⟨f1.mono, rfl, f1, Or.inl ⟨f, hf, hx⟩⟩
    refine w26_1 ?_
    refine W_if (fun z => ?_) (fun z => ?_)
    · refine W_t (hS1.k3) ?_
      refine W_f (hf.ne) ?_
      exact fin
    · exact fin
  have loop : ∀ (n i q : Nat) (ks : List Int32) (S1 : St) (z3 : Value) (b : Bool), (tkC tp q ≠ 42 ∧ tkC tp q ≠ 43 ∧ tkC tp q ≠ 45 ∧ (b = false → tkC tp q ≠ 60 ∧ tkC tp q ≠ 61)) → tp.length - q ≤ n → i + p ≤ q → Fr GrP LxL S S1 → CS S1 tp q (js ++ ks) → ks.length + p ≤ q → KE tp d p q b ks → WP (P26 (F (G + 11))) (1, [.ref 3, .int (nI d), .int (nI i), z3], [], S1) (fun r S' => (gZ S ≤ gZ S' ∧ gU S ≤ gU S') ∧ ErC tp d S p js r S') := by
    intro n
    induction n with
    | zero =>
      intro i q ks S1 z3 b h42 hq hi f1 h1 hk hK
      have hS1 := h1.1.1
      have ec : tkC tp q = 259 := tkC_n (by omega)
      have fin : WR (P26 (F (G + 11))) (some (.inr (none, S1))) (fun r S' => (gZ S ≤ gZ S' ∧ gU S ≤ gU S') ∧ ErC tp d S p js r S') := ⟨f1.mono, rfl, f1, Or.inr ⟨q, ks, h1, hk, b, hK, by omega, by omega, by omega, by omega, by omega, fun _ => by omega⟩⟩
      refine w26_1 ?_
      refine W_if (fun z => ?_) (fun z => ?_)
      · refine W_t (hS1.k3) ?_
        refine W_t (h1.2.2.1) ?_
        refine W_t (hS1.k3) ?_
        refine W_f (by rw [h1.2.1.2.1, ec]; decide) ?_
        refine W_t (hS1.k3) ?_
        refine W_f (by rw [h1.2.1.2.1, ec]; decide) ?_
        exact fin
      · exact fin
    | succ n ih =>
      intro i q ks S1 z3 b h42 hq hi f1 h1 hk hK
      have hS1 := h1.1.1
      have hqn := h1.2.2.2.2.2
      have hlt := tkC_lt (tp := tp) (p := q)
      have fin : tkC tp q ≠ 143 ∧ tkC tp q ≠ 144 → WR (P26 (F (G + 11))) (some (.inr (none, S1))) (fun r S' => (gZ S ≤ gZ S' ∧ gU S ≤ gU S') ∧ ErC tp d S p js r S') := fun e => ⟨f1.mono, rfl, f1, Or.inr ⟨q, ks, h1, hk, b, hK, h42.1, h42.2.1, h42.2.2.1, e.1, e.2, h42.2.2.2⟩⟩
      have two : tkC tp q = 143 ∨ tkC tp q = 144 → WP (P26 (F (G + 11))) (2, [.ref 3, .int (nI d), .int (nI i), z3], [], S1) (fun r S' => (gZ S ≤ gZ S' ∧ gU S ≤ gU S') ∧ ErC tp d S p js r S') := by
        intro y
        have hgt := tkN_gt (tp := tp) (p := q) (by omega)
        have hle := tkN_le (tp := tp) hqn
        refine w26_2 ?_
        rw [h1.2.1.2.1]
        refine W_t (hS1.k3) ?_
        refine W_t (hS1.k3) ?_
        refine W_Ve (f37c h1 (by omega)) ?_
        intro S2 ⟨f2, h2⟩
        have hS2 := h2.1.1
        refine W_t (hS2.k3) ?_
        refine W_Ve (hT S2 (tkN tp q) (js ++ ks) h2 (by rw [List.length_append]; omega)) ?_
        intro S3 ⟨f3, h3⟩
        have hS3 := hS2.of f3.2.2
        refine W_t (hS3.k3) ?_
        rcases h3 with ⟨f, hf, hx⟩ | ⟨r, ls, h3, hls, b2, ⟨hd, ds, ho, hg, he⟩, r42⟩
        · refine W_V (f31x hS3 hf.ne) ?_
          show WP _ _ _
          rw [nI_1]
          refine flt S3 f (i + 1) _ ((f1.tr f2).tr f3) hf ?_
          obtain ⟨_, cs, _, hg1, _⟩ := hK
          exact hg1.xlog y hx
        · have hrn := h3.2.2.2.2.2
          refine W_Ve (f31 (x := -(nI (tkC tp q))) h3 (by rw [List.length_append, List.length_append]; omega)) ?_
          intro S4 ⟨f4, h4⟩
          show WP _ _ _
          rw [nI_1]
          rw [List.append_assoc, List.append_assoc] at h4
          refine ih (i + 1) r (ks ++ (ls ++ [-(nI (tkC tp q))])) S4 _ b2 r42 (by omega) (by omega) (((f1.tr f2).tr f3).tr f4) h4 (by rw [List.length_append, List.length_append]; have : [-(nI (tkC tp q))].length = 1 := rfl; omega) ?_
          obtain ⟨_, cs, ho1, hg1, he1⟩ := hK
          refine ⟨hd, cs ++ (if tkC tp q = 143 then 26 else 27) :: ds, ho1.j ho (by split <;> decide), hg1.log y hg, ?_⟩
          have := he1.log hd y he
          rw [List.append_assoc] at this
          exact this
      refine w26_1 ?_
      refine W_if (fun z => ?_) (fun z => ?_)
      · refine W_t (hS1.k3) ?_
        refine W_t (h1.2.2.1) ?_
        refine W_t (hS1.k3) ?_
        rw [h1.2.1.2.1]
        refine W_if (fun y => ?_) (fun y => ?_)
        · rw [show (143 : Int32) = nI 143 from rfl, i_eq (by omega) (by decide)] at y
          exact two (Or.inl y)
        · rw [show (143 : Int32) = nI 143 from rfl, i_eq (by omega) (by decide)] at y
          refine W_t (hS1.k3) ?_
          refine W_if (fun y2 => ?_) (fun y2 => ?_)
          · rw [show (144 : Int32) = nI 144 from rfl, i_eq (by omega) (by decide)] at y2
            exact two (Or.inr y2)
          · rw [show (144 : Int32) = nI 144 from rfl, i_eq (by omega) (by decide)] at y2
            exact fin ⟨y, y2⟩
      · have : 1000 ≤ i := by
          by_cases w : i < 1000
          · exact absurd (by rw [show (1000 : Int32) = nI 1000 from rfl, i_lt (by omega) (by decide)]; exact w) z
          · omega
        exact fin ⟨by rw [tkC_n (by omega)]; decide, by rw [tkC_n (by omega)]; decide⟩
  refine fw26 (w26_0 ?_)
  refine W_t (h.1.1.k3) ?_
  refine W_Ve (hT S p js h hl) ?_
  intro S1 ⟨f1, h1⟩
  show WP _ _ _
  rcases h1 with ⟨f, hf, hx⟩ | ⟨r, ls, h1, hls, b2, ⟨hd, ds, ho, hg, he⟩, r42⟩
  · exact flt S1 f 0 _ f1 hf hx
  · exact loop tp.length 0 r ls S1 _ b2 r42 (by omega) (by omega) f1 h1 hls ⟨hd, ds, ho, hg, he.e⟩
end CLS
