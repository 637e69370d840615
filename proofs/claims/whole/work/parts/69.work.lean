/-! the reference's fine: a machine over a code; the cells 53 to 61 by level -/
theorem Sp.eq {x : Option (Option Value × St)} {a : Option Value} {S0 : St} (h : Sp x (fun r S' => r = a ∧ S' = S0)) : x = some (a, S0) := by
  obtain ⟨r, S', e, rfl, rfl⟩ := h
  exact e
abbrev Vf : Type := Nat → Nat → Int32
def wOpens (V : Vf) (l : Nat) : Vf := u2 (u2 (u2 (u2 (u2 V 54 l 0) 56 l 0) 57 l 0) 58 l 20) 60 l 0
def wSums (V : Vf) (l : Nat) : Vf := u2 (u2 V 57 l (if V 58 l = 21 then V 57 l - V 59 l else V 57 l + V 59 l)) 60 l 0
/-- the value of a test that waits -/
def wVal (V : Vf) (l : Nat) : Int32 :=
  let v1 := if V 56 l = 24 then bi (V 55 l < V 57 l) else V 57 l
  let v2 := if V 56 l = 25 then bi (V 55 l = V 57 l) else v1
  let v3 := if V 54 l = 26 then bi (V 53 l ≠ 0 ∧ v2 ≠ 0) else v2
  if V 54 l = 27 then bi (V 53 l ≠ 0 ∨ v3 ≠ 0) else v3
def wTests (V : Vf) (l : Nat) : Vf := u2 (u2 (u2 (u2 (wSums V l) 53 l (wVal (wSums V l) l)) 56 l 0) 57 l 0) 58 l 20
def wNots (V : Vf) : Nat → Int32 → Nat × Int32
  | 0, v => (0, v)
  | l + 1, v => if V 61 (l + 1) = 1 then wNots V l (bi (v = 0)) else (l + 1, v)
def wPut (V : Vf) (l : Nat) (v : Int32) : Vf := u2 V 59 l (if V 60 l = 0 then v else V 59 l * v)
def wTerm (V : Vf) (l : Nat) (v : Int32) : Nat × Vf := ((wNots V l v).1, wPut V (wNots V l v).1 (wNots V l v).2)
/-- one sign of the code -/
def wStep (q : Nat × Vf) (c : Nat) : Option (Nat × Vf) :=
  if c = 28 ∨ c = 30 then (if q.1 < 6 then some (q.1 + 1, wOpens (u2 q.2 61 (q.1 + 1) (if c = 30 then 1 else 0)) (q.1 + 1)) else none)
  else if c = 20 ∨ c = 21 then some (q.1, u2 (wSums q.2 q.1) 58 q.1 (nI c))
  else if c = 22 then some (q.1, u2 q.2 60 q.1 (nI c))
  else if c = 24 ∨ c = 25 then some (q.1, u2 (u2 (u2 (u2 (wSums q.2 q.1) 55 q.1 (wSums q.2 q.1 57 q.1)) 56 q.1 (nI c)) 57 q.1 0) 58 q.1 20)
  else if c = 26 ∨ c = 27 then some (q.1, u2 (wTests q.2 q.1) 54 q.1 (nI c))
  else if c = 29 then (match q.1 with
    | 0 => none
    | l + 1 => some (wTerm (wTests q.2 (l + 1)) l (wTests q.2 (l + 1) 53 (l + 1))))
  else if 100 ≤ c then some (wTerm q.2 q.1 (nI (c - 100)))
  else if c < 20 then some (wTerm q.2 q.1 (q.2 62 c)) else none
def wRun : List Nat → Nat × Vf → Option (Nat × Vf)
  | [], q => some q
  | c :: cs, q => match wStep q c with
    | none => none
    | some q' => wRun cs q'
theorem wRun_c {c : Nat} {cs : List Nat} {q : Nat × Vf} : wRun (c :: cs) q = (match wStep q c with | none => none | some q' => wRun cs q') := rfl
theorem wRun_app : ∀ {A B : List Nat} {q : Nat × Vf}, wRun (A ++ B) q = (match wRun A q with | none => none | some q' => wRun B q')
  | [], B, q => rfl
  | c :: A, B, q => by
    rw [List.cons_append, wRun_c, wRun_c]
    cases wStep q c with
    | none => rfl
    | some q' => exact wRun_app (A := A)
set_option maxRecDepth 4096 in
theorem u2_o {V : Vf} {a k b j : Nat} {v : Int32} (h : b ≠ a) : u2 V a k v b j = V b j := if_neg (fun z => h z.1)
set_option maxRecDepth 4096 in
theorem u2_p {V : Vf} {a k : Nat} {v : Int32} : u2 V a k v a k = v := if_pos ⟨rfl, rfl⟩
set_option maxRecDepth 4096 in
theorem u2_j {V : Vf} {a k b j : Nat} {v : Int32} (h : j ≠ k) : u2 V a k v b j = V b j := if_neg (fun z => h z.2)
theorem wOpens_o {V : Vf} {l a k : Nat} (h : a < 53 ∨ 61 < a) : wOpens V l a k = V a k := by
  unfold wOpens
  rw [u2_o (by omega), u2_o (by omega), u2_o (by omega), u2_o (by omega), u2_o (by omega)]
theorem wSums_o {V : Vf} {l a k : Nat} (h : a < 53 ∨ 61 < a) : wSums V l a k = V a k := by
  unfold wSums
  rw [u2_o (by omega), u2_o (by omega)]
theorem wTests_o {V : Vf} {l a k : Nat} (h : a < 53 ∨ 61 < a) : wTests V l a k = V a k := by
  unfold wTests
  rw [u2_o (by omega), u2_o (by omega), u2_o (by omega), u2_o (by omega), wSums_o h]
theorem wTerm_o {V : Vf} {l a k : Nat} {v : Int32} (h : a < 53 ∨ 61 < a) : (wTerm V l v).2 a k = V a k := by
  unfold wTerm wPut
  dsimp only
  rw [u2_o (by omega)]
theorem wStep_o {q q' : Nat × Vf} {c a k : Nat} (hs : wStep q c = some q') (h : a < 53 ∨ 61 < a) : q'.2 a k = q.2 a k := by
  unfold wStep at hs
  split at hs
  · split at hs
    · rw [← Option.some.inj hs]; dsimp only; rw [wOpens_o h, u2_o (by omega)]
    · cases hs
  · split at hs
    · rw [← Option.some.inj hs]; dsimp only; rw [u2_o (by omega), wSums_o h]
    · split at hs
      · rw [← Option.some.inj hs]; dsimp only; rw [u2_o (by omega)]
      · split at hs
        · rw [← Option.some.inj hs]; dsimp only; rw [u2_o (by omega), u2_o (by omega), u2_o (by omega), u2_o (by omega), wSums_o h]
        · split at hs
          · rw [← Option.some.inj hs]; dsimp only; rw [u2_o (by omega), wTests_o h]
          · split at hs
            · split at hs
              · cases hs
              · rw [← Option.some.inj hs]; rw [wTerm_o h, wTests_o h]
            · split at hs
              · rw [← Option.some.inj hs]; rw [wTerm_o h]
              · split at hs
                · rw [← Option.some.inj hs]; rw [wTerm_o h]
                · cases hs
theorem wNots_le {V : Vf} : ∀ {l : Nat} {v : Int32}, (wNots V l v).1 ≤ l
  | 0, v => Nat.le_refl _
  | l + 1, v => by
    unfold wNots
    split
    · exact Nat.le_succ_of_le wNots_le
    · exact Nat.le_refl _
theorem wStep_l {q q' : Nat × Vf} {c : Nat} (hs : wStep q c = some q') (h : q.1 ≤ 6) : q'.1 ≤ 6 := by
  unfold wStep at hs
  split at hs
  · split at hs
    · rw [← Option.some.inj hs]; show q.1 + 1 ≤ 6; omega
    · cases hs
  · split at hs
    · rw [← Option.some.inj hs]; exact h
    · split at hs
      · rw [← Option.some.inj hs]; exact h
      · split at hs
        · rw [← Option.some.inj hs]; exact h
        · split at hs
          · rw [← Option.some.inj hs]; exact h
          · split at hs
            · split at hs
              · cases hs
              · rename_i l e
                rw [← Option.some.inj hs]
                exact Nat.le_trans wNots_le (by omega)
            · split at hs
              · rw [← Option.some.inj hs]; exact Nat.le_trans wNots_le h
              · split at hs
                · rw [← Option.some.inj hs]; exact Nat.le_trans wNots_le h
                · cases hs
theorem ShM.v {S : St} {V : Vf} (h : ShM S) : ShM (V, S.2) := h.of rfl
section REF
variable {S : St}
set_option maxRecDepth 4096 in
theorem f124 {d l : Nat} (hM : ShM S) (hl : l ≤ 6) : F (d + 1) 124 [.ref 39, .int (nI l)] S = some (none, (wOpens S.1 l, S.2)) := by
  have hin : inB (nI l) 7 := inB_n (by omega) (by decide)
  refine Sp.eq (fw124 (w124_0 ?_))
  rw [nI_clamp (by omega)]
  simp only [sl, si, sj, gK_pI, gN_pI, gR_pI, hM.k39, hM.r39_26, hM.k54, hM.n54, hM.r39_28, hM.k56, hM.n56, hM.r39_29, hM.k57, hM.n57, hM.r39_30, hM.k58, hM.n58, hM.r39_32, hM.k60, hM.n60, z0c, eq_self, if_true, Nat.reduceAdd, true_and, if_pos hin]
  exact ⟨nochg S, rfl, rfl⟩
set_option maxRecDepth 4096 in
theorem f125 {d l : Nat} (hM : ShM S) (hl : l ≤ 6) : F (d + 1) 125 [.ref 39, .int (nI l)] S = some (none, (wSums S.1 l, S.2)) := by
  have hin : inB (nI l) 7 := inB_n (by omega) (by decide)
  have fin : ∀ y : Int32, y = (if S.1 58 l = 21 then S.1 57 l - S.1 59 l else S.1 57 l + S.1 59 l) → WP (P125 (F d)) (1, [.ref 39, .int (nI l)], [.int y, .int (nI l), .ref 57], S) (fun r S' => (gZ S ≤ gZ S' ∧ gU S ≤ gU S') ∧ r = none ∧ S' = (wSums S.1 l, S.2)) := by
    intro y hy
    refine w125_1 ?_
    rw [nI_clamp (by omega)]
    simp only [sl, si, sj, gK_pI, gN_pI, gR_pI, hM.k39, hM.r39_29, hM.k57, hM.n57, hM.r39_32, hM.k60, hM.n60, z0c, eq_self, if_true, Nat.reduceAdd, true_and, hM.k57, hM.n57, if_pos hin]
    exact ⟨nochg S, rfl, by unfold wSums; rw [← hy]; rfl⟩
  refine Sp.eq (fw125 (w125_0 ?_))
  rw [nI_clamp (by omega)]
  simp only [sl, si, sj, gK_pI, gN_pI, gR_pI, hM.k39, hM.r39_29, hM.k57, hM.n57, hM.r39_30, hM.k58, hM.n58, hM.r39_31, hM.k59, hM.n59, z0c, eq_self, if_true, Nat.reduceAdd, true_and, if_pos hin]
  refine W_if (fun q => ?_) (fun q => ?_)
  · exact fin _ (by rw [if_pos (show S.1 58 l = 21 from q)]; rfl)
  · exact fin _ (by rw [if_neg (show ¬ S.1 58 l = 21 from q)]; rfl)
set_option maxRecDepth 4096 in
theorem f126 {d l : Nat} (hM : ShM S) (hl : l ≤ 6) : F (d + 2) 126 [.ref 39, .int (nI l)] S = some (none, (wTests S.1 l, S.2)) := by
  have hin : inB (nI l) 7 := inB_n (by omega) (by decide)
  refine Sp.eq (fw126 (w126_0 ?_))
  simp only [sl, si, sj, gK_pI, gN_pI, gR_pI, hM.k39, z0c, eq_self, if_true, Nat.reduceAdd, true_and]
  refine W_V (f125 hM hl) ?_
  have hM1 : ShM (wSums S.1 l, S.2) := hM.v
  generalize hS1 : ((wSums S.1 l, S.2) : St) = S1 at hM1 ⊢
  have g : ∀ a k, gI S1 a k = wSums S.1 l a k := fun a k => by rw [← hS1]; rfl
  have e2 : S1.2 = S.2 := by rw [← hS1]
  have ten : ∀ x2 : Int32, x2 = wVal (wSums S.1 l) l → WP (P126 (F (d + 1))) (10, [.ref 39, .int (nI l), .int x2], [], S1) (fun r S' => (gZ S ≤ gZ S' ∧ gU S ≤ gU S') ∧ r = none ∧ S' = (wTests S.1 l, S.2)) := by
    intro x2 hx
    refine w126_10 ?_
    rw [nI_clamp (by omega)]
    simp only [sl, si, sj, gK_pI, gN_pI, gR_pI, hM1.k39, hM1.r39_25, hM1.k53, hM1.n53, hM1.r39_28, hM1.k56, hM1.n56, hM1.r39_29, hM1.k57, hM1.n57, hM1.r39_30, hM1.k58, hM1.n58, z0c, eq_self, if_true, Nat.reduceAdd, true_and, if_pos hin]
    rw [← hS1, hx]
    exact ⟨nochg S, rfl, rfl⟩
  -- the four steps of its value
  have seven : ∀ x2 : Int32, (∀ v, v = (if S1.1 54 l = 27 then bi (S1.1 53 l ≠ 0 ∨ x2 ≠ 0) else x2) → v = wVal (wSums S.1 l) l) → WP (P126 (F (d + 1))) (7, [.ref 39, .int (nI l), .int x2], [], S1) (fun r S' => (gZ S ≤ gZ S' ∧ gU S ≤ gU S') ∧ r = none ∧ S' = (wTests S.1 l, S.2)) := by
    intro x2 hx
    refine w126_7 ?_
    rw [nI_clamp (by omega)]
    simp only [sl, si, sj, gK_pI, gN_pI, gR_pI, hM1.k39, hM1.r39_26, hM1.k54, hM1.n54, hM1.r39_25, hM1.k53, hM1.n53, z0c, eq_self, if_true, Nat.reduceAdd, true_and, if_pos hin]
    refine W_if (fun q => ?_) (fun q => ?_)
    · have q : S1.1 54 l = 27 := q
      have eight : (S1.1 53 l ≠ 0 ∨ x2 ≠ 0) → WP (P126 (F (d + 1))) (8, [.ref 39, .int (nI l), .int x2], [], S1) (fun r S' => (gZ S ≤ gZ S' ∧ gU S ≤ gU S') ∧ r = none ∧ S' = (wTests S.1 l, S.2)) := by
        intro h
        refine w126_8 ?_
        refine w126_9 ?_
        exact ten 1 (hx 1 (by rw [if_pos q, bi_t h]))
      refine W_if (fun q2 => ?_) (fun q2 => ?_)
      · refine W_if (fun q3 => ?_) (fun q3 => ?_)
        · refine w126_9 ?_
          exact ten 0 (hx 0 (by rw [if_pos q, bi_f (by rintro (z | z); exact z q2; exact z q3)]))
        · exact eight (Or.inr q3)
      · exact eight (Or.inl q2)
    · have q : ¬ S1.1 54 l = 27 := q
      exact ten x2 (hx x2 (by rw [if_neg q]))
  have four : ∀ x2 : Int32, (∀ v, v = (if S1.1 54 l = 26 then bi (S1.1 53 l ≠ 0 ∧ x2 ≠ 0) else x2) → ∀ u, u = (if S1.1 54 l = 27 then bi (S1.1 53 l ≠ 0 ∨ v ≠ 0) else v) → u = wVal (wSums S.1 l) l) → WP (P126 (F (d + 1))) (4, [.ref 39, .int (nI l), .int x2], [], S1) (fun r S' => (gZ S ≤ gZ S' ∧ gU S ≤ gU S') ∧ r = none ∧ S' = (wTests S.1 l, S.2)) := by
    intro x2 hx
    refine w126_4 ?_
    rw [nI_clamp (by omega)]
    simp only [sl, si, sj, gK_pI, gN_pI, gR_pI, hM1.k39, hM1.r39_26, hM1.k54, hM1.n54, hM1.r39_25, hM1.k53, hM1.n53, z0c, eq_self, if_true, Nat.reduceAdd, true_and, if_pos hin]
    refine W_if (fun q => ?_) (fun q => ?_)
    · have q : S1.1 54 l = 26 := q
      have five : ¬ (S1.1 53 l ≠ 0 ∧ x2 ≠ 0) → WP (P126 (F (d + 1))) (5, [.ref 39, .int (nI l), .int x2], [], S1) (fun r S' => (gZ S ≤ gZ S' ∧ gU S ≤ gU S') ∧ r = none ∧ S' = (wTests S.1 l, S.2)) := by
        intro h
        refine w126_5 ?_
        refine w126_6 ?_
        exact seven 0 (hx 0 (by rw [if_pos q, bi_f h]))
      refine W_if (fun q2 => ?_) (fun q2 => ?_)
      · exact five (fun z => z.1 q2)
      · refine W_if (fun q3 => ?_) (fun q3 => ?_)
        · exact five (fun z => z.2 q3)
        · refine w126_6 ?_
          exact seven 1 (hx 1 (by rw [if_pos q, bi_t ⟨q2, q3⟩]))
    · have q : ¬ S1.1 54 l = 26 := q
      exact seven x2 (hx x2 (by rw [if_neg q]))
  have two : ∀ x2 : Int32, x2 = (if S1.1 56 l = 24 then bi (S1.1 55 l < S1.1 57 l) else S1.1 57 l) → WP (P126 (F (d + 1))) (2, [.ref 39, .int (nI l), .int x2], [], S1) (fun r S' => (gZ S ≤ gZ S' ∧ gU S ≤ gU S') ∧ r = none ∧ S' = (wTests S.1 l, S.2)) := by
    intro x2 hx
    have last : ∀ x3 : Int32, x3 = (if S1.1 56 l = 25 then bi (S1.1 55 l = S1.1 57 l) else x2) → ∀ v, v = (if S1.1 54 l = 26 then bi (S1.1 53 l ≠ 0 ∧ x3 ≠ 0) else x3) → ∀ u, u = (if S1.1 54 l = 27 then bi (S1.1 53 l ≠ 0 ∨ v ≠ 0) else v) → u = wVal (wSums S.1 l) l := by
      intro x3 h3 v hv u hu
      have e : S1.1 = wSums S.1 l := by rw [← hS1]
      rw [hu, hv, h3, hx, e]
      rfl
    refine w126_2 ?_
    rw [nI_clamp (by omega)]
    simp only [sl, si, sj, gK_pI, gN_pI, gR_pI, hM1.k39, hM1.r39_28, hM1.k56, hM1.n56, hM1.r39_27, hM1.k55, hM1.n55, hM1.r39_29, hM1.k57, hM1.n57, z0c, eq_self, if_true, Nat.reduceAdd, true_and, if_pos hin]
    refine W_if (fun q => ?_) (fun q => ?_)
    · have q : S1.1 56 l = 25 := q
      refine W_if (fun q2 => ?_) (fun q2 => ?_)
      · refine w126_3 ?_
        exact four 1 (last 1 (by rw [if_pos q, bi_t (show S1.1 55 l = S1.1 57 l from q2)]))
      · refine w126_3 ?_
        exact four 0 (last 0 (by rw [if_pos q, bi_f (show ¬ S1.1 55 l = S1.1 57 l from q2)]))
    · have q : ¬ S1.1 56 l = 25 := q
      exact four x2 (last x2 (by rw [if_neg q]))
  rw [nI_clamp (by omega)]
  simp only [sl, si, sj, gK_pI, gN_pI, gR_pI, hM1.k39, hM1.r39_29, hM1.k57, hM1.n57, hM1.r39_28, hM1.k56, hM1.n56, hM1.r39_27, hM1.k55, hM1.n55, z0c, eq_self, if_true, Nat.reduceAdd, true_and, if_pos hin]
  refine W_if (fun q => ?_) (fun q => ?_)
  · have q : S1.1 56 l = 24 := q
    refine W_if (fun q2 => ?_) (fun q2 => ?_)
    · refine w126_1 ?_
      exact two 1 (by rw [if_pos q, bi_t (show S1.1 55 l < S1.1 57 l from q2)])
    · refine w126_1 ?_
      exact two 0 (by rw [if_pos q, bi_f (show ¬ S1.1 55 l < S1.1 57 l from q2)])
  · have q : ¬ S1.1 56 l = 24 := q
    exact two _ (by rw [if_neg q]; rfl)
end REF
