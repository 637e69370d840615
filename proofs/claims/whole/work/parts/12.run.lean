/-! A METHOD'S RUN: block after block -/
abbrev Cf : Type := Nat × List Value × List Value × St
def exN (md : Nat → K) : Nat → Cf → Option (Option Value × St)
  | 0, _ => none
  | n + 1, c => match md c.1 c.2.1 c.2.2.1 c.2.2.2 with
    | none => none
    | some (.inl c') => exN md n c'
    | some (.inr r) => some r
theorem exN_s (md : Nat → K) (n : Nat) (c : Cf) : exN md (n + 1) c = match md c.1 c.2.1 c.2.2.1 c.2.2.2 with
    | none => none
    | some (.inl c') => exN md n c'
    | some (.inr r) => some r := rfl
theorem exN_up {md : Nat → K} : ∀ {n : Nat} {c : Cf} {r : Option Value × St}, exN md n c = some r → exN md (n + 1) c = some r
  | 0, c, r, h => by cases h
  | n + 1, c, r, h => by
    rw [exN_s] at h ⊢
    cases he : md c.1 c.2.1 c.2.2.1 c.2.2.2 with
    | none => rw [he] at h; cases h
    | some q =>
      rw [he] at h
      cases q with
      | inl c' => exact exN_up h
      | inr r' => exact h
theorem exN_le {md : Nat → K} {n m : Nat} {c : Cf} {r : Option Value × St} (h : exN md n c = some r) (hm : n ≤ m) : exN md m c = some r := by
  induction hm with
  | refl => exact h
  | step _ ih => exact exN_up ih
def Ev (md : Nat → K) (c : Cf) (r : Option Value × St) : Prop := ∃ n, exN md n c = some r
theorem Ev.det {md : Nat → K} {c : Cf} {r r' : Option Value × St} (h : Ev md c r) (h' : Ev md c r') : r = r' := by
  obtain ⟨n, hn⟩ := h
  obtain ⟨m, hm⟩ := h'
  exact Option.some.inj ((exN_le hn (Nat.le_max_left n m)).symm.trans (exN_le hm (Nat.le_max_right n m)))
theorem Ev.step {md : Nat → K} {b : Nat} {ls st : List Value} {S : St} {c' : Cf} {r : Option Value × St} (h : md b ls st S = some (.inl c')) (h' : Ev md c' r) : Ev md (b, ls, st, S) r := by
  obtain ⟨n, hn⟩ := h'
  refine ⟨n + 1, ?_⟩
  unfold exN
  simp only [h]
  exact hn
theorem Ev.done {md : Nat → K} {b : Nat} {ls st : List Value} {S : St} {r : Option Value × St} (h : md b ls st S = some (.inr r)) : Ev md (b, ls, st, S) r := by
  refine ⟨1, ?_⟩
  unfold exN
  simp only [h]
/-- the arguments as locals -/
def xL : List Value → List Value
  | [] => []
  | v :: vs => if isL v then v :: .null :: xL vs else v :: xL vs
def en (n : Nat) (as : List Value) : List Value := xL as ++ List.replicate (n - (xL as).length) .null
/-- what a run must come to: no cell is lost; and the arguments are not too many -/
def Evm (prog : Nat → Orc → Nat → K) (mx : Nat → Nat) (orc : Orc) (i : Nat) (as : List Value) (S : St) (r : Option Value × St) : Prop := Ev (prog i orc) (0, en (mx i) as, [], S) r ∧ (gZ S ≤ gZ r.2 ∧ gU S ≤ gU r.2) ∧ Nat.ble (xL as).length (mx i) = true
noncomputable def cF (prog : Nat → Orc → Nat → K) (mx : Nat → Nat) : Nat → Orc
  | 0 => fun _ _ _ => none
  | d + 1 => fun i as S => @dite _ (∃ r, Evm prog mx (cF prog mx d) i as S r) (Classical.propDecidable _) (fun h => some (Classical.choose h)) (fun _ => none)
theorem cF_of {prog : Nat → Orc → Nat → K} {mx : Nat → Nat} {d i : Nat} {as : List Value} {S : St} {r : Option Value × St} (h : Evm prog mx (cF prog mx d) i as S r) : cF prog mx (d + 1) i as S = some r := by
  have hx : ∃ r, Evm prog mx (cF prog mx d) i as S r := ⟨r, h⟩
  unfold cF
  simp only [dif_pos hx]
  rw [(Classical.choose_spec hx).1.det h.1]
theorem cF_ev {prog : Nat → Orc → Nat → K} {mx : Nat → Nat} {d i : Nat} {as : List Value} {S : St} {r : Option Value × St} (h : cF prog mx (d + 1) i as S = some r) : Evm prog mx (cF prog mx d) i as S r := by
  by_cases hx : ∃ r, Evm prog mx (cF prog mx d) i as S r
  · unfold cF at h
    simp only [dif_pos hx] at h
    rw [← Option.some.inj h]
    exact Classical.choose_spec hx
  · unfold cF at h
    simp only [dif_neg hx] at h
    cases h
theorem run_MW {X : Cx} {ps : Nat → Nat} {md : Nat → K} (hg : ∀ b, GK X ps (ps b) (md b)) : ∀ (n : Nat) (c : Cf), exN md n c = some (xr X, xf X) → MW X (ps c.1) c.2.1 c.2.2.1 c.2.2.2
  | 0, c, h => by cases h
  | n + 1, c, h => by
    refine hg c.1 _ _ _ ?_
    unfold exN at h
    split at h
    · cases h
    · rename_i c' he
      rw [he]
      exact run_MW hg n c' h
    · rename_i r' he
      rw [he]
      exact Option.some.inj h
theorem xL_nth {base : Nat} {ad : Nat → Option Nat} : ∀ (as : List Value) (i : Nat), nth (xL as) i ≠ .null → (lg_sl (as.map (cv base ad)))[i]? = some (.val (cv base ad (nth (xL as) i)))
  | [], i, h => absurd rfl h
  | v :: vs, i, h => by
    unfold xL at h ⊢
    have hc := cv_isL base ad v
    by_cases e : isL v = true
    · rw [if_pos e] at h ⊢
      have : lg_sl ((v :: vs).map (cv base ad)) = .val (cv base ad v) :: .second :: lg_sl (vs.map (cv base ad)) := by
        simp [lg_sl, hc.mpr e]
      rw [this]
      match i, h with
      | 0, h => rfl
      | 1, h => exact absurd rfl h
      | i + 2, h => exact xL_nth vs i h
    · rw [if_neg e] at h ⊢
      have : lg_sl ((v :: vs).map (cv base ad)) = .val (cv base ad v) :: lg_sl (vs.map (cv base ad)) := by
        have h2 : ¬ (cv base ad v).category = 2 := fun z => e (hc.mp z)
        simp [lg_sl, h2]
      rw [this]
      match i, h with
      | 0, h => rfl
      | i + 1, h => exact xL_nth vs i h
theorem xL_len {base : Nat} {ad : Nat → Option Nat} : ∀ (as : List Value), (lg_sl (as.map (cv base ad))).length = (xL as).length
  | [] => rfl
  | v :: vs => by
    have hc := cv_isL base ad v
    have ih := xL_len (base := base) (ad := ad) vs
    unfold xL
    by_cases e : isL v = true
    · rw [if_pos e]
      have : lg_sl ((v :: vs).map (cv base ad)) = .val (cv base ad v) :: .second :: lg_sl (vs.map (cv base ad)) := by
        simp [lg_sl, hc.mpr e]
      rw [this]
      simp [ih]
    · rw [if_neg e]
      have : lg_sl ((v :: vs).map (cv base ad)) = .val (cv base ad v) :: lg_sl (vs.map (cv base ad)) := by
        have h2 : ¬ (cv base ad v).category = 2 := fun z => e (hc.mp z)
        simp [lg_sl, h2]
      rw [this]
      simp [ih]
theorem nth_app (l : List Value) (n i : Nat) (h : nth (l ++ List.replicate n .null) i ≠ .null) : nth l i = nth (l ++ List.replicate n .null) i ∧ i < l.length := by
  induction l generalizing i with
  | nil =>
    exfalso
    apply h
    clear h
    induction n generalizing i with
    | zero => rfl
    | succ n ih => cases i with
      | zero => rfl
      | succ i => exact ih i
  | cons v vs ih =>
    cases i with
    | zero => exact ⟨rfl, by simp⟩
    | succ i =>
      have := ih i h
      exact ⟨this.1, by simp; exact this.2⟩
theorem en_lh {base : Nat} {ad : Nat → Option Nat} {as : List Value} {n : Nat} (h : (xL as).length ≤ n) : lh base ad ((lg_sl (as.map (cv base ad)) ++ List.replicate (n - (lg_sl (as.map (cv base ad))).length) Slot.unset).toArray) n (en n as) := by
  have h1 := lv_entry (as.map (cv base ad)) (n := n) (by rw [xL_len]; exact h)
  refine ⟨h1.1, h1.2.1, by simp [en]; omega, fun i hi => ?_⟩
  obtain ⟨e1, e2⟩ := nth_app _ _ i hi
  have hx := xL_nth (base := base) (ad := ad) as i (by rw [e1]; exact hi)
  rw [List.getElem?_toArray, List.getElem?_append_left (by rw [xL_len]; exact e2), hx, e1]
  rfl
/-- a method of the table: its blocks do what its code does -/
def MS (tab : Mtab) (y : MethodName) (bytes : ByteArray) (maxL : Nat) (ret : Option FieldType) (ps : Nat → Nat) (md : Orc → Nat → K) : Prop :=
  ∀ (X : Cx) (orc : Orc) (d : Nat), XM X bytes y.cls → XR X ret → (xh X).name = y.name → xn X = maxL → xOS tab X orc d → Rd X d 45 → ∀ b, GK X ps (ps b) (md orc b)
theorem MT_of {tab : Mtab} {l : Launch} {base : Nat} {Hb : Heap} {D : va_G} {ck : Nat → ClassId} {ad : Nat → Option Nat} {y : MethodName} {bytes : ByteArray} {maxL : Nat} {ret : Option FieldType} {ps : Nat → Nat} {md : Orc → Nat → K} (hy : plainName y.cls = true) (hp0 : ps 0 = 0) (hM : MS tab y bytes maxL ret ps md) {orc : Orc} {d : Nat} (ho : OS tab l base Hb D ck ad orc d) {as : List Value} {S : St} {r : Option Value} {S' : St} (hl : (xL as).length ≤ maxL) (hr : Ev (md orc) (0, en maxL as, [], S) (r, S')) : MT l base Hb D ck ad (d + 1) y bytes maxL ret as S r S' := by
  obtain ⟨n, hn⟩ := hr
  refine Met.ofW (cc := bytes) (maxL := maxL) (ret := ret) hy rfl ?_
  intro p e s m args below meth c s₁ B hml hv
  obtain ⟨rfl, hsz, hlo, hHR, hTB⟩ := hv
  have hts := atoms_spec (ws := .code y bytes maxL ret :: T0) B.pre
  let X : Cx := ((p, l, e, rmD (d + 1) (gZ S' - gZ S) (gU S' - gU S), s, m, (as.map (cv base ad)).toArray, below, meth, c), (MQ below (QC base D ck ad r S') (as.map (cv base ad)).toArray s (gZ S' - gZ S) (gU S' - gU S) (fun q => base + 1 ≤ q), base, Hb, D, ck, ad), (bytes, maxL, y.cls, S, r, S'))
  have hXO : XO X := ⟨B.exec, B.bytes, hml, findClass_of_methodNamed B.named, fun w hw => hts w (List.mem_cons_of_mem _ hw), B.notSynchronized, hTB, ⟨Nat.le_refl _, Nat.le_refl _⟩, ⟨hsz, hlo⟩, by show 1 ≤ d + 1 + 1 ∧ 64 ≤ 64 * (d + 1 + 1); omega⟩
  have hMW := run_MW (hM X orc d ⟨hXO, rfl, rfl⟩ ⟨rfl, B.returns⟩ (name_of_methodNamed B.named B.method).1 rfl ho (by show d + 2 ≤ d + 1 + 1 ∧ 8 + (45 + 11) + 64 * (d + 1) ≤ 64 * (d + 1 + 1); omega)) n (0, en maxL as, [], S) hn
  rw [hp0] at hMW
  rw [lg_entry_eq]
  have hw := hMW.2 s.heap [] _ hHR va_S.rf (en_lh hl) (Nat.le_refl _) (Nat.le_refl _)
  rw [show gZ S - gZ (x0 X) = 0 from Nat.sub_self _, show gU S - gU (x0 X) = 0 from Nat.sub_self _] at hw
  exact hw
/-- every method's blocks do what its code does: then so do all calls, as deep as they go -/
theorem OS_cF {tab : Mtab} {l : Launch} {base : Nat} {Hb : Heap} {D : va_G} {ck : Nat → ClassId} {ad : Nat → Option Nat} {prog : Nat → Orc → Nat → K} {mx : Nat → Nat} (hall : ∀ (i : Nat) (y : MethodName) (bytes : ByteArray) (maxL : Nat) (ret : Option FieldType), tab[i]? = some (y, bytes, maxL, ret) → plainName y.cls = true ∧ mx i = maxL ∧ ∃ ps : Nat → Nat, ps 0 = 0 ∧ MS tab y bytes maxL ret ps (prog i)) : ∀ d, OS tab l base Hb D ck ad (cF prog mx d) d
  | 0 => fun i y bytes maxL ret _ as S r S' h => by cases h
  | d + 1 => fun i y bytes maxL ret hi as S r S' h => by
    obtain ⟨h1, h2, h3⟩ := cF_ev h
    obtain ⟨hy, hm, ps, hp, hM⟩ := hall i y bytes maxL ret hi
    rw [hm] at h1 h3
    exact ⟨h2, MT_of hy hp hM (OS_cF hall d) (Nat.le_of_ble_eq_true h3) h1⟩
