/-! ONE ROW AN INSTRUCTION: what the abstract machine does, the machine does -/
theorem nth_len {ls : List Value} {i : Nat} (h : nth ls i ≠ .null) : i < ls.length := by
  induction ls generalizing i with
  | nil => exact absurd rfl h
  | cons v vs ih =>
    cases i with
    | zero => simp
    | succ i => simp only [List.length_cons]; have := ih (i := i) h; omega
theorem stL_len (ls : List Value) (i : Nat) (v : Value) : (stL ls i v).length = ls.length := by
  induction ls generalizing i with
  | nil => rfl
  | cons w vs ih => cases i with
    | zero => rfl
    | succ i => simp [stL, ih]
theorem nth_stL (ls : List Value) (i : Nat) (v : Value) (j : Nat) (hi : i < ls.length) : nth (stL ls i v) j = if j = i then v else if j + 1 = i ∧ isL (nth ls j) = true then .null else nth ls j := by
  induction ls generalizing i j with
  | nil => simp at hi
  | cons w vs ih =>
    cases i with
    | zero =>
      cases j with
      | zero => simp [stL, nth]
      | succ j => simp [stL, nth]
    | succ i =>
      simp only [List.length_cons] at hi
      cases j with
      | zero =>
        by_cases hi0 : i = 0
        · subst hi0
          cases hw : isL w <;> simp [stL, nth, hw]
        · have : (i == 0) = false := by simpa using hi0
          simp [stL, nth, this]
          intro e
          omega
      | succ j =>
        simp only [stL, nth]
        rw [ih i j (by omega)]
        simp
theorem stLL_len (ls : List Value) (i : Nat) (v : Value) : (stLL ls i v).length = ls.length := by
  induction ls generalizing i with
  | nil => rfl
  | cons w vs ih => cases i with
    | zero => simp [stLL, stL_len]
    | succ i => simp [stLL, ih]
theorem nth_stLL (ls : List Value) (i : Nat) (v : Value) (j : Nat) (hi : i + 1 < ls.length) : nth (stLL ls i v) j = if j = i then v else if j = i + 1 then .null else if j + 1 = i ∧ isL (nth ls j) = true then .null else nth ls j := by
  induction ls generalizing i j with
  | nil => simp at hi
  | cons w vs ih =>
    simp only [List.length_cons] at hi
    cases i with
    | zero =>
      cases j with
      | zero => simp [stLL, nth]
      | succ j =>
        simp only [stLL, nth]
        rw [nth_stL vs 0 .null j (by omega)]
        by_cases hj : j = 0
        · subst hj; simp
        · simp [hj]
    | succ i =>
      cases j with
      | zero =>
        by_cases hi0 : i = 0
        · subst hi0
          cases hw : isL w <;> simp [stLL, nth, hw]
        · have : (i == 0) = false := by simpa using hi0
          simp [stLL, nth, this]
          intro e
          omega
      | succ j =>
        simp only [stLL, nth]
        rw [ih i j (by omega)]
        simp
theorem cv_isL (base : Nat) (ad : Nat → Option Nat) (v : Value) : ((cv base ad v).category = 2) ↔ isL v = true := by
  cases v with
  | ref a => cases a <;> simp [cv, rv, Value.category, isL]
  | retAddr k =>
    cases h : ad k <;> simp [cv, h, va_rf, Value.category, isL]
  | _ => simp [cv, Value.category, isL]
/-- the listed locals -/
def lvl (base : Nat) (ad : Nat → Option Nat) (ls : List Value) : List (Nat × Value) := (List.range ls.length).filterMap (fun j => if nth ls j = .null then none else some (j, cv base ad (nth ls j)))
theorem lvl_mem {base : Nat} {ad : Nat → Option Nat} {ls : List Value} {j : Nat} (h : nth ls j ≠ .null) : (j, cv base ad (nth ls j)) ∈ lvl base ad ls := by
  refine List.mem_filterMap.mpr ⟨j, List.mem_range.mpr (nth_len h), ?_⟩
  rw [if_neg h]
theorem lh_has {base : Nat} {ad : Nat → Option Nat} {lm : Array Slot} {n : Nat} {ls : List Value} (h : lh base ad lm n ls) : lv_has lm n (lvl base ad ls) := by
  refine ⟨h.1, h.2.1, fun q hq => ?_⟩
  obtain ⟨j, -, hj⟩ := List.mem_filterMap.mp hq
  by_cases e : nth ls j = .null
  · rw [if_pos e] at hj; cases hj
  · rw [if_neg e] at hj; cases hj; exact h.2.2.2 j e
theorem lh_st {base : Nat} {ad : Nat → Option Nat} {lm lm' : Array Slot} {n : Nat} {ls : List Value} {i : Nat} {v : Value} (h : lh base ad lm n ls) (hi : i < n) (h2 : lv_has lm' n ((i, cv base ad v) :: (lvl base ad ls).filter (fun q => !(q.1 == i) && !(q.1 + 1 == i && q.2.category == 2)))) : lh base ad lm' n (stL ls i v) := by
  refine ⟨h2.1, h2.2.1, by rw [stL_len]; exact h.2.2.1, fun j hj => ?_⟩
  have hil : i < ls.length := by rw [h.2.2.1]; exact hi
  rw [nth_stL ls i v j hil] at hj ⊢
  by_cases e : j = i
  · subst e
    rw [if_pos rfl]
    exact h2.2.2 _ List.mem_cons_self
  · rw [if_neg e] at hj ⊢
    by_cases e2 : j + 1 = i ∧ isL (nth ls j) = true
    · rw [if_pos e2] at hj; exact absurd rfl hj
    · rw [if_neg e2] at hj ⊢
      refine h2.2.2 (j, cv base ad (nth ls j)) (List.mem_cons_of_mem _ (List.mem_filter.mpr ⟨lvl_mem hj, ?_⟩))
      have := cv_isL base ad (nth ls j)
      by_cases e3 : j + 1 = i
      · have h4 : ¬ (cv base ad (nth ls j)).category = 2 := fun z => e2 ⟨e3, this.mp z⟩
        simp [e, h4]
      · simp [e, e3]
theorem lh_stL {base : Nat} {ad : Nat → Option Nat} {lm lm' : Array Slot} {n : Nat} {ls : List Value} {i : Nat} {v : Value} (h : lh base ad lm n ls) (hi : i + 1 < n) (h2 : lv_has lm' n ((i, cv base ad v) :: (lvl base ad ls).filter (fun q => !(q.1 == i) && (!(q.1 == i + 1) && !(q.1 + 1 == i && q.2.category == 2))))) : lh base ad lm' n (stLL ls i v) := by
  refine ⟨h2.1, h2.2.1, by rw [stLL_len]; exact h.2.2.1, fun j hj => ?_⟩
  have hil : i + 1 < ls.length := by rw [h.2.2.1]; exact hi
  rw [nth_stLL ls i v j hil] at hj ⊢
  by_cases e : j = i
  · subst e
    rw [if_pos rfl]
    exact h2.2.2 _ List.mem_cons_self
  · rw [if_neg e] at hj ⊢
    by_cases e1 : j = i + 1
    · rw [if_pos e1] at hj; exact absurd rfl hj
    · rw [if_neg e1] at hj ⊢
      by_cases e2 : j + 1 = i ∧ isL (nth ls j) = true
      · rw [if_pos e2] at hj; exact absurd rfl hj
      · rw [if_neg e2] at hj ⊢
        refine h2.2.2 (j, cv base ad (nth ls j)) (List.mem_cons_of_mem _ (List.mem_filter.mpr ⟨lvl_mem hj, ?_⟩))
        have := cv_isL base ad (nth ls j)
        by_cases e3 : j + 1 = i
        · have h4 : ¬ (cv base ad (nth ls j)).category = 2 := fun z => e2 ⟨e3, this.mp z⟩
          simp [e, e1, h4]
        · simp [e, e1, e3]
theorem lh_at {base : Nat} {ad : Nat → Option Nat} {lm : Array Slot} {n : Nat} {ls : List Value} {i : Nat} {v : Value} (h : lh base ad lm n ls) (he : nth ls i = v) (hv : v ≠ .null) : lm[i]? = some (.val (cv base ad v)) := by
  have := h.2.2.2 i (by rw [he]; exact hv)
  rwa [he] at this
section GKO
variable {X : Cx} {ps : Nat → Nat} {pc : Nat} {k kt kf : K} {cc : ByteArray} {own : String}
theorem gk_iconst {n : Int} {v : Int32} (h : XM X cc own) (hd : decode cc pc = .ok (.iconst n, 1)) (hv : Int32.ofInt n = v) (hk : GK X ps (pc + 1) k) : GK X ps pc (o_iconst v k) := fun ls st S hr => by
  obtain ⟨hm, hw⟩ := hk _ _ _ hr
  exact ⟨hm, fun H locs lm a1 a2 a3 a4 a5 => lv_iconst h.1.ex h.by hd hv (hw H locs lm a1 a2 a3 a4 a5)⟩
theorem gk_bipush {n : Int} {v : Int32} (h : XM X cc own) (hd : decode cc pc = .ok (.bipush n, 2)) (hv : (Int8.ofInt n).toInt32 = v) (hk : GK X ps (pc + 2) k) : GK X ps pc (o_iconst v k) := fun ls st S hr => by
  obtain ⟨hm, hw⟩ := hk _ _ _ hr
  exact ⟨hm, fun H locs lm a1 a2 a3 a4 a5 => lv_bipush h.1.ex h.by hd hv (hw H locs lm a1 a2 a3 a4 a5)⟩
theorem gk_sipush {n : Int} {v : Int32} (h : XM X cc own) (hd : decode cc pc = .ok (.sipush n, 3)) (hv : (Int16.ofInt n).toInt32 = v) (hk : GK X ps (pc + 3) k) : GK X ps pc (o_iconst v k) := fun ls st S hr => by
  obtain ⟨hm, hw⟩ := hk _ _ _ hr
  exact ⟨hm, fun H locs lm a1 a2 a3 a4 a5 => lv_sipush h.1.ex h.by hd hv (hw H locs lm a1 a2 a3 a4 a5)⟩
theorem gk_lconst {n : Fin 2} {v : Int64} (h : XM X cc own) (hd : decode cc pc = .ok (.lconst n, 1)) (hv : Int64.ofNat (n : Nat) = v) (hk : GK X ps (pc + 1) k) : GK X ps pc (o_lconst v k) := fun ls st S hr => by
  obtain ⟨hm, hw⟩ := hk _ _ _ hr
  exact ⟨hm, fun H locs lm a1 a2 a3 a4 a5 => lv_lconst h.1.ex h.by hd hv (hw H locs lm a1 a2 a3 a4 a5)⟩
theorem gk_ldc {i : Nat} {v : Int32} (h : XM X cc own) (hd : decode cc pc = .ok (.ldc i, 2)) (hc : Cond.constant own i v ∈ T0) (hk : GK X ps (pc + 2) k) : GK X ps pc (o_iconst v k) := fun ls st S hr => by
  obtain ⟨hm, hw⟩ := hk _ _ _ hr
  exact ⟨hm, fun H locs lm a1 a2 a3 a4 a5 => lv_ldc h.1.ex h.by h.ow (h.1.ts _ hc) hd (hw H locs lm a1 a2 a3 a4 a5)⟩
theorem gk_ldc2 {i : Nat} {v : Int64} (h : XM X cc own) (hd : decode cc pc = .ok (.ldc2_w i, 3)) (hc : Cond.constantLong own i v ∈ T0) (hk : GK X ps (pc + 3) k) : GK X ps pc (o_lconst v k) := fun ls st S hr => by
  obtain ⟨hm, hw⟩ := hk _ _ _ hr
  exact ⟨hm, fun H locs lm a1 a2 a3 a4 a5 => lv_ldc2 h.1.ex h.by h.ow (h.1.ts _ hc) hd (hw H locs lm a1 a2 a3 a4 a5)⟩
theorem gk_null (h : XM X cc own) (hd : decode cc pc = .ok (.aconst_null, 1)) (hk : GK X ps (pc + 1) k) : GK X ps pc (o_null k) := fun ls st S hr => by
  obtain ⟨hm, hw⟩ := hk _ _ _ hr
  exact ⟨hm, fun H locs lm a1 a2 a3 a4 a5 => lv_null h.1.ex h.by hd (hw H locs lm a1 a2 a3 a4 a5)⟩
theorem gk_iload_n {j : Fin 4} {i : Nat} (h : XM X cc own) (hd : decode cc pc = .ok (.iload_n j, 1)) (hi : (j : Nat) = i) (hk : GK X ps (pc + 1) k) : GK X ps pc (o_iload i k) := fun ls st S hr => by
  obtain ⟨x, hx, r1⟩ := vI_el hr
  obtain ⟨hm, hw⟩ := hk _ _ _ r1
  exact ⟨hm, fun H locs lm a1 a2 a3 a4 a5 => lv_iload_n h.1.ex h.by hd hi (lh_at a3 hx (by simp)) (hw H locs lm a1 a2 a3 a4 a5)⟩
theorem gk_iload {i : Nat} (h : XM X cc own) (hd : decode cc pc = .ok (.iload i, 2)) (hk : GK X ps (pc + 2) k) : GK X ps pc (o_iload i k) := fun ls st S hr => by
  obtain ⟨x, hx, r1⟩ := vI_el hr
  obtain ⟨hm, hw⟩ := hk _ _ _ r1
  exact ⟨hm, fun H locs lm a1 a2 a3 a4 a5 => lv_iload h.1.ex h.by hd (lh_at a3 hx (by simp)) (hw H locs lm a1 a2 a3 a4 a5)⟩
theorem gk_lload_n {j : Fin 4} {i : Nat} (h : XM X cc own) (hd : decode cc pc = .ok (.lload_n j, 1)) (hi : (j : Nat) = i) (hk : GK X ps (pc + 1) k) : GK X ps pc (o_lload i k) := fun ls st S hr => by
  obtain ⟨x, hx, r1⟩ := vL_el hr
  obtain ⟨hm, hw⟩ := hk _ _ _ r1
  exact ⟨hm, fun H locs lm a1 a2 a3 a4 a5 => lv_lload_n h.1.ex h.by hd hi (lh_at a3 hx (by simp)) (hw H locs lm a1 a2 a3 a4 a5)⟩
theorem gk_lload {i : Nat} (h : XM X cc own) (hd : decode cc pc = .ok (.lload i, 2)) (hk : GK X ps (pc + 2) k) : GK X ps pc (o_lload i k) := fun ls st S hr => by
  obtain ⟨x, hx, r1⟩ := vL_el hr
  obtain ⟨hm, hw⟩ := hk _ _ _ r1
  exact ⟨hm, fun H locs lm a1 a2 a3 a4 a5 => lv_lload h.1.ex h.by hd (lh_at a3 hx (by simp)) (hw H locs lm a1 a2 a3 a4 a5)⟩
theorem gk_aload_n {j : Fin 4} {i : Nat} (h : XM X cc own) (hd : decode cc pc = .ok (.aload_n j, 1)) (hi : (j : Nat) = i) (hk : GK X ps (pc + 1) k) : GK X ps pc (o_aload i k) := fun ls st S hr => by
  obtain ⟨x, hx, r1⟩ := vR_el hr
  obtain ⟨hm, hw⟩ := hk _ _ _ r1
  refine ⟨hm, fun H locs lm a1 a2 a3 a4 a5 => ?_⟩
  have hl := lh_at a3 hx (by simp)
  have hw := (hw H locs lm a1 a2 a3 a4 a5)
  cases x with
  | zero => exact lv_aload_nN h.1.ex h.by hd hi hl hw
  | succ x => exact lv_aload_n h.1.ex h.by hd hi hl hw
theorem gk_sload_n {j : Fin 4} {i : Nat} (h : XM X cc own) (hd : decode cc pc = .ok (.aload_n j, 1)) (hi : (j : Nat) = i) (hk : GK X ps (pc + 1) k) : GK X ps pc (o_sload i k) := fun ls st S hr => by
  obtain ⟨x, hx, r1⟩ := vS_el hr
  obtain ⟨hm, hw⟩ := hk _ _ _ r1
  refine ⟨hm, fun H locs lm a1 a2 a3 a4 a5 => ?_⟩
  have hl := lh_at a3 hx (by simp)
  have hw := hw H locs lm a1 a2 a3 a4 a5
  rw [List.map_cons] at hw
  cases h9 : xS X x with
  | none =>
    have e : cv (xb X) (xS X) (.retAddr x) = .null := by show va_rf (xS X x) = _; rw [h9]; rfl
    rw [e] at hl
    rw [show xv X (.retAddr x) = .null from e] at hw
    exact lv_aload_nN h.1.ex h.by hd hi hl hw
  | some q =>
    have e : cv (xb X) (xS X) (.retAddr x) = .ref q := by show va_rf (xS X x) = _; rw [h9]; rfl
    rw [e] at hl
    rw [show xv X (.retAddr x) = .ref q from e] at hw
    exact lv_aload_n h.1.ex h.by hd hi hl hw
theorem gk_aload {i : Nat} (h : XM X cc own) (hd : decode cc pc = .ok (.aload i, 2)) (hk : GK X ps (pc + 2) k) : GK X ps pc (o_aload i k) := fun ls st S hr => by
  obtain ⟨x, hx, r1⟩ := vR_el hr
  obtain ⟨hm, hw⟩ := hk _ _ _ r1
  refine ⟨hm, fun H locs lm a1 a2 a3 a4 a5 => ?_⟩
  have hl := lh_at a3 hx (by simp)
  have hw := (hw H locs lm a1 a2 a3 a4 a5)
  cases x with
  | zero => exact lv_aloadN h.1.ex h.by hd hl hw
  | succ x => exact lv_aload h.1.ex h.by hd hl hw
theorem gk_sload {i : Nat} (h : XM X cc own) (hd : decode cc pc = .ok (.aload i, 2)) (hk : GK X ps (pc + 2) k) : GK X ps pc (o_sload i k) := fun ls st S hr => by
  obtain ⟨x, hx, r1⟩ := vS_el hr
  obtain ⟨hm, hw⟩ := hk _ _ _ r1
  refine ⟨hm, fun H locs lm a1 a2 a3 a4 a5 => ?_⟩
  have hl := lh_at a3 hx (by simp)
  have hw := hw H locs lm a1 a2 a3 a4 a5
  rw [List.map_cons] at hw
  cases h9 : xS X x with
  | none =>
    have e : cv (xb X) (xS X) (.retAddr x) = .null := by show va_rf (xS X x) = _; rw [h9]; rfl
    rw [e] at hl
    rw [show xv X (.retAddr x) = .null from e] at hw
    exact lv_aloadN h.1.ex h.by hd hl hw
  | some q =>
    have e : cv (xb X) (xS X) (.retAddr x) = .ref q := by show va_rf (xS X x) = _; rw [h9]; rfl
    rw [e] at hl
    rw [show xv X (.retAddr x) = .ref q from e] at hw
    exact lv_aload h.1.ex h.by hd hl hw
theorem gk_istore_n {j : Fin 4} {i n : Nat} (h : XM X cc own) (hd : decode cc pc = .ok (.istore_n j, 1)) (hi : (j : Nat) = i) (hn : xn X = n) (hb : i < n) (hk : GK X ps (pc + 1) k) : GK X ps pc (o_istore i k) := fun ls st S hr => by
  obtain ⟨x, st, rfl, r1⟩ := tI_el hr
  obtain ⟨hm, hw⟩ := hk _ _ _ r1
  rw [← hn] at hb
  exact ⟨hm, fun H locs lm a1 a2 a3 a4 a5 => lv_istore_n h.1.ex h.by hd hi (lh_has a3) hb rfl fun lm' hl => hw H locs lm' a1 a2 (lh_st (v := .int x) a3 hb hl) a4 a5⟩
theorem gk_istore {i n : Nat} (h : XM X cc own) (hd : decode cc pc = .ok (.istore i, 2)) (hn : xn X = n) (hb : i < n) (hk : GK X ps (pc + 2) k) : GK X ps pc (o_istore i k) := fun ls st S hr => by
  obtain ⟨x, st, rfl, r1⟩ := tI_el hr
  obtain ⟨hm, hw⟩ := hk _ _ _ r1
  rw [← hn] at hb
  exact ⟨hm, fun H locs lm a1 a2 a3 a4 a5 => lv_istore h.1.ex h.by hd (lh_has a3) hb rfl fun lm' hl => hw H locs lm' a1 a2 (lh_st (v := .int x) a3 hb hl) a4 a5⟩
theorem gk_lstore_n {j : Fin 4} {i n : Nat} (h : XM X cc own) (hd : decode cc pc = .ok (.lstore_n j, 1)) (hi : (j : Nat) = i) (hn : xn X = n) (hb : i + 1 < n) (hk : GK X ps (pc + 1) k) : GK X ps pc (o_lstore i k) := fun ls st S hr => by
  obtain ⟨x, st, rfl, r1⟩ := tL_el hr
  obtain ⟨hm, hw⟩ := hk _ _ _ r1
  rw [← hn] at hb
  exact ⟨hm, fun H locs lm a1 a2 a3 a4 a5 => lv_lstore_n h.1.ex h.by hd hi (lh_has a3) hb rfl fun lm' hl => hw H locs lm' a1 a2 (lh_stL (v := .long x) a3 hb hl) a4 a5⟩
theorem gk_lstore {i n : Nat} (h : XM X cc own) (hd : decode cc pc = .ok (.lstore i, 2)) (hn : xn X = n) (hb : i + 1 < n) (hk : GK X ps (pc + 2) k) : GK X ps pc (o_lstore i k) := fun ls st S hr => by
  obtain ⟨x, st, rfl, r1⟩ := tL_el hr
  obtain ⟨hm, hw⟩ := hk _ _ _ r1
  rw [← hn] at hb
  exact ⟨hm, fun H locs lm a1 a2 a3 a4 a5 => lv_lstore h.1.ex h.by hd (lh_has a3) hb rfl fun lm' hl => hw H locs lm' a1 a2 (lh_stL (v := .long x) a3 hb hl) a4 a5⟩
theorem gk_astore_n {j : Fin 4} {i n : Nat} (h : XM X cc own) (hd : decode cc pc = .ok (.astore_n j, 1)) (hi : (j : Nat) = i) (hn : xn X = n) (hb : i < n) (hk : GK X ps (pc + 1) k) : GK X ps pc (o_astore i k) := fun ls st S hr => by
  obtain ⟨x, st, rfl, r1⟩ := tR_el hr
  obtain ⟨hm, hw⟩ := hk _ _ _ r1
  rw [← hn] at hb
  refine ⟨hm, fun H locs lm a1 a2 a3 a4 a5 => ?_⟩
  cases x with
  | zero => exact lv_astore_nN h.1.ex h.by hd hi (lh_has a3) hb rfl fun lm' hl => hw H locs lm' a1 a2 (lh_st (v := .ref 0) a3 hb hl) a4 a5
  | succ x => exact lv_astore_n h.1.ex h.by hd hi (lh_has a3) hb rfl fun lm' hl => hw H locs lm' a1 a2 (lh_st (v := .ref (x + 1)) a3 hb hl) a4 a5
theorem gk_astore {i n : Nat} (h : XM X cc own) (hd : decode cc pc = .ok (.astore i, 2)) (hn : xn X = n) (hb : i < n) (hk : GK X ps (pc + 2) k) : GK X ps pc (o_astore i k) := fun ls st S hr => by
  obtain ⟨x, st, rfl, r1⟩ := tR_el hr
  obtain ⟨hm, hw⟩ := hk _ _ _ r1
  rw [← hn] at hb
  refine ⟨hm, fun H locs lm a1 a2 a3 a4 a5 => ?_⟩
  cases x with
  | zero => exact lv_astoreN h.1.ex h.by hd (lh_has a3) hb rfl fun lm' hl => hw H locs lm' a1 a2 (lh_st (v := .ref 0) a3 hb hl) a4 a5
  | succ x => exact lv_astore h.1.ex h.by hd (lh_has a3) hb rfl fun lm' hl => hw H locs lm' a1 a2 (lh_st (v := .ref (x + 1)) a3 hb hl) a4 a5
theorem gk_iinc {i n : Nat} {z : Int} {v : Int32} (h : XM X cc own) (hd : decode cc pc = .ok (.iinc i z, 3)) (hv : Int32.ofInt z = v) (hn : xn X = n) (hb : i < n) (hk : GK X ps (pc + 3) k) : GK X ps pc (o_iinc i v k) := fun ls st S hr => by
  obtain ⟨x, hx, r1⟩ := vI_el hr
  obtain ⟨hm, hw⟩ := hk _ _ _ r1
  rw [← hn] at hb
  have hne : nth ls i ≠ .null := by rw [hx]; simp
  obtain ⟨q, hq⟩ := List.getElem?_of_mem (lvl_mem (base := xb X) (ad := xS X) hne)
  rw [hx] at hq
  exact ⟨hm, fun H locs lm a1 a2 a3 a4 a5 => lv_iinc h.1.ex h.by hd (lh_has a3) (k := q) hq (by rw [hv]) hb rfl fun lm' hl => hw H locs lm' a1 a2 (lh_st (v := .int (x + v)) a3 hb hl) a4 a5⟩
theorem gk_iadd (h : XM X cc own) (hd : decode cc pc = .ok (.iadd, 1)) (hk : GK X ps (pc + 1) k) : GK X ps pc (o_i2 (fun x y => x + y) k) := by
  intro ls st S hr
  obtain ⟨y, st, rfl, r1⟩ := tI_el hr
  obtain ⟨x, st, rfl, r2⟩ := tI_el r1
  obtain ⟨hm, hw⟩ := hk _ _ _ r2
  exact ⟨hm, fun H locs lm a1 a2 a3 a4 a5 => lv_iadd h.1.ex h.by hd (hw H locs lm a1 a2 a3 a4 a5)⟩
theorem gk_isub (h : XM X cc own) (hd : decode cc pc = .ok (.isub, 1)) (hk : GK X ps (pc + 1) k) : GK X ps pc (o_i2 (fun x y => x - y) k) := by
  intro ls st S hr
  obtain ⟨y, st, rfl, r1⟩ := tI_el hr
  obtain ⟨x, st, rfl, r2⟩ := tI_el r1
  obtain ⟨hm, hw⟩ := hk _ _ _ r2
  exact ⟨hm, fun H locs lm a1 a2 a3 a4 a5 => lv_isub h.1.ex h.by hd (hw H locs lm a1 a2 a3 a4 a5)⟩
theorem gk_imul (h : XM X cc own) (hd : decode cc pc = .ok (.imul, 1)) (hk : GK X ps (pc + 1) k) : GK X ps pc (o_i2 (fun x y => x * y) k) := by
  intro ls st S hr
  obtain ⟨y, st, rfl, r1⟩ := tI_el hr
  obtain ⟨x, st, rfl, r2⟩ := tI_el r1
  obtain ⟨hm, hw⟩ := hk _ _ _ r2
  exact ⟨hm, fun H locs lm a1 a2 a3 a4 a5 => lv_imul h.1.ex h.by hd (hw H locs lm a1 a2 a3 a4 a5)⟩
theorem gk_iand (h : XM X cc own) (hd : decode cc pc = .ok (.iand, 1)) (hk : GK X ps (pc + 1) k) : GK X ps pc (o_i2 (fun x y => x &&& y) k) := by
  intro ls st S hr
  obtain ⟨y, st, rfl, r1⟩ := tI_el hr
  obtain ⟨x, st, rfl, r2⟩ := tI_el r1
  obtain ⟨hm, hw⟩ := hk _ _ _ r2
  exact ⟨hm, fun H locs lm a1 a2 a3 a4 a5 => lv_iand h.1.ex h.by hd (hw H locs lm a1 a2 a3 a4 a5)⟩
theorem gk_ior (h : XM X cc own) (hd : decode cc pc = .ok (.ior, 1)) (hk : GK X ps (pc + 1) k) : GK X ps pc (o_i2 (fun x y => x ||| y) k) := by
  intro ls st S hr
  obtain ⟨y, st, rfl, r1⟩ := tI_el hr
  obtain ⟨x, st, rfl, r2⟩ := tI_el r1
  obtain ⟨hm, hw⟩ := hk _ _ _ r2
  exact ⟨hm, fun H locs lm a1 a2 a3 a4 a5 => lv_ior h.1.ex h.by hd (hw H locs lm a1 a2 a3 a4 a5)⟩
theorem gk_ishl (h : XM X cc own) (hd : decode cc pc = .ok (.ishl, 1)) (hk : GK X ps (pc + 1) k) : GK X ps pc (o_i2 (fun x y => x <<< (y &&& 31)) k) := by
  intro ls st S hr
  obtain ⟨y, st, rfl, r1⟩ := tI_el hr
  obtain ⟨x, st, rfl, r2⟩ := tI_el r1
  obtain ⟨hm, hw⟩ := hk _ _ _ r2
  exact ⟨hm, fun H locs lm a1 a2 a3 a4 a5 => lv_ishl h.1.ex h.by hd (hw H locs lm a1 a2 a3 a4 a5)⟩
theorem gk_ishr (h : XM X cc own) (hd : decode cc pc = .ok (.ishr, 1)) (hk : GK X ps (pc + 1) k) : GK X ps pc (o_i2 (fun x y => x >>> (y &&& 31)) k) := by
  intro ls st S hr
  obtain ⟨y, st, rfl, r1⟩ := tI_el hr
  obtain ⟨x, st, rfl, r2⟩ := tI_el r1
  obtain ⟨hm, hw⟩ := hk _ _ _ r2
  exact ⟨hm, fun H locs lm a1 a2 a3 a4 a5 => lv_ishr h.1.ex h.by hd (hw H locs lm a1 a2 a3 a4 a5)⟩
theorem gk_ladd (h : XM X cc own) (hd : decode cc pc = .ok (.ladd, 1)) (hk : GK X ps (pc + 1) k) : GK X ps pc (o_l2 (fun x y => x + y) k) := by
  intro ls st S hr
  obtain ⟨y, st, rfl, r1⟩ := tL_el hr
  obtain ⟨x, st, rfl, r2⟩ := tL_el r1
  obtain ⟨hm, hw⟩ := hk _ _ _ r2
  exact ⟨hm, fun H locs lm a1 a2 a3 a4 a5 => lv_ladd h.1.ex h.by hd (hw H locs lm a1 a2 a3 a4 a5)⟩
theorem gk_lsub (h : XM X cc own) (hd : decode cc pc = .ok (.lsub, 1)) (hk : GK X ps (pc + 1) k) : GK X ps pc (o_l2 (fun x y => x - y) k) := by
  intro ls st S hr
  obtain ⟨y, st, rfl, r1⟩ := tL_el hr
  obtain ⟨x, st, rfl, r2⟩ := tL_el r1
  obtain ⟨hm, hw⟩ := hk _ _ _ r2
  exact ⟨hm, fun H locs lm a1 a2 a3 a4 a5 => lv_lsub h.1.ex h.by hd (hw H locs lm a1 a2 a3 a4 a5)⟩
theorem gk_lmul (h : XM X cc own) (hd : decode cc pc = .ok (.lmul, 1)) (hk : GK X ps (pc + 1) k) : GK X ps pc (o_l2 (fun x y => x * y) k) := by
  intro ls st S hr
  obtain ⟨y, st, rfl, r1⟩ := tL_el hr
  obtain ⟨x, st, rfl, r2⟩ := tL_el r1
  obtain ⟨hm, hw⟩ := hk _ _ _ r2
  exact ⟨hm, fun H locs lm a1 a2 a3 a4 a5 => lv_lmul h.1.ex h.by hd (hw H locs lm a1 a2 a3 a4 a5)⟩
theorem gk_land (h : XM X cc own) (hd : decode cc pc = .ok (.land, 1)) (hk : GK X ps (pc + 1) k) : GK X ps pc (o_l2 (fun x y => x &&& y) k) := by
  intro ls st S hr
  obtain ⟨y, st, rfl, r1⟩ := tL_el hr
  obtain ⟨x, st, rfl, r2⟩ := tL_el r1
  obtain ⟨hm, hw⟩ := hk _ _ _ r2
  exact ⟨hm, fun H locs lm a1 a2 a3 a4 a5 => lv_land h.1.ex h.by hd (hw H locs lm a1 a2 a3 a4 a5)⟩
theorem gk_lor (h : XM X cc own) (hd : decode cc pc = .ok (.lor, 1)) (hk : GK X ps (pc + 1) k) : GK X ps pc (o_l2 (fun x y => x ||| y) k) := by
  intro ls st S hr
  obtain ⟨y, st, rfl, r1⟩ := tL_el hr
  obtain ⟨x, st, rfl, r2⟩ := tL_el r1
  obtain ⟨hm, hw⟩ := hk _ _ _ r2
  exact ⟨hm, fun H locs lm a1 a2 a3 a4 a5 => lv_lor h.1.ex h.by hd (hw H locs lm a1 a2 a3 a4 a5)⟩
theorem gk_lxor (h : XM X cc own) (hd : decode cc pc = .ok (.lxor, 1)) (hk : GK X ps (pc + 1) k) : GK X ps pc (o_l2 (fun x y => x ^^^ y) k) := by
  intro ls st S hr
  obtain ⟨y, st, rfl, r1⟩ := tL_el hr
  obtain ⟨x, st, rfl, r2⟩ := tL_el r1
  obtain ⟨hm, hw⟩ := hk _ _ _ r2
  exact ⟨hm, fun H locs lm a1 a2 a3 a4 a5 => lv_lxor h.1.ex h.by hd (hw H locs lm a1 a2 a3 a4 a5)⟩
theorem gk_idiv (h : XM X cc own) (hd : decode cc pc = .ok (.idiv, 1)) (hk : GK X ps (pc + 1) k) : GK X ps pc (o_i2z (fun x y => x / y) k) := by
  intro ls st S hr
  obtain ⟨y, st, rfl, r1⟩ := tI_el hr
  obtain ⟨x, st, rfl, r2⟩ := tI_el r1
  obtain ⟨hne, r3⟩ := fi_el r2
  obtain ⟨hm, hw⟩ := hk _ _ _ r3
  exact ⟨hm, fun H locs lm a1 a2 a3 a4 a5 => lv_idiv h.1.ex h.by hd hne (hw H locs lm a1 a2 a3 a4 a5)⟩
theorem gk_irem (h : XM X cc own) (hd : decode cc pc = .ok (.irem, 1)) (hk : GK X ps (pc + 1) k) : GK X ps pc (o_i2z (fun x y => x - x / y * y) k) := by
  intro ls st S hr
  obtain ⟨y, st, rfl, r1⟩ := tI_el hr
  obtain ⟨x, st, rfl, r2⟩ := tI_el r1
  obtain ⟨hne, r3⟩ := fi_el r2
  obtain ⟨hm, hw⟩ := hk _ _ _ r3
  exact ⟨hm, fun H locs lm a1 a2 a3 a4 a5 => lv_irem h.1.ex h.by hd hne (hw H locs lm a1 a2 a3 a4 a5)⟩
theorem gk_ldiv (h : XM X cc own) (hd : decode cc pc = .ok (.ldiv, 1)) (hk : GK X ps (pc + 1) k) : GK X ps pc (o_l2z (fun x y => x / y) k) := by
  intro ls st S hr
  obtain ⟨y, st, rfl, r1⟩ := tL_el hr
  obtain ⟨x, st, rfl, r2⟩ := tL_el r1
  obtain ⟨hne, r3⟩ := fi_el r2
  obtain ⟨hm, hw⟩ := hk _ _ _ r3
  exact ⟨hm, fun H locs lm a1 a2 a3 a4 a5 => lv_ldiv h.1.ex h.by hd hne (hw H locs lm a1 a2 a3 a4 a5)⟩
theorem gk_lrem (h : XM X cc own) (hd : decode cc pc = .ok (.lrem, 1)) (hk : GK X ps (pc + 1) k) : GK X ps pc (o_l2z (fun x y => x - x / y * y) k) := by
  intro ls st S hr
  obtain ⟨y, st, rfl, r1⟩ := tL_el hr
  obtain ⟨x, st, rfl, r2⟩ := tL_el r1
  obtain ⟨hne, r3⟩ := fi_el r2
  obtain ⟨hm, hw⟩ := hk _ _ _ r3
  exact ⟨hm, fun H locs lm a1 a2 a3 a4 a5 => lv_lrem h.1.ex h.by hd hne (hw H locs lm a1 a2 a3 a4 a5)⟩
theorem gk_lushr (h : XM X cc own) (hd : decode cc pc = .ok (.lushr, 1)) (hk : GK X ps (pc + 1) k) : GK X ps pc (o_lsh (fun x y => (x.toUInt64 >>> (y.toInt64.toUInt64 &&& Int64.toUInt64 63)).toInt64) k) := by
  intro ls st S hr
  obtain ⟨y, st, rfl, r1⟩ := tI_el hr
  obtain ⟨x, st, rfl, r2⟩ := tL_el r1
  obtain ⟨hm, hw⟩ := hk _ _ _ r2
  exact ⟨hm, fun H locs lm a1 a2 a3 a4 a5 => lv_lushr h.1.ex h.by hd rfl (hw H locs lm a1 a2 a3 a4 a5)⟩
theorem gk_lshl (h : XM X cc own) (hd : decode cc pc = .ok (.lshl, 1)) (hk : GK X ps (pc + 1) k) : GK X ps pc (o_lsh (fun x y => x <<< (y.toInt64 &&& 63)) k) := by
  intro ls st S hr
  obtain ⟨y, st, rfl, r1⟩ := tI_el hr
  obtain ⟨x, st, rfl, r2⟩ := tL_el r1
  obtain ⟨hm, hw⟩ := hk _ _ _ r2
  exact ⟨hm, fun H locs lm a1 a2 a3 a4 a5 => lv_lshl h.1.ex h.by hd rfl (hw H locs lm a1 a2 a3 a4 a5)⟩
theorem gk_ineg (h : XM X cc own) (hd : decode cc pc = .ok (.ineg, 1)) (hk : GK X ps (pc + 1) k) : GK X ps pc (o_i1 (fun x => -x) k) := by
  intro ls st S hr
  obtain ⟨x, st, rfl, r1⟩ := tI_el hr
  obtain ⟨hm, hw⟩ := hk _ _ _ r1
  exact ⟨hm, fun H locs lm a1 a2 a3 a4 a5 => lv_ineg h.1.ex h.by hd (hw H locs lm a1 a2 a3 a4 a5)⟩
theorem gk_i2b (h : XM X cc own) (hd : decode cc pc = .ok (.i2b, 1)) (hk : GK X ps (pc + 1) k) : GK X ps pc (o_i1 (fun x => x.toInt8.toInt32) k) := by
  intro ls st S hr
  obtain ⟨x, st, rfl, r1⟩ := tI_el hr
  obtain ⟨hm, hw⟩ := hk _ _ _ r1
  exact ⟨hm, fun H locs lm a1 a2 a3 a4 a5 => lv_i2b h.1.ex h.by hd rfl (hw H locs lm a1 a2 a3 a4 a5)⟩
theorem gk_i2c (h : XM X cc own) (hd : decode cc pc = .ok (.i2c, 1)) (hk : GK X ps (pc + 1) k) : GK X ps pc (o_i1 (fun x => (x.toUInt32 % 65536).toInt32) k) := by
  intro ls st S hr
  obtain ⟨x, st, rfl, r1⟩ := tI_el hr
  obtain ⟨hm, hw⟩ := hk _ _ _ r1
  exact ⟨hm, fun H locs lm a1 a2 a3 a4 a5 => lv_i2c h.1.ex h.by hd rfl (hw H locs lm a1 a2 a3 a4 a5)⟩
theorem gk_i2l (h : XM X cc own) (hd : decode cc pc = .ok (.i2l, 1)) (hk : GK X ps (pc + 1) k) : GK X ps pc (o_i2l k) := by
  intro ls st S hr
  obtain ⟨x, st, rfl, r1⟩ := tI_el hr
  obtain ⟨hm, hw⟩ := hk _ _ _ r1
  exact ⟨hm, fun H locs lm a1 a2 a3 a4 a5 => lv_i2l h.1.ex h.by hd rfl (hw H locs lm a1 a2 a3 a4 a5)⟩
theorem gk_l2i (h : XM X cc own) (hd : decode cc pc = .ok (.l2i, 1)) (hk : GK X ps (pc + 1) k) : GK X ps pc (o_l2i k) := by
  intro ls st S hr
  obtain ⟨x, st, rfl, r1⟩ := tL_el hr
  obtain ⟨hm, hw⟩ := hk _ _ _ r1
  exact ⟨hm, fun H locs lm a1 a2 a3 a4 a5 => lv_l2i h.1.ex h.by hd rfl (hw H locs lm a1 a2 a3 a4 a5)⟩
theorem gk_lcmp (h : XM X cc own) (hd : decode cc pc = .ok (.lcmp, 1)) (hk : GK X ps (pc + 1) k) : GK X ps pc (o_lcmp k) := by
  intro ls st S hr
  obtain ⟨y, st, rfl, r1⟩ := tL_el hr
  obtain ⟨x, st, rfl, r2⟩ := tL_el r1
  obtain ⟨hm, hw⟩ := hk _ _ _ r2
  exact ⟨hm, fun H locs lm a1 a2 a3 a4 a5 => W.lcmp h.1.ex h.by hd (hw H locs lm a1 a2 a3 a4 a5)⟩
theorem gk_dup (h : XM X cc own) (hd : decode cc pc = .ok (.dup, 1)) (hk : GK X ps (pc + 1) k) : GK X ps pc (o_dup k) := by
  intro ls st S hr
  obtain ⟨v, st, rfl, hc, r1⟩ := t1_el hr
  obtain ⟨hm, hw⟩ := hk _ _ _ r1
  exact ⟨hm, fun H locs lm a1 a2 a3 a4 a5 => lv_dup h.1.ex h.by hd hc (hw H locs lm a1 a2 a3 a4 a5)⟩
theorem gk_dup2 (h : XM X cc own) (hd : decode cc pc = .ok (.dup2, 1)) (hk : GK X ps (pc + 1) k) : GK X ps pc (o_dup2 k) := by
  intro ls st S hr
  obtain ⟨v, st, rfl, hc, r1⟩ := t1_el hr
  obtain ⟨w, st, rfl, hc2, r2⟩ := t1_el r1
  obtain ⟨hm, hw⟩ := hk _ _ _ r2
  exact ⟨hm, fun H locs lm a1 a2 a3 a4 a5 => lv_dup2_11 h.1.ex h.by hd hc hc2 (hw H locs lm a1 a2 a3 a4 a5)⟩
theorem gk_pop (h : XM X cc own) (hd : decode cc pc = .ok (.pop, 1)) (hk : GK X ps (pc + 1) k) : GK X ps pc (o_pop k) := by
  intro ls st S hr
  obtain ⟨v, st, rfl, hc, r1⟩ := t1_el hr
  obtain ⟨hm, hw⟩ := hk _ _ _ r1
  exact ⟨hm, fun H locs lm a1 a2 a3 a4 a5 => lv_pop h.1.ex h.by hd hc (hw H locs lm a1 a2 a3 a4 a5)⟩
theorem gk_goto {off : Int} {tgt : Nat} (h : XM X cc own) (hd : decode cc pc = .ok (.goto off, 3)) (ht : (pc : Int) + off = (tgt : Int)) (hk : GK X ps tgt k) : GK X ps pc k := fun ls st S hr => by
  obtain ⟨hm, hw⟩ := hk _ _ _ hr
  exact ⟨hm, fun H locs lm a1 a2 a3 a4 a5 => lv_goto h.1.ex h.by hd ht (hw H locs lm a1 a2 a3 a4 a5)⟩
theorem gk_ifeq {off : Int} {tgt : Nat} (h : XM X cc own) (hd : decode cc pc = .ok (.ifCond .eq off, 3)) (ht : (pc : Int) + off = (tgt : Int)) (hkt : GK X ps tgt kt) (hkf : GK X ps (pc + 3) kf) : GK X ps pc (o_if0 kt kf) := by
  intro ls st S hr
  obtain ⟨x, st, rfl, r1⟩ := tI_el hr
  by_cases hc : x = 0
  · have r9 := r1
    rw [if_pos hc] at r9
    obtain ⟨hm, hw⟩ := hkt _ _ _ r9
    exact ⟨hm, fun H locs lm a1 a2 a3 a4 a5 => lv_if_eq h.1.ex h.by hd ht (fun q => (hw H locs lm a1 a2 a3 a4 a5)) (fun q => absurd hc (q))⟩
  · have r9 := r1
    rw [if_neg hc] at r9
    obtain ⟨hm, hw⟩ := hkf _ _ _ r9
    exact ⟨hm, fun H locs lm a1 a2 a3 a4 a5 => lv_if_eq h.1.ex h.by hd ht (fun q => absurd (q) hc) (fun q => (hw H locs lm a1 a2 a3 a4 a5))⟩
theorem gk_ifne {off : Int} {tgt : Nat} (h : XM X cc own) (hd : decode cc pc = .ok (.ifCond .ne off, 3)) (ht : (pc : Int) + off = (tgt : Int)) (hkt : GK X ps tgt kt) (hkf : GK X ps (pc + 3) kf) : GK X ps pc (o_if0 kf kt) := by
  intro ls st S hr
  obtain ⟨x, st, rfl, r1⟩ := tI_el hr
  by_cases hc : x = 0
  · have r9 := r1
    rw [if_pos hc] at r9
    obtain ⟨hm, hw⟩ := hkf _ _ _ r9
    exact ⟨hm, fun H locs lm a1 a2 a3 a4 a5 => lv_if_ne h.1.ex h.by hd ht (fun q => absurd hc (q)) (fun q => (hw H locs lm a1 a2 a3 a4 a5))⟩
  · have r9 := r1
    rw [if_neg hc] at r9
    obtain ⟨hm, hw⟩ := hkt _ _ _ r9
    exact ⟨hm, fun H locs lm a1 a2 a3 a4 a5 => lv_if_ne h.1.ex h.by hd ht (fun q => (hw H locs lm a1 a2 a3 a4 a5)) (fun q => absurd (q) hc)⟩
theorem gk_iflt {off : Int} {tgt : Nat} (h : XM X cc own) (hd : decode cc pc = .ok (.ifCond .lt off, 3)) (ht : (pc : Int) + off = (tgt : Int)) (hkt : GK X ps tgt kt) (hkf : GK X ps (pc + 3) kf) : GK X ps pc (o_ifn kt kf) := by
  intro ls st S hr
  obtain ⟨x, st, rfl, r1⟩ := tI_el hr
  by_cases hc : x < 0
  · have r9 := r1
    rw [if_pos hc] at r9
    obtain ⟨hm, hw⟩ := hkt _ _ _ r9
    exact ⟨hm, fun H locs lm a1 a2 a3 a4 a5 => lv_if_lt h.1.ex h.by hd ht (fun q => (hw H locs lm a1 a2 a3 a4 a5)) (fun q => absurd hc (q))⟩
  · have r9 := r1
    rw [if_neg hc] at r9
    obtain ⟨hm, hw⟩ := hkf _ _ _ r9
    exact ⟨hm, fun H locs lm a1 a2 a3 a4 a5 => lv_if_lt h.1.ex h.by hd ht (fun q => absurd (q) hc) (fun q => (hw H locs lm a1 a2 a3 a4 a5))⟩
theorem gk_ifge {off : Int} {tgt : Nat} (h : XM X cc own) (hd : decode cc pc = .ok (.ifCond .ge off, 3)) (ht : (pc : Int) + off = (tgt : Int)) (hkt : GK X ps tgt kt) (hkf : GK X ps (pc + 3) kf) : GK X ps pc (o_ifn kf kt) := by
  intro ls st S hr
  obtain ⟨x, st, rfl, r1⟩ := tI_el hr
  by_cases hc : x < 0
  · have r9 := r1
    rw [if_pos hc] at r9
    obtain ⟨hm, hw⟩ := hkf _ _ _ r9
    exact ⟨hm, fun H locs lm a1 a2 a3 a4 a5 => lv_if_ge h.1.ex h.by hd ht (fun q => absurd hc (Int32.not_lt.mpr q)) (fun q => (hw H locs lm a1 a2 a3 a4 a5))⟩
  · have r9 := r1
    rw [if_neg hc] at r9
    obtain ⟨hm, hw⟩ := hkt _ _ _ r9
    exact ⟨hm, fun H locs lm a1 a2 a3 a4 a5 => lv_if_ge h.1.ex h.by hd ht (fun q => (hw H locs lm a1 a2 a3 a4 a5)) (fun q => absurd (Int32.not_le.mp q) hc)⟩
theorem gk_ifgt {off : Int} {tgt : Nat} (h : XM X cc own) (hd : decode cc pc = .ok (.ifCond .gt off, 3)) (ht : (pc : Int) + off = (tgt : Int)) (hkt : GK X ps tgt kt) (hkf : GK X ps (pc + 3) kf) : GK X ps pc (o_ifp kt kf) := by
  intro ls st S hr
  obtain ⟨x, st, rfl, r1⟩ := tI_el hr
  by_cases hc : 0 < x
  · have r9 := r1
    rw [if_pos hc] at r9
    obtain ⟨hm, hw⟩ := hkt _ _ _ r9
    exact ⟨hm, fun H locs lm a1 a2 a3 a4 a5 => lv_if_gt h.1.ex h.by hd ht (fun q => (hw H locs lm a1 a2 a3 a4 a5)) (fun q => absurd hc (q))⟩
  · have r9 := r1
    rw [if_neg hc] at r9
    obtain ⟨hm, hw⟩ := hkf _ _ _ r9
    exact ⟨hm, fun H locs lm a1 a2 a3 a4 a5 => lv_if_gt h.1.ex h.by hd ht (fun q => absurd (q) hc) (fun q => (hw H locs lm a1 a2 a3 a4 a5))⟩
theorem gk_ifle {off : Int} {tgt : Nat} (h : XM X cc own) (hd : decode cc pc = .ok (.ifCond .le off, 3)) (ht : (pc : Int) + off = (tgt : Int)) (hkt : GK X ps tgt kt) (hkf : GK X ps (pc + 3) kf) : GK X ps pc (o_ifp kf kt) := by
  intro ls st S hr
  obtain ⟨x, st, rfl, r1⟩ := tI_el hr
  by_cases hc : 0 < x
  · have r9 := r1
    rw [if_pos hc] at r9
    obtain ⟨hm, hw⟩ := hkf _ _ _ r9
    exact ⟨hm, fun H locs lm a1 a2 a3 a4 a5 => lv_if_le h.1.ex h.by hd ht (fun q => absurd hc (Int32.not_lt.mpr q)) (fun q => (hw H locs lm a1 a2 a3 a4 a5))⟩
  · have r9 := r1
    rw [if_neg hc] at r9
    obtain ⟨hm, hw⟩ := hkt _ _ _ r9
    exact ⟨hm, fun H locs lm a1 a2 a3 a4 a5 => lv_if_le h.1.ex h.by hd ht (fun q => (hw H locs lm a1 a2 a3 a4 a5)) (fun q => absurd (Int32.not_le.mp q) hc)⟩
theorem gk_icmpeq {off : Int} {tgt : Nat} (h : XM X cc own) (hd : decode cc pc = .ok (.if_icmp .eq off, 3)) (ht : (pc : Int) + off = (tgt : Int)) (hkt : GK X ps tgt kt) (hkf : GK X ps (pc + 3) kf) : GK X ps pc (o_ieq kt kf) := by
  intro ls st S hr
  obtain ⟨y, st, rfl, r1⟩ := tI_el hr
  obtain ⟨x, st, rfl, r2⟩ := tI_el r1
  by_cases hc : x = y
  · have r9 := r2
    rw [if_pos hc] at r9
    obtain ⟨hm, hw⟩ := hkt _ _ _ r9
    exact ⟨hm, fun H locs lm a1 a2 a3 a4 a5 => lv_icmp_eq h.1.ex h.by hd ht (fun q => (hw H locs lm a1 a2 a3 a4 a5)) (fun q => absurd hc (q))⟩
  · have r9 := r2
    rw [if_neg hc] at r9
    obtain ⟨hm, hw⟩ := hkf _ _ _ r9
    exact ⟨hm, fun H locs lm a1 a2 a3 a4 a5 => lv_icmp_eq h.1.ex h.by hd ht (fun q => absurd (q) hc) (fun q => (hw H locs lm a1 a2 a3 a4 a5))⟩
theorem gk_icmpne {off : Int} {tgt : Nat} (h : XM X cc own) (hd : decode cc pc = .ok (.if_icmp .ne off, 3)) (ht : (pc : Int) + off = (tgt : Int)) (hkt : GK X ps tgt kt) (hkf : GK X ps (pc + 3) kf) : GK X ps pc (o_ieq kf kt) := by
  intro ls st S hr
  obtain ⟨y, st, rfl, r1⟩ := tI_el hr
  obtain ⟨x, st, rfl, r2⟩ := tI_el r1
  by_cases hc : x = y
  · have r9 := r2
    rw [if_pos hc] at r9
    obtain ⟨hm, hw⟩ := hkf _ _ _ r9
    exact ⟨hm, fun H locs lm a1 a2 a3 a4 a5 => lv_icmp_ne h.1.ex h.by hd ht (fun q => absurd hc (q)) (fun q => (hw H locs lm a1 a2 a3 a4 a5))⟩
  · have r9 := r2
    rw [if_neg hc] at r9
    obtain ⟨hm, hw⟩ := hkt _ _ _ r9
    exact ⟨hm, fun H locs lm a1 a2 a3 a4 a5 => lv_icmp_ne h.1.ex h.by hd ht (fun q => (hw H locs lm a1 a2 a3 a4 a5)) (fun q => absurd (q) hc)⟩
theorem gk_icmplt {off : Int} {tgt : Nat} (h : XM X cc own) (hd : decode cc pc = .ok (.if_icmp .lt off, 3)) (ht : (pc : Int) + off = (tgt : Int)) (hkt : GK X ps tgt kt) (hkf : GK X ps (pc + 3) kf) : GK X ps pc (o_ilt kt kf) := by
  intro ls st S hr
  obtain ⟨y, st, rfl, r1⟩ := tI_el hr
  obtain ⟨x, st, rfl, r2⟩ := tI_el r1
  by_cases hc : x < y
  · have r9 := r2
    rw [if_pos hc] at r9
    obtain ⟨hm, hw⟩ := hkt _ _ _ r9
    exact ⟨hm, fun H locs lm a1 a2 a3 a4 a5 => lv_icmp_lt h.1.ex h.by hd ht (fun q => (hw H locs lm a1 a2 a3 a4 a5)) (fun q => absurd hc (q))⟩
  · have r9 := r2
    rw [if_neg hc] at r9
    obtain ⟨hm, hw⟩ := hkf _ _ _ r9
    exact ⟨hm, fun H locs lm a1 a2 a3 a4 a5 => lv_icmp_lt h.1.ex h.by hd ht (fun q => absurd (q) hc) (fun q => (hw H locs lm a1 a2 a3 a4 a5))⟩
theorem gk_icmpge {off : Int} {tgt : Nat} (h : XM X cc own) (hd : decode cc pc = .ok (.if_icmp .ge off, 3)) (ht : (pc : Int) + off = (tgt : Int)) (hkt : GK X ps tgt kt) (hkf : GK X ps (pc + 3) kf) : GK X ps pc (o_ilt kf kt) := by
  intro ls st S hr
  obtain ⟨y, st, rfl, r1⟩ := tI_el hr
  obtain ⟨x, st, rfl, r2⟩ := tI_el r1
  by_cases hc : x < y
  · have r9 := r2
    rw [if_pos hc] at r9
    obtain ⟨hm, hw⟩ := hkf _ _ _ r9
    exact ⟨hm, fun H locs lm a1 a2 a3 a4 a5 => lv_icmp_ge h.1.ex h.by hd ht (fun q => absurd hc (Int32.not_lt.mpr q)) (fun q => (hw H locs lm a1 a2 a3 a4 a5))⟩
  · have r9 := r2
    rw [if_neg hc] at r9
    obtain ⟨hm, hw⟩ := hkt _ _ _ r9
    exact ⟨hm, fun H locs lm a1 a2 a3 a4 a5 => lv_icmp_ge h.1.ex h.by hd ht (fun q => (hw H locs lm a1 a2 a3 a4 a5)) (fun q => absurd (Int32.not_le.mp q) hc)⟩
theorem gk_icmpgt {off : Int} {tgt : Nat} (h : XM X cc own) (hd : decode cc pc = .ok (.if_icmp .gt off, 3)) (ht : (pc : Int) + off = (tgt : Int)) (hkt : GK X ps tgt kt) (hkf : GK X ps (pc + 3) kf) : GK X ps pc (o_igt kt kf) := by
  intro ls st S hr
  obtain ⟨y, st, rfl, r1⟩ := tI_el hr
  obtain ⟨x, st, rfl, r2⟩ := tI_el r1
  by_cases hc : y < x
  · have r9 := r2
    rw [if_pos hc] at r9
    obtain ⟨hm, hw⟩ := hkt _ _ _ r9
    exact ⟨hm, fun H locs lm a1 a2 a3 a4 a5 => lv_icmp_gt h.1.ex h.by hd ht (fun q => (hw H locs lm a1 a2 a3 a4 a5)) (fun q => absurd hc (q))⟩
  · have r9 := r2
    rw [if_neg hc] at r9
    obtain ⟨hm, hw⟩ := hkf _ _ _ r9
    exact ⟨hm, fun H locs lm a1 a2 a3 a4 a5 => lv_icmp_gt h.1.ex h.by hd ht (fun q => absurd (q) hc) (fun q => (hw H locs lm a1 a2 a3 a4 a5))⟩
theorem gk_icmple {off : Int} {tgt : Nat} (h : XM X cc own) (hd : decode cc pc = .ok (.if_icmp .le off, 3)) (ht : (pc : Int) + off = (tgt : Int)) (hkt : GK X ps tgt kt) (hkf : GK X ps (pc + 3) kf) : GK X ps pc (o_igt kf kt) := by
  intro ls st S hr
  obtain ⟨y, st, rfl, r1⟩ := tI_el hr
  obtain ⟨x, st, rfl, r2⟩ := tI_el r1
  by_cases hc : y < x
  · have r9 := r2
    rw [if_pos hc] at r9
    obtain ⟨hm, hw⟩ := hkf _ _ _ r9
    exact ⟨hm, fun H locs lm a1 a2 a3 a4 a5 => lv_icmp_le h.1.ex h.by hd ht (fun q => absurd hc (Int32.not_lt.mpr q)) (fun q => (hw H locs lm a1 a2 a3 a4 a5))⟩
  · have r9 := r2
    rw [if_neg hc] at r9
    obtain ⟨hm, hw⟩ := hkt _ _ _ r9
    exact ⟨hm, fun H locs lm a1 a2 a3 a4 a5 => lv_icmp_le h.1.ex h.by hd ht (fun q => (hw H locs lm a1 a2 a3 a4 a5)) (fun q => absurd (Int32.not_le.mp q) hc)⟩
end GKO
