/-! the rows of the heap -/
theorem W_sz {p : Program} {l : Launch} {e : Env} {R : Room} {s : State} {m : MethodId} {args : Array Value} {below : List Frame} {meth : Method} {c : Code} {H : Heap} {locs : List Loc} {cells slots : Nat} {Q : State → Prop} {g : JFrame} (k : H.size ≤ s.heap.size + cells → W p l e R s m args below meth c H locs cells slots Q g) : W p l e R s m args below meth c H locs cells slots Q g :=
  fun T hT X => k (hT ▸ X.heapSize) T hT X
/-- a class by its number: its fields as the tables have them -/
def CK (c : Nat) (C : String) (T : u_T) : Prop := vwCl[c]? = some (C, T, nC c) ∧ c < 100 ∧ (∀ w ∈ u_ws C T (nC c), w ∈ T0) ∧ (∀ k, k < nC c → parseFieldDescriptor (T k).2.2.1 = some (tyC c k)) ∧ (∀ a, a < nC c → ∀ b, b < nC c → a ≠ b → (T a).2.1 ≠ (T b).2.1)
theorem ce_obj {base : Nat} {ck : Nat → ClassId} {S : St} {a c : Nat} (hk : gK S a = c) (hc : c < 100) : ce base ck S a = .inr (c, fl base S a c) := by
  unfold ce; rw [hk, if_pos hc]
theorem ce_arr {base : Nat} {ck : Nat → ClassId} {S : St} {a t : Nat} (hk : gK S a = 100 + t) : ce base ck S a = .inl (ck t, (gN S a, af base S a t)) := by
  unfold ce; rw [hk, if_neg (by omega), Nat.add_sub_cancel_left]
theorem fl_get {base : Nat} {S : St} {a c f : Nat} (hf : f < nC c) : (fl base S a c)[f]? = some (fv base S a (tyC c f) f) := by
  unfold fl; rw [List.getElem?_map, List.getElem?_range hf]; rfl
theorem fl_len (base : Nat) (S : St) (a c : Nat) : (fl base S a c).length = nC c := by simp [fl]
theorem ce_cong {base : Nat} {ck : Nat → ClassId} {S S' : St} {b : Nat} (h1 : gK S' b = gK S b) (h2 : gN S' b = gN S b) (h3 : ∀ j, gI S' b j = gI S b j) (h4 : ∀ j, gL S' b j = gL S b j) (h5 : ∀ j, gR S' b j = gR S b j) : ce base ck S' b = ce base ck S b := by
  have e3 : gI S' b = gI S b := funext h3
  have e4 : gL S' b = gL S b := funext h4
  unfold ce
  rw [h1, h2]
  unfold fl af
  simp only [e3, e4, h5]
  have : ∀ ty k, fv base S' b ty k = fv base S b ty k := by
    intro ty k
    unfold fv
    simp only [h3, h4, h5]
  simp only [this]
theorem fl_set {base : Nat} {S S' : St} {a c f : Nat} {v : Value} (hv : fv base S' a (tyC c f) f = v) (h3 : ∀ j, j ≠ f → gI S' a j = gI S a j) (h4 : ∀ j, j ≠ f → gL S' a j = gL S a j) (h5 : ∀ j, j ≠ f → gR S' a j = gR S a j) : (fl base S a c).set f v = fl base S' a c := by
  apply List.ext_getElem?
  intro j
  rw [List.getElem?_set]
  by_cases hj : f = j
  · subst hj
    rw [if_pos rfl]
    by_cases hl : f < nC c
    · rw [if_pos (by rw [fl_len]; exact hl), fl_get hl, hv]
    · rw [if_neg (by rw [fl_len]; exact hl), List.getElem?_eq_none (by rw [fl_len]; omega)]
  · rw [if_neg hj]
    by_cases hl : j < nC c
    · rw [fl_get hl, fl_get hl]
      have e : j ≠ f := fun z => hj z.symm
      unfold fv
      simp only [h3 j e, h4 j e, h5 j e]
    · rw [List.getElem?_eq_none (by rw [fl_len]; omega), List.getElem?_eq_none (by rw [fl_len]; omega)]
section GKH
variable {X : Cx} {ps : Nat → Nat} {pc : Nat} {k kt kf : K} {cc : ByteArray} {own : String}
theorem xv_ref {a : Nat} (h : 0 < a) : xv X (.ref a) = .ref (xb X + a) := rv_pos h
theorem vp_inB {j : Int32} {n : Nat} (h : inB j n) : vp_in j n := vp_in_iff.mpr h
theorem gk_getI {c f i : Nat} {C : String} {T : u_T} (h : XM X cc own) (hc : CK c C T) (hf : f < nC c) (hv : ∀ base S a, fv base S a (tyC c f) f = .int (gI S a f)) (hd : decode cc pc = .ok (.getfield i, 3)) (hl : Cond.fieldLink own i (T f).1 (T f).2.1 (T f).2.2.1 ∈ T0) (hk : GK X ps (pc + 3) k) : GK X ps pc (o_getI c f k) := by
  intro ls st S hr
  obtain ⟨a, st, rfl, r1⟩ := tR_el hr
  obtain ⟨hka, r2⟩ := if_el r1
  obtain ⟨hm, hw⟩ := hk _ _ _ r2
  refine ⟨hm, fun H locs lm a1 a2 a3 a4 a5 => ?_⟩
  obtain ⟨p0, p1⟩ := a1.live hka (by have := hc.2.1; omega)
  have hw := hw H locs lm a1 a2 a3 a4 a5
  rw [List.map_cons, xv_ref p0]
  have he := wl_get (base := xb X) (ck := xk X) p0 p1
  rw [ce_obj hka hc.2.1] at he
  exact va_get h.1.ex h.by h.1.ts hc.2.2.1 h.ow h.1.tb.1 a1.1 (a - 1) he hc.1 f hf (h.1.ts _ hl) (fun _ z => z) (by rw [fl_get hf, hv]; rfl) hd hw
theorem gk_getL {c f i : Nat} {C : String} {T : u_T} (h : XM X cc own) (hc : CK c C T) (hf : f < nC c) (hv : ∀ base S a, fv base S a (tyC c f) f = .long (gL S a f)) (hd : decode cc pc = .ok (.getfield i, 3)) (hl : Cond.fieldLink own i (T f).1 (T f).2.1 (T f).2.2.1 ∈ T0) (hk : GK X ps (pc + 3) k) : GK X ps pc (o_getL c f k) := by
  intro ls st S hr
  obtain ⟨a, st, rfl, r1⟩ := tR_el hr
  obtain ⟨hka, r2⟩ := if_el r1
  obtain ⟨hm, hw⟩ := hk _ _ _ r2
  refine ⟨hm, fun H locs lm a1 a2 a3 a4 a5 => ?_⟩
  obtain ⟨p0, p1⟩ := a1.live hka (by have := hc.2.1; omega)
  have hw := hw H locs lm a1 a2 a3 a4 a5
  rw [List.map_cons, xv_ref p0]
  have he := wl_get (base := xb X) (ck := xk X) p0 p1
  rw [ce_obj hka hc.2.1] at he
  exact va_get h.1.ex h.by h.1.ts hc.2.2.1 h.ow h.1.tb.1 a1.1 (a - 1) he hc.1 f hf (h.1.ts _ hl) (fun _ z => z) (by rw [fl_get hf, hv]; rfl) hd hw
theorem gk_getR {c f i : Nat} {C : String} {T : u_T} (h : XM X cc own) (hc : CK c C T) (hf : f < nC c) (hv : ∀ base S a, fv base S a (tyC c f) f = rv base (gR S a f)) (hd : decode cc pc = .ok (.getfield i, 3)) (hl : Cond.fieldLink own i (T f).1 (T f).2.1 (T f).2.2.1 ∈ T0) (hk : GK X ps (pc + 3) k) : GK X ps pc (o_getR c f k) := by
  intro ls st S hr
  obtain ⟨a, st, rfl, r1⟩ := tR_el hr
  obtain ⟨hka, r2⟩ := if_el r1
  obtain ⟨hm, hw⟩ := hk _ _ _ r2
  refine ⟨hm, fun H locs lm a1 a2 a3 a4 a5 => ?_⟩
  obtain ⟨p0, p1⟩ := a1.live hka (by have := hc.2.1; omega)
  have hw := hw H locs lm a1 a2 a3 a4 a5
  rw [List.map_cons, xv_ref p0]
  have he := wl_get (base := xb X) (ck := xk X) p0 p1
  rw [ce_obj hka hc.2.1] at he
  exact va_get h.1.ex h.by h.1.ts hc.2.2.1 h.ow h.1.tb.1 a1.1 (a - 1) he hc.1 f hf (h.1.ts _ hl) (fun _ z => z) (by rw [fl_get hf, hv]; rfl) hd hw
/-- one slot of the cell a is new: the picture -/
theorem HR_set {base : Nat} {D : va_G} {ck : Nat → ClassId} {S S' : St} {H H1 : Heap} {a : Nat} {x : va_E} (h : HR base D ck S H) (h0 : 0 < a) (ha : a ≤ gZ S) (hz : gZ S' = gZ S) (hK : ∀ b, gK S' b = gK S b) (hN : ∀ b, gN S' b = gN S b) (h3 : ∀ b j, b ≠ a → gI S' b j = gI S b j) (h4 : ∀ b j, b ≠ a → gL S' b j = gL S b j) (h5 : ∀ b j, b ≠ a → gR S' b j = gR S b j) (hx : x = ce base ck S' a) (hP : va_P D vwCl ((wl base ck S).set (a - 1) (base + a, x)) H1) : HR base D ck S' H1 := by
  rw [wl_set (S' := S') hz h0 ha (fun b hb => ce_cong (hK b) (hN b) (fun j => h3 b j hb) (fun j => h4 b j hb) (fun j => h5 b j hb)) hx] at hP
  exact ⟨hP, fun b hb => by rw [hK]; exact h.2 b (by rwa [hz] at hb)⟩
theorem put_W {c f i : Nat} {C : String} {T : u_T} (h : XM X cc own) (hc : CK c C T) (hf : f < nC c) (hfin : (T f).2.2.2 = false ∨ ((T f).2.2.2 = true ∧ (xh X).name = "<init>" ∧ (T f).1 = own)) (hd : decode cc pc = .ok (.putfield i, 3)) (hl : Cond.fieldLink own i (T f).1 (T f).2.1 (T f).2.2.1 ∈ T0)
    {S S' : St} {a : Nat} {v : Value} (hka : gK S a = c) (hn : narrow (tyC c f) v = v) (hfit : fits (tyC c f) v = true) (hfv : fv (xb X) S' a (tyC c f) f = v) (hz : gZ S' = gZ S) (hK : ∀ b, gK S' b = gK S b) (hN : ∀ b, gN S' b = gN S b) (h3 : ∀ b j, (b ≠ a ∨ j ≠ f) → gI S' b j = gI S b j) (h4 : ∀ b j, (b ≠ a ∨ j ≠ f) → gL S' b j = gL S b j) (h5 : ∀ b j, (b ≠ a ∨ j ≠ f) → gR S' b j = gR S b j)
    {H : Heap} {locs : List Loc} {lm : Array Slot} {cells slots : Nat} {rest : List Value} (a1 : HR (xb X) (xD X) (xk X) S H) (a2 : va_S (xA X) (xs X).heap H locs)
    (hw : ∀ (H1 : Heap) (locs1 : List Loc), HR (xb X) (xD X) (xk X) S' H1 → va_S (xA X) (xs X).heap H1 locs1 → W (xp X) (xl X) (xe X) (xR X) (xs X) (xm X) (xa X) (xw X) (xh X) (xc X) H1 locs1 cells slots (xQ X) (F0 (xm X) (pc + 3) lm rest)) :
    W (xp X) (xl X) (xe X) (xR X) (xs X) (xm X) (xa X) (xw X) (xh X) (xc X) H locs cells slots (xQ X) (F0 (xm X) pc lm (v :: .ref (xb X + a) :: rest)) := by
  obtain ⟨p0, p1⟩ := a1.live hka (by have := hc.2.1; omega)
  have he := wl_get (base := xb X) (ck := xk X) p0 p1
  rw [ce_obj hka hc.2.1] at he
  have hx : (Sum.inr (c, (fl (xb X) S a c).set f v) : va_E) = ce (xb X) (xk X) S' a := by
    rw [ce_obj (c := c) (by rw [hK]; exact hka) hc.2.1, fl_set hfv (fun j hj => h3 a j (Or.inr hj)) (fun j hj => h4 a j (Or.inr hj)) (fun j hj => h5 a j (Or.inr hj))]
  have hHR : ∀ H1, va_P (xD X) vwCl ((wl (xb X) (xk X) S).set (a - 1) (xb X + a, .inr (c, (fl (xb X) S a c).set f v))) H1 → HR (xb X) (xD X) (xk X) S' H1 := fun H1 hP => HR_set a1 p0 p1 hz hK hN (fun b j hb => h3 b j (Or.inl hb)) (fun b j hb => h4 b j (Or.inl hb)) (fun b j hb => h5 b j (Or.inl hb)) hx hP
  rcases hfin with hfin | ⟨hfin, hin2, hdecl⟩
  · exact va_put h.1.ex h.by h.1.ts hc.2.2.1 (tyC c) hc.2.2.2.1 hc.2.2.2.2 h.ow h.1.tb.1 a1.1 (wl_D _ _ _) a2 (a - 1) he hc.1 f hf (h.1.ts _ hl) (fun _ z => z) hfin (hc.2.2.2.1 f hf) hn hfit (by rw [fl_len]; exact hf) hd (fun H1 locs1 hP _ hS => hw H1 locs1 (hHR H1 hP) hS)
  · exact va_putF h.1.ex h.by h.1.ts hc.2.2.1 (tyC c) hc.2.2.2.1 hc.2.2.2.2 h.ow h.1.tb.1 a1.1 (wl_D _ _ _) a2 (a - 1) he hc.1 f hf (h.1.ts _ hl) (fun _ z => z) hfin hin2 hdecl (hc.2.2.2.1 f hf) hn hfit (by rw [fl_len]; exact hf) hd (fun H1 locs1 hP _ hS => hw H1 locs1 (hHR H1 hP) hS)
abbrev Fin_ok (X : Cx) (own : String) (T : u_T) (f : Nat) : Prop := (T f).2.2.2 = false ∨ ((T f).2.2.2 = true ∧ (xh X).name = "<init>" ∧ (T f).1 = own)
theorem u2_ne {α : Type} {f : Nat → Nat → α} {a k : Nat} {v : α} {b j : Nat} (h : b ≠ a ∨ j ≠ k) : u2 f a k v b j = f b j := by
  unfold u2
  rw [if_neg]
  rintro ⟨h1, h2⟩
  rcases h with h | h
  · exact h h1
  · exact h h2
theorem u2_eq {α : Type} {f : Nat → Nat → α} {a k : Nat} {v : α} : u2 f a k v a k = v := by
  unfold u2; rw [if_pos ⟨rfl, rfl⟩]
theorem gk_putI {c f i : Nat} {C : String} {T : u_T} (h : XM X cc own) (hc : CK c C T) (hf : f < nC c) (hty : tyC c f = .int) (hfin : Fin_ok X own T f) (hd : decode cc pc = .ok (.putfield i, 3)) (hl : Cond.fieldLink own i (T f).1 (T f).2.1 (T f).2.2.1 ∈ T0) (hk : GK X ps (pc + 3) k) : GK X ps pc (o_putI c f k) := by
  intro ls st S hr
  obtain ⟨v, st, rfl, r1⟩ := tI_el hr
  obtain ⟨a, st, rfl, r2⟩ := tR_el r1
  obtain ⟨hka, r3⟩ := if_el r2
  obtain ⟨hm, hw⟩ := hk _ _ _ r3
  refine ⟨hm, fun H locs lm a1 a2 a3 a4 a5 => ?_⟩
  rw [List.map_cons, List.map_cons, xv_ref (a1.live hka (by have := hc.2.1; omega)).1]
  exact put_W h hc hf hfin hd hl (S' := pI S a f v) hka (by rw [hty]; rfl) (by rw [hty]; rfl) (by rw [hty]; show Value.int (u2 S.1 a f v a f) = _; rw [u2_eq]; rfl) rfl (fun _ => rfl) (fun _ => rfl) (fun b j hb => u2_ne hb) (fun _ _ _ => rfl) (fun _ _ _ => rfl) a1 a2 (fun H1 locs1 b1 b2 => hw H1 locs1 lm b1 b2 a3 a4 a5)
theorem gk_putZ {c f i : Nat} {C : String} {T : u_T} (h : XM X cc own) (hc : CK c C T) (hf : f < nC c) (hty : tyC c f = .boolean) (hfin : Fin_ok X own T f) (hd : decode cc pc = .ok (.putfield i, 3)) (hl : Cond.fieldLink own i (T f).1 (T f).2.1 (T f).2.2.1 ∈ T0) (hk : GK X ps (pc + 3) k) : GK X ps pc (o_putZ c f k) := by
  intro ls st S hr
  obtain ⟨v, st, rfl, r1⟩ := tI_el hr
  obtain ⟨a, st, rfl, r2⟩ := tR_el r1
  obtain ⟨⟨hka, hv⟩, r3⟩ := if_el r2
  obtain ⟨hm, hw⟩ := hk _ _ _ r3
  refine ⟨hm, fun H locs lm a1 a2 a3 a4 a5 => ?_⟩
  rw [List.map_cons, List.map_cons, xv_ref (a1.live hka (by have := hc.2.1; omega)).1]
  exact put_W h hc hf hfin hd hl (S' := pI S a f v) (v := .int v) hka (by rw [hty]; rcases hv with rfl | rfl <;> decide) (by rw [hty]; rcases hv with rfl | rfl <;> decide) (by rw [hty]; show Value.int (u2 S.1 a f v a f) = _; rw [u2_eq]) rfl (fun _ => rfl) (fun _ => rfl) (fun b j hb => u2_ne hb) (fun _ _ _ => rfl) (fun _ _ _ => rfl) a1 a2 (fun H1 locs1 b1 b2 => hw H1 locs1 lm b1 b2 a3 a4 a5)
theorem gk_putL {c f i : Nat} {C : String} {T : u_T} (h : XM X cc own) (hc : CK c C T) (hf : f < nC c) (hty : tyC c f = .long) (hfin : Fin_ok X own T f) (hd : decode cc pc = .ok (.putfield i, 3)) (hl : Cond.fieldLink own i (T f).1 (T f).2.1 (T f).2.2.1 ∈ T0) (hk : GK X ps (pc + 3) k) : GK X ps pc (o_putL c f k) := by
  intro ls st S hr
  obtain ⟨v, st, rfl, r1⟩ := tL_el hr
  obtain ⟨a, st, rfl, r2⟩ := tR_el r1
  obtain ⟨hka, r3⟩ := if_el r2
  obtain ⟨hm, hw⟩ := hk _ _ _ r3
  refine ⟨hm, fun H locs lm a1 a2 a3 a4 a5 => ?_⟩
  rw [List.map_cons, List.map_cons, xv_ref (a1.live hka (by have := hc.2.1; omega)).1]
  exact put_W h hc hf hfin hd hl (S' := pL S a f v) hka (by rw [hty]; rfl) (by rw [hty]; rfl) (by rw [hty]; show Value.long (u2 S.2.1 a f v a f) = _; rw [u2_eq]; rfl) rfl (fun _ => rfl) (fun _ => rfl) (fun _ _ _ => rfl) (fun b j hb => u2_ne hb) (fun _ _ _ => rfl) a1 a2 (fun H1 locs1 b1 b2 => hw H1 locs1 lm b1 b2 a3 a4 a5)
theorem gk_putR {c f i : Nat} {C : String} {T : u_T} (h : XM X cc own) (hc : CK c C T) (hf : f < nC c) (hty : (∃ n, tyC c f = .object n) ∨ ∃ t, tyC c f = .array t) (hfin : Fin_ok X own T f) (hd : decode cc pc = .ok (.putfield i, 3)) (hl : Cond.fieldLink own i (T f).1 (T f).2.1 (T f).2.2.1 ∈ T0) (hk : GK X ps (pc + 3) k) : GK X ps pc (o_putR c f k) := by
  intro ls st S hr
  obtain ⟨v, st, rfl, r1⟩ := tR_el hr
  obtain ⟨a, st, rfl, r2⟩ := tR_el r1
  obtain ⟨hka, r3⟩ := if_el r2
  obtain ⟨hm, hw⟩ := hk _ _ _ r3
  refine ⟨hm, fun H locs lm a1 a2 a3 a4 a5 => ?_⟩
  rw [List.map_cons, List.map_cons, xv_ref (a1.live hka (by have := hc.2.1; omega)).1]
  refine put_W h hc hf hfin hd hl (S' := pR S a f v) hka ?_ ?_ ?_ rfl (fun _ => rfl) (fun _ => rfl) (fun _ _ _ => rfl) (fun _ _ _ => rfl) (fun b j hb => u2_ne hb) a1 a2 (fun H1 locs1 b1 b2 => hw H1 locs1 lm b1 b2 a3 a4 a5)
  · rcases hty with ⟨n, e⟩ | ⟨t, e⟩ <;> rw [e] <;> cases v <;> rfl
  · rcases hty with ⟨n, e⟩ | ⟨t, e⟩ <;> rw [e] <;> cases v <;> rfl
  · rcases hty with ⟨n, e⟩ | ⟨t, e⟩ <;> rw [e] <;> show rv (xb X) (u2 S.2.2.1 a f v a f) = _ <;> rw [u2_eq] <;> rfl
end GKH
