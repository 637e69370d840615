/-! the rows of arrays, of what is made, and of the end -/
section GKA
variable {X : Cx} {ps : Nat → Nat} {pc : Nat} {k kt kf : K} {cc : ByteArray} {own : String}
theorem tys_at (ck : Nat → ClassId) (t : Nat) (ht : t < 6) : (tysC ck)[t]? = some (ck t, tyK t) := by
  rcases (show t = 0 ∨ t = 1 ∨ t = 2 ∨ t = 3 ∨ t = 4 ∨ t = 5 by omega) with rfl | rfl | rfl | rfl | rfl | rfl <;> rfl
theorem arr_at {S : St} {H : Heap} {a t : Nat} (a1 : HR (xb X) (xD X) (xk X) S H) (hka : gK S a = 100 + t) (ht : t < 6) : 0 < a ∧ a ≤ gZ S ∧ (wl (xb X) (xk X) S)[a - 1]? = some (xb X + a, .inl (xk X t, (gN S a, af (xb X) S a t))) := by
  obtain ⟨p0, p1⟩ := a1.live hka (by omega)
  have he := wl_get (base := xb X) (ck := xk X) p0 p1
  rw [ce_arr hka] at he
  exact ⟨p0, p1, he⟩
theorem af_i {base : Nat} {S : St} {a t : Nat} (h1 : t ≠ 1) (h5 : t ≠ 5) : af base S a t = .inl (gI S a) := by
  unfold af; rw [if_neg h1, if_neg h5]
theorem gk_ald0 (h : XM X cc own) (hd : decode cc pc = .ok (.iaload, 1)) (hk : GK X ps (pc + 1) k) : GK X ps pc (o_iald 0 k) := by
  intro ls st S hr
  obtain ⟨j, st, rfl, r1⟩ := tI_el hr
  obtain ⟨a, st, rfl, r2⟩ := tR_el r1
  obtain ⟨⟨hka, hj⟩, r3⟩ := if_el r2
  obtain ⟨hm, hw⟩ := hk _ _ _ r3
  refine ⟨hm, fun H locs lm a1 a2 a3 a4 a5 => ?_⟩
  obtain ⟨p0, p1, he⟩ := arr_at a1 hka (by omega)
  rw [af_i (by omega) (by omega)] at he
  rw [List.map_cons, List.map_cons, xv_ref p0]
  exact va_iald h.1.ex h.by h.1.tb.1 a1.1 (a - 1) 0 he (tys_at _ 0 (by omega)) (vp_inB hj) hd (hw H locs lm a1 a2 a3 a4 a5)
theorem gk_ast0 (h : XM X cc own) (hd : decode cc pc = .ok (.iastore, 1)) (hk : GK X ps (pc + 1) k) : GK X ps pc (o_iast 0 (fun x => x) k) := by
  intro ls st S hr
  obtain ⟨v, st, rfl, r1⟩ := tI_el hr
  obtain ⟨j, st, rfl, r2⟩ := tI_el r1
  obtain ⟨a, st, rfl, r3⟩ := tR_el r2
  obtain ⟨⟨hka, hj⟩, r4⟩ := if_el r3
  obtain ⟨hm, hw⟩ := hk _ _ _ r4
  refine ⟨hm, fun H locs lm a1 a2 a3 a4 a5 => ?_⟩
  obtain ⟨p0, p1, he⟩ := arr_at a1 hka (by omega)
  rw [af_i (by omega) (by omega)] at he
  rw [List.map_cons, List.map_cons, List.map_cons, xv_ref p0]
  refine va_iast h.1.ex h.by h.1.tb.1 a1.1 (wl_D _ _ _) a2 (a - 1) 0 he (tys_at _ 0 (by omega)) (vp_inB hj) hd (fun H1 locs1 hP _ hS => hw H1 locs1 lm ?_ hS a3 a4 a5)
  refine HR_set a1 p0 p1 rfl (fun _ => rfl) (fun _ => rfl) (fun b i hb => u2_ne (Or.inl hb)) (fun _ _ _ => rfl) (fun _ _ _ => rfl) ?_ hP
  refine Eq.trans ?_ (ce_arr (S := pI S a j.toNatClampNeg _) (t := 0) (by exact hka)).symm
  rw [af_i (by omega) (by omega)]
  show (Sum.inl (xk X 0, gN S a, Sum.inl _) : va_E) = Sum.inl (xk X 0, gN S a, Sum.inl _)
  congr 4
  funext q
  show upd (gI S a) j.toNatClampNeg _ q = u2 S.1 a j.toNatClampNeg _ a q
  unfold upd u2 gI
  by_cases e : q = j.toNatClampNeg
  · rw [if_pos e, if_pos ⟨rfl, e⟩]
  · rw [if_neg e, if_neg (fun z => e z.2)]
theorem gk_ald2 (h : XM X cc own) (hd : decode cc pc = .ok (.caload, 1)) (hk : GK X ps (pc + 1) k) : GK X ps pc (o_iald 2 k) := by
  intro ls st S hr
  obtain ⟨j, st, rfl, r1⟩ := tI_el hr
  obtain ⟨a, st, rfl, r2⟩ := tR_el r1
  obtain ⟨⟨hka, hj⟩, r3⟩ := if_el r2
  obtain ⟨hm, hw⟩ := hk _ _ _ r3
  refine ⟨hm, fun H locs lm a1 a2 a3 a4 a5 => ?_⟩
  obtain ⟨p0, p1, he⟩ := arr_at a1 hka (by omega)
  rw [af_i (by omega) (by omega)] at he
  rw [List.map_cons, List.map_cons, xv_ref p0]
  exact va_cald h.1.ex h.by h.1.tb.1 a1.1 (a - 1) 2 he (tys_at _ 2 (by omega)) (vp_inB hj) hd (hw H locs lm a1 a2 a3 a4 a5)
theorem gk_ast2 (h : XM X cc own) (hd : decode cc pc = .ok (.castore, 1)) (hk : GK X ps (pc + 1) k) : GK X ps pc (o_iast 2 (fun x => vp_nar .char x) k) := by
  intro ls st S hr
  obtain ⟨v, st, rfl, r1⟩ := tI_el hr
  obtain ⟨j, st, rfl, r2⟩ := tI_el r1
  obtain ⟨a, st, rfl, r3⟩ := tR_el r2
  obtain ⟨⟨hka, hj⟩, r4⟩ := if_el r3
  obtain ⟨hm, hw⟩ := hk _ _ _ r4
  refine ⟨hm, fun H locs lm a1 a2 a3 a4 a5 => ?_⟩
  obtain ⟨p0, p1, he⟩ := arr_at a1 hka (by omega)
  rw [af_i (by omega) (by omega)] at he
  rw [List.map_cons, List.map_cons, List.map_cons, xv_ref p0]
  refine va_cast h.1.ex h.by h.1.tb.1 a1.1 (wl_D _ _ _) a2 (a - 1) 2 he (tys_at _ 2 (by omega)) (vp_inB hj) hd (fun H1 locs1 hP _ hS => hw H1 locs1 lm ?_ hS a3 a4 a5)
  refine HR_set a1 p0 p1 rfl (fun _ => rfl) (fun _ => rfl) (fun b i hb => u2_ne (Or.inl hb)) (fun _ _ _ => rfl) (fun _ _ _ => rfl) ?_ hP
  refine Eq.trans ?_ (ce_arr (S := pI S a j.toNatClampNeg _) (t := 2) (by exact hka)).symm
  rw [af_i (by omega) (by omega)]
  show (Sum.inl (xk X 2, gN S a, Sum.inl _) : va_E) = Sum.inl (xk X 2, gN S a, Sum.inl _)
  congr 4
  funext q
  show upd (gI S a) j.toNatClampNeg _ q = u2 S.1 a j.toNatClampNeg _ a q
  unfold upd u2 gI
  by_cases e : q = j.toNatClampNeg
  · rw [if_pos e, if_pos ⟨rfl, e⟩]
  · rw [if_neg e, if_neg (fun z => e z.2)]
theorem gk_ald3 (h : XM X cc own) (hd : decode cc pc = .ok (.baload, 1)) (hk : GK X ps (pc + 1) k) : GK X ps pc (o_iald 3 k) := by
  intro ls st S hr
  obtain ⟨j, st, rfl, r1⟩ := tI_el hr
  obtain ⟨a, st, rfl, r2⟩ := tR_el r1
  obtain ⟨⟨hka, hj⟩, r3⟩ := if_el r2
  obtain ⟨hm, hw⟩ := hk _ _ _ r3
  refine ⟨hm, fun H locs lm a1 a2 a3 a4 a5 => ?_⟩
  obtain ⟨p0, p1, he⟩ := arr_at a1 hka (by omega)
  rw [af_i (by omega) (by omega)] at he
  rw [List.map_cons, List.map_cons, xv_ref p0]
  exact va_bald h.1.ex h.by h.1.tb.1 a1.1 (a - 1) 3 he (tys_at _ 3 (by omega)) (vp_inB hj) hd (hw H locs lm a1 a2 a3 a4 a5)
theorem gk_ast3 (h : XM X cc own) (hd : decode cc pc = .ok (.bastore, 1)) (hk : GK X ps (pc + 1) k) : GK X ps pc (o_iast 3 (fun x => vp_nar .byte x) k) := by
  intro ls st S hr
  obtain ⟨v, st, rfl, r1⟩ := tI_el hr
  obtain ⟨j, st, rfl, r2⟩ := tI_el r1
  obtain ⟨a, st, rfl, r3⟩ := tR_el r2
  obtain ⟨⟨hka, hj⟩, r4⟩ := if_el r3
  obtain ⟨hm, hw⟩ := hk _ _ _ r4
  refine ⟨hm, fun H locs lm a1 a2 a3 a4 a5 => ?_⟩
  obtain ⟨p0, p1, he⟩ := arr_at a1 hka (by omega)
  rw [af_i (by omega) (by omega)] at he
  rw [List.map_cons, List.map_cons, List.map_cons, xv_ref p0]
  refine va_bast h.1.ex h.by h.1.tb.1 a1.1 (wl_D _ _ _) a2 (a - 1) 3 he (tys_at _ 3 (by omega)) (vp_inB hj) hd (fun H1 locs1 hP _ hS => hw H1 locs1 lm ?_ hS a3 a4 a5)
  refine HR_set a1 p0 p1 rfl (fun _ => rfl) (fun _ => rfl) (fun b i hb => u2_ne (Or.inl hb)) (fun _ _ _ => rfl) (fun _ _ _ => rfl) ?_ hP
  refine Eq.trans ?_ (ce_arr (S := pI S a j.toNatClampNeg _) (t := 3) (by exact hka)).symm
  rw [af_i (by omega) (by omega)]
  show (Sum.inl (xk X 3, gN S a, Sum.inl _) : va_E) = Sum.inl (xk X 3, gN S a, Sum.inl _)
  congr 4
  funext q
  show upd (gI S a) j.toNatClampNeg _ q = u2 S.1 a j.toNatClampNeg _ a q
  unfold upd u2 gI
  by_cases e : q = j.toNatClampNeg
  · rw [if_pos e, if_pos ⟨rfl, e⟩]
  · rw [if_neg e, if_neg (fun z => e z.2)]
theorem gk_ald4 (h : XM X cc own) (hd : decode cc pc = .ok (.baload, 1)) (hk : GK X ps (pc + 1) k) : GK X ps pc (o_iald 4 k) := by
  intro ls st S hr
  obtain ⟨j, st, rfl, r1⟩ := tI_el hr
  obtain ⟨a, st, rfl, r2⟩ := tR_el r1
  obtain ⟨⟨hka, hj⟩, r3⟩ := if_el r2
  obtain ⟨hm, hw⟩ := hk _ _ _ r3
  refine ⟨hm, fun H locs lm a1 a2 a3 a4 a5 => ?_⟩
  obtain ⟨p0, p1, he⟩ := arr_at a1 hka (by omega)
  rw [af_i (by omega) (by omega)] at he
  rw [List.map_cons, List.map_cons, xv_ref p0]
  exact va_zald h.1.ex h.by h.1.tb.1 a1.1 (a - 1) 4 he (tys_at _ 4 (by omega)) (vp_inB hj) hd (hw H locs lm a1 a2 a3 a4 a5)
theorem gk_ast4 (h : XM X cc own) (hd : decode cc pc = .ok (.bastore, 1)) (hk : GK X ps (pc + 1) k) : GK X ps pc (o_iast 4 (fun x => vp_nar .boolean x) k) := by
  intro ls st S hr
  obtain ⟨v, st, rfl, r1⟩ := tI_el hr
  obtain ⟨j, st, rfl, r2⟩ := tI_el r1
  obtain ⟨a, st, rfl, r3⟩ := tR_el r2
  obtain ⟨⟨hka, hj⟩, r4⟩ := if_el r3
  obtain ⟨hm, hw⟩ := hk _ _ _ r4
  refine ⟨hm, fun H locs lm a1 a2 a3 a4 a5 => ?_⟩
  obtain ⟨p0, p1, he⟩ := arr_at a1 hka (by omega)
  rw [af_i (by omega) (by omega)] at he
  rw [List.map_cons, List.map_cons, List.map_cons, xv_ref p0]
  refine va_zast h.1.ex h.by h.1.tb.1 a1.1 (wl_D _ _ _) a2 (a - 1) 4 he (tys_at _ 4 (by omega)) (vp_inB hj) hd (fun H1 locs1 hP _ hS => hw H1 locs1 lm ?_ hS a3 a4 a5)
  refine HR_set a1 p0 p1 rfl (fun _ => rfl) (fun _ => rfl) (fun b i hb => u2_ne (Or.inl hb)) (fun _ _ _ => rfl) (fun _ _ _ => rfl) ?_ hP
  refine Eq.trans ?_ (ce_arr (S := pI S a j.toNatClampNeg _) (t := 4) (by exact hka)).symm
  rw [af_i (by omega) (by omega)]
  show (Sum.inl (xk X 4, gN S a, Sum.inl _) : va_E) = Sum.inl (xk X 4, gN S a, Sum.inl _)
  congr 4
  funext q
  show upd (gI S a) j.toNatClampNeg _ q = u2 S.1 a j.toNatClampNeg _ a q
  unfold upd u2 gI
  by_cases e : q = j.toNatClampNeg
  · rw [if_pos e, if_pos ⟨rfl, e⟩]
  · rw [if_neg e, if_neg (fun z => e z.2)]
theorem gk_lald (h : XM X cc own) (hd : decode cc pc = .ok (.laload, 1)) (hk : GK X ps (pc + 1) k) : GK X ps pc (o_lald k) := by
  intro ls st S hr
  obtain ⟨j, st, rfl, r1⟩ := tI_el hr
  obtain ⟨a, st, rfl, r2⟩ := tR_el r1
  obtain ⟨⟨hka, hj⟩, r3⟩ := if_el r2
  obtain ⟨hm, hw⟩ := hk _ _ _ r3
  refine ⟨hm, fun H locs lm a1 a2 a3 a4 a5 => ?_⟩
  obtain ⟨p0, p1, he⟩ := arr_at (t := 1) a1 hka (by omega)
  rw [List.map_cons, List.map_cons, xv_ref p0]
  exact va_lald (f := gL S a) h.1.ex h.by h.1.tb.1 a1.1 (a - 1) 1 he (tys_at _ 1 (by omega)) (vp_inB hj) hd (hw H locs lm a1 a2 a3 a4 a5)
theorem gk_last (h : XM X cc own) (hd : decode cc pc = .ok (.lastore, 1)) (hk : GK X ps (pc + 1) k) : GK X ps pc (o_last k) := by
  intro ls st S hr
  obtain ⟨v, st, rfl, r1⟩ := tL_el hr
  obtain ⟨j, st, rfl, r2⟩ := tI_el r1
  obtain ⟨a, st, rfl, r3⟩ := tR_el r2
  obtain ⟨⟨hka, hj⟩, r4⟩ := if_el r3
  obtain ⟨hm, hw⟩ := hk _ _ _ r4
  refine ⟨hm, fun H locs lm a1 a2 a3 a4 a5 => ?_⟩
  obtain ⟨p0, p1, he⟩ := arr_at (t := 1) a1 hka (by omega)
  rw [List.map_cons, List.map_cons, List.map_cons, xv_ref p0]
  refine va_last (f := gL S a) h.1.ex h.by h.1.tb.1 a1.1 (wl_D _ _ _) a2 (a - 1) 1 he (tys_at _ 1 (by omega)) (vp_inB hj) hd (fun H1 locs1 hP _ hS => hw H1 locs1 lm ?_ hS a3 a4 a5)
  refine HR_set a1 p0 p1 rfl (fun _ => rfl) (fun _ => rfl) (fun _ _ _ => rfl) (fun b i hb => u2_ne (Or.inl hb)) (fun _ _ _ => rfl) ?_ hP
  refine Eq.trans ?_ (ce_arr (S := pL S a j.toNatClampNeg _) (t := 1) (by exact hka)).symm
  show (Sum.inl (xk X 1, gN S a, Sum.inr (Sum.inl _)) : va_E) = Sum.inl (xk X 1, gN S a, Sum.inr (Sum.inl _))
  congr 5
  funext q
  show vp_updL (gL S a) j.toNatClampNeg _ q = u2 S.2.1 a j.toNatClampNeg _ a q
  unfold vp_updL u2 gL
  by_cases e : q = j.toNatClampNeg
  · rw [if_pos e, if_pos ⟨rfl, e⟩]
  · rw [if_neg e, if_neg (fun z => e z.2)]
theorem gk_aald (h : XM X cc own) (hd : decode cc pc = .ok (.aaload, 1)) (hk : GK X ps (pc + 1) k) : GK X ps pc (o_aald k) := by
  intro ls st S hr
  obtain ⟨j, st, rfl, r1⟩ := tI_el hr
  obtain ⟨a, st, rfl, r2⟩ := tR_el r1
  obtain ⟨⟨hka, hj⟩, r3⟩ := if_el r2
  obtain ⟨hm, hw⟩ := hk _ _ _ r3
  refine ⟨hm, fun H locs lm a1 a2 a3 a4 a5 => ?_⟩
  obtain ⟨p0, p1, he⟩ := arr_at (t := 5) a1 hka (by omega)
  rw [List.map_cons, List.map_cons, xv_ref p0]
  have hw := hw H locs lm a1 a2 a3 a4 a5
  rw [List.map_cons, show xv X (.ref (gR S a j.toNatClampNeg)) = va_rf (ro (xb X) (gR S a j.toNatClampNeg)) from (rv_ro _ _).symm] at hw
  exact va_aldq (f := fun q => ro (xb X) (gR S a q)) h.1.ex h.by h.1.tb.1 a1.1 (a - 1) 5 he (tys_at _ 5 (by omega)) (vp_inB hj) hd hw
theorem gk_aast (h : XM X cc own) (hd : decode cc pc = .ok (.aastore, 1)) (hk : GK X ps (pc + 1) k) : GK X ps pc (o_aast k) := by
  intro ls st S hr
  obtain ⟨v, st, rfl, r1⟩ := tR_el hr
  obtain ⟨j, st, rfl, r2⟩ := tI_el r1
  obtain ⟨a, st, rfl, r3⟩ := tR_el r2
  obtain ⟨⟨hka, hj, hkv⟩, r4⟩ := if_el r3
  obtain ⟨hm, hw⟩ := hk _ _ _ r4
  refine ⟨hm, fun H locs lm a1 a2 a3 a4 a5 => ?_⟩
  obtain ⟨p0, p1, he⟩ := arr_at (t := 5) a1 hka (by omega)
  obtain ⟨v0, v1⟩ := a1.live hkv (by omega)
  have hv := wl_get (base := xb X) (ck := xk X) v0 v1
  rw [ce_obj hkv (by omega)] at hv
  rw [List.map_cons, List.map_cons, List.map_cons, xv_ref p0, xv_ref v0]
  refine va_astq (f := fun q => ro (xb X) (gR S a q)) (r := (RX1, TX1, 3)) h.1.ex h.by h.1.tb.1 a1.1 (wl_D _ _ _) a2 (a - 1) 5 (v - 1) 0 he (tys_at _ 5 (by omega)) hv rfl (vp_inB hj) hd (fun H1 locs1 hP _ hS => hw H1 locs1 lm ?_ hS a3 a4 a5)
  refine HR_set a1 p0 p1 rfl (fun _ => rfl) (fun _ => rfl) (fun _ _ _ => rfl) (fun _ _ _ => rfl) (fun b i hb => u2_ne (Or.inl hb)) ?_ hP
  refine Eq.trans ?_ (ce_arr (S := pR S a j.toNatClampNeg _) (t := 5) (by exact hka)).symm
  show (Sum.inl (xk X 5, gN S a, Sum.inr (Sum.inr (Sum.inr (Sum.inr _)))) : va_E) = Sum.inl (xk X 5, gN S a, Sum.inr (Sum.inr (Sum.inr (Sum.inr _))))
  congr 7
  funext q
  show va_up (fun q => ro (xb X) (gR S a q)) j.toNatClampNeg (some (xb X + v)) q = ro (xb X) (u2 S.2.2.1 a j.toNatClampNeg v a q)
  unfold va_up u2 gR
  by_cases e : q = j.toNatClampNeg
  · rw [if_pos e, if_pos ⟨rfl, e⟩]
    cases v with
    | zero => exact absurd v0 (Nat.lt_irrefl 0)
    | succ v => rfl
  · rw [if_neg e, if_neg (fun z => e z.2)]
theorem gk_alen (h : XM X cc own) (hd : decode cc pc = .ok (.arraylength, 1)) (hk : GK X ps (pc + 1) k) : GK X ps pc (o_alen k) := by
  intro ls st S hr
  obtain ⟨a, st, rfl, r1⟩ := tR_el hr
  obtain ⟨⟨hka, hkb⟩, r2⟩ := if_el r1
  obtain ⟨hm, hw⟩ := hk _ _ _ r2
  refine ⟨hm, fun H locs lm a1 a2 a3 a4 a5 => ?_⟩
  obtain ⟨t, ht⟩ : ∃ t, gK S a = 100 + t := ⟨gK S a - 100, by omega⟩
  obtain ⟨p0, p1, he⟩ := arr_at a1 ht (by omega)
  rw [List.map_cons, xv_ref p0]
  exact va_alen h.1.ex h.by h.1.tb.1 a1.1 (a - 1) t he (tys_at _ t (by omega)) rfl hd (hw H locs lm a1 a2 a3 a4 a5)
/-- what is new: the picture -/
theorem HR_new {base : Nat} {D : va_G} {ck : Nat → ClassId} {S S' : St} {H1 : Heap} {c : Nat} {x : va_E} {H : Heap} (h : HR base D ck S H) (hz : gZ S' = gZ S + 1) (hK : ∀ b, gK S' b = if b = gZ S + 1 then c else gK S b) (hN : ∀ b, b ≠ gZ S + 1 → gN S' b = gN S b) (h3 : ∀ b j, b ≠ gZ S + 1 → gI S' b j = gI S b j) (h4 : ∀ b j, b ≠ gZ S + 1 → gL S' b j = gL S b j) (h5 : ∀ b j, b ≠ gZ S + 1 → gR S' b j = gR S b j) (hx : x = ce base ck S' (gZ S + 1)) (hP : va_P D vwCl (wl base ck S ++ [(base + (gZ S + 1), x)]) H1) : HR base D ck S' H1 := by
  rw [wl_push (S' := S') hz (fun b hb => by
    have e : b ≠ gZ S + 1 := by omega
    exact ce_cong (by rw [hK, if_neg e]) (hN b e) (fun j => h3 b j e) (fun j => h4 b j e) (fun j => h5 b j e)) hx] at hP
  refine ⟨hP, fun b hb => ?_⟩
  rw [hz] at hb
  rw [hK, if_neg (by omega)]
  exact h.2 b (by omega)
/-- the place of a new cell: the next one -/
theorem new_at {S : St} {H H1 : Heap} {q : Nat} {x : va_E} (h : XO X) (a1 : HR (xb X) (xD X) (xk X) S H) (a4 : gZ (x0 X) ≤ gZ S) (hP : va_P (xD X) vwCl (wl (xb X) (xk X) S ++ [(q, x)]) H1) (hD : va_D (xA X) (wl (xb X) (xk X) S ++ [(q, x)])) (hs : H1.size ≤ (xs X).heap.size + (gZ S - gZ (x0 X) + 1)) : q = xb X + (gZ S + 1) := by
  have hsz := h.sz
  have hlast : (wl (xb X) (xk X) S ++ [(q, x)])[gZ S]? = some (q, x) := by
    rw [List.getElem?_append_right (by rw [wl_len]; exact Nat.le_refl _), wl_len, Nat.sub_self]; rfl
  have hlt : q < H1.size := (hP _ _ hlast).lt
  have hA : xb X + 1 ≤ q := hD.2 _ _ hlast
  have hq : q ≤ xb X + 1 + gZ S := by omega
  by_cases e : q = xb X + (gZ S + 1)
  · exact e
  · exfalso
    have h1 : 0 < q - xb X := by omega
    have h2 : q - xb X ≤ gZ S := by omega
    have hg := wl_get (base := xb X) (ck := xk X) h1 h2
    have hg2 : (wl (xb X) (xk X) S ++ [(q, x)])[q - xb X - 1]? = some (xb X + (q - xb X), ce (xb X) (xk X) S (q - xb X)) := by
      rw [List.getElem?_append_left (by rw [wl_len]; omega)]; exact hg
    have := hD.1 _ _ _ _ hg2 hlast (by show xb X + (q - xb X) = q; omega)
    omega
theorem A_new (h : XO X) : ∀ q, (xs X).heap.size ≤ q → xA X q := fun q hq => by
  have := h.sz
  show xb X + 1 ≤ q
  omega
theorem gk_new {c i : Nat} {C : String} {T : u_T} (h : XM X cc own) (hc : CK c C T) (hd : decode cc pc = .ok (.new i, 3)) (h1 : Cond.classLink own i C ∈ T0) (h2 : Cond.instantiable C (nC c) ∈ T0) (h3 : Cond.initialized C ∈ T0) (hdf : ∀ base j, j < nC c → defaultValue (tyC c j) = fv base (nw (fun _ _ => 0, fun _ _ => 0, fun _ _ => 0, fun _ => (0, 0), 0, 0) c (nC c)) 1 (tyC c j) j) (hk : GK X ps (pc + 3) k) : GK X ps pc (o_new c k) := by
  intro ls st S hr
  obtain ⟨hm, hw⟩ := hk _ _ _ hr
  have hm' : gZ S + 1 ≤ gZ (xf X) ∧ gU S + nC c ≤ gU (xf X) := hm
  refine ⟨⟨by omega, by omega⟩, fun H locs lm a1 a2 a3 a4 a5 => ?_⟩
  have hrm := h.1.rm
  have hz0 : ∀ j, j < nC c → defaultValue (tyC c j) = fv (xb X) (nw S c (nC c)) (gZ S + 1) (tyC c j) j := fun j hj => by
    rw [hdf (xb X) j hj]
    unfold fv
    simp only [gI_nw, gL_nw, gR_nw, if_pos rfl]
    rfl
  refine va_new h.1.ex h.by h.1.ts hc.2.2.1 (tyC c) hc.2.2.2.1 h.ow (h.1.ts _ h1) (h.1.ts _ h2) (h.1.ts _ h3) h.1.tb.1 a1.1 (wl_D _ _ _) a2 (A_new h.1) hc.1 (fs := fl (xb X) (nw S c (nC c)) (gZ S + 1) c) (fun j hj => ?_) (by omega) (by omega) hd (fun q H1 hP hD hS => W_sz fun hs => ?_)
  · rw [hz0 j hj]
    show _ = (fl (xb X) (nw S c (nC c)) (gZ S + 1) c).getD j .null
    rw [List.getD_eq_getElem?_getD, fl_get hj]
    rfl
  · have hq := new_at h.1 a1 a4 hP hD (by omega)
    subst hq
    have hk1 : gK (nw S c (nC c)) (gZ S + 1) = c := by rw [gK_nw, if_pos rfl]
    have hh := HR_new (S' := nw S c (nC c)) a1 rfl (fun b => gK_nw S c (nC c) b) (fun b hb => by rw [gN_nw, if_neg hb]) (fun b j hb => by rw [gI_nw, if_neg hb]) (fun b j hb => by rw [gL_nw, if_neg hb]) (fun b j hb => by rw [gR_nw, if_neg hb]) (by rw [ce_obj hk1 hc.2.1]) hP
    have hw := hw H1 locs lm hh hS a3 (by rw [gZ_nw]; omega) (by rw [gU_nw]; omega)
    rw [gZ_nw, gU_nw, List.map_cons, xv_ref (by omega)] at hw
    have e1 : gZ S + 1 - gZ (x0 X) = gZ S - gZ (x0 X) + 1 := by omega
    have e2 : gU S + nC c - gU (x0 X) = gU S - gU (x0 X) + nC c := by omega
    rw [e1, e2] at hw
    exact hw
theorem gk_newa {t : Nat} {aty : ArrayType} (h : XM X cc own) (ht : t < 5) (hd : decode cc pc = .ok (.newarray aty, 2)) (hty : newarray.typeOf aty = tyK t) (h1 : Cond.arrayClass (newarray.typeOf aty) ∈ T0) (hk : GK X ps (pc + 2) k) : GK X ps pc (o_newa t k) := by
  intro ls st S hr
  obtain ⟨n, st, rfl, r1⟩ := tI_el hr
  obtain ⟨⟨hn0, hn1⟩, r2⟩ := if_el r1
  obtain ⟨hm, hw⟩ := hk _ _ _ r2
  have hm' : gZ S + 1 ≤ gZ (xf X) ∧ gU S + n.toNatClampNeg ≤ gU (xf X) := hm
  refine ⟨⟨by omega, by omega⟩, fun H locs lm a1 a2 a3 a4 a5 => ?_⟩
  have hrm := h.1.rm
  have hcl : n.toNatClampNeg = n.toInt.toNat := rfl
  have hnn : ¬ n < 0 := by rw [Int32.lt_iff_toInt_lt, Int32.toInt_zero]; omega
  have hb : n.toNatClampNeg * componentBytes (tyK t) ≤ 536870912 := by
    have : componentBytes (tyK t) ≤ 8 := by
      rcases (show t = 0 ∨ t = 1 ∨ t = 2 ∨ t = 3 ∨ t = 4 by omega) with rfl | rfl | rfl | rfl | rfl <;> decide
    calc n.toNatClampNeg * componentBytes (tyK t) ≤ 70000 * 8 := Nat.mul_le_mul (by omega) this
      _ ≤ 536870912 := by decide
  refine va_newa h.1.ex h.by (h.1.ts _ h1) hty h.1.tb.1 a1.1 (wl_D _ _ _) a2 (A_new h.1) (a0 := (n.toNatClampNeg, af (xb X) (nw S (100 + t) n.toNatClampNeg) (gZ S + 1) t)) (fun cA => ?_) hnn rfl hb (by omega) (by omega) hd (fun q cA H1 hKK hP hD hS => W_sz fun hs => ?_)
  · by_cases e1 : t = 1
    · subst e1
      show arrV cA _ (fun j => Value.long (gL (nw S 101 n.toNatClampNeg) (gZ S + 1) j)) = _
      congr 1
      funext j
      rw [gL_nw, if_pos rfl]
      rfl
    · rw [af_i e1 (by omega)]
      show arrV cA _ (fun j => Value.int (gI (nw S (100 + t) n.toNatClampNeg) (gZ S + 1) j)) = _
      congr 1
      funext j
      rw [gI_nw, if_pos rfl]
      rcases (show t = 0 ∨ t = 2 ∨ t = 3 ∨ t = 4 by omega) with rfl | rfl | rfl | rfl <;> rfl
  · have hq := new_at h.1 a1 a4 hP hD (by omega)
    subst hq
    have hcA : cA = xk X t := by
      have g1 := (hKK.2 6 (cA, tyK t) rfl).2
      have g2 := (h.1.tb.1.2 t _ (tys_at _ t (by omega))).2
      rcases (show t = 0 ∨ t = 1 ∨ t = 2 ∨ t = 3 ∨ t = 4 by omega) with rfl | rfl | rfl | rfl | rfl <;> exact Option.some.inj ((g1 : (xs X).vm.findClass _ = some cA).symm.trans g2)
    subst hcA
    have hk1 : gK (nw S (100 + t) n.toNatClampNeg) (gZ S + 1) = 100 + t := by rw [gK_nw, if_pos rfl]
    have hn1 : gN (nw S (100 + t) n.toNatClampNeg) (gZ S + 1) = n.toNatClampNeg := by rw [gN_nw, if_pos rfl]
    have hh := HR_new (S' := nw S (100 + t) n.toNatClampNeg) a1 rfl (fun b => gK_nw S _ _ b) (fun b hb => by rw [gN_nw, if_neg hb]) (fun b j hb => by rw [gI_nw, if_neg hb]) (fun b j hb => by rw [gL_nw, if_neg hb]) (fun b j hb => by rw [gR_nw, if_neg hb]) (by rw [ce_arr hk1, hn1]) hP
    have hw := hw H1 locs lm hh hS a3 (by rw [gZ_nw]; omega) (by rw [gU_nw]; omega)
    rw [gZ_nw, gU_nw, List.map_cons, xv_ref (by omega)] at hw
    have e1 : gZ S + 1 - gZ (x0 X) = gZ S - gZ (x0 X) + 1 := by omega
    have e2 : gU S + n.toNatClampNeg - gU (x0 X) = gU S - gU (x0 X) + n.toNatClampNeg := by omega
    rw [e1, e2] at hw
    exact hw
end GKA
