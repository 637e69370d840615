/-! copies, natives, switches, ends of methods, calls -/
theorem catS_map (base : Nat) (ad : Nat → Option Nat) (st : List Value) : ((st.map (cv base ad)).map fun v => v.category).sum = catS st := by
  induction st with
  | nil => rfl
  | cons v vs ih =>
    simp only [List.map_cons, List.sum_cons, catS, ih]
    congr 1
    cases v with
    | ref a => cases a <;> rfl
    | retAddr k =>
      show (va_rf (ad k)).category = 1
      cases ad k <;> rfl
    | _ => rfl
theorem SX.moved {ad : Nat → Option Nat} {A : Nat → Prop} {u U : State} {H H1 : Heap} (hvm : u.vm.Alike U.vm) (hR : ∀ q, vk_R "TruceWall$Reader" 157 vk_words q u → vk_R "TruceWall$Reader" 157 vk_words q U) (hq : ∀ a : Nat, a < H.size → ¬ A a → H1[a]? = H[a]?) (h : SX ad A u H) : SX ad A U H1 := by
  obtain ⟨⟨q, qv, e1, e2, h1, h2, h3, h4, h5⟩, h6, h7⟩ := h
  exact ⟨⟨q, qv, e1, e2, hR q h1, (h2.moved hvm).kept hq, (h3.moved hvm).kept hq, (h4.moved hvm).kept hq, (h5.moved hvm).kept hq⟩, (h6.moved hvm).kept hq, (h7.moved hvm).kept hq⟩
theorem TB.same {base : Nat} {Hb : Heap} {D : va_G} {ck : Nat → ClassId} {ad : Nat → Option Nat} {u U : State} (hvm : u.vm = U.vm) (hh : U.heap = u.heap) (h : TB base Hb D ck ad u) : TB base Hb D ck ad U := by
  refine ⟨va_K.moved (by rw [hvm]; exact Vm.Alike.refl _) h.1, fun w hw => ?_, va_AO.moved (by rw [hvm]; exact Vm.Alike.refl _) h.2.2.1, SX.moved (by rw [hvm]; exact Vm.Alike.refl _) (fun q hq => vk_R.same hvm.symm hq) (fun a _ _ => by rw [hh]) h.2.2.2⟩
  have hz := h.2.1 w hw
  have : w.onTables = true := by
    revert hz hw
    simp only [nwl, List.mem_cons, List.mem_nil_iff, or_false]
    rintro (rfl | rfl | rfl | rfl | rfl | rfl | rfl | rfl) <;> intro _ <;> rfl
  exact va_Nw.same this hvm hz
theorem TB.warm {base : Nat} {Hb : Heap} {D : va_G} {ck : Nat → ClassId} {ad : Nat → Option Nat} {s U : State} (hW : s.WarmedH U.vm) (hq : ∀ a : Nat, a < s.heap.size → ¬ base + 1 ≤ a → U.heap[a]? = s.heap[a]?) (h : TB base Hb D ck ad s) : TB base Hb D ck ad U := by
  refine ⟨va_K.moved hW.alike h.1, fun w hw => ?_, va_AO.moved hW.alike h.2.2.1, SX.moved hW.alike (fun q hq => vk_R.warm hW hq) hq h.2.2.2⟩
  have hz := h.2.1 w hw
  revert hz hw
  simp only [nwl, List.mem_cons, List.mem_nil_iff, or_false]
  rintro (rfl | rfl | rfl | rfl | rfl | rfl | rfl | rfl) <;> intro hz
  · exact va_Nw.warmM hW hz
  · exact va_Nw.warmM hW hz
  · exact va_Nw.warmM hW hz
  · exact va_Nw.warmM hW hz
  · exact va_Nw.warmM hW hz
  · exact va_Nw.warmM hW hz
  · exact va_Nw.warmM hW hz
  · exact va_Nw.warmC hW hz
def PRE (base : Nat) (Hb : Heap) (D : va_G) (ck : Nat → ClassId) (ad : Nat → Option Nat) (S : St) (U : State) : Prop := U.heap.size = base + 1 + gZ S ∧ (∀ q : Nat, q ≤ base → U.heap[q]? = Hb[q]?) ∧ HR base D ck S U.heap ∧ TB base Hb D ck ad U
def QC (base : Nat) (D : va_G) (ck : Nat → ClassId) (ad : Nat → Option Nat) (r : Option Value) (S : St) : Array Value → State → Outcome → State → Prop := fun _ st oc t => oc = .returned (r.map (cv base ad)) ∧ HR base D ck S t.heap ∧ va_F (fun q => base + 1 ≤ q) st t
abbrev rmD (d a b : Nat) : Room := { frames := d + 1, cells := a, slots := b, locals := 64 * (d + 1) }
def MT (l : Launch) (base : Nat) (Hb : Heap) (D : va_G) (ck : Nat → ClassId) (ad : Nat → Option Nat) (d : Nat) (y : MethodName) (bytes : ByteArray) (maxL : Nat) (ret : Option FieldType) (as : List Value) (S : St) (r : Option Value) (S' : St) : Prop :=
  Met l y (.code y bytes maxL ret :: T0) (rmD d (gZ S' - gZ S) (gU S' - gU S)) (va_Pc (as.map (cv base ad)) (PRE base Hb D ck ad S)) (QC base D ck ad r S') (gZ S' - gZ S) (gU S' - gU S) (fun q => base + 1 ≤ q)
abbrev Mtab : Type := List (MethodName × ByteArray × Nat × Option FieldType)
/-- the calls that an oracle answers are what the machine does, with d frames at most below them -/
def OS (tab : Mtab) (l : Launch) (base : Nat) (Hb : Heap) (D : va_G) (ck : Nat → ClassId) (ad : Nat → Option Nat) (orc : Orc) (d : Nat) : Prop :=
  ∀ (i : Nat) (y : MethodName) (bytes : ByteArray) (maxL : Nat) (ret : Option FieldType), tab[i]? = some (y, bytes, maxL, ret) → ∀ (as : List Value) (S : St) (r : Option Value) (S' : St), orc i as S = some (r, S') → (gZ S ≤ gZ S' ∧ gU S ≤ gU S') ∧ MT l base Hb D ck ad d y bytes maxL ret as S r S'
abbrev xOS (tab : Mtab) (X : Cx) (orc : Orc) (d : Nat) : Prop := OS tab (xl X) (xb X) (xH X) (xD X) (xk X) (xS X) orc d
/-- how a method of the table ends -/
def XR (X : Cx) (ret : Option FieldType) : Prop := xQ X = MQ (xw X) (QC (xb X) (xD X) (xk X) (xS X) (xr X) (xf X)) (xa X) (xs X) (gZ (xf X) - gZ (x0 X)) (gU (xf X) - gU (x0 X)) (xA X) ∧ (xh X).sig.returnType = ret
section GKE
variable {X : Cx} {ps : Nat → Nat} {pc : Nat} {k kt kf : K} {cc : ByteArray} {own : String}
theorem rI_el {st : List Value} {f : Int32 → Option Rs} (h : RW X ps (rI st f)) : ∃ v, st = [.int v] ∧ RW X ps (f v) := by
  unfold rI at h
  split at h
  · exact ⟨_, rfl, h⟩
  · exact h.elim
theorem rL_el {st : List Value} {f : Int64 → Option Rs} (h : RW X ps (rL st f)) : ∃ v, st = [.long v] ∧ RW X ps (f v) := by
  unfold rL at h
  split at h
  · exact ⟨_, rfl, h⟩
  · exact h.elim
theorem rR_el {st : List Value} {f : Nat → Option Rs} (h : RW X ps (rR st f)) : ∃ v, st = [.ref v] ∧ RW X ps (f v) := by
  unfold rR at h
  split at h
  · exact ⟨_, rfl, h⟩
  · exact h.elim
theorem rV_el {st : List Value} {x : Option Rs} (h : RW X ps (rV st x)) : st = [] ∧ RW X ps x := by
  unfold rV at h
  split at h
  · exact ⟨rfl, h⟩
  · exact h.elim
theorem gk_iret (h : XM X cc own) (hR : XR X (some .int)) (hd : decode cc pc = .ok (.ireturn, 1)) : GK X ps pc o_iret := by
  intro ls st S hr
  obtain ⟨v, rfl, r1⟩ := rI_el hr
  obtain ⟨e1, e2⟩ := Prod.mk.inj (show (some (Value.int v), S) = (xr X, xf X) from r1)
  subst e2
  refine ⟨⟨Nat.le_refl _, Nat.le_refl _⟩, fun H locs lm a1 a2 a3 a4 a5 => ?_⟩
  rw [hR.1]
  exact W.iret (v := v) h.1.ex h.by hR.2 (fun t ht hW => ⟨by rw [← e1]; rfl, by rw [ht]; exact a1, a2.F ht⟩) a2.2.2 hd h.1.lk
theorem gk_zret (h : XM X cc own) (hR : XR X (some .boolean)) (hd : decode cc pc = .ok (.ireturn, 1)) : GK X ps pc o_zret := by
  intro ls st S hr
  obtain ⟨v, rfl, r0⟩ := rI_el hr
  obtain ⟨hv, r1⟩ := if_el r0
  obtain ⟨e1, e2⟩ := Prod.mk.inj (show (some (Value.int v), S) = (xr X, xf X) from r1)
  subst e2
  refine ⟨⟨Nat.le_refl _, Nat.le_refl _⟩, fun H locs lm a1 a2 a3 a4 a5 => ?_⟩
  rw [hR.1]
  exact W.zret (v := v) h.1.ex h.by hR.2 (by rcases hv with rfl | rfl <;> decide) (fun t ht hW => ⟨by rw [← e1]; rfl, by rw [ht]; exact a1, a2.F ht⟩) a2.2.2 hd h.1.lk
theorem gk_lret (h : XM X cc own) (hR : XR X (some .long)) (hd : decode cc pc = .ok (.lreturn, 1)) : GK X ps pc o_lret := by
  intro ls st S hr
  obtain ⟨v, rfl, r1⟩ := rL_el hr
  obtain ⟨e1, e2⟩ := Prod.mk.inj (show (some (Value.long v), S) = (xr X, xf X) from r1)
  subst e2
  refine ⟨⟨Nat.le_refl _, Nat.le_refl _⟩, fun H locs lm a1 a2 a3 a4 a5 => ?_⟩
  rw [hR.1]
  exact W.lret (v := v) h.1.ex h.by hR.2 (fun t ht hW => ⟨by rw [← e1]; rfl, by rw [ht]; exact a1, a2.F ht⟩) a2.2.2 hd h.1.lk
theorem gk_aret {rt : FieldType} (h : XM X cc own) (hR : XR X (some rt)) (hrt : (∃ n, rt = .object n) ∨ ∃ t, rt = .array t) (hd : decode cc pc = .ok (.areturn, 1)) : GK X ps pc o_aret := by
  intro ls st S hr
  obtain ⟨v, rfl, r1⟩ := rR_el hr
  obtain ⟨e1, e2⟩ := Prod.mk.inj (show (some (Value.ref v), S) = (xr X, xf X) from r1)
  subst e2
  refine ⟨⟨Nat.le_refl _, Nat.le_refl _⟩, fun H locs lm a1 a2 a3 a4 a5 => ?_⟩
  rw [hR.1]
  exact W.aret (v := xv X (.ref v)) h.1.ex h.by hR.2 hrt (by cases v with
    | zero => exact Or.inl rfl
    | succ v => exact Or.inr ⟨_, rfl⟩) (fun t ht hW => ⟨by rw [← e1]; rfl, by rw [ht]; exact a1, a2.F ht⟩) a2.2.2 hd h.1.lk
theorem gk_vret (h : XM X cc own) (hR : XR X none) (hd : decode cc pc = .ok (.return_, 1)) : GK X ps pc o_vret := by
  intro ls st S hr
  obtain ⟨rfl, r1⟩ := rV_el hr
  obtain ⟨e1, e2⟩ := Prod.mk.inj (show ((none : Option Value), S) = (xr X, xf X) from r1)
  subst e2
  refine ⟨⟨Nat.le_refl _, Nat.le_refl _⟩, fun H locs lm a1 a2 a3 a4 a5 => ?_⟩
  rw [hR.1]
  exact W.vret h.1.ex h.by hR.2 (fun t ht hW => ⟨by rw [← e1]; rfl, by rw [ht]; exact a1, a2.F ht⟩) a2.2.2 hd h.1.lk
theorem gk_ifnull {off : Int} {tgt : Nat} (h : XM X cc own) (hd : decode cc pc = .ok (.ifnull off, 3)) (ht : (pc : Int) + off = (tgt : Int)) (hkt : GK X ps tgt kt) (hkf : GK X ps (pc + 3) kf) : GK X ps pc (o_ifnull kt kf) := by
  intro ls st S hr
  obtain ⟨x, st, rfl, r1⟩ := tR_el hr
  cases x with
  | zero =>
    have r9 := r1
    rw [if_pos rfl] at r9
    obtain ⟨hm, hw⟩ := hkt _ _ _ r9
    exact ⟨hm, fun H locs lm a1 a2 a3 a4 a5 => lv_ifnullN h.1.ex h.by hd ht (hw H locs lm a1 a2 a3 a4 a5)⟩
  | succ x =>
    have r9 := r1
    rw [if_neg (by omega)] at r9
    obtain ⟨hm, hw⟩ := hkf _ _ _ r9
    exact ⟨hm, fun H locs lm a1 a2 a3 a4 a5 => lv_ifnull h.1.ex h.by hd (hw H locs lm a1 a2 a3 a4 a5)⟩
theorem gk_ifnonnull {off : Int} {tgt : Nat} (h : XM X cc own) (hd : decode cc pc = .ok (.ifnonnull off, 3)) (ht : (pc : Int) + off = (tgt : Int)) (hkt : GK X ps tgt kt) (hkf : GK X ps (pc + 3) kf) : GK X ps pc (o_ifnull kf kt) := by
  intro ls st S hr
  obtain ⟨x, st, rfl, r1⟩ := tR_el hr
  cases x with
  | zero =>
    have r9 := r1
    rw [if_pos rfl] at r9
    obtain ⟨hm, hw⟩ := hkf _ _ _ r9
    exact ⟨hm, fun H locs lm a1 a2 a3 a4 a5 => lv_ifnonnullN h.1.ex h.by hd (hw H locs lm a1 a2 a3 a4 a5)⟩
  | succ x =>
    have r9 := r1
    rw [if_neg (by omega)] at r9
    obtain ⟨hm, hw⟩ := hkt _ _ _ r9
    exact ⟨hm, fun H locs lm a1 a2 a3 a4 a5 => lv_ifnonnull h.1.ex h.by hd ht (hw H locs lm a1 a2 a3 a4 a5)⟩
theorem ro_inj {base x y : Nat} : ro base x = ro base y ↔ x = y := by
  cases x <;> cases y <;> simp [ro]
theorem gk_acmpne {off : Int} {tgt : Nat} (h : XM X cc own) (hd : decode cc pc = .ok (.if_acmp .ne off, 3)) (ht : (pc : Int) + off = (tgt : Int)) (hkt : GK X ps tgt kt) (hkf : GK X ps (pc + 3) kf) : GK X ps pc (o_aeq kf kt) := by
  intro ls st S hr
  obtain ⟨y, st, rfl, r1⟩ := tR_el hr
  obtain ⟨x, st, rfl, r2⟩ := tR_el r1
  have e : ∀ z : Nat, xv X (.ref z) = va_rf (ro (xb X) z) := fun z => (rv_ro _ _).symm
  by_cases hc : x = y
  · have r9 := r2
    rw [if_pos hc] at r9
    obtain ⟨hm, hw⟩ := hkf _ _ _ r9
    refine ⟨hm, fun H locs lm a1 a2 a3 a4 a5 => ?_⟩
    rw [List.map_cons, List.map_cons, e, e]
    exact lv_acmp_ne h.1.ex h.by hd ht (fun q => absurd (ro_inj.mpr hc) q) (fun q => hw H locs lm a1 a2 a3 a4 a5)
  · have r9 := r2
    rw [if_neg hc] at r9
    obtain ⟨hm, hw⟩ := hkt _ _ _ r9
    refine ⟨hm, fun H locs lm a1 a2 a3 a4 a5 => ?_⟩
    rw [List.map_cons, List.map_cons, e, e]
    exact lv_acmp_ne h.1.ex h.by hd ht (fun q => hw H locs lm a1 a2 a3 a4 a5) (fun q => absurd (ro_inj.mp q) hc)
/-- a table of cases from lo on, by its offsets; the rest goes on at the default -/
theorem gk_tsw {dflt lo hi : Int} {offs : Array Int} {len td : Nat} {kd : K} {cs : List (Int32 × K)} (h : XM X cc own) (hd : decode cc pc = .ok (.tableswitch dflt lo hi offs, len)) (htd : (pc : Int) + dflt = (td : Int)) (hkd : GK X ps td kd)
    (hcs : ∀ q ∈ cs, ∃ (tgt : Nat) (off : Int), ¬ q.1.toInt < lo ∧ ¬ hi < q.1.toInt ∧ offs[(q.1.toInt - lo).toNat]? = some off ∧ (pc : Int) + off = (tgt : Int) ∧ GK X ps tgt q.2) (hout : ∀ x : Int32, (∀ q ∈ cs, x ≠ q.1) → x.toInt < lo ∨ hi < x.toInt) : GK X ps pc (o_sw cs kd) := by
  intro ls st S hr
  obtain ⟨x, st, rfl, r1⟩ := tI_el hr
  by_cases hx : ∃ q ∈ cs, x = q.1
  · have key : ∀ cs : List (Int32 × K), (∃ q ∈ cs, x = q.1) → ∃ q ∈ cs, x = q.1 ∧ swc x ls st S cs kd = q.2 ls st S := by
      intro cs
      induction cs with
      | nil => rintro ⟨q, hq, -⟩; cases hq
      | cons c cs ih =>
        rintro ⟨q, hq, e⟩
        by_cases e2 : x = c.1
        · refine ⟨c, List.mem_cons_self, e2, ?_⟩
          obtain ⟨v, kk⟩ := c
          simp only [swc]
          rw [if_pos e2]
        · rcases List.mem_cons.mp hq with rfl | hq
          · exact absurd e e2
          · obtain ⟨q', h1, h2, h3⟩ := ih ⟨q, hq, e⟩
            refine ⟨q', List.mem_cons_of_mem _ h1, h2, ?_⟩
            obtain ⟨v, kk⟩ := c
            simp only [swc]
            rw [if_neg e2, h3]
    obtain ⟨q, hq, e, hs⟩ := key cs hx
    obtain ⟨tgt, off, g1, g2, g3, g4, g5⟩ := hcs q hq
    rw [hs] at r1
    obtain ⟨hm, hw⟩ := g5 _ _ _ r1
    rw [← e] at g1 g2 g3
    exact ⟨hm, fun H locs lm a1 a2 a3 a4 a5 => lv_tableIn h.1.ex h.by hd g1 g2 g3 g4 (hw H locs lm a1 a2 a3 a4 a5)⟩
  · have hn : ∀ q ∈ cs, x ≠ q.1 := fun q hq e => hx ⟨q, hq, e⟩
    have key : ∀ cs : List (Int32 × K), (∀ q ∈ cs, x ≠ q.1) → swc x ls st S cs kd = kd ls st S := by
      intro cs
      induction cs with
      | nil => intro _; rfl
      | cons c cs ih =>
        intro hh
        obtain ⟨v, kk⟩ := c
        simp only [swc]
        rw [if_neg (hh (v, kk) List.mem_cons_self), ih (fun q hq => hh q (List.mem_cons_of_mem _ hq))]
    rw [key cs hn] at r1
    obtain ⟨hm, hw⟩ := hkd _ _ _ r1
    exact ⟨hm, fun H locs lm a1 a2 a3 a4 a5 => lv_tableOut h.1.ex h.by hd (hout x hn) htd (hw H locs lm a1 a2 a3 a4 a5)⟩
theorem gk_obj {i : Nat} (h : XM X cc own) (hd : decode cc pc = .ok (.invokespecial i, 3)) (h1 : Cond.methodLink own i objectInit ∈ T0) (h2 : Cond.instanceMethod objectInit ∈ T0) (h3 : Cond.code objectInit ⟨#[0xb1]⟩ 1 none ∈ T0) (hk : GK X ps (pc + 3) k) : GK X ps pc (o_obj k) := by
  intro ls st S hr
  obtain ⟨a, st, rfl, r1⟩ := tR_el hr
  obtain ⟨ha, r2⟩ := fi_el r1
  obtain ⟨h8, r3⟩ := c8_el r2
  obtain ⟨hm, hw⟩ := hk _ _ _ r3
  refine ⟨hm, fun H locs lm a1 a2 a3 a4 a5 => ?_⟩
  have hrf := h.1.rf
  rw [List.map_cons, xv_ref (Nat.pos_of_ne_zero ha)]
  refine W.objInit h.1.ex h.by h.ow (h.1.ts _ h1) (h.1.ts _ h2) (h.1.ts _ h3) rfl (by rw [h.1.ml]; exact a3.1) rfl hd hrf.1 ?_ (hw H locs lm a1 a2 a3 a4 a5)
  have := catS_map (xb X) (xS X) st
  show 2 * 0 + _ + 12 ≤ _
  rw [this]
  omega
theorem gk_min {i : Nat} (h : XM X cc own) (hd : decode cc pc = .ok (.invokestatic i, 3)) (h1 : Cond.methodLink own i Lib.Math.min.name ∈ T0) (h2 : Cond.static Lib.Math.min.name ∈ T0) (h3 : Cond.initialized "java/lang/Math" ∈ T0) (h4 : Cond.code Lib.Math.min.name Lib.Math.min.code 2 (some .int) ∈ T0) (hk : GK X ps (pc + 3) k) : GK X ps pc (o_min k) := by
  intro ls st S hr
  obtain ⟨y, st, rfl, r1⟩ := tI_el hr
  obtain ⟨x, st, rfl, r2⟩ := tI_el r1
  obtain ⟨h8, r3⟩ := c8_el r2
  obtain ⟨hm, hw⟩ := hk _ _ _ r3
  refine ⟨hm, fun H locs lm a1 a2 a3 a4 a5 => ?_⟩
  have hrf := h.1.rf
  have hrm := h.1.rm
  have := catS_map (xb X) (xS X) st
  exact va_mmin h.1.ex h.by (by rw [h.1.ml]; exact a3.1.symm) h.ow (h.1.ts _ h1) (h.1.ts _ h2) (h.1.ts _ h3) (h.1.ts _ h4) hrf.1 (by rw [this]; omega) (by omega) (by omega) hd (hw H locs lm a1 a2 a3 a4 a5)
end GKE
