/-! the constant text: its class's own methods, as far as charAt goes -/
abbrev o_bad : K := fun _ _ _ => none
abbrev o_scod (k : K) : K := fun ls st S => tS st fun q st => if q = 0 then k ls (.int 0 :: st) S else none
abbrev o_sval (k : K) : K := fun ls st S => tS st fun q st => if q = 0 then k ls (.retAddr 10 :: st) S else none
abbrev o_slen (k : K) : K := fun ls st S => tS st fun q st => if q = 10 then k ls (.int 102 :: st) S else none
abbrev o_sbald (k : K) : K := fun ls st S => tI st fun j st => tS st fun q st => if q = 10 ∧ inB j 102 then k ls (.int (vkB0.getD j.toNatClampNeg 0) :: st) S else none
abbrev o_cret : K := fun _ st S => rI st fun v => if 0 ≤ v.toInt ∧ v.toInt < 65536 then some (.inr (some (.int v), S)) else none
def hdS (as : List Value) (f : Nat → Option Rs) : Option Rs := match as with
  | .retAddr a :: _ => f a
  | _ => none
abbrev o_wI (orc : Orc) (i n : Nat) (k : K) : K := fun ls st S => hdS (st.take n).reverse fun a => if a = 0 then ckn n st (eI (orc i (st.take n).reverse S) fun v S => k ls (.int v :: st.drop n) S) else none
section GKS2
variable {X : Cx} {ps : Nat → Nat} {pc : Nat} {k : K} {cc : ByteArray} {own : String}
theorem gk_bad : GK X ps pc o_bad := fun _ _ _ hr => hr.elim
theorem hdS_el {as : List Value} {f : Nat → Option Rs} (h : RW X ps (hdS as f)) : ∃ a as', as = .retAddr a :: as' ∧ RW X ps (f a) := by
  unfold hdS at h
  split at h
  · exact ⟨_, _, rfl, h⟩
  · exact h.elim
theorem gk_ldcS (h : XM X cc own) (ho : own = "TruceWall$Reader") (hd : decode cc pc = .ok (.ldc 157, 2)) (hk : GK X ps (pc + 2) k) : GK X ps pc (o_str 0 k) := by
  intro ls st S hr
  obtain ⟨hm, hw⟩ := hk _ _ _ hr
  refine ⟨hm, fun H locs lm a1 a2 a3 a4 a5 => ?_⟩
  obtain ⟨⟨q, qv, e1, e2, h1, h2, h3, h4, h5⟩, h6, h7⟩ := h.1.tb.2.2.2
  have hw := hw H locs lm a1 a2 a3 a4 a5
  rw [List.map_cons, show xv X (.retAddr 0) = .ref q by show va_rf (xS X 0) = _; rw [e1]; rfl] at hw
  exact va_ldcS h.1.ex h.by (by rw [← ho]; exact h.ow) h1 hd hw
theorem gk_gcomp {i : Nat} (h : XM X cc own) (hd : decode cc pc = .ok (.getstatic i, 3)) (hl : Cond.fieldLink own i "java/lang/String" "COMPACT_STRINGS" "Z" ∈ T0) (hk : GK X ps (pc + 3) k) : GK X ps pc (o_iconst 1 k) := by
  intro ls st S hr
  obtain ⟨hm, hw⟩ := hk _ _ _ hr
  refine ⟨hm, fun H locs lm a1 a2 a3 a4 a5 => ?_⟩
  exact va_gets h.1.ex h.by h.1.tb.2.2.2.2.1 a2 h.ow (h.1.ts _ hl) (fun _ z => z) hd (hw H locs lm a1 a2 a3 a4 a5)
theorem gk_gfmt {i : Nat} (h : XM X cc own) (hd : decode cc pc = .ok (.getstatic i, 3)) (hl : Cond.fieldLink own i vk_pre "SIOOBE_FORMATTER" vk_fmt ∈ T0) (hk : GK X ps (pc + 3) k) : GK X ps pc (o_str 20 k) := by
  intro ls st S hr
  obtain ⟨hm, hw⟩ := hk _ _ _ hr
  refine ⟨hm, fun H locs lm a1 a2 a3 a4 a5 => ?_⟩
  exact va_gets h.1.ex h.by h.1.tb.2.2.2.2.2 a2 h.ow (h.1.ts _ hl) (fun _ z => z) hd (hw H locs lm a1 a2 a3 a4 a5)
theorem gk_scod {i : Nat} (h : XM X cc own) (hd : decode cc pc = .ok (.getfield i, 3)) (hl : Cond.fieldLink own i "java/lang/String" "coder" "B" ∈ T0) (hk : GK X ps (pc + 3) k) : GK X ps pc (o_scod k) := by
  intro ls st S hr
  obtain ⟨z, st, rfl, r1⟩ := tS_el hr
  obtain ⟨rfl, r2⟩ := if_el r1
  obtain ⟨hm, hw⟩ := hk _ _ _ r2
  refine ⟨hm, fun H locs lm a1 a2 a3 a4 a5 => ?_⟩
  obtain ⟨⟨q, qv, e1, e2, h1, h2, h3, h4, h5⟩, h6, h7⟩ := h.1.tb.2.2.2
  rw [List.map_cons, show xv X (.retAddr 0) = .ref q by show va_rf (xS X 0) = _; rw [e1]; rfl]
  exact vk_getf h.1.ex h.by h3 a2 h.ow (h.1.ts _ hl) (fun _ z => z) hd (hw H locs lm a1 a2 a3 a4 a5)
theorem gk_sval {i : Nat} (h : XM X cc own) (hd : decode cc pc = .ok (.getfield i, 3)) (hl : Cond.fieldLink own i "java/lang/String" "value" "[B" ∈ T0) (hk : GK X ps (pc + 3) k) : GK X ps pc (o_sval k) := by
  intro ls st S hr
  obtain ⟨z, st, rfl, r1⟩ := tS_el hr
  obtain ⟨rfl, r2⟩ := if_el r1
  obtain ⟨hm, hw⟩ := hk _ _ _ r2
  refine ⟨hm, fun H locs lm a1 a2 a3 a4 a5 => ?_⟩
  obtain ⟨⟨q, qv, e1, e2, h1, h2, h3, h4, h5⟩, h6, h7⟩ := h.1.tb.2.2.2
  have hw := hw H locs lm a1 a2 a3 a4 a5
  rw [List.map_cons, show xv X (.retAddr 10) = .ref qv by show va_rf (xS X 10) = _; rw [e2]; rfl] at hw
  rw [List.map_cons, show xv X (.retAddr 0) = .ref q by show va_rf (xS X 0) = _; rw [e1]; rfl]
  exact vk_getf h.1.ex h.by h4 a2 h.ow (h.1.ts _ hl) (fun _ z => z) hd hw
theorem gk_slen (h : XM X cc own) (hd : decode cc pc = .ok (.arraylength, 1)) (hk : GK X ps (pc + 1) k) : GK X ps pc (o_slen k) := by
  intro ls st S hr
  obtain ⟨z, st, rfl, r1⟩ := tS_el hr
  obtain ⟨rfl, r2⟩ := if_el r1
  obtain ⟨hm, hw⟩ := hk _ _ _ r2
  refine ⟨hm, fun H locs lm a1 a2 a3 a4 a5 => ?_⟩
  obtain ⟨⟨q, qv, e1, e2, h1, h2, h3, h4, h5⟩, h6, h7⟩ := h.1.tb.2.2.2
  rw [List.map_cons, show xv X (.retAddr 10) = .ref qv by show va_rf (xS X 10) = _; rw [e2]; rfl]
  exact va_tlen h.1.ex h.by h5 a2 rfl hd (hw H locs lm a1 a2 a3 a4 a5)
theorem gk_sbald (h : XM X cc own) (hd : decode cc pc = .ok (.baload, 1)) (hk : GK X ps (pc + 1) k) : GK X ps pc (o_sbald k) := by
  intro ls st S hr
  obtain ⟨j, st, rfl, r0⟩ := tI_el hr
  obtain ⟨z, st, rfl, r1⟩ := tS_el r0
  obtain ⟨⟨rfl, hj⟩, r2⟩ := if_el r1
  obtain ⟨hm, hw⟩ := hk _ _ _ r2
  refine ⟨hm, fun H locs lm a1 a2 a3 a4 a5 => ?_⟩
  obtain ⟨⟨q, qv, e1, e2, h1, h2, h3, h4, h5⟩, h6, h7⟩ := h.1.tb.2.2.2
  rw [List.map_cons, List.map_cons, show xv X (.retAddr 10) = .ref qv by show va_rf (xS X 10) = _; rw [e2]; rfl]
  exact va_tb h.1.ex h.by h5 a2 (vp_inB hj) rfl hd (hw H locs lm a1 a2 a3 a4 a5)
theorem gk_cret (h : XM X cc own) (hR : XR X (some .char)) (hd : decode cc pc = .ok (.ireturn, 1)) : GK X ps pc o_cret := by
  intro ls st S hr
  obtain ⟨v, rfl, r0⟩ := rI_el hr
  obtain ⟨hv, r1⟩ := if_el r0
  obtain ⟨e1, e2⟩ := Prod.mk.inj (show (some (Value.int v), S) = (xr X, xf X) from r1)
  subst e2
  refine ⟨⟨Nat.le_refl _, Nat.le_refl _⟩, fun H locs lm a1 a2 a3 a4 a5 => ?_⟩
  rw [hR.1]
  have hn : narrow .char (.int v) = .int v := by
    obtain ⟨j, hj, rfl⟩ := nI_of (x := v) (by rw [Int32.lt_iff_toInt_lt, Int32.toInt_zero]; omega)
    rw [nI_toInt hj] at hv
    exact (pk_charN (q := j) (by omega)).1
  exact W.zret (v := v) h.1.ex h.by hR.2 hn (fun t ht hW => ⟨by rw [← e1]; rfl, by rw [ht]; exact a1, a2.F ht⟩) a2.2.2 hd h.1.lk
def CAw (X : Cx) (orc : Orc) (i n pc : Nat) : Prop := ∀ (st : List Value) (S : St) (r : Option Value) (S' : St) (as : List Value), n ≤ st.length → catS (st.drop n) ≤ 8 → (st.take n).reverse = .retAddr 0 :: as → orc i (st.take n).reverse S = some (r, S') → CAW X pc n st S r S'
theorem take_revS {st as : List Value} {n a : Nat} (h : (st.take n).reverse = .retAddr a :: as) : (as.map (xv X)).reverse ++ xv X (.retAddr a) :: (st.drop n).map (xv X) = st.map (xv X) := by
  have : as.reverse ++ [Value.retAddr a] = st.take n := by rw [← List.reverse_cons, ← h, List.reverse_reverse]
  calc (as.map (xv X)).reverse ++ xv X (.retAddr a) :: (st.drop n).map (xv X) = (as.reverse ++ [Value.retAddr a]).map (xv X) ++ (st.drop n).map (xv X) := by
        rw [List.map_append, List.map_reverse, List.append_assoc]; rfl
    _ = st.map (xv X) := by rw [this, ← List.map_append, List.take_append_drop]
theorem ca_w {tab : Mtab} {orc : Orc} {d i n idx maxL : Nat} {y : MethodName} {bytes : ByteArray} {ret : Option FieldType} (h : XM X cc own) (ho : xOS tab X orc d) (hi : tab[i]? = some (y, bytes, maxL, ret)) (hR : Rd X d maxL) (hd : decode cc pc = .ok (.invokevirtual idx, 3)) (hl : Cond.methodLink own idx y ∈ T0) (hins : Cond.instanceMethod y ∈ T0) (hse : Cond.selects "java/lang/String" y y ∈ T0) (hin : Cond.initialized "java/lang/String" ∈ T0) (hcd : Cond.code y bytes maxL ret ∈ T0) (hyc : y.cls = "java/lang/String") (hy : Yd y (n - 1)) (hn1 : 0 < n) : CAw X orc i n pc := by
  intro st S r S' as hn h8 has he
  obtain ⟨⟨m1, m2⟩, hMT⟩ := ho i y bytes maxL ret hi _ _ _ _ he
  refine ⟨⟨m1, m2⟩, fun hm H locs lm a1 a2 a3 a4 a5 kk => W_sz fun hs => ?_⟩
  have hrm := h.1.rm
  have hcs := catS_map (xb X) (xS X) (st.drop n)
  obtain ⟨⟨q, qv, e1, e2, h1, h2, h3, h4, h5⟩, h6, h7⟩ := h.1.tb.2.2.2
  have hxv : xv X (.retAddr 0) = .ref q := by show va_rf (xS X 0) = _; rw [e1]; rfl
  rw [has] at hMT
  have hlen : as.length = n - 1 := by
    have := congrArg List.length has
    simp at this
    omega
  refine call_W (r := r) (S' := S') (rest := (st.drop n).map (xv X)) (va_runV (C := "java/lang/String") (b := q) (As := as.map (xv X)) ⟨h.1.ex, h.by, h.1.ml, h.ow, h.1.ts⟩ hMT (cwV (n - 1) h.1.ts (goodL _ (fun w hw => by
      rcases List.mem_cons.mp hw with rfl | hw
      · exact hl
      · rcases List.mem_cons.mp hw with rfl | hw
        · exact hins
        · rcases List.mem_cons.mp hw with rfl | hw
          · exact hse
          · rw [List.mem_singleton.mp hw]; exact hin) (goodT0 hcd)) rfl rfl rfl ⟨hyc, hy⟩ ⟨by show d + 1 + 1 ≤ _; omega, by show _ + 64 * (d + 1) ≤ _; exact hR.2⟩) ⟨PRE_blind, va_Orecv h2 a2, fun U hU hW => ⟨by rw [List.map_cons, show cv (xb X) (xS X) (.retAddr 0) = .ref q from hxv], pre_at (cells := 0) h.1 a1 a2 a4 hs U hU hW⟩⟩ rfl (by simp; omega) a3 (by rw [← hxv, take_revS has]) (by show 2 * 0 + _ ≤ 8; rw [hcs]; omega) hd ⟨by omega, by omega⟩) a2 (fun H1 locs1 b1 b2 => ?_)
  have e1 : gZ S - gZ (x0 X) + (gZ S' - gZ S) = gZ S' - gZ (x0 X) := by omega
  have e2 : gU S - gU (x0 X) + (gU S' - gU S) = gU S' - gU (x0 X) := by omega
  rw [e1, e2]
  exact kk H1 locs1 b1 b2
theorem gk_wI {orc : Orc} {i n : Nat} (hc : CAw X orc i n pc) (hk : GK X ps (pc + 3) k) : GK X ps pc (o_wI orc i n k) := by
  intro ls st S hr
  obtain ⟨a, as, has, r0⟩ := hdS_el hr
  obtain ⟨rfl, r00⟩ := if_el r0
  obtain ⟨hn, h8, r1⟩ := cn_el r00
  obtain ⟨v, S1, he, r2⟩ := eI_el r1
  obtain ⟨hm, hw⟩ := hk _ _ _ r2
  obtain ⟨hm1, hw1⟩ := hc st S _ S1 as hn h8 has he
  exact ⟨⟨by omega, by omega⟩, fun H locs lm a1 a2 a3 a4 a5 => hw1 hm H locs lm a1 a2 a3.1 a4 a5 (fun H1 locs1 b1 b2 => hw H1 locs1 lm b1 b2 a3 (by omega) (by omega))⟩
end GKS2
