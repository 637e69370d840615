/-! calls -/
section GKI
variable {X : Cx} {ps : Nat → Nat} {pc : Nat} {k kt kf : K} {cc : ByteArray} {own : String}
/-- what a call gives: the callee's answer and state, nothing else moved -/
def CAW (X : Cx) (pc n : Nat) (st : List Value) (S : St) (r : Option Value) (S' : St) : Prop :=
  (gZ S ≤ gZ S' ∧ gU S ≤ gU S') ∧ ((gZ S' ≤ gZ (xf X) ∧ gU S' ≤ gU (xf X)) → ∀ (H : Heap) (locs : List Loc) (lm : Array Slot), HR (xb X) (xD X) (xk X) S H → va_S (xA X) (xs X).heap H locs → lm.size = xn X → gZ (x0 X) ≤ gZ S → gU (x0 X) ≤ gU S →
    (∀ (H1 : Heap) (locs1 : List Loc), HR (xb X) (xD X) (xk X) S' H1 → va_S (xA X) (xs X).heap H1 locs1 → W (xp X) (xl X) (xe X) (xR X) (xs X) (xm X) (xa X) (xw X) (xh X) (xc X) H1 locs1 (gZ S' - gZ (x0 X)) (gU S' - gU (x0 X)) (xQ X) (F0 (xm X) (pc + 3) lm ((r.map (xv X)).toList ++ (st.drop n).map (xv X)))) →
    W (xp X) (xl X) (xe X) (xR X) (xs X) (xm X) (xa X) (xw X) (xh X) (xc X) H locs (gZ S - gZ (x0 X)) (gU S - gU (x0 X)) (xQ X) (F0 (xm X) pc lm (st.map (xv X))))
def CAs (X : Cx) (orc : Orc) (i n pc : Nat) : Prop := ∀ (st : List Value) (S : St) (r : Option Value) (S' : St), n ≤ st.length → catS (st.drop n) ≤ 8 → orc i (st.take n).reverse S = some (r, S') → CAW X pc n st S r S'
def CAv (X : Cx) (orc : Orc) (i n c pc : Nat) : Prop := ∀ (st : List Value) (S : St) (r : Option Value) (S' : St) (a : Nat) (as : List Value), n ≤ st.length → catS (st.drop n) ≤ 8 → (st.take n).reverse = .ref a :: as → gK S a = c → orc i (st.take n).reverse S = some (r, S') → CAW X pc n st S r S'
def CAn (X : Cx) (orc : Orc) (i n pc : Nat) : Prop := ∀ (st : List Value) (S : St) (r : Option Value) (S' : St) (a : Nat) (as : List Value), n ≤ st.length → catS (st.drop n) ≤ 8 → (st.take n).reverse = .ref a :: as → a ≠ 0 → orc i (st.take n).reverse S = some (r, S') → CAW X pc n st S r S'
theorem goodL {ws : List Cond} (l : List Cond) (hl : ∀ w ∈ l, w ∈ T0) (hw : GoodIn T0 ws) : GoodIn T0 (l ++ ws) := fun w h => by
  rcases List.mem_append.mp h with h | h
  · exact ⟨hl w h, good_of_word (List.mem_filter.mp (hl w h)).2⟩
  · exact hw w h
theorem take_rev {st : List Value} {n : Nat} : (((st.take n).reverse).map (xv X)).reverse ++ (st.drop n).map (xv X) = st.map (xv X) := by
  rw [← List.map_reverse, List.reverse_reverse, ← List.map_append, List.take_append_drop]
theorem take_rev1 {st as : List Value} {n a : Nat} (h : (st.take n).reverse = .ref a :: as) : (as.map (xv X)).reverse ++ xv X (.ref a) :: (st.drop n).map (xv X) = st.map (xv X) := by
  have : as.reverse ++ [Value.ref a] = st.take n := by rw [← List.reverse_cons, ← h, List.reverse_reverse]
  calc (as.map (xv X)).reverse ++ xv X (.ref a) :: (st.drop n).map (xv X) = (as.reverse ++ [Value.ref a]).map (xv X) ++ (st.drop n).map (xv X) := by
        rw [List.map_append, List.map_reverse, List.append_assoc]; rfl
    _ = st.map (xv X) := by rw [this, ← List.map_append, List.take_append_drop]
abbrev Yd (y : MethodName) (n : Nat) : Prop := y.cls ≠ "java/lang/invoke/MethodHandle" ∧ y.cls ≠ "java/lang/invoke/VarHandle" ∧ (parseMethodDescriptor y.desc).map (fun d => d.parameters.length) = some n
abbrev Rd (X : Cx) (d maxL : Nat) : Prop := d + 2 ≤ (xR X).frames ∧ 8 + (maxL + 11) + 64 * (d + 1) ≤ (xR X).locals
theorem ca_s {tab : Mtab} {orc : Orc} {d i n idx maxL : Nat} {y : MethodName} {bytes : ByteArray} {ret : Option FieldType} (h : XM X cc own) (ho : xOS tab X orc d) (hi : tab[i]? = some (y, bytes, maxL, ret)) (hR : Rd X d maxL) (hd : decode cc pc = .ok (.invokestatic idx, 3)) (hl : Cond.methodLink own idx y ∈ T0) (hst : Cond.static y ∈ T0) (hin : Cond.initialized y.cls ∈ T0) (hcd : Cond.code y bytes maxL ret ∈ T0) (hy : Yd y n) : CAs X orc i n pc := by
  intro st S r S'  hn h8  he
  obtain ⟨⟨m1, m2⟩, hMT⟩ := ho i y bytes maxL ret hi _ _ _ _ he
  refine ⟨⟨m1, m2⟩, fun hm H locs lm a1 a2 a3 a4 a5 kk => W_sz fun hs => ?_⟩
  have hrm := h.1.rm
  have hcs := catS_map (xb X) (xS X) (st.drop n)
  refine call_W (r := r) (S' := S') (rest := (st.drop n).map (xv X)) (va_runS (As := ((st.take n).reverse).map (xv X)) ⟨h.1.ex, h.by, h.1.ml, h.ow, h.1.ts⟩ hMT (va_cwS n h.1.ts (goodL _ (fun w hw => by
      rcases List.mem_cons.mp hw with rfl | hw
      · exact hl
      · rcases List.mem_cons.mp hw with rfl | hw
        · exact hst
        · rw [List.mem_singleton.mp hw]; exact hin) (goodT0 hcd)) rfl rfl rfl hy ⟨by show d + 1 + 1 ≤ _; omega, by show _ + 64 * (d + 1) ≤ _; exact hR.2⟩) ⟨PRE_blind, fun U hU hW => ⟨rfl, pre_at (cells := 0) h.1 a1 a2 a4 hs U hU hW⟩⟩ rfl (by simp; omega) a3 (by rw [take_rev]) (by show 2 * 0 + _ ≤ 8; rw [hcs]; omega) hd ⟨by omega, by omega⟩) a2 (fun H1 locs1 b1 b2 => ?_)
  have e1 : gZ S - gZ (x0 X) + (gZ S' - gZ S) = gZ S' - gZ (x0 X) := by omega
  have e2 : gU S - gU (x0 X) + (gU S' - gU S) = gU S' - gU (x0 X) := by omega
  rw [e1, e2]
  exact kk H1 locs1 b1 b2
theorem ca_v {tab : Mtab} {orc : Orc} {d i n c idx maxL : Nat} {C : String} {T : u_T} {y : MethodName} {bytes : ByteArray} {ret : Option FieldType} (h : XM X cc own) (ho : xOS tab X orc d) (hi : tab[i]? = some (y, bytes, maxL, ret)) (hR : Rd X d maxL) (hC : CK c C T) (hd : decode cc pc = .ok (.invokevirtual idx, 3)) (hl : Cond.methodLink own idx y ∈ T0) (hins : Cond.instanceMethod y ∈ T0) (hse : Cond.selects C y y ∈ T0) (hin : Cond.initialized C ∈ T0) (hcd : Cond.code y bytes maxL ret ∈ T0) (hyc : y.cls = C) (hy : Yd y (n - 1)) (hn1 : 0 < n) : CAv X orc i n c pc := by
  intro st S r S' a as hn h8 has hka he
  obtain ⟨⟨m1, m2⟩, hMT⟩ := ho i y bytes maxL ret hi _ _ _ _ he
  refine ⟨⟨m1, m2⟩, fun hm H locs lm a1 a2 a3 a4 a5 kk => W_sz fun hs => ?_⟩
  have hrm := h.1.rm
  have hcs := catS_map (xb X) (xS X) (st.drop n)
  obtain ⟨p0, p1⟩ := a1.live hka (by have := hC.2.1; omega)
  have hw := wl_get (base := xb X) (ck := xk X) p0 p1
  rw [ce_obj hka hC.2.1] at hw
  rw [has] at hMT
  have hlen : as.length = n - 1 := by
    have := congrArg List.length has
    simp at this
    omega
  refine call_W (r := r) (S' := S') (rest := (st.drop n).map (xv X)) (va_runV (C := C) (b := xb X + a) (As := as.map (xv X)) ⟨h.1.ex, h.by, h.1.ml, h.ow, h.1.ts⟩ hMT (cwV (n - 1) h.1.ts (goodL _ (fun w hw => by
      rcases List.mem_cons.mp hw with rfl | hw
      · exact hl
      · rcases List.mem_cons.mp hw with rfl | hw
        · exact hins
        · rcases List.mem_cons.mp hw with rfl | hw
          · exact hse
          · rw [List.mem_singleton.mp hw]; exact hin) (goodT0 hcd)) rfl rfl rfl ⟨hyc, hy⟩ ⟨by show d + 1 + 1 ≤ _; omega, by show _ + 64 * (d + 1) ≤ _; exact hR.2⟩) ⟨PRE_blind, va_recv h.1.tb.1 a1.1 hC.1 hw, fun U hU hW => ⟨by rw [List.map_cons, show cv (xb X) (xS X) (.ref a) = .ref (xb X + a) from xv_ref p0], pre_at (cells := 0) h.1 a1 a2 a4 hs U hU hW⟩⟩ rfl (by simp; omega) a3 (by rw [← xv_ref (X := X) p0, take_rev1 has]) (by show 2 * 0 + _ ≤ 8; rw [hcs]; omega) hd ⟨by omega, by omega⟩) a2 (fun H1 locs1 b1 b2 => ?_)
  have e1 : gZ S - gZ (x0 X) + (gZ S' - gZ S) = gZ S' - gZ (x0 X) := by omega
  have e2 : gU S - gU (x0 X) + (gU S' - gU S) = gU S' - gU (x0 X) := by omega
  rw [e1, e2]
  exact kk H1 locs1 b1 b2
theorem ca_vN {tab : Mtab} {orc : Orc} {d i n c idx maxL : Nat} {C : String} {T : u_T} {y : MethodName} {bytes : ByteArray} {ret : Option FieldType} (h : XM X cc own) (ho : xOS tab X orc d) (hi : tab[i]? = some (y, bytes, maxL, ret)) (hR : Rd X d maxL) (hC : CK c C T) (hd : decode cc pc = .ok (.invokevirtual idx, 3)) (hl : Cond.methodLinkNest own idx y "TruceWall" ∈ nwl) (hins : Cond.instanceMethod y ∈ T0) (hse : Cond.selects C y y ∈ T0) (hin : Cond.initialized C ∈ T0) (hcd : Cond.code y bytes maxL ret ∈ T0) (hyc : y.cls = C) (hy : Yd y (n - 1)) (hn1 : 0 < n) : CAv X orc i n c pc := by
  intro st S r S' a as hn h8 has hka he
  obtain ⟨⟨m1, m2⟩, hMT⟩ := ho i y bytes maxL ret hi _ _ _ _ he
  refine ⟨⟨m1, m2⟩, fun hm H locs lm a1 a2 a3 a4 a5 kk => W_sz fun hs => ?_⟩
  have hrm := h.1.rm
  have hcs := catS_map (xb X) (xS X) (st.drop n)
  obtain ⟨p0, p1⟩ := a1.live hka (by have := hC.2.1; omega)
  have hw := wl_get (base := xb X) (ck := xk X) p0 p1
  rw [ce_obj hka hC.2.1] at hw
  rw [has] at hMT
  have hlen : as.length = n - 1 := by
    have := congrArg List.length has
    simp at this
    omega
  refine call_W (r := r) (S' := S') (rest := (st.drop n).map (xv X)) (va_runVN (C := C) (b := xb X + a) (As := as.map (xv X)) ⟨h.1.ex, h.by, h.1.ml, h.ow, h.1.ts⟩ hMT (⟨va_cnB (host := "TruceWall") (n - 1) h.1.ts (goodT0 hcd) rfl rfl rfl (h.1.tb.2.1 _ hl) (h.1.ts _ (by rw [hyc]; exact hin)) hy ⟨by show d + 1 + 1 ≤ _; omega, by show _ + 64 * (d + 1) ≤ _; exact hR.2⟩, h.1.ts _ hins, h.1.ts _ hse⟩) ⟨PRE_blind, va_recv h.1.tb.1 a1.1 hC.1 hw, fun U hU hW => ⟨by rw [List.map_cons, show cv (xb X) (xS X) (.ref a) = .ref (xb X + a) from xv_ref p0], pre_at (cells := 0) h.1 a1 a2 a4 hs U hU hW⟩⟩ rfl (by simp; omega) a3 (by rw [← xv_ref (X := X) p0, take_rev1 has]) (by show 2 * 0 + _ ≤ 8; rw [hcs]; omega) hd ⟨by omega, by omega⟩) a2 (fun H1 locs1 b1 b2 => ?_)
  have e1 : gZ S - gZ (x0 X) + (gZ S' - gZ S) = gZ S' - gZ (x0 X) := by omega
  have e2 : gU S - gU (x0 X) + (gU S' - gU S) = gU S' - gU (x0 X) := by omega
  rw [e1, e2]
  exact kk H1 locs1 b1 b2
theorem ca_n {tab : Mtab} {orc : Orc} {d i n idx maxL : Nat} {y : MethodName} {bytes : ByteArray} (h : XM X cc own) (ho : xOS tab X orc d) (hi : tab[i]? = some (y, bytes, maxL, none)) (hR : Rd X d maxL) (hd : decode cc pc = .ok (.invokespecial idx, 3)) (hl : Cond.methodLink own idx y ∈ T0) (hins : Cond.instanceMethod y ∈ T0) (hin : Cond.initialized y.cls ∈ T0) (hcd : Cond.code y bytes maxL none ∈ T0) (hyn : y.name = "<init>") (hy : Yd y (n - 1)) (hn1 : 0 < n) : CAn X orc i n pc := by
  intro st S r S' a as hn h8 has ha0 he
  obtain ⟨⟨m1, m2⟩, hMT⟩ := ho i y bytes maxL none hi _ _ _ _ he
  refine ⟨⟨m1, m2⟩, fun hm H locs lm a1 a2 a3 a4 a5 kk => W_sz fun hs => ?_⟩
  have hrm := h.1.rm
  have hcs := catS_map (xb X) (xS X) (st.drop n)
  have p0 : 0 < a := Nat.pos_of_ne_zero ha0
  rw [has] at hMT
  have hlen : as.length = n - 1 := by
    have := congrArg List.length has
    simp at this
    omega
  refine call_W (r := r) (S' := S') (rest := (st.drop n).map (xv X)) (va_runI (b := xb X + a) (As := as.map (xv X)) ⟨h.1.ex, h.by, h.1.ml, h.ow, h.1.ts⟩ hMT (cwI (n - 1) h.1.ts (goodT0 hcd) rfl rfl rfl (h.1.ts _ hin) (h.1.ts _ hl) (h.1.ts _ hins) hyn hy ⟨by show d + 1 + 1 ≤ _; omega, by show _ + 64 * (d + 1) ≤ _; exact hR.2⟩) ⟨PRE_blind, fun U hU hW => ⟨by rw [List.map_cons, show cv (xb X) (xS X) (.ref a) = .ref (xb X + a) from xv_ref p0], pre_at (cells := 0) h.1 a1 a2 a4 hs U hU hW⟩⟩ rfl (by simp; omega) a3 (by rw [← xv_ref (X := X) p0, take_rev1 has]) (by show 2 * 0 + _ ≤ 8; rw [hcs]; omega) hd ⟨by omega, by omega⟩) a2 (fun H1 locs1 b1 b2 => ?_)
  have e1 : gZ S - gZ (x0 X) + (gZ S' - gZ S) = gZ S' - gZ (x0 X) := by omega
  have e2 : gU S - gU (x0 X) + (gU S' - gU S) = gU S' - gU (x0 X) := by omega
  rw [e1, e2]
  exact kk H1 locs1 b1 b2
theorem ca_nN {tab : Mtab} {orc : Orc} {d i n idx maxL : Nat} {y : MethodName} {bytes : ByteArray} (h : XM X cc own) (ho : xOS tab X orc d) (hi : tab[i]? = some (y, bytes, maxL, none)) (hR : Rd X d maxL) (hd : decode cc pc = .ok (.invokespecial idx, 3)) (hl : Cond.methodLinkNest own idx y "TruceWall" ∈ nwl) (hins : Cond.instanceMethod y ∈ T0) (hin : Cond.initialized y.cls ∈ T0) (hcd : Cond.code y bytes maxL none ∈ T0) (hyn : y.name = "<init>") (hy : Yd y (n - 1)) (hn1 : 0 < n) : CAn X orc i n pc := by
  intro st S r S' a as hn h8 has ha0 he
  obtain ⟨⟨m1, m2⟩, hMT⟩ := ho i y bytes maxL none hi _ _ _ _ he
  refine ⟨⟨m1, m2⟩, fun hm H locs lm a1 a2 a3 a4 a5 kk => W_sz fun hs => ?_⟩
  have hrm := h.1.rm
  have hcs := catS_map (xb X) (xS X) (st.drop n)
  have p0 : 0 < a := Nat.pos_of_ne_zero ha0
  rw [has] at hMT
  have hlen : as.length = n - 1 := by
    have := congrArg List.length has
    simp at this
    omega
  refine call_W (r := r) (S' := S') (rest := (st.drop n).map (xv X)) (va_runIN (b := xb X + a) (As := as.map (xv X)) ⟨h.1.ex, h.by, h.1.ml, h.ow, h.1.ts⟩ hMT (⟨va_cnB (host := "TruceWall") (n - 1) h.1.ts (goodT0 hcd) rfl rfl rfl (h.1.tb.2.1 _ hl) (h.1.ts _ hin) hy ⟨by show d + 1 + 1 ≤ _; omega, by show _ + 64 * (d + 1) ≤ _; exact hR.2⟩, hyn, h.1.ts _ hins⟩) ⟨PRE_blind, fun U hU hW => ⟨by rw [List.map_cons, show cv (xb X) (xS X) (.ref a) = .ref (xb X + a) from xv_ref p0], pre_at (cells := 0) h.1 a1 a2 a4 hs U hU hW⟩⟩ rfl (by simp; omega) a3 (by rw [← xv_ref (X := X) p0, take_rev1 has]) (by show 2 * 0 + _ ≤ 8; rw [hcs]; omega) hd ⟨by omega, by omega⟩) a2 (fun H1 locs1 b1 b2 => ?_)
  have e1 : gZ S - gZ (x0 X) + (gZ S' - gZ S) = gZ S' - gZ (x0 X) := by omega
  have e2 : gU S - gU (x0 X) + (gU S' - gU S) = gU S' - gU (x0 X) := by omega
  rw [e1, e2]
  exact kk H1 locs1 b1 b2
theorem gk_sI {orc : Orc} {i n : Nat} (hc : CAs X orc i n pc) (hk : GK X ps (pc + 3) k) : GK X ps pc (o_sI orc i n k) := by
  intro ls st S hr
  obtain ⟨hn, h8, r1⟩ := cn_el hr
  obtain ⟨v, S1, he, r2⟩ := eI_el r1
  obtain ⟨hm, hw⟩ := hk _ _ _ r2
  obtain ⟨hm1, hw1⟩ := hc st S _ S1 hn h8 he
  exact ⟨⟨by omega, by omega⟩, fun H locs lm a1 a2 a3 a4 a5 => hw1 hm H locs lm a1 a2 a3.1 a4 a5 (fun H1 locs1 b1 b2 => hw H1 locs1 lm b1 b2 a3 (by omega) (by omega))⟩
theorem gk_vI {orc : Orc} {i n c : Nat} (hc : CAv X orc i n c pc) (hk : GK X ps (pc + 3) k) : GK X ps pc (o_vI orc i n c k) := by
  intro ls st S hr
  obtain ⟨a, as, has, r0⟩ := hdR_el hr
  obtain ⟨hka, r00⟩ := if_el r0
  obtain ⟨hn, h8, r1⟩ := cn_el r00
  obtain ⟨v, S1, he, r2⟩ := eI_el r1
  obtain ⟨hm, hw⟩ := hk _ _ _ r2
  obtain ⟨hm1, hw1⟩ := hc st S _ S1 a as hn h8 has hka he
  exact ⟨⟨by omega, by omega⟩, fun H locs lm a1 a2 a3 a4 a5 => hw1 hm H locs lm a1 a2 a3.1 a4 a5 (fun H1 locs1 b1 b2 => hw H1 locs1 lm b1 b2 a3 (by omega) (by omega))⟩
theorem gk_sL {orc : Orc} {i n : Nat} (hc : CAs X orc i n pc) (hk : GK X ps (pc + 3) k) : GK X ps pc (o_sL orc i n k) := by
  intro ls st S hr
  obtain ⟨hn, h8, r1⟩ := cn_el hr
  obtain ⟨v, S1, he, r2⟩ := eL_el r1
  obtain ⟨hm, hw⟩ := hk _ _ _ r2
  obtain ⟨hm1, hw1⟩ := hc st S _ S1 hn h8 he
  exact ⟨⟨by omega, by omega⟩, fun H locs lm a1 a2 a3 a4 a5 => hw1 hm H locs lm a1 a2 a3.1 a4 a5 (fun H1 locs1 b1 b2 => hw H1 locs1 lm b1 b2 a3 (by omega) (by omega))⟩
theorem gk_vL {orc : Orc} {i n c : Nat} (hc : CAv X orc i n c pc) (hk : GK X ps (pc + 3) k) : GK X ps pc (o_vL orc i n c k) := by
  intro ls st S hr
  obtain ⟨a, as, has, r0⟩ := hdR_el hr
  obtain ⟨hka, r00⟩ := if_el r0
  obtain ⟨hn, h8, r1⟩ := cn_el r00
  obtain ⟨v, S1, he, r2⟩ := eL_el r1
  obtain ⟨hm, hw⟩ := hk _ _ _ r2
  obtain ⟨hm1, hw1⟩ := hc st S _ S1 a as hn h8 has hka he
  exact ⟨⟨by omega, by omega⟩, fun H locs lm a1 a2 a3 a4 a5 => hw1 hm H locs lm a1 a2 a3.1 a4 a5 (fun H1 locs1 b1 b2 => hw H1 locs1 lm b1 b2 a3 (by omega) (by omega))⟩
theorem gk_sR {orc : Orc} {i n : Nat} (hc : CAs X orc i n pc) (hk : GK X ps (pc + 3) k) : GK X ps pc (o_sR orc i n k) := by
  intro ls st S hr
  obtain ⟨hn, h8, r1⟩ := cn_el hr
  obtain ⟨v, S1, he, r2⟩ := eR_el r1
  obtain ⟨hm, hw⟩ := hk _ _ _ r2
  obtain ⟨hm1, hw1⟩ := hc st S _ S1 hn h8 he
  exact ⟨⟨by omega, by omega⟩, fun H locs lm a1 a2 a3 a4 a5 => hw1 hm H locs lm a1 a2 a3.1 a4 a5 (fun H1 locs1 b1 b2 => hw H1 locs1 lm b1 b2 a3 (by omega) (by omega))⟩
theorem gk_vR {orc : Orc} {i n c : Nat} (hc : CAv X orc i n c pc) (hk : GK X ps (pc + 3) k) : GK X ps pc (o_vR orc i n c k) := by
  intro ls st S hr
  obtain ⟨a, as, has, r0⟩ := hdR_el hr
  obtain ⟨hka, r00⟩ := if_el r0
  obtain ⟨hn, h8, r1⟩ := cn_el r00
  obtain ⟨v, S1, he, r2⟩ := eR_el r1
  obtain ⟨hm, hw⟩ := hk _ _ _ r2
  obtain ⟨hm1, hw1⟩ := hc st S _ S1 a as hn h8 has hka he
  exact ⟨⟨by omega, by omega⟩, fun H locs lm a1 a2 a3 a4 a5 => hw1 hm H locs lm a1 a2 a3.1 a4 a5 (fun H1 locs1 b1 b2 => hw H1 locs1 lm b1 b2 a3 (by omega) (by omega))⟩
theorem gk_sV {orc : Orc} {i n : Nat} (hc : CAs X orc i n pc) (hk : GK X ps (pc + 3) k) : GK X ps pc (o_sV orc i n k) := by
  intro ls st S hr
  obtain ⟨hn, h8, r1⟩ := cn_el hr
  obtain ⟨S1, he, r2⟩ := eV_el r1
  obtain ⟨hm, hw⟩ := hk _ _ _ r2
  obtain ⟨hm1, hw1⟩ := hc st S _ S1 hn h8 he
  exact ⟨⟨by omega, by omega⟩, fun H locs lm a1 a2 a3 a4 a5 => hw1 hm H locs lm a1 a2 a3.1 a4 a5 (fun H1 locs1 b1 b2 => hw H1 locs1 lm b1 b2 a3 (by omega) (by omega))⟩
theorem gk_vV {orc : Orc} {i n c : Nat} (hc : CAv X orc i n c pc) (hk : GK X ps (pc + 3) k) : GK X ps pc (o_vV orc i n c k) := by
  intro ls st S hr
  obtain ⟨a, as, has, r0⟩ := hdR_el hr
  obtain ⟨hka, r00⟩ := if_el r0
  obtain ⟨hn, h8, r1⟩ := cn_el r00
  obtain ⟨S1, he, r2⟩ := eV_el r1
  obtain ⟨hm, hw⟩ := hk _ _ _ r2
  obtain ⟨hm1, hw1⟩ := hc st S _ S1 a as hn h8 has hka he
  exact ⟨⟨by omega, by omega⟩, fun H locs lm a1 a2 a3 a4 a5 => hw1 hm H locs lm a1 a2 a3.1 a4 a5 (fun H1 locs1 b1 b2 => hw H1 locs1 lm b1 b2 a3 (by omega) (by omega))⟩
theorem gk_nV {orc : Orc} {i n : Nat} (hc : CAn X orc i n pc) (hk : GK X ps (pc + 3) k) : GK X ps pc (o_nV orc i n k) := by
  intro ls st S hr
  obtain ⟨a, as, has, r0⟩ := hdR_el hr
  obtain ⟨ha0, r00⟩ := fi_el r0
  obtain ⟨hn, h8, r1⟩ := cn_el r00
  obtain ⟨S1, he, r2⟩ := eV_el r1
  obtain ⟨hm, hw⟩ := hk _ _ _ r2
  obtain ⟨hm1, hw1⟩ := hc st S _ S1 a as hn h8 has ha0 he
  exact ⟨⟨by omega, by omega⟩, fun H locs lm a1 a2 a3 a4 a5 => hw1 hm H locs lm a1 a2 a3.1 a4 a5 (fun H1 locs1 b1 b2 => hw H1 locs1 lm b1 b2 a3 (by omega) (by omega))⟩
end GKI
