/-! copies, what is made of references, and calls -/
section GKC
variable {X : Cx} {ps : Nat → Nat} {pc : Nat} {k kt kf : K} {cc : ByteArray} {own : String}
theorem tw_clamp {n : Int32} : n.toNatClampNeg = n.toInt.toNat := rfl
theorem gk_copy {i : Nat} (h : XM X cc own) (hd : decode cc pc = .ok (.invokestatic i, 3)) (h1 : Cond.methodLink own i arraycopyName ∈ T0) (h2 : Cond.native arraycopyName ∈ T0) (h3 : Cond.static arraycopyName ∈ T0) (h4 : Cond.initialized "java/lang/System" ∈ T0) (hk : GK X ps (pc + 3) k) : GK X ps pc (o_copy k) := by
  intro ls st S hr
  obtain ⟨n, st, rfl, r1⟩ := tI_el hr
  obtain ⟨dp, st, rfl, r2⟩ := tI_el r1
  obtain ⟨b, st, rfl, r3⟩ := tR_el r2
  obtain ⟨sp, st, rfl, r4⟩ := tI_el r3
  obtain ⟨a, st, rfl, r5⟩ := tR_el r4
  obtain ⟨h8, r6⟩ := c8_el r5
  obtain ⟨⟨hka, hkb, c1, c2, c3, c4, c5⟩, r7⟩ := if_el r6
  obtain ⟨hm, hw⟩ := hk _ _ _ r7
  refine ⟨hm, fun H locs lm a1 a2 a3 a4 a5 => ?_⟩
  obtain ⟨p0, p1, he⟩ := arr_at (t := 0) a1 hka (by omega)
  obtain ⟨q0, q1, hf⟩ := arr_at (t := 0) a1 hkb (by omega)
  rw [af_i (by omega) (by omega)] at he hf
  have hrf := h.1.rf
  have := catS_map (xb X) (xS X) st
  rw [List.map_cons, List.map_cons, List.map_cons, List.map_cons, List.map_cons, xv_ref p0, xv_ref q0]
  refine va_copyi h.1.ex h.by (by rw [h.1.ml]; exact a3.1.symm) h.ow (h.1.ts _ h1) (h.1.ts _ h2) (h.1.ts _ h3) (h.1.ts _ h4) h.1.tb.1 a1.1 (wl_D _ _ _) a2 (a - 1) (b - 1) 0 0 he hf (tys_at _ 0 (by omega)) (tys_at _ 0 (by omega)) rfl
    (by rw [Int32.lt_iff_toInt_lt, Int32.toInt_zero]; omega) (by rw [Int32.lt_iff_toInt_lt, Int32.toInt_zero]; omega) (by rw [Int32.lt_iff_toInt_lt, Int32.toInt_zero]; omega) (by rw [tw_clamp, tw_clamp]; omega) (by rw [tw_clamp, tw_clamp]; omega) (fun _ _ => rfl) hrf.1 (by
      rw [this]
      have : nativeFrameWords "java/lang/System" "arraycopy" 5 = 7 := by decide
      rw [this]; omega) hd (fun H1 locs1 hP _ hS => hw H1 locs1 lm ?_ hS a3 a4 a5)
  refine HR_set a1 q0 q1 rfl (fun _ => rfl) (fun _ => rfl) (fun x j hx => ?_) (fun _ _ _ => rfl) (fun _ _ _ => rfl) ?_ hP
  · rw [gI_cpI, if_neg (fun z => hx z.1)]
  · refine Eq.trans ?_ (ce_arr (S := cpI S a b _ _ _) (t := 0) (by exact hkb)).symm
    rw [af_i (by omega) (by omega)]
    show (Sum.inl (xk X 0, gN S b, Sum.inl _) : va_E) = Sum.inl (xk X 0, gN S b, Sum.inl _)
    congr 4
    funext q
    rw [gI_cpI]
    show va_cpy (gI S a) (gI S b) _ _ _ q = _
    unfold va_cpy
    by_cases e : dp.toNatClampNeg ≤ q ∧ q < dp.toNatClampNeg + n.toNatClampNeg
    · rw [if_pos e, if_pos ⟨rfl, e⟩]
    · rw [if_neg e, if_neg (fun z => e z.2)]
theorem gk_castA {i : Nat} (h : XM X cc own) (hd : decode cc pc = .ok (.checkcast i, 3)) (h1 : Cond.classLink own i "[I" ∈ T0) (hk : GK X ps (pc + 3) k) : GK X ps pc (o_castA k) := by
  intro ls st S hr
  obtain ⟨a, st, rfl, r1⟩ := tR_el hr
  obtain ⟨hka, r2⟩ := if_el r1
  obtain ⟨hm, hw⟩ := hk _ _ _ r2
  refine ⟨hm, fun H locs lm a1 a2 a3 a4 a5 => ?_⟩
  obtain ⟨p0, p1, he⟩ := arr_at (t := 0) a1 hka (by omega)
  have hw := hw H locs lm a1 a2 a3 a4 a5
  rw [List.map_cons, xv_ref p0] at hw ⊢
  exact va_castA h.1.ex h.by h.ow (h.1.ts _ h1) a1.1 (a - 1) he (h.1.tb.1.2 0 _ (tys_at _ 0 (by omega))).2 hd hw
theorem gk_clone {i : Nat} (h : XM X cc own) (hd : decode cc pc = .ok (.invokevirtual i, 3)) (h1 : Cond.methodLink own i ⟨"[I", "clone", "()Ljava/lang/Object;"⟩ ∈ T0) (h2 : Cond.sameMethod "[I" "java/lang/Object" "clone" "()Ljava/lang/Object;" ∈ T0) (h3 : Cond.native ⟨"java/lang/Object", "clone", "()Ljava/lang/Object;"⟩ ∈ T0) (h4 : Cond.instanceMethod ⟨"java/lang/Object", "clone", "()Ljava/lang/Object;"⟩ ∈ T0) (h5 : Cond.selects "[I" ⟨"[I", "clone", "()Ljava/lang/Object;"⟩ ⟨"java/lang/Object", "clone", "()Ljava/lang/Object;"⟩ ∈ T0) (hk : GK X ps (pc + 3) k) : GK X ps pc (o_clone k) := by
  intro ls st S hr
  obtain ⟨a, st, rfl, r1⟩ := tR_el hr
  obtain ⟨h8, r2⟩ := c8_el r1
  obtain ⟨hka, r3⟩ := if_el r2
  obtain ⟨hm, hw⟩ := hk _ _ _ r3
  have hm' : gZ S + 1 ≤ gZ (xf X) ∧ gU S + gN S a ≤ gU (xf X) := hm
  refine ⟨⟨by omega, by omega⟩, fun H locs lm a1 a2 a3 a4 a5 => ?_⟩
  obtain ⟨p0, p1, he⟩ := arr_at (t := 0) a1 hka (by omega)
  rw [af_i (by omega) (by omega)] at he
  have hrf := h.1.rf
  have hrm := h.1.rm
  have := catS_map (xb X) (xS X) st
  rw [List.map_cons, xv_ref p0]
  refine va_clone h.1.ex h.by (by rw [h.1.ml]; exact a3.1.symm) h.ow (h.1.ts _ h1) (h.1.ts _ h2) (h.1.ts _ h3) (h.1.ts _ h4) (h.1.ts _ h5) (h.1.tb.2.1 _ (by simp [nwl])) h.1.tb.1 a1.1 (wl_D _ _ _) a2 (A_new h.1) (a - 1) 0 he (tys_at _ 0 (by omega)) (h.1.tb.1.2 0 _ (tys_at _ 0 (by omega))).2 (fun q v hv => ?_) hrf.1 (by rw [this]; omega) (by omega) (by show _ + gN S a ≤ _; omega) hd (fun q H1 hKK hP hD hS => W_sz fun hs => ?_)
  · rw [vp_cell_i] at hv
    by_cases e : q < gN S a
    · rw [arrV_read _ _ e] at hv
      cases hv
      rfl
    · rw [Array.getElem?_eq_none (by rw [arrV_size]; omega)] at hv
      cases hv
  · have hq := new_at h.1 a1 a4 hP hD (by omega)
    subst hq
    have hk1 : gK (clI S a) (gZ S + 1) = 100 + 0 := by rw [gK_clI, if_pos rfl]
    have hn1 : gN (clI S a) (gZ S + 1) = gN S a := by rw [gN_clI, if_pos rfl]
    have hh := HR_new (S' := clI S a) (c := 100) a1 rfl (fun b => gK_clI S a b) (fun b hb => by rw [gN_clI, if_neg hb]) (fun b j hb => by rw [gI_clI, if_neg hb]) (fun b j hb => by rw [gL_clI, if_neg hb]) (fun b j hb => by rw [gR_clI, if_neg hb]) (by
      rw [ce_arr hk1, hn1, af_i (by omega) (by omega)]
      congr 3
      congr 1
      funext j
      rw [gI_clI, if_pos rfl]) hP
    have hw := hw H1 locs lm hh hS a3 (by rw [gZ_clI]; omega) (by rw [gU_clI]; omega)
    rw [gZ_clI, gU_clI, List.map_cons, xv_ref (by omega)] at hw
    have e1 : gZ S + 1 - gZ (x0 X) = gZ S - gZ (x0 X) + 1 := by omega
    have e2 : gU S + gN S a - gU (x0 X) = gU S - gU (x0 X) + gN S a := by omega
    rw [e1, e2] at hw
    exact hw
theorem gk_anew {i : Nat} (h : XM X cc own) (hd : decode cc pc = .ok (.anewarray i, 3)) (h1 : Cond.classLink own i "TruceWall$Mark" ∈ T0) (hk : GK X ps (pc + 3) k) : GK X ps pc (o_newa 5 k) := by
  intro ls st S hr
  obtain ⟨n, st, rfl, r1⟩ := tI_el hr
  obtain ⟨⟨hn0, hn1⟩, r2⟩ := if_el r1
  obtain ⟨hm, hw⟩ := hk _ _ _ r2
  have hm' : gZ S + 1 ≤ gZ (xf X) ∧ gU S + n.toNatClampNeg ≤ gU (xf X) := hm
  refine ⟨⟨by omega, by omega⟩, fun H locs lm a1 a2 a3 a4 a5 => ?_⟩
  have hrm := h.1.rm
  have hcl : n.toNatClampNeg = n.toInt.toNat := rfl
  have hnn : ¬ n < 0 := by rw [Int32.lt_iff_toInt_lt, Int32.toInt_zero]; omega
  refine va_newq h.1.ex h.by h.ow (h.1.ts _ h1) h.1.tb.2.2.1 h.1.tb.1 a1.1 (wl_D _ _ _) a2 (A_new h.1) hnn rfl (by omega) (by omega) (by omega) hd (fun q cA H1 hKK hP hD hS => W_sz fun hs => ?_)
  have hq := new_at h.1 a1 a4 hP hD (by omega)
  subst hq
  have hcA : cA = xk X 5 := by
    obtain ⟨_, _, _, _, _, g1⟩ := (hKK.2 6 (cA, .object "TruceWall$Mark") rfl).2
    obtain ⟨_, _, _, _, _, g2⟩ := (h.1.tb.1.2 5 _ (tys_at _ 5 (by omega))).2
    exact Option.some.inj (g1.symm.trans g2)
  subst hcA
  have hk1 : gK (nw S 105 n.toNatClampNeg) (gZ S + 1) = 100 + 5 := by rw [gK_nw, if_pos rfl]
  have hn1 : gN (nw S 105 n.toNatClampNeg) (gZ S + 1) = n.toNatClampNeg := by rw [gN_nw, if_pos rfl]
  have hh := HR_new (S' := nw S 105 n.toNatClampNeg) a1 rfl (fun b => gK_nw S _ _ b) (fun b hb => by rw [gN_nw, if_neg hb]) (fun b j hb => by rw [gI_nw, if_neg hb]) (fun b j hb => by rw [gL_nw, if_neg hb]) (fun b j hb => by rw [gR_nw, if_neg hb]) (by
    rw [ce_arr hk1, hn1]
    show (Sum.inl (xk X 5, _, Sum.inr (Sum.inr (Sum.inr (Sum.inr _)))) : va_E) = Sum.inl (xk X 5, _, Sum.inr (Sum.inr (Sum.inr (Sum.inr _))))
    congr 6
    congr 1
    funext j
    rw [gR_nw, if_pos rfl]
    rfl) hP
  have hw := hw H1 locs lm hh hS a3 (by rw [gZ_nw]; omega) (by rw [gU_nw]; omega)
  rw [gZ_nw, gU_nw, List.map_cons, xv_ref (by omega)] at hw
  have e1 : gZ S + 1 - gZ (x0 X) = gZ S - gZ (x0 X) + 1 := by omega
  have e2 : gU S + n.toNatClampNeg - gU (x0 X) = gU S - gU (x0 X) + n.toNatClampNeg := by omega
  rw [e1, e2] at hw
  exact hw
/-- a case switch by its pairs -/
theorem gk_lsw {dflt : Int} {pr : Array (Int × Int)} {len td : Nat} {kd : K} {cs : List (Int32 × K)} (h : XM X cc own) (hd : decode cc pc = .ok (.lookupswitch dflt pr, len)) (hp : (pr.toList.zip (pr.toList.drop 1)).all (fun (a, next) => a.1 < next.1) = true) (htd : (pc : Int) + dflt = (td : Int)) (hkd : GK X ps td kd)
    (hcs : ∀ q ∈ cs, ∃ (tgt : Nat) (off : Int), Op.lookupswitch.offset pr.toList dflt q.1.toInt = off ∧ (pc : Int) + off = (tgt : Int) ∧ GK X ps tgt q.2) (hout : ∀ x : Int32, (∀ q ∈ cs, x ≠ q.1) → Op.lookupswitch.offset pr.toList dflt x.toInt = dflt) : GK X ps pc (o_sw cs kd) := by
  intro ls st S hr
  obtain ⟨x, st, rfl, r1⟩ := tI_el hr
  by_cases hx : ∃ q ∈ cs, x = q.1
  · have key : ∀ cs : List (Int32 × K), (∃ q ∈ cs, x = q.1) → ∃ q ∈ cs, x = q.1 ∧ swc x ls st S cs kd = q.2 ls st S := by
      intro cs
      induction cs with
      | nil => rintro ⟨q, hq, -⟩; cases hq
      | cons c cs ih =>
        rintro ⟨q, hq, e⟩
        by_cases e2 : x = c.1
        · refine ⟨c, List.mem_cons_self, e2, ?_⟩
          obtain ⟨v, kk⟩ := c
          simp only [swc]
          rw [if_pos e2]
        · rcases List.mem_cons.mp hq with rfl | hq
          · exact absurd e e2
          · obtain ⟨q', h1, h2, h3⟩ := ih ⟨q, hq, e⟩
            refine ⟨q', List.mem_cons_of_mem _ h1, h2, ?_⟩
            obtain ⟨v, kk⟩ := c
            simp only [swc]
            rw [if_neg e2, h3]
    obtain ⟨q, hq, e, hs⟩ := key cs hx
    obtain ⟨tgt, off, g3, g4, g5⟩ := hcs q hq
    rw [hs] at r1
    obtain ⟨hm, hw⟩ := g5 _ _ _ r1
    rw [← e] at g3
    exact ⟨hm, fun H locs lm a1 a2 a3 a4 a5 => lv_lookup h.1.ex h.by hd hp g3 g4 (hw H locs lm a1 a2 a3 a4 a5)⟩
  · have hn : ∀ q ∈ cs, x ≠ q.1 := fun q hq e => hx ⟨q, hq, e⟩
    have key : ∀ cs : List (Int32 × K), (∀ q ∈ cs, x ≠ q.1) → swc x ls st S cs kd = kd ls st S := by
      intro cs
      induction cs with
      | nil => intro _; rfl
      | cons c cs ih =>
        intro hh
        obtain ⟨v, kk⟩ := c
        simp only [swc]
        rw [if_neg (hh (v, kk) List.mem_cons_self), ih (fun q hq => hh q (List.mem_cons_of_mem _ hq))]
    rw [key cs hn] at r1
    obtain ⟨hm, hw⟩ := hkd _ _ _ r1
    exact ⟨hm, fun H locs lm a1 a2 a3 a4 a5 => lv_lookup h.1.ex h.by hd hp (hout x hn) htd (hw H locs lm a1 a2 a3 a4 a5)⟩
theorem eI_el {x : Option (Option Value × St)} {f : Int32 → St → Option Rs} (h : RW X ps (eI x f)) : ∃ v S, x = some (some (.int v), S) ∧ RW X ps (f v S) := by
  unfold eI at h
  split at h
  · exact ⟨_, _, rfl, h⟩
  · exact h.elim
theorem eL_el {x : Option (Option Value × St)} {f : Int64 → St → Option Rs} (h : RW X ps (eL x f)) : ∃ v S, x = some (some (.long v), S) ∧ RW X ps (f v S) := by
  unfold eL at h
  split at h
  · exact ⟨_, _, rfl, h⟩
  · exact h.elim
theorem eR_el {x : Option (Option Value × St)} {f : Nat → St → Option Rs} (h : RW X ps (eR x f)) : ∃ v S, x = some (some (.ref v), S) ∧ RW X ps (f v S) := by
  unfold eR at h
  split at h
  · exact ⟨_, _, rfl, h⟩
  · exact h.elim
theorem eV_el {x : Option (Option Value × St)} {f : St → Option Rs} (h : RW X ps (eV x f)) : ∃ S, x = some (none, S) ∧ RW X ps (f S) := by
  unfold eV at h
  split at h
  · exact ⟨_, rfl, h⟩
  · exact h.elim
theorem cn_el {n : Nat} {st : List Value} {x : Option Rs} (h : RW X ps (ckn n st x)) : n ≤ st.length ∧ catS (st.drop n) ≤ 8 ∧ RW X ps x := by
  unfold ckn at h
  cases h1 : Nat.ble n st.length with
  | false => rw [h1] at h; exact h.elim
  | true =>
    cases h2 : Nat.ble (catS (st.drop n)) 8 with
    | false => rw [h1, h2] at h; exact h.elim
    | true => rw [h1, h2] at h; exact ⟨Nat.le_of_ble_eq_true h1, Nat.le_of_ble_eq_true h2, h⟩
theorem hdR_el {as : List Value} {f : Nat → Option Rs} (h : RW X ps (hdR as f)) : ∃ a as', as = .ref a :: as' ∧ RW X ps (f a) := by
  unfold hdR at h
  split at h
  · exact ⟨_, _, rfl, h⟩
  · exact h.elim
theorem PRE_blind {base : Nat} {Hb : Heap} {D : va_G} {ck : Nat → ClassId} {ad : Nat → Option Nat} {S : St} {av : List Value} : FrameBlind (va_Pc av (PRE base Hb D ck ad S)) := fun a U g mk q => by
  obtain ⟨q0, q1, q2, q3, q4⟩ := q
  exact ⟨q0, q1, q2, q3, TB.same (u := U) (U := U.calling g mk a) rfl rfl q4⟩
theorem goodT0 {y : MethodName} {bytes : ByteArray} {maxL : Nat} {ret : Option FieldType} (h : Cond.code y bytes maxL ret ∈ T0) : GoodIn T0 (.code y bytes maxL ret :: T0) := fun w hw => by
  have : w ∈ T0 := by
    rcases List.mem_cons.mp hw with rfl | hw
    · exact h
    · exact hw
  exact ⟨this, good_of_word (List.mem_filter.mp this).2⟩
/-- behind a call -/
theorem call_W {H : Heap} {locs : List Loc} {lm : Array Slot} {cells slots mc ms : Nat} {st0 rest : List Value} {r : Option Value} {S' : St} {a : Array Value} (hr : va_Run (xp X) (xl X) (xe X) (xR X) (xs X) (xm X) (xa X) (xw X) (xh X) (xc X) H locs cells slots mc ms (F0 (xm X) pc lm st0) rest (QC (xb X) (xD X) (xk X) (xS X) r S' a) (xA X)) (a2 : va_S (xA X) (xs X).heap H locs)
    (kk : ∀ (H1 : Heap) (locs1 : List Loc), HR (xb X) (xD X) (xk X) S' H1 → va_S (xA X) (xs X).heap H1 locs1 → W (xp X) (xl X) (xe X) (xR X) (xs X) (xm X) (xa X) (xw X) (xh X) (xc X) H1 locs1 (cells + mc) (slots + ms) (xQ X) (F0 (xm X) (pc + 3) lm ((r.map (xv X)).toList ++ rest))) :
    W (xp X) (xl X) (xe X) (xR X) (xs X) (xm X) (xa X) (xw X) (xh X) (xc X) H locs cells slots (xQ X) (F0 (xm X) pc lm st0) := by
  intro T hT Xs
  obtain ⟨v, st₀, t, T', L, h0, X', hL, e1, e2, ⟨hv, hp, hz, hk⟩, st⟩ := hr T hT Xs
  cases hv
  rw [h0] at hz hk
  obtain ⟨t2, b1, b2⟩ := kk T'.heap (locs ++ L) (by rw [e1]; exact hp)
    ⟨Nat.le_trans a2.1 (by rw [e1]; exact hz), fun q h1 h2 => by rw [e1, hk q (Nat.lt_of_lt_of_le h1 a2.1) h2]; exact a2.2.1 q h1 h2, fun q hq => by
      rcases List.mem_append.mp hq with h | h
      · exact a2.2.2 q h
      · exact hL q h⟩ T' rfl X'
  exact ⟨t2, st t2 b1, b2⟩
theorem pre_at {S : St} {H : Heap} {locs : List Loc} {cells : Nat} (h : XO X) (a1 : HR (xb X) (xD X) (xk X) S H) (a2 : va_S (xA X) (xs X).heap H locs) (a4 : gZ (x0 X) ≤ gZ S) (hs : H.size ≤ (xs X).heap.size + (gZ S - gZ (x0 X))) : ∀ U : State, U.heap = H → (xs X).WarmedH U.vm → PRE (xb X) (xH X) (xD X) (xk X) (xS X) S U := by
  intro U hU hW
  have hsz := h.sz
  refine ⟨?_, fun q hq => ?_, by rw [hU]; exact a1, TB.warm hW (fun a h1 h2 => by rw [hU]; exact a2.2.1 a h1 h2) h.tb⟩
  · rw [hU]
    have h2 := a2.1
    by_cases e : gZ S = gZ (x0 X)
    · omega
    · have := a1.top (a := gZ S) (by omega) (Nat.le_refl _)
      omega
  · rw [hU, a2.2.1 q (by omega) (by show ¬ xb X + 1 ≤ q; omega)]
    exact h.lo q hq
end GKC
