/-! the law's own state: it calls the class's state, and catches what that throws -/
abbrev o_tor (kn kt : K) : K := fun ls st S => tI st fun x _ => if x.toInt < 0 ∨ 9 < x.toInt then kt ls st S else kn ls st S
abbrev o_thr (k : K) : K := fun ls st S => tI st fun x st => tR st fun a st => if gK S a = 7 ∧ (x.toInt < 0 ∨ 9 < x.toInt) then ck8 st (k (stL ls 3 .null) [] (nw S 9 6)) else none
def Bls (orc : Orc) : K := o_aload 2 (o_iconst 0 (o_aload 0 (o_iload 1 (o_tor (o_vI orc 194 2 7 (o_i2l (o_last (o_iconst 0 o_iret)))) (o_thr (o_iconst 1 o_iret))))))
theorem lh_un {base : Nat} {ad : Nat → Option Nat} {lm lm' : Array Slot} {n : Nat} {ls : List Value} {i : Nat} {v : Value} (h : lh base ad lm n ls) (hi : i < n) (h2 : lv_has lm' n ((i, v) :: (lvl base ad ls).filter (fun q => !(q.1 == i) && !(q.1 + 1 == i && q.2.category == 2)))) : lh base ad lm' n (stL ls i .null) := by
  refine ⟨h2.1, h2.2.1, by rw [stL_len]; exact h.2.2.1, fun j hj => ?_⟩
  have hil : i < ls.length := by rw [h.2.2.1]; exact hi
  rw [nth_stL ls i .null j hil] at hj ⊢
  by_cases e : j = i
  · subst e
    rw [if_pos rfl] at hj
    exact absurd rfl hj
  · rw [if_neg e] at hj ⊢
    by_cases e2 : j + 1 = i ∧ isL (nth ls j) = true
    · rw [if_pos e2] at hj; exact absurd rfl hj
    · rw [if_neg e2] at hj ⊢
      refine h2.2.2 (j, cv base ad (nth ls j)) (List.mem_cons_of_mem _ (List.mem_filter.mpr ⟨lvl_mem hj, ?_⟩))
      have := cv_isL base ad (nth ls j)
      by_cases e3 : j + 1 = i
      · have h4 : ¬ (cv base ad (nth ls j)).category = 2 := fun z => e2 ⟨e3, this.mp z⟩
        simp [e, h4]
      · simp [e, e3]
theorem kw_ls1 : Cond.methodLink RL 7 yX8_state ∈ T0 := by decide +kernel
theorem kw_ls2 : Cond.instanceMethod yX8_state ∈ T0 := by decide +kernel
theorem kw_ls3 : Cond.selects RX8 yX8_state yX8_state ∈ T0 := by decide +kernel
theorem kw_ls4 : Cond.initialized RX8 ∈ T0 := by decide +kernel
theorem kw_ls5 : Cond.code yX8_state cX8_state 2 (some .int) ∈ T0 := by decide +kernel
theorem kw_ls6 : Cond.classLink RL 13 RNS ∈ T0 := by decide +kernel
theorem kw_ls7 : Cond.codeWith yL_state cL_state 4 (some .int) [(0, 9, 12, 13)] ∈ T0 := by decide +kernel
theorem kd_ls4 : decode cL_state 4 = .ok (.invokevirtual 7, 3) := by decide +kernel
section LSS
variable {X : Cx} {ps : Nat → Nat} {k kn kt : K}
theorem gk_tor {pc : Nat} (h1 : GK X ps pc kn) (h2 : GK X ps pc kt) : GK X ps pc (o_tor kn kt) := fun ls st S hr => by
  obtain ⟨x, st', e, r1⟩ := tI_el hr
  by_cases q : x.toInt < 0 ∨ 9 < x.toInt
  · rw [if_pos q] at r1
    exact h2 ls st S r1
  · rw [if_neg q] at r1
    exact h1 ls st S r1
theorem HR_x {base : Nat} {D : va_G} {ck : Nat → ClassId} {S : St} {H H1 : Heap} {ce : Cell} (h : HR base D ck S H) (hsz : H.size = base + 1 + gZ S) (hq : ∀ q : Nat, q < H.size → H1[q]? = H[q]?) (h1 : H1[H.size]? = some ce) (h2 : ce.vm = .none) (h3 : ce.cls = D.1 9) : HR base D ck (nw S 9 6) H1 := by
  refine HR_new (c := 9) (x := .inr (9, [])) h rfl (fun b => gK_nw _ _ _ _) (fun b hb => by rw [gN_nw, if_neg hb]) (fun b j hb => by rw [gI_nw, if_neg hb]) (fun b j hb => by rw [gL_nw, if_neg hb]) (fun b j hb => by rw [gR_nw, if_neg hb]) ?_ (fun k q hk => ?_)
  · rw [ce_obj (c := 9) (by rw [gK_nw, if_pos rfl]) (by decide)]
    rfl
  · by_cases e : k < (wl base ck S).length
    · rw [List.getElem?_append_left e] at hk
      exact (h.1 k q hk).kept (hq _ (vx_lt h.1 hk))
    · rw [List.getElem?_append_right (by omega)] at hk
      have e0 : k - (wl base ck S).length = 0 := by
        cases z : k - (wl base ck S).length with
        | zero => rfl
        | succ n => rw [z] at hk; cases hk
      rw [e0] at hk
      have hk' := Option.some.inj hk
      subst hk'
      refine ⟨(RNS, TX0, 0), rfl, ce, ?_, h3, h2, fun k hk => absurd hk (Nat.not_lt_zero _)⟩
      rw [← h1]
      congr 1
      omega
set_option maxRecDepth 4096 in
set_option maxHeartbeats 4000000 in
theorem gk_thr {d : Nat} (h : XM X cL_state RL) (hxn : xn X = 4) (hNX : NX (xb X) (xs X)) (hl : (xl X).stackTraces = false) (htab : (xc X).exceptionTable.toList = tableOf [(0, 9, 12, 13)]) (hd5 : 5 ≤ d) (hR : Rd X d 2) (hk : GK X ps 13 k) : GK X ps 4 (o_thr k) := fun ls st S hr => by
  obtain ⟨x, st, rfl, r1⟩ := tI_el hr
  obtain ⟨a, st, rfl, r2⟩ := tR_el r1
  obtain ⟨⟨hka, hx⟩, r3⟩ := if_el r2
  obtain ⟨h8, r4⟩ := c8_el r3
  obtain ⟨⟨hm1, hm2⟩, hw⟩ := hk _ _ _ r4
  rw [gZ_nw] at hm1
  rw [gU_nw] at hm2
  refine ⟨⟨by omega, by omega⟩, fun H locs lm a1 a2 a3 a4 a5 => W_sz fun hs => ?_⟩
  have hrm := h.1.rm
  have hcs := catS_map (xb X) (xS X) st
  obtain ⟨p0, p1⟩ := a1.live hka (by decide)
  have hwg := wl_get (base := xb X) (ck := xk X) p0 p1
  rw [ce_obj hka (by decide)] at hwg
  intro T hT XT
  have hpre := pre_at (cells := 0) h.1 a1 a2 a4 hs
  have hsz : H.size = xb X + 1 + gZ S := by
    have := (hpre T hT XT.warmed).1
    rw [hT] at this
    exact this
  have hrun := vx_runV (C := RX8) (b := xb X + a) (As := [.int x]) (rest := st.map (xv X)) (g := F0 (xm X) 4 lm ((Value.int x :: .ref a :: st).map (xv X))) (XC := XCs) ⟨h.1.ex, h.by, h.1.ml, h.ow, h.1.ts⟩ (thr194 (l := xl X) (base := xb X) (Hb := xH X) (D := xD X) (ck := xk X) (ad := xS X) (S := S) (a := a) (d := d) (x := x) hl hx hd5) (cwV 1 h.1.ts (goodL _ (fun w hw => by
      rcases List.mem_cons.mp hw with rfl | hw
      · exact kw_ls1
      · rcases List.mem_cons.mp hw with rfl | hw
        · exact kw_ls2
        · rcases List.mem_cons.mp hw with rfl | hw
          · exact kw_ls3
          · rw [List.mem_singleton.mp hw]; exact kw_ls4) (goodT0 kw_ls5)) rfl rfl rfl ⟨rfl, by decide +kernel⟩ ⟨by show d + 1 + 1 ≤ _; exact hR.1, by show _ + 64 * (d + 1) ≤ _; exact hR.2⟩) ⟨PRX_blind, va_recv h.1.tb.1 a1.1 ck_7.1 hwg, fun U hU hW => ⟨by rw [List.map_cons, show cv (xb X) (xS X) (.ref a) = .ref (xb X + a) from xv_ref p0]; rfl, hpre U hU hW, NX.warm hW (fun a h1 h2 => by rw [hU]; exact a2.2.1 a h1 h2) hNX⟩⟩ rfl rfl a3.1 (by show _ = _; rw [List.map_cons, List.map_cons, show xv X (.ref a) = .ref (xb X + a) from xv_ref p0]; rfl) (by show 2 * 0 + _ ≤ 8; rw [hcs]; omega) kd_ls4 ⟨by omega, by omega⟩ T hT XT
  rcases hrun with ⟨v, st₀, t, T', L, -, -, -, -, -, hq, -⟩ | ⟨q, st₀, t, T', L, E, ce, h0, X', hL, e1, e2, hXC, hce, hcv, hcl, stp⟩
  · exact hq.elim
  · obtain ⟨rfl, z1, z2, ce', z3, z4, z5⟩ := hXC
    rw [h0] at z1 z2 z3
    rw [← e1] at z1 z2 z3 hce
    have hcls : ce'.cls = (xD X).1 9 := by
      have g1 := (h.1.tb.1.1 9 (RNS, TX0, 0) rfl).2
      have g2 : t.vm.findClass RNS = some ((xD X).1 9) := by
        rw [← e2, X'.warmed.alike.findClass]
        exact g1.1
      exact Option.some.inj (z5.symm.trans g2)
    have hHR := HR_x (H1 := T'.heap) a1 hsz z2 z3 z4 hcls
    have hS' : va_S (xA X) (xs X).heap T'.heap (locs ++ L) := ⟨Nat.le_trans a2.1 (by rw [z1]; omega), fun q h1 h2 => by rw [z2 q (Nat.lt_of_lt_of_le h1 a2.1)]; exact a2.2.1 q h1 h2, fun q hq => by
      rcases List.mem_append.mp hq with z | z
      · exact a2.2.2 q z
      · exact (hL q z).elim⟩
    have kcat : vx_W (xp X) (xl X) (xe X) (xR X) (xs X) (xm X) (xa X) (xw X) (xh X) (xc X) T'.heap (locs ++ L) (gZ S - gZ (x0 X) + 1) (gU S - gU (x0 X) + 6) (xQ X) (F0 (xm X) 4 lm (st.map (xv X))) q := by
      refine vx_catch (own := RL) (name := RNS) (E := RNS) (ce := ce) h.ow [] ⟨0, 9, 12, 13⟩ [] (by rw [htab]; rfl) (fun z hz => nomatch hz) (by decide) (by decide) (h.1.ts _ kw_ls6) (va_Nw.use rfl (hNX.1 _ (by simp [nsW]))) hce hcv hcl ?_
      refine lv_astore_n (k := 3) (i := 3) h.1.ex h.by (by decide +kernel) rfl (lh_has a3) (by rw [hxn]; decide) rfl fun lm' hl' => ?_
      have := hw T'.heap (locs ++ L) lm' hHR hS' (lh_un a3 (by rw [hxn]; decide) hl') (by rw [gZ_nw]; omega) (by rw [gU_nw]; omega)
      rw [gZ_nw, gU_nw, show gZ S + 1 - gZ (x0 X) = gZ S - gZ (x0 X) + 1 by omega, show gU S + 6 - gU (x0 X) = gU S - gU (x0 X) + 6 by omega] at this
      exact this
    obtain ⟨t2, b1, b2⟩ := kcat T' rfl X'
    exact ⟨t2, stp.trans b1, b2⟩
/-- the law's state, in any context of its own -/
theorem gk_ls {d : Nat} {orc : Orc} (h : XM X cL_state RL) (hR0 : XR X (some .int)) (hxn : xn X = 4) (ho : xOS mtab X orc d) (hNX : NX (xb X) (xs X)) (hl : (xl X).stackTraces = false) (htab : (xc X).exceptionTable.toList = tableOf [(0, 9, 12, 13)]) (hd5 : 5 ≤ d) (hR : Rd X d 2) : GK X ps 0 (Bls orc) := by
  refine gk_aload_n (j := 2) h (by decide +kernel) rfl ?_
  refine gk_iconst (n := 0) h (by decide +kernel) (by decide) ?_
  refine gk_aload_n (j := 0) h (by decide +kernel) rfl ?_
  refine gk_iload_n (j := 1) h (by decide +kernel) rfl ?_
  refine gk_tor ?_ ?_
  · refine gk_vI (ca_v (idx := 7) h ho hm_194 hR ck_7 (by decide +kernel) kw_ls1 kw_ls2 kw_ls3 kw_ls4 kw_ls5 rfl (by decide +kernel) (by decide)) ?_
    refine gk_i2l h (by decide +kernel) ?_
    refine gk_last h (by decide +kernel) ?_
    refine gk_goto (off := 6) (tgt := 15) h (by decide +kernel) (by decide) ?_
    refine gk_iconst (n := 0) h (by decide +kernel) (by decide) ?_
    exact gk_iret h hR0 (by decide +kernel)
  · refine gk_thr h hxn hNX hl htab hd5 hR ?_
    refine gk_iconst (n := 1) h (by decide +kernel) (by decide) ?_
    exact gk_iret h hR0 (by decide +kernel)
end LSS
/-- the contract of the law's state -/
theorem MT_ls {l : Launch} {base : Nat} {Hb : Heap} {D : va_G} {ck : Nat → ClassId} {ad : Nat → Option Nat} {orc : Orc} {d : Nat} (hl : l.stackTraces = false) (hd5 : 5 ≤ d) (ho : OS mtab l base Hb D ck ad orc d) {as : List Value} {S : St} {r : Option Value} {S' : St} (hlen : (xL as).length ≤ 4) (hr : Bls orc (en 4 as) [] S = some (.inr (r, S'))) : Met l yL_state (.codeWith yL_state cL_state 4 (some .int) [(0, 9, 12, 13)] :: T0) (rmD (d + 1) (gZ S' - gZ S) (gU S' - gU S)) (va_Pc (as.map (cv base ad)) (fun U => PRE base Hb D ck ad S U ∧ NX base U)) (QC base D ck ad r S') (gZ S' - gZ S) (gU S' - gU S) (fun q => base + 1 ≤ q) := by
  refine va_MetW (cc := cL_state) (maxL := 4) (ret := some .int) (hh := [(0, 9, 12, 13)]) (by decide) rfl ?_
  intro p e s m args below meth c s₁ B hml hv
  obtain ⟨rfl, ⟨hsz, hlo, hHR, hTB⟩, hNX⟩ := hv
  have hts := atoms_spec (ws := .codeWith yL_state cL_state 4 (some .int) [(0, 9, 12, 13)] :: T0) B.pre
  let X : Cx := ((p, l, e, rmD (d + 1) (gZ S' - gZ S) (gU S' - gU S), s, m, (as.map (cv base ad)).toArray, below, meth, c), (MQ below (QC base D ck ad r S') (as.map (cv base ad)).toArray s (gZ S' - gZ S) (gU S' - gU S) (fun q => base + 1 ≤ q), base, Hb, D, ck, ad), (cL_state, 4, RL, S, r, S'))
  have hXO : XO X := ⟨B.exec, B.bytes, hml, findClass_of_methodNamed B.named, fun w hw => hts w (List.mem_cons_of_mem _ hw), B.notSynchronized, hTB, ⟨Nat.le_refl _, Nat.le_refl _⟩, ⟨hsz, hlo⟩, by show 1 ≤ d + 1 + 1 ∧ 64 ≤ 64 * (d + 1 + 1); omega⟩
  have htab : c.exceptionTable.toList = tableOf [(0, 9, 12, 13)] := vx_table (x := yL_state) B (hts _ List.mem_cons_self)
  have hg := gk_ls (X := X) (ps := fun _ => 0) (orc := orc) (d := d) ⟨hXO, rfl, rfl⟩ ⟨rfl, B.returns⟩ rfl ho hNX hl htab hd5 (by show d + 2 ≤ d + 1 + 1 ∧ 8 + (2 + 11) + 64 * (d + 1) ≤ 64 * (d + 1 + 1); omega)
  have hMW : MW X 0 (en 4 as) [] S := hg _ _ _ (by rw [hr]; rfl)
  rw [lg_entry_eq]
  have hw := hMW.2 s.heap [] _ hHR va_S.rf (en_lh hlen) (Nat.le_refl _) (Nat.le_refl _)
  rw [show gZ S - gZ (x0 X) = 0 from Nat.sub_self _, show gU S - gU (x0 X) = 0 from Nat.sub_self _] at hw
  exact hw
