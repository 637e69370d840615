/-! ends of the law, as the skeleton has them -/
def R_law : String := "TruceWallLaw"
def lw_P (b : Addr) (xs : List Int32) (args : Array Value) (s : State) : Prop := args = #[.ref b] ∧ s.IntsAt b xs ∧ xs.length ≤ 3584 ∧ (Jvm.Cond.and given_1 narrow_1).before args s = true
def lw_Q (_ : Array Value) (s : State) (o : Outcome) (t : State) : Prop := o = .returned (some (.int 1)) ∧ Framed s o t [] 601024 7293034
def lw_Z (below : List Frame) (a : Array Value) (s : State) : State → Prop := fun t => ∃ o, t.status = .running ∧ Ended t below o ∧ lw_Q a s o t
/-- the law's own end, with 1 on the stack, nothing written that was there before, its room as the claim has it -/
theorem lw_ret {p : Program} {l : Launch} {e : Jvm.Env} {s : State} {m : MethodId} {below : List Frame} {meth : Method} {c : Code} {b : Nat} (hx : p.tables.exec = Jvm.exec) (hb : c.code = code) (hr : meth.sig.returnType = ret) (hlocks : meth.locks = false) {pc : Nat} {H : Heap} {ls : Array Slot} (hdg : decode code pc = .ok (.ireturn, 1)) : W p l e room_1 s m #[Value.ref b] below meth c H [] 601024 7293034 (lw_Z below #[Value.ref b] s) (F0 m pc ls [.int 1]) := by
  intro T hT X
  obtain ⟨fs, hret, hrun, hended, hW, hframe⟩ := X.leave (v := some (.int 1)) (hlocks := hlocks) (fun h => by rw [hr] at h; cases h)
  have hmeth' : T.vm.method? m = some meth := X.method'
  refine ⟨T.setFrames fs, ?_, .returned (some (.int 1)), hrun, hended, rfl, ⟨_, rfl⟩, hW, hframe⟩
  jvm_step X.here [X.here.top, hx, hb, hdg, hmeth', hr, ret, narrow_b1]
  (try refine ⟨rfl, ?_⟩); (try refine ⟨rfl, ?_⟩)
  first | (intro acts; rw [hret _ acts rfl rfl rfl]) | rw [hret _ _ rfl rfl rfl]
  exact Steps.refl _
/-- what holds at the law's entry: the machine, the code, the tables' words (any of lw_tbl by 'hts w (by decide +kernel)'), the script of L ints xs at the cell b, what the Statement gives of the start (any of its parts by flat_of_before) -/
def lw_At (p : Program) (s : State) (m : MethodId) (meth : Method) (c : Code) (b L : Nat) (xs : Nat → Int32) : Prop :=
  p.tables.exec = Jvm.exec ∧ c.code = code ∧ meth.sig.returnType = ret ∧ c.maxLocals = 7 ∧ s.vm.findClass R_law = some m.cls ∧ (∀ w ∈ lw_tbl, w.before #[Value.ref b] s = true) ∧ va_X b L xs s s.heap ∧ b < s.heap.size ∧ meth.locks = false ∧ (Jvm.Cond.and given_1 narrow_1).before #[Value.ref b] s = true
/-! rows that the law alone needs: its script, its own end, the call of its state -/
abbrev o_xlen (L : Nat) (k : K) : K := fun ls st S => tS st fun q st => if q = 30 then k ls (.int (Int32.ofNat L) :: st) S else none
abbrev o_xld (L : Nat) (xs : Nat → Int32) (k : K) : K := fun ls st S => tI st fun j st => tS st fun q st => if q = 30 ∧ inB j L then k ls (.int (xs j.toNatClampNeg) :: st) S else none
/-- what the law's state answers -/
def lsF (orc : Orc) (as : List Value) (S : St) : Option (Option Value × St) := match Bls orc (en 4 as) [] S with
  | some (.inr r) => if (gZ S ≤ gZ r.2 ∧ gU S ≤ gU r.2) ∧ (xL as).length ≤ 4 then some r else none
  | _ => none
def orL (orc : Orc) : Orc := fun i as S => if i = 195 then lsF orc as S else none
/-- the script lies outside -/
def XX (X : Cx) (L : Nat) (xs : Nat → Int32) : Prop := ∃ b : Nat, xS X 30 = some b ∧ va_X b L xs (Jvm.Pilot.CTruceWallLaw_law_r1614_95ca75.xs X) (Jvm.Pilot.CTruceWallLaw_law_r1614_95ca75.xs X).heap ∧ b < (Jvm.Pilot.CTruceWallLaw_law_r1614_95ca75.xs X).heap.size ∧ ¬ xA X b
/-- how the law ends -/
def XLr (X : Cx) : Prop := xr X = some (.int 1) ∧ (∃ b : Nat, xa X = #[Value.ref b] ∧ xQ X = lw_Z (xw X) #[Value.ref b] (xs X)) ∧ xR X = room_1 ∧ (xh X).sig.returnType = ret ∧ xb X + 1 = (xs X).heap.size
section LWR
variable {X : Cx} {ps : Nat → Nat} {pc : Nat} {k : K} {cc : ByteArray} {own : String} {L : Nat} {sx : Nat → Int32}
theorem gk_xlen (h : XM X cc own) (hX : XX X L sx) (hd : decode cc pc = .ok (.arraylength, 1)) (hk : GK X ps (pc + 1) k) : GK X ps pc (o_xlen L k) := fun ls st S hr => by
  obtain ⟨q, st, rfl, r1⟩ := tS_el hr
  obtain ⟨rfl, r2⟩ := if_el r1
  obtain ⟨hm, hw⟩ := hk _ _ _ r2
  obtain ⟨b, hb, hX, hbl, hbA⟩ := hX
  refine ⟨hm, fun H locs lm a1 a2 a3 a4 a5 => ?_⟩
  rw [List.map_cons, show xv X (.retAddr 30) = .ref b from by show va_rf (xS X 30) = _; rw [hb]; rfl]
  exact va_slen h.1.ex h.by hX hbl hbA a2 hd (hw H locs lm a1 a2 a3 a4 a5)
theorem gk_xld (h : XM X cc own) (hX : XX X L sx) (hd : decode cc pc = .ok (.iaload, 1)) (hk : GK X ps (pc + 1) k) : GK X ps pc (o_xld L sx k) := fun ls st S hr => by
  obtain ⟨j, st, rfl, r1⟩ := tI_el hr
  obtain ⟨q, st, rfl, r2⟩ := tS_el r1
  obtain ⟨⟨rfl, hin⟩, r3⟩ := if_el r2
  obtain ⟨hm, hw⟩ := hk _ _ _ r3
  obtain ⟨b, hb, hX, hbl, hbA⟩ := hX
  refine ⟨hm, fun H locs lm a1 a2 a3 a4 a5 => ?_⟩
  rw [List.map_cons, List.map_cons, show xv X (.retAddr 30) = .ref b from by show va_rf (xS X 30) = _; rw [hb]; rfl]
  exact va_sld h.1.ex h.by hX hbl hbA a2 (vp_inB hin) hd (hw H locs lm a1 a2 a3 a4 a5)
theorem kw_lw1 : Cond.methodLink RL 58 yL_state ∈ T0 := by decide +kernel
theorem kw_lw2 : Cond.static yL_state ∈ T0 := by decide +kernel
theorem kw_lw3 : Cond.initialized RL ∈ T0 := by decide +kernel
theorem goodTW : GoodIn T0 (.codeWith yL_state cL_state 4 (some .int) [(0, 9, 12, 13)] :: T0) := fun w hw => by
  have : w ∈ T0 := by
    rcases List.mem_cons.mp hw with rfl | hw
    · exact kw_ls7
    · exact hw
  exact ⟨this, good_of_word (List.mem_filter.mp this).2⟩
set_option maxRecDepth 4096 in
set_option maxHeartbeats 4000000 in
theorem ca_ls {orc : Orc} {d : Nat} (h : XM X cc RL) (ho : xOS mtab X orc d) (hNX : NX (xb X) (xs X)) (hl : (xl X).stackTraces = false) (hd5 : 5 ≤ d) (hR : Rd X (d + 1) 45) (hd : decode cc pc = .ok (.invokestatic 58, 3)) : CAs X (orL orc) 195 3 pc := by
  intro st S r S' hn h8 he
  have he' : lsF orc (st.take 3).reverse S = some (r, S') := he
  unfold lsF at he'
  split at he'
  · rename_i r0 hr0
    split at he'
    · rename_i hc
      cases he'
      obtain ⟨⟨m1', m2'⟩, hlen⟩ := hc
      have m1 : gZ S ≤ gZ S' := m1'
      have m2 : gU S ≤ gU S' := m2'
      clear m1' m2'
      have hMT := MT_ls (l := xl X) (base := xb X) (Hb := xH X) (D := xD X) (ck := xk X) (ad := xS X) hl hd5 ho hlen hr0
      refine ⟨⟨m1, m2⟩, fun hm H locs lm a1 a2 a3 a4 a5 kk => W_sz fun hs => ?_⟩
      have hrm := h.1.rm
      have hcs := catS_map (xb X) (xS X) (st.drop 3)
      have hpre := pre_at (cells := 0) h.1 a1 a2 a4 hs
      refine call_W (r := r) (S' := S') (rest := (st.drop 3).map (xv X)) (vx_runSW (hh := [(0, 9, 12, 13)]) (As := ((st.take 3).reverse).map (xv X)) ⟨h.1.ex, h.by, h.1.ml, h.ow, h.1.ts⟩ hMT (vx_cwSW 3 h.1.ts (goodL _ (fun w hw => by
          rcases List.mem_cons.mp hw with rfl | hw
          · exact kw_lw1
          · rcases List.mem_cons.mp hw with rfl | hw
            · exact kw_lw2
            · rw [List.mem_singleton.mp hw]; exact kw_lw3) goodTW) rfl rfl rfl (by decide +kernel) ⟨by show d + 1 + 1 + 1 ≤ _; exact hR.1, by show _ + 64 * (d + 1 + 1) ≤ _; have := hR.2; omega⟩) ⟨PRX_blind, fun U hU hW => ⟨rfl, hpre U hU hW, NX.warm hW (fun a h1 h2 => by rw [hU]; exact a2.2.1 a h1 h2) hNX⟩⟩ rfl (by simp; omega) a3 (by rw [take_rev]) (by show 2 * 0 + _ ≤ 8; rw [hcs]; omega) hd ⟨by omega, by omega⟩) a2 (fun H1 locs1 b1 b2 => ?_)
      have e1 : gZ S - gZ (x0 X) + (gZ S' - gZ S) = gZ S' - gZ (x0 X) := by omega
      have e2 : gU S - gU (x0 X) + (gU S' - gU S) = gU S' - gU (x0 X) := by omega
      rw [e1, e2]
      exact kk H1 locs1 b1 b2
    · cases he'
  · cases he'
/-- the law's end -/
theorem gk_lwr (h : XM X code own) (hL : XLr X) (hrm : gZ (xf X) - gZ (x0 X) ≤ 601024 ∧ gU (xf X) - gU (x0 X) ≤ 7293034) (hd : decode code pc = .ok (.ireturn, 1)) : GK X ps pc o_zret := fun ls st S hr => by
  obtain ⟨v, rfl, r0⟩ := rI_el hr
  obtain ⟨hv, r1⟩ := if_el r0
  obtain ⟨e1, e2⟩ := Prod.mk.inj (show (some (Value.int v), S) = (xr X, xf X) from r1)
  subst e2
  obtain ⟨l1, ⟨b, l2, l3⟩, l4, l5, l6⟩ := hL
  rw [l1] at e1
  cases e1
  refine ⟨⟨Nat.le_refl _, Nat.le_refl _⟩, fun H locs lm a1 a2 a3 a4 a5 => ?_⟩
  rw [l2, l3, l4]
  refine va_forget (fun q hq => by rw [← l6]; exact a2.2.2 q hq) (W.widen hrm.1 hrm.2 ?_)
  exact lw_ret h.1.ex h.by l5 h.1.lk hd
end LWR
