/-! state of the class where it throws; the law's own state, which catches it -/
def nsW : List Cond := [.declares (Bundle.initS bRE), .declares (Bundle.initS bEX), .declares (Bundle.initS Bundle.tN), .castable RNS RNS]
def nsZ : List Cond := [.laysStatic Bundle.tN "UNASSIGNED_STACK" Bundle.steD, .laysStatic Bundle.tN "SUPPRESSED_SENTINEL" Bundle.listD]
set_option maxRecDepth 100000 in
theorem nsA_in : ∀ w ∈ nsA RX8 180, w ∈ T0 ∨ w ∈ nsW ∨ w ∈ nsZ := by decide +kernel
/-- what the throw needs beside the words of every method -/
def NX (base : Nat) (U : State) : Prop := (∀ w ∈ nsW, va_Nw w U) ∧ vx_Zq Bundle.tN "UNASSIGNED_STACK" Bundle.steD (fun q => base + 1 ≤ q) U U.heap ∧ vx_Zq Bundle.tN "SUPPRESSED_SENTINEL" Bundle.listD (fun q => base + 1 ≤ q) U U.heap ∧ ∃ sa : Nat, vk_R RX8 178 "no such state" sa U
theorem NX.warm {base : Nat} {s U : State} (hW : s.WarmedH U.vm) (hq : ∀ a : Nat, a < s.heap.size → ¬ base + 1 ≤ a → U.heap[a]? = s.heap[a]?) (h : NX base s) : NX base U := by
  obtain ⟨h1, h2, h3, sa, h4⟩ := h
  refine ⟨fun w hw => ?_, vx_Zq.moved hW.alike (h2.kept hq), vx_Zq.moved hW.alike (h3.kept hq), sa, vk_R.warm hW h4⟩
  have hz := h1 w hw
  revert hz hw
  simp only [nsW, List.mem_cons, List.mem_nil_iff, or_false]
  rintro (rfl | rfl | rfl | rfl) <;> intro hz
  · exact va_Nw.warmD hW hz
  · exact va_Nw.warmD hW hz
  · exact va_Nw.warmD hW hz
  · exact va_Nw.warmC hW hz
theorem NX.same {base : Nat} {s U : State} (hv : s.vm = U.vm) (hh : U.heap = s.heap) (h : NX base s) : NX base U := NX.warm (by rw [← hv]; exact State.WarmedH.refl s) (fun a _ _ => by rw [hh]) h
theorem nx_h {base : Nat} {s : State} {args : Array Value} (hts : ∀ w ∈ T0, w.before args s = true) (h : NX base s) : (∀ a ∈ nsA RX8 180, a.before args s = true) ∧ (Cond.isRef (.static Bundle.tN "UNASSIGNED_STACK" Bundle.steD)).before args s = true ∧ (Cond.isRef (.static Bundle.tN "SUPPRESSED_SENTINEL" Bundle.listD)).before args s = true := by
  obtain ⟨h1, h2, h3, -⟩ := h
  refine ⟨fun w hw => ?_, vx_isRefq h2.1, vx_isRefq h3.1⟩
  rcases nsA_in w hw with z | z | z
  · exact hts w z
  · have hz := h1 w z
    have ht : w.onTables = true := by
      revert z
      simp only [nsW, List.mem_cons, List.mem_nil_iff, or_false]
      rintro (rfl | rfl | rfl | rfl) <;> rfl
    exact va_Nw.use ht hz
  · revert z
    simp only [nsZ, List.mem_cons, List.mem_nil_iff, or_false]
    rintro (rfl | rfl)
    · exact h2.2.word
    · exact h3.2.word
/-- where state has thrown -/
def XCs : String → State → State → Prop := fun E st t => E = RNS ∧ t.heap.size = st.heap.size + 1 ∧ (∀ q : Nat, q < st.heap.size → t.heap[q]? = st.heap[q]?) ∧ ∃ ce : Cell, t.heap[st.heap.size]? = some ce ∧ ce.vm = .none ∧ t.vm.findClass RNS = some ce.cls
theorem kw_ns1 : Cond.classLink RX8 176 RNS ∈ T0 := by decide +kernel
theorem kw_ns2 : Cond.initialized RNS ∈ T0 := by decide +kernel
theorem PRX_blind {base : Nat} {Hb : Heap} {D : va_G} {ck : Nat → ClassId} {ad : Nat → Option Nat} {S : St} {av : List Value} : FrameBlind (va_Pc av (fun U => PRE base Hb D ck ad S U ∧ NX base U)) := fun a U g mk q => by
  obtain ⟨q0, ⟨q1, q2, q3, q4⟩, q5⟩ := q
  exact ⟨q0, ⟨q1, q2, q3, TB.same (u := U) (U := U.calling g mk a) rfl rfl q4⟩, NX.same (s := U) (U := U.calling g mk a) rfl rfl q5⟩
set_option maxRecDepth 4096 in
set_option maxHeartbeats 4000000 in
theorem thr194 {l : Launch} {base : Nat} {Hb : Heap} {D : va_G} {ck : Nat → ClassId} {ad : Nat → Option Nat} {S : St} {a d : Nat} {x : Int32} (hl : l.stackTraces = false) (hx : x.toInt < 0 ∨ 9 < x.toInt) (hd : 5 ≤ d) : vx_Met l yX8_state (.code yX8_state cX8_state 2 (some .int) :: T0) (rmD d 1 6) (va_Pc (([.ref a, .int x] : List Value).map (cv base ad)) (fun U => PRE base Hb D ck ad S U ∧ NX base U)) (fun _ _ _ _ => False) XCs 1 6 (fun _ => False) := by
  refine vx_ofW (cc := cX8_state) (maxL := 2) (ret := some .int) (by decide) rfl ?_
  intro p e s m args below meth c s₁ B hml htab hv
  obtain ⟨rfl, hpre, hNX⟩ := hv
  have hts := atoms_spec (ws := .code yX8_state cX8_state 2 (some .int) :: T0) B.pre
  have hT : ∀ w ∈ T0, w.before ((([.ref a, .int x] : List Value).map (cv base ad)).toArray) s = true := fun w hw => hts w (List.mem_cons_of_mem _ hw)
  obtain ⟨n1, n2, n3⟩ := nx_h hT hNX
  have hlh := en_lh (base := base) (ad := ad) (as := [.ref a, .int x]) (n := 2) (Nat.le_refl 2)
  rw [lg_entry_eq]
  generalize (lg_sl (([.ref a, .int x] : List Value).map (cv base ad)) ++ List.replicate (2 - (lg_sl (([.ref a, .int x] : List Value).map (cv base ad))).length) Slot.unset).toArray = lm at hlh
  have hown : s.vm.findClass RX8 = some m.cls := findClass_of_methodNamed B.named
  refine lv_iload_n (x := x) B.exec B.bytes (k := 1) (i := 1) (by decide +kernel) rfl (lh_at (v := .int x) hlh rfl (by simp)) ?_
  refine lv_tableOut (dflt := 203) (lo := 0) (hi := 9) (offs := #[55, 63, 82, 105, 138, 146, 156, 166, 182, 198]) (len := 55) (tgt := 204) B.exec B.bytes (by decide +kernel) hx (by decide) ?_
  intro T hTh X
  have htr : e.platform.stackTraces = false := (show e.platform.stackTraces = l.stackTraces by rw [X.admits.platform]).trans hl
  obtain ⟨sa, hstr⟩ := hNX.2.2.2
  have hins : (Cond.instantiable RNS 6).before ((([.ref a, .int x] : List Value).map (cv base ad)).toArray) s = true := n1 _ (nsA_5 (by simp))
  have hcode : c.code = cX8_state := B.bytes
  have e204 : decode c.code 204 = .ok (.new 176, 3) := by rw [hcode]; decide +kernel
  have e210 : decode c.code 210 = .ok (.invokespecial 180, 3) := by rw [hcode]; decide +kernel
  have e213 : decode c.code 213 = .ok (.athrow, 1) := by rw [hcode]; decide +kernel
  obtain ⟨vm₁, cX, kX, hfX, hkX, -, -, X₁, st1⟩ := X.newCold B.exec (own := RX8) (C := RNS) (index := 176) (n := 6) hown (hT _ kw_ns1) hins (hT _ kw_ns2)
    (g := F0 m 204 lm []) rfl e204 (by show 0 + 1 ≤ 1; decide) (by show 0 + 6 ≤ 6; decide)
  generalize hT1 : (T.setVm vm₁).pushCell { cls := cX, slots := kX.instanceTypes.map defaultValue, vm := .none } = T1 at X₁ st1
  have hcellA : T1.heap[T.heap.size]? = some (freshCell cX kX) := by rw [← hT1]; exact State.heap_pushCell_size _ _
  have d3' : decode c.code 207 = .ok (.dup, 1) := by rw [hcode]; decide +kernel
  have d4' : decode c.code 208 = .ok (.ldc 178, 2) := by rw [hcode]; decide +kernel
  obtain ⟨U, hsteps, hrun, hend, hW, hsame, ce, hce, hcl, hvm⟩ := ns_ctor X₁ B.exec htr (own := RX8) (ic := 180) hown n1 n2 n3 hfX hkX hcellA (by rw [hTh]; exact Nat.le_refl _) (msg := .ref sa) rfl
    (g := { method := m, pc := 210, locals := lm, stack := [.ref sa, .ref T.heap.size, .ref T.heap.size], locked := none }) rfl (by rw [hml]; exact hlh.1) rfl rfl (rest := []) rfl
    e210 e213 (fun x hx => (htab x hx).elim) (by show 5 < d + 1; omega) (by show 2 * 0 + (1 + 0) + 81 ≤ 64 * (d + 1); omega) B.notSynchronized
  obtain ⟨f1, f2⟩ := vx_frame hsame
  have hsz : U.heap.size ≤ s.heap.size + 1 := hsame.2.2.1
  have hlt : T.heap.size < U.heap.size := (Array.getElem?_eq_some_iff.mp hce).1
  rw [hTh] at hlt hce
  refine ⟨U, ?_, .threw T.heap.size, hrun, hend, Or.inr ⟨T.heap.size, rfl, RNS, ce, [], ⟨rfl, by omega, fun q hq => f2 q hq (fun z hz => nomatch hz), ce, hce, hvm, by rw [hW.alike.findClass]; exact hcl⟩, by rw [hTh]; exact hce, hvm, hcl, hW, hsame, fun z hz => nomatch hz⟩⟩
  refine st1 _ ?_
  show Steps p.tables e below (T1.setTop { method := m, pc := 207, locals := lm, stack := [.ref T.heap.size], locked := none }) _
  jvm_step X₁.here [X₁.here.top, B.exec, d3', Value.category]
  exact X₁.ldcString B.exec (own := RX8) (text := "no such state") (index := 178) (a := sa) hown hstr.1 hstr.2
    (g := { method := m, pc := 208, locals := lm, stack := [.ref T.heap.size, .ref T.heap.size], locked := none }) rfl d4' _ hsteps
