/-! THE LAW's BEGINNING: what the Statement gives of the tables, the constant text, the statics -/
theorem arr_of {args : Array Value} {s : State} {ty : FieldType} (h : (Cond.arrayClass ty).before args s = true) : ∃ cA : ClassId, ArrOfT s cA ty ∧ s.vm.findClass ("[" ++ ty.toString) = some cA := by
  obtain ⟨c, k, comp, h1, h2, h3⟩ := Cond.arrayClass_spec h
  exact ⟨c, fun n z => ⟨fun k h => (by cases h), k, h2, comp, h3⟩, h1⟩
theorem arr_ov {args : Array Value} {s : State} {C : String} (h : (Cond.arrayOver (.object C)).before args s = true) : ∃ cA : ClassId, ArrOfT s cA (.object C) ∧ va_RA s cA (.object C) := by
  obtain ⟨comp, c, k, h1, h2, h3, h4, h5⟩ := Cond.arrayOver_spec h
  exact ⟨c, fun n z => ⟨fun k h => (by cases h), k, h3, comp, h4⟩, k, comp, h3, h4, h1, h5⟩
theorem in_tb {w : Cond} (h : w ∈ tables_1) : w ∈ lw_tbl := List.mem_append_right _ h
theorem ins_0 : Cond.instantiable RX1 3 ∈ lw_tbl := by decide +kernel
theorem ins_1 : Cond.instantiable RX2 4 ∈ lw_tbl := by decide +kernel
theorem ins_2 : Cond.instantiable RX3 19 ∈ lw_tbl := by decide +kernel
theorem ins_3 : Cond.instantiable RX4 2 ∈ lw_tbl := by decide +kernel
theorem ins_4 : Cond.instantiable RX5 8 ∈ lw_tbl := by decide +kernel
theorem ins_5 : Cond.instantiable RX6 9 ∈ lw_tbl := by decide +kernel
theorem ins_6 : Cond.instantiable RX7 1 ∈ lw_tbl := by decide +kernel
theorem ins_7 : Cond.instantiable RX8 12 ∈ lw_tbl := by decide +kernel
theorem ins_8 : Cond.instantiable RX9 52 ∈ lw_tbl := by decide +kernel
theorem ins_9 : Cond.instantiable RNS 6 ∈ lw_tbl := by decide +kernel
theorem ws_9 : ∀ w ∈ u_ws RNS TX0 0, w ∈ lw_tbl := fun w hw => nomatch hw
theorem aw_0 : Cond.arrayClass .int ∈ lw_tbl := by decide +kernel
theorem aw_1 : Cond.arrayClass .long ∈ lw_tbl := by decide +kernel
theorem aw_2 : Cond.arrayClass .char ∈ lw_tbl := by decide +kernel
theorem aw_3 : Cond.arrayClass .byte ∈ lw_tbl := by decide +kernel
theorem aw_4 : Cond.arrayClass .boolean ∈ lw_tbl := by decide +kernel
theorem aw_5 : Cond.arrayOver (.object "TruceWall$Mark") ∈ lw_tbl := by decide +kernel
theorem nwl_in : ∀ w ∈ nwl, w ∈ lw_tbl ∧ w.onTables = true := by decide +kernel
theorem nsW_in : ∀ w ∈ nsW, w ∈ lw_tbl ∧ w.onTables = true := by decide +kernel
theorem sx_w1 : Cond.stringRef "TruceWall$Reader" 157 vk_words ∈ lw_tbl := by decide +kernel
theorem sx_w2 : Cond.laysStatic "java/lang/String" "COMPACT_STRINGS" "Z" ∈ lw_tbl := by decide +kernel
theorem sx_w3 : Cond.initialized "java/lang/String" ∈ lw_tbl := by decide +kernel
theorem sx_w4 : Cond.laysStatic vk_pre "SIOOBE_FORMATTER" vk_fmt ∈ lw_tbl := by decide +kernel
theorem sx_w5 : Cond.initialized vk_pre ∈ lw_tbl := by decide +kernel
theorem nx_w1 : Cond.stringRef RX8 178 "no such state" ∈ lw_tbl := by decide +kernel
theorem nx_w2 : ∀ w ∈ nsZ, w ∈ lw_tbl := by decide +kernel
theorem nx_w3 : Cond.initialized Bundle.tN ∈ lw_tbl := by decide +kernel
abbrev gvC : Cond := Jvm.Cond.and given_1 narrow_1
abbrev tmW : Term := .string "TruceWall$Reader" 157
theorem gv_1 : Cond.exactly tmW "java/lang/String" ∈ flatC gvC := by decide +kernel
theorem gv_2 : Cond.eq (.field tmW "java/lang/String" "coder" "B") (.int 0) ∈ flatC gvC := by decide +kernel
theorem gv_3 : Cond.arrayOf (.field tmW "java/lang/String" "value" "[B") .byte ∈ flatC gvC := by decide +kernel
theorem gv_4 : Cond.eq (.length (.field tmW "java/lang/String" "value" "[B")) (.int (Int32.ofNat 102)) ∈ flatC gvC := by decide +kernel
theorem gv_5 : ∀ j : Nat, j < 102 → Cond.eq (.elem (.field tmW "java/lang/String" "value" "[B") (.int (Int32.ofNat j))) (.int (vkB0.getD j 0)) ∈ flatC gvC := by decide +kernel
theorem gv_6 : Cond.eq (.static "java/lang/String" "COMPACT_STRINGS" "Z") (.int 1) ∈ flatC gvC := by decide +kernel
theorem gv_7 : Cond.isRef (.static vk_pre "SIOOBE_FORMATTER" vk_fmt) ∈ flatC gvC := by decide +kernel
theorem gv_8 : Cond.exactly (.string RX8 178) "java/lang/String" ∈ flatC gvC := by decide +kernel
theorem gv_9 : Cond.isRef (.static Bundle.tN "UNASSIGNED_STACK" Bundle.steD) ∈ flatC gvC := by decide +kernel
theorem gv_10 : Cond.isRef (.static Bundle.tN "SUPPRESSED_SENTINEL" Bundle.listD) ∈ flatC gvC := by decide +kernel
section STA
variable {b base : Nat} {s : State}
theorem start_K (hts : ∀ w ∈ lw_tbl, w.before #[Value.ref b] s = true) : ∃ D ck, va_K D vwCl (tysC ck) s := by
  obtain ⟨c0, j0, k0⟩ := u_known (C := RX1) (T := TX1) (N := 3) (n := 3) hts (fun w hw => (List.mem_filter.mp (ck_0.2.2.1 w hw)).1) (hts _ ins_0)
  obtain ⟨c1, j1, k1⟩ := u_known (C := RX2) (T := TX2) (N := 4) (n := 4) hts (fun w hw => (List.mem_filter.mp (ck_1.2.2.1 w hw)).1) (hts _ ins_1)
  obtain ⟨c2, j2, k2⟩ := u_known (C := RX3) (T := TX3) (N := 19) (n := 19) hts (fun w hw => (List.mem_filter.mp (ck_2.2.2.1 w hw)).1) (hts _ ins_2)
  obtain ⟨c3, j3, k3⟩ := u_known (C := RX4) (T := TX4) (N := 2) (n := 2) hts (fun w hw => (List.mem_filter.mp (ck_3.2.2.1 w hw)).1) (hts _ ins_3)
  obtain ⟨c4, j4, k4⟩ := u_known (C := RX5) (T := TX5) (N := 8) (n := 8) hts (fun w hw => (List.mem_filter.mp (ck_4.2.2.1 w hw)).1) (hts _ ins_4)
  obtain ⟨c5, j5, k5⟩ := u_known (C := RX6) (T := TX6) (N := 9) (n := 9) hts (fun w hw => (List.mem_filter.mp (ck_5.2.2.1 w hw)).1) (hts _ ins_5)
  obtain ⟨c6, j6, k6⟩ := u_known (C := RX7) (T := TX7) (N := 1) (n := 1) hts (fun w hw => (List.mem_filter.mp (ck_6.2.2.1 w hw)).1) (hts _ ins_6)
  obtain ⟨c7, j7, k7⟩ := u_known (C := RX8) (T := TX8) (N := 12) (n := 12) hts (fun w hw => (List.mem_filter.mp (ck_7.2.2.1 w hw)).1) (hts _ ins_7)
  obtain ⟨c8, j8, k8⟩ := u_known (C := RX9) (T := TX9) (N := 52) (n := 52) hts (fun w hw => (List.mem_filter.mp (ck_8.2.2.1 w hw)).1) (hts _ ins_8)
  obtain ⟨c9, j9, k9⟩ := u_known (C := RNS) (T := TX0) (N := 0) (n := 6) hts ws_9 (hts _ ins_9)
  obtain ⟨a0, p0, q0⟩ := arr_of (hts _ aw_0)
  obtain ⟨a1, p1, q1⟩ := arr_of (hts _ aw_1)
  obtain ⟨a2, p2, q2⟩ := arr_of (hts _ aw_2)
  obtain ⟨a3, p3, q3⟩ := arr_of (hts _ aw_3)
  obtain ⟨a4, p4, q4⟩ := arr_of (hts _ aw_4)
  obtain ⟨a5, p5, q5⟩ := arr_ov (hts _ aw_5)
  refine ⟨(fun k => match k with | 0 => c0 | 1 => c1 | 2 => c2 | 3 => c3 | 4 => c4 | 5 => c5 | 6 => c6 | 7 => c7 | 8 => c8 | _ => c9, fun k => match k with | 0 => j0 | 1 => j1 | 2 => j2 | 3 => j3 | 4 => j4 | 5 => j5 | 6 => j6 | 7 => j7 | 8 => j8 | _ => j9), fun k => match k with | 0 => a0 | 1 => a1 | 2 => a2 | 3 => a3 | 4 => a4 | _ => a5, fun c q hq => ?_, fun t q hq => ?_⟩
  · match c, hq with
    | 0, hq => cases hq; exact k0
    | 1, hq => cases hq; exact k1
    | 2, hq => cases hq; exact k2
    | 3, hq => cases hq; exact k3
    | 4, hq => cases hq; exact k4
    | 5, hq => cases hq; exact k5
    | 6, hq => cases hq; exact k6
    | 7, hq => cases hq; exact k7
    | 8, hq => cases hq; exact k8
    | 9, hq => cases hq; exact k9
    | c + 10, hq => cases hq
  · match t, hq with
    | 0, hq => cases hq; exact ⟨p0, q0⟩
    | 1, hq => cases hq; exact ⟨p1, q1⟩
    | 2, hq => cases hq; exact ⟨p2, q2⟩
    | 3, hq => cases hq; exact ⟨p3, q3⟩
    | 4, hq => cases hq; exact ⟨p4, q4⟩
    | 5, hq => cases hq; exact ⟨p5, q5⟩
    | t + 6, hq => cases hq
theorem start_TB (hbase : base + 1 = s.heap.size) (hts : ∀ w ∈ lw_tbl, w.before #[Value.ref b] s = true) (hgv : gvC.before #[Value.ref b] s = true) : ∃ (D : va_G) (ck : Nat → ClassId) (ad : Nat → Option Nat), ad 30 = some b ∧ TB base s.heap D ck ad s := by
  obtain ⟨D, ck, hK⟩ := start_K hts
  have hA : ∀ a : Nat, a < s.heap.size → ¬ (fun q => base + 1 ≤ q) a := fun a ha => by show ¬ base + 1 ≤ a; omega
  have hg := flat_of_before _ hgv
  obtain ⟨adK, adV, hS, hev⟩ := vk_Sof (args := #[Value.ref b]) (s := s) (N := 1) (tm := fun _ => tmW) (len := [102]) (byt := [vkB0]) (A := fun q => base + 1 ≤ q) (fun i hi => by rw [show i = 0 by omega]; decide) (fun i hi => hg _ gv_1) (fun i hi => hg _ gv_2) (fun i hi => hg _ gv_3) (fun i hi => by rw [show i = 0 by omega]; exact hg _ gv_4) (fun i hi j hj => by
      have e : i = 0 := by omega
      subst e
      exact hg _ (gv_5 j hj)) (fun i j hi hj hij => by omega) hA
  have hZc : va_Z "java/lang/String" "COMPACT_STRINGS" "Z" (.int 1) (fun q => base + 1 ≤ q) s s.heap := va_Zof (hts _ sx_w2) (hts _ sx_w3) (va_eqt (hg _ gv_6)) hA
  have hZf : ∃ o : Option Nat, va_Z vk_pre "SIOOBE_FORMATTER" vk_fmt (va_rf o) (fun q => base + 1 ≤ q) s s.heap := by
    rcases va_Zqof (hts _ sx_w4) (hts _ sx_w5) (hg _ gv_7) hA with z | ⟨t, z⟩
    · exact ⟨none, z⟩
    · exact ⟨some t, z⟩
  obtain ⟨o20, hZf⟩ := hZf
  obtain ⟨s1, s2, s3, s4⟩ := hS.1 0 (by decide)
  refine ⟨D, ck, fun k => match k with | 0 => some (adK 0) | 10 => some (adV 0) | 20 => o20 | 30 => some b | _ => none, rfl, hK, fun w hw => va_Nw.of (nwl_in w hw).2 (hts w (nwl_in w hw).1), va_AO.of (hts _ aw_5), ⟨adK 0, adV 0, rfl, rfl, vk_R.of (hts _ sx_w1) (hev 0 (by decide)), s1, s2, s3, s4⟩, hZc, hZf⟩
theorem start_NX (hbase : base + 1 = s.heap.size) (hts : ∀ w ∈ lw_tbl, w.before #[Value.ref b] s = true) (hgv : gvC.before #[Value.ref b] s = true) : NX base s := by
  have hA : ∀ a : Nat, a < s.heap.size → ¬ (fun q => base + 1 ≤ q) a := fun a ha => by show ¬ base + 1 ≤ a; omega
  have hg := flat_of_before _ hgv
  obtain ⟨a, c, cA, kA, q1, -⟩ := Cond.exactly_spec (args := #[Value.ref b]) (first := s) (o := none) (s := s) (idx := []) (t := .string RX8 178) (cls := "java/lang/String") (hg _ gv_8)
  exact ⟨fun w hw => va_Nw.of (nsW_in w hw).2 (hts w (nsW_in w hw).1), vx_Zqof (hts _ (nx_w2 _ (by simp [nsZ]))) (hts _ nx_w3) (hg _ gv_9) hA, vx_Zqof (hts _ (nx_w2 _ (by simp [nsZ]))) (hts _ nx_w3) (hg _ gv_10) hA, a, vk_R.of (hts _ nx_w1) q1⟩
end STA
