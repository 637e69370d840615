set_option maxRecDepth 20000 in
set_option maxHeartbeats 4000000 in
theorem s_188 : MS mtab yX9_count cX9_count 2 (some .int) Q188 P188 := by
  intro X orc d h hR hnm hxn ho hrd b
  match b with
  | 0 =>
    show GK X Q188 0 (o_aload 0 (o_iconst 0 (o_putI 8 0 (o_iload 1 (o_iconst 0 (o_iconst 5 (o_sI orc 114 3 (o_if0 (o_iconst (-1) (o_iret)) (o_iload 1 (o_if0 (o_aload 0 (o_getR 8 10 (o_iconst 0 (o_iald 0 (o_iret))))) (o_iload 1 (o_iconst 1 (o_ieq (o_aload 0 (o_getR 8 11 (o_iconst 0 (o_iald 0 (o_iret))))) (o_iload 1 (o_iconst 2 (o_ieq (o_aload 0 (o_getR 8 12 (o_iconst 0 (o_iald 0 (o_iret))))) (o_iload 1 (o_iconst 3 (o_ieq (o_aload 0 (o_vI orc 165 1 8 (o_if0 (o_iconst 0 (o_iret)) (o_iconst 1 (o_iret))))) (o_iload 1 (o_iconst 4 (o_ieq (o_aload 0 (o_getI 8 38 (o_iret))) (o_aload 0 (o_getI 8 1 (o_iret)))))))))))))))))))))))))
    refine gk_aload_n (j := 0) h (by decide +kernel) rfl ?_
    refine gk_iconst (n := 0) h (by decide +kernel) (by decide) ?_
    refine gk_putI (i := 116) h ck_8 (by decide) rfl (Or.inl rfl) (by decide +kernel) kw_1005 ?_
    refine gk_iload_n (j := 1) h (by decide +kernel) rfl ?_
    refine gk_iconst (n := 0) h (by decide +kernel) (by decide) ?_
    refine gk_iconst (n := 5) h (by decide +kernel) (by decide) ?_
    refine gk_sI (ca_s (idx := 223) h ho hm_114 (rd_le hrd (by decide)) (by decide +kernel) kw_990 kw_991 kw_101 kw_992 (by decide +kernel)) ?_
    refine gk_ifne (off := 5) (tgt := 16) h (by decide +kernel) (by decide) ?_ ?_
    · refine gk_iload_n (j := 1) h (by decide +kernel) rfl ?_
      refine gk_ifne (off := 12) (tgt := 29) h (by decide +kernel) (by decide) ?_ ?_
      · refine gk_iload_n (j := 1) h (by decide +kernel) rfl ?_
        refine gk_iconst (n := 1) h (by decide +kernel) (by decide) ?_
        refine gk_icmpne (off := 12) (tgt := 43) h (by decide +kernel) (by decide) ?_ ?_
        · refine gk_iload_n (j := 1) h (by decide +kernel) rfl ?_
          refine gk_iconst (n := 2) h (by decide +kernel) (by decide) ?_
          refine gk_icmpne (off := 12) (tgt := 57) h (by decide +kernel) (by decide) ?_ ?_
          · refine gk_iload_n (j := 1) h (by decide +kernel) rfl ?_
            refine gk_iconst (n := 3) h (by decide +kernel) (by decide) ?_
            refine gk_icmpne (off := 18) (tgt := 77) h (by decide +kernel) (by decide) ?_ ?_
            · refine gk_iload_n (j := 1) h (by decide +kernel) rfl ?_
              refine gk_iconst (n := 4) h (by decide +kernel) (by decide) ?_
              refine gk_icmpne (off := 10) (tgt := 89) h (by decide +kernel) (by decide) ?_ ?_
              · refine gk_aload_n (j := 0) h (by decide +kernel) rfl ?_
                refine gk_getI (i := 122) h ck_8 (by decide) (fun _ _ _ => rfl) (by decide +kernel) kw_1006 ?_
                exact gk_iret h hR (by decide +kernel)
              · refine gk_aload_n (j := 0) h (by decide +kernel) rfl ?_
                refine gk_getI (i := 274) h ck_8 (by decide) (fun _ _ _ => rfl) (by decide +kernel) kw_1043 ?_
                refine gk_goto (off := 7) (tgt := 93) h (by decide +kernel) (by decide) ?_
                exact gk_iret h hR (by decide +kernel)
            · refine gk_aload_n (j := 0) h (by decide +kernel) rfl ?_
              refine gk_vI (ca_v (idx := 367) h ho hm_165 (rd_le hrd (by decide)) ck_8 (by decide +kernel) kw_1342 kw_1344 kw_77 kw_101 kw_1345 rfl (by decide +kernel) (by decide)) ?_
              refine gk_ifeq (off := 7) (tgt := 73) h (by decide +kernel) (by decide) ?_ ?_
              · refine gk_iconst (n := 0) h (by decide +kernel) (by decide) ?_
                refine gk_goto (off := 19) (tgt := 93) h (by decide +kernel) (by decide) ?_
                exact gk_iret h hR (by decide +kernel)
              · refine gk_iconst (n := 1) h (by decide +kernel) (by decide) ?_
                refine gk_goto (off := 23) (tgt := 93) h (by decide +kernel) (by decide) ?_
                exact gk_iret h hR (by decide +kernel)
          · refine gk_aload_n (j := 0) h (by decide +kernel) rfl ?_
            refine gk_getR (i := 19) h ck_8 (by decide) (fun _ _ _ => rfl) (by decide +kernel) kw_1017 ?_
            refine gk_iconst (n := 0) h (by decide +kernel) (by decide) ?_
            refine gk_ald0 h (by decide +kernel) ?_
            refine gk_goto (off := 39) (tgt := 93) h (by decide +kernel) (by decide) ?_
            exact gk_iret h hR (by decide +kernel)
        · refine gk_aload_n (j := 0) h (by decide +kernel) rfl ?_
          refine gk_getR (i := 16) h ck_8 (by decide) (fun _ _ _ => rfl) (by decide +kernel) kw_1016 ?_
          refine gk_iconst (n := 0) h (by decide +kernel) (by decide) ?_
          refine gk_ald0 h (by decide +kernel) ?_
          refine gk_goto (off := 53) (tgt := 93) h (by decide +kernel) (by decide) ?_
          exact gk_iret h hR (by decide +kernel)
      · refine gk_aload_n (j := 0) h (by decide +kernel) rfl ?_
        refine gk_getR (i := 13) h ck_8 (by decide) (fun _ _ _ => rfl) (by decide +kernel) kw_1015 ?_
        refine gk_iconst (n := 0) h (by decide +kernel) (by decide) ?_
        refine gk_ald0 h (by decide +kernel) ?_
        refine gk_goto (off := 67) (tgt := 93) h (by decide +kernel) (by decide) ?_
        exact gk_iret h hR (by decide +kernel)
    · refine gk_iconst (n := (-1)) h (by decide +kernel) (by decide) ?_
      exact gk_iret h hR (by decide +kernel)
  | _ + 1 => exact fun _ _ _ hr => hr.elim
set_option maxRecDepth 20000 in
set_option maxHeartbeats 4000000 in
theorem s_189 : MS mtab yJ0_charAt_5068e cJ0_charAt_5068e 2 (some .char) Q189 P189 := by
  intro X orc d h hR hnm hxn ho hrd b
  match b with
  | 0 =>
    show GK X Q189 0 (o_sload 0 (o_wI orc 190 1 (o_if0 (o_bad) (o_sload 0 (o_sval (o_iload 1 (o_sI orc 191 2 (o_cret))))))))
    refine gk_sload_n (j := 0) h (by decide +kernel) rfl ?_
    refine gk_wI (ca_w (idx := 492) h ho hm_190 (rd_le hrd (by decide)) (by decide +kernel) kw_513 kw_514 kw_515 kw_102 kw_516 rfl (by decide +kernel) (by decide)) ?_
    refine gk_ifeq (off := 12) (tgt := 16) h (by decide +kernel) (by decide) ?_ ?_
    · exact gk_bad
    · refine gk_sload_n (j := 0) h (by decide +kernel) rfl ?_
      refine gk_sval (i := 9) h (by decide +kernel) kw_1453 ?_
      refine gk_iload_n (j := 1) h (by decide +kernel) rfl ?_
      refine gk_sI (ca_s (idx := 495) h ho hm_191 (rd_le hrd (by decide)) (by decide +kernel) kw_519 kw_520 kw_103 kw_521 (by decide +kernel)) ?_
      exact gk_cret h hR (by decide +kernel)
  | _ + 1 => exact fun _ _ _ hr => hr.elim
set_option maxRecDepth 20000 in
set_option maxHeartbeats 4000000 in
theorem s_190 : MS mtab yJ0_isLatin1_aae02 cJ0_isLatin1_aae02 1 (some .boolean) Q190 P190 := by
  intro X orc d h hR hnm hxn ho hrd b
  match b with
  | 0 =>
    show GK X Q190 0 (o_iconst 1 (o_if0 (o_iconst 0 (o_zret)) (o_sload 0 (o_scod (o_if0 (o_iconst 1 (o_zret)) (o_iconst 0 (o_zret)))))))
    refine gk_gcomp (i := 38) h (by decide +kernel) kw_517 ?_
    refine gk_ifeq (off := 14) (tgt := 17) h (by decide +kernel) (by decide) ?_ ?_
    · refine gk_iconst (n := 0) h (by decide +kernel) (by decide) ?_
      exact gk_zret h hR (by decide +kernel)
    · refine gk_sload_n (j := 0) h (by decide +kernel) rfl ?_
      refine gk_scod (i := 15) h (by decide +kernel) kw_1452 ?_
      refine gk_ifne (off := 7) (tgt := 17) h (by decide +kernel) (by decide) ?_ ?_
      · refine gk_iconst (n := 0) h (by decide +kernel) (by decide) ?_
        exact gk_zret h hR (by decide +kernel)
      · refine gk_iconst (n := 1) h (by decide +kernel) (by decide) ?_
        refine gk_goto (off := 4) (tgt := 18) h (by decide +kernel) (by decide) ?_
        exact gk_zret h hR (by decide +kernel)
  | _ + 1 => exact fun _ _ _ hr => hr.elim
set_option maxRecDepth 20000 in
set_option maxHeartbeats 4000000 in
theorem s_191 : MS mtab yJ1_charAt_3b067 cJ1_charAt_3b067 2 (some .char) Q191 P191 := by
  intro X orc d h hR hnm hxn ho hrd b
  match b with
  | 0 =>
    show GK X Q191 0 (o_iload 1 (o_sload 0 (o_slen (o_sV orc 192 2 (o_sload 0 (o_iload 1 (o_sbald (o_iconst 255 (o_i2 (fun x y => x &&& y) (o_i1 (fun x => (x.toUInt32 % 65536).toInt32) (o_cret)))))))))))
    refine gk_iload_n (j := 1) h (by decide +kernel) rfl ?_
    refine gk_sload_n (j := 0) h (by decide +kernel) rfl ?_
    refine gk_slen h (by decide +kernel) ?_
    refine gk_sV (ca_s (idx := 9) h ho hm_192 (rd_le hrd (by decide)) (by decide +kernel) kw_522 kw_523 kw_102 kw_524 (by decide +kernel)) ?_
    refine gk_sload_n (j := 0) h (by decide +kernel) rfl ?_
    refine gk_iload_n (j := 1) h (by decide +kernel) rfl ?_
    refine gk_sbald h (by decide +kernel) ?_
    refine gk_sipush (n := 255) h (by decide +kernel) (by decide) ?_
    refine gk_iand h (by decide +kernel) ?_
    refine gk_i2c h (by decide +kernel) ?_
    exact gk_cret h hR (by decide +kernel)
  | _ + 1 => exact fun _ _ _ hr => hr.elim
set_option maxRecDepth 20000 in
set_option maxHeartbeats 4000000 in
theorem s_192 : MS mtab yJ0_checkIndex_df160 cJ0_checkIndex_df160 2 none Q192 P192 := by
  intro X orc d h hR hnm hxn ho hrd b
  match b with
  | 0 =>
    show GK X Q192 0 (o_iload 0 (o_iload 1 (o_str 20 (o_sI orc 193 3 (o_pop (o_vret))))))
    refine gk_iload_n (j := 0) h (by decide +kernel) rfl ?_
    refine gk_iload_n (j := 1) h (by decide +kernel) rfl ?_
    refine gk_gfmt (i := 1053) h (by decide +kernel) kw_525 ?_
    refine gk_sI (ca_s (idx := 1059) h ho hm_193 (rd_le hrd (by decide)) (by decide +kernel) kw_527 kw_528 kw_104 kw_529 (by decide +kernel)) ?_
    refine gk_pop h (by decide +kernel) ?_
    exact gk_vret h hR (by decide +kernel)
  | _ + 1 => exact fun _ _ _ hr => hr.elim
set_option maxRecDepth 20000 in
set_option maxHeartbeats 4000000 in
theorem s_193 : MS mtab yJ3_checkIndex_8e157 cJ3_checkIndex_8e157 3 (some .int) Q193 P193 := by
  intro X orc d h hR hnm hxn ho hrd b
  match b with
  | 0 =>
    show GK X Q193 0 (o_iload 0 (o_ifn (o_jmp 1) (o_iload 0 (o_iload 1 (o_ilt (o_iload 0 (o_iret)) (o_jmp 1))))))
    refine gk_iload_n (j := 0) h (by decide +kernel) rfl ?_
    refine gk_iflt (off := 8) (tgt := 9) h (by decide +kernel) (by decide) ?_ ?_
    · exact gk_jmp 1 rfl
    · refine gk_iload_n (j := 0) h (by decide +kernel) rfl ?_
      refine gk_iload_n (j := 1) h (by decide +kernel) rfl ?_
      refine gk_icmplt (off := 10) (tgt := 16) h (by decide +kernel) (by decide) ?_ ?_
      · refine gk_iload_n (j := 0) h (by decide +kernel) rfl ?_
        exact gk_iret h hR (by decide +kernel)
      · exact gk_jmp 1 rfl
  | 1 =>
    show GK X Q193 9 (o_bad)
    exact gk_bad
  | _ + 2 => exact fun _ _ _ hr => hr.elim
theorem so_X8_state_1 {α : Type} {a0 a1 a2 a3 a4 a5 a6 a7 a8 a9 : α} (x : Int32) (hx : ∀ q ∈ ([(0, a0), (1, a1), (2, a2), (3, a3), (4, a4), (5, a5), (6, a6), (7, a7), (8, a8), (9, a9)] : List (Int32 × α)), x ≠ q.1) : x.toInt < 0 ∨ 9 < x.toInt := by
  simp only [List.mem_cons, List.not_mem_nil, or_false, forall_eq_or_imp, forall_eq] at hx
  simp only [ne_eq, ← Int32.toInt_inj] at hx
  simp at hx
  omega
set_option maxRecDepth 20000 in
set_option maxHeartbeats 4000000 in
theorem s_194 : MS mtab yX8_state cX8_state 2 (some .int) Q194 P194 := by
  intro X orc d h hR hnm hxn ho hrd b
  match b with
  | 0 =>
    show GK X Q194 0 (o_iload 1 (o_sw [(0, o_aload 0 (o_getR 7 4 (o_getI 4 1 (o_iret)))), (1, o_aload 0 (o_vI orc 108 1 7 (o_if0 (o_aload 0 (o_getR 7 4 (o_vI orc 50 1 4 (o_iret)))) (o_iconst (-1) (o_iret))))), (2, o_aload 0 (o_getR 7 3 (o_aload 0 (o_getR 7 4 (o_getL 4 2 (o_vI orc 74 2 5 (o_if0 (o_iconst 0 (o_iret)) (o_iconst 1 (o_iret))))))))), (3, o_aload 0 (o_vI orc 108 1 7 (o_if0 (o_iconst (-1) (o_iret)) (o_aload 0 (o_getR 7 3 (o_aload 0 (o_getR 7 4 (o_getL 4 2 (o_aload 0 (o_getR 7 4 (o_vI orc 50 1 4 (o_vI orc 75 3 5 (o_iret))))))))))))), (4, o_aload 0 (o_getR 7 4 (o_getI 4 3 (o_iret)))), (5, o_aload 0 (o_getR 7 4 (o_getR 4 4 (o_iconst 0 (o_iald 0 (o_iret)))))), (6, o_aload 0 (o_getR 7 4 (o_getR 4 4 (o_iconst 1 (o_iald 0 (o_iret)))))), (7, o_aload 0 (o_getR 7 3 (o_aload 0 (o_getR 7 4 (o_getL 4 2 (o_iconst 0 (o_vI orc 69 3 5 (o_iret)))))))), (8, o_aload 0 (o_getR 7 3 (o_aload 0 (o_getR 7 4 (o_getL 4 2 (o_iconst 1 (o_vI orc 69 3 5 (o_iret)))))))), (9, o_aload 0 (o_getI 7 10 (o_iret)))] (o_bad)))
    refine gk_iload_n (j := 1) h (by decide +kernel) rfl ?_
    refine gk_tsw (dflt := 203) (lo := 0) (hi := 9) (offs := #[55, 63, 82, 105, 138, 146, 156, 166, 182, 198]) (len := 55) (td := 204) h (by decide +kernel) (by decide) ?_ ?_ (by intro x hx; exact so_X8_state_1 x hx)
    · exact gk_bad
    · intro q hq
      simp only [List.mem_cons, List.not_mem_nil, or_false] at hq
      rcases hq with rfl | rfl | rfl | rfl | rfl | rfl | rfl | rfl | rfl | rfl
      · refine ⟨56, 55, by dsimp only; decide, by dsimp only; decide, by dsimp only; decide, by decide, ?_⟩
        refine gk_aload_n (j := 0) h (by decide +kernel) rfl ?_
        refine gk_getR (i := 27) h ck_7 (by decide) (fun _ _ _ => rfl) (by decide +kernel) kw_444 ?_
        refine gk_getI (i := 134) h ck_4 (by decide) (fun _ _ _ => rfl) (by decide +kernel) kw_215 ?_
        exact gk_iret h hR (by decide +kernel)
      · refine ⟨64, 63, by dsimp only; decide, by dsimp only; decide, by dsimp only; decide, by decide, ?_⟩
        refine gk_aload_n (j := 0) h (by decide +kernel) rfl ?_
        refine gk_vI (ca_v (idx := 122) h ho hm_108 (rd_le hrd (by decide)) ck_7 (by decide +kernel) kw_633 kw_635 kw_24 kw_91 kw_636 rfl (by decide +kernel) (by decide)) ?_
        refine gk_ifeq (off := 7) (tgt := 75) h (by decide +kernel) (by decide) ?_ ?_
        · refine gk_aload_n (j := 0) h (by decide +kernel) rfl ?_
          refine gk_getR (i := 27) h ck_7 (by decide) (fun _ _ _ => rfl) (by decide +kernel) kw_444 ?_
          refine gk_vI (ca_v (idx := 156) h ho hm_50 (rd_le hrd (by decide)) ck_4 (by decide +kernel) kw_385 kw_386 kw_387 kw_93 kw_388 rfl (by decide +kernel) (by decide)) ?_
          exact gk_iret h hR (by decide +kernel)
        · refine gk_iconst (n := (-1)) h (by decide +kernel) (by decide) ?_
          refine gk_goto (off := 10) (tgt := 82) h (by decide +kernel) (by decide) ?_
          exact gk_iret h hR (by decide +kernel)
      · refine ⟨83, 82, by dsimp only; decide, by dsimp only; decide, by dsimp only; decide, by decide, ?_⟩
        refine gk_aload_n (j := 0) h (by decide +kernel) rfl ?_
        refine gk_getR (i := 70) h ck_7 (by decide) (fun _ _ _ => rfl) (by decide +kernel) kw_443 ?_
        refine gk_aload_n (j := 0) h (by decide +kernel) rfl ?_
        refine gk_getR (i := 27) h ck_7 (by decide) (fun _ _ _ => rfl) (by decide +kernel) kw_444 ?_
        refine gk_getL (i := 126) h ck_4 (by decide) (fun _ _ _ => rfl) (by decide +kernel) kw_217 ?_
        refine gk_vI (ca_v (idx := 160) h ho hm_74 (rd_le hrd (by decide)) ck_5 (by decide +kernel) kw_880 kw_752 kw_753 kw_97 kw_754 rfl (by decide +kernel) (by decide)) ?_
        refine gk_ifeq (off := 7) (tgt := 104) h (by decide +kernel) (by decide) ?_ ?_
        · refine gk_iconst (n := 0) h (by decide +kernel) (by decide) ?_
          exact gk_iret h hR (by decide +kernel)
        · refine gk_iconst (n := 1) h (by decide +kernel) (by decide) ?_
          refine gk_goto (off := 4) (tgt := 105) h (by decide +kernel) (by decide) ?_
          exact gk_iret h hR (by decide +kernel)
      · refine ⟨106, 105, by dsimp only; decide, by dsimp only; decide, by dsimp only; decide, by decide, ?_⟩
        refine gk_aload_n (j := 0) h (by decide +kernel) rfl ?_
        refine gk_vI (ca_v (idx := 122) h ho hm_108 (rd_le hrd (by decide)) ck_7 (by decide +kernel) kw_633 kw_635 kw_24 kw_91 kw_636 rfl (by decide +kernel) (by decide)) ?_
        refine gk_ifeq (off := 27) (tgt := 137) h (by decide +kernel) (by decide) ?_ ?_
        · refine gk_iconst (n := (-1)) h (by decide +kernel) (by decide) ?_
          exact gk_iret h hR (by decide +kernel)
        · refine gk_aload_n (j := 0) h (by decide +kernel) rfl ?_
          refine gk_getR (i := 70) h ck_7 (by decide) (fun _ _ _ => rfl) (by decide +kernel) kw_443 ?_
          refine gk_aload_n (j := 0) h (by decide +kernel) rfl ?_
          refine gk_getR (i := 27) h ck_7 (by decide) (fun _ _ _ => rfl) (by decide +kernel) kw_444 ?_
          refine gk_getL (i := 126) h ck_4 (by decide) (fun _ _ _ => rfl) (by decide +kernel) kw_217 ?_
          refine gk_aload_n (j := 0) h (by decide +kernel) rfl ?_
          refine gk_getR (i := 27) h ck_7 (by decide) (fun _ _ _ => rfl) (by decide +kernel) kw_444 ?_
          refine gk_vI (ca_v (idx := 156) h ho hm_50 (rd_le hrd (by decide)) ck_4 (by decide +kernel) kw_385 kw_386 kw_387 kw_93 kw_388 rfl (by decide +kernel) (by decide)) ?_
          refine gk_vI (ca_v (idx := 164) h ho hm_75 (rd_le hrd (by decide)) ck_5 (by decide +kernel) kw_853 kw_748 kw_749 kw_97 kw_750 rfl (by decide +kernel) (by decide)) ?_
          refine gk_goto (off := 4) (tgt := 138) h (by decide +kernel) (by decide) ?_
          exact gk_iret h hR (by decide +kernel)
      · refine ⟨139, 138, by dsimp only; decide, by dsimp only; decide, by dsimp only; decide, by decide, ?_⟩
        refine gk_aload_n (j := 0) h (by decide +kernel) rfl ?_
        refine gk_getR (i := 27) h ck_7 (by decide) (fun _ _ _ => rfl) (by decide +kernel) kw_444 ?_
        refine gk_getI (i := 167) h ck_4 (by decide) (fun _ _ _ => rfl) (by decide +kernel) kw_219 ?_
        exact gk_iret h hR (by decide +kernel)
      · refine ⟨147, 146, by dsimp only; decide, by dsimp only; decide, by dsimp only; decide, by decide, ?_⟩
        refine gk_aload_n (j := 0) h (by decide +kernel) rfl ?_
        refine gk_getR (i := 27) h ck_7 (by decide) (fun _ _ _ => rfl) (by decide +kernel) kw_444 ?_
        refine gk_getR (i := 170) h ck_4 (by decide) (fun _ _ _ => rfl) (by decide +kernel) kw_221 ?_
        refine gk_iconst (n := 0) h (by decide +kernel) (by decide) ?_
        refine gk_ald0 h (by decide +kernel) ?_
        exact gk_iret h hR (by decide +kernel)
      · refine ⟨157, 156, by dsimp only; decide, by dsimp only; decide, by dsimp only; decide, by decide, ?_⟩
        refine gk_aload_n (j := 0) h (by decide +kernel) rfl ?_
        refine gk_getR (i := 27) h ck_7 (by decide) (fun _ _ _ => rfl) (by decide +kernel) kw_444 ?_
        refine gk_getR (i := 170) h ck_4 (by decide) (fun _ _ _ => rfl) (by decide +kernel) kw_221 ?_
        refine gk_iconst (n := 1) h (by decide +kernel) (by decide) ?_
        refine gk_ald0 h (by decide +kernel) ?_
        exact gk_iret h hR (by decide +kernel)
      · refine ⟨167, 166, by dsimp only; decide, by dsimp only; decide, by dsimp only; decide, by decide, ?_⟩
        refine gk_aload_n (j := 0) h (by decide +kernel) rfl ?_
        refine gk_getR (i := 70) h ck_7 (by decide) (fun _ _ _ => rfl) (by decide +kernel) kw_443 ?_
        refine gk_aload_n (j := 0) h (by decide +kernel) rfl ?_
        refine gk_getR (i := 27) h ck_7 (by decide) (fun _ _ _ => rfl) (by decide +kernel) kw_444 ?_
        refine gk_getL (i := 126) h ck_4 (by decide) (fun _ _ _ => rfl) (by decide +kernel) kw_217 ?_
        refine gk_iconst (n := 0) h (by decide +kernel) (by decide) ?_
        refine gk_vI (ca_v (idx := 173) h ho hm_69 (rd_le hrd (by decide)) ck_5 (by decide +kernel) kw_881 kw_411 kw_412 kw_97 kw_413 rfl (by decide +kernel) (by decide)) ?_
        exact gk_iret h hR (by decide +kernel)
      · refine ⟨183, 182, by dsimp only; decide, by dsimp only; decide, by dsimp only; decide, by decide, ?_⟩
        refine gk_aload_n (j := 0) h (by decide +kernel) rfl ?_
        refine gk_getR (i := 70) h ck_7 (by decide) (fun _ _ _ => rfl) (by decide +kernel) kw_443 ?_
        refine gk_aload_n (j := 0) h (by decide +kernel) rfl ?_
        refine gk_getR (i := 27) h ck_7 (by decide) (fun _ _ _ => rfl) (by decide +kernel) kw_444 ?_
        refine gk_getL (i := 126) h ck_4 (by decide) (fun _ _ _ => rfl) (by decide +kernel) kw_217 ?_
        refine gk_iconst (n := 1) h (by decide +kernel) (by decide) ?_
        refine gk_vI (ca_v (idx := 173) h ho hm_69 (rd_le hrd (by decide)) ck_5 (by decide +kernel) kw_881 kw_411 kw_412 kw_97 kw_413 rfl (by decide +kernel) (by decide)) ?_
        exact gk_iret h hR (by decide +kernel)
      · refine ⟨199, 198, by dsimp only; decide, by dsimp only; decide, by dsimp only; decide, by decide, ?_⟩
        refine gk_aload_n (j := 0) h (by decide +kernel) rfl ?_
        refine gk_getI (i := 60) h ck_7 (by decide) (fun _ _ _ => rfl) (by decide +kernel) kw_450 ?_
        exact gk_iret h hR (by decide +kernel)
  | _ + 1 => exact fun _ _ _ hr => hr.elim
