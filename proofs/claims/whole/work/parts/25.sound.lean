set_option maxRecDepth 20000 in
set_option maxHeartbeats 4000000 in
theorem s_124 : MS mtab yX9_opens cX9_opens 2 none Q124 P124 := by
  intro X orc d h hR hnm hxn ho hrd b
  match b with
  | 0 =>
    show GK X Q124 0 (o_aload 0 (o_getR 8 26 (o_iload 1 (o_iconst 0 (o_iast 0 (fun x => x) (o_aload 0 (o_getR 8 28 (o_iload 1 (o_iconst 0 (o_iast 0 (fun x => x) (o_aload 0 (o_getR 8 29 (o_iload 1 (o_iconst 0 (o_iast 0 (fun x => x) (o_aload 0 (o_getR 8 30 (o_iload 1 (o_iconst 20 (o_iast 0 (fun x => x) (o_aload 0 (o_getR 8 32 (o_iload 1 (o_iconst 0 (o_iast 0 (fun x => x) (o_vret))))))))))))))))))))))))))
    refine gk_aload_n (j := 0) h (by decide +kernel) rfl ?_
    refine gk_getR (i := 54) h ck_8 (by decide) (fun _ _ _ => rfl) (by decide +kernel) kw_1031 ?_
    refine gk_iload_n (j := 1) h (by decide +kernel) rfl ?_
    refine gk_iconst (n := 0) h (by decide +kernel) (by decide) ?_
    refine gk_ast0 h (by decide +kernel) ?_
    refine gk_aload_n (j := 0) h (by decide +kernel) rfl ?_
    refine gk_getR (i := 60) h ck_8 (by decide) (fun _ _ _ => rfl) (by decide +kernel) kw_1033 ?_
    refine gk_iload_n (j := 1) h (by decide +kernel) rfl ?_
    refine gk_iconst (n := 0) h (by decide +kernel) (by decide) ?_
    refine gk_ast0 h (by decide +kernel) ?_
    refine gk_aload_n (j := 0) h (by decide +kernel) rfl ?_
    refine gk_getR (i := 63) h ck_8 (by decide) (fun _ _ _ => rfl) (by decide +kernel) kw_1034 ?_
    refine gk_iload_n (j := 1) h (by decide +kernel) rfl ?_
    refine gk_iconst (n := 0) h (by decide +kernel) (by decide) ?_
    refine gk_ast0 h (by decide +kernel) ?_
    refine gk_aload_n (j := 0) h (by decide +kernel) rfl ?_
    refine gk_getR (i := 66) h ck_8 (by decide) (fun _ _ _ => rfl) (by decide +kernel) kw_1035 ?_
    refine gk_iload_n (j := 1) h (by decide +kernel) rfl ?_
    refine gk_bipush (n := 20) h (by decide +kernel) (by decide) ?_
    refine gk_ast0 h (by decide +kernel) ?_
    refine gk_aload_n (j := 0) h (by decide +kernel) rfl ?_
    refine gk_getR (i := 72) h ck_8 (by decide) (fun _ _ _ => rfl) (by decide +kernel) kw_1037 ?_
    refine gk_iload_n (j := 1) h (by decide +kernel) rfl ?_
    refine gk_iconst (n := 0) h (by decide +kernel) (by decide) ?_
    refine gk_ast0 h (by decide +kernel) ?_
    exact gk_vret h hR (by decide +kernel)
  | _ + 1 => exact fun _ _ _ hr => hr.elim
set_option maxRecDepth 20000 in
set_option maxHeartbeats 4000000 in
theorem s_125 : MS mtab yX9_sums cX9_sums 2 none Q125 P125 := by
  intro X orc d h hR hnm hxn ho hrd b
  match b with
  | 0 =>
    show GK X Q125 0 (o_aload 0 (o_getR 8 29 (o_iload 1 (o_aload 0 (o_getR 8 30 (o_iload 1 (o_iald 0 (o_iconst 21 (o_ieq (o_aload 0 (o_getR 8 29 (o_iload 1 (o_iald 0 (o_aload 0 (o_getR 8 31 (o_iload 1 (o_iald 0 (o_i2 (fun x y => x - y) (o_jmp 1)))))))))) (o_aload 0 (o_getR 8 29 (o_iload 1 (o_iald 0 (o_aload 0 (o_getR 8 31 (o_iload 1 (o_iald 0 (o_i2 (fun x y => x + y) (o_jmp 1)))))))))))))))))))
    refine gk_aload_n (j := 0) h (by decide +kernel) rfl ?_
    refine gk_getR (i := 63) h ck_8 (by decide) (fun _ _ _ => rfl) (by decide +kernel) kw_1034 ?_
    refine gk_iload_n (j := 1) h (by decide +kernel) rfl ?_
    refine gk_aload_n (j := 0) h (by decide +kernel) rfl ?_
    refine gk_getR (i := 66) h ck_8 (by decide) (fun _ _ _ => rfl) (by decide +kernel) kw_1035 ?_
    refine gk_iload_n (j := 1) h (by decide +kernel) rfl ?_
    refine gk_ald0 h (by decide +kernel) ?_
    refine gk_bipush (n := 21) h (by decide +kernel) (by decide) ?_
    refine gk_icmpne (off := 19) (tgt := 32) h (by decide +kernel) (by decide) ?_ ?_
    · refine gk_aload_n (j := 0) h (by decide +kernel) rfl ?_
      refine gk_getR (i := 63) h ck_8 (by decide) (fun _ _ _ => rfl) (by decide +kernel) kw_1034 ?_
      refine gk_iload_n (j := 1) h (by decide +kernel) rfl ?_
      refine gk_ald0 h (by decide +kernel) ?_
      refine gk_aload_n (j := 0) h (by decide +kernel) rfl ?_
      refine gk_getR (i := 69) h ck_8 (by decide) (fun _ _ _ => rfl) (by decide +kernel) kw_1036 ?_
      refine gk_iload_n (j := 1) h (by decide +kernel) rfl ?_
      refine gk_ald0 h (by decide +kernel) ?_
      refine gk_iadd h (by decide +kernel) ?_
      exact gk_jmp 1 rfl
    · refine gk_aload_n (j := 0) h (by decide +kernel) rfl ?_
      refine gk_getR (i := 63) h ck_8 (by decide) (fun _ _ _ => rfl) (by decide +kernel) kw_1034 ?_
      refine gk_iload_n (j := 1) h (by decide +kernel) rfl ?_
      refine gk_ald0 h (by decide +kernel) ?_
      refine gk_aload_n (j := 0) h (by decide +kernel) rfl ?_
      refine gk_getR (i := 69) h ck_8 (by decide) (fun _ _ _ => rfl) (by decide +kernel) kw_1036 ?_
      refine gk_iload_n (j := 1) h (by decide +kernel) rfl ?_
      refine gk_ald0 h (by decide +kernel) ?_
      refine gk_isub h (by decide +kernel) ?_
      refine gk_goto (off := 16) (tgt := 45) h (by decide +kernel) (by decide) ?_
      exact gk_jmp 1 rfl
  | 1 =>
    show GK X Q125 45 (o_iast 0 (fun x => x) (o_aload 0 (o_getR 8 32 (o_iload 1 (o_iconst 0 (o_iast 0 (fun x => x) (o_vret)))))))
    refine gk_ast0 h (by decide +kernel) ?_
    refine gk_aload_n (j := 0) h (by decide +kernel) rfl ?_
    refine gk_getR (i := 72) h ck_8 (by decide) (fun _ _ _ => rfl) (by decide +kernel) kw_1037 ?_
    refine gk_iload_n (j := 1) h (by decide +kernel) rfl ?_
    refine gk_iconst (n := 0) h (by decide +kernel) (by decide) ?_
    refine gk_ast0 h (by decide +kernel) ?_
    exact gk_vret h hR (by decide +kernel)
  | _ + 2 => exact fun _ _ _ hr => hr.elim
set_option maxRecDepth 20000 in
set_option maxHeartbeats 4000000 in
theorem s_126 : MS mtab yX9_tests cX9_tests 3 none Q126 P126 := by
  intro X orc d h hR hnm hxn ho hrd b
  match b with
  | 0 =>
    show GK X Q126 0 (o_aload 0 (o_iload 1 (o_vV orc 125 2 8 (o_aload 0 (o_getR 8 29 (o_iload 1 (o_iald 0 (o_istore 2 (o_aload 0 (o_getR 8 28 (o_iload 1 (o_iald 0 (o_iconst 24 (o_ieq (o_aload 0 (o_getR 8 27 (o_iload 1 (o_iald 0 (o_aload 0 (o_getR 8 29 (o_iload 1 (o_iald 0 (o_ilt (o_iconst 1 (o_jmp 1)) (o_iconst 0 (o_jmp 1))))))))))) (o_jmp 2)))))))))))))))
    refine gk_aload_n (j := 0) h (by decide +kernel) rfl ?_
    refine gk_iload_n (j := 1) h (by decide +kernel) rfl ?_
    refine gk_vV (ca_v (idx := 194) h ho hm_125 (rd_le hrd (by decide)) ck_8 (by decide +kernel) kw_1294 kw_1296 kw_72 kw_101 kw_1297 rfl (by decide +kernel) (by decide)) ?_
    refine gk_aload_n (j := 0) h (by decide +kernel) rfl ?_
    refine gk_getR (i := 63) h ck_8 (by decide) (fun _ _ _ => rfl) (by decide +kernel) kw_1034 ?_
    refine gk_iload_n (j := 1) h (by decide +kernel) rfl ?_
    refine gk_ald0 h (by decide +kernel) ?_
    refine gk_istore_n (j := 2) h (by decide +kernel) rfl hxn (by decide) ?_
    refine gk_aload_n (j := 0) h (by decide +kernel) rfl ?_
    refine gk_getR (i := 60) h ck_8 (by decide) (fun _ _ _ => rfl) (by decide +kernel) kw_1033 ?_
    refine gk_iload_n (j := 1) h (by decide +kernel) rfl ?_
    refine gk_ald0 h (by decide +kernel) ?_
    refine gk_bipush (n := 24) h (by decide +kernel) (by decide) ?_
    refine gk_icmpne (off := 24) (tgt := 44) h (by decide +kernel) (by decide) ?_ ?_
    · exact gk_jmp 2 rfl
    · refine gk_aload_n (j := 0) h (by decide +kernel) rfl ?_
      refine gk_getR (i := 57) h ck_8 (by decide) (fun _ _ _ => rfl) (by decide +kernel) kw_1032 ?_
      refine gk_iload_n (j := 1) h (by decide +kernel) rfl ?_
      refine gk_ald0 h (by decide +kernel) ?_
      refine gk_aload_n (j := 0) h (by decide +kernel) rfl ?_
      refine gk_getR (i := 63) h ck_8 (by decide) (fun _ _ _ => rfl) (by decide +kernel) kw_1034 ?_
      refine gk_iload_n (j := 1) h (by decide +kernel) rfl ?_
      refine gk_ald0 h (by decide +kernel) ?_
      refine gk_icmpge (off := 7) (tgt := 42) h (by decide +kernel) (by decide) ?_ ?_
      · refine gk_iconst (n := 0) h (by decide +kernel) (by decide) ?_
        exact gk_jmp 1 rfl
      · refine gk_iconst (n := 1) h (by decide +kernel) (by decide) ?_
        refine gk_goto (off := 4) (tgt := 43) h (by decide +kernel) (by decide) ?_
        exact gk_jmp 1 rfl
  | 1 =>
    show GK X Q126 43 (o_istore 2 (o_jmp 2))
    refine gk_istore_n (j := 2) h (by decide +kernel) rfl hxn (by decide) ?_
    exact gk_jmp 2 rfl
  | 2 =>
    show GK X Q126 44 (o_aload 0 (o_getR 8 28 (o_iload 1 (o_iald 0 (o_iconst 25 (o_ieq (o_aload 0 (o_getR 8 27 (o_iload 1 (o_iald 0 (o_aload 0 (o_getR 8 29 (o_iload 1 (o_iald 0 (o_ieq (o_iconst 1 (o_jmp 3)) (o_iconst 0 (o_jmp 3))))))))))) (o_jmp 4)))))))
    refine gk_aload_n (j := 0) h (by decide +kernel) rfl ?_
    refine gk_getR (i := 60) h ck_8 (by decide) (fun _ _ _ => rfl) (by decide +kernel) kw_1033 ?_
    refine gk_iload_n (j := 1) h (by decide +kernel) rfl ?_
    refine gk_ald0 h (by decide +kernel) ?_
    refine gk_bipush (n := 25) h (by decide +kernel) (by decide) ?_
    refine gk_icmpne (off := 24) (tgt := 76) h (by decide +kernel) (by decide) ?_ ?_
    · exact gk_jmp 4 rfl
    · refine gk_aload_n (j := 0) h (by decide +kernel) rfl ?_
      refine gk_getR (i := 57) h ck_8 (by decide) (fun _ _ _ => rfl) (by decide +kernel) kw_1032 ?_
      refine gk_iload_n (j := 1) h (by decide +kernel) rfl ?_
      refine gk_ald0 h (by decide +kernel) ?_
      refine gk_aload_n (j := 0) h (by decide +kernel) rfl ?_
      refine gk_getR (i := 63) h ck_8 (by decide) (fun _ _ _ => rfl) (by decide +kernel) kw_1034 ?_
      refine gk_iload_n (j := 1) h (by decide +kernel) rfl ?_
      refine gk_ald0 h (by decide +kernel) ?_
      refine gk_icmpne (off := 7) (tgt := 74) h (by decide +kernel) (by decide) ?_ ?_
      · refine gk_iconst (n := 0) h (by decide +kernel) (by decide) ?_
        exact gk_jmp 3 rfl
      · refine gk_iconst (n := 1) h (by decide +kernel) (by decide) ?_
        refine gk_goto (off := 4) (tgt := 75) h (by decide +kernel) (by decide) ?_
        exact gk_jmp 3 rfl
  | 3 =>
    show GK X Q126 75 (o_istore 2 (o_jmp 4))
    refine gk_istore_n (j := 2) h (by decide +kernel) rfl hxn (by decide) ?_
    exact gk_jmp 4 rfl
  | 4 =>
    show GK X Q126 76 (o_aload 0 (o_getR 8 26 (o_iload 1 (o_iald 0 (o_iconst 26 (o_ieq (o_aload 0 (o_getR 8 25 (o_iload 1 (o_iald 0 (o_if0 (o_jmp 5) (o_iload 2 (o_if0 (o_jmp 5) (o_iconst 1 (o_jmp 6))))))))) (o_jmp 7)))))))
    refine gk_aload_n (j := 0) h (by decide +kernel) rfl ?_
    refine gk_getR (i := 54) h ck_8 (by decide) (fun _ _ _ => rfl) (by decide +kernel) kw_1031 ?_
    refine gk_iload_n (j := 1) h (by decide +kernel) rfl ?_
    refine gk_ald0 h (by decide +kernel) ?_
    refine gk_bipush (n := 26) h (by decide +kernel) (by decide) ?_
    refine gk_icmpne (off := 22) (tgt := 106) h (by decide +kernel) (by decide) ?_ ?_
    · exact gk_jmp 7 rfl
    · refine gk_aload_n (j := 0) h (by decide +kernel) rfl ?_
      refine gk_getR (i := 51) h ck_8 (by decide) (fun _ _ _ => rfl) (by decide +kernel) kw_1030 ?_
      refine gk_iload_n (j := 1) h (by decide +kernel) rfl ?_
      refine gk_ald0 h (by decide +kernel) ?_
      refine gk_ifeq (off := 11) (tgt := 104) h (by decide +kernel) (by decide) ?_ ?_
      · exact gk_jmp 5 rfl
      · refine gk_iload_n (j := 2) h (by decide +kernel) rfl ?_
        refine gk_ifeq (off := 7) (tgt := 104) h (by decide +kernel) (by decide) ?_ ?_
        · exact gk_jmp 5 rfl
        · refine gk_iconst (n := 1) h (by decide +kernel) (by decide) ?_
          refine gk_goto (off := 4) (tgt := 105) h (by decide +kernel) (by decide) ?_
          exact gk_jmp 6 rfl
  | 5 =>
    show GK X Q126 104 (o_iconst 0 (o_jmp 6))
    refine gk_iconst (n := 0) h (by decide +kernel) (by decide) ?_
    exact gk_jmp 6 rfl
  | 6 =>
    show GK X Q126 105 (o_istore 2 (o_jmp 7))
    refine gk_istore_n (j := 2) h (by decide +kernel) rfl hxn (by decide) ?_
    exact gk_jmp 7 rfl
  | 7 =>
    show GK X Q126 106 (o_aload 0 (o_getR 8 26 (o_iload 1 (o_iald 0 (o_iconst 27 (o_ieq (o_aload 0 (o_getR 8 25 (o_iload 1 (o_iald 0 (o_if0 (o_iload 2 (o_if0 (o_iconst 0 (o_jmp 9)) (o_jmp 8))) (o_jmp 8)))))) (o_jmp 10)))))))
    refine gk_aload_n (j := 0) h (by decide +kernel) rfl ?_
    refine gk_getR (i := 54) h ck_8 (by decide) (fun _ _ _ => rfl) (by decide +kernel) kw_1031 ?_
    refine gk_iload_n (j := 1) h (by decide +kernel) rfl ?_
    refine gk_ald0 h (by decide +kernel) ?_
    refine gk_bipush (n := 27) h (by decide +kernel) (by decide) ?_
    refine gk_icmpne (off := 22) (tgt := 136) h (by decide +kernel) (by decide) ?_ ?_
    · exact gk_jmp 10 rfl
    · refine gk_aload_n (j := 0) h (by decide +kernel) rfl ?_
      refine gk_getR (i := 51) h ck_8 (by decide) (fun _ _ _ => rfl) (by decide +kernel) kw_1030 ?_
      refine gk_iload_n (j := 1) h (by decide +kernel) rfl ?_
      refine gk_ald0 h (by decide +kernel) ?_
      refine gk_ifne (off := 7) (tgt := 130) h (by decide +kernel) (by decide) ?_ ?_
      · exact gk_jmp 8 rfl
      · refine gk_iload_n (j := 2) h (by decide +kernel) rfl ?_
        refine gk_ifeq (off := 7) (tgt := 134) h (by decide +kernel) (by decide) ?_ ?_
        · refine gk_iconst (n := 0) h (by decide +kernel) (by decide) ?_
          exact gk_jmp 9 rfl
        · exact gk_jmp 8 rfl
  | 8 =>
    show GK X Q126 130 (o_iconst 1 (o_jmp 9))
    refine gk_iconst (n := 1) h (by decide +kernel) (by decide) ?_
    refine gk_goto (off := 4) (tgt := 135) h (by decide +kernel) (by decide) ?_
    exact gk_jmp 9 rfl
  | 9 =>
    show GK X Q126 135 (o_istore 2 (o_jmp 10))
    refine gk_istore_n (j := 2) h (by decide +kernel) rfl hxn (by decide) ?_
    exact gk_jmp 10 rfl
  | 10 =>
    show GK X Q126 136 (o_aload 0 (o_getR 8 25 (o_iload 1 (o_iload 2 (o_iast 0 (fun x => x) (o_aload 0 (o_getR 8 28 (o_iload 1 (o_iconst 0 (o_iast 0 (fun x => x) (o_aload 0 (o_getR 8 29 (o_iload 1 (o_iconst 0 (o_iast 0 (fun x => x) (o_aload 0 (o_getR 8 30 (o_iload 1 (o_iconst 20 (o_iast 0 (fun x => x) (o_vret)))))))))))))))))))))
    refine gk_aload_n (j := 0) h (by decide +kernel) rfl ?_
    refine gk_getR (i := 51) h ck_8 (by decide) (fun _ _ _ => rfl) (by decide +kernel) kw_1030 ?_
    refine gk_iload_n (j := 1) h (by decide +kernel) rfl ?_
    refine gk_iload_n (j := 2) h (by decide +kernel) rfl ?_
    refine gk_ast0 h (by decide +kernel) ?_
    refine gk_aload_n (j := 0) h (by decide +kernel) rfl ?_
    refine gk_getR (i := 60) h ck_8 (by decide) (fun _ _ _ => rfl) (by decide +kernel) kw_1033 ?_
    refine gk_iload_n (j := 1) h (by decide +kernel) rfl ?_
    refine gk_iconst (n := 0) h (by decide +kernel) (by decide) ?_
    refine gk_ast0 h (by decide +kernel) ?_
    refine gk_aload_n (j := 0) h (by decide +kernel) rfl ?_
    refine gk_getR (i := 63) h ck_8 (by decide) (fun _ _ _ => rfl) (by decide +kernel) kw_1034 ?_
    refine gk_iload_n (j := 1) h (by decide +kernel) rfl ?_
    refine gk_iconst (n := 0) h (by decide +kernel) (by decide) ?_
    refine gk_ast0 h (by decide +kernel) ?_
    refine gk_aload_n (j := 0) h (by decide +kernel) rfl ?_
    refine gk_getR (i := 66) h ck_8 (by decide) (fun _ _ _ => rfl) (by decide +kernel) kw_1035 ?_
    refine gk_iload_n (j := 1) h (by decide +kernel) rfl ?_
    refine gk_bipush (n := 20) h (by decide +kernel) (by decide) ?_
    refine gk_ast0 h (by decide +kernel) ?_
    exact gk_vret h hR (by decide +kernel)
  | _ + 11 => exact fun _ _ _ hr => hr.elim
set_option maxRecDepth 20000 in
set_option maxHeartbeats 4000000 in
theorem s_127 : MS mtab yX9_worked cX9_worked 6 (some .int) Q127 P127 := by
  intro X orc d h hR hnm hxn ho hrd b
  match b with
  | 0 =>
    show GK X Q127 0 (o_iconst 0 (o_istore 2 (o_aload 0 (o_iconst 0 (o_vV orc 124 2 8 (o_aload 0 (o_getR 8 17 (o_iload 1 (o_iald 0 (o_istore 3 (o_jmp 1)))))))))))
    refine gk_iconst (n := 0) h (by decide +kernel) (by decide) ?_
    refine gk_istore_n (j := 2) h (by decide +kernel) rfl hxn (by decide) ?_
    refine gk_aload_n (j := 0) h (by decide +kernel) rfl ?_
    refine gk_iconst (n := 0) h (by decide +kernel) (by decide) ?_
    refine gk_vV (ca_v (idx := 197) h ho hm_124 (rd_le hrd (by decide)) ck_8 (by decide +kernel) kw_1290 kw_1292 kw_71 kw_101 kw_1293 rfl (by decide +kernel) (by decide)) ?_
    refine gk_aload_n (j := 0) h (by decide +kernel) rfl ?_
    refine gk_getR (i := 35) h ck_8 (by decide) (fun _ _ _ => rfl) (by decide +kernel) kw_1022 ?_
    refine gk_iload_n (j := 1) h (by decide +kernel) rfl ?_
    refine gk_ald0 h (by decide +kernel) ?_
    refine gk_istore_n (j := 3) h (by decide +kernel) rfl hxn (by decide) ?_
    exact gk_jmp 1 rfl
  | 1 =>
    show GK X Q127 14 (o_iload 3 (o_aload 0 (o_getR 8 18 (o_iload 1 (o_iald 0 (o_ilt (o_aload 0 (o_getR 8 19 (o_iload 3 (o_iald 0 (o_istore 4 (o_iload 4 (o_iconst 28 (o_ieq (o_jmp 2) (o_iload 4 (o_iconst 30 (o_ieq (o_jmp 2) (o_iload 4 (o_iconst 20 (o_ieq (o_jmp 4) (o_iload 4 (o_iconst 21 (o_ieq (o_jmp 4) (o_iload 4 (o_iconst 22 (o_ieq (o_aload 0 (o_getR 8 32 (o_iload 2 (o_iload 4 (o_iast 0 (fun x => x) (o_jmp 12)))))) (o_iload 4 (o_iconst 24 (o_ieq (o_jmp 5) (o_iload 4 (o_iconst 25 (o_ieq (o_jmp 5) (o_iload 4 (o_iconst 26 (o_ieq (o_jmp 6) (o_iload 4 (o_iconst 27 (o_ieq (o_jmp 6) (o_iload 4 (o_iconst 100 (o_ilt (o_iload 4 (o_iconst 20 (o_ilt (o_aload 0 (o_getR 8 34 (o_iload 4 (o_iald 0 (o_jmp 7))))) (o_iconst 0 (o_jmp 7))))) (o_iload 4 (o_iconst 100 (o_i2 (fun x y => x - y) (o_jmp 7))))))))))))))))))))))))))))))))))))))) (o_aload 0 (o_iconst 0 (o_vV orc 126 2 8 (o_aload 0 (o_getR 8 25 (o_iconst 0 (o_iald 0 (o_iret))))))))))))))
    refine gk_iload_n (j := 3) h (by decide +kernel) rfl ?_
    refine gk_aload_n (j := 0) h (by decide +kernel) rfl ?_
    refine gk_getR (i := 38) h ck_8 (by decide) (fun _ _ _ => rfl) (by decide +kernel) kw_1023 ?_
    refine gk_iload_n (j := 1) h (by decide +kernel) rfl ?_
    refine gk_ald0 h (by decide +kernel) ?_
    refine gk_icmpge (off := 314) (tgt := 335) h (by decide +kernel) (by decide) ?_ ?_
    · refine gk_aload_n (j := 0) h (by decide +kernel) rfl ?_
      refine gk_iconst (n := 0) h (by decide +kernel) (by decide) ?_
      refine gk_vV (ca_v (idx := 200) h ho hm_126 (rd_le hrd (by decide)) ck_8 (by decide +kernel) kw_1298 kw_1300 kw_73 kw_101 kw_1301 rfl (by decide +kernel) (by decide)) ?_
      refine gk_aload_n (j := 0) h (by decide +kernel) rfl ?_
      refine gk_getR (i := 51) h ck_8 (by decide) (fun _ _ _ => rfl) (by decide +kernel) kw_1030 ?_
      refine gk_iconst (n := 0) h (by decide +kernel) (by decide) ?_
      refine gk_ald0 h (by decide +kernel) ?_
      exact gk_iret h hR (by decide +kernel)
    · refine gk_aload_n (j := 0) h (by decide +kernel) rfl ?_
      refine gk_getR (i := 41) h ck_8 (by decide) (fun _ _ _ => rfl) (by decide +kernel) kw_1024 ?_
      refine gk_iload_n (j := 3) h (by decide +kernel) rfl ?_
      refine gk_ald0 h (by decide +kernel) ?_
      refine gk_istore h (by decide +kernel) hxn (by decide) ?_
      refine gk_iload h (by decide +kernel) ?_
      refine gk_bipush (n := 28) h (by decide +kernel) (by decide) ?_
      refine gk_icmpeq (off := 10) (tgt := 46) h (by decide +kernel) (by decide) ?_ ?_
      · exact gk_jmp 2 rfl
      · refine gk_iload h (by decide +kernel) ?_
        refine gk_bipush (n := 30) h (by decide +kernel) (by decide) ?_
        refine gk_icmpne (off := 32) (tgt := 75) h (by decide +kernel) (by decide) ?_ ?_
        · refine gk_iload h (by decide +kernel) ?_
          refine gk_bipush (n := 20) h (by decide +kernel) (by decide) ?_
          refine gk_icmpeq (off := 10) (tgt := 89) h (by decide +kernel) (by decide) ?_ ?_
          · exact gk_jmp 4 rfl
          · refine gk_iload h (by decide +kernel) ?_
            refine gk_bipush (n := 21) h (by decide +kernel) (by decide) ?_
            refine gk_icmpne (off := 19) (tgt := 105) h (by decide +kernel) (by decide) ?_ ?_
            · refine gk_iload h (by decide +kernel) ?_
              refine gk_bipush (n := 22) h (by decide +kernel) (by decide) ?_
              refine gk_icmpne (off := 14) (tgt := 123) h (by decide +kernel) (by decide) ?_ ?_
              · refine gk_iload h (by decide +kernel) ?_
                refine gk_bipush (n := 24) h (by decide +kernel) (by decide) ?_
                refine gk_icmpeq (off := 10) (tgt := 137) h (by decide +kernel) (by decide) ?_ ?_
                · exact gk_jmp 5 rfl
                · refine gk_iload h (by decide +kernel) ?_
                  refine gk_bipush (n := 25) h (by decide +kernel) (by decide) ?_
                  refine gk_icmpne (off := 46) (tgt := 180) h (by decide +kernel) (by decide) ?_ ?_
                  · refine gk_iload h (by decide +kernel) ?_
                    refine gk_bipush (n := 26) h (by decide +kernel) (by decide) ?_
                    refine gk_icmpeq (off := 10) (tgt := 194) h (by decide +kernel) (by decide) ?_ ?_
                    · exact gk_jmp 6 rfl
                    · refine gk_iload h (by decide +kernel) ?_
                      refine gk_bipush (n := 27) h (by decide +kernel) (by decide) ?_
                      refine gk_icmpne (off := 19) (tgt := 210) h (by decide +kernel) (by decide) ?_ ?_
                      · refine gk_iload h (by decide +kernel) ?_
                        refine gk_bipush (n := 100) h (by decide +kernel) (by decide) ?_
                        refine gk_icmplt (off := 11) (tgt := 225) h (by decide +kernel) (by decide) ?_ ?_
                        · refine gk_iload h (by decide +kernel) ?_
                          refine gk_bipush (n := 20) h (by decide +kernel) (by decide) ?_
                          refine gk_icmpge (off := 13) (tgt := 242) h (by decide +kernel) (by decide) ?_ ?_
                          · refine gk_iconst (n := 0) h (by decide +kernel) (by decide) ?_
                            exact gk_jmp 7 rfl
                          · refine gk_aload_n (j := 0) h (by decide +kernel) rfl ?_
                            refine gk_getR (i := 78) h ck_8 (by decide) (fun _ _ _ => rfl) (by decide +kernel) kw_1039 ?_
                            refine gk_iload h (by decide +kernel) ?_
                            refine gk_ald0 h (by decide +kernel) ?_
                            refine gk_goto (off := 4) (tgt := 243) h (by decide +kernel) (by decide) ?_
                            exact gk_jmp 7 rfl
                        · refine gk_iload h (by decide +kernel) ?_
                          refine gk_bipush (n := 100) h (by decide +kernel) (by decide) ?_
                          refine gk_isub h (by decide +kernel) ?_
                          refine gk_goto (off := 21) (tgt := 243) h (by decide +kernel) (by decide) ?_
                          exact gk_jmp 7 rfl
                      · exact gk_jmp 6 rfl
                  · exact gk_jmp 5 rfl
              · refine gk_aload_n (j := 0) h (by decide +kernel) rfl ?_
                refine gk_getR (i := 72) h ck_8 (by decide) (fun _ _ _ => rfl) (by decide +kernel) kw_1037 ?_
                refine gk_iload_n (j := 2) h (by decide +kernel) rfl ?_
                refine gk_iload h (by decide +kernel) ?_
                refine gk_ast0 h (by decide +kernel) ?_
                refine gk_goto (off := 209) (tgt := 329) h (by decide +kernel) (by decide) ?_
                exact gk_jmp 12 rfl
            · exact gk_jmp 4 rfl
        · exact gk_jmp 2 rfl
  | 2 =>
    show GK X Q127 46 (o_iinc 2 1 (o_aload 0 (o_getR 8 33 (o_iload 2 (o_iload 4 (o_iconst 30 (o_ieq (o_iconst 1 (o_jmp 3)) (o_iconst 0 (o_jmp 3)))))))))
    refine gk_iinc (z := 1) h (by decide +kernel) (by decide) hxn (by decide) ?_
    refine gk_aload_n (j := 0) h (by decide +kernel) rfl ?_
    refine gk_getR (i := 75) h ck_8 (by decide) (fun _ _ _ => rfl) (by decide +kernel) kw_1038 ?_
    refine gk_iload_n (j := 2) h (by decide +kernel) rfl ?_
    refine gk_iload h (by decide +kernel) ?_
    refine gk_bipush (n := 30) h (by decide +kernel) (by decide) ?_
    refine gk_icmpne (off := 7) (tgt := 65) h (by decide +kernel) (by decide) ?_ ?_
    · refine gk_iconst (n := 0) h (by decide +kernel) (by decide) ?_
      exact gk_jmp 3 rfl
    · refine gk_iconst (n := 1) h (by decide +kernel) (by decide) ?_
      refine gk_goto (off := 4) (tgt := 66) h (by decide +kernel) (by decide) ?_
      exact gk_jmp 3 rfl
  | 3 =>
    show GK X Q127 66 (o_iast 0 (fun x => x) (o_aload 0 (o_iload 2 (o_vV orc 124 2 8 (o_jmp 12)))))
    refine gk_ast0 h (by decide +kernel) ?_
    refine gk_aload_n (j := 0) h (by decide +kernel) rfl ?_
    refine gk_iload_n (j := 2) h (by decide +kernel) rfl ?_
    refine gk_vV (ca_v (idx := 197) h ho hm_124 (rd_le hrd (by decide)) ck_8 (by decide +kernel) kw_1290 kw_1292 kw_71 kw_101 kw_1293 rfl (by decide +kernel) (by decide)) ?_
    refine gk_goto (off := 257) (tgt := 329) h (by decide +kernel) (by decide) ?_
    exact gk_jmp 12 rfl
  | 4 =>
    show GK X Q127 89 (o_aload 0 (o_iload 2 (o_vV orc 125 2 8 (o_aload 0 (o_getR 8 30 (o_iload 2 (o_iload 4 (o_iast 0 (fun x => x) (o_jmp 12)))))))))
    refine gk_aload_n (j := 0) h (by decide +kernel) rfl ?_
    refine gk_iload_n (j := 2) h (by decide +kernel) rfl ?_
    refine gk_vV (ca_v (idx := 194) h ho hm_125 (rd_le hrd (by decide)) ck_8 (by decide +kernel) kw_1294 kw_1296 kw_72 kw_101 kw_1297 rfl (by decide +kernel) (by decide)) ?_
    refine gk_aload_n (j := 0) h (by decide +kernel) rfl ?_
    refine gk_getR (i := 66) h ck_8 (by decide) (fun _ _ _ => rfl) (by decide +kernel) kw_1035 ?_
    refine gk_iload_n (j := 2) h (by decide +kernel) rfl ?_
    refine gk_iload h (by decide +kernel) ?_
    refine gk_ast0 h (by decide +kernel) ?_
    refine gk_goto (off := 227) (tgt := 329) h (by decide +kernel) (by decide) ?_
    exact gk_jmp 12 rfl
  | 5 =>
    show GK X Q127 137 (o_aload 0 (o_iload 2 (o_vV orc 125 2 8 (o_aload 0 (o_getR 8 27 (o_iload 2 (o_aload 0 (o_getR 8 29 (o_iload 2 (o_iald 0 (o_iast 0 (fun x => x) (o_aload 0 (o_getR 8 28 (o_iload 2 (o_iload 4 (o_iast 0 (fun x => x) (o_aload 0 (o_getR 8 29 (o_iload 2 (o_iconst 0 (o_iast 0 (fun x => x) (o_aload 0 (o_getR 8 30 (o_iload 2 (o_iconst 20 (o_iast 0 (fun x => x) (o_jmp 12)))))))))))))))))))))))))))
    refine gk_aload_n (j := 0) h (by decide +kernel) rfl ?_
    refine gk_iload_n (j := 2) h (by decide +kernel) rfl ?_
    refine gk_vV (ca_v (idx := 194) h ho hm_125 (rd_le hrd (by decide)) ck_8 (by decide +kernel) kw_1294 kw_1296 kw_72 kw_101 kw_1297 rfl (by decide +kernel) (by decide)) ?_
    refine gk_aload_n (j := 0) h (by decide +kernel) rfl ?_
    refine gk_getR (i := 57) h ck_8 (by decide) (fun _ _ _ => rfl) (by decide +kernel) kw_1032 ?_
    refine gk_iload_n (j := 2) h (by decide +kernel) rfl ?_
    refine gk_aload_n (j := 0) h (by decide +kernel) rfl ?_
    refine gk_getR (i := 63) h ck_8 (by decide) (fun _ _ _ => rfl) (by decide +kernel) kw_1034 ?_
    refine gk_iload_n (j := 2) h (by decide +kernel) rfl ?_
    refine gk_ald0 h (by decide +kernel) ?_
    refine gk_ast0 h (by decide +kernel) ?_
    refine gk_aload_n (j := 0) h (by decide +kernel) rfl ?_
    refine gk_getR (i := 60) h ck_8 (by decide) (fun _ _ _ => rfl) (by decide +kernel) kw_1033 ?_
    refine gk_iload_n (j := 2) h (by decide +kernel) rfl ?_
    refine gk_iload h (by decide +kernel) ?_
    refine gk_ast0 h (by decide +kernel) ?_
    refine gk_aload_n (j := 0) h (by decide +kernel) rfl ?_
    refine gk_getR (i := 63) h ck_8 (by decide) (fun _ _ _ => rfl) (by decide +kernel) kw_1034 ?_
    refine gk_iload_n (j := 2) h (by decide +kernel) rfl ?_
    refine gk_iconst (n := 0) h (by decide +kernel) (by decide) ?_
    refine gk_ast0 h (by decide +kernel) ?_
    refine gk_aload_n (j := 0) h (by decide +kernel) rfl ?_
    refine gk_getR (i := 66) h ck_8 (by decide) (fun _ _ _ => rfl) (by decide +kernel) kw_1035 ?_
    refine gk_iload_n (j := 2) h (by decide +kernel) rfl ?_
    refine gk_bipush (n := 20) h (by decide +kernel) (by decide) ?_
    refine gk_ast0 h (by decide +kernel) ?_
    refine gk_goto (off := 152) (tgt := 329) h (by decide +kernel) (by decide) ?_
    exact gk_jmp 12 rfl
  | 6 =>
    show GK X Q127 194 (o_aload 0 (o_iload 2 (o_vV orc 126 2 8 (o_aload 0 (o_getR 8 26 (o_iload 2 (o_iload 4 (o_iast 0 (fun x => x) (o_jmp 12)))))))))
    refine gk_aload_n (j := 0) h (by decide +kernel) rfl ?_
    refine gk_iload_n (j := 2) h (by decide +kernel) rfl ?_
    refine gk_vV (ca_v (idx := 200) h ho hm_126 (rd_le hrd (by decide)) ck_8 (by decide +kernel) kw_1298 kw_1300 kw_73 kw_101 kw_1301 rfl (by decide +kernel) (by decide)) ?_
    refine gk_aload_n (j := 0) h (by decide +kernel) rfl ?_
    refine gk_getR (i := 54) h ck_8 (by decide) (fun _ _ _ => rfl) (by decide +kernel) kw_1031 ?_
    refine gk_iload_n (j := 2) h (by decide +kernel) rfl ?_
    refine gk_iload h (by decide +kernel) ?_
    refine gk_ast0 h (by decide +kernel) ?_
    refine gk_goto (off := 122) (tgt := 329) h (by decide +kernel) (by decide) ?_
    exact gk_jmp 12 rfl
  | 7 =>
    show GK X Q127 243 (o_istore 5 (o_iload 4 (o_iconst 29 (o_ieq (o_aload 0 (o_iload 2 (o_vV orc 126 2 8 (o_aload 0 (o_getR 8 25 (o_iload 2 (o_iald 0 (o_istore 5 (o_iinc 2 (-1) (o_jmp 8)))))))))) (o_jmp 8)))))
    refine gk_istore h (by decide +kernel) hxn (by decide) ?_
    refine gk_iload h (by decide +kernel) ?_
    refine gk_bipush (n := 29) h (by decide +kernel) (by decide) ?_
    refine gk_icmpne (off := 19) (tgt := 268) h (by decide +kernel) (by decide) ?_ ?_
    · exact gk_jmp 8 rfl
    · refine gk_aload_n (j := 0) h (by decide +kernel) rfl ?_
      refine gk_iload_n (j := 2) h (by decide +kernel) rfl ?_
      refine gk_vV (ca_v (idx := 200) h ho hm_126 (rd_le hrd (by decide)) ck_8 (by decide +kernel) kw_1298 kw_1300 kw_73 kw_101 kw_1301 rfl (by decide +kernel) (by decide)) ?_
      refine gk_aload_n (j := 0) h (by decide +kernel) rfl ?_
      refine gk_getR (i := 51) h ck_8 (by decide) (fun _ _ _ => rfl) (by decide +kernel) kw_1030 ?_
      refine gk_iload_n (j := 2) h (by decide +kernel) rfl ?_
      refine gk_ald0 h (by decide +kernel) ?_
      refine gk_istore h (by decide +kernel) hxn (by decide) ?_
      refine gk_iinc (z := (-1)) h (by decide +kernel) (by decide) hxn (by decide) ?_
      exact gk_jmp 8 rfl
  | 8 =>
    show GK X Q127 268 (o_iload 2 (o_ifp (o_aload 0 (o_getR 8 33 (o_iload 2 (o_iald 0 (o_iconst 1 (o_ieq (o_iload 5 (o_if0 (o_iconst 1 (o_jmp 9)) (o_iconst 0 (o_jmp 9)))) (o_jmp 10))))))) (o_jmp 10)))
    refine gk_iload_n (j := 2) h (by decide +kernel) rfl ?_
    refine gk_ifle (off := 31) (tgt := 300) h (by decide +kernel) (by decide) ?_ ?_
    · exact gk_jmp 10 rfl
    · refine gk_aload_n (j := 0) h (by decide +kernel) rfl ?_
      refine gk_getR (i := 75) h ck_8 (by decide) (fun _ _ _ => rfl) (by decide +kernel) kw_1038 ?_
      refine gk_iload_n (j := 2) h (by decide +kernel) rfl ?_
      refine gk_ald0 h (by decide +kernel) ?_
      refine gk_iconst (n := 1) h (by decide +kernel) (by decide) ?_
      refine gk_icmpne (off := 21) (tgt := 300) h (by decide +kernel) (by decide) ?_ ?_
      · exact gk_jmp 10 rfl
      · refine gk_iload h (by decide +kernel) ?_
        refine gk_ifne (off := 7) (tgt := 291) h (by decide +kernel) (by decide) ?_ ?_
        · refine gk_iconst (n := 0) h (by decide +kernel) (by decide) ?_
          exact gk_jmp 9 rfl
        · refine gk_iconst (n := 1) h (by decide +kernel) (by decide) ?_
          refine gk_goto (off := 4) (tgt := 292) h (by decide +kernel) (by decide) ?_
          exact gk_jmp 9 rfl
  | 9 =>
    show GK X Q127 292 (o_istore 5 (o_iinc 2 (-1) (o_jmp 8)))
    refine gk_istore h (by decide +kernel) hxn (by decide) ?_
    refine gk_iinc (z := (-1)) h (by decide +kernel) (by decide) hxn (by decide) ?_
    refine gk_goto (off := (-29)) (tgt := 268) h (by decide +kernel) (by decide) ?_
    exact gk_jmp 8 rfl
  | 10 =>
    show GK X Q127 300 (o_aload 0 (o_getR 8 31 (o_iload 2 (o_aload 0 (o_getR 8 32 (o_iload 2 (o_iald 0 (o_if0 (o_iload 5 (o_jmp 11)) (o_aload 0 (o_getR 8 31 (o_iload 2 (o_iald 0 (o_iload 5 (o_i2 (fun x y => x * y) (o_jmp 11)))))))))))))))
    refine gk_aload_n (j := 0) h (by decide +kernel) rfl ?_
    refine gk_getR (i := 69) h ck_8 (by decide) (fun _ _ _ => rfl) (by decide +kernel) kw_1036 ?_
    refine gk_iload_n (j := 2) h (by decide +kernel) rfl ?_
    refine gk_aload_n (j := 0) h (by decide +kernel) rfl ?_
    refine gk_getR (i := 72) h ck_8 (by decide) (fun _ _ _ => rfl) (by decide +kernel) kw_1037 ?_
    refine gk_iload_n (j := 2) h (by decide +kernel) rfl ?_
    refine gk_ald0 h (by decide +kernel) ?_
    refine gk_ifne (off := 8) (tgt := 319) h (by decide +kernel) (by decide) ?_ ?_
    · refine gk_aload_n (j := 0) h (by decide +kernel) rfl ?_
      refine gk_getR (i := 69) h ck_8 (by decide) (fun _ _ _ => rfl) (by decide +kernel) kw_1036 ?_
      refine gk_iload_n (j := 2) h (by decide +kernel) rfl ?_
      refine gk_ald0 h (by decide +kernel) ?_
      refine gk_iload h (by decide +kernel) ?_
      refine gk_imul h (by decide +kernel) ?_
      exact gk_jmp 11 rfl
    · refine gk_iload h (by decide +kernel) ?_
      refine gk_goto (off := 12) (tgt := 328) h (by decide +kernel) (by decide) ?_
      exact gk_jmp 11 rfl
  | 11 =>
    show GK X Q127 328 (o_iast 0 (fun x => x) (o_jmp 12))
    refine gk_ast0 h (by decide +kernel) ?_
    exact gk_jmp 12 rfl
  | 12 =>
    show GK X Q127 329 (o_iinc 3 1 (o_jmp 1))
    refine gk_iinc (z := 1) h (by decide +kernel) (by decide) hxn (by decide) ?_
    refine gk_goto (off := (-318)) (tgt := 14) h (by decide +kernel) (by decide) ?_
    exact gk_jmp 1 rfl
  | _ + 13 => exact fun _ _ _ hr => hr.elim
set_option maxRecDepth 20000 in
set_option maxHeartbeats 4000000 in
theorem s_128 : MS mtab yX9_isKept cX9_isKept 1 (some .boolean) Q128 P128 := by
  intro X orc d h hR hnm hxn ho hrd b
  match b with
  | 0 =>
    show GK X Q128 0 (o_aload 0 (o_getI 8 6 (o_iconst 1 (o_ieq (o_aload 0 (o_getL 8 7 (o_lconst 453774 (o_lcmp (o_if0 (o_jmp 1) (o_aload 0 (o_getL 8 7 (o_lconst 10502357 (o_lcmp (o_if0 (o_jmp 1) (o_aload 0 (o_getL 8 7 (o_lconst 3754504 (o_lcmp (o_if0 (o_jmp 1) (o_aload 0 (o_getL 8 7 (o_lconst 125042 (o_lcmp (o_if0 (o_jmp 1) (o_aload 0 (o_getL 8 7 (o_lconst 8740238 (o_lcmp (o_if0 (o_jmp 1) (o_aload 0 (o_getL 8 7 (o_lconst 38444009 (o_lcmp (o_if0 (o_jmp 1) (o_aload 0 (o_getL 8 7 (o_lconst 9876874 (o_lcmp (o_if0 (o_jmp 1) (o_aload 0 (o_getL 8 7 (o_lconst 410684 (o_lcmp (o_if0 (o_jmp 1) (o_aload 0 (o_getL 8 7 (o_lconst 240239 (o_lcmp (o_if0 (o_jmp 1) (o_aload 0 (o_getL 8 7 (o_lconst 2774 (o_lcmp (o_if0 (o_jmp 1) (o_aload 0 (o_getL 8 7 (o_lconst 459383 (o_lcmp (o_if0 (o_jmp 1) (o_aload 0 (o_getL 8 7 (o_lconst 6491892 (o_lcmp (o_if0 (o_jmp 1) (o_aload 0 (o_getL 8 7 (o_lconst 4555675 (o_lcmp (o_if0 (o_jmp 1) (o_aload 0 (o_getL 8 7 (o_lconst 2968 (o_lcmp (o_if0 (o_jmp 1) (o_aload 0 (o_getL 8 7 (o_lconst 10631 (o_lcmp (o_if0 (o_jmp 1) (o_aload 0 (o_getL 8 7 (o_lconst 1111 (o_lcmp (o_if0 (o_jmp 1) (o_aload 0 (o_getL 8 7 (o_lconst 423 (o_lcmp (o_if0 (o_jmp 1) (o_iconst 0 (o_zret))))))))))))))))))))))))))))))))))))))))))))))))))))))))))))))))))))))))))))))))))))))) (o_iconst 1 (o_zret))))))
    refine gk_aload_n (j := 0) h (by decide +kernel) rfl ?_
    refine gk_getI (i := 141) h ck_8 (by decide) (fun _ _ _ => rfl) (by decide +kernel) kw_1011 ?_
    refine gk_iconst (n := 1) h (by decide +kernel) (by decide) ?_
    refine gk_icmpeq (off := 5) (tgt := 10) h (by decide +kernel) (by decide) ?_ ?_
    · refine gk_aload_n (j := 0) h (by decide +kernel) rfl ?_
      refine gk_getL (i := 134) h ck_8 (by decide) (fun _ _ _ => rfl) (by decide +kernel) kw_1012 ?_
      refine gk_ldc2 (i := 203) h (by decide +kernel) kw_1190 ?_
      refine gk_lcmp h (by decide +kernel) ?_
      refine gk_ifeq (off := 179) (tgt := 197) h (by decide +kernel) (by decide) ?_ ?_
      · exact gk_jmp 1 rfl
      · refine gk_aload_n (j := 0) h (by decide +kernel) rfl ?_
        refine gk_getL (i := 134) h ck_8 (by decide) (fun _ _ _ => rfl) (by decide +kernel) kw_1012 ?_
        refine gk_ldc2 (i := 205) h (by decide +kernel) kw_1211 ?_
        refine gk_lcmp h (by decide +kernel) ?_
        refine gk_ifeq (off := 168) (tgt := 197) h (by decide +kernel) (by decide) ?_ ?_
        · exact gk_jmp 1 rfl
        · refine gk_aload_n (j := 0) h (by decide +kernel) rfl ?_
          refine gk_getL (i := 134) h ck_8 (by decide) (fun _ _ _ => rfl) (by decide +kernel) kw_1012 ?_
          refine gk_ldc2 (i := 207) h (by decide +kernel) kw_1220 ?_
          refine gk_lcmp h (by decide +kernel) ?_
          refine gk_ifeq (off := 157) (tgt := 197) h (by decide +kernel) (by decide) ?_ ?_
          · exact gk_jmp 1 rfl
          · refine gk_aload_n (j := 0) h (by decide +kernel) rfl ?_
            refine gk_getL (i := 134) h ck_8 (by decide) (fun _ _ _ => rfl) (by decide +kernel) kw_1012 ?_
            refine gk_ldc2 (i := 209) h (by decide +kernel) kw_1221 ?_
            refine gk_lcmp h (by decide +kernel) ?_
            refine gk_ifeq (off := 146) (tgt := 197) h (by decide +kernel) (by decide) ?_ ?_
            · exact gk_jmp 1 rfl
            · refine gk_aload_n (j := 0) h (by decide +kernel) rfl ?_
              refine gk_getL (i := 134) h ck_8 (by decide) (fun _ _ _ => rfl) (by decide +kernel) kw_1012 ?_
              refine gk_ldc2 (i := 211) h (by decide +kernel) kw_1222 ?_
              refine gk_lcmp h (by decide +kernel) ?_
              refine gk_ifeq (off := 135) (tgt := 197) h (by decide +kernel) (by decide) ?_ ?_
              · exact gk_jmp 1 rfl
              · refine gk_aload_n (j := 0) h (by decide +kernel) rfl ?_
                refine gk_getL (i := 134) h ck_8 (by decide) (fun _ _ _ => rfl) (by decide +kernel) kw_1012 ?_
                refine gk_ldc2 (i := 213) h (by decide +kernel) kw_1223 ?_
                refine gk_lcmp h (by decide +kernel) ?_
                refine gk_ifeq (off := 124) (tgt := 197) h (by decide +kernel) (by decide) ?_ ?_
                · exact gk_jmp 1 rfl
                · refine gk_aload_n (j := 0) h (by decide +kernel) rfl ?_
                  refine gk_getL (i := 134) h ck_8 (by decide) (fun _ _ _ => rfl) (by decide +kernel) kw_1012 ?_
                  refine gk_ldc2 (i := 215) h (by decide +kernel) kw_1224 ?_
                  refine gk_lcmp h (by decide +kernel) ?_
                  refine gk_ifeq (off := 113) (tgt := 197) h (by decide +kernel) (by decide) ?_ ?_
                  · exact gk_jmp 1 rfl
                  · refine gk_aload_n (j := 0) h (by decide +kernel) rfl ?_
                    refine gk_getL (i := 134) h ck_8 (by decide) (fun _ _ _ => rfl) (by decide +kernel) kw_1012 ?_
                    refine gk_ldc2 (i := 217) h (by decide +kernel) kw_1225 ?_
                    refine gk_lcmp h (by decide +kernel) ?_
                    refine gk_ifeq (off := 102) (tgt := 197) h (by decide +kernel) (by decide) ?_ ?_
                    · exact gk_jmp 1 rfl
                    · refine gk_aload_n (j := 0) h (by decide +kernel) rfl ?_
                      refine gk_getL (i := 134) h ck_8 (by decide) (fun _ _ _ => rfl) (by decide +kernel) kw_1012 ?_
                      refine gk_ldc2 (i := 219) h (by decide +kernel) kw_1226 ?_
                      refine gk_lcmp h (by decide +kernel) ?_
                      refine gk_ifeq (off := 91) (tgt := 197) h (by decide +kernel) (by decide) ?_ ?_
                      · exact gk_jmp 1 rfl
                      · refine gk_aload_n (j := 0) h (by decide +kernel) rfl ?_
                        refine gk_getL (i := 134) h ck_8 (by decide) (fun _ _ _ => rfl) (by decide +kernel) kw_1012 ?_
                        refine gk_ldc2 (i := 221) h (by decide +kernel) kw_1227 ?_
                        refine gk_lcmp h (by decide +kernel) ?_
                        refine gk_ifeq (off := 80) (tgt := 197) h (by decide +kernel) (by decide) ?_ ?_
                        · exact gk_jmp 1 rfl
                        · refine gk_aload_n (j := 0) h (by decide +kernel) rfl ?_
                          refine gk_getL (i := 134) h ck_8 (by decide) (fun _ _ _ => rfl) (by decide +kernel) kw_1012 ?_
                          refine gk_ldc2 (i := 158) h (by decide +kernel) kw_1228 ?_
                          refine gk_lcmp h (by decide +kernel) ?_
                          refine gk_ifeq (off := 69) (tgt := 197) h (by decide +kernel) (by decide) ?_ ?_
                          · exact gk_jmp 1 rfl
                          · refine gk_aload_n (j := 0) h (by decide +kernel) rfl ?_
                            refine gk_getL (i := 134) h ck_8 (by decide) (fun _ _ _ => rfl) (by decide +kernel) kw_1012 ?_
                            refine gk_ldc2 (i := 160) h (by decide +kernel) kw_1229 ?_
                            refine gk_lcmp h (by decide +kernel) ?_
                            refine gk_ifeq (off := 58) (tgt := 197) h (by decide +kernel) (by decide) ?_ ?_
                            · exact gk_jmp 1 rfl
                            · refine gk_aload_n (j := 0) h (by decide +kernel) rfl ?_
                              refine gk_getL (i := 134) h ck_8 (by decide) (fun _ _ _ => rfl) (by decide +kernel) kw_1012 ?_
                              refine gk_ldc2 (i := 162) h (by decide +kernel) kw_1230 ?_
                              refine gk_lcmp h (by decide +kernel) ?_
                              refine gk_ifeq (off := 47) (tgt := 197) h (by decide +kernel) (by decide) ?_ ?_
                              · exact gk_jmp 1 rfl
                              · refine gk_aload_n (j := 0) h (by decide +kernel) rfl ?_
                                refine gk_getL (i := 134) h ck_8 (by decide) (fun _ _ _ => rfl) (by decide +kernel) kw_1012 ?_
                                refine gk_ldc2 (i := 164) h (by decide +kernel) kw_1231 ?_
                                refine gk_lcmp h (by decide +kernel) ?_
                                refine gk_ifeq (off := 36) (tgt := 197) h (by decide +kernel) (by decide) ?_ ?_
                                · exact gk_jmp 1 rfl
                                · refine gk_aload_n (j := 0) h (by decide +kernel) rfl ?_
                                  refine gk_getL (i := 134) h ck_8 (by decide) (fun _ _ _ => rfl) (by decide +kernel) kw_1012 ?_
                                  refine gk_ldc2 (i := 170) h (by decide +kernel) kw_1232 ?_
                                  refine gk_lcmp h (by decide +kernel) ?_
                                  refine gk_ifeq (off := 25) (tgt := 197) h (by decide +kernel) (by decide) ?_ ?_
                                  · exact gk_jmp 1 rfl
                                  · refine gk_aload_n (j := 0) h (by decide +kernel) rfl ?_
                                    refine gk_getL (i := 134) h ck_8 (by decide) (fun _ _ _ => rfl) (by decide +kernel) kw_1012 ?_
                                    refine gk_ldc2 (i := 190) h (by decide +kernel) kw_1233 ?_
                                    refine gk_lcmp h (by decide +kernel) ?_
                                    refine gk_ifeq (off := 14) (tgt := 197) h (by decide +kernel) (by decide) ?_ ?_
                                    · exact gk_jmp 1 rfl
                                    · refine gk_aload_n (j := 0) h (by decide +kernel) rfl ?_
                                      refine gk_getL (i := 134) h ck_8 (by decide) (fun _ _ _ => rfl) (by decide +kernel) kw_1012 ?_
                                      refine gk_ldc2 (i := 192) h (by decide +kernel) kw_1234 ?_
                                      refine gk_lcmp h (by decide +kernel) ?_
                                      refine gk_ifne (off := 7) (tgt := 201) h (by decide +kernel) (by decide) ?_ ?_
                                      · refine gk_iconst (n := 0) h (by decide +kernel) (by decide) ?_
                                        exact gk_zret h hR (by decide +kernel)
                                      · exact gk_jmp 1 rfl
    · refine gk_iconst (n := 1) h (by decide +kernel) (by decide) ?_
      exact gk_zret h hR (by decide +kernel)
  | 1 =>
    show GK X Q128 197 (o_iconst 1 (o_zret))
    refine gk_iconst (n := 1) h (by decide +kernel) (by decide) ?_
    refine gk_goto (off := 4) (tgt := 202) h (by decide +kernel) (by decide) ?_
    exact gk_zret h hR (by decide +kernel)
  | _ + 2 => exact fun _ _ _ hr => hr.elim
set_option maxRecDepth 20000 in
set_option maxHeartbeats 4000000 in
theorem s_129 : MS mtab yX9_needsNumber cX9_needsNumber 3 (some .boolean) Q129 P129 := by
  intro X orc d h hR hnm hxn ho hrd b
  match b with
  | 0 =>
    show GK X Q129 0 (o_aload 0 (o_getI 8 6 (o_iconst 2 (o_ieq (o_aload 0 (o_getI 8 8 (o_iload 1 (o_iload 2 (o_sI orc 114 3 (o_if0 (o_aload 0 (o_iconst 4 (o_vI orc 120 2 8 (o_zret)))) (o_aload 0 (o_aload 0 (o_getI 8 8 (o_putI 8 35 (o_aload 0 (o_vV orc 117 1 8 (o_iconst 1 (o_zret)))))))))))))) (o_aload 0 (o_iconst 1 (o_vI orc 120 2 8 (o_zret))))))))
    refine gk_aload_n (j := 0) h (by decide +kernel) rfl ?_
    refine gk_getI (i := 141) h ck_8 (by decide) (fun _ _ _ => rfl) (by decide +kernel) kw_1011 ?_
    refine gk_iconst (n := 2) h (by decide +kernel) (by decide) ?_
    refine gk_icmpeq (off := 9) (tgt := 14) h (by decide +kernel) (by decide) ?_ ?_
    · refine gk_aload_n (j := 0) h (by decide +kernel) rfl ?_
      refine gk_getI (i := 138) h ck_8 (by decide) (fun _ _ _ => rfl) (by decide +kernel) kw_1013 ?_
      refine gk_iload_n (j := 1) h (by decide +kernel) rfl ?_
      refine gk_iload_n (j := 2) h (by decide +kernel) rfl ?_
      refine gk_sI (ca_s (idx := 223) h ho hm_114 (rd_le hrd (by decide)) (by decide +kernel) kw_990 kw_991 kw_101 kw_992 (by decide +kernel)) ?_
      refine gk_ifne (off := 9) (tgt := 32) h (by decide +kernel) (by decide) ?_ ?_
      · refine gk_aload_n (j := 0) h (by decide +kernel) rfl ?_
        refine gk_aload_n (j := 0) h (by decide +kernel) rfl ?_
        refine gk_getI (i := 138) h ck_8 (by decide) (fun _ _ _ => rfl) (by decide +kernel) kw_1013 ?_
        refine gk_putI (i := 227) h ck_8 (by decide) rfl (Or.inl rfl) (by decide +kernel) kw_1040 ?_
        refine gk_aload_n (j := 0) h (by decide +kernel) rfl ?_
        refine gk_vV (ca_v (idx := 187) h ho hm_117 (rd_le hrd (by decide)) ck_8 (by decide +kernel) kw_1180 kw_1182 kw_51 kw_101 kw_1183 rfl (by decide +kernel) (by decide)) ?_
        refine gk_iconst (n := 1) h (by decide +kernel) (by decide) ?_
        exact gk_zret h hR (by decide +kernel)
      · refine gk_aload_n (j := 0) h (by decide +kernel) rfl ?_
        refine gk_iconst (n := 4) h (by decide +kernel) (by decide) ?_
        refine gk_vI (ca_v (idx := 180) h ho hm_120 (rd_le hrd (by decide)) ck_8 (by decide +kernel) kw_1195 kw_1197 kw_54 kw_101 kw_1198 rfl (by decide +kernel) (by decide)) ?_
        exact gk_zret h hR (by decide +kernel)
    · refine gk_aload_n (j := 0) h (by decide +kernel) rfl ?_
      refine gk_iconst (n := 1) h (by decide +kernel) (by decide) ?_
      refine gk_vI (ca_v (idx := 180) h ho hm_120 (rd_le hrd (by decide)) ck_8 (by decide +kernel) kw_1195 kw_1197 kw_54 kw_101 kw_1198 rfl (by decide +kernel) (by decide)) ?_
      exact gk_zret h hR (by decide +kernel)
  | _ + 1 => exact fun _ _ _ hr => hr.elim
set_option maxRecDepth 20000 in
set_option maxHeartbeats 4000000 in
theorem s_130 : MS mtab yX9_ends cX9_ends 1 (some .boolean) Q130 P130 := by
  intro X orc d h hR hnm hxn ho hrd b
  match b with
  | 0 =>
    show GK X Q130 0 (o_aload 0 (o_iconst 59 (o_vI orc 119 2 8 (o_if0 (o_aload 0 (o_iconst 1 (o_vI orc 120 2 8 (o_zret)))) (o_aload 0 (o_vV orc 117 1 8 (o_iconst 1 (o_zret))))))))
    refine gk_aload_n (j := 0) h (by decide +kernel) rfl ?_
    refine gk_bipush (n := 59) h (by decide +kernel) (by decide) ?_
    refine gk_vI (ca_v (idx := 176) h ho hm_119 (rd_le hrd (by decide)) ck_8 (by decide +kernel) kw_1207 kw_1209 kw_57 kw_101 kw_1210 rfl (by decide +kernel) (by decide)) ?_
    refine gk_ifne (off := 9) (tgt := 15) h (by decide +kernel) (by decide) ?_ ?_
    · refine gk_aload_n (j := 0) h (by decide +kernel) rfl ?_
      refine gk_vV (ca_v (idx := 187) h ho hm_117 (rd_le hrd (by decide)) ck_8 (by decide +kernel) kw_1180 kw_1182 kw_51 kw_101 kw_1183 rfl (by decide +kernel) (by decide)) ?_
      refine gk_iconst (n := 1) h (by decide +kernel) (by decide) ?_
      exact gk_zret h hR (by decide +kernel)
    · refine gk_aload_n (j := 0) h (by decide +kernel) rfl ?_
      refine gk_iconst (n := 1) h (by decide +kernel) (by decide) ?_
      refine gk_vI (ca_v (idx := 180) h ho hm_120 (rd_le hrd (by decide)) ck_8 (by decide +kernel) kw_1195 kw_1197 kw_54 kw_101 kw_1198 rfl (by decide +kernel) (by decide)) ?_
      exact gk_zret h hR (by decide +kernel)
  | _ + 1 => exact fun _ _ _ hr => hr.elim
set_option maxRecDepth 20000 in
set_option maxHeartbeats 4000000 in
theorem s_131 : MS mtab yX9_kindAt cX9_kindAt 1 (some .int) Q131 P131 := by
  intro X orc d h hR hnm hxn ho hrd b
  match b with
  | 0 =>
    show GK X Q131 0 (o_aload 0 (o_lconst 8740238 (o_vI orc 118 2 8 (o_if0 (o_aload 0 (o_lconst 38444009 (o_vI orc 118 2 8 (o_if0 (o_aload 0 (o_lconst 9876874 (o_vI orc 118 2 8 (o_if0 (o_aload 0 (o_lconst 410684 (o_vI orc 118 2 8 (o_if0 (o_aload 0 (o_lconst 240239 (o_vI orc 118 2 8 (o_if0 (o_aload 0 (o_lconst 2774 (o_vI orc 118 2 8 (o_if0 (o_iconst (-1) (o_iret)) (o_iconst 5 (o_iret)))))) (o_iconst 4 (o_iret)))))) (o_iconst 3 (o_iret)))))) (o_iconst 2 (o_iret)))))) (o_iconst 1 (o_iret)))))) (o_iconst 0 (o_iret))))))
    refine gk_aload_n (j := 0) h (by decide +kernel) rfl ?_
    refine gk_ldc2 (i := 211) h (by decide +kernel) kw_1222 ?_
    refine gk_vI (ca_v (idx := 172) h ho hm_118 (rd_le hrd (by decide)) ck_8 (by decide +kernel) kw_1191 kw_1193 kw_53 kw_101 kw_1194 rfl (by decide +kernel) (by decide)) ?_
    refine gk_ifeq (off := 7) (tgt := 14) h (by decide +kernel) (by decide) ?_ ?_
    · refine gk_aload_n (j := 0) h (by decide +kernel) rfl ?_
      refine gk_ldc2 (i := 213) h (by decide +kernel) kw_1223 ?_
      refine gk_vI (ca_v (idx := 172) h ho hm_118 (rd_le hrd (by decide)) ck_8 (by decide +kernel) kw_1191 kw_1193 kw_53 kw_101 kw_1194 rfl (by decide +kernel) (by decide)) ?_
      refine gk_ifeq (off := 7) (tgt := 28) h (by decide +kernel) (by decide) ?_ ?_
      · refine gk_aload_n (j := 0) h (by decide +kernel) rfl ?_
        refine gk_ldc2 (i := 215) h (by decide +kernel) kw_1224 ?_
        refine gk_vI (ca_v (idx := 172) h ho hm_118 (rd_le hrd (by decide)) ck_8 (by decide +kernel) kw_1191 kw_1193 kw_53 kw_101 kw_1194 rfl (by decide +kernel) (by decide)) ?_
        refine gk_ifeq (off := 7) (tgt := 42) h (by decide +kernel) (by decide) ?_ ?_
        · refine gk_aload_n (j := 0) h (by decide +kernel) rfl ?_
          refine gk_ldc2 (i := 217) h (by decide +kernel) kw_1225 ?_
          refine gk_vI (ca_v (idx := 172) h ho hm_118 (rd_le hrd (by decide)) ck_8 (by decide +kernel) kw_1191 kw_1193 kw_53 kw_101 kw_1194 rfl (by decide +kernel) (by decide)) ?_
          refine gk_ifeq (off := 7) (tgt := 56) h (by decide +kernel) (by decide) ?_ ?_
          · refine gk_aload_n (j := 0) h (by decide +kernel) rfl ?_
            refine gk_ldc2 (i := 219) h (by decide +kernel) kw_1226 ?_
            refine gk_vI (ca_v (idx := 172) h ho hm_118 (rd_le hrd (by decide)) ck_8 (by decide +kernel) kw_1191 kw_1193 kw_53 kw_101 kw_1194 rfl (by decide +kernel) (by decide)) ?_
            refine gk_ifeq (off := 7) (tgt := 70) h (by decide +kernel) (by decide) ?_ ?_
            · refine gk_aload_n (j := 0) h (by decide +kernel) rfl ?_
              refine gk_ldc2 (i := 221) h (by decide +kernel) kw_1227 ?_
              refine gk_vI (ca_v (idx := 172) h ho hm_118 (rd_le hrd (by decide)) ck_8 (by decide +kernel) kw_1191 kw_1193 kw_53 kw_101 kw_1194 rfl (by decide +kernel) (by decide)) ?_
              refine gk_ifeq (off := 7) (tgt := 84) h (by decide +kernel) (by decide) ?_ ?_
              · refine gk_iconst (n := (-1)) h (by decide +kernel) (by decide) ?_
                exact gk_iret h hR (by decide +kernel)
              · refine gk_iconst (n := 5) h (by decide +kernel) (by decide) ?_
                refine gk_goto (off := 4) (tgt := 85) h (by decide +kernel) (by decide) ?_
                exact gk_iret h hR (by decide +kernel)
            · refine gk_iconst (n := 4) h (by decide +kernel) (by decide) ?_
              refine gk_goto (off := 18) (tgt := 85) h (by decide +kernel) (by decide) ?_
              exact gk_iret h hR (by decide +kernel)
          · refine gk_iconst (n := 3) h (by decide +kernel) (by decide) ?_
            refine gk_goto (off := 32) (tgt := 85) h (by decide +kernel) (by decide) ?_
            exact gk_iret h hR (by decide +kernel)
        · refine gk_iconst (n := 2) h (by decide +kernel) (by decide) ?_
          refine gk_goto (off := 46) (tgt := 85) h (by decide +kernel) (by decide) ?_
          exact gk_iret h hR (by decide +kernel)
      · refine gk_iconst (n := 1) h (by decide +kernel) (by decide) ?_
        refine gk_goto (off := 60) (tgt := 85) h (by decide +kernel) (by decide) ?_
        exact gk_iret h hR (by decide +kernel)
    · refine gk_iconst (n := 0) h (by decide +kernel) (by decide) ?_
      refine gk_goto (off := 74) (tgt := 85) h (by decide +kernel) (by decide) ?_
      exact gk_iret h hR (by decide +kernel)
  | _ + 1 => exact fun _ _ _ hr => hr.elim
set_option maxRecDepth 20000 in
set_option maxHeartbeats 4000000 in
theorem s_132 : MS mtab yX9_readsStone cX9_readsStone 3 (some .boolean) Q132 P132 := by
  intro X orc d h hR hnm hxn ho hrd b
  match b with
  | 0 =>
    show GK X Q132 0 (o_aload 0 (o_getR 8 12 (o_iconst 1 (o_iald 0 (o_iconst 6 (o_ieq (o_aload 0 (o_iconst 5 (o_vI orc 120 2 8 (o_zret)))) (o_aload 0 (o_getR 8 12 (o_iconst 1 (o_iald 0 (o_istore 1 (o_aload 0 (o_vV orc 117 1 8 (o_aload 0 (o_vI orc 128 1 8 (o_if0 (o_iconst 0 (o_istore 2 (o_jmp 1))) (o_aload 0 (o_iconst 1 (o_vI orc 120 2 8 (o_zret))))))))))))))))))))
    refine gk_aload_n (j := 0) h (by decide +kernel) rfl ?_
    refine gk_getR (i := 19) h ck_8 (by decide) (fun _ _ _ => rfl) (by decide +kernel) kw_1017 ?_
    refine gk_iconst (n := 1) h (by decide +kernel) (by decide) ?_
    refine gk_ald0 h (by decide +kernel) ?_
    refine gk_bipush (n := 6) h (by decide +kernel) (by decide) ?_
    refine gk_icmpne (off := 9) (tgt := 17) h (by decide +kernel) (by decide) ?_ ?_
    · refine gk_aload_n (j := 0) h (by decide +kernel) rfl ?_
      refine gk_getR (i := 19) h ck_8 (by decide) (fun _ _ _ => rfl) (by decide +kernel) kw_1017 ?_
      refine gk_iconst (n := 1) h (by decide +kernel) (by decide) ?_
      refine gk_ald0 h (by decide +kernel) ?_
      refine gk_istore_n (j := 1) h (by decide +kernel) rfl hxn (by decide) ?_
      refine gk_aload_n (j := 0) h (by decide +kernel) rfl ?_
      refine gk_vV (ca_v (idx := 187) h ho hm_117 (rd_le hrd (by decide)) ck_8 (by decide +kernel) kw_1180 kw_1182 kw_51 kw_101 kw_1183 rfl (by decide +kernel) (by decide)) ?_
      refine gk_aload_n (j := 0) h (by decide +kernel) rfl ?_
      refine gk_vI (ca_v (idx := 230) h ho hm_128 (rd_le hrd (by decide)) ck_8 (by decide +kernel) kw_1216 kw_1218 kw_59 kw_101 kw_1219 rfl (by decide +kernel) (by decide)) ?_
      refine gk_ifeq (off := 9) (tgt := 41) h (by decide +kernel) (by decide) ?_ ?_
      · refine gk_iconst (n := 0) h (by decide +kernel) (by decide) ?_
        refine gk_istore_n (j := 2) h (by decide +kernel) rfl hxn (by decide) ?_
        exact gk_jmp 1 rfl
      · refine gk_aload_n (j := 0) h (by decide +kernel) rfl ?_
        refine gk_iconst (n := 1) h (by decide +kernel) (by decide) ?_
        refine gk_vI (ca_v (idx := 180) h ho hm_120 (rd_le hrd (by decide)) ck_8 (by decide +kernel) kw_1195 kw_1197 kw_54 kw_101 kw_1198 rfl (by decide +kernel) (by decide)) ?_
        exact gk_zret h hR (by decide +kernel)
    · refine gk_aload_n (j := 0) h (by decide +kernel) rfl ?_
      refine gk_iconst (n := 5) h (by decide +kernel) (by decide) ?_
      refine gk_vI (ca_v (idx := 180) h ho hm_120 (rd_le hrd (by decide)) ck_8 (by decide +kernel) kw_1195 kw_1197 kw_54 kw_101 kw_1198 rfl (by decide +kernel) (by decide)) ?_
      exact gk_zret h hR (by decide +kernel)
  | 1 =>
    show GK X Q132 43 (o_iload 2 (o_iload 1 (o_ilt (o_aload 0 (o_getR 8 16 (o_iload 2 (o_lald (o_aload 0 (o_getL 8 7 (o_lcmp (o_if0 (o_aload 0 (o_iconst 3 (o_vI orc 120 2 8 (o_zret)))) (o_iinc 2 1 (o_jmp 1)))))))))) (o_aload 0 (o_getR 8 16 (o_iload 1 (o_aload 0 (o_getL 8 7 (o_last (o_aload 0 (o_vV orc 117 1 8 (o_aload 0 (o_vI orc 131 1 8 (o_istore 2 (o_iload 2 (o_ifn (o_aload 0 (o_iconst 1 (o_vI orc 120 2 8 (o_zret)))) (o_aload 0 (o_getR 8 14 (o_iconst 6 (o_iload 1 (o_i2 (fun x y => x + y) (o_iload 2 (o_iast 0 (fun x => x) (o_aload 0 (o_vV orc 117 1 8 (o_aload 0 (o_iload 2 (o_iconst 1 (o_ieq (o_iconst 2 (o_jmp 2)) (o_iconst 1 (o_jmp 2)))))))))))))))))))))))))))))))
    refine gk_iload_n (j := 2) h (by decide +kernel) rfl ?_
    refine gk_iload_n (j := 1) h (by decide +kernel) rfl ?_
    refine gk_icmpge (off := 29) (tgt := 74) h (by decide +kernel) (by decide) ?_ ?_
    · refine gk_aload_n (j := 0) h (by decide +kernel) rfl ?_
      refine gk_getR (i := 31) h ck_8 (by decide) (fun _ _ _ => rfl) (by decide +kernel) kw_1021 ?_
      refine gk_iload_n (j := 1) h (by decide +kernel) rfl ?_
      refine gk_aload_n (j := 0) h (by decide +kernel) rfl ?_
      refine gk_getL (i := 134) h ck_8 (by decide) (fun _ _ _ => rfl) (by decide +kernel) kw_1012 ?_
      refine gk_last h (by decide +kernel) ?_
      refine gk_aload_n (j := 0) h (by decide +kernel) rfl ?_
      refine gk_vV (ca_v (idx := 187) h ho hm_117 (rd_le hrd (by decide)) ck_8 (by decide +kernel) kw_1180 kw_1182 kw_51 kw_101 kw_1183 rfl (by decide +kernel) (by decide)) ?_
      refine gk_aload_n (j := 0) h (by decide +kernel) rfl ?_
      refine gk_vI (ca_v (idx := 234) h ho hm_131 (rd_le hrd (by decide)) ck_8 (by decide +kernel) kw_1235 kw_1237 kw_60 kw_101 kw_1238 rfl (by decide +kernel) (by decide)) ?_
      refine gk_istore_n (j := 2) h (by decide +kernel) rfl hxn (by decide) ?_
      refine gk_iload_n (j := 2) h (by decide +kernel) rfl ?_
      refine gk_ifge (off := 9) (tgt := 103) h (by decide +kernel) (by decide) ?_ ?_
      · refine gk_aload_n (j := 0) h (by decide +kernel) rfl ?_
        refine gk_getR (i := 25) h ck_8 (by decide) (fun _ _ _ => rfl) (by decide +kernel) kw_1019 ?_
        refine gk_bipush (n := 6) h (by decide +kernel) (by decide) ?_
        refine gk_iload_n (j := 1) h (by decide +kernel) rfl ?_
        refine gk_iadd h (by decide +kernel) ?_
        refine gk_iload_n (j := 2) h (by decide +kernel) rfl ?_
        refine gk_ast0 h (by decide +kernel) ?_
        refine gk_aload_n (j := 0) h (by decide +kernel) rfl ?_
        refine gk_vV (ca_v (idx := 187) h ho hm_117 (rd_le hrd (by decide)) ck_8 (by decide +kernel) kw_1180 kw_1182 kw_51 kw_101 kw_1183 rfl (by decide +kernel) (by decide)) ?_
        refine gk_aload_n (j := 0) h (by decide +kernel) rfl ?_
        refine gk_iload_n (j := 2) h (by decide +kernel) rfl ?_
        refine gk_iconst (n := 1) h (by decide +kernel) (by decide) ?_
        refine gk_icmpne (off := 7) (tgt := 127) h (by decide +kernel) (by decide) ?_ ?_
        · refine gk_iconst (n := 1) h (by decide +kernel) (by decide) ?_
          exact gk_jmp 2 rfl
        · refine gk_iconst (n := 2) h (by decide +kernel) (by decide) ?_
          refine gk_goto (off := 4) (tgt := 128) h (by decide +kernel) (by decide) ?_
          exact gk_jmp 2 rfl
      · refine gk_aload_n (j := 0) h (by decide +kernel) rfl ?_
        refine gk_iconst (n := 1) h (by decide +kernel) (by decide) ?_
        refine gk_vI (ca_v (idx := 180) h ho hm_120 (rd_le hrd (by decide)) ck_8 (by decide +kernel) kw_1195 kw_1197 kw_54 kw_101 kw_1198 rfl (by decide +kernel) (by decide)) ?_
        exact gk_zret h hR (by decide +kernel)
    · refine gk_aload_n (j := 0) h (by decide +kernel) rfl ?_
      refine gk_getR (i := 31) h ck_8 (by decide) (fun _ _ _ => rfl) (by decide +kernel) kw_1021 ?_
      refine gk_iload_n (j := 2) h (by decide +kernel) rfl ?_
      refine gk_lald h (by decide +kernel) ?_
      refine gk_aload_n (j := 0) h (by decide +kernel) rfl ?_
      refine gk_getL (i := 134) h ck_8 (by decide) (fun _ _ _ => rfl) (by decide +kernel) kw_1012 ?_
      refine gk_lcmp h (by decide +kernel) ?_
      refine gk_ifne (off := 9) (tgt := 68) h (by decide +kernel) (by decide) ?_ ?_
      · refine gk_iinc (z := 1) h (by decide +kernel) (by decide) hxn (by decide) ?_
        refine gk_goto (off := (-28)) (tgt := 43) h (by decide +kernel) (by decide) ?_
        exact gk_jmp 1 rfl
      · refine gk_aload_n (j := 0) h (by decide +kernel) rfl ?_
        refine gk_iconst (n := 3) h (by decide +kernel) (by decide) ?_
        refine gk_vI (ca_v (idx := 180) h ho hm_120 (rd_le hrd (by decide)) ck_8 (by decide +kernel) kw_1195 kw_1197 kw_54 kw_101 kw_1198 rfl (by decide +kernel) (by decide)) ?_
        exact gk_zret h hR (by decide +kernel)
  | 2 =>
    show GK X Q132 128 (o_iload 2 (o_iconst 2 (o_ieq (o_jmp 3) (o_iload 2 (o_iconst 3 (o_ieq (o_jmp 3) (o_iconst 4 (o_jmp 4))))))))
    refine gk_iload_n (j := 2) h (by decide +kernel) rfl ?_
    refine gk_iconst (n := 2) h (by decide +kernel) (by decide) ?_
    refine gk_icmpeq (off := 8) (tgt := 138) h (by decide +kernel) (by decide) ?_ ?_
    · exact gk_jmp 3 rfl
    · refine gk_iload_n (j := 2) h (by decide +kernel) rfl ?_
      refine gk_iconst (n := 3) h (by decide +kernel) (by decide) ?_
      refine gk_icmpne (off := 7) (tgt := 142) h (by decide +kernel) (by decide) ?_ ?_
      · refine gk_iconst (n := 4) h (by decide +kernel) (by decide) ?_
        exact gk_jmp 4 rfl
      · exact gk_jmp 3 rfl
  | 3 =>
    show GK X Q132 138 (o_iconst 1 (o_jmp 4))
    refine gk_iconst (n := 1) h (by decide +kernel) (by decide) ?_
    refine gk_goto (off := 4) (tgt := 143) h (by decide +kernel) (by decide) ?_
    exact gk_jmp 4 rfl
  | 4 =>
    show GK X Q132 143 (o_vI orc 129 3 8 (o_if0 (o_iconst 0 (o_zret)) (o_aload 0 (o_getR 8 15 (o_iconst 6 (o_iload 1 (o_i2 (fun x y => x + y) (o_aload 0 (o_getI 8 35 (o_iast 0 (fun x => x) (o_aload 0 (o_getR 8 12 (o_iconst 1 (o_dup2 (o_iald 0 (o_iconst 1 (o_i2 (fun x y => x + y) (o_iast 0 (fun x => x) (o_aload 0 (o_vI orc 130 1 8 (o_zret)))))))))))))))))))))
    refine gk_vI (ca_v (idx := 237) h ho hm_129 (rd_le hrd (by decide)) ck_8 (by decide +kernel) kw_1199 kw_1201 kw_55 kw_101 kw_1202 rfl (by decide +kernel) (by decide)) ?_
    refine gk_ifne (off := 5) (tgt := 151) h (by decide +kernel) (by decide) ?_ ?_
    · refine gk_aload_n (j := 0) h (by decide +kernel) rfl ?_
      refine gk_getR (i := 28) h ck_8 (by decide) (fun _ _ _ => rfl) (by decide +kernel) kw_1020 ?_
      refine gk_bipush (n := 6) h (by decide +kernel) (by decide) ?_
      refine gk_iload_n (j := 1) h (by decide +kernel) rfl ?_
      refine gk_iadd h (by decide +kernel) ?_
      refine gk_aload_n (j := 0) h (by decide +kernel) rfl ?_
      refine gk_getI (i := 227) h ck_8 (by decide) (fun _ _ _ => rfl) (by decide +kernel) kw_1040 ?_
      refine gk_ast0 h (by decide +kernel) ?_
      refine gk_aload_n (j := 0) h (by decide +kernel) rfl ?_
      refine gk_getR (i := 19) h ck_8 (by decide) (fun _ _ _ => rfl) (by decide +kernel) kw_1017 ?_
      refine gk_iconst (n := 1) h (by decide +kernel) (by decide) ?_
      refine gk_dup2 h (by decide +kernel) ?_
      refine gk_ald0 h (by decide +kernel) ?_
      refine gk_iconst (n := 1) h (by decide +kernel) (by decide) ?_
      refine gk_iadd h (by decide +kernel) ?_
      refine gk_ast0 h (by decide +kernel) ?_
      refine gk_aload_n (j := 0) h (by decide +kernel) rfl ?_
      refine gk_vI (ca_v (idx := 241) h ho hm_130 (rd_le hrd (by decide)) ck_8 (by decide +kernel) kw_1203 kw_1205 kw_56 kw_101 kw_1206 rfl (by decide +kernel) (by decide)) ?_
      exact gk_zret h hR (by decide +kernel)
    · refine gk_iconst (n := 0) h (by decide +kernel) (by decide) ?_
      exact gk_zret h hR (by decide +kernel)
  | _ + 5 => exact fun _ _ _ hr => hr.elim
set_option maxRecDepth 20000 in
set_option maxHeartbeats 4000000 in
theorem s_133 : MS mtab yX9_readsGates cX9_readsGates 1 (some .boolean) Q133 P133 := by
  intro X orc d h hR hnm hxn ho hrd b
  match b with
  | 0 =>
    show GK X Q133 0 (o_aload 0 (o_getI 8 21 (o_if0 (o_aload 0 (o_iconst 1 (o_putZ 8 21 (o_aload 0 (o_vV orc 117 1 8 (o_aload 0 (o_iconst 0 (o_iconst 1 (o_vI orc 129 3 8 (o_if0 (o_iconst 0 (o_zret)) (o_aload 0 (o_getR 8 13 (o_iconst 1 (o_aload 0 (o_getI 8 35 (o_iast 0 (fun x => x) (o_aload 0 (o_vI orc 130 1 8 (o_zret))))))))))))))))))) (o_aload 0 (o_iconst 3 (o_vI orc 120 2 8 (o_zret)))))))
    refine gk_aload_n (j := 0) h (by decide +kernel) rfl ?_
    refine gk_getI (i := 244) h ck_8 (by decide) (fun _ _ _ => rfl) (by decide +kernel) kw_1026 ?_
    refine gk_ifeq (off := 9) (tgt := 13) h (by decide +kernel) (by decide) ?_ ?_
    · refine gk_aload_n (j := 0) h (by decide +kernel) rfl ?_
      refine gk_iconst (n := 1) h (by decide +kernel) (by decide) ?_
      refine gk_putZ (i := 244) h ck_8 (by decide) rfl (Or.inl rfl) (by decide +kernel) kw_1026 ?_
      refine gk_aload_n (j := 0) h (by decide +kernel) rfl ?_
      refine gk_vV (ca_v (idx := 187) h ho hm_117 (rd_le hrd (by decide)) ck_8 (by decide +kernel) kw_1180 kw_1182 kw_51 kw_101 kw_1183 rfl (by decide +kernel) (by decide)) ?_
      refine gk_aload_n (j := 0) h (by decide +kernel) rfl ?_
      refine gk_iconst (n := 0) h (by decide +kernel) (by decide) ?_
      refine gk_iconst (n := 1) h (by decide +kernel) (by decide) ?_
      refine gk_vI (ca_v (idx := 237) h ho hm_129 (rd_le hrd (by decide)) ck_8 (by decide +kernel) kw_1199 kw_1201 kw_55 kw_101 kw_1202 rfl (by decide +kernel) (by decide)) ?_
      refine gk_ifne (off := 5) (tgt := 33) h (by decide +kernel) (by decide) ?_ ?_
      · refine gk_aload_n (j := 0) h (by decide +kernel) rfl ?_
        refine gk_getR (i := 22) h ck_8 (by decide) (fun _ _ _ => rfl) (by decide +kernel) kw_1018 ?_
        refine gk_iconst (n := 1) h (by decide +kernel) (by decide) ?_
        refine gk_aload_n (j := 0) h (by decide +kernel) rfl ?_
        refine gk_getI (i := 227) h ck_8 (by decide) (fun _ _ _ => rfl) (by decide +kernel) kw_1040 ?_
        refine gk_ast0 h (by decide +kernel) ?_
        refine gk_aload_n (j := 0) h (by decide +kernel) rfl ?_
        refine gk_vI (ca_v (idx := 241) h ho hm_130 (rd_le hrd (by decide)) ck_8 (by decide +kernel) kw_1203 kw_1205 kw_56 kw_101 kw_1206 rfl (by decide +kernel) (by decide)) ?_
        exact gk_zret h hR (by decide +kernel)
      · refine gk_iconst (n := 0) h (by decide +kernel) (by decide) ?_
        exact gk_zret h hR (by decide +kernel)
    · refine gk_aload_n (j := 0) h (by decide +kernel) rfl ?_
      refine gk_iconst (n := 3) h (by decide +kernel) (by decide) ?_
      refine gk_vI (ca_v (idx := 180) h ho hm_120 (rd_le hrd (by decide)) ck_8 (by decide +kernel) kw_1195 kw_1197 kw_54 kw_101 kw_1198 rfl (by decide +kernel) (by decide)) ?_
      exact gk_zret h hR (by decide +kernel)
  | _ + 1 => exact fun _ _ _ hr => hr.elim
set_option maxRecDepth 20000 in
set_option maxHeartbeats 4000000 in
theorem s_134 : MS mtab yX9_readsFine cX9_readsFine 1 (some .boolean) Q134 P134 := by
  intro X orc d h hR hnm hxn ho hrd b
  match b with
  | 0 =>
    show GK X Q134 0 (o_aload 0 (o_getI 8 22 (o_if0 (o_aload 0 (o_iconst 1 (o_putZ 8 22 (o_aload 0 (o_vV orc 117 1 8 (o_aload 0 (o_vI orc 123 1 8 (o_if0 (o_iconst 0 (o_zret)) (o_aload 0 (o_getR 8 18 (o_iconst 1 (o_aload 0 (o_getI 8 20 (o_iast 0 (fun x => x) (o_iconst 1 (o_zret)))))))))))))))) (o_aload 0 (o_iconst 3 (o_vI orc 120 2 8 (o_zret)))))))
    refine gk_aload_n (j := 0) h (by decide +kernel) rfl ?_
    refine gk_getI (i := 248) h ck_8 (by decide) (fun _ _ _ => rfl) (by decide +kernel) kw_1027 ?_
    refine gk_ifeq (off := 9) (tgt := 13) h (by decide +kernel) (by decide) ?_ ?_
    · refine gk_aload_n (j := 0) h (by decide +kernel) rfl ?_
      refine gk_iconst (n := 1) h (by decide +kernel) (by decide) ?_
      refine gk_putZ (i := 248) h ck_8 (by decide) rfl (Or.inl rfl) (by decide +kernel) kw_1027 ?_
      refine gk_aload_n (j := 0) h (by decide +kernel) rfl ?_
      refine gk_vV (ca_v (idx := 187) h ho hm_117 (rd_le hrd (by decide)) ck_8 (by decide +kernel) kw_1180 kw_1182 kw_51 kw_101 kw_1183 rfl (by decide +kernel) (by decide)) ?_
      refine gk_aload_n (j := 0) h (by decide +kernel) rfl ?_
      refine gk_vI (ca_v (idx := 251) h ho hm_123 (rd_le hrd (by decide)) ck_8 (by decide +kernel) kw_1247 kw_1249 kw_63 kw_101 kw_1250 rfl (by decide +kernel) (by decide)) ?_
      refine gk_ifne (off := 5) (tgt := 31) h (by decide +kernel) (by decide) ?_ ?_
      · refine gk_aload_n (j := 0) h (by decide +kernel) rfl ?_
        refine gk_getR (i := 38) h ck_8 (by decide) (fun _ _ _ => rfl) (by decide +kernel) kw_1023 ?_
        refine gk_iconst (n := 1) h (by decide +kernel) (by decide) ?_
        refine gk_aload_n (j := 0) h (by decide +kernel) rfl ?_
        refine gk_getI (i := 155) h ck_8 (by decide) (fun _ _ _ => rfl) (by decide +kernel) kw_1025 ?_
        refine gk_ast0 h (by decide +kernel) ?_
        refine gk_iconst (n := 1) h (by decide +kernel) (by decide) ?_
        exact gk_zret h hR (by decide +kernel)
      · refine gk_iconst (n := 0) h (by decide +kernel) (by decide) ?_
        exact gk_zret h hR (by decide +kernel)
    · refine gk_aload_n (j := 0) h (by decide +kernel) rfl ?_
      refine gk_iconst (n := 3) h (by decide +kernel) (by decide) ?_
      refine gk_vI (ca_v (idx := 180) h ho hm_120 (rd_le hrd (by decide)) ck_8 (by decide +kernel) kw_1195 kw_1197 kw_54 kw_101 kw_1198 rfl (by decide +kernel) (by decide)) ?_
      exact gk_zret h hR (by decide +kernel)
  | _ + 1 => exact fun _ _ _ hr => hr.elim
set_option maxRecDepth 20000 in
set_option maxHeartbeats 4000000 in
theorem s_135 : MS mtab yX9_readsAll cX9_readsAll 2 (some .boolean) Q135 P135 := by
  intro X orc d h hR hnm hxn ho hrd b
  match b with
  | 0 =>
    show GK X Q135 0 (o_aload 0 (o_getR 8 12 (o_iconst 1 (o_iconst 0 (o_iast 0 (fun x => x) (o_aload 0 (o_getR 8 13 (o_iconst 1 (o_iconst 0 (o_iast 0 (fun x => x) (o_aload 0 (o_iconst 0 (o_putZ 8 21 (o_aload 0 (o_iconst 0 (o_putZ 8 22 (o_aload 0 (o_iconst 1000 (o_putI 8 20 (o_aload 0 (o_getR 8 17 (o_iconst 1 (o_iconst 1000 (o_iast 0 (fun x => x) (o_aload 0 (o_getR 8 18 (o_iconst 1 (o_iconst 1000 (o_iast 0 (fun x => x) (o_aload 0 (o_aload 0 (o_getI 8 1 (o_putI 8 3 (o_aload 0 (o_iconst 0 (o_putI 8 1 (o_aload 0 (o_iconst 0 (o_putI 8 4 (o_aload 0 (o_vV orc 117 1 8 (o_aload 0 (o_lconst 453774 (o_vI orc 118 2 8 (o_if0 (o_aload 0 (o_iconst 1 (o_vI orc 120 2 8 (o_zret)))) (o_aload 0 (o_vV orc 117 1 8 (o_aload 0 (o_iconst 2 (o_iconst 10 (o_vI orc 129 3 8 (o_if0 (o_iconst 0 (o_zret)) (o_aload 0 (o_getR 8 10 (o_iconst 1 (o_aload 0 (o_getI 8 35 (o_iast 0 (fun x => x) (o_aload 0 (o_iconst 1 (o_iconst 6 (o_vI orc 129 3 8 (o_if0 (o_iconst 0 (o_zret)) (o_aload 0 (o_getR 8 11 (o_iconst 1 (o_aload 0 (o_getI 8 35 (o_iast 0 (fun x => x) (o_aload 0 (o_vI orc 130 1 8 (o_if0 (o_iconst 0 (o_zret)) (o_jmp 1)))))))))))))))))))))))))))))))))))))))))))))))))))))))))))))))))))))))))
    refine gk_aload_n (j := 0) h (by decide +kernel) rfl ?_
    refine gk_getR (i := 19) h ck_8 (by decide) (fun _ _ _ => rfl) (by decide +kernel) kw_1017 ?_
    refine gk_iconst (n := 1) h (by decide +kernel) (by decide) ?_
    refine gk_iconst (n := 0) h (by decide +kernel) (by decide) ?_
    refine gk_ast0 h (by decide +kernel) ?_
    refine gk_aload_n (j := 0) h (by decide +kernel) rfl ?_
    refine gk_getR (i := 22) h ck_8 (by decide) (fun _ _ _ => rfl) (by decide +kernel) kw_1018 ?_
    refine gk_iconst (n := 1) h (by decide +kernel) (by decide) ?_
    refine gk_iconst (n := 0) h (by decide +kernel) (by decide) ?_
    refine gk_ast0 h (by decide +kernel) ?_
    refine gk_aload_n (j := 0) h (by decide +kernel) rfl ?_
    refine gk_iconst (n := 0) h (by decide +kernel) (by decide) ?_
    refine gk_putZ (i := 244) h ck_8 (by decide) rfl (Or.inl rfl) (by decide +kernel) kw_1026 ?_
    refine gk_aload_n (j := 0) h (by decide +kernel) rfl ?_
    refine gk_iconst (n := 0) h (by decide +kernel) (by decide) ?_
    refine gk_putZ (i := 248) h ck_8 (by decide) rfl (Or.inl rfl) (by decide +kernel) kw_1027 ?_
    refine gk_aload_n (j := 0) h (by decide +kernel) rfl ?_
    refine gk_sipush (n := 1000) h (by decide +kernel) (by decide) ?_
    refine gk_putI (i := 155) h ck_8 (by decide) rfl (Or.inl rfl) (by decide +kernel) kw_1025 ?_
    refine gk_aload_n (j := 0) h (by decide +kernel) rfl ?_
    refine gk_getR (i := 35) h ck_8 (by decide) (fun _ _ _ => rfl) (by decide +kernel) kw_1022 ?_
    refine gk_iconst (n := 1) h (by decide +kernel) (by decide) ?_
    refine gk_sipush (n := 1000) h (by decide +kernel) (by decide) ?_
    refine gk_ast0 h (by decide +kernel) ?_
    refine gk_aload_n (j := 0) h (by decide +kernel) rfl ?_
    refine gk_getR (i := 38) h ck_8 (by decide) (fun _ _ _ => rfl) (by decide +kernel) kw_1023 ?_
    refine gk_iconst (n := 1) h (by decide +kernel) (by decide) ?_
    refine gk_sipush (n := 1000) h (by decide +kernel) (by decide) ?_
    refine gk_ast0 h (by decide +kernel) ?_
    refine gk_aload_n (j := 0) h (by decide +kernel) rfl ?_
    refine gk_aload_n (j := 0) h (by decide +kernel) rfl ?_
    refine gk_getI (i := 122) h ck_8 (by decide) (fun _ _ _ => rfl) (by decide +kernel) kw_1006 ?_
    refine gk_putI (i := 125) h ck_8 (by decide) rfl (Or.inl rfl) (by decide +kernel) kw_1008 ?_
    refine gk_aload_n (j := 0) h (by decide +kernel) rfl ?_
    refine gk_iconst (n := 0) h (by decide +kernel) (by decide) ?_
    refine gk_putI (i := 122) h ck_8 (by decide) rfl (Or.inl rfl) (by decide +kernel) kw_1006 ?_
    refine gk_aload_n (j := 0) h (by decide +kernel) rfl ?_
    refine gk_iconst (n := 0) h (by decide +kernel) (by decide) ?_
    refine gk_putI (i := 128) h ck_8 (by decide) rfl (Or.inl rfl) (by decide +kernel) kw_1009 ?_
    refine gk_aload_n (j := 0) h (by decide +kernel) rfl ?_
    refine gk_vV (ca_v (idx := 187) h ho hm_117 (rd_le hrd (by decide)) ck_8 (by decide +kernel) kw_1180 kw_1182 kw_51 kw_101 kw_1183 rfl (by decide +kernel) (by decide)) ?_
    refine gk_aload_n (j := 0) h (by decide +kernel) rfl ?_
    refine gk_ldc2 (i := 203) h (by decide +kernel) kw_1190 ?_
    refine gk_vI (ca_v (idx := 172) h ho hm_118 (rd_le hrd (by decide)) ck_8 (by decide +kernel) kw_1191 kw_1193 kw_53 kw_101 kw_1194 rfl (by decide +kernel) (by decide)) ?_
    refine gk_ifne (off := 9) (tgt := 87) h (by decide +kernel) (by decide) ?_ ?_
    · refine gk_aload_n (j := 0) h (by decide +kernel) rfl ?_
      refine gk_vV (ca_v (idx := 187) h ho hm_117 (rd_le hrd (by decide)) ck_8 (by decide +kernel) kw_1180 kw_1182 kw_51 kw_101 kw_1183 rfl (by decide +kernel) (by decide)) ?_
      refine gk_aload_n (j := 0) h (by decide +kernel) rfl ?_
      refine gk_iconst (n := 2) h (by decide +kernel) (by decide) ?_
      refine gk_bipush (n := 10) h (by decide +kernel) (by decide) ?_
      refine gk_vI (ca_v (idx := 237) h ho hm_129 (rd_le hrd (by decide)) ck_8 (by decide +kernel) kw_1199 kw_1201 kw_55 kw_101 kw_1202 rfl (by decide +kernel) (by decide)) ?_
      refine gk_ifne (off := 5) (tgt := 103) h (by decide +kernel) (by decide) ?_ ?_
      · refine gk_aload_n (j := 0) h (by decide +kernel) rfl ?_
        refine gk_getR (i := 13) h ck_8 (by decide) (fun _ _ _ => rfl) (by decide +kernel) kw_1015 ?_
        refine gk_iconst (n := 1) h (by decide +kernel) (by decide) ?_
        refine gk_aload_n (j := 0) h (by decide +kernel) rfl ?_
        refine gk_getI (i := 227) h ck_8 (by decide) (fun _ _ _ => rfl) (by decide +kernel) kw_1040 ?_
        refine gk_ast0 h (by decide +kernel) ?_
        refine gk_aload_n (j := 0) h (by decide +kernel) rfl ?_
        refine gk_iconst (n := 1) h (by decide +kernel) (by decide) ?_
        refine gk_bipush (n := 6) h (by decide +kernel) (by decide) ?_
        refine gk_vI (ca_v (idx := 237) h ho hm_129 (rd_le hrd (by decide)) ck_8 (by decide +kernel) kw_1199 kw_1201 kw_55 kw_101 kw_1202 rfl (by decide +kernel) (by decide)) ?_
        refine gk_ifne (off := 5) (tgt := 125) h (by decide +kernel) (by decide) ?_ ?_
        · refine gk_aload_n (j := 0) h (by decide +kernel) rfl ?_
          refine gk_getR (i := 16) h ck_8 (by decide) (fun _ _ _ => rfl) (by decide +kernel) kw_1016 ?_
          refine gk_iconst (n := 1) h (by decide +kernel) (by decide) ?_
          refine gk_aload_n (j := 0) h (by decide +kernel) rfl ?_
          refine gk_getI (i := 227) h ck_8 (by decide) (fun _ _ _ => rfl) (by decide +kernel) kw_1040 ?_
          refine gk_ast0 h (by decide +kernel) ?_
          refine gk_aload_n (j := 0) h (by decide +kernel) rfl ?_
          refine gk_vI (ca_v (idx := 241) h ho hm_130 (rd_le hrd (by decide)) ck_8 (by decide +kernel) kw_1203 kw_1205 kw_56 kw_101 kw_1206 rfl (by decide +kernel) (by decide)) ?_
          refine gk_ifne (off := 5) (tgt := 144) h (by decide +kernel) (by decide) ?_ ?_
          · exact gk_jmp 1 rfl
          · refine gk_iconst (n := 0) h (by decide +kernel) (by decide) ?_
            exact gk_zret h hR (by decide +kernel)
        · refine gk_iconst (n := 0) h (by decide +kernel) (by decide) ?_
          exact gk_zret h hR (by decide +kernel)
      · refine gk_iconst (n := 0) h (by decide +kernel) (by decide) ?_
        exact gk_zret h hR (by decide +kernel)
    · refine gk_aload_n (j := 0) h (by decide +kernel) rfl ?_
      refine gk_iconst (n := 1) h (by decide +kernel) (by decide) ?_
      refine gk_vI (ca_v (idx := 180) h ho hm_120 (rd_le hrd (by decide)) ck_8 (by decide +kernel) kw_1195 kw_1197 kw_54 kw_101 kw_1198 rfl (by decide +kernel) (by decide)) ?_
      exact gk_zret h hR (by decide +kernel)
  | 1 =>
    show GK X Q135 144 (o_aload 0 (o_getI 8 6 (o_if0 (o_iconst 1 (o_zret)) (o_aload 0 (o_lconst 10502357 (o_vI orc 118 2 8 (o_if0 (o_aload 0 (o_lconst 3754504 (o_vI orc 118 2 8 (o_if0 (o_aload 0 (o_lconst 125042 (o_vI orc 118 2 8 (o_if0 (o_aload 0 (o_iconst 1 (o_vI orc 120 2 8 (o_jmp 2)))) (o_aload 0 (o_vI orc 134 1 8 (o_jmp 2))))))) (o_aload 0 (o_vI orc 133 1 8 (o_jmp 2))))))) (o_aload 0 (o_vI orc 132 1 8 (o_jmp 2))))))))))
    refine gk_aload_n (j := 0) h (by decide +kernel) rfl ?_
    refine gk_getI (i := 141) h ck_8 (by decide) (fun _ _ _ => rfl) (by decide +kernel) kw_1011 ?_
    refine gk_ifeq (off := 69) (tgt := 217) h (by decide +kernel) (by decide) ?_ ?_
    · refine gk_iconst (n := 1) h (by decide +kernel) (by decide) ?_
      exact gk_zret h hR (by decide +kernel)
    · refine gk_aload_n (j := 0) h (by decide +kernel) rfl ?_
      refine gk_ldc2 (i := 205) h (by decide +kernel) kw_1211 ?_
      refine gk_vI (ca_v (idx := 172) h ho hm_118 (rd_le hrd (by decide)) ck_8 (by decide +kernel) kw_1191 kw_1193 kw_53 kw_101 kw_1194 rfl (by decide +kernel) (by decide)) ?_
      refine gk_ifeq (off := 10) (tgt := 168) h (by decide +kernel) (by decide) ?_ ?_
      · refine gk_aload_n (j := 0) h (by decide +kernel) rfl ?_
        refine gk_ldc2 (i := 207) h (by decide +kernel) kw_1220 ?_
        refine gk_vI (ca_v (idx := 172) h ho hm_118 (rd_le hrd (by decide)) ck_8 (by decide +kernel) kw_1191 kw_1193 kw_53 kw_101 kw_1194 rfl (by decide +kernel) (by decide)) ?_
        refine gk_ifeq (off := 10) (tgt := 185) h (by decide +kernel) (by decide) ?_ ?_
        · refine gk_aload_n (j := 0) h (by decide +kernel) rfl ?_
          refine gk_ldc2 (i := 209) h (by decide +kernel) kw_1221 ?_
          refine gk_vI (ca_v (idx := 172) h ho hm_118 (rd_le hrd (by decide)) ck_8 (by decide +kernel) kw_1191 kw_1193 kw_53 kw_101 kw_1194 rfl (by decide +kernel) (by decide)) ?_
          refine gk_ifeq (off := 10) (tgt := 202) h (by decide +kernel) (by decide) ?_ ?_
          · refine gk_aload_n (j := 0) h (by decide +kernel) rfl ?_
            refine gk_iconst (n := 1) h (by decide +kernel) (by decide) ?_
            refine gk_vI (ca_v (idx := 180) h ho hm_120 (rd_le hrd (by decide)) ck_8 (by decide +kernel) kw_1195 kw_1197 kw_54 kw_101 kw_1198 rfl (by decide +kernel) (by decide)) ?_
            exact gk_jmp 2 rfl
          · refine gk_aload_n (j := 0) h (by decide +kernel) rfl ?_
            refine gk_vI (ca_v (idx := 260) h ho hm_134 (rd_le hrd (by decide)) ck_8 (by decide +kernel) kw_1243 kw_1245 kw_62 kw_101 kw_1246 rfl (by decide +kernel) (by decide)) ?_
            refine gk_goto (off := 8) (tgt := 207) h (by decide +kernel) (by decide) ?_
            exact gk_jmp 2 rfl
        · refine gk_aload_n (j := 0) h (by decide +kernel) rfl ?_
          refine gk_vI (ca_v (idx := 257) h ho hm_133 (rd_le hrd (by decide)) ck_8 (by decide +kernel) kw_1239 kw_1241 kw_61 kw_101 kw_1242 rfl (by decide +kernel) (by decide)) ?_
          refine gk_goto (off := 25) (tgt := 207) h (by decide +kernel) (by decide) ?_
          exact gk_jmp 2 rfl
      · refine gk_aload_n (j := 0) h (by decide +kernel) rfl ?_
        refine gk_vI (ca_v (idx := 254) h ho hm_132 (rd_le hrd (by decide)) ck_8 (by decide +kernel) kw_1212 kw_1214 kw_58 kw_101 kw_1215 rfl (by decide +kernel) (by decide)) ?_
        refine gk_goto (off := 42) (tgt := 207) h (by decide +kernel) (by decide) ?_
        exact gk_jmp 2 rfl
  | 2 =>
    show GK X Q135 207 (o_istore 1 (o_iload 1 (o_if0 (o_iconst 0 (o_zret)) (o_jmp 1))))
    refine gk_istore_n (j := 1) h (by decide +kernel) rfl hxn (by decide) ?_
    refine gk_iload_n (j := 1) h (by decide +kernel) rfl ?_
    refine gk_ifne (off := 5) (tgt := 214) h (by decide +kernel) (by decide) ?_ ?_
    · refine gk_goto (off := (-70)) (tgt := 144) h (by decide +kernel) (by decide) ?_
      exact gk_jmp 1 rfl
    · refine gk_iconst (n := 0) h (by decide +kernel) (by decide) ?_
      exact gk_zret h hR (by decide +kernel)
  | _ + 3 => exact fun _ _ _ hr => hr.elim
set_option maxRecDepth 20000 in
set_option maxHeartbeats 4000000 in
theorem s_136 : MS mtab yX9_moves cX9_moves 5 none Q136 P136 := by
  intro X orc d h hR hnm hxn ho hrd b
  match b with
  | 0 =>
    show GK X Q136 0 (o_iconst 0 (o_istore 4 (o_jmp 1)))
    refine gk_iconst (n := 0) h (by decide +kernel) (by decide) ?_
    refine gk_istore h (by decide +kernel) hxn (by decide) ?_
    exact gk_jmp 1 rfl
  | 1 =>
    show GK X Q136 3 (o_iload 4 (o_iload 1 (o_ilt (o_aload 0 (o_iload 1 (o_iload 3 (o_i2 (fun x y => x * y) (o_iload 4 (o_i2 (fun x y => x + y) (o_aload 0 (o_iload 1 (o_iload 2 (o_i2 (fun x y => x * y) (o_iload 4 (o_i2 (fun x y => x + y) (o_iald 0 (o_iast 0 (fun x => x) (o_iinc 4 1 (o_jmp 1)))))))))))))))) (o_vret))))
    refine gk_iload h (by decide +kernel) ?_
    refine gk_iload_n (j := 1) h (by decide +kernel) rfl ?_
    refine gk_icmpge (off := 25) (tgt := 31) h (by decide +kernel) (by decide) ?_ ?_
    · exact gk_vret h hR (by decide +kernel)
    · refine gk_aload_n (j := 0) h (by decide +kernel) rfl ?_
      refine gk_iload_n (j := 1) h (by decide +kernel) rfl ?_
      refine gk_iload_n (j := 3) h (by decide +kernel) rfl ?_
      refine gk_imul h (by decide +kernel) ?_
      refine gk_iload h (by decide +kernel) ?_
      refine gk_iadd h (by decide +kernel) ?_
      refine gk_aload_n (j := 0) h (by decide +kernel) rfl ?_
      refine gk_iload_n (j := 1) h (by decide +kernel) rfl ?_
      refine gk_iload_n (j := 2) h (by decide +kernel) rfl ?_
      refine gk_imul h (by decide +kernel) ?_
      refine gk_iload h (by decide +kernel) ?_
      refine gk_iadd h (by decide +kernel) ?_
      refine gk_ald0 h (by decide +kernel) ?_
      refine gk_ast0 h (by decide +kernel) ?_
      refine gk_iinc (z := 1) h (by decide +kernel) (by decide) hxn (by decide) ?_
      refine gk_goto (off := (-25)) (tgt := 3) h (by decide +kernel) (by decide) ?_
      exact gk_jmp 1 rfl
  | _ + 2 => exact fun _ _ _ hr => hr.elim
