set_option maxRecDepth 20000 in
set_option maxHeartbeats 4000000 in
theorem s_173 : MS mtab yX9_now cX9_now 1 (some .int) Q173 P173 := by
  intro X orc d h hR hnm hxn ho hrd b
  match b with
  | 0 =>
    show GK X Q173 0 (o_aload 0 (o_vV orc 170 1 8 (o_aload 0 (o_iconst 0 (o_iconst 64 (o_vV orc 169 3 8 (o_aload 0 (o_iconst 64 (o_vI orc 172 2 8 (o_iret))))))))))
    refine gk_aload_n (j := 0) h (by decide +kernel) rfl ?_
    refine gk_vV (ca_v (idx := 364) h ho hm_170 (rd_le hrd (by decide)) ck_8 (by decide +kernel) kw_1350 kw_1352 kw_79 kw_101 kw_1353 rfl (by decide +kernel) (by decide)) ?_
    refine gk_aload_n (j := 0) h (by decide +kernel) rfl ?_
    refine gk_iconst (n := 0) h (by decide +kernel) (by decide) ?_
    refine gk_bipush (n := 64) h (by decide +kernel) (by decide) ?_
    refine gk_vV (ca_v (idx := 354) h ho hm_169 (rd_le hrd (by decide)) ck_8 (by decide +kernel) kw_1354 kw_1356 kw_80 kw_101 kw_1357 rfl (by decide +kernel) (by decide)) ?_
    refine gk_aload_n (j := 0) h (by decide +kernel) rfl ?_
    refine gk_bipush (n := 64) h (by decide +kernel) (by decide) ?_
    refine gk_vI (ca_v (idx := 357) h ho hm_172 (rd_le hrd (by decide)) ck_8 (by decide +kernel) kw_1358 kw_1360 kw_81 kw_101 kw_1361 rfl (by decide +kernel) (by decide)) ?_
    exact gk_iret h hR (by decide +kernel)
  | _ + 1 => exact fun _ _ _ hr => hr.elim
set_option maxRecDepth 20000 in
set_option maxHeartbeats 4000000 in
theorem s_174 : MS mtab yX9_pays cX9_pays 1 (some .int) Q174 P174 := by
  intro X orc d h hR hnm hxn ho hrd b
  match b with
  | 0 =>
    show GK X Q174 0 (o_aload 0 (o_iconst 0 (o_putI 8 0 (o_aload 0 (o_vI orc 165 1 8 (o_if0 (o_iconst (-1) (o_iret)) (o_aload 0 (o_getR 8 42 (o_aload 0 (o_vI orc 173 1 8 (o_iald 3 (o_iconst 1 (o_i2 (fun x y => x - y) (o_iret))))))))))))))
    refine gk_aload_n (j := 0) h (by decide +kernel) rfl ?_
    refine gk_iconst (n := 0) h (by decide +kernel) (by decide) ?_
    refine gk_putI (i := 116) h ck_8 (by decide) rfl (Or.inl rfl) (by decide +kernel) kw_1005 ?_
    refine gk_aload_n (j := 0) h (by decide +kernel) rfl ?_
    refine gk_vI (ca_v (idx := 367) h ho hm_165 (rd_le hrd (by decide)) ck_8 (by decide +kernel) kw_1342 kw_1344 kw_77 kw_101 kw_1345 rfl (by decide +kernel) (by decide)) ?_
    refine gk_ifeq (off := 17) (tgt := 26) h (by decide +kernel) (by decide) ?_ ?_
    · refine gk_iconst (n := (-1)) h (by decide +kernel) (by decide) ?_
      exact gk_iret h hR (by decide +kernel)
    · refine gk_aload_n (j := 0) h (by decide +kernel) rfl ?_
      refine gk_getR (i := 88) h ck_8 (by decide) (fun _ _ _ => rfl) (by decide +kernel) kw_1047 ?_
      refine gk_aload_n (j := 0) h (by decide +kernel) rfl ?_
      refine gk_vI (ca_v (idx := 370) h ho hm_173 (rd_le hrd (by decide)) ck_8 (by decide +kernel) kw_1346 kw_1348 kw_78 kw_101 kw_1349 rfl (by decide +kernel) (by decide)) ?_
      refine gk_ald3 h (by decide +kernel) ?_
      refine gk_iconst (n := 1) h (by decide +kernel) (by decide) ?_
      refine gk_isub h (by decide +kernel) ?_
      refine gk_goto (off := 4) (tgt := 27) h (by decide +kernel) (by decide) ?_
      exact gk_iret h hR (by decide +kernel)
  | _ + 1 => exact fun _ _ _ hr => hr.elim
set_option maxRecDepth 20000 in
set_option maxHeartbeats 4000000 in
theorem s_175 : MS mtab yX9_days cX9_days 1 (some .int) Q175 P175 := by
  intro X orc d h hR hnm hxn ho hrd b
  match b with
  | 0 =>
    show GK X Q175 0 (o_aload 0 (o_iconst 0 (o_putI 8 0 (o_aload 0 (o_vI orc 165 1 8 (o_if0 (o_iconst (-1) (o_iret)) (o_aload 0 (o_getR 8 43 (o_aload 0 (o_vI orc 173 1 8 (o_iald 3 (o_iret))))))))))))
    refine gk_aload_n (j := 0) h (by decide +kernel) rfl ?_
    refine gk_iconst (n := 0) h (by decide +kernel) (by decide) ?_
    refine gk_putI (i := 116) h ck_8 (by decide) rfl (Or.inl rfl) (by decide +kernel) kw_1005 ?_
    refine gk_aload_n (j := 0) h (by decide +kernel) rfl ?_
    refine gk_vI (ca_v (idx := 367) h ho hm_165 (rd_le hrd (by decide)) ck_8 (by decide +kernel) kw_1342 kw_1344 kw_77 kw_101 kw_1345 rfl (by decide +kernel) (by decide)) ?_
    refine gk_ifeq (off := 15) (tgt := 24) h (by decide +kernel) (by decide) ?_ ?_
    · refine gk_iconst (n := (-1)) h (by decide +kernel) (by decide) ?_
      exact gk_iret h hR (by decide +kernel)
    · refine gk_aload_n (j := 0) h (by decide +kernel) rfl ?_
      refine gk_getR (i := 92) h ck_8 (by decide) (fun _ _ _ => rfl) (by decide +kernel) kw_1048 ?_
      refine gk_aload_n (j := 0) h (by decide +kernel) rfl ?_
      refine gk_vI (ca_v (idx := 370) h ho hm_173 (rd_le hrd (by decide)) ck_8 (by decide +kernel) kw_1346 kw_1348 kw_78 kw_101 kw_1349 rfl (by decide +kernel) (by decide)) ?_
      refine gk_ald3 h (by decide +kernel) ?_
      refine gk_goto (off := 4) (tgt := 25) h (by decide +kernel) (by decide) ?_
      exact gk_iret h hR (by decide +kernel)
  | _ + 1 => exact fun _ _ _ hr => hr.elim
set_option maxRecDepth 20000 in
set_option maxHeartbeats 4000000 in
theorem s_176 : MS mtab yX9_behind cX9_behind 2 (some .int) Q176 P176 := by
  intro X orc d h hR hnm hxn ho hrd b
  match b with
  | 0 =>
    show GK X Q176 0 (o_aload 0 (o_vV orc 170 1 8 (o_aload 0 (o_getR 8 36 (o_iconst 43 (o_iald 0 (o_ifp (o_iconst (-1) (o_iret)) (o_aload 0 (o_iconst 0 (o_iload 1 (o_vI orc 152 3 8 (o_if0 (o_iconst (-1) (o_iret)) (o_aload 0 (o_iconst 0 (o_iconst 64 (o_vV orc 169 3 8 (o_aload 0 (o_iconst 64 (o_aload 0 (o_getI 8 39 (o_aload 0 (o_getI 8 40 (o_aload 0 (o_getI 8 41 (o_vV orc 154 5 8 (o_aload 0 (o_iconst 64 (o_vI orc 172 2 8 (o_iret)))))))))))))))))))))))))))))
    refine gk_aload_n (j := 0) h (by decide +kernel) rfl ?_
    refine gk_vV (ca_v (idx := 364) h ho hm_170 (rd_le hrd (by decide)) ck_8 (by decide +kernel) kw_1350 kw_1352 kw_79 kw_101 kw_1353 rfl (by decide +kernel) (by decide)) ?_
    refine gk_aload_n (j := 0) h (by decide +kernel) rfl ?_
    refine gk_getR (i := 81) h ck_8 (by decide) (fun _ _ _ => rfl) (by decide +kernel) kw_1041 ?_
    refine gk_bipush (n := 43) h (by decide +kernel) (by decide) ?_
    refine gk_ald0 h (by decide +kernel) ?_
    refine gk_ifgt (off := 12) (tgt := 23) h (by decide +kernel) (by decide) ?_ ?_
    · refine gk_iconst (n := (-1)) h (by decide +kernel) (by decide) ?_
      exact gk_iret h hR (by decide +kernel)
    · refine gk_aload_n (j := 0) h (by decide +kernel) rfl ?_
      refine gk_iconst (n := 0) h (by decide +kernel) (by decide) ?_
      refine gk_iload_n (j := 1) h (by decide +kernel) rfl ?_
      refine gk_vI (ca_v (idx := 345) h ho hm_152 (rd_le hrd (by decide)) ck_8 (by decide +kernel) kw_1334 kw_1336 kw_76 kw_101 kw_1337 rfl (by decide +kernel) (by decide)) ?_
      refine gk_ifne (off := 5) (tgt := 25) h (by decide +kernel) (by decide) ?_ ?_
      · refine gk_aload_n (j := 0) h (by decide +kernel) rfl ?_
        refine gk_iconst (n := 0) h (by decide +kernel) (by decide) ?_
        refine gk_bipush (n := 64) h (by decide +kernel) (by decide) ?_
        refine gk_vV (ca_v (idx := 354) h ho hm_169 (rd_le hrd (by decide)) ck_8 (by decide +kernel) kw_1354 kw_1356 kw_80 kw_101 kw_1357 rfl (by decide +kernel) (by decide)) ?_
        refine gk_aload_n (j := 0) h (by decide +kernel) rfl ?_
        refine gk_bipush (n := 64) h (by decide +kernel) (by decide) ?_
        refine gk_aload_n (j := 0) h (by decide +kernel) rfl ?_
        refine gk_getI (i := 305) h ck_8 (by decide) (fun _ _ _ => rfl) (by decide +kernel) kw_1044 ?_
        refine gk_aload_n (j := 0) h (by decide +kernel) rfl ?_
        refine gk_getI (i := 308) h ck_8 (by decide) (fun _ _ _ => rfl) (by decide +kernel) kw_1045 ?_
        refine gk_aload_n (j := 0) h (by decide +kernel) rfl ?_
        refine gk_getI (i := 311) h ck_8 (by decide) (fun _ _ _ => rfl) (by decide +kernel) kw_1046 ?_
        refine gk_vV (ca_v (idx := 336) h ho hm_154 (rd_le hrd (by decide)) ck_8 (by decide +kernel) kw_1278 kw_1280 kw_68 kw_101 kw_1281 rfl (by decide +kernel) (by decide)) ?_
        refine gk_aload_n (j := 0) h (by decide +kernel) rfl ?_
        refine gk_bipush (n := 64) h (by decide +kernel) (by decide) ?_
        refine gk_vI (ca_v (idx := 357) h ho hm_172 (rd_le hrd (by decide)) ck_8 (by decide +kernel) kw_1358 kw_1360 kw_81 kw_101 kw_1361 rfl (by decide +kernel) (by decide)) ?_
        exact gk_iret h hR (by decide +kernel)
      · refine gk_iconst (n := (-1)) h (by decide +kernel) (by decide) ?_
        exact gk_iret h hR (by decide +kernel)
  | _ + 1 => exact fun _ _ _ hr => hr.elim
set_option maxRecDepth 20000 in
set_option maxHeartbeats 4000000 in
theorem s_177 : MS mtab yX9_best cX9_best 4 (some .int) Q177 P177 := by
  intro X orc d h hR hnm hxn ho hrd b
  match b with
  | 0 =>
    show GK X Q177 0 (o_aload 0 (o_iconst 0 (o_putI 8 0 (o_aload 0 (o_vI orc 165 1 8 (o_if0 (o_iconst (-1) (o_iret)) (o_aload 0 (o_getR 8 36 (o_iconst 43 (o_iald 0 (o_ifp (o_iconst (-1) (o_iret)) (o_aload 0 (o_vI orc 173 1 8 (o_istore 1 (o_iconst 0 (o_istore 2 (o_jmp 1)))))))))))))))))
    refine gk_aload_n (j := 0) h (by decide +kernel) rfl ?_
    refine gk_iconst (n := 0) h (by decide +kernel) (by decide) ?_
    refine gk_putI (i := 116) h ck_8 (by decide) rfl (Or.inl rfl) (by decide +kernel) kw_1005 ?_
    refine gk_aload_n (j := 0) h (by decide +kernel) rfl ?_
    refine gk_vI (ca_v (idx := 367) h ho hm_165 (rd_le hrd (by decide)) ck_8 (by decide +kernel) kw_1342 kw_1344 kw_77 kw_101 kw_1345 rfl (by decide +kernel) (by decide)) ?_
    refine gk_ifeq (off := 13) (tgt := 22) h (by decide +kernel) (by decide) ?_ ?_
    · refine gk_iconst (n := (-1)) h (by decide +kernel) (by decide) ?_
      exact gk_iret h hR (by decide +kernel)
    · refine gk_aload_n (j := 0) h (by decide +kernel) rfl ?_
      refine gk_getR (i := 81) h ck_8 (by decide) (fun _ _ _ => rfl) (by decide +kernel) kw_1041 ?_
      refine gk_bipush (n := 43) h (by decide +kernel) (by decide) ?_
      refine gk_ald0 h (by decide +kernel) ?_
      refine gk_ifle (off := 5) (tgt := 24) h (by decide +kernel) (by decide) ?_ ?_
      · refine gk_aload_n (j := 0) h (by decide +kernel) rfl ?_
        refine gk_vI (ca_v (idx := 370) h ho hm_173 (rd_le hrd (by decide)) ck_8 (by decide +kernel) kw_1346 kw_1348 kw_78 kw_101 kw_1349 rfl (by decide +kernel) (by decide)) ?_
        refine gk_istore_n (j := 1) h (by decide +kernel) rfl hxn (by decide) ?_
        refine gk_iconst (n := 0) h (by decide +kernel) (by decide) ?_
        refine gk_istore_n (j := 2) h (by decide +kernel) rfl hxn (by decide) ?_
        exact gk_jmp 1 rfl
      · refine gk_iconst (n := (-1)) h (by decide +kernel) (by decide) ?_
        exact gk_iret h hR (by decide +kernel)
  | 1 =>
    show GK X Q177 31 (o_aload 0 (o_iload 2 (o_vI orc 176 2 8 (o_istore 3 (o_aload 0 (o_getR 8 42 (o_iload 3 (o_iald 3 (o_aload 0 (o_getR 8 42 (o_iload 1 (o_iald 3 (o_ieq (o_aload 0 (o_getR 8 43 (o_iload 3 (o_iald 3 (o_iconst 1 (o_i2 (fun x y => x + y) (o_aload 0 (o_getR 8 43 (o_iload 1 (o_iald 3 (o_ieq (o_iload 2 (o_iret)) (o_jmp 2)))))))))))) (o_jmp 2))))))))))))))
    refine gk_aload_n (j := 0) h (by decide +kernel) rfl ?_
    refine gk_iload_n (j := 2) h (by decide +kernel) rfl ?_
    refine gk_vI (ca_v (idx := 373) h ho hm_176 (rd_le hrd (by decide)) ck_8 (by decide +kernel) kw_1381 kw_1383 kw_84 kw_101 kw_1384 rfl (by decide +kernel) (by decide)) ?_
    refine gk_istore_n (j := 3) h (by decide +kernel) rfl hxn (by decide) ?_
    refine gk_aload_n (j := 0) h (by decide +kernel) rfl ?_
    refine gk_getR (i := 88) h ck_8 (by decide) (fun _ _ _ => rfl) (by decide +kernel) kw_1047 ?_
    refine gk_iload_n (j := 3) h (by decide +kernel) rfl ?_
    refine gk_ald3 h (by decide +kernel) ?_
    refine gk_aload_n (j := 0) h (by decide +kernel) rfl ?_
    refine gk_getR (i := 88) h ck_8 (by decide) (fun _ _ _ => rfl) (by decide +kernel) kw_1047 ?_
    refine gk_iload_n (j := 1) h (by decide +kernel) rfl ?_
    refine gk_ald3 h (by decide +kernel) ?_
    refine gk_icmpne (off := 22) (tgt := 71) h (by decide +kernel) (by decide) ?_ ?_
    · exact gk_jmp 2 rfl
    · refine gk_aload_n (j := 0) h (by decide +kernel) rfl ?_
      refine gk_getR (i := 92) h ck_8 (by decide) (fun _ _ _ => rfl) (by decide +kernel) kw_1048 ?_
      refine gk_iload_n (j := 3) h (by decide +kernel) rfl ?_
      refine gk_ald3 h (by decide +kernel) ?_
      refine gk_iconst (n := 1) h (by decide +kernel) (by decide) ?_
      refine gk_iadd h (by decide +kernel) ?_
      refine gk_aload_n (j := 0) h (by decide +kernel) rfl ?_
      refine gk_getR (i := 92) h ck_8 (by decide) (fun _ _ _ => rfl) (by decide +kernel) kw_1048 ?_
      refine gk_iload_n (j := 1) h (by decide +kernel) rfl ?_
      refine gk_ald3 h (by decide +kernel) ?_
      refine gk_icmpne (off := 5) (tgt := 71) h (by decide +kernel) (by decide) ?_ ?_
      · exact gk_jmp 2 rfl
      · refine gk_iload_n (j := 2) h (by decide +kernel) rfl ?_
        exact gk_iret h hR (by decide +kernel)
  | 2 =>
    show GK X Q177 71 (o_iinc 2 1 (o_jmp 1))
    refine gk_iinc (z := 1) h (by decide +kernel) (by decide) hxn (by decide) ?_
    refine gk_goto (off := (-43)) (tgt := 31) h (by decide +kernel) (by decide) ?_
    exact gk_jmp 1 rfl
  | _ + 3 => exact fun _ _ _ hr => hr.elim
set_option maxRecDepth 20000 in
set_option maxHeartbeats 4000000 in
theorem s_178 : MS mtab yX9_holds cX9_holds 3 (some .int) Q178 P178 := by
  intro X orc d h hR hnm hxn ho hrd b
  match b with
  | 0 =>
    show GK X Q178 0 (o_aload 0 (o_iconst 0 (o_putI 8 0 (o_aload 0 (o_vI orc 165 1 8 (o_if0 (o_iconst (-1) (o_iret)) (o_aload 0 (o_iload 1 (o_vI orc 176 2 8 (o_istore 2 (o_iload 2 (o_ifn (o_iconst (-1) (o_iret)) (o_aload 0 (o_getR 8 43 (o_iload 2 (o_iald 3 (o_iconst 1 (o_i2 (fun x y => x + y) (o_iret)))))))))))))))))))
    refine gk_aload_n (j := 0) h (by decide +kernel) rfl ?_
    refine gk_iconst (n := 0) h (by decide +kernel) (by decide) ?_
    refine gk_putI (i := 116) h ck_8 (by decide) rfl (Or.inl rfl) (by decide +kernel) kw_1005 ?_
    refine gk_aload_n (j := 0) h (by decide +kernel) rfl ?_
    refine gk_vI (ca_v (idx := 367) h ho hm_165 (rd_le hrd (by decide)) ck_8 (by decide +kernel) kw_1342 kw_1344 kw_77 kw_101 kw_1345 rfl (by decide +kernel) (by decide)) ?_
    refine gk_ifne (off := 5) (tgt := 14) h (by decide +kernel) (by decide) ?_ ?_
    · refine gk_aload_n (j := 0) h (by decide +kernel) rfl ?_
      refine gk_iload_n (j := 1) h (by decide +kernel) rfl ?_
      refine gk_vI (ca_v (idx := 373) h ho hm_176 (rd_le hrd (by decide)) ck_8 (by decide +kernel) kw_1381 kw_1383 kw_84 kw_101 kw_1384 rfl (by decide +kernel) (by decide)) ?_
      refine gk_istore_n (j := 2) h (by decide +kernel) rfl hxn (by decide) ?_
      refine gk_iload_n (j := 2) h (by decide +kernel) rfl ?_
      refine gk_ifge (off := 7) (tgt := 28) h (by decide +kernel) (by decide) ?_ ?_
      · refine gk_aload_n (j := 0) h (by decide +kernel) rfl ?_
        refine gk_getR (i := 92) h ck_8 (by decide) (fun _ _ _ => rfl) (by decide +kernel) kw_1048 ?_
        refine gk_iload_n (j := 2) h (by decide +kernel) rfl ?_
        refine gk_ald3 h (by decide +kernel) ?_
        refine gk_iconst (n := 1) h (by decide +kernel) (by decide) ?_
        refine gk_iadd h (by decide +kernel) ?_
        exact gk_iret h hR (by decide +kernel)
      · refine gk_iconst (n := (-1)) h (by decide +kernel) (by decide) ?_
        refine gk_goto (off := 11) (tgt := 36) h (by decide +kernel) (by decide) ?_
        exact gk_iret h hR (by decide +kernel)
    · refine gk_iconst (n := (-1)) h (by decide +kernel) (by decide) ?_
      exact gk_iret h hR (by decide +kernel)
  | _ + 1 => exact fun _ _ _ hr => hr.elim
set_option maxRecDepth 20000 in
set_option maxHeartbeats 4000000 in
theorem s_179 : MS mtab yX9_ruled cX9_ruled 7 (some .int) Q179 P179 := by
  intro X orc d h hR hnm hxn ho hrd b
  match b with
  | 0 =>
    show GK X Q179 0 (o_iconst (-1) (o_istore 3 (o_iconst 0 (o_istore 4 (o_aload 0 (o_iload 1 (o_iconst (-1) (o_vI orc 149 3 8 (o_istore 5 (o_jmp 1))))))))))
    refine gk_iconst (n := (-1)) h (by decide +kernel) (by decide) ?_
    refine gk_istore_n (j := 3) h (by decide +kernel) rfl hxn (by decide) ?_
    refine gk_iconst (n := 0) h (by decide +kernel) (by decide) ?_
    refine gk_istore h (by decide +kernel) hxn (by decide) ?_
    refine gk_aload_n (j := 0) h (by decide +kernel) rfl ?_
    refine gk_iload_n (j := 1) h (by decide +kernel) rfl ?_
    refine gk_iconst (n := (-1)) h (by decide +kernel) (by decide) ?_
    refine gk_vI (ca_v (idx := 322) h ho hm_149 (rd_le hrd (by decide)) ck_8 (by decide +kernel) kw_974 kw_976 kw_43 kw_101 kw_977 rfl (by decide +kernel) (by decide)) ?_
    refine gk_istore h (by decide +kernel) hxn (by decide) ?_
    exact gk_jmp 1 rfl
  | 1 =>
    show GK X Q179 13 (o_iload 5 (o_ifn (o_iload 3 (o_iret)) (o_aload 0 (o_getR 8 36 (o_iload 1 (o_aload 0 (o_getI 8 40 (o_i2 (fun x y => x + y) (o_iald 0 (o_istore 6 (o_iload 3 (o_ifn (o_jmp 2) (o_iload 2 (o_iconst 1 (o_ieq (o_jmp 2) (o_iload 2 (o_if0 (o_jmp 3) (o_iload 6 (o_iload 4 (o_ilt (o_jmp 2) (o_jmp 3)))))))))))))))))))))
    refine gk_iload h (by decide +kernel) ?_
    refine gk_iflt (off := 58) (tgt := 73) h (by decide +kernel) (by decide) ?_ ?_
    · refine gk_iload_n (j := 3) h (by decide +kernel) rfl ?_
      exact gk_iret h hR (by decide +kernel)
    · refine gk_aload_n (j := 0) h (by decide +kernel) rfl ?_
      refine gk_getR (i := 81) h ck_8 (by decide) (fun _ _ _ => rfl) (by decide +kernel) kw_1041 ?_
      refine gk_iload_n (j := 1) h (by decide +kernel) rfl ?_
      refine gk_aload_n (j := 0) h (by decide +kernel) rfl ?_
      refine gk_getI (i := 308) h ck_8 (by decide) (fun _ _ _ => rfl) (by decide +kernel) kw_1045 ?_
      refine gk_iadd h (by decide +kernel) ?_
      refine gk_ald0 h (by decide +kernel) ?_
      refine gk_istore h (by decide +kernel) hxn (by decide) ?_
      refine gk_iload_n (j := 3) h (by decide +kernel) rfl ?_
      refine gk_iflt (off := 22) (tgt := 54) h (by decide +kernel) (by decide) ?_ ?_
      · exact gk_jmp 2 rfl
      · refine gk_iload_n (j := 2) h (by decide +kernel) rfl ?_
        refine gk_iconst (n := 1) h (by decide +kernel) (by decide) ?_
        refine gk_icmpeq (off := 17) (tgt := 54) h (by decide +kernel) (by decide) ?_ ?_
        · exact gk_jmp 2 rfl
        · refine gk_iload_n (j := 2) h (by decide +kernel) rfl ?_
          refine gk_ifeq (off := 20) (tgt := 61) h (by decide +kernel) (by decide) ?_ ?_
          · exact gk_jmp 3 rfl
          · refine gk_iload h (by decide +kernel) ?_
            refine gk_iload h (by decide +kernel) ?_
            refine gk_icmplt (off := 6) (tgt := 54) h (by decide +kernel) (by decide) ?_ ?_
            · exact gk_jmp 2 rfl
            · refine gk_goto (off := 10) (tgt := 61) h (by decide +kernel) (by decide) ?_
              exact gk_jmp 3 rfl
  | 2 =>
    show GK X Q179 54 (o_iload 5 (o_istore 3 (o_iload 6 (o_istore 4 (o_jmp 3)))))
    refine gk_iload h (by decide +kernel) ?_
    refine gk_istore_n (j := 3) h (by decide +kernel) rfl hxn (by decide) ?_
    refine gk_iload h (by decide +kernel) ?_
    refine gk_istore h (by decide +kernel) hxn (by decide) ?_
    exact gk_jmp 3 rfl
  | 3 =>
    show GK X Q179 61 (o_aload 0 (o_iload 1 (o_iload 5 (o_vI orc 149 3 8 (o_istore 5 (o_jmp 1))))))
    refine gk_aload_n (j := 0) h (by decide +kernel) rfl ?_
    refine gk_iload_n (j := 1) h (by decide +kernel) rfl ?_
    refine gk_iload h (by decide +kernel) ?_
    refine gk_vI (ca_v (idx := 322) h ho hm_149 (rd_le hrd (by decide)) ck_8 (by decide +kernel) kw_974 kw_976 kw_43 kw_101 kw_977 rfl (by decide +kernel) (by decide)) ?_
    refine gk_istore h (by decide +kernel) hxn (by decide) ?_
    refine gk_goto (off := (-57)) (tgt := 13) h (by decide +kernel) (by decide) ?_
    exact gk_jmp 1 rfl
  | _ + 4 => exact fun _ _ _ hr => hr.elim
set_option maxRecDepth 20000 in
set_option maxHeartbeats 4000000 in
theorem s_180 : MS mtab yX9_masons cX9_masons 11 (some .int) Q180 P180 := by
  intro X orc d h hR hnm hxn ho hrd b
  match b with
  | 0 =>
    show GK X Q180 0 (o_aload 0 (o_iload 1 (o_vI orc 167 2 8 (o_istore 4 (o_aload 0 (o_getR 8 45 (o_iload 4 (o_iald 3 (o_ifp (o_aload 0 (o_getR 8 45 (o_iload 4 (o_iald 3 (o_iret))))) (o_aload 0 (o_getR 8 36 (o_iload 1 (o_iconst 43 (o_i2 (fun x y => x + y) (o_iald 0 (o_istore 5 (o_aload 0 (o_getR 8 36 (o_iload 1 (o_iconst 42 (o_i2 (fun x y => x + y) (o_iald 0 (o_iload 2 (o_ieq (o_iconst 1 (o_jmp 1)) (o_iconst 0 (o_jmp 1))))))))))))))))))))))))))
    refine gk_aload_n (j := 0) h (by decide +kernel) rfl ?_
    refine gk_iload_n (j := 1) h (by decide +kernel) rfl ?_
    refine gk_vI (ca_v (idx := 351) h ho hm_167 (rd_le hrd (by decide)) ck_8 (by decide +kernel) kw_1362 kw_1364 kw_82 kw_101 kw_1365 rfl (by decide +kernel) (by decide)) ?_
    refine gk_istore h (by decide +kernel) hxn (by decide) ?_
    refine gk_aload_n (j := 0) h (by decide +kernel) rfl ?_
    refine gk_getR (i := 95) h ck_8 (by decide) (fun _ _ _ => rfl) (by decide +kernel) kw_1050 ?_
    refine gk_iload h (by decide +kernel) ?_
    refine gk_ald3 h (by decide +kernel) ?_
    refine gk_ifle (off := 11) (tgt := 25) h (by decide +kernel) (by decide) ?_ ?_
    · refine gk_aload_n (j := 0) h (by decide +kernel) rfl ?_
      refine gk_getR (i := 81) h ck_8 (by decide) (fun _ _ _ => rfl) (by decide +kernel) kw_1041 ?_
      refine gk_iload_n (j := 1) h (by decide +kernel) rfl ?_
      refine gk_bipush (n := 43) h (by decide +kernel) (by decide) ?_
      refine gk_iadd h (by decide +kernel) ?_
      refine gk_ald0 h (by decide +kernel) ?_
      refine gk_istore h (by decide +kernel) hxn (by decide) ?_
      refine gk_aload_n (j := 0) h (by decide +kernel) rfl ?_
      refine gk_getR (i := 81) h ck_8 (by decide) (fun _ _ _ => rfl) (by decide +kernel) kw_1041 ?_
      refine gk_iload_n (j := 1) h (by decide +kernel) rfl ?_
      refine gk_bipush (n := 42) h (by decide +kernel) (by decide) ?_
      refine gk_iadd h (by decide +kernel) ?_
      refine gk_ald0 h (by decide +kernel) ?_
      refine gk_iload_n (j := 2) h (by decide +kernel) rfl ?_
      refine gk_icmpne (off := 7) (tgt := 53) h (by decide +kernel) (by decide) ?_ ?_
      · refine gk_iconst (n := 0) h (by decide +kernel) (by decide) ?_
        exact gk_jmp 1 rfl
      · refine gk_iconst (n := 1) h (by decide +kernel) (by decide) ?_
        refine gk_goto (off := 4) (tgt := 54) h (by decide +kernel) (by decide) ?_
        exact gk_jmp 1 rfl
    · refine gk_aload_n (j := 0) h (by decide +kernel) rfl ?_
      refine gk_getR (i := 95) h ck_8 (by decide) (fun _ _ _ => rfl) (by decide +kernel) kw_1050 ?_
      refine gk_iload h (by decide +kernel) ?_
      refine gk_ald3 h (by decide +kernel) ?_
      exact gk_iret h hR (by decide +kernel)
  | 1 =>
    show GK X Q180 54 (o_istore 6 (o_iload 6 (o_if0 (o_jmp 2) (o_iload 5 (o_if0 (o_aload 0 (o_iload 1 (o_iload 3 (o_vI orc 179 3 8 (o_jmp 3))))) (o_jmp 2))))))
    refine gk_istore h (by decide +kernel) hxn (by decide) ?_
    refine gk_iload h (by decide +kernel) ?_
    refine gk_ifeq (off := 17) (tgt := 75) h (by decide +kernel) (by decide) ?_ ?_
    · exact gk_jmp 2 rfl
    · refine gk_iload h (by decide +kernel) ?_
      refine gk_ifne (off := 12) (tgt := 75) h (by decide +kernel) (by decide) ?_ ?_
      · exact gk_jmp 2 rfl
      · refine gk_aload_n (j := 0) h (by decide +kernel) rfl ?_
        refine gk_iload_n (j := 1) h (by decide +kernel) rfl ?_
        refine gk_iload_n (j := 3) h (by decide +kernel) rfl ?_
        refine gk_vI (ca_v (idx := 376) h ho hm_179 (rd_le hrd (by decide)) ck_8 (by decide +kernel) kw_1397 kw_1399 kw_86 kw_101 kw_1400 rfl (by decide +kernel) (by decide)) ?_
        refine gk_goto (off := 4) (tgt := 76) h (by decide +kernel) (by decide) ?_
        exact gk_jmp 3 rfl
  | 2 =>
    show GK X Q180 75 (o_iconst (-1) (o_jmp 3))
    refine gk_iconst (n := (-1)) h (by decide +kernel) (by decide) ?_
    exact gk_jmp 3 rfl
  | 3 =>
    show GK X Q180 76 (o_istore 7 (o_iload 5 (o_ifp (o_iconst (-1) (o_jmp 4)) (o_iload 6 (o_if0 (o_aload 0 (o_iload 1 (o_iconst (-1) (o_vI orc 149 3 8 (o_jmp 4))))) (o_aload 0 (o_iload 1 (o_iload 7 (o_iconst 1 (o_i2 (fun x y => x - y) (o_vI orc 149 3 8 (o_jmp 4))))))))))))
    refine gk_istore h (by decide +kernel) hxn (by decide) ?_
    refine gk_iload h (by decide +kernel) ?_
    refine gk_ifle (off := 7) (tgt := 87) h (by decide +kernel) (by decide) ?_ ?_
    · refine gk_iload h (by decide +kernel) ?_
      refine gk_ifeq (off := 15) (tgt := 104) h (by decide +kernel) (by decide) ?_ ?_
      · refine gk_aload_n (j := 0) h (by decide +kernel) rfl ?_
        refine gk_iload_n (j := 1) h (by decide +kernel) rfl ?_
        refine gk_iconst (n := (-1)) h (by decide +kernel) (by decide) ?_
        refine gk_vI (ca_v (idx := 322) h ho hm_149 (rd_le hrd (by decide)) ck_8 (by decide +kernel) kw_974 kw_976 kw_43 kw_101 kw_977 rfl (by decide +kernel) (by decide)) ?_
        exact gk_jmp 4 rfl
      · refine gk_aload_n (j := 0) h (by decide +kernel) rfl ?_
        refine gk_iload_n (j := 1) h (by decide +kernel) rfl ?_
        refine gk_iload h (by decide +kernel) ?_
        refine gk_iconst (n := 1) h (by decide +kernel) (by decide) ?_
        refine gk_isub h (by decide +kernel) ?_
        refine gk_vI (ca_v (idx := 322) h ho hm_149 (rd_le hrd (by decide)) ck_8 (by decide +kernel) kw_974 kw_976 kw_43 kw_101 kw_977 rfl (by decide +kernel) (by decide)) ?_
        refine gk_goto (off := 9) (tgt := 110) h (by decide +kernel) (by decide) ?_
        exact gk_jmp 4 rfl
    · refine gk_iconst (n := (-1)) h (by decide +kernel) (by decide) ?_
      refine gk_goto (off := 26) (tgt := 110) h (by decide +kernel) (by decide) ?_
      exact gk_jmp 4 rfl
  | 4 =>
    show GK X Q180 110 (o_istore 8 (o_jmp 5))
    refine gk_istore h (by decide +kernel) hxn (by decide) ?_
    exact gk_jmp 5 rfl
  | 5 =>
    show GK X Q180 112 (o_iload 8 (o_ifn (o_jmp 7) (o_iload 1 (o_iconst 64 (o_i2 (fun x y => x + y) (o_istore 9 (o_aload 0 (o_iload 1 (o_iload 9 (o_vV orc 169 3 8 (o_aload 0 (o_iload 9 (o_aload 0 (o_getI 8 39 (o_aload 0 (o_getI 8 40 (o_aload 0 (o_getI 8 41 (o_vV orc 154 5 8 (o_aload 0 (o_iload 9 (o_iload 2 (o_iload 3 (o_vI orc 180 4 8 (o_istore 10 (o_iload 5 (o_iconst 1 (o_iload 2 (o_i2 (fun x y => x + y) (o_ieq (o_iload 5 (o_jmp 6)) (o_iload 10 (o_jmp 6))))))))))))))))))))))))))))))))
    refine gk_iload h (by decide +kernel) ?_
    refine gk_iflt (off := 89) (tgt := 203) h (by decide +kernel) (by decide) ?_ ?_
    · exact gk_jmp 7 rfl
    · refine gk_iload_n (j := 1) h (by decide +kernel) rfl ?_
      refine gk_bipush (n := 64) h (by decide +kernel) (by decide) ?_
      refine gk_iadd h (by decide +kernel) ?_
      refine gk_istore h (by decide +kernel) hxn (by decide) ?_
      refine gk_aload_n (j := 0) h (by decide +kernel) rfl ?_
      refine gk_iload_n (j := 1) h (by decide +kernel) rfl ?_
      refine gk_iload h (by decide +kernel) ?_
      refine gk_vV (ca_v (idx := 354) h ho hm_169 (rd_le hrd (by decide)) ck_8 (by decide +kernel) kw_1354 kw_1356 kw_80 kw_101 kw_1357 rfl (by decide +kernel) (by decide)) ?_
      refine gk_aload_n (j := 0) h (by decide +kernel) rfl ?_
      refine gk_iload h (by decide +kernel) ?_
      refine gk_aload_n (j := 0) h (by decide +kernel) rfl ?_
      refine gk_getI (i := 305) h ck_8 (by decide) (fun _ _ _ => rfl) (by decide +kernel) kw_1044 ?_
      refine gk_aload_n (j := 0) h (by decide +kernel) rfl ?_
      refine gk_getI (i := 308) h ck_8 (by decide) (fun _ _ _ => rfl) (by decide +kernel) kw_1045 ?_
      refine gk_aload_n (j := 0) h (by decide +kernel) rfl ?_
      refine gk_getI (i := 311) h ck_8 (by decide) (fun _ _ _ => rfl) (by decide +kernel) kw_1046 ?_
      refine gk_vV (ca_v (idx := 336) h ho hm_154 (rd_le hrd (by decide)) ck_8 (by decide +kernel) kw_1278 kw_1280 kw_68 kw_101 kw_1281 rfl (by decide +kernel) (by decide)) ?_
      refine gk_aload_n (j := 0) h (by decide +kernel) rfl ?_
      refine gk_iload h (by decide +kernel) ?_
      refine gk_iload_n (j := 2) h (by decide +kernel) rfl ?_
      refine gk_iload_n (j := 3) h (by decide +kernel) rfl ?_
      refine gk_vI (ca_v (idx := 379) h ho hm_180 (rd_le hrd (by decide)) ck_8 (by decide +kernel) kw_1393 kw_1395 kw_85 kw_101 kw_1396 rfl (by decide +kernel) (by decide)) ?_
      refine gk_istore h (by decide +kernel) hxn (by decide) ?_
      refine gk_iload h (by decide +kernel) ?_
      refine gk_iconst (n := 1) h (by decide +kernel) (by decide) ?_
      refine gk_iload_n (j := 2) h (by decide +kernel) rfl ?_
      refine gk_iadd h (by decide +kernel) ?_
      refine gk_icmpne (off := 8) (tgt := 171) h (by decide +kernel) (by decide) ?_ ?_
      · refine gk_iload h (by decide +kernel) ?_
        exact gk_jmp 6 rfl
      · refine gk_iload h (by decide +kernel) ?_
        refine gk_goto (off := 5) (tgt := 173) h (by decide +kernel) (by decide) ?_
        exact gk_jmp 6 rfl
  | 6 =>
    show GK X Q180 173 (o_istore 5 (o_iload 6 (o_if0 (o_iload 5 (o_iconst 1 (o_iload 2 (o_i2 (fun x y => x + y) (o_ieq (o_jmp 7) (o_aload 0 (o_iload 1 (o_iload 8 (o_vI orc 149 3 8 (o_istore 8 (o_jmp 5))))))))))) (o_jmp 7))))
    refine gk_istore h (by decide +kernel) hxn (by decide) ?_
    refine gk_iload h (by decide +kernel) ?_
    refine gk_ifne (off := 26) (tgt := 203) h (by decide +kernel) (by decide) ?_ ?_
    · exact gk_jmp 7 rfl
    · refine gk_iload h (by decide +kernel) ?_
      refine gk_iconst (n := 1) h (by decide +kernel) (by decide) ?_
      refine gk_iload_n (j := 2) h (by decide +kernel) rfl ?_
      refine gk_iadd h (by decide +kernel) ?_
      refine gk_icmpne (off := 6) (tgt := 191) h (by decide +kernel) (by decide) ?_ ?_
      · refine gk_aload_n (j := 0) h (by decide +kernel) rfl ?_
        refine gk_iload_n (j := 1) h (by decide +kernel) rfl ?_
        refine gk_iload h (by decide +kernel) ?_
        refine gk_vI (ca_v (idx := 322) h ho hm_149 (rd_le hrd (by decide)) ck_8 (by decide +kernel) kw_974 kw_976 kw_43 kw_101 kw_977 rfl (by decide +kernel) (by decide)) ?_
        refine gk_istore h (by decide +kernel) hxn (by decide) ?_
        refine gk_goto (off := (-88)) (tgt := 112) h (by decide +kernel) (by decide) ?_
        exact gk_jmp 5 rfl
      · refine gk_goto (off := 15) (tgt := 203) h (by decide +kernel) (by decide) ?_
        exact gk_jmp 7 rfl
  | 7 =>
    show GK X Q180 203 (o_aload 0 (o_getR 8 45 (o_iload 4 (o_iload 5 (o_i1 (fun x => x.toInt8.toInt32) (o_iast 3 (fun x => vp_nar .byte x) (o_iload 5 (o_iret))))))))
    refine gk_aload_n (j := 0) h (by decide +kernel) rfl ?_
    refine gk_getR (i := 95) h ck_8 (by decide) (fun _ _ _ => rfl) (by decide +kernel) kw_1050 ?_
    refine gk_iload h (by decide +kernel) ?_
    refine gk_iload h (by decide +kernel) ?_
    refine gk_i2b h (by decide +kernel) ?_
    refine gk_ast3 h (by decide +kernel) ?_
    refine gk_iload h (by decide +kernel) ?_
    exact gk_iret h hR (by decide +kernel)
  | _ + 8 => exact fun _ _ _ hr => hr.elim
set_option maxRecDepth 20000 in
set_option maxHeartbeats 4000000 in
theorem s_181 : MS mtab yX9_mason cX9_mason 4 (some .int) Q181 P181 := by
  intro X orc d h hR hnm hxn ho hrd b
  match b with
  | 0 =>
    show GK X Q181 0 (o_aload 0 (o_iconst 0 (o_putI 8 0 (o_iload 1 (o_iconst 0 (o_iconst 1 (o_sI orc 114 3 (o_if0 (o_iconst (-1) (o_iret)) (o_iload 2 (o_iconst 0 (o_iconst 2 (o_sI orc 114 3 (o_if0 (o_iconst (-1) (o_iret)) (o_aload 0 (o_vI orc 165 1 8 (o_if0 (o_iconst (-1) (o_iret)) (o_iconst 0 (o_istore 3 (o_jmp 1)))))))))))))))))))
    refine gk_aload_n (j := 0) h (by decide +kernel) rfl ?_
    refine gk_iconst (n := 0) h (by decide +kernel) (by decide) ?_
    refine gk_putI (i := 116) h ck_8 (by decide) rfl (Or.inl rfl) (by decide +kernel) kw_1005 ?_
    refine gk_iload_n (j := 1) h (by decide +kernel) rfl ?_
    refine gk_iconst (n := 0) h (by decide +kernel) (by decide) ?_
    refine gk_iconst (n := 1) h (by decide +kernel) (by decide) ?_
    refine gk_sI (ca_s (idx := 223) h ho hm_114 (rd_le hrd (by decide)) (by decide +kernel) kw_990 kw_991 kw_101 kw_992 (by decide +kernel)) ?_
    refine gk_ifeq (off := 19) (tgt := 30) h (by decide +kernel) (by decide) ?_ ?_
    · refine gk_iconst (n := (-1)) h (by decide +kernel) (by decide) ?_
      exact gk_iret h hR (by decide +kernel)
    · refine gk_iload_n (j := 2) h (by decide +kernel) rfl ?_
      refine gk_iconst (n := 0) h (by decide +kernel) (by decide) ?_
      refine gk_iconst (n := 2) h (by decide +kernel) (by decide) ?_
      refine gk_sI (ca_s (idx := 223) h ho hm_114 (rd_le hrd (by decide)) (by decide +kernel) kw_990 kw_991 kw_101 kw_992 (by decide +kernel)) ?_
      refine gk_ifeq (off := 10) (tgt := 30) h (by decide +kernel) (by decide) ?_ ?_
      · refine gk_iconst (n := (-1)) h (by decide +kernel) (by decide) ?_
        exact gk_iret h hR (by decide +kernel)
      · refine gk_aload_n (j := 0) h (by decide +kernel) rfl ?_
        refine gk_vI (ca_v (idx := 367) h ho hm_165 (rd_le hrd (by decide)) ck_8 (by decide +kernel) kw_1342 kw_1344 kw_77 kw_101 kw_1345 rfl (by decide +kernel) (by decide)) ?_
        refine gk_ifne (off := 5) (tgt := 32) h (by decide +kernel) (by decide) ?_ ?_
        · refine gk_iconst (n := 0) h (by decide +kernel) (by decide) ?_
          refine gk_istore_n (j := 3) h (by decide +kernel) rfl hxn (by decide) ?_
          exact gk_jmp 1 rfl
        · refine gk_iconst (n := (-1)) h (by decide +kernel) (by decide) ?_
          exact gk_iret h hR (by decide +kernel)
  | 1 =>
    show GK X Q181 34 (o_iload 3 (o_iconst 65536 (o_ilt (o_aload 0 (o_getR 8 45 (o_iload 3 (o_iconst 0 (o_iast 3 (fun x => vp_nar .byte x) (o_iinc 3 1 (o_jmp 1))))))) (o_aload 0 (o_iconst 0 (o_iconst 64 (o_vV orc 169 3 8 (o_aload 0 (o_iconst 64 (o_iload 1 (o_iload 2 (o_vI orc 180 4 8 (o_iconst 1 (o_i2 (fun x y => x - y) (o_iret)))))))))))))))
    refine gk_iload_n (j := 3) h (by decide +kernel) rfl ?_
    refine gk_ldc (i := 87) h (by decide +kernel) kw_953 ?_
    refine gk_icmpge (off := 16) (tgt := 53) h (by decide +kernel) (by decide) ?_ ?_
    · refine gk_aload_n (j := 0) h (by decide +kernel) rfl ?_
      refine gk_iconst (n := 0) h (by decide +kernel) (by decide) ?_
      refine gk_bipush (n := 64) h (by decide +kernel) (by decide) ?_
      refine gk_vV (ca_v (idx := 354) h ho hm_169 (rd_le hrd (by decide)) ck_8 (by decide +kernel) kw_1354 kw_1356 kw_80 kw_101 kw_1357 rfl (by decide +kernel) (by decide)) ?_
      refine gk_aload_n (j := 0) h (by decide +kernel) rfl ?_
      refine gk_bipush (n := 64) h (by decide +kernel) (by decide) ?_
      refine gk_iload_n (j := 1) h (by decide +kernel) rfl ?_
      refine gk_iload_n (j := 2) h (by decide +kernel) rfl ?_
      refine gk_vI (ca_v (idx := 379) h ho hm_180 (rd_le hrd (by decide)) ck_8 (by decide +kernel) kw_1393 kw_1395 kw_85 kw_101 kw_1396 rfl (by decide +kernel) (by decide)) ?_
      refine gk_iconst (n := 1) h (by decide +kernel) (by decide) ?_
      refine gk_isub h (by decide +kernel) ?_
      exact gk_iret h hR (by decide +kernel)
    · refine gk_aload_n (j := 0) h (by decide +kernel) rfl ?_
      refine gk_getR (i := 95) h ck_8 (by decide) (fun _ _ _ => rfl) (by decide +kernel) kw_1050 ?_
      refine gk_iload_n (j := 3) h (by decide +kernel) rfl ?_
      refine gk_iconst (n := 0) h (by decide +kernel) (by decide) ?_
      refine gk_ast3 h (by decide +kernel) ?_
      refine gk_iinc (z := 1) h (by decide +kernel) (by decide) hxn (by decide) ?_
      refine gk_goto (off := (-16)) (tgt := 34) h (by decide +kernel) (by decide) ?_
      exact gk_jmp 1 rfl
  | _ + 2 => exact fun _ _ _ hr => hr.elim
set_option maxRecDepth 20000 in
set_option maxHeartbeats 4000000 in
theorem s_182 : MS mtab yX9_goesOn cX9_goesOn 5 none Q182 P182 := by
  intro X orc d h hR hnm hxn ho hrd b
  match b with
  | 0 =>
    show GK X Q182 0 (o_iconst 0 (o_istore 2 (o_jmp 1)))
    refine gk_iconst (n := 0) h (by decide +kernel) (by decide) ?_
    refine gk_istore_n (j := 2) h (by decide +kernel) rfl hxn (by decide) ?_
    exact gk_jmp 1 rfl
  | 1 =>
    show GK X Q182 2 (o_iload 2 (o_iconst 65536 (o_ilt (o_aload 0 (o_getR 8 47 (o_iload 2 (o_iconst 0 (o_iast 0 (fun x => x) (o_iinc 2 1 (o_jmp 1))))))) (o_iconst 0 (o_istore 2 (o_jmp 2))))))
    refine gk_iload_n (j := 2) h (by decide +kernel) rfl ?_
    refine gk_ldc (i := 87) h (by decide +kernel) kw_953 ?_
    refine gk_icmpge (off := 16) (tgt := 21) h (by decide +kernel) (by decide) ?_ ?_
    · refine gk_iconst (n := 0) h (by decide +kernel) (by decide) ?_
      refine gk_istore_n (j := 2) h (by decide +kernel) rfl hxn (by decide) ?_
      exact gk_jmp 2 rfl
    · refine gk_aload_n (j := 0) h (by decide +kernel) rfl ?_
      refine gk_getR (i := 101) h ck_8 (by decide) (fun _ _ _ => rfl) (by decide +kernel) kw_1052 ?_
      refine gk_iload_n (j := 2) h (by decide +kernel) rfl ?_
      refine gk_iconst (n := 0) h (by decide +kernel) (by decide) ?_
      refine gk_ast0 h (by decide +kernel) ?_
      refine gk_iinc (z := 1) h (by decide +kernel) (by decide) hxn (by decide) ?_
      refine gk_goto (off := (-16)) (tgt := 2) h (by decide +kernel) (by decide) ?_
      exact gk_jmp 1 rfl
  | 2 =>
    show GK X Q182 23 (o_iload 2 (o_iconst 65536 (o_ilt (o_aload 0 (o_getR 8 46 (o_iload 2 (o_iald 0 (o_if0 (o_jmp 5) (o_aload 0 (o_iconst 64 (o_iload 2 (o_vV orc 168 3 8 (o_aload 0 (o_getR 8 36 (o_iconst 107 (o_iald 0 (o_ifp (o_jmp 5) (o_aload 0 (o_iconst 64 (o_iconst (-1) (o_vI orc 149 3 8 (o_istore 3 (o_jmp 3)))))))))))))))))))) (o_iconst 0 (o_istore 2 (o_jmp 6))))))
    refine gk_iload_n (j := 2) h (by decide +kernel) rfl ?_
    refine gk_ldc (i := 87) h (by decide +kernel) kw_953 ?_
    refine gk_icmpge (off := 137) (tgt := 163) h (by decide +kernel) (by decide) ?_ ?_
    · refine gk_iconst (n := 0) h (by decide +kernel) (by decide) ?_
      refine gk_istore_n (j := 2) h (by decide +kernel) rfl hxn (by decide) ?_
      exact gk_jmp 6 rfl
    · refine gk_aload_n (j := 0) h (by decide +kernel) rfl ?_
      refine gk_getR (i := 98) h ck_8 (by decide) (fun _ _ _ => rfl) (by decide +kernel) kw_1051 ?_
      refine gk_iload_n (j := 2) h (by decide +kernel) rfl ?_
      refine gk_ald0 h (by decide +kernel) ?_
      refine gk_ifne (off := 6) (tgt := 41) h (by decide +kernel) (by decide) ?_ ?_
      · refine gk_aload_n (j := 0) h (by decide +kernel) rfl ?_
        refine gk_bipush (n := 64) h (by decide +kernel) (by decide) ?_
        refine gk_iload_n (j := 2) h (by decide +kernel) rfl ?_
        refine gk_vV (ca_v (idx := 383) h ho hm_168 (rd_le hrd (by decide)) ck_8 (by decide +kernel) kw_1409 kw_1411 kw_88 kw_101 kw_1412 rfl (by decide +kernel) (by decide)) ?_
        refine gk_aload_n (j := 0) h (by decide +kernel) rfl ?_
        refine gk_getR (i := 81) h ck_8 (by decide) (fun _ _ _ => rfl) (by decide +kernel) kw_1041 ?_
        refine gk_bipush (n := 107) h (by decide +kernel) (by decide) ?_
        refine gk_ald0 h (by decide +kernel) ?_
        refine gk_ifle (off := 6) (tgt := 61) h (by decide +kernel) (by decide) ?_ ?_
        · refine gk_aload_n (j := 0) h (by decide +kernel) rfl ?_
          refine gk_bipush (n := 64) h (by decide +kernel) (by decide) ?_
          refine gk_iconst (n := (-1)) h (by decide +kernel) (by decide) ?_
          refine gk_vI (ca_v (idx := 322) h ho hm_149 (rd_le hrd (by decide)) ck_8 (by decide +kernel) kw_974 kw_976 kw_43 kw_101 kw_977 rfl (by decide +kernel) (by decide)) ?_
          refine gk_istore_n (j := 3) h (by decide +kernel) rfl hxn (by decide) ?_
          exact gk_jmp 3 rfl
        · refine gk_goto (off := 99) (tgt := 157) h (by decide +kernel) (by decide) ?_
          exact gk_jmp 5 rfl
      · refine gk_goto (off := 119) (tgt := 157) h (by decide +kernel) (by decide) ?_
        exact gk_jmp 5 rfl
  | 3 =>
    show GK X Q182 69 (o_iload 3 (o_ifn (o_jmp 5) (o_aload 0 (o_iconst 64 (o_iconst 128 (o_vV orc 169 3 8 (o_aload 0 (o_iconst 128 (o_aload 0 (o_getI 8 39 (o_aload 0 (o_getI 8 40 (o_aload 0 (o_getI 8 41 (o_vV orc 154 5 8 (o_aload 0 (o_iconst 128 (o_vI orc 167 2 8 (o_istore 4 (o_aload 0 (o_getR 8 47 (o_iload 4 (o_iload 1 (o_if0 (o_iconst 1 (o_jmp 4)) (o_aload 0 (o_getR 8 47 (o_iload 4 (o_iald 0 (o_i2l (o_aload 0 (o_getR 8 46 (o_iload 2 (o_iald 0 (o_i2l (o_l2 (fun x y => x + y) (o_lconst 1000000007 (o_l2z (fun x y => x - x / y * y) (o_l2i (o_jmp 4)))))))))))))))))))))))))))))))))))))))
    refine gk_iload_n (j := 3) h (by decide +kernel) rfl ?_
    refine gk_iflt (off := 87) (tgt := 157) h (by decide +kernel) (by decide) ?_ ?_
    · exact gk_jmp 5 rfl
    · refine gk_aload_n (j := 0) h (by decide +kernel) rfl ?_
      refine gk_bipush (n := 64) h (by decide +kernel) (by decide) ?_
      refine gk_sipush (n := 128) h (by decide +kernel) (by decide) ?_
      refine gk_vV (ca_v (idx := 354) h ho hm_169 (rd_le hrd (by decide)) ck_8 (by decide +kernel) kw_1354 kw_1356 kw_80 kw_101 kw_1357 rfl (by decide +kernel) (by decide)) ?_
      refine gk_aload_n (j := 0) h (by decide +kernel) rfl ?_
      refine gk_sipush (n := 128) h (by decide +kernel) (by decide) ?_
      refine gk_aload_n (j := 0) h (by decide +kernel) rfl ?_
      refine gk_getI (i := 305) h ck_8 (by decide) (fun _ _ _ => rfl) (by decide +kernel) kw_1044 ?_
      refine gk_aload_n (j := 0) h (by decide +kernel) rfl ?_
      refine gk_getI (i := 308) h ck_8 (by decide) (fun _ _ _ => rfl) (by decide +kernel) kw_1045 ?_
      refine gk_aload_n (j := 0) h (by decide +kernel) rfl ?_
      refine gk_getI (i := 311) h ck_8 (by decide) (fun _ _ _ => rfl) (by decide +kernel) kw_1046 ?_
      refine gk_vV (ca_v (idx := 336) h ho hm_154 (rd_le hrd (by decide)) ck_8 (by decide +kernel) kw_1278 kw_1280 kw_68 kw_101 kw_1281 rfl (by decide +kernel) (by decide)) ?_
      refine gk_aload_n (j := 0) h (by decide +kernel) rfl ?_
      refine gk_sipush (n := 128) h (by decide +kernel) (by decide) ?_
      refine gk_vI (ca_v (idx := 351) h ho hm_167 (rd_le hrd (by decide)) ck_8 (by decide +kernel) kw_1362 kw_1364 kw_82 kw_101 kw_1365 rfl (by decide +kernel) (by decide)) ?_
      refine gk_istore h (by decide +kernel) hxn (by decide) ?_
      refine gk_aload_n (j := 0) h (by decide +kernel) rfl ?_
      refine gk_getR (i := 101) h ck_8 (by decide) (fun _ _ _ => rfl) (by decide +kernel) kw_1052 ?_
      refine gk_iload h (by decide +kernel) ?_
      refine gk_iload_n (j := 1) h (by decide +kernel) rfl ?_
      refine gk_ifeq (off := 27) (tgt := 144) h (by decide +kernel) (by decide) ?_ ?_
      · refine gk_iconst (n := 1) h (by decide +kernel) (by decide) ?_
        exact gk_jmp 4 rfl
      · refine gk_aload_n (j := 0) h (by decide +kernel) rfl ?_
        refine gk_getR (i := 101) h ck_8 (by decide) (fun _ _ _ => rfl) (by decide +kernel) kw_1052 ?_
        refine gk_iload h (by decide +kernel) ?_
        refine gk_ald0 h (by decide +kernel) ?_
        refine gk_i2l h (by decide +kernel) ?_
        refine gk_aload_n (j := 0) h (by decide +kernel) rfl ?_
        refine gk_getR (i := 98) h ck_8 (by decide) (fun _ _ _ => rfl) (by decide +kernel) kw_1051 ?_
        refine gk_iload_n (j := 2) h (by decide +kernel) rfl ?_
        refine gk_ald0 h (by decide +kernel) ?_
        refine gk_i2l h (by decide +kernel) ?_
        refine gk_ladd h (by decide +kernel) ?_
        refine gk_ldc2 (i := 386) h (by decide +kernel) kw_1413 ?_
        refine gk_lrem h (by decide +kernel) ?_
        refine gk_l2i h (by decide +kernel) ?_
        refine gk_goto (off := 4) (tgt := 145) h (by decide +kernel) (by decide) ?_
        exact gk_jmp 4 rfl
  | 4 =>
    show GK X Q182 145 (o_iast 0 (fun x => x) (o_aload 0 (o_iconst 64 (o_iload 3 (o_vI orc 149 3 8 (o_istore 3 (o_jmp 3)))))))
    refine gk_ast0 h (by decide +kernel) ?_
    refine gk_aload_n (j := 0) h (by decide +kernel) rfl ?_
    refine gk_bipush (n := 64) h (by decide +kernel) (by decide) ?_
    refine gk_iload_n (j := 3) h (by decide +kernel) rfl ?_
    refine gk_vI (ca_v (idx := 322) h ho hm_149 (rd_le hrd (by decide)) ck_8 (by decide +kernel) kw_974 kw_976 kw_43 kw_101 kw_977 rfl (by decide +kernel) (by decide)) ?_
    refine gk_istore_n (j := 3) h (by decide +kernel) rfl hxn (by decide) ?_
    refine gk_goto (off := (-85)) (tgt := 69) h (by decide +kernel) (by decide) ?_
    exact gk_jmp 3 rfl
  | 5 =>
    show GK X Q182 157 (o_iinc 2 1 (o_jmp 2))
    refine gk_iinc (z := 1) h (by decide +kernel) (by decide) hxn (by decide) ?_
    refine gk_goto (off := (-137)) (tgt := 23) h (by decide +kernel) (by decide) ?_
    exact gk_jmp 2 rfl
  | 6 =>
    show GK X Q182 165 (o_iload 2 (o_iconst 65536 (o_ilt (o_aload 0 (o_getR 8 46 (o_iload 2 (o_aload 0 (o_getR 8 47 (o_iload 2 (o_iald 0 (o_iast 0 (fun x => x) (o_iinc 2 1 (o_jmp 6)))))))))) (o_vret))))
    refine gk_iload_n (j := 2) h (by decide +kernel) rfl ?_
    refine gk_ldc (i := 87) h (by decide +kernel) kw_953 ?_
    refine gk_icmpge (off := 21) (tgt := 189) h (by decide +kernel) (by decide) ?_ ?_
    · exact gk_vret h hR (by decide +kernel)
    · refine gk_aload_n (j := 0) h (by decide +kernel) rfl ?_
      refine gk_getR (i := 98) h ck_8 (by decide) (fun _ _ _ => rfl) (by decide +kernel) kw_1051 ?_
      refine gk_iload_n (j := 2) h (by decide +kernel) rfl ?_
      refine gk_aload_n (j := 0) h (by decide +kernel) rfl ?_
      refine gk_getR (i := 101) h ck_8 (by decide) (fun _ _ _ => rfl) (by decide +kernel) kw_1052 ?_
      refine gk_iload_n (j := 2) h (by decide +kernel) rfl ?_
      refine gk_ald0 h (by decide +kernel) ?_
      refine gk_ast0 h (by decide +kernel) ?_
      refine gk_iinc (z := 1) h (by decide +kernel) (by decide) hxn (by decide) ?_
      refine gk_goto (off := (-21)) (tgt := 165) h (by decide +kernel) (by decide) ?_
      exact gk_jmp 6 rfl
  | _ + 7 => exact fun _ _ _ hr => hr.elim
set_option maxRecDepth 20000 in
set_option maxHeartbeats 4000000 in
theorem s_183 : MS mtab yX9_reached cX9_reached 6 (some .int) Q183 P183 := by
  intro X orc d h hR hnm hxn ho hrd b
  match b with
  | 0 =>
    show GK X Q183 0 (o_aload 0 (o_iconst 0 (o_putI 8 0 (o_iload 1 (o_iconst 0 (o_iconst 30 (o_sI orc 114 3 (o_if0 (o_iconst (-1) (o_iret)) (o_aload 0 (o_vI orc 165 1 8 (o_if0 (o_iconst (-1) (o_iret)) (o_iconst 0 (o_istore 2 (o_jmp 1))))))))))))))
    refine gk_aload_n (j := 0) h (by decide +kernel) rfl ?_
    refine gk_iconst (n := 0) h (by decide +kernel) (by decide) ?_
    refine gk_putI (i := 116) h ck_8 (by decide) rfl (Or.inl rfl) (by decide +kernel) kw_1005 ?_
    refine gk_iload_n (j := 1) h (by decide +kernel) rfl ?_
    refine gk_iconst (n := 0) h (by decide +kernel) (by decide) ?_
    refine gk_bipush (n := 30) h (by decide +kernel) (by decide) ?_
    refine gk_sI (ca_s (idx := 223) h ho hm_114 (rd_le hrd (by decide)) (by decide +kernel) kw_990 kw_991 kw_101 kw_992 (by decide +kernel)) ?_
    refine gk_ifeq (off := 10) (tgt := 22) h (by decide +kernel) (by decide) ?_ ?_
    · refine gk_iconst (n := (-1)) h (by decide +kernel) (by decide) ?_
      exact gk_iret h hR (by decide +kernel)
    · refine gk_aload_n (j := 0) h (by decide +kernel) rfl ?_
      refine gk_vI (ca_v (idx := 367) h ho hm_165 (rd_le hrd (by decide)) ck_8 (by decide +kernel) kw_1342 kw_1344 kw_77 kw_101 kw_1345 rfl (by decide +kernel) (by decide)) ?_
      refine gk_ifne (off := 5) (tgt := 24) h (by decide +kernel) (by decide) ?_ ?_
      · refine gk_iconst (n := 0) h (by decide +kernel) (by decide) ?_
        refine gk_istore_n (j := 2) h (by decide +kernel) rfl hxn (by decide) ?_
        exact gk_jmp 1 rfl
      · refine gk_iconst (n := (-1)) h (by decide +kernel) (by decide) ?_
        exact gk_iret h hR (by decide +kernel)
  | 1 =>
    show GK X Q183 26 (o_iload 2 (o_iconst 65536 (o_ilt (o_aload 0 (o_getR 8 46 (o_iload 2 (o_iconst 0 (o_iast 0 (fun x => x) (o_iinc 2 1 (o_jmp 1))))))) (o_aload 0 (o_getR 8 46 (o_aload 0 (o_iconst 0 (o_vI orc 167 2 8 (o_iconst 1 (o_iast 0 (fun x => x) (o_iconst 0 (o_istore 2 (o_jmp 2)))))))))))))
    refine gk_iload_n (j := 2) h (by decide +kernel) rfl ?_
    refine gk_ldc (i := 87) h (by decide +kernel) kw_953 ?_
    refine gk_icmpge (off := 16) (tgt := 45) h (by decide +kernel) (by decide) ?_ ?_
    · refine gk_aload_n (j := 0) h (by decide +kernel) rfl ?_
      refine gk_getR (i := 98) h ck_8 (by decide) (fun _ _ _ => rfl) (by decide +kernel) kw_1051 ?_
      refine gk_aload_n (j := 0) h (by decide +kernel) rfl ?_
      refine gk_iconst (n := 0) h (by decide +kernel) (by decide) ?_
      refine gk_vI (ca_v (idx := 351) h ho hm_167 (rd_le hrd (by decide)) ck_8 (by decide +kernel) kw_1362 kw_1364 kw_82 kw_101 kw_1365 rfl (by decide +kernel) (by decide)) ?_
      refine gk_iconst (n := 1) h (by decide +kernel) (by decide) ?_
      refine gk_ast0 h (by decide +kernel) ?_
      refine gk_iconst (n := 0) h (by decide +kernel) (by decide) ?_
      refine gk_istore_n (j := 2) h (by decide +kernel) rfl hxn (by decide) ?_
      exact gk_jmp 2 rfl
    · refine gk_aload_n (j := 0) h (by decide +kernel) rfl ?_
      refine gk_getR (i := 98) h ck_8 (by decide) (fun _ _ _ => rfl) (by decide +kernel) kw_1051 ?_
      refine gk_iload_n (j := 2) h (by decide +kernel) rfl ?_
      refine gk_iconst (n := 0) h (by decide +kernel) (by decide) ?_
      refine gk_ast0 h (by decide +kernel) ?_
      refine gk_iinc (z := 1) h (by decide +kernel) (by decide) hxn (by decide) ?_
      refine gk_goto (off := (-16)) (tgt := 26) h (by decide +kernel) (by decide) ?_
      exact gk_jmp 1 rfl
  | 2 =>
    show GK X Q183 58 (o_iload 2 (o_iload 1 (o_ilt (o_aload 0 (o_iconst 0 (o_vV orc 182 2 8 (o_iinc 2 1 (o_jmp 2))))) (o_iconst 0 (o_istore 2 (o_iconst 0 (o_istore 3 (o_jmp 3))))))))
    refine gk_iload_n (j := 2) h (by decide +kernel) rfl ?_
    refine gk_iload_n (j := 1) h (by decide +kernel) rfl ?_
    refine gk_icmpge (off := 14) (tgt := 74) h (by decide +kernel) (by decide) ?_ ?_
    · refine gk_iconst (n := 0) h (by decide +kernel) (by decide) ?_
      refine gk_istore_n (j := 2) h (by decide +kernel) rfl hxn (by decide) ?_
      refine gk_iconst (n := 0) h (by decide +kernel) (by decide) ?_
      refine gk_istore_n (j := 3) h (by decide +kernel) rfl hxn (by decide) ?_
      exact gk_jmp 3 rfl
    · refine gk_aload_n (j := 0) h (by decide +kernel) rfl ?_
      refine gk_iconst (n := 0) h (by decide +kernel) (by decide) ?_
      refine gk_vV (ca_v (idx := 388) h ho hm_182 (rd_le hrd (by decide)) ck_8 (by decide +kernel) kw_1405 kw_1407 kw_87 kw_101 kw_1408 rfl (by decide +kernel) (by decide)) ?_
      refine gk_iinc (z := 1) h (by decide +kernel) (by decide) hxn (by decide) ?_
      refine gk_goto (off := (-13)) (tgt := 58) h (by decide +kernel) (by decide) ?_
      exact gk_jmp 2 rfl
  | 3 =>
    show GK X Q183 78 (o_iload 3 (o_iconst 8192 (o_ilt (o_iconst 0 (o_istore 4 (o_iconst 0 (o_istore 5 (o_jmp 4))))) (o_iload 2 (o_iret)))))
    refine gk_iload_n (j := 3) h (by decide +kernel) rfl ?_
    refine gk_sipush (n := 8192) h (by decide +kernel) (by decide) ?_
    refine gk_icmpge (off := 68) (tgt := 150) h (by decide +kernel) (by decide) ?_ ?_
    · refine gk_iload_n (j := 2) h (by decide +kernel) rfl ?_
      exact gk_iret h hR (by decide +kernel)
    · refine gk_iconst (n := 0) h (by decide +kernel) (by decide) ?_
      refine gk_istore h (by decide +kernel) hxn (by decide) ?_
      refine gk_iconst (n := 0) h (by decide +kernel) (by decide) ?_
      refine gk_istore h (by decide +kernel) hxn (by decide) ?_
      exact gk_jmp 4 rfl
  | 4 =>
    show GK X Q183 91 (o_iload 5 (o_iconst 8 (o_ilt (o_iload 4 (o_if0 (o_aload 0 (o_getR 8 46 (o_iconst 8 (o_iload 3 (o_i2 (fun x y => x * y) (o_iload 5 (o_i2 (fun x y => x + y) (o_iald 0 (o_ifp (o_jmp 5) (o_iconst 0 (o_jmp 6))))))))))) (o_jmp 5))) (o_iload 2 (o_iload 4 (o_if0 (o_iconst 0 (o_jmp 7)) (o_iconst 1 (o_jmp 7))))))))
    refine gk_iload h (by decide +kernel) ?_
    refine gk_bipush (n := 8) h (by decide +kernel) (by decide) ?_
    refine gk_icmpge (off := 36) (tgt := 131) h (by decide +kernel) (by decide) ?_ ?_
    · refine gk_iload_n (j := 2) h (by decide +kernel) rfl ?_
      refine gk_iload h (by decide +kernel) ?_
      refine gk_ifeq (off := 7) (tgt := 141) h (by decide +kernel) (by decide) ?_ ?_
      · refine gk_iconst (n := 0) h (by decide +kernel) (by decide) ?_
        exact gk_jmp 7 rfl
      · refine gk_iconst (n := 1) h (by decide +kernel) (by decide) ?_
        refine gk_goto (off := 4) (tgt := 142) h (by decide +kernel) (by decide) ?_
        exact gk_jmp 7 rfl
    · refine gk_iload h (by decide +kernel) ?_
      refine gk_ifne (off := 18) (tgt := 118) h (by decide +kernel) (by decide) ?_ ?_
      · exact gk_jmp 5 rfl
      · refine gk_aload_n (j := 0) h (by decide +kernel) rfl ?_
        refine gk_getR (i := 98) h ck_8 (by decide) (fun _ _ _ => rfl) (by decide +kernel) kw_1051 ?_
        refine gk_bipush (n := 8) h (by decide +kernel) (by decide) ?_
        refine gk_iload_n (j := 3) h (by decide +kernel) rfl ?_
        refine gk_imul h (by decide +kernel) ?_
        refine gk_iload h (by decide +kernel) ?_
        refine gk_iadd h (by decide +kernel) ?_
        refine gk_ald0 h (by decide +kernel) ?_
        refine gk_ifle (off := 7) (tgt := 122) h (by decide +kernel) (by decide) ?_ ?_
        · refine gk_iconst (n := 0) h (by decide +kernel) (by decide) ?_
          exact gk_jmp 6 rfl
        · exact gk_jmp 5 rfl
  | 5 =>
    show GK X Q183 118 (o_iconst 1 (o_jmp 6))
    refine gk_iconst (n := 1) h (by decide +kernel) (by decide) ?_
    refine gk_goto (off := 4) (tgt := 123) h (by decide +kernel) (by decide) ?_
    exact gk_jmp 6 rfl
  | 6 =>
    show GK X Q183 123 (o_istore 4 (o_iinc 5 1 (o_jmp 4)))
    refine gk_istore h (by decide +kernel) hxn (by decide) ?_
    refine gk_iinc (z := 1) h (by decide +kernel) (by decide) hxn (by decide) ?_
    refine gk_goto (off := (-37)) (tgt := 91) h (by decide +kernel) (by decide) ?_
    exact gk_jmp 4 rfl
  | 7 =>
    show GK X Q183 142 (o_i2 (fun x y => x + y) (o_istore 2 (o_iinc 3 1 (o_jmp 3))))
    refine gk_iadd h (by decide +kernel) ?_
    refine gk_istore_n (j := 2) h (by decide +kernel) rfl hxn (by decide) ?_
    refine gk_iinc (z := 1) h (by decide +kernel) (by decide) hxn (by decide) ?_
    refine gk_goto (off := (-69)) (tgt := 78) h (by decide +kernel) (by decide) ?_
    exact gk_jmp 3 rfl
  | _ + 8 => exact fun _ _ _ hr => hr.elim
set_option maxRecDepth 20000 in
set_option maxHeartbeats 4000000 in
theorem s_184 : MS mtab yX9_histories cX9_histories 5 (some .int) Q184 P184 := by
  intro X orc d h hR hnm hxn ho hrd b
  match b with
  | 0 =>
    show GK X Q184 0 (o_aload 0 (o_iconst 0 (o_putI 8 0 (o_iload 1 (o_iconst 0 (o_iconst 30 (o_sI orc 114 3 (o_if0 (o_iconst (-1) (o_iret)) (o_aload 0 (o_vI orc 165 1 8 (o_if0 (o_iconst (-1) (o_iret)) (o_iconst 0 (o_istore 2 (o_jmp 1))))))))))))))
    refine gk_aload_n (j := 0) h (by decide +kernel) rfl ?_
    refine gk_iconst (n := 0) h (by decide +kernel) (by decide) ?_
    refine gk_putI (i := 116) h ck_8 (by decide) rfl (Or.inl rfl) (by decide +kernel) kw_1005 ?_
    refine gk_iload_n (j := 1) h (by decide +kernel) rfl ?_
    refine gk_iconst (n := 0) h (by decide +kernel) (by decide) ?_
    refine gk_bipush (n := 30) h (by decide +kernel) (by decide) ?_
    refine gk_sI (ca_s (idx := 223) h ho hm_114 (rd_le hrd (by decide)) (by decide +kernel) kw_990 kw_991 kw_101 kw_992 (by decide +kernel)) ?_
    refine gk_ifeq (off := 10) (tgt := 22) h (by decide +kernel) (by decide) ?_ ?_
    · refine gk_iconst (n := (-1)) h (by decide +kernel) (by decide) ?_
      exact gk_iret h hR (by decide +kernel)
    · refine gk_aload_n (j := 0) h (by decide +kernel) rfl ?_
      refine gk_vI (ca_v (idx := 367) h ho hm_165 (rd_le hrd (by decide)) ck_8 (by decide +kernel) kw_1342 kw_1344 kw_77 kw_101 kw_1345 rfl (by decide +kernel) (by decide)) ?_
      refine gk_ifne (off := 5) (tgt := 24) h (by decide +kernel) (by decide) ?_ ?_
      · refine gk_iconst (n := 0) h (by decide +kernel) (by decide) ?_
        refine gk_istore_n (j := 2) h (by decide +kernel) rfl hxn (by decide) ?_
        exact gk_jmp 1 rfl
      · refine gk_iconst (n := (-1)) h (by decide +kernel) (by decide) ?_
        exact gk_iret h hR (by decide +kernel)
  | 1 =>
    show GK X Q184 26 (o_iload 2 (o_iconst 65536 (o_ilt (o_aload 0 (o_getR 8 46 (o_iload 2 (o_iconst 0 (o_iast 0 (fun x => x) (o_iinc 2 1 (o_jmp 1))))))) (o_aload 0 (o_iconst 64 (o_vV orc 140 2 8 (o_aload 0 (o_getR 8 46 (o_aload 0 (o_iconst 64 (o_vI orc 167 2 8 (o_iconst 1 (o_iast 0 (fun x => x) (o_iconst 0 (o_istore 2 (o_jmp 2))))))))))))))))
    refine gk_iload_n (j := 2) h (by decide +kernel) rfl ?_
    refine gk_ldc (i := 87) h (by decide +kernel) kw_953 ?_
    refine gk_icmpge (off := 16) (tgt := 45) h (by decide +kernel) (by decide) ?_ ?_
    · refine gk_aload_n (j := 0) h (by decide +kernel) rfl ?_
      refine gk_bipush (n := 64) h (by decide +kernel) (by decide) ?_
      refine gk_vV (ca_v (idx := 280) h ho hm_140 (rd_le hrd (by decide)) ck_8 (by decide +kernel) kw_958 kw_960 kw_39 kw_101 kw_961 rfl (by decide +kernel) (by decide)) ?_
      refine gk_aload_n (j := 0) h (by decide +kernel) rfl ?_
      refine gk_getR (i := 98) h ck_8 (by decide) (fun _ _ _ => rfl) (by decide +kernel) kw_1051 ?_
      refine gk_aload_n (j := 0) h (by decide +kernel) rfl ?_
      refine gk_bipush (n := 64) h (by decide +kernel) (by decide) ?_
      refine gk_vI (ca_v (idx := 351) h ho hm_167 (rd_le hrd (by decide)) ck_8 (by decide +kernel) kw_1362 kw_1364 kw_82 kw_101 kw_1365 rfl (by decide +kernel) (by decide)) ?_
      refine gk_iconst (n := 1) h (by decide +kernel) (by decide) ?_
      refine gk_ast0 h (by decide +kernel) ?_
      refine gk_iconst (n := 0) h (by decide +kernel) (by decide) ?_
      refine gk_istore_n (j := 2) h (by decide +kernel) rfl hxn (by decide) ?_
      exact gk_jmp 2 rfl
    · refine gk_aload_n (j := 0) h (by decide +kernel) rfl ?_
      refine gk_getR (i := 98) h ck_8 (by decide) (fun _ _ _ => rfl) (by decide +kernel) kw_1051 ?_
      refine gk_iload_n (j := 2) h (by decide +kernel) rfl ?_
      refine gk_iconst (n := 0) h (by decide +kernel) (by decide) ?_
      refine gk_ast0 h (by decide +kernel) ?_
      refine gk_iinc (z := 1) h (by decide +kernel) (by decide) hxn (by decide) ?_
      refine gk_goto (off := (-16)) (tgt := 26) h (by decide +kernel) (by decide) ?_
      exact gk_jmp 1 rfl
  | 2 =>
    show GK X Q184 65 (o_iload 2 (o_iload 1 (o_ilt (o_aload 0 (o_iconst 1 (o_vV orc 182 2 8 (o_iinc 2 1 (o_jmp 2))))) (o_lconst 0 (o_lstore 2 (o_iconst 0 (o_istore 4 (o_jmp 3))))))))
    refine gk_iload_n (j := 2) h (by decide +kernel) rfl ?_
    refine gk_iload_n (j := 1) h (by decide +kernel) rfl ?_
    refine gk_icmpge (off := 14) (tgt := 81) h (by decide +kernel) (by decide) ?_ ?_
    · refine gk_lconst (n := 0) h (by decide +kernel) rfl ?_
      refine gk_lstore_n (j := 2) h (by decide +kernel) rfl hxn (by decide) ?_
      refine gk_iconst (n := 0) h (by decide +kernel) (by decide) ?_
      refine gk_istore h (by decide +kernel) hxn (by decide) ?_
      exact gk_jmp 3 rfl
    · refine gk_aload_n (j := 0) h (by decide +kernel) rfl ?_
      refine gk_iconst (n := 1) h (by decide +kernel) (by decide) ?_
      refine gk_vV (ca_v (idx := 388) h ho hm_182 (rd_le hrd (by decide)) ck_8 (by decide +kernel) kw_1405 kw_1407 kw_87 kw_101 kw_1408 rfl (by decide +kernel) (by decide)) ?_
      refine gk_iinc (z := 1) h (by decide +kernel) (by decide) hxn (by decide) ?_
      refine gk_goto (off := (-13)) (tgt := 65) h (by decide +kernel) (by decide) ?_
      exact gk_jmp 2 rfl
  | 3 =>
    show GK X Q184 86 (o_iload 4 (o_iconst 8 (o_ilt (o_lload 2 (o_aload 0 (o_getR 8 46 (o_iconst 8 (o_aload 0 (o_iconst 0 (o_vI orc 166 2 8 (o_i2 (fun x y => x * y) (o_iload 4 (o_i2 (fun x y => x + y) (o_iald 0 (o_i2l (o_l2 (fun x y => x + y) (o_lstore 2 (o_iinc 4 1 (o_jmp 3)))))))))))))))) (o_lload 2 (o_lconst 1000000007 (o_l2z (fun x y => x - x / y * y) (o_l2i (o_iret))))))))
    refine gk_iload h (by decide +kernel) ?_
    refine gk_bipush (n := 8) h (by decide +kernel) (by decide) ?_
    refine gk_icmpge (off := 29) (tgt := 119) h (by decide +kernel) (by decide) ?_ ?_
    · refine gk_lload_n (j := 2) h (by decide +kernel) rfl ?_
      refine gk_ldc2 (i := 386) h (by decide +kernel) kw_1413 ?_
      refine gk_lrem h (by decide +kernel) ?_
      refine gk_l2i h (by decide +kernel) ?_
      exact gk_iret h hR (by decide +kernel)
    · refine gk_lload_n (j := 2) h (by decide +kernel) rfl ?_
      refine gk_aload_n (j := 0) h (by decide +kernel) rfl ?_
      refine gk_getR (i := 98) h ck_8 (by decide) (fun _ _ _ => rfl) (by decide +kernel) kw_1051 ?_
      refine gk_bipush (n := 8) h (by decide +kernel) (by decide) ?_
      refine gk_aload_n (j := 0) h (by decide +kernel) rfl ?_
      refine gk_iconst (n := 0) h (by decide +kernel) (by decide) ?_
      refine gk_vI (ca_v (idx := 348) h ho hm_166 (rd_le hrd (by decide)) ck_8 (by decide +kernel) kw_1366 kw_1368 kw_83 kw_101 kw_1369 rfl (by decide +kernel) (by decide)) ?_
      refine gk_imul h (by decide +kernel) ?_
      refine gk_iload h (by decide +kernel) ?_
      refine gk_iadd h (by decide +kernel) ?_
      refine gk_ald0 h (by decide +kernel) ?_
      refine gk_i2l h (by decide +kernel) ?_
      refine gk_ladd h (by decide +kernel) ?_
      refine gk_lstore_n (j := 2) h (by decide +kernel) rfl hxn (by decide) ?_
      refine gk_iinc (z := 1) h (by decide +kernel) (by decide) hxn (by decide) ?_
      refine gk_goto (off := (-30)) (tgt := 86) h (by decide +kernel) (by decide) ?_
      exact gk_jmp 3 rfl
  | _ + 4 => exact fun _ _ _ hr => hr.elim
set_option maxRecDepth 20000 in
set_option maxHeartbeats 4000000 in
theorem s_185 : MS mtab yX9_draws cX9_draws 2 (some .int) Q185 P185 := by
  intro X orc d h hR hnm hxn ho hrd b
  match b with
  | 0 =>
    show GK X Q185 0 (o_aload 0 (o_aload 0 (o_getL 8 48 (o_lconst 1103515245 (o_l2 (fun x y => x * y) (o_lconst 12345 (o_l2 (fun x y => x + y) (o_lconst 2147483648 (o_l2z (fun x y => x - x / y * y) (o_putL 8 48 (o_aload 0 (o_getL 8 48 (o_lconst 65536 (o_l2z (fun x y => x / y) (o_iload 1 (o_i2l (o_l2z (fun x y => x - x / y * y) (o_l2i (o_iret)))))))))))))))))))
    refine gk_aload_n (j := 0) h (by decide +kernel) rfl ?_
    refine gk_aload_n (j := 0) h (by decide +kernel) rfl ?_
    refine gk_getL (i := 392) h ck_8 (by decide) (fun _ _ _ => rfl) (by decide +kernel) kw_1053 ?_
    refine gk_ldc2 (i := 395) h (by decide +kernel) kw_1426 ?_
    refine gk_lmul h (by decide +kernel) ?_
    refine gk_ldc2 (i := 397) h (by decide +kernel) kw_1427 ?_
    refine gk_ladd h (by decide +kernel) ?_
    refine gk_ldc2 (i := 399) h (by decide +kernel) kw_1428 ?_
    refine gk_lrem h (by decide +kernel) ?_
    refine gk_putL (i := 392) h ck_8 (by decide) rfl (Or.inl rfl) (by decide +kernel) kw_1053 ?_
    refine gk_aload_n (j := 0) h (by decide +kernel) rfl ?_
    refine gk_getL (i := 392) h ck_8 (by decide) (fun _ _ _ => rfl) (by decide +kernel) kw_1053 ?_
    refine gk_ldc2 (i := 401) h (by decide +kernel) kw_1429 ?_
    refine gk_ldiv h (by decide +kernel) ?_
    refine gk_iload_n (j := 1) h (by decide +kernel) rfl ?_
    refine gk_i2l h (by decide +kernel) ?_
    refine gk_lrem h (by decide +kernel) ?_
    refine gk_l2i h (by decide +kernel) ?_
    exact gk_iret h hR (by decide +kernel)
  | _ + 1 => exact fun _ _ _ hr => hr.elim
set_option maxRecDepth 20000 in
set_option maxHeartbeats 4000000 in
theorem s_186 : MS mtab yX9_lots cX9_lots 7 (some .int) Q186 P186 := by
  intro X orc d h hR hnm hxn ho hrd b
  match b with
  | 0 =>
    show GK X Q186 0 (o_aload 0 (o_iconst 0 (o_putI 8 0 (o_iload 1 (o_iconst 0 (o_iconst 9999 (o_sI orc 114 3 (o_if0 (o_iconst (-1) (o_iret)) (o_iload 2 (o_iconst 1 (o_iconst 100 (o_sI orc 114 3 (o_if0 (o_iconst (-1) (o_iret)) (o_iload 3 (o_iconst 0 (o_iconst 1 (o_sI orc 114 3 (o_if0 (o_iconst (-1) (o_iret)) (o_aload 0 (o_iload 1 (o_i2l (o_putL 8 48 (o_iconst 0 (o_istore 4 (o_iconst 0 (o_istore 5 (o_iconst 0 (o_istore 6 (o_jmp 1)))))))))))))))))))))))))))))
    refine gk_aload_n (j := 0) h (by decide +kernel) rfl ?_
    refine gk_iconst (n := 0) h (by decide +kernel) (by decide) ?_
    refine gk_putI (i := 116) h ck_8 (by decide) rfl (Or.inl rfl) (by decide +kernel) kw_1005 ?_
    refine gk_iload_n (j := 1) h (by decide +kernel) rfl ?_
    refine gk_iconst (n := 0) h (by decide +kernel) (by decide) ?_
    refine gk_sipush (n := 9999) h (by decide +kernel) (by decide) ?_
    refine gk_sI (ca_s (idx := 223) h ho hm_114 (rd_le hrd (by decide)) (by decide +kernel) kw_990 kw_991 kw_101 kw_992 (by decide +kernel)) ?_
    refine gk_ifeq (off := 22) (tgt := 35) h (by decide +kernel) (by decide) ?_ ?_
    · refine gk_iconst (n := (-1)) h (by decide +kernel) (by decide) ?_
      exact gk_iret h hR (by decide +kernel)
    · refine gk_iload_n (j := 2) h (by decide +kernel) rfl ?_
      refine gk_iconst (n := 1) h (by decide +kernel) (by decide) ?_
      refine gk_bipush (n := 100) h (by decide +kernel) (by decide) ?_
      refine gk_sI (ca_s (idx := 223) h ho hm_114 (rd_le hrd (by decide)) (by decide +kernel) kw_990 kw_991 kw_101 kw_992 (by decide +kernel)) ?_
      refine gk_ifeq (off := 12) (tgt := 35) h (by decide +kernel) (by decide) ?_ ?_
      · refine gk_iconst (n := (-1)) h (by decide +kernel) (by decide) ?_
        exact gk_iret h hR (by decide +kernel)
      · refine gk_iload_n (j := 3) h (by decide +kernel) rfl ?_
        refine gk_iconst (n := 0) h (by decide +kernel) (by decide) ?_
        refine gk_iconst (n := 1) h (by decide +kernel) (by decide) ?_
        refine gk_sI (ca_s (idx := 223) h ho hm_114 (rd_le hrd (by decide)) (by decide +kernel) kw_990 kw_991 kw_101 kw_992 (by decide +kernel)) ?_
        refine gk_ifne (off := 5) (tgt := 37) h (by decide +kernel) (by decide) ?_ ?_
        · refine gk_aload_n (j := 0) h (by decide +kernel) rfl ?_
          refine gk_iload_n (j := 1) h (by decide +kernel) rfl ?_
          refine gk_i2l h (by decide +kernel) ?_
          refine gk_putL (i := 392) h ck_8 (by decide) rfl (Or.inl rfl) (by decide +kernel) kw_1053 ?_
          refine gk_iconst (n := 0) h (by decide +kernel) (by decide) ?_
          refine gk_istore h (by decide +kernel) hxn (by decide) ?_
          refine gk_iconst (n := 0) h (by decide +kernel) (by decide) ?_
          refine gk_istore h (by decide +kernel) hxn (by decide) ?_
          refine gk_iconst (n := 0) h (by decide +kernel) (by decide) ?_
          refine gk_istore h (by decide +kernel) hxn (by decide) ?_
          exact gk_jmp 1 rfl
        · refine gk_iconst (n := (-1)) h (by decide +kernel) (by decide) ?_
          exact gk_iret h hR (by decide +kernel)
  | 1 =>
    show GK X Q186 52 (o_iload 6 (o_iload 2 (o_ilt (o_aload 0 (o_iconst 0 (o_iconst 64 (o_vV orc 169 3 8 (o_jmp 2))))) (o_iload 3 (o_if0 (o_iload 4 (o_iret)) (o_iload 5 (o_iret)))))))
    refine gk_iload h (by decide +kernel) ?_
    refine gk_iload_n (j := 2) h (by decide +kernel) rfl ?_
    refine gk_icmpge (off := 88) (tgt := 143) h (by decide +kernel) (by decide) ?_ ?_
    · refine gk_iload_n (j := 3) h (by decide +kernel) rfl ?_
      refine gk_ifne (off := 8) (tgt := 152) h (by decide +kernel) (by decide) ?_ ?_
      · refine gk_iload h (by decide +kernel) ?_
        exact gk_iret h hR (by decide +kernel)
      · refine gk_iload h (by decide +kernel) ?_
        refine gk_goto (off := 5) (tgt := 154) h (by decide +kernel) (by decide) ?_
        exact gk_iret h hR (by decide +kernel)
    · refine gk_aload_n (j := 0) h (by decide +kernel) rfl ?_
      refine gk_iconst (n := 0) h (by decide +kernel) (by decide) ?_
      refine gk_bipush (n := 64) h (by decide +kernel) (by decide) ?_
      refine gk_vV (ca_v (idx := 354) h ho hm_169 (rd_le hrd (by decide)) ck_8 (by decide +kernel) kw_1354 kw_1356 kw_80 kw_101 kw_1357 rfl (by decide +kernel) (by decide)) ?_
      exact gk_jmp 2 rfl
  | 2 =>
    show GK X Q186 65 (o_aload 0 (o_getR 8 36 (o_iconst 107 (o_iald 0 (o_if0 (o_aload 0 (o_iconst 64 (o_aload 0 (o_aload 0 (o_iconst 64 (o_vI orc 151 2 8 (o_vI orc 185 2 8 (o_vI orc 152 3 8 (o_pop (o_aload 0 (o_iconst 64 (o_aload 0 (o_getI 8 39 (o_aload 0 (o_getI 8 40 (o_aload 0 (o_getI 8 41 (o_vV orc 154 5 8 (o_iinc 5 1 (o_jmp 2)))))))))))))))))))) (o_iload 4 (o_aload 0 (o_getR 8 36 (o_iconst 107 (o_iald 0 (o_iconst 1 (o_ieq (o_iconst 1 (o_jmp 3)) (o_iconst 0 (o_jmp 3))))))))))))))
    refine gk_aload_n (j := 0) h (by decide +kernel) rfl ?_
    refine gk_getR (i := 81) h ck_8 (by decide) (fun _ _ _ => rfl) (by decide +kernel) kw_1041 ?_
    refine gk_bipush (n := 107) h (by decide +kernel) (by decide) ?_
    refine gk_ald0 h (by decide +kernel) ?_
    refine gk_ifne (off := 44) (tgt := 116) h (by decide +kernel) (by decide) ?_ ?_
    · refine gk_iload h (by decide +kernel) ?_
      refine gk_aload_n (j := 0) h (by decide +kernel) rfl ?_
      refine gk_getR (i := 81) h ck_8 (by decide) (fun _ _ _ => rfl) (by decide +kernel) kw_1041 ?_
      refine gk_bipush (n := 107) h (by decide +kernel) (by decide) ?_
      refine gk_ald0 h (by decide +kernel) ?_
      refine gk_iconst (n := 1) h (by decide +kernel) (by decide) ?_
      refine gk_icmpne (off := 7) (tgt := 133) h (by decide +kernel) (by decide) ?_ ?_
      · refine gk_iconst (n := 0) h (by decide +kernel) (by decide) ?_
        exact gk_jmp 3 rfl
      · refine gk_iconst (n := 1) h (by decide +kernel) (by decide) ?_
        refine gk_goto (off := 4) (tgt := 134) h (by decide +kernel) (by decide) ?_
        exact gk_jmp 3 rfl
    · refine gk_aload_n (j := 0) h (by decide +kernel) rfl ?_
      refine gk_bipush (n := 64) h (by decide +kernel) (by decide) ?_
      refine gk_aload_n (j := 0) h (by decide +kernel) rfl ?_
      refine gk_aload_n (j := 0) h (by decide +kernel) rfl ?_
      refine gk_bipush (n := 64) h (by decide +kernel) (by decide) ?_
      refine gk_vI (ca_v (idx := 339) h ho hm_151 (rd_le hrd (by decide)) ck_8 (by decide +kernel) kw_1326 kw_1328 kw_75 kw_101 kw_1329 rfl (by decide +kernel) (by decide)) ?_
      refine gk_vI (ca_v (idx := 403) h ho hm_185 (rd_le hrd (by decide)) ck_8 (by decide +kernel) kw_1422 kw_1424 kw_89 kw_101 kw_1425 rfl (by decide +kernel) (by decide)) ?_
      refine gk_vI (ca_v (idx := 345) h ho hm_152 (rd_le hrd (by decide)) ck_8 (by decide +kernel) kw_1334 kw_1336 kw_76 kw_101 kw_1337 rfl (by decide +kernel) (by decide)) ?_
      refine gk_pop h (by decide +kernel) ?_
      refine gk_aload_n (j := 0) h (by decide +kernel) rfl ?_
      refine gk_bipush (n := 64) h (by decide +kernel) (by decide) ?_
      refine gk_aload_n (j := 0) h (by decide +kernel) rfl ?_
      refine gk_getI (i := 305) h ck_8 (by decide) (fun _ _ _ => rfl) (by decide +kernel) kw_1044 ?_
      refine gk_aload_n (j := 0) h (by decide +kernel) rfl ?_
      refine gk_getI (i := 308) h ck_8 (by decide) (fun _ _ _ => rfl) (by decide +kernel) kw_1045 ?_
      refine gk_aload_n (j := 0) h (by decide +kernel) rfl ?_
      refine gk_getI (i := 311) h ck_8 (by decide) (fun _ _ _ => rfl) (by decide +kernel) kw_1046 ?_
      refine gk_vV (ca_v (idx := 336) h ho hm_154 (rd_le hrd (by decide)) ck_8 (by decide +kernel) kw_1278 kw_1280 kw_68 kw_101 kw_1281 rfl (by decide +kernel) (by decide)) ?_
      refine gk_iinc (z := 1) h (by decide +kernel) (by decide) hxn (by decide) ?_
      refine gk_goto (off := (-48)) (tgt := 65) h (by decide +kernel) (by decide) ?_
      exact gk_jmp 2 rfl
  | 3 =>
    show GK X Q186 134 (o_i2 (fun x y => x + y) (o_istore 4 (o_iinc 6 1 (o_jmp 1))))
    refine gk_iadd h (by decide +kernel) ?_
    refine gk_istore h (by decide +kernel) hxn (by decide) ?_
    refine gk_iinc (z := 1) h (by decide +kernel) (by decide) hxn (by decide) ?_
    refine gk_goto (off := (-88)) (tgt := 52) h (by decide +kernel) (by decide) ?_
    exact gk_jmp 1 rfl
  | _ + 4 => exact fun _ _ _ hr => hr.elim
set_option maxRecDepth 20000 in
set_option maxHeartbeats 4000000 in
theorem s_187 : MS mtab yX9_mark cX9_mark 5 (some .boolean) Q187 P187 := by
  intro X orc d h hR hnm hxn ho hrd b
  match b with
  | 0 =>
    show GK X Q187 0 (o_aload 0 (o_iconst 0 (o_putI 8 0 (o_iload 1 (o_iconst 0 (o_iconst 3 (o_sI orc 114 3 (o_if0 (o_iconst 0 (o_zret)) (o_iload 2 (o_if0 (o_jmp 1) (o_aload 0 (o_getR 8 49 (o_iload 1 (o_iald 4 (o_if0 (o_iconst 0 (o_zret)) (o_jmp 1))))))))))))))))
    refine gk_aload_n (j := 0) h (by decide +kernel) rfl ?_
    refine gk_iconst (n := 0) h (by decide +kernel) (by decide) ?_
    refine gk_putI (i := 116) h ck_8 (by decide) rfl (Or.inl rfl) (by decide +kernel) kw_1005 ?_
    refine gk_iload_n (j := 1) h (by decide +kernel) rfl ?_
    refine gk_iconst (n := 0) h (by decide +kernel) (by decide) ?_
    refine gk_iconst (n := 3) h (by decide +kernel) (by decide) ?_
    refine gk_sI (ca_s (idx := 223) h ho hm_114 (rd_le hrd (by decide)) (by decide +kernel) kw_990 kw_991 kw_101 kw_992 (by decide +kernel)) ?_
    refine gk_ifeq (off := 16) (tgt := 27) h (by decide +kernel) (by decide) ?_ ?_
    · refine gk_iconst (n := 0) h (by decide +kernel) (by decide) ?_
      exact gk_zret h hR (by decide +kernel)
    · refine gk_iload_n (j := 2) h (by decide +kernel) rfl ?_
      refine gk_ifeq (off := 14) (tgt := 29) h (by decide +kernel) (by decide) ?_ ?_
      · exact gk_jmp 1 rfl
      · refine gk_aload_n (j := 0) h (by decide +kernel) rfl ?_
        refine gk_getR (i := 104) h ck_8 (by decide) (fun _ _ _ => rfl) (by decide +kernel) kw_1054 ?_
        refine gk_iload_n (j := 1) h (by decide +kernel) rfl ?_
        refine gk_ald4 h (by decide +kernel) ?_
        refine gk_ifne (off := 5) (tgt := 29) h (by decide +kernel) (by decide) ?_ ?_
        · exact gk_jmp 1 rfl
        · refine gk_iconst (n := 0) h (by decide +kernel) (by decide) ?_
          exact gk_zret h hR (by decide +kernel)
  | 1 =>
    show GK X Q187 29 (o_aload 0 (o_getR 8 49 (o_iload 1 (o_iconst 1 (o_iast 4 (fun x => vp_nar .boolean x) (o_iconst 3904 (o_iload 1 (o_i2 (fun x y => x * y) (o_istore 3 (o_iload 2 (o_if0 (o_aload 0 (o_iconst 0 (o_iconst 2 (o_iload 1 (o_i2 (fun x y => x + y) (o_vV orc 137 3 8 (o_iconst 0 (o_istore 4 (o_jmp 4))))))))) (o_aload 0 (o_iconst 2 (o_iload 1 (o_i2 (fun x y => x + y) (o_iconst 0 (o_vV orc 137 3 8 (o_aload 0 (o_iconst 0 (o_putZ 8 44 (o_iconst 0 (o_istore 4 (o_jmp 2)))))))))))))))))))))))
    refine gk_aload_n (j := 0) h (by decide +kernel) rfl ?_
    refine gk_getR (i := 104) h ck_8 (by decide) (fun _ _ _ => rfl) (by decide +kernel) kw_1054 ?_
    refine gk_iload_n (j := 1) h (by decide +kernel) rfl ?_
    refine gk_iconst (n := 1) h (by decide +kernel) (by decide) ?_
    refine gk_ast4 h (by decide +kernel) ?_
    refine gk_sipush (n := 3904) h (by decide +kernel) (by decide) ?_
    refine gk_iload_n (j := 1) h (by decide +kernel) rfl ?_
    refine gk_imul h (by decide +kernel) ?_
    refine gk_istore_n (j := 3) h (by decide +kernel) rfl hxn (by decide) ?_
    refine gk_iload_n (j := 2) h (by decide +kernel) rfl ?_
    refine gk_ifeq (off := 96) (tgt := 139) h (by decide +kernel) (by decide) ?_ ?_
    · refine gk_aload_n (j := 0) h (by decide +kernel) rfl ?_
      refine gk_iconst (n := 0) h (by decide +kernel) (by decide) ?_
      refine gk_iconst (n := 2) h (by decide +kernel) (by decide) ?_
      refine gk_iload_n (j := 1) h (by decide +kernel) rfl ?_
      refine gk_iadd h (by decide +kernel) ?_
      refine gk_vV (ca_v (idx := 270) h ho hm_137 (rd_le hrd (by decide)) ck_8 (by decide +kernel) kw_1259 kw_1261 kw_66 kw_101 kw_1262 rfl (by decide +kernel) (by decide)) ?_
      refine gk_iconst (n := 0) h (by decide +kernel) (by decide) ?_
      refine gk_istore h (by decide +kernel) hxn (by decide) ?_
      exact gk_jmp 4 rfl
    · refine gk_aload_n (j := 0) h (by decide +kernel) rfl ?_
      refine gk_iconst (n := 2) h (by decide +kernel) (by decide) ?_
      refine gk_iload_n (j := 1) h (by decide +kernel) rfl ?_
      refine gk_iadd h (by decide +kernel) ?_
      refine gk_iconst (n := 0) h (by decide +kernel) (by decide) ?_
      refine gk_vV (ca_v (idx := 270) h ho hm_137 (rd_le hrd (by decide)) ck_8 (by decide +kernel) kw_1259 kw_1261 kw_66 kw_101 kw_1262 rfl (by decide +kernel) (by decide)) ?_
      refine gk_aload_n (j := 0) h (by decide +kernel) rfl ?_
      refine gk_iconst (n := 0) h (by decide +kernel) (by decide) ?_
      refine gk_putZ (i := 277) h ck_8 (by decide) rfl (Or.inl rfl) (by decide +kernel) kw_1049 ?_
      refine gk_iconst (n := 0) h (by decide +kernel) (by decide) ?_
      refine gk_istore h (by decide +kernel) hxn (by decide) ?_
      exact gk_jmp 2 rfl
  | 2 =>
    show GK X Q187 62 (o_iload 4 (o_iconst 64 (o_ilt (o_aload 0 (o_getR 8 36 (o_iload 4 (o_aload 0 (o_getR 8 50 (o_iload 3 (o_iload 4 (o_i2 (fun x y => x + y) (o_iald 0 (o_iast 0 (fun x => x) (o_iinc 4 1 (o_jmp 2)))))))))))) (o_iconst 0 (o_istore 4 (o_jmp 3))))))
    refine gk_iload h (by decide +kernel) ?_
    refine gk_bipush (n := 64) h (by decide +kernel) (by decide) ?_
    refine gk_icmpge (off := 25) (tgt := 91) h (by decide +kernel) (by decide) ?_ ?_
    · refine gk_iconst (n := 0) h (by decide +kernel) (by decide) ?_
      refine gk_istore h (by decide +kernel) hxn (by decide) ?_
      exact gk_jmp 3 rfl
    · refine gk_aload_n (j := 0) h (by decide +kernel) rfl ?_
      refine gk_getR (i := 81) h ck_8 (by decide) (fun _ _ _ => rfl) (by decide +kernel) kw_1041 ?_
      refine gk_iload h (by decide +kernel) ?_
      refine gk_aload_n (j := 0) h (by decide +kernel) rfl ?_
      refine gk_getR (i := 107) h ck_8 (by decide) (fun _ _ _ => rfl) (by decide +kernel) kw_1055 ?_
      refine gk_iload_n (j := 3) h (by decide +kernel) rfl ?_
      refine gk_iload h (by decide +kernel) ?_
      refine gk_iadd h (by decide +kernel) ?_
      refine gk_ald0 h (by decide +kernel) ?_
      refine gk_ast0 h (by decide +kernel) ?_
      refine gk_iinc (z := 1) h (by decide +kernel) (by decide) hxn (by decide) ?_
      refine gk_goto (off := (-26)) (tgt := 62) h (by decide +kernel) (by decide) ?_
      exact gk_jmp 2 rfl
  | 3 =>
    show GK X Q187 94 (o_iload 4 (o_iconst 3840 (o_ilt (o_aload 0 (o_getR 8 37 (o_iload 4 (o_aload 0 (o_getR 8 50 (o_iload 3 (o_iconst 64 (o_i2 (fun x y => x + y) (o_iload 4 (o_i2 (fun x y => x + y) (o_iald 0 (o_iast 0 (fun x => x) (o_iinc 4 1 (o_jmp 3)))))))))))))) (o_aload 0 (o_aload 0 (o_getR 8 51 (o_iload 1 (o_iald 0 (o_putI 8 38 (o_iconst 1 (o_zret)))))))))))
    refine gk_iload h (by decide +kernel) ?_
    refine gk_sipush (n := 3840) h (by decide +kernel) (by decide) ?_
    refine gk_icmpge (off := 28) (tgt := 127) h (by decide +kernel) (by decide) ?_ ?_
    · refine gk_aload_n (j := 0) h (by decide +kernel) rfl ?_
      refine gk_aload_n (j := 0) h (by decide +kernel) rfl ?_
      refine gk_getR (i := 110) h ck_8 (by decide) (fun _ _ _ => rfl) (by decide +kernel) kw_1056 ?_
      refine gk_iload_n (j := 1) h (by decide +kernel) rfl ?_
      refine gk_ald0 h (by decide +kernel) ?_
      refine gk_putI (i := 274) h ck_8 (by decide) rfl (Or.inl rfl) (by decide +kernel) kw_1043 ?_
      refine gk_iconst (n := 1) h (by decide +kernel) (by decide) ?_
      exact gk_zret h hR (by decide +kernel)
    · refine gk_aload_n (j := 0) h (by decide +kernel) rfl ?_
      refine gk_getR (i := 84) h ck_8 (by decide) (fun _ _ _ => rfl) (by decide +kernel) kw_1042 ?_
      refine gk_iload h (by decide +kernel) ?_
      refine gk_aload_n (j := 0) h (by decide +kernel) rfl ?_
      refine gk_getR (i := 107) h ck_8 (by decide) (fun _ _ _ => rfl) (by decide +kernel) kw_1055 ?_
      refine gk_iload_n (j := 3) h (by decide +kernel) rfl ?_
      refine gk_bipush (n := 64) h (by decide +kernel) (by decide) ?_
      refine gk_iadd h (by decide +kernel) ?_
      refine gk_iload h (by decide +kernel) ?_
      refine gk_iadd h (by decide +kernel) ?_
      refine gk_ald0 h (by decide +kernel) ?_
      refine gk_ast0 h (by decide +kernel) ?_
      refine gk_iinc (z := 1) h (by decide +kernel) (by decide) hxn (by decide) ?_
      refine gk_goto (off := (-30)) (tgt := 94) h (by decide +kernel) (by decide) ?_
      exact gk_jmp 3 rfl
  | 4 =>
    show GK X Q187 150 (o_iload 4 (o_iconst 64 (o_ilt (o_aload 0 (o_getR 8 50 (o_iload 3 (o_iload 4 (o_i2 (fun x y => x + y) (o_aload 0 (o_getR 8 36 (o_iload 4 (o_iald 0 (o_iast 0 (fun x => x) (o_iinc 4 1 (o_jmp 4)))))))))))) (o_iconst 0 (o_istore 4 (o_jmp 5))))))
    refine gk_iload h (by decide +kernel) ?_
    refine gk_bipush (n := 64) h (by decide +kernel) (by decide) ?_
    refine gk_icmpge (off := 25) (tgt := 179) h (by decide +kernel) (by decide) ?_ ?_
    · refine gk_iconst (n := 0) h (by decide +kernel) (by decide) ?_
      refine gk_istore h (by decide +kernel) hxn (by decide) ?_
      exact gk_jmp 5 rfl
    · refine gk_aload_n (j := 0) h (by decide +kernel) rfl ?_
      refine gk_getR (i := 107) h ck_8 (by decide) (fun _ _ _ => rfl) (by decide +kernel) kw_1055 ?_
      refine gk_iload_n (j := 3) h (by decide +kernel) rfl ?_
      refine gk_iload h (by decide +kernel) ?_
      refine gk_iadd h (by decide +kernel) ?_
      refine gk_aload_n (j := 0) h (by decide +kernel) rfl ?_
      refine gk_getR (i := 81) h ck_8 (by decide) (fun _ _ _ => rfl) (by decide +kernel) kw_1041 ?_
      refine gk_iload h (by decide +kernel) ?_
      refine gk_ald0 h (by decide +kernel) ?_
      refine gk_ast0 h (by decide +kernel) ?_
      refine gk_iinc (z := 1) h (by decide +kernel) (by decide) hxn (by decide) ?_
      refine gk_goto (off := (-26)) (tgt := 150) h (by decide +kernel) (by decide) ?_
      exact gk_jmp 4 rfl
  | 5 =>
    show GK X Q187 182 (o_iload 4 (o_iconst 3840 (o_ilt (o_aload 0 (o_getR 8 50 (o_iload 3 (o_iconst 64 (o_i2 (fun x y => x + y) (o_iload 4 (o_i2 (fun x y => x + y) (o_aload 0 (o_getR 8 37 (o_iload 4 (o_iald 0 (o_iast 0 (fun x => x) (o_iinc 4 1 (o_jmp 5)))))))))))))) (o_aload 0 (o_getR 8 51 (o_iload 1 (o_aload 0 (o_getI 8 38 (o_iast 0 (fun x => x) (o_iconst 1 (o_zret)))))))))))
    refine gk_iload h (by decide +kernel) ?_
    refine gk_sipush (n := 3840) h (by decide +kernel) (by decide) ?_
    refine gk_icmpge (off := 28) (tgt := 215) h (by decide +kernel) (by decide) ?_ ?_
    · refine gk_aload_n (j := 0) h (by decide +kernel) rfl ?_
      refine gk_getR (i := 110) h ck_8 (by decide) (fun _ _ _ => rfl) (by decide +kernel) kw_1056 ?_
      refine gk_iload_n (j := 1) h (by decide +kernel) rfl ?_
      refine gk_aload_n (j := 0) h (by decide +kernel) rfl ?_
      refine gk_getI (i := 274) h ck_8 (by decide) (fun _ _ _ => rfl) (by decide +kernel) kw_1043 ?_
      refine gk_ast0 h (by decide +kernel) ?_
      refine gk_iconst (n := 1) h (by decide +kernel) (by decide) ?_
      exact gk_zret h hR (by decide +kernel)
    · refine gk_aload_n (j := 0) h (by decide +kernel) rfl ?_
      refine gk_getR (i := 107) h ck_8 (by decide) (fun _ _ _ => rfl) (by decide +kernel) kw_1055 ?_
      refine gk_iload_n (j := 3) h (by decide +kernel) rfl ?_
      refine gk_bipush (n := 64) h (by decide +kernel) (by decide) ?_
      refine gk_iadd h (by decide +kernel) ?_
      refine gk_iload h (by decide +kernel) ?_
      refine gk_iadd h (by decide +kernel) ?_
      refine gk_aload_n (j := 0) h (by decide +kernel) rfl ?_
      refine gk_getR (i := 84) h ck_8 (by decide) (fun _ _ _ => rfl) (by decide +kernel) kw_1042 ?_
      refine gk_iload h (by decide +kernel) ?_
      refine gk_ald0 h (by decide +kernel) ?_
      refine gk_ast0 h (by decide +kernel) ?_
      refine gk_iinc (z := 1) h (by decide +kernel) (by decide) hxn (by decide) ?_
      refine gk_goto (off := (-30)) (tgt := 182) h (by decide +kernel) (by decide) ?_
      exact gk_jmp 5 rfl
  | _ + 6 => exact fun _ _ _ hr => hr.elim
