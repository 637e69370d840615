set_option maxRecDepth 20000 in
set_option maxHeartbeats 4000000 in
theorem s_137 : MS mtab yX9_lays cX9_lays 3 none Q137 P137 := by
  intro X orc d h hR hnm hxn ho hrd b
  match b with
  | 0 =>
    show GK X Q137 0 (o_aload 0 (o_getR 8 10 (o_iconst 1 (o_iload 1 (o_iload 2 (o_sV orc 136 4 (o_aload 0 (o_getR 8 11 (o_iconst 1 (o_iload 1 (o_iload 2 (o_sV orc 136 4 (o_aload 0 (o_getR 8 12 (o_iconst 1 (o_iload 1 (o_iload 2 (o_sV orc 136 4 (o_aload 0 (o_getR 8 13 (o_iconst 1 (o_iload 1 (o_iload 2 (o_sV orc 136 4 (o_aload 0 (o_getR 8 14 (o_iconst 6 (o_iload 1 (o_iload 2 (o_sV orc 136 4 (o_aload 0 (o_getR 8 15 (o_iconst 6 (o_iload 1 (o_iload 2 (o_sV orc 136 4 (o_aload 0 (o_getR 8 19 (o_iconst 1000 (o_iload 1 (o_iload 2 (o_sV orc 136 4 (o_aload 0 (o_getR 8 17 (o_iload 2 (o_iconst 1000 (o_iload 2 (o_i2 (fun x y => x * y) (o_iast 0 (fun x => x) (o_aload 0 (o_getR 8 18 (o_iload 2 (o_iconst 1000 (o_iload 2 (o_i2 (fun x y => x * y) (o_aload 0 (o_getR 8 18 (o_iload 1 (o_iald 0 (o_i2 (fun x y => x + y) (o_aload 0 (o_getR 8 17 (o_iload 1 (o_iald 0 (o_i2 (fun x y => x - y) (o_iast 0 (fun x => x) (o_vret)))))))))))))))))))))))))))))))))))))))))))))))))))))))))))))))))))
    refine gk_aload_n (j := 0) h (by decide +kernel) rfl ?_
    refine gk_getR (i := 13) h ck_8 (by decide) (fun _ _ _ => rfl) (by decide +kernel) kw_1015 ?_
    refine gk_iconst (n := 1) h (by decide +kernel) (by decide) ?_
    refine gk_iload_n (j := 1) h (by decide +kernel) rfl ?_
    refine gk_iload_n (j := 2) h (by decide +kernel) rfl ?_
    refine gk_sV (ca_s (idx := 263) h ho hm_136 (rd_le hrd (by decide)) (by decide +kernel) kw_1263 kw_1264 kw_101 kw_1265 (by decide +kernel)) ?_
    refine gk_aload_n (j := 0) h (by decide +kernel) rfl ?_
    refine gk_getR (i := 16) h ck_8 (by decide) (fun _ _ _ => rfl) (by decide +kernel) kw_1016 ?_
    refine gk_iconst (n := 1) h (by decide +kernel) (by decide) ?_
    refine gk_iload_n (j := 1) h (by decide +kernel) rfl ?_
    refine gk_iload_n (j := 2) h (by decide +kernel) rfl ?_
    refine gk_sV (ca_s (idx := 263) h ho hm_136 (rd_le hrd (by decide)) (by decide +kernel) kw_1263 kw_1264 kw_101 kw_1265 (by decide +kernel)) ?_
    refine gk_aload_n (j := 0) h (by decide +kernel) rfl ?_
    refine gk_getR (i := 19) h ck_8 (by decide) (fun _ _ _ => rfl) (by decide +kernel) kw_1017 ?_
    refine gk_iconst (n := 1) h (by decide +kernel) (by decide) ?_
    refine gk_iload_n (j := 1) h (by decide +kernel) rfl ?_
    refine gk_iload_n (j := 2) h (by decide +kernel) rfl ?_
    refine gk_sV (ca_s (idx := 263) h ho hm_136 (rd_le hrd (by decide)) (by decide +kernel) kw_1263 kw_1264 kw_101 kw_1265 (by decide +kernel)) ?_
    refine gk_aload_n (j := 0) h (by decide +kernel) rfl ?_
    refine gk_getR (i := 22) h ck_8 (by decide) (fun _ _ _ => rfl) (by decide +kernel) kw_1018 ?_
    refine gk_iconst (n := 1) h (by decide +kernel) (by decide) ?_
    refine gk_iload_n (j := 1) h (by decide +kernel) rfl ?_
    refine gk_iload_n (j := 2) h (by decide +kernel) rfl ?_
    refine gk_sV (ca_s (idx := 263) h ho hm_136 (rd_le hrd (by decide)) (by decide +kernel) kw_1263 kw_1264 kw_101 kw_1265 (by decide +kernel)) ?_
    refine gk_aload_n (j := 0) h (by decide +kernel) rfl ?_
    refine gk_getR (i := 25) h ck_8 (by decide) (fun _ _ _ => rfl) (by decide +kernel) kw_1019 ?_
    refine gk_bipush (n := 6) h (by decide +kernel) (by decide) ?_
    refine gk_iload_n (j := 1) h (by decide +kernel) rfl ?_
    refine gk_iload_n (j := 2) h (by decide +kernel) rfl ?_
    refine gk_sV (ca_s (idx := 263) h ho hm_136 (rd_le hrd (by decide)) (by decide +kernel) kw_1263 kw_1264 kw_101 kw_1265 (by decide +kernel)) ?_
    refine gk_aload_n (j := 0) h (by decide +kernel) rfl ?_
    refine gk_getR (i := 28) h ck_8 (by decide) (fun _ _ _ => rfl) (by decide +kernel) kw_1020 ?_
    refine gk_bipush (n := 6) h (by decide +kernel) (by decide) ?_
    refine gk_iload_n (j := 1) h (by decide +kernel) rfl ?_
    refine gk_iload_n (j := 2) h (by decide +kernel) rfl ?_
    refine gk_sV (ca_s (idx := 263) h ho hm_136 (rd_le hrd (by decide)) (by decide +kernel) kw_1263 kw_1264 kw_101 kw_1265 (by decide +kernel)) ?_
    refine gk_aload_n (j := 0) h (by decide +kernel) rfl ?_
    refine gk_getR (i := 41) h ck_8 (by decide) (fun _ _ _ => rfl) (by decide +kernel) kw_1024 ?_
    refine gk_sipush (n := 1000) h (by decide +kernel) (by decide) ?_
    refine gk_iload_n (j := 1) h (by decide +kernel) rfl ?_
    refine gk_iload_n (j := 2) h (by decide +kernel) rfl ?_
    refine gk_sV (ca_s (idx := 263) h ho hm_136 (rd_le hrd (by decide)) (by decide +kernel) kw_1263 kw_1264 kw_101 kw_1265 (by decide +kernel)) ?_
    refine gk_aload_n (j := 0) h (by decide +kernel) rfl ?_
    refine gk_getR (i := 35) h ck_8 (by decide) (fun _ _ _ => rfl) (by decide +kernel) kw_1022 ?_
    refine gk_iload_n (j := 2) h (by decide +kernel) rfl ?_
    refine gk_sipush (n := 1000) h (by decide +kernel) (by decide) ?_
    refine gk_iload_n (j := 2) h (by decide +kernel) rfl ?_
    refine gk_imul h (by decide +kernel) ?_
    refine gk_ast0 h (by decide +kernel) ?_
    refine gk_aload_n (j := 0) h (by decide +kernel) rfl ?_
    refine gk_getR (i := 38) h ck_8 (by decide) (fun _ _ _ => rfl) (by decide +kernel) kw_1023 ?_
    refine gk_iload_n (j := 2) h (by decide +kernel) rfl ?_
    refine gk_sipush (n := 1000) h (by decide +kernel) (by decide) ?_
    refine gk_iload_n (j := 2) h (by decide +kernel) rfl ?_
    refine gk_imul h (by decide +kernel) ?_
    refine gk_aload_n (j := 0) h (by decide +kernel) rfl ?_
    refine gk_getR (i := 38) h ck_8 (by decide) (fun _ _ _ => rfl) (by decide +kernel) kw_1023 ?_
    refine gk_iload_n (j := 1) h (by decide +kernel) rfl ?_
    refine gk_ald0 h (by decide +kernel) ?_
    refine gk_iadd h (by decide +kernel) ?_
    refine gk_aload_n (j := 0) h (by decide +kernel) rfl ?_
    refine gk_getR (i := 35) h ck_8 (by decide) (fun _ _ _ => rfl) (by decide +kernel) kw_1022 ?_
    refine gk_iload_n (j := 1) h (by decide +kernel) rfl ?_
    refine gk_ald0 h (by decide +kernel) ?_
    refine gk_isub h (by decide +kernel) ?_
    refine gk_ast0 h (by decide +kernel) ?_
    exact gk_vret h hR (by decide +kernel)
  | _ + 1 => exact fun _ _ _ hr => hr.elim
set_option maxRecDepth 20000 in
set_option maxHeartbeats 4000000 in
theorem s_138 : MS mtab yX9_truce cX9_truce 1 (some .int) Q138 P138 := by
  intro X orc d h hR hnm hxn ho hrd b
  match b with
  | 0 =>
    show GK X Q138 0 (o_aload 0 (o_iconst 0 (o_putI 8 0 (o_aload 0 (o_vI orc 135 1 8 (o_if0 (o_aload 0 (o_getI 8 9 (o_iret))) (o_aload 0 (o_iconst 1 (o_iconst 0 (o_vV orc 137 3 8 (o_aload 0 (o_vV orc 139 1 8 (o_iconst 0 (o_iret))))))))))))))
    refine gk_aload_n (j := 0) h (by decide +kernel) rfl ?_
    refine gk_iconst (n := 0) h (by decide +kernel) (by decide) ?_
    refine gk_putI (i := 116) h ck_8 (by decide) rfl (Or.inl rfl) (by decide +kernel) kw_1005 ?_
    refine gk_aload_n (j := 0) h (by decide +kernel) rfl ?_
    refine gk_vI (ca_v (idx := 267) h ho hm_135 (rd_le hrd (by decide)) ck_8 (by decide +kernel) kw_1176 kw_1178 kw_50 kw_101 kw_1179 rfl (by decide +kernel) (by decide)) ?_
    refine gk_ifne (off := 8) (tgt := 17) h (by decide +kernel) (by decide) ?_ ?_
    · refine gk_aload_n (j := 0) h (by decide +kernel) rfl ?_
      refine gk_iconst (n := 1) h (by decide +kernel) (by decide) ?_
      refine gk_iconst (n := 0) h (by decide +kernel) (by decide) ?_
      refine gk_vV (ca_v (idx := 270) h ho hm_137 (rd_le hrd (by decide)) ck_8 (by decide +kernel) kw_1259 kw_1261 kw_66 kw_101 kw_1262 rfl (by decide +kernel) (by decide)) ?_
      refine gk_aload_n (j := 0) h (by decide +kernel) rfl ?_
      refine gk_vV (ca_v (idx := 113) h ho hm_139 (rd_le hrd (by decide)) ck_8 (by decide +kernel) kw_954 kw_956 kw_38 kw_101 kw_957 rfl (by decide +kernel) (by decide)) ?_
      refine gk_iconst (n := 0) h (by decide +kernel) (by decide) ?_
      exact gk_iret h hR (by decide +kernel)
    · refine gk_aload_n (j := 0) h (by decide +kernel) rfl ?_
      refine gk_getI (i := 152) h ck_8 (by decide) (fun _ _ _ => rfl) (by decide +kernel) kw_1014 ?_
      exact gk_iret h hR (by decide +kernel)
  | _ + 1 => exact fun _ _ _ hr => hr.elim
set_option maxRecDepth 20000 in
set_option maxHeartbeats 4000000 in
theorem s_139 : MS mtab yX9_begins cX9_begins 1 none Q139 P139 := by
  intro X orc d h hR hnm hxn ho hrd b
  match b with
  | 0 =>
    show GK X Q139 0 (o_aload 0 (o_iconst 0 (o_putI 8 38 (o_aload 0 (o_iconst 0 (o_putZ 8 44 (o_aload 0 (o_iconst 0 (o_vV orc 140 2 8 (o_aload 0 (o_iconst 0 (o_vV orc 142 2 8 (o_vret)))))))))))))
    refine gk_aload_n (j := 0) h (by decide +kernel) rfl ?_
    refine gk_iconst (n := 0) h (by decide +kernel) (by decide) ?_
    refine gk_putI (i := 274) h ck_8 (by decide) rfl (Or.inl rfl) (by decide +kernel) kw_1043 ?_
    refine gk_aload_n (j := 0) h (by decide +kernel) rfl ?_
    refine gk_iconst (n := 0) h (by decide +kernel) (by decide) ?_
    refine gk_putZ (i := 277) h ck_8 (by decide) rfl (Or.inl rfl) (by decide +kernel) kw_1049 ?_
    refine gk_aload_n (j := 0) h (by decide +kernel) rfl ?_
    refine gk_iconst (n := 0) h (by decide +kernel) (by decide) ?_
    refine gk_vV (ca_v (idx := 280) h ho hm_140 (rd_le hrd (by decide)) ck_8 (by decide +kernel) kw_958 kw_960 kw_39 kw_101 kw_961 rfl (by decide +kernel) (by decide)) ?_
    refine gk_aload_n (j := 0) h (by decide +kernel) rfl ?_
    refine gk_iconst (n := 0) h (by decide +kernel) (by decide) ?_
    refine gk_vV (ca_v (idx := 283) h ho hm_142 (rd_le hrd (by decide)) ck_8 (by decide +kernel) kw_962 kw_964 kw_40 kw_101 kw_965 rfl (by decide +kernel) (by decide)) ?_
    exact gk_vret h hR (by decide +kernel)
  | _ + 1 => exact fun _ _ _ hr => hr.elim
set_option maxRecDepth 20000 in
set_option maxHeartbeats 4000000 in
theorem s_140 : MS mtab yX9_nothing cX9_nothing 3 none Q140 P140 := by
  intro X orc d h hR hnm hxn ho hrd b
  match b with
  | 0 =>
    show GK X Q140 0 (o_iconst 0 (o_istore 2 (o_jmp 1)))
    refine gk_iconst (n := 0) h (by decide +kernel) (by decide) ?_
    refine gk_istore_n (j := 2) h (by decide +kernel) rfl hxn (by decide) ?_
    exact gk_jmp 1 rfl
  | 1 =>
    show GK X Q140 2 (o_iload 2 (o_iconst 64 (o_ilt (o_aload 0 (o_getR 8 36 (o_iload 1 (o_iload 2 (o_i2 (fun x y => x + y) (o_iconst 0 (o_iast 0 (fun x => x) (o_iinc 2 1 (o_jmp 1))))))))) (o_aload 0 (o_getR 8 36 (o_iload 1 (o_iconst 40 (o_i2 (fun x y => x + y) (o_aload 0 (o_getR 8 13 (o_iconst 0 (o_iald 0 (o_iast 0 (fun x => x) (o_aload 0 (o_getR 8 36 (o_iload 1 (o_iconst 40 (o_i2 (fun x y => x + y) (o_iconst 1 (o_i2 (fun x y => x + y) (o_aload 0 (o_getR 8 13 (o_iconst 0 (o_iald 0 (o_iast 0 (fun x => x) (o_vret))))))))))))))))))))))))))
    refine gk_iload_n (j := 2) h (by decide +kernel) rfl ?_
    refine gk_bipush (n := 64) h (by decide +kernel) (by decide) ?_
    refine gk_icmpge (off := 18) (tgt := 23) h (by decide +kernel) (by decide) ?_ ?_
    · refine gk_aload_n (j := 0) h (by decide +kernel) rfl ?_
      refine gk_getR (i := 81) h ck_8 (by decide) (fun _ _ _ => rfl) (by decide +kernel) kw_1041 ?_
      refine gk_iload_n (j := 1) h (by decide +kernel) rfl ?_
      refine gk_bipush (n := 40) h (by decide +kernel) (by decide) ?_
      refine gk_iadd h (by decide +kernel) ?_
      refine gk_aload_n (j := 0) h (by decide +kernel) rfl ?_
      refine gk_getR (i := 22) h ck_8 (by decide) (fun _ _ _ => rfl) (by decide +kernel) kw_1018 ?_
      refine gk_iconst (n := 0) h (by decide +kernel) (by decide) ?_
      refine gk_ald0 h (by decide +kernel) ?_
      refine gk_ast0 h (by decide +kernel) ?_
      refine gk_aload_n (j := 0) h (by decide +kernel) rfl ?_
      refine gk_getR (i := 81) h ck_8 (by decide) (fun _ _ _ => rfl) (by decide +kernel) kw_1041 ?_
      refine gk_iload_n (j := 1) h (by decide +kernel) rfl ?_
      refine gk_bipush (n := 40) h (by decide +kernel) (by decide) ?_
      refine gk_iadd h (by decide +kernel) ?_
      refine gk_iconst (n := 1) h (by decide +kernel) (by decide) ?_
      refine gk_iadd h (by decide +kernel) ?_
      refine gk_aload_n (j := 0) h (by decide +kernel) rfl ?_
      refine gk_getR (i := 22) h ck_8 (by decide) (fun _ _ _ => rfl) (by decide +kernel) kw_1018 ?_
      refine gk_iconst (n := 0) h (by decide +kernel) (by decide) ?_
      refine gk_ald0 h (by decide +kernel) ?_
      refine gk_ast0 h (by decide +kernel) ?_
      exact gk_vret h hR (by decide +kernel)
    · refine gk_aload_n (j := 0) h (by decide +kernel) rfl ?_
      refine gk_getR (i := 81) h ck_8 (by decide) (fun _ _ _ => rfl) (by decide +kernel) kw_1041 ?_
      refine gk_iload_n (j := 1) h (by decide +kernel) rfl ?_
      refine gk_iload_n (j := 2) h (by decide +kernel) rfl ?_
      refine gk_iadd h (by decide +kernel) ?_
      refine gk_iconst (n := 0) h (by decide +kernel) (by decide) ?_
      refine gk_ast0 h (by decide +kernel) ?_
      refine gk_iinc (z := 1) h (by decide +kernel) (by decide) hxn (by decide) ?_
      refine gk_goto (off := (-18)) (tgt := 2) h (by decide +kernel) (by decide) ?_
      exact gk_jmp 1 rfl
  | _ + 2 => exact fun _ _ _ hr => hr.elim
set_option maxRecDepth 20000 in
set_option maxHeartbeats 4000000 in
theorem s_141 : MS mtab yX9_isClosed cX9_isClosed 3 (some .boolean) Q141 P141 := by
  intro X orc d h hR hnm hxn ho hrd b
  match b with
  | 0 =>
    show GK X Q141 0 (o_iconst 0 (o_istore 2 (o_jmp 1)))
    refine gk_iconst (n := 0) h (by decide +kernel) (by decide) ?_
    refine gk_istore_n (j := 2) h (by decide +kernel) rfl hxn (by decide) ?_
    exact gk_jmp 1 rfl
  | 1 =>
    show GK X Q141 2 (o_iload 2 (o_aload 0 (o_getR 8 10 (o_iconst 0 (o_iald 0 (o_ilt (o_aload 0 (o_getR 8 36 (o_iload 1 (o_iconst 10 (o_i2 (fun x y => x + y) (o_iload 2 (o_i2 (fun x y => x + y) (o_iald 0 (o_if0 (o_aload 0 (o_getR 8 36 (o_iload 1 (o_iload 2 (o_i2 (fun x y => x + y) (o_iald 0 (o_aload 0 (o_getR 8 11 (o_iconst 0 (o_iald 0 (o_ilt (o_iconst 0 (o_zret)) (o_jmp 2)))))))))))) (o_jmp 2)))))))))) (o_iconst 1 (o_zret))))))))
    refine gk_iload_n (j := 2) h (by decide +kernel) rfl ?_
    refine gk_aload_n (j := 0) h (by decide +kernel) rfl ?_
    refine gk_getR (i := 13) h ck_8 (by decide) (fun _ _ _ => rfl) (by decide +kernel) kw_1015 ?_
    refine gk_iconst (n := 0) h (by decide +kernel) (by decide) ?_
    refine gk_ald0 h (by decide +kernel) ?_
    refine gk_icmpge (off := 42) (tgt := 51) h (by decide +kernel) (by decide) ?_ ?_
    · refine gk_iconst (n := 1) h (by decide +kernel) (by decide) ?_
      exact gk_zret h hR (by decide +kernel)
    · refine gk_aload_n (j := 0) h (by decide +kernel) rfl ?_
      refine gk_getR (i := 81) h ck_8 (by decide) (fun _ _ _ => rfl) (by decide +kernel) kw_1041 ?_
      refine gk_iload_n (j := 1) h (by decide +kernel) rfl ?_
      refine gk_bipush (n := 10) h (by decide +kernel) (by decide) ?_
      refine gk_iadd h (by decide +kernel) ?_
      refine gk_iload_n (j := 2) h (by decide +kernel) rfl ?_
      refine gk_iadd h (by decide +kernel) ?_
      refine gk_ald0 h (by decide +kernel) ?_
      refine gk_ifne (off := 22) (tgt := 45) h (by decide +kernel) (by decide) ?_ ?_
      · exact gk_jmp 2 rfl
      · refine gk_aload_n (j := 0) h (by decide +kernel) rfl ?_
        refine gk_getR (i := 81) h ck_8 (by decide) (fun _ _ _ => rfl) (by decide +kernel) kw_1041 ?_
        refine gk_iload_n (j := 1) h (by decide +kernel) rfl ?_
        refine gk_iload_n (j := 2) h (by decide +kernel) rfl ?_
        refine gk_iadd h (by decide +kernel) ?_
        refine gk_ald0 h (by decide +kernel) ?_
        refine gk_aload_n (j := 0) h (by decide +kernel) rfl ?_
        refine gk_getR (i := 16) h ck_8 (by decide) (fun _ _ _ => rfl) (by decide +kernel) kw_1016 ?_
        refine gk_iconst (n := 0) h (by decide +kernel) (by decide) ?_
        refine gk_ald0 h (by decide +kernel) ?_
        refine gk_icmpge (off := 5) (tgt := 45) h (by decide +kernel) (by decide) ?_ ?_
        · exact gk_jmp 2 rfl
        · refine gk_iconst (n := 0) h (by decide +kernel) (by decide) ?_
          exact gk_zret h hR (by decide +kernel)
  | 2 =>
    show GK X Q141 45 (o_iinc 2 1 (o_jmp 1))
    refine gk_iinc (z := 1) h (by decide +kernel) (by decide) hxn (by decide) ?_
    refine gk_goto (off := (-46)) (tgt := 2) h (by decide +kernel) (by decide) ?_
    exact gk_jmp 1 rfl
  | _ + 3 => exact fun _ _ _ hr => hr.elim
set_option maxRecDepth 20000 in
set_option maxHeartbeats 4000000 in
theorem s_142 : MS mtab yX9_looks cX9_looks 3 none Q142 P142 := by
  intro X orc d h hR hnm hxn ho hrd b
  match b with
  | 0 =>
    show GK X Q142 0 (o_aload 0 (o_getR 8 36 (o_iload 1 (o_iconst 45 (o_i2 (fun x y => x + y) (o_iald 0 (o_ifp (o_aload 0 (o_iload 1 (o_vI orc 141 2 8 (o_if0 (o_jmp 1) (o_iconst 1 (o_jmp 2)))))) (o_jmp 1))))))))
    refine gk_aload_n (j := 0) h (by decide +kernel) rfl ?_
    refine gk_getR (i := 81) h ck_8 (by decide) (fun _ _ _ => rfl) (by decide +kernel) kw_1041 ?_
    refine gk_iload_n (j := 1) h (by decide +kernel) rfl ?_
    refine gk_bipush (n := 45) h (by decide +kernel) (by decide) ?_
    refine gk_iadd h (by decide +kernel) ?_
    refine gk_ald0 h (by decide +kernel) ?_
    refine gk_ifle (off := 15) (tgt := 24) h (by decide +kernel) (by decide) ?_ ?_
    · exact gk_jmp 1 rfl
    · refine gk_aload_n (j := 0) h (by decide +kernel) rfl ?_
      refine gk_iload_n (j := 1) h (by decide +kernel) rfl ?_
      refine gk_vI (ca_v (idx := 286) h ho hm_141 (rd_le hrd (by decide)) ck_8 (by decide +kernel) kw_966 kw_968 kw_41 kw_101 kw_969 rfl (by decide +kernel) (by decide)) ?_
      refine gk_ifeq (off := 7) (tgt := 24) h (by decide +kernel) (by decide) ?_ ?_
      · exact gk_jmp 1 rfl
      · refine gk_iconst (n := 1) h (by decide +kernel) (by decide) ?_
        refine gk_goto (off := 4) (tgt := 25) h (by decide +kernel) (by decide) ?_
        exact gk_jmp 2 rfl
  | 1 =>
    show GK X Q142 24 (o_iconst 0 (o_jmp 2))
    refine gk_iconst (n := 0) h (by decide +kernel) (by decide) ?_
    exact gk_jmp 2 rfl
  | 2 =>
    show GK X Q142 25 (o_istore 2 (o_aload 0 (o_getR 8 36 (o_iload 1 (o_iconst 44 (o_i2 (fun x y => x + y) (o_iload 2 (o_if0 (o_iconst 0 (o_jmp 3)) (o_iconst 1 (o_jmp 3))))))))))
    refine gk_istore_n (j := 2) h (by decide +kernel) rfl hxn (by decide) ?_
    refine gk_aload_n (j := 0) h (by decide +kernel) rfl ?_
    refine gk_getR (i := 81) h ck_8 (by decide) (fun _ _ _ => rfl) (by decide +kernel) kw_1041 ?_
    refine gk_iload_n (j := 1) h (by decide +kernel) rfl ?_
    refine gk_bipush (n := 44) h (by decide +kernel) (by decide) ?_
    refine gk_iadd h (by decide +kernel) ?_
    refine gk_iload_n (j := 2) h (by decide +kernel) rfl ?_
    refine gk_ifeq (off := 7) (tgt := 42) h (by decide +kernel) (by decide) ?_ ?_
    · refine gk_iconst (n := 0) h (by decide +kernel) (by decide) ?_
      exact gk_jmp 3 rfl
    · refine gk_iconst (n := 1) h (by decide +kernel) (by decide) ?_
      refine gk_goto (off := 4) (tgt := 43) h (by decide +kernel) (by decide) ?_
      exact gk_jmp 3 rfl
  | 3 =>
    show GK X Q142 43 (o_iast 0 (fun x => x) (o_aload 0 (o_getR 8 36 (o_iload 1 (o_iconst 43 (o_i2 (fun x y => x + y) (o_iload 2 (o_if0 (o_aload 0 (o_iload 1 (o_vI orc 150 2 8 (o_if0 (o_iconst 1 (o_aload 0 (o_getR 8 36 (o_iload 1 (o_iconst 42 (o_i2 (fun x y => x + y) (o_iald 0 (o_i2 (fun x y => x + y) (o_jmp 4))))))))) (o_iconst 0 (o_jmp 4)))))) (o_iconst 2 (o_aload 0 (o_getR 8 36 (o_iload 1 (o_iconst 42 (o_i2 (fun x y => x + y) (o_iald 0 (o_i2 (fun x y => x - y) (o_jmp 4)))))))))))))))))
    refine gk_ast0 h (by decide +kernel) ?_
    refine gk_aload_n (j := 0) h (by decide +kernel) rfl ?_
    refine gk_getR (i := 81) h ck_8 (by decide) (fun _ _ _ => rfl) (by decide +kernel) kw_1041 ?_
    refine gk_iload_n (j := 1) h (by decide +kernel) rfl ?_
    refine gk_bipush (n := 43) h (by decide +kernel) (by decide) ?_
    refine gk_iadd h (by decide +kernel) ?_
    refine gk_iload_n (j := 2) h (by decide +kernel) rfl ?_
    refine gk_ifeq (off := 17) (tgt := 70) h (by decide +kernel) (by decide) ?_ ?_
    · refine gk_aload_n (j := 0) h (by decide +kernel) rfl ?_
      refine gk_iload_n (j := 1) h (by decide +kernel) rfl ?_
      refine gk_vI (ca_v (idx := 289) h ho hm_150 (rd_le hrd (by decide)) ck_8 (by decide +kernel) kw_970 kw_972 kw_42 kw_101 kw_973 rfl (by decide +kernel) (by decide)) ?_
      refine gk_ifne (off := 17) (tgt := 92) h (by decide +kernel) (by decide) ?_ ?_
      · refine gk_iconst (n := 0) h (by decide +kernel) (by decide) ?_
        exact gk_jmp 4 rfl
      · refine gk_iconst (n := 1) h (by decide +kernel) (by decide) ?_
        refine gk_aload_n (j := 0) h (by decide +kernel) rfl ?_
        refine gk_getR (i := 81) h ck_8 (by decide) (fun _ _ _ => rfl) (by decide +kernel) kw_1041 ?_
        refine gk_iload_n (j := 1) h (by decide +kernel) rfl ?_
        refine gk_bipush (n := 42) h (by decide +kernel) (by decide) ?_
        refine gk_iadd h (by decide +kernel) ?_
        refine gk_ald0 h (by decide +kernel) ?_
        refine gk_iadd h (by decide +kernel) ?_
        refine gk_goto (off := 4) (tgt := 93) h (by decide +kernel) (by decide) ?_
        exact gk_jmp 4 rfl
    · refine gk_iconst (n := 2) h (by decide +kernel) (by decide) ?_
      refine gk_aload_n (j := 0) h (by decide +kernel) rfl ?_
      refine gk_getR (i := 81) h ck_8 (by decide) (fun _ _ _ => rfl) (by decide +kernel) kw_1041 ?_
      refine gk_iload_n (j := 1) h (by decide +kernel) rfl ?_
      refine gk_bipush (n := 42) h (by decide +kernel) (by decide) ?_
      refine gk_iadd h (by decide +kernel) ?_
      refine gk_ald0 h (by decide +kernel) ?_
      refine gk_isub h (by decide +kernel) ?_
      refine gk_goto (off := 26) (tgt := 93) h (by decide +kernel) (by decide) ?_
      exact gk_jmp 4 rfl
  | 4 =>
    show GK X Q142 93 (o_iast 0 (fun x => x) (o_vret))
    refine gk_ast0 h (by decide +kernel) ?_
    exact gk_vret h hR (by decide +kernel)
  | _ + 5 => exact fun _ _ _ hr => hr.elim
set_option maxRecDepth 20000 in
set_option maxHeartbeats 4000000 in
theorem s_143 : MS mtab yX9_isColumn cX9_isColumn 2 (some .boolean) Q143 P143 := by
  intro X orc d h hR hnm hxn ho hrd b
  match b with
  | 0 =>
    show GK X Q143 0 (o_iload 1 (o_ifn (o_iconst 0 (o_zret)) (o_iload 1 (o_aload 0 (o_getR 8 10 (o_iconst 0 (o_iald 0 (o_ilt (o_iconst 1 (o_zret)) (o_iconst 0 (o_zret))))))))))
    refine gk_iload_n (j := 1) h (by decide +kernel) rfl ?_
    refine gk_iflt (off := 17) (tgt := 18) h (by decide +kernel) (by decide) ?_ ?_
    · refine gk_iconst (n := 0) h (by decide +kernel) (by decide) ?_
      exact gk_zret h hR (by decide +kernel)
    · refine gk_iload_n (j := 1) h (by decide +kernel) rfl ?_
      refine gk_aload_n (j := 0) h (by decide +kernel) rfl ?_
      refine gk_getR (i := 13) h ck_8 (by decide) (fun _ _ _ => rfl) (by decide +kernel) kw_1015 ?_
      refine gk_iconst (n := 0) h (by decide +kernel) (by decide) ?_
      refine gk_ald0 h (by decide +kernel) ?_
      refine gk_icmpge (off := 7) (tgt := 18) h (by decide +kernel) (by decide) ?_ ?_
      · refine gk_iconst (n := 0) h (by decide +kernel) (by decide) ?_
        exact gk_zret h hR (by decide +kernel)
      · refine gk_iconst (n := 1) h (by decide +kernel) (by decide) ?_
        refine gk_goto (off := 4) (tgt := 19) h (by decide +kernel) (by decide) ?_
        exact gk_zret h hR (by decide +kernel)
  | _ + 1 => exact fun _ _ _ hr => hr.elim
set_option maxRecDepth 20000 in
set_option maxHeartbeats 4000000 in
theorem s_144 : MS mtab yX9_otherOf cX9_otherOf 2 (some .int) Q144 P144 := by
  intro X orc d h hR hnm hxn ho hrd b
  match b with
  | 0 =>
    show GK X Q144 0 (o_aload 0 (o_getR 8 10 (o_iconst 0 (o_iald 0 (o_iconst 1 (o_i2 (fun x y => x - y) (o_iload 1 (o_i2 (fun x y => x - y) (o_iret)))))))))
    refine gk_aload_n (j := 0) h (by decide +kernel) rfl ?_
    refine gk_getR (i := 13) h ck_8 (by decide) (fun _ _ _ => rfl) (by decide +kernel) kw_1015 ?_
    refine gk_iconst (n := 0) h (by decide +kernel) (by decide) ?_
    refine gk_ald0 h (by decide +kernel) ?_
    refine gk_iconst (n := 1) h (by decide +kernel) (by decide) ?_
    refine gk_isub h (by decide +kernel) ?_
    refine gk_iload_n (j := 1) h (by decide +kernel) rfl ?_
    refine gk_isub h (by decide +kernel) ?_
    exact gk_iret h hR (by decide +kernel)
  | _ + 1 => exact fun _ _ _ hr => hr.elim
set_option maxRecDepth 20000 in
set_option maxHeartbeats 4000000 in
theorem s_145 : MS mtab yX9_isWide cX9_isWide 3 (some .boolean) Q145 P145 := by
  intro X orc d h hR hnm hxn ho hrd b
  match b with
  | 0 =>
    show GK X Q145 0 (o_aload 0 (o_getR 8 14 (o_iload 1 (o_iald 0 (o_iconst 5 (o_ieq (o_iload 2 (o_iconst 1 (o_aload 0 (o_getR 8 15 (o_iload 1 (o_iald 0 (o_sI orc 114 3 (o_zret)))))))) (o_iload 2 (o_aload 0 (o_getR 8 15 (o_iload 1 (o_iald 0 (o_ieq (o_iconst 1 (o_zret)) (o_iconst 0 (o_zret))))))))))))))
    refine gk_aload_n (j := 0) h (by decide +kernel) rfl ?_
    refine gk_getR (i := 25) h ck_8 (by decide) (fun _ _ _ => rfl) (by decide +kernel) kw_1019 ?_
    refine gk_iload_n (j := 1) h (by decide +kernel) rfl ?_
    refine gk_ald0 h (by decide +kernel) ?_
    refine gk_iconst (n := 5) h (by decide +kernel) (by decide) ?_
    refine gk_icmpne (off := 17) (tgt := 24) h (by decide +kernel) (by decide) ?_ ?_
    · refine gk_iload_n (j := 2) h (by decide +kernel) rfl ?_
      refine gk_aload_n (j := 0) h (by decide +kernel) rfl ?_
      refine gk_getR (i := 28) h ck_8 (by decide) (fun _ _ _ => rfl) (by decide +kernel) kw_1020 ?_
      refine gk_iload_n (j := 1) h (by decide +kernel) rfl ?_
      refine gk_ald0 h (by decide +kernel) ?_
      refine gk_icmpne (off := 7) (tgt := 38) h (by decide +kernel) (by decide) ?_ ?_
      · refine gk_iconst (n := 0) h (by decide +kernel) (by decide) ?_
        exact gk_zret h hR (by decide +kernel)
      · refine gk_iconst (n := 1) h (by decide +kernel) (by decide) ?_
        refine gk_goto (off := 4) (tgt := 39) h (by decide +kernel) (by decide) ?_
        exact gk_zret h hR (by decide +kernel)
    · refine gk_iload_n (j := 2) h (by decide +kernel) rfl ?_
      refine gk_iconst (n := 1) h (by decide +kernel) (by decide) ?_
      refine gk_aload_n (j := 0) h (by decide +kernel) rfl ?_
      refine gk_getR (i := 28) h ck_8 (by decide) (fun _ _ _ => rfl) (by decide +kernel) kw_1020 ?_
      refine gk_iload_n (j := 1) h (by decide +kernel) rfl ?_
      refine gk_ald0 h (by decide +kernel) ?_
      refine gk_sI (ca_s (idx := 223) h ho hm_114 (rd_le hrd (by decide)) (by decide +kernel) kw_990 kw_991 kw_101 kw_992 (by decide +kernel)) ?_
      refine gk_goto (off := 18) (tgt := 39) h (by decide +kernel) (by decide) ?_
      exact gk_zret h hR (by decide +kernel)
  | _ + 1 => exact fun _ _ _ hr => hr.elim
set_option maxRecDepth 20000 in
set_option maxHeartbeats 4000000 in
theorem s_146 : MS mtab yX9_stands cX9_stands 9 (some .boolean) Q146 P146 := by
  intro X orc d h hR hnm hxn ho hrd b
  match b with
  | 0 =>
    show GK X Q146 0 (o_aload 0 (o_getR 8 14 (o_iload 2 (o_iald 0 (o_istore 5 (o_aload 0 (o_getR 8 36 (o_iload 1 (o_iload 3 (o_i2 (fun x y => x + y) (o_iald 0 (o_istore 6 (o_iload 5 (o_iconst 3 (o_ieq (o_iconst 1 (o_zret)) (o_iload 5 (o_iconst 2 (o_ieq (o_iload 3 (o_if0 (o_jmp 1) (o_aload 0 (o_getR 8 36 (o_iload 1 (o_iconst 10 (o_i2 (fun x y => x + y) (o_iload 3 (o_i2 (fun x y => x + y) (o_iconst 1 (o_i2 (fun x y => x - y) (o_iald 0 (o_ifp (o_jmp 1) (o_aload 0 (o_getR 8 36 (o_iload 1 (o_iload 3 (o_i2 (fun x y => x + y) (o_iconst 1 (o_i2 (fun x y => x - y) (o_iald 0 (o_iload 6 (o_igt (o_jmp 1) (o_iconst 0 (o_zret))))))))))))))))))))))))) (o_iload 3 (o_iconst 1 (o_i2 (fun x y => x + y) (o_istore 7 (o_jmp 3)))))))))))))))))))))))
    refine gk_aload_n (j := 0) h (by decide +kernel) rfl ?_
    refine gk_getR (i := 25) h ck_8 (by decide) (fun _ _ _ => rfl) (by decide +kernel) kw_1019 ?_
    refine gk_iload_n (j := 2) h (by decide +kernel) rfl ?_
    refine gk_ald0 h (by decide +kernel) ?_
    refine gk_istore h (by decide +kernel) hxn (by decide) ?_
    refine gk_aload_n (j := 0) h (by decide +kernel) rfl ?_
    refine gk_getR (i := 81) h ck_8 (by decide) (fun _ _ _ => rfl) (by decide +kernel) kw_1041 ?_
    refine gk_iload_n (j := 1) h (by decide +kernel) rfl ?_
    refine gk_iload_n (j := 3) h (by decide +kernel) rfl ?_
    refine gk_iadd h (by decide +kernel) ?_
    refine gk_ald0 h (by decide +kernel) ?_
    refine gk_istore h (by decide +kernel) hxn (by decide) ?_
    refine gk_iload h (by decide +kernel) ?_
    refine gk_iconst (n := 3) h (by decide +kernel) (by decide) ?_
    refine gk_icmpne (off := 5) (tgt := 26) h (by decide +kernel) (by decide) ?_ ?_
    · refine gk_iload h (by decide +kernel) ?_
      refine gk_iconst (n := 2) h (by decide +kernel) (by decide) ?_
      refine gk_icmpne (off := 87) (tgt := 116) h (by decide +kernel) (by decide) ?_ ?_
      · refine gk_iload_n (j := 3) h (by decide +kernel) rfl ?_
        refine gk_iconst (n := 1) h (by decide +kernel) (by decide) ?_
        refine gk_iadd h (by decide +kernel) ?_
        refine gk_istore h (by decide +kernel) hxn (by decide) ?_
        exact gk_jmp 3 rfl
      · refine gk_iload_n (j := 3) h (by decide +kernel) rfl ?_
        refine gk_ifeq (off := 34) (tgt := 67) h (by decide +kernel) (by decide) ?_ ?_
        · exact gk_jmp 1 rfl
        · refine gk_aload_n (j := 0) h (by decide +kernel) rfl ?_
          refine gk_getR (i := 81) h ck_8 (by decide) (fun _ _ _ => rfl) (by decide +kernel) kw_1041 ?_
          refine gk_iload_n (j := 1) h (by decide +kernel) rfl ?_
          refine gk_bipush (n := 10) h (by decide +kernel) (by decide) ?_
          refine gk_iadd h (by decide +kernel) ?_
          refine gk_iload_n (j := 3) h (by decide +kernel) rfl ?_
          refine gk_iadd h (by decide +kernel) ?_
          refine gk_iconst (n := 1) h (by decide +kernel) (by decide) ?_
          refine gk_isub h (by decide +kernel) ?_
          refine gk_ald0 h (by decide +kernel) ?_
          refine gk_ifgt (off := 18) (tgt := 67) h (by decide +kernel) (by decide) ?_ ?_
          · exact gk_jmp 1 rfl
          · refine gk_aload_n (j := 0) h (by decide +kernel) rfl ?_
            refine gk_getR (i := 81) h ck_8 (by decide) (fun _ _ _ => rfl) (by decide +kernel) kw_1041 ?_
            refine gk_iload_n (j := 1) h (by decide +kernel) rfl ?_
            refine gk_iload_n (j := 3) h (by decide +kernel) rfl ?_
            refine gk_iadd h (by decide +kernel) ?_
            refine gk_iconst (n := 1) h (by decide +kernel) (by decide) ?_
            refine gk_isub h (by decide +kernel) ?_
            refine gk_ald0 h (by decide +kernel) ?_
            refine gk_iload h (by decide +kernel) ?_
            refine gk_icmple (off := 50) (tgt := 114) h (by decide +kernel) (by decide) ?_ ?_
            · refine gk_iconst (n := 0) h (by decide +kernel) (by decide) ?_
              exact gk_zret h hR (by decide +kernel)
            · exact gk_jmp 1 rfl
    · refine gk_iconst (n := 1) h (by decide +kernel) (by decide) ?_
      exact gk_zret h hR (by decide +kernel)
  | 1 =>
    show GK X Q146 67 (o_iload 3 (o_iconst 1 (o_i2 (fun x y => x + y) (o_aload 0 (o_getR 8 10 (o_iconst 0 (o_iald 0 (o_ieq (o_jmp 2) (o_aload 0 (o_getR 8 36 (o_iload 1 (o_iconst 10 (o_i2 (fun x y => x + y) (o_iload 3 (o_i2 (fun x y => x + y) (o_iconst 1 (o_i2 (fun x y => x + y) (o_iald 0 (o_ifp (o_jmp 2) (o_aload 0 (o_getR 8 36 (o_iload 1 (o_iload 3 (o_i2 (fun x y => x + y) (o_iconst 1 (o_i2 (fun x y => x + y) (o_iald 0 (o_iload 6 (o_igt (o_jmp 2) (o_iconst 0 (o_zret)))))))))))))))))))))))))))))))
    refine gk_iload_n (j := 3) h (by decide +kernel) rfl ?_
    refine gk_iconst (n := 1) h (by decide +kernel) (by decide) ?_
    refine gk_iadd h (by decide +kernel) ?_
    refine gk_aload_n (j := 0) h (by decide +kernel) rfl ?_
    refine gk_getR (i := 13) h ck_8 (by decide) (fun _ _ _ => rfl) (by decide +kernel) kw_1015 ?_
    refine gk_iconst (n := 0) h (by decide +kernel) (by decide) ?_
    refine gk_ald0 h (by decide +kernel) ?_
    refine gk_icmpeq (off := 34) (tgt := 110) h (by decide +kernel) (by decide) ?_ ?_
    · exact gk_jmp 2 rfl
    · refine gk_aload_n (j := 0) h (by decide +kernel) rfl ?_
      refine gk_getR (i := 81) h ck_8 (by decide) (fun _ _ _ => rfl) (by decide +kernel) kw_1041 ?_
      refine gk_iload_n (j := 1) h (by decide +kernel) rfl ?_
      refine gk_bipush (n := 10) h (by decide +kernel) (by decide) ?_
      refine gk_iadd h (by decide +kernel) ?_
      refine gk_iload_n (j := 3) h (by decide +kernel) rfl ?_
      refine gk_iadd h (by decide +kernel) ?_
      refine gk_iconst (n := 1) h (by decide +kernel) (by decide) ?_
      refine gk_iadd h (by decide +kernel) ?_
      refine gk_ald0 h (by decide +kernel) ?_
      refine gk_ifgt (off := 18) (tgt := 110) h (by decide +kernel) (by decide) ?_ ?_
      · exact gk_jmp 2 rfl
      · refine gk_aload_n (j := 0) h (by decide +kernel) rfl ?_
        refine gk_getR (i := 81) h ck_8 (by decide) (fun _ _ _ => rfl) (by decide +kernel) kw_1041 ?_
        refine gk_iload_n (j := 1) h (by decide +kernel) rfl ?_
        refine gk_iload_n (j := 3) h (by decide +kernel) rfl ?_
        refine gk_iadd h (by decide +kernel) ?_
        refine gk_iconst (n := 1) h (by decide +kernel) (by decide) ?_
        refine gk_iadd h (by decide +kernel) ?_
        refine gk_ald0 h (by decide +kernel) ?_
        refine gk_iload h (by decide +kernel) ?_
        refine gk_icmple (off := 7) (tgt := 114) h (by decide +kernel) (by decide) ?_ ?_
        · refine gk_iconst (n := 0) h (by decide +kernel) (by decide) ?_
          exact gk_zret h hR (by decide +kernel)
        · exact gk_jmp 2 rfl
  | 2 =>
    show GK X Q146 110 (o_iconst 1 (o_zret))
    refine gk_iconst (n := 1) h (by decide +kernel) (by decide) ?_
    refine gk_goto (off := 4) (tgt := 115) h (by decide +kernel) (by decide) ?_
    exact gk_zret h hR (by decide +kernel)
  | 3 =>
    show GK X Q146 121 (o_iload 7 (o_iload 3 (o_iload 4 (o_i2 (fun x y => x + y) (o_ilt (o_aload 0 (o_getR 8 36 (o_iload 1 (o_iload 7 (o_i2 (fun x y => x + y) (o_iald 0 (o_iload 6 (o_ieq (o_iconst 1 (o_jmp 4)) (o_iconst 0 (o_jmp 4)))))))))) (o_iconst 1 (o_zret)))))))
    refine gk_iload h (by decide +kernel) ?_
    refine gk_iload_n (j := 3) h (by decide +kernel) rfl ?_
    refine gk_iload h (by decide +kernel) ?_
    refine gk_iadd h (by decide +kernel) ?_
    refine gk_icmpge (off := 71) (tgt := 198) h (by decide +kernel) (by decide) ?_ ?_
    · refine gk_iconst (n := 1) h (by decide +kernel) (by decide) ?_
      exact gk_zret h hR (by decide +kernel)
    · refine gk_aload_n (j := 0) h (by decide +kernel) rfl ?_
      refine gk_getR (i := 81) h ck_8 (by decide) (fun _ _ _ => rfl) (by decide +kernel) kw_1041 ?_
      refine gk_iload_n (j := 1) h (by decide +kernel) rfl ?_
      refine gk_iload h (by decide +kernel) ?_
      refine gk_iadd h (by decide +kernel) ?_
      refine gk_ald0 h (by decide +kernel) ?_
      refine gk_iload h (by decide +kernel) ?_
      refine gk_icmpne (off := 7) (tgt := 148) h (by decide +kernel) (by decide) ?_ ?_
      · refine gk_iconst (n := 0) h (by decide +kernel) (by decide) ?_
        exact gk_jmp 4 rfl
      · refine gk_iconst (n := 1) h (by decide +kernel) (by decide) ?_
        refine gk_goto (off := 4) (tgt := 149) h (by decide +kernel) (by decide) ?_
        exact gk_jmp 4 rfl
  | 4 =>
    show GK X Q146 149 (o_istore 8 (o_iload 5 (o_iconst 1 (o_ieq (o_iload 7 (o_iload 3 (o_iload 4 (o_i2 (fun x y => x + y) (o_iconst 1 (o_i2 (fun x y => x - y) (o_ilt (o_aload 0 (o_getR 8 36 (o_iload 1 (o_iload 7 (o_i2 (fun x y => x + y) (o_iald 0 (o_iload 6 (o_igt (o_iconst 0 (o_zret)) (o_jmp 6))))))))) (o_jmp 5)))))))) (o_jmp 5)))))
    refine gk_istore h (by decide +kernel) hxn (by decide) ?_
    refine gk_iload h (by decide +kernel) ?_
    refine gk_iconst (n := 1) h (by decide +kernel) (by decide) ?_
    refine gk_icmpne (off := 31) (tgt := 185) h (by decide +kernel) (by decide) ?_ ?_
    · exact gk_jmp 5 rfl
    · refine gk_iload h (by decide +kernel) ?_
      refine gk_iload_n (j := 3) h (by decide +kernel) rfl ?_
      refine gk_iload h (by decide +kernel) ?_
      refine gk_iadd h (by decide +kernel) ?_
      refine gk_iconst (n := 1) h (by decide +kernel) (by decide) ?_
      refine gk_isub h (by decide +kernel) ?_
      refine gk_icmpge (off := 20) (tgt := 185) h (by decide +kernel) (by decide) ?_ ?_
      · exact gk_jmp 5 rfl
      · refine gk_aload_n (j := 0) h (by decide +kernel) rfl ?_
        refine gk_getR (i := 81) h ck_8 (by decide) (fun _ _ _ => rfl) (by decide +kernel) kw_1041 ?_
        refine gk_iload_n (j := 1) h (by decide +kernel) rfl ?_
        refine gk_iload h (by decide +kernel) ?_
        refine gk_iadd h (by decide +kernel) ?_
        refine gk_ald0 h (by decide +kernel) ?_
        refine gk_iload h (by decide +kernel) ?_
        refine gk_icmple (off := 13) (tgt := 192) h (by decide +kernel) (by decide) ?_ ?_
        · exact gk_jmp 6 rfl
        · refine gk_goto (off := 8) (tgt := 190) h (by decide +kernel) (by decide) ?_
          refine gk_iconst (n := 0) h (by decide +kernel) (by decide) ?_
          exact gk_zret h hR (by decide +kernel)
  | 5 =>
    show GK X Q146 185 (o_iload 8 (o_if0 (o_iconst 0 (o_zret)) (o_jmp 6)))
    refine gk_iload h (by decide +kernel) ?_
    refine gk_ifne (off := 5) (tgt := 192) h (by decide +kernel) (by decide) ?_ ?_
    · exact gk_jmp 6 rfl
    · refine gk_iconst (n := 0) h (by decide +kernel) (by decide) ?_
      exact gk_zret h hR (by decide +kernel)
  | 6 =>
    show GK X Q146 192 (o_iinc 7 1 (o_jmp 3))
    refine gk_iinc (z := 1) h (by decide +kernel) (by decide) hxn (by decide) ?_
    refine gk_goto (off := (-74)) (tgt := 121) h (by decide +kernel) (by decide) ?_
    exact gk_jmp 3 rfl
  | _ + 7 => exact fun _ _ _ hr => hr.elim
set_option maxRecDepth 20000 in
set_option maxHeartbeats 4000000 in
theorem s_147 : MS mtab yX9_why cX9_why 7 (some .int) Q147 P147 := by
  intro X orc d h hR hnm hxn ho hrd b
  match b with
  | 0 =>
    show GK X Q147 0 (o_iload 2 (o_ifn (o_iconst 1 (o_iret)) (o_iload 2 (o_aload 0 (o_getR 8 12 (o_iconst 0 (o_iald 0 (o_ilt (o_aload 0 (o_iload 3 (o_vI orc 143 2 8 (o_if0 (o_iconst 1 (o_iret)) (o_aload 0 (o_iload 2 (o_iload 4 (o_vI orc 145 3 8 (o_if0 (o_iconst 1 (o_iret)) (o_aload 0 (o_getR 8 14 (o_iload 2 (o_iald 0 (o_iconst 3 (o_ieq (o_aload 0 (o_iload 3 (o_vI orc 144 2 8 (o_iload 3 (o_ieq (o_iconst 1 (o_iret)) (o_jmp 1)))))) (o_jmp 1)))))))))))))))) (o_iconst 1 (o_iret))))))))))
    refine gk_iload_n (j := 2) h (by decide +kernel) rfl ?_
    refine gk_iflt (off := 50) (tgt := 51) h (by decide +kernel) (by decide) ?_ ?_
    · refine gk_iconst (n := 1) h (by decide +kernel) (by decide) ?_
      exact gk_iret h hR (by decide +kernel)
    · refine gk_iload_n (j := 2) h (by decide +kernel) rfl ?_
      refine gk_aload_n (j := 0) h (by decide +kernel) rfl ?_
      refine gk_getR (i := 19) h ck_8 (by decide) (fun _ _ _ => rfl) (by decide +kernel) kw_1017 ?_
      refine gk_iconst (n := 0) h (by decide +kernel) (by decide) ?_
      refine gk_ald0 h (by decide +kernel) ?_
      refine gk_icmpge (off := 40) (tgt := 51) h (by decide +kernel) (by decide) ?_ ?_
      · refine gk_iconst (n := 1) h (by decide +kernel) (by decide) ?_
        exact gk_iret h hR (by decide +kernel)
      · refine gk_aload_n (j := 0) h (by decide +kernel) rfl ?_
        refine gk_iload_n (j := 3) h (by decide +kernel) rfl ?_
        refine gk_vI (ca_v (idx := 292) h ho hm_143 (rd_le hrd (by decide)) ck_8 (by decide +kernel) kw_982 kw_984 kw_45 kw_101 kw_985 rfl (by decide +kernel) (by decide)) ?_
        refine gk_ifeq (off := 32) (tgt := 51) h (by decide +kernel) (by decide) ?_ ?_
        · refine gk_iconst (n := 1) h (by decide +kernel) (by decide) ?_
          exact gk_iret h hR (by decide +kernel)
        · refine gk_aload_n (j := 0) h (by decide +kernel) rfl ?_
          refine gk_iload_n (j := 2) h (by decide +kernel) rfl ?_
          refine gk_iload h (by decide +kernel) ?_
          refine gk_vI (ca_v (idx := 295) h ho hm_145 (rd_le hrd (by decide)) ck_8 (by decide +kernel) kw_986 kw_988 kw_46 kw_101 kw_989 rfl (by decide +kernel) (by decide)) ?_
          refine gk_ifeq (off := 22) (tgt := 51) h (by decide +kernel) (by decide) ?_ ?_
          · refine gk_iconst (n := 1) h (by decide +kernel) (by decide) ?_
            exact gk_iret h hR (by decide +kernel)
          · refine gk_aload_n (j := 0) h (by decide +kernel) rfl ?_
            refine gk_getR (i := 25) h ck_8 (by decide) (fun _ _ _ => rfl) (by decide +kernel) kw_1019 ?_
            refine gk_iload_n (j := 2) h (by decide +kernel) rfl ?_
            refine gk_ald0 h (by decide +kernel) ?_
            refine gk_iconst (n := 3) h (by decide +kernel) (by decide) ?_
            refine gk_icmpne (off := 14) (tgt := 53) h (by decide +kernel) (by decide) ?_ ?_
            · exact gk_jmp 1 rfl
            · refine gk_aload_n (j := 0) h (by decide +kernel) rfl ?_
              refine gk_iload_n (j := 3) h (by decide +kernel) rfl ?_
              refine gk_vI (ca_v (idx := 298) h ho hm_144 (rd_le hrd (by decide)) ck_8 (by decide +kernel) kw_993 kw_995 kw_47 kw_101 kw_996 rfl (by decide +kernel) (by decide)) ?_
              refine gk_iload_n (j := 3) h (by decide +kernel) rfl ?_
              refine gk_icmpne (off := 5) (tgt := 53) h (by decide +kernel) (by decide) ?_ ?_
              · exact gk_jmp 1 rfl
              · refine gk_iconst (n := 1) h (by decide +kernel) (by decide) ?_
                exact gk_iret h hR (by decide +kernel)
  | 1 =>
    show GK X Q147 53 (o_iload 5 (o_if0 (o_iload 3 (o_iload 4 (o_i2 (fun x y => x + y) (o_aload 0 (o_getR 8 10 (o_iconst 0 (o_iald 0 (o_igt (o_iconst 3 (o_iret)) (o_iload 3 (o_istore 6 (o_jmp 2))))))))))) (o_iconst 2 (o_iret))))
    refine gk_iload h (by decide +kernel) ?_
    refine gk_ifeq (off := 5) (tgt := 60) h (by decide +kernel) (by decide) ?_ ?_
    · refine gk_iload_n (j := 3) h (by decide +kernel) rfl ?_
      refine gk_iload h (by decide +kernel) ?_
      refine gk_iadd h (by decide +kernel) ?_
      refine gk_aload_n (j := 0) h (by decide +kernel) rfl ?_
      refine gk_getR (i := 13) h ck_8 (by decide) (fun _ _ _ => rfl) (by decide +kernel) kw_1015 ?_
      refine gk_iconst (n := 0) h (by decide +kernel) (by decide) ?_
      refine gk_ald0 h (by decide +kernel) ?_
      refine gk_icmple (off := 5) (tgt := 75) h (by decide +kernel) (by decide) ?_ ?_
      · refine gk_iload_n (j := 3) h (by decide +kernel) rfl ?_
        refine gk_istore h (by decide +kernel) hxn (by decide) ?_
        exact gk_jmp 2 rfl
      · refine gk_iconst (n := 3) h (by decide +kernel) (by decide) ?_
        exact gk_iret h hR (by decide +kernel)
    · refine gk_iconst (n := 2) h (by decide +kernel) (by decide) ?_
      exact gk_iret h hR (by decide +kernel)
  | 2 =>
    show GK X Q147 78 (o_iload 6 (o_iload 3 (o_iload 4 (o_i2 (fun x y => x + y) (o_ilt (o_aload 0 (o_getR 8 36 (o_iload 1 (o_iconst 10 (o_i2 (fun x y => x + y) (o_iload 6 (o_i2 (fun x y => x + y) (o_iald 0 (o_ifp (o_iconst 4 (o_iret)) (o_iinc 6 1 (o_jmp 2))))))))))) (o_aload 0 (o_getR 8 14 (o_iload 2 (o_iald 0 (o_iconst 3 (o_ieq (o_aload 0 (o_getR 8 36 (o_iload 1 (o_iconst 10 (o_i2 (fun x y => x + y) (o_aload 0 (o_iload 3 (o_vI orc 144 2 8 (o_i2 (fun x y => x + y) (o_iald 0 (o_ifp (o_iconst 4 (o_iret)) (o_jmp 3)))))))))))) (o_jmp 3))))))))))))
    refine gk_iload h (by decide +kernel) ?_
    refine gk_iload_n (j := 3) h (by decide +kernel) rfl ?_
    refine gk_iload h (by decide +kernel) ?_
    refine gk_iadd h (by decide +kernel) ?_
    refine gk_icmpge (off := 26) (tgt := 110) h (by decide +kernel) (by decide) ?_ ?_
    · refine gk_aload_n (j := 0) h (by decide +kernel) rfl ?_
      refine gk_getR (i := 25) h ck_8 (by decide) (fun _ _ _ => rfl) (by decide +kernel) kw_1019 ?_
      refine gk_iload_n (j := 2) h (by decide +kernel) rfl ?_
      refine gk_ald0 h (by decide +kernel) ?_
      refine gk_iconst (n := 3) h (by decide +kernel) (by decide) ?_
      refine gk_icmpne (off := 23) (tgt := 140) h (by decide +kernel) (by decide) ?_ ?_
      · exact gk_jmp 3 rfl
      · refine gk_aload_n (j := 0) h (by decide +kernel) rfl ?_
        refine gk_getR (i := 81) h ck_8 (by decide) (fun _ _ _ => rfl) (by decide +kernel) kw_1041 ?_
        refine gk_iload_n (j := 1) h (by decide +kernel) rfl ?_
        refine gk_bipush (n := 10) h (by decide +kernel) (by decide) ?_
        refine gk_iadd h (by decide +kernel) ?_
        refine gk_aload_n (j := 0) h (by decide +kernel) rfl ?_
        refine gk_iload_n (j := 3) h (by decide +kernel) rfl ?_
        refine gk_vI (ca_v (idx := 298) h ho hm_144 (rd_le hrd (by decide)) ck_8 (by decide +kernel) kw_993 kw_995 kw_47 kw_101 kw_996 rfl (by decide +kernel) (by decide)) ?_
        refine gk_iadd h (by decide +kernel) ?_
        refine gk_ald0 h (by decide +kernel) ?_
        refine gk_ifle (off := 5) (tgt := 140) h (by decide +kernel) (by decide) ?_ ?_
        · exact gk_jmp 3 rfl
        · refine gk_iconst (n := 4) h (by decide +kernel) (by decide) ?_
          exact gk_iret h hR (by decide +kernel)
    · refine gk_aload_n (j := 0) h (by decide +kernel) rfl ?_
      refine gk_getR (i := 81) h ck_8 (by decide) (fun _ _ _ => rfl) (by decide +kernel) kw_1041 ?_
      refine gk_iload_n (j := 1) h (by decide +kernel) rfl ?_
      refine gk_bipush (n := 10) h (by decide +kernel) (by decide) ?_
      refine gk_iadd h (by decide +kernel) ?_
      refine gk_iload h (by decide +kernel) ?_
      refine gk_iadd h (by decide +kernel) ?_
      refine gk_ald0 h (by decide +kernel) ?_
      refine gk_ifle (off := 5) (tgt := 104) h (by decide +kernel) (by decide) ?_ ?_
      · refine gk_iinc (z := 1) h (by decide +kernel) (by decide) hxn (by decide) ?_
        refine gk_goto (off := (-29)) (tgt := 78) h (by decide +kernel) (by decide) ?_
        exact gk_jmp 2 rfl
      · refine gk_iconst (n := 4) h (by decide +kernel) (by decide) ?_
        exact gk_iret h hR (by decide +kernel)
  | 3 =>
    show GK X Q147 140 (o_aload 0 (o_iload 1 (o_iload 2 (o_iload 3 (o_iload 4 (o_vI orc 146 5 8 (o_if0 (o_iconst 5 (o_iret)) (o_aload 0 (o_getR 8 36 (o_iload 1 (o_iload 3 (o_i2 (fun x y => x + y) (o_iald 0 (o_aload 0 (o_getR 8 11 (o_iconst 0 (o_iald 0 (o_ieq (o_jmp 4) (o_aload 0 (o_getR 8 14 (o_iload 2 (o_iald 0 (o_iconst 3 (o_ieq (o_aload 0 (o_getR 8 36 (o_iload 1 (o_aload 0 (o_iload 3 (o_vI orc 144 2 8 (o_i2 (fun x y => x + y) (o_iald 0 (o_aload 0 (o_getR 8 11 (o_iconst 0 (o_iald 0 (o_ieq (o_jmp 4) (o_iconst 0 (o_iret))))))))))))))) (o_iconst 0 (o_iret))))))))))))))))))))))))))
    refine gk_aload_n (j := 0) h (by decide +kernel) rfl ?_
    refine gk_iload_n (j := 1) h (by decide +kernel) rfl ?_
    refine gk_iload_n (j := 2) h (by decide +kernel) rfl ?_
    refine gk_iload_n (j := 3) h (by decide +kernel) rfl ?_
    refine gk_iload h (by decide +kernel) ?_
    refine gk_vI (ca_v (idx := 301) h ho hm_146 (rd_le hrd (by decide)) ck_8 (by decide +kernel) kw_997 kw_999 kw_48 kw_101 kw_1000 rfl (by decide +kernel) (by decide)) ?_
    refine gk_ifne (off := 5) (tgt := 154) h (by decide +kernel) (by decide) ?_ ?_
    · refine gk_aload_n (j := 0) h (by decide +kernel) rfl ?_
      refine gk_getR (i := 81) h ck_8 (by decide) (fun _ _ _ => rfl) (by decide +kernel) kw_1041 ?_
      refine gk_iload_n (j := 1) h (by decide +kernel) rfl ?_
      refine gk_iload_n (j := 3) h (by decide +kernel) rfl ?_
      refine gk_iadd h (by decide +kernel) ?_
      refine gk_ald0 h (by decide +kernel) ?_
      refine gk_aload_n (j := 0) h (by decide +kernel) rfl ?_
      refine gk_getR (i := 16) h ck_8 (by decide) (fun _ _ _ => rfl) (by decide +kernel) kw_1016 ?_
      refine gk_iconst (n := 0) h (by decide +kernel) (by decide) ?_
      refine gk_ald0 h (by decide +kernel) ?_
      refine gk_icmpeq (off := 34) (tgt := 202) h (by decide +kernel) (by decide) ?_ ?_
      · exact gk_jmp 4 rfl
      · refine gk_aload_n (j := 0) h (by decide +kernel) rfl ?_
        refine gk_getR (i := 25) h ck_8 (by decide) (fun _ _ _ => rfl) (by decide +kernel) kw_1019 ?_
        refine gk_iload_n (j := 2) h (by decide +kernel) rfl ?_
        refine gk_ald0 h (by decide +kernel) ?_
        refine gk_iconst (n := 3) h (by decide +kernel) (by decide) ?_
        refine gk_icmpne (off := 29) (tgt := 207) h (by decide +kernel) (by decide) ?_ ?_
        · refine gk_iconst (n := 0) h (by decide +kernel) (by decide) ?_
          exact gk_iret h hR (by decide +kernel)
        · refine gk_aload_n (j := 0) h (by decide +kernel) rfl ?_
          refine gk_getR (i := 81) h ck_8 (by decide) (fun _ _ _ => rfl) (by decide +kernel) kw_1041 ?_
          refine gk_iload_n (j := 1) h (by decide +kernel) rfl ?_
          refine gk_aload_n (j := 0) h (by decide +kernel) rfl ?_
          refine gk_iload_n (j := 3) h (by decide +kernel) rfl ?_
          refine gk_vI (ca_v (idx := 298) h ho hm_144 (rd_le hrd (by decide)) ck_8 (by decide +kernel) kw_993 kw_995 kw_47 kw_101 kw_996 rfl (by decide +kernel) (by decide)) ?_
          refine gk_iadd h (by decide +kernel) ?_
          refine gk_ald0 h (by decide +kernel) ?_
          refine gk_aload_n (j := 0) h (by decide +kernel) rfl ?_
          refine gk_getR (i := 16) h ck_8 (by decide) (fun _ _ _ => rfl) (by decide +kernel) kw_1016 ?_
          refine gk_iconst (n := 0) h (by decide +kernel) (by decide) ?_
          refine gk_ald0 h (by decide +kernel) ?_
          refine gk_icmpne (off := 8) (tgt := 207) h (by decide +kernel) (by decide) ?_ ?_
          · refine gk_iconst (n := 0) h (by decide +kernel) (by decide) ?_
            exact gk_iret h hR (by decide +kernel)
          · exact gk_jmp 4 rfl
    · refine gk_iconst (n := 5) h (by decide +kernel) (by decide) ?_
      exact gk_iret h hR (by decide +kernel)
  | 4 =>
    show GK X Q147 202 (o_iconst 6 (o_iret))
    refine gk_bipush (n := 6) h (by decide +kernel) (by decide) ?_
    refine gk_goto (off := 4) (tgt := 208) h (by decide +kernel) (by decide) ?_
    exact gk_iret h hR (by decide +kernel)
  | _ + 5 => exact fun _ _ _ hr => hr.elim
set_option maxRecDepth 20000 in
set_option maxHeartbeats 4000000 in
theorem s_148 : MS mtab yX9_whyGate cX9_whyGate 4 (some .int) Q148 P148 := by
  intro X orc d h hR hnm hxn ho hrd b
  match b with
  | 0 =>
    show GK X Q148 0 (o_aload 0 (o_iload 2 (o_vI orc 143 2 8 (o_if0 (o_iconst 1 (o_iret)) (o_iload 3 (o_if0 (o_aload 0 (o_getR 8 36 (o_iload 1 (o_iconst 40 (o_i2 (fun x y => x + y) (o_aload 0 (o_getR 8 36 (o_iload 1 (o_iconst 42 (o_i2 (fun x y => x + y) (o_iald 0 (o_i2 (fun x y => x + y) (o_iald 0 (o_if0 (o_iconst 3 (o_iret)) (o_aload 0 (o_getR 8 36 (o_iload 1 (o_iconst 10 (o_i2 (fun x y => x + y) (o_iload 2 (o_i2 (fun x y => x + y) (o_iald 0 (o_ifp (o_iconst 4 (o_iret)) (o_aload 0 (o_getR 8 36 (o_iload 1 (o_iload 2 (o_i2 (fun x y => x + y) (o_iald 0 (o_ifp (o_iconst 5 (o_iret)) (o_iconst 0 (o_iret)))))))))))))))))))))))))))))))) (o_iconst 2 (o_iret))))))))
    refine gk_aload_n (j := 0) h (by decide +kernel) rfl ?_
    refine gk_iload_n (j := 2) h (by decide +kernel) rfl ?_
    refine gk_vI (ca_v (idx := 292) h ho hm_143 (rd_le hrd (by decide)) ck_8 (by decide +kernel) kw_982 kw_984 kw_45 kw_101 kw_985 rfl (by decide +kernel) (by decide)) ?_
    refine gk_ifne (off := 5) (tgt := 10) h (by decide +kernel) (by decide) ?_ ?_
    · refine gk_iload_n (j := 3) h (by decide +kernel) rfl ?_
      refine gk_ifeq (off := 5) (tgt := 16) h (by decide +kernel) (by decide) ?_ ?_
      · refine gk_aload_n (j := 0) h (by decide +kernel) rfl ?_
        refine gk_getR (i := 81) h ck_8 (by decide) (fun _ _ _ => rfl) (by decide +kernel) kw_1041 ?_
        refine gk_iload_n (j := 1) h (by decide +kernel) rfl ?_
        refine gk_bipush (n := 40) h (by decide +kernel) (by decide) ?_
        refine gk_iadd h (by decide +kernel) ?_
        refine gk_aload_n (j := 0) h (by decide +kernel) rfl ?_
        refine gk_getR (i := 81) h ck_8 (by decide) (fun _ _ _ => rfl) (by decide +kernel) kw_1041 ?_
        refine gk_iload_n (j := 1) h (by decide +kernel) rfl ?_
        refine gk_bipush (n := 42) h (by decide +kernel) (by decide) ?_
        refine gk_iadd h (by decide +kernel) ?_
        refine gk_ald0 h (by decide +kernel) ?_
        refine gk_iadd h (by decide +kernel) ?_
        refine gk_ald0 h (by decide +kernel) ?_
        refine gk_ifne (off := 5) (tgt := 40) h (by decide +kernel) (by decide) ?_ ?_
        · refine gk_aload_n (j := 0) h (by decide +kernel) rfl ?_
          refine gk_getR (i := 81) h ck_8 (by decide) (fun _ _ _ => rfl) (by decide +kernel) kw_1041 ?_
          refine gk_iload_n (j := 1) h (by decide +kernel) rfl ?_
          refine gk_bipush (n := 10) h (by decide +kernel) (by decide) ?_
          refine gk_iadd h (by decide +kernel) ?_
          refine gk_iload_n (j := 2) h (by decide +kernel) rfl ?_
          refine gk_iadd h (by decide +kernel) ?_
          refine gk_ald0 h (by decide +kernel) ?_
          refine gk_ifle (off := 7) (tgt := 58) h (by decide +kernel) (by decide) ?_ ?_
          · refine gk_aload_n (j := 0) h (by decide +kernel) rfl ?_
            refine gk_getR (i := 81) h ck_8 (by decide) (fun _ _ _ => rfl) (by decide +kernel) kw_1041 ?_
            refine gk_iload_n (j := 1) h (by decide +kernel) rfl ?_
            refine gk_iload_n (j := 2) h (by decide +kernel) rfl ?_
            refine gk_iadd h (by decide +kernel) ?_
            refine gk_ald0 h (by decide +kernel) ?_
            refine gk_ifle (off := 7) (tgt := 73) h (by decide +kernel) (by decide) ?_ ?_
            · refine gk_iconst (n := 0) h (by decide +kernel) (by decide) ?_
              exact gk_iret h hR (by decide +kernel)
            · refine gk_iconst (n := 5) h (by decide +kernel) (by decide) ?_
              refine gk_goto (off := 4) (tgt := 74) h (by decide +kernel) (by decide) ?_
              exact gk_iret h hR (by decide +kernel)
          · refine gk_iconst (n := 4) h (by decide +kernel) (by decide) ?_
            refine gk_goto (off := 19) (tgt := 74) h (by decide +kernel) (by decide) ?_
            exact gk_iret h hR (by decide +kernel)
        · refine gk_iconst (n := 3) h (by decide +kernel) (by decide) ?_
          exact gk_iret h hR (by decide +kernel)
      · refine gk_iconst (n := 2) h (by decide +kernel) (by decide) ?_
        exact gk_iret h hR (by decide +kernel)
    · refine gk_iconst (n := 1) h (by decide +kernel) (by decide) ?_
      exact gk_iret h hR (by decide +kernel)
  | _ + 1 => exact fun _ _ _ hr => hr.elim
set_option maxRecDepth 20000 in
set_option maxHeartbeats 4000000 in
theorem s_149 : MS mtab yX9_nextAct cX9_nextAct 5 (some .int) Q149 P149 := by
  intro X orc d h hR hnm hxn ho hrd b
  match b with
  | 0 =>
    show GK X Q149 0 (o_iconst 50 (o_aload 0 (o_getR 8 12 (o_iconst 0 (o_iald 0 (o_i2 (fun x y => x * y) (o_istore 3 (o_iload 2 (o_iconst 1 (o_i2 (fun x y => x + y) (o_istore 4 (o_jmp 1))))))))))))
    refine gk_bipush (n := 50) h (by decide +kernel) (by decide) ?_
    refine gk_aload_n (j := 0) h (by decide +kernel) rfl ?_
    refine gk_getR (i := 19) h ck_8 (by decide) (fun _ _ _ => rfl) (by decide +kernel) kw_1017 ?_
    refine gk_iconst (n := 0) h (by decide +kernel) (by decide) ?_
    refine gk_ald0 h (by decide +kernel) ?_
    refine gk_imul h (by decide +kernel) ?_
    refine gk_istore_n (j := 3) h (by decide +kernel) rfl hxn (by decide) ?_
    refine gk_iload_n (j := 2) h (by decide +kernel) rfl ?_
    refine gk_iconst (n := 1) h (by decide +kernel) (by decide) ?_
    refine gk_iadd h (by decide +kernel) ?_
    refine gk_istore h (by decide +kernel) hxn (by decide) ?_
    exact gk_jmp 1 rfl
  | 1 =>
    show GK X Q149 15 (o_iload 4 (o_iload 3 (o_iconst 10 (o_i2 (fun x y => x + y) (o_ilt (o_aload 0 (o_iload 4 (o_iload 3 (o_ilt (o_iload 4 (o_iconst 50 (o_i2z (fun x y => x / y) (o_jmp 2)))) (o_iconst (-2) (o_jmp 2)))))) (o_iconst (-1) (o_iret)))))))
    refine gk_iload h (by decide +kernel) ?_
    refine gk_iload_n (j := 3) h (by decide +kernel) rfl ?_
    refine gk_bipush (n := 10) h (by decide +kernel) (by decide) ?_
    refine gk_iadd h (by decide +kernel) ?_
    refine gk_icmpge (off := 117) (tgt := 138) h (by decide +kernel) (by decide) ?_ ?_
    · refine gk_iconst (n := (-1)) h (by decide +kernel) (by decide) ?_
      exact gk_iret h hR (by decide +kernel)
    · refine gk_aload_n (j := 0) h (by decide +kernel) rfl ?_
      refine gk_iload h (by decide +kernel) ?_
      refine gk_iload_n (j := 3) h (by decide +kernel) rfl ?_
      refine gk_icmpge (off := 11) (tgt := 39) h (by decide +kernel) (by decide) ?_ ?_
      · refine gk_bipush (n := (-2)) h (by decide +kernel) (by decide) ?_
        exact gk_jmp 2 rfl
      · refine gk_iload h (by decide +kernel) ?_
        refine gk_bipush (n := 50) h (by decide +kernel) (by decide) ?_
        refine gk_idiv h (by decide +kernel) ?_
        refine gk_goto (off := 5) (tgt := 41) h (by decide +kernel) (by decide) ?_
        exact gk_jmp 2 rfl
  | 2 =>
    show GK X Q149 41 (o_putI 8 39 (o_aload 0 (o_iload 4 (o_iload 3 (o_ilt (o_iload 4 (o_iconst 5 (o_i2z (fun x y => x / y) (o_iconst 10 (o_i2z (fun x y => x - x / y * y) (o_jmp 3)))))) (o_iload 4 (o_iload 3 (o_i2 (fun x y => x - y) (o_jmp 3)))))))))
    refine gk_putI (i := 305) h ck_8 (by decide) rfl (Or.inl rfl) (by decide +kernel) kw_1044 ?_
    refine gk_aload_n (j := 0) h (by decide +kernel) rfl ?_
    refine gk_iload h (by decide +kernel) ?_
    refine gk_iload_n (j := 3) h (by decide +kernel) rfl ?_
    refine gk_icmpge (off := 13) (tgt := 61) h (by decide +kernel) (by decide) ?_ ?_
    · refine gk_iload h (by decide +kernel) ?_
      refine gk_iload_n (j := 3) h (by decide +kernel) rfl ?_
      refine gk_isub h (by decide +kernel) ?_
      exact gk_jmp 3 rfl
    · refine gk_iload h (by decide +kernel) ?_
      refine gk_iconst (n := 5) h (by decide +kernel) (by decide) ?_
      refine gk_idiv h (by decide +kernel) ?_
      refine gk_bipush (n := 10) h (by decide +kernel) (by decide) ?_
      refine gk_irem h (by decide +kernel) ?_
      refine gk_goto (off := 7) (tgt := 65) h (by decide +kernel) (by decide) ?_
      exact gk_jmp 3 rfl
  | 3 =>
    show GK X Q149 65 (o_putI 8 40 (o_aload 0 (o_iload 4 (o_iload 3 (o_ilt (o_iload 4 (o_iconst 5 (o_i2z (fun x y => x - x / y * y) (o_jmp 4)))) (o_iconst 0 (o_jmp 4)))))))
    refine gk_putI (i := 308) h ck_8 (by decide) rfl (Or.inl rfl) (by decide +kernel) kw_1045 ?_
    refine gk_aload_n (j := 0) h (by decide +kernel) rfl ?_
    refine gk_iload h (by decide +kernel) ?_
    refine gk_iload_n (j := 3) h (by decide +kernel) rfl ?_
    refine gk_icmpge (off := 10) (tgt := 82) h (by decide +kernel) (by decide) ?_ ?_
    · refine gk_iconst (n := 0) h (by decide +kernel) (by decide) ?_
      exact gk_jmp 4 rfl
    · refine gk_iload h (by decide +kernel) ?_
      refine gk_iconst (n := 5) h (by decide +kernel) (by decide) ?_
      refine gk_irem h (by decide +kernel) ?_
      refine gk_goto (off := 4) (tgt := 83) h (by decide +kernel) (by decide) ?_
      exact gk_jmp 4 rfl
  | 4 =>
    show GK X Q149 83 (o_putI 8 41 (o_iload 4 (o_iload 3 (o_ilt (o_aload 0 (o_iload 1 (o_aload 0 (o_getI 8 39 (o_aload 0 (o_getI 8 40 (o_aload 0 (o_getI 8 41 (o_iconst 0 (o_vI orc 147 6 8 (o_if0 (o_iload 4 (o_iret)) (o_jmp 5)))))))))))) (o_aload 0 (o_iload 1 (o_aload 0 (o_getI 8 40 (o_iconst 0 (o_vI orc 148 4 8 (o_if0 (o_iload 4 (o_iret)) (o_jmp 5))))))))))))
    refine gk_putI (i := 311) h ck_8 (by decide) rfl (Or.inl rfl) (by decide +kernel) kw_1046 ?_
    refine gk_iload h (by decide +kernel) ?_
    refine gk_iload_n (j := 3) h (by decide +kernel) rfl ?_
    refine gk_icmpge (off := 27) (tgt := 116) h (by decide +kernel) (by decide) ?_ ?_
    · refine gk_aload_n (j := 0) h (by decide +kernel) rfl ?_
      refine gk_iload_n (j := 1) h (by decide +kernel) rfl ?_
      refine gk_aload_n (j := 0) h (by decide +kernel) rfl ?_
      refine gk_getI (i := 308) h ck_8 (by decide) (fun _ _ _ => rfl) (by decide +kernel) kw_1045 ?_
      refine gk_iconst (n := 0) h (by decide +kernel) (by decide) ?_
      refine gk_vI (ca_v (idx := 318) h ho hm_148 (rd_le hrd (by decide)) ck_8 (by decide +kernel) kw_1001 kw_1003 kw_49 kw_101 kw_1004 rfl (by decide +kernel) (by decide)) ?_
      refine gk_ifne (off := 6) (tgt := 132) h (by decide +kernel) (by decide) ?_ ?_
      · exact gk_jmp 5 rfl
      · refine gk_iload h (by decide +kernel) ?_
        exact gk_iret h hR (by decide +kernel)
    · refine gk_aload_n (j := 0) h (by decide +kernel) rfl ?_
      refine gk_iload_n (j := 1) h (by decide +kernel) rfl ?_
      refine gk_aload_n (j := 0) h (by decide +kernel) rfl ?_
      refine gk_getI (i := 305) h ck_8 (by decide) (fun _ _ _ => rfl) (by decide +kernel) kw_1044 ?_
      refine gk_aload_n (j := 0) h (by decide +kernel) rfl ?_
      refine gk_getI (i := 308) h ck_8 (by decide) (fun _ _ _ => rfl) (by decide +kernel) kw_1045 ?_
      refine gk_aload_n (j := 0) h (by decide +kernel) rfl ?_
      refine gk_getI (i := 311) h ck_8 (by decide) (fun _ _ _ => rfl) (by decide +kernel) kw_1046 ?_
      refine gk_iconst (n := 0) h (by decide +kernel) (by decide) ?_
      refine gk_vI (ca_v (idx := 314) h ho hm_147 (rd_le hrd (by decide)) ck_8 (by decide +kernel) kw_978 kw_980 kw_44 kw_101 kw_981 rfl (by decide +kernel) (by decide)) ?_
      refine gk_ifne (off := 22) (tgt := 132) h (by decide +kernel) (by decide) ?_ ?_
      · exact gk_jmp 5 rfl
      · refine gk_goto (off := 16) (tgt := 129) h (by decide +kernel) (by decide) ?_
        refine gk_iload h (by decide +kernel) ?_
        exact gk_iret h hR (by decide +kernel)
  | 5 =>
    show GK X Q149 132 (o_iinc 4 1 (o_jmp 1))
    refine gk_iinc (z := 1) h (by decide +kernel) (by decide) hxn (by decide) ?_
    refine gk_goto (off := (-120)) (tgt := 15) h (by decide +kernel) (by decide) ?_
    exact gk_jmp 1 rfl
  | _ + 6 => exact fun _ _ _ hr => hr.elim
set_option maxRecDepth 20000 in
set_option maxHeartbeats 4000000 in
theorem s_150 : MS mtab yX9_hasAct cX9_hasAct 2 (some .boolean) Q150 P150 := by
  intro X orc d h hR hnm hxn ho hrd b
  match b with
  | 0 =>
    show GK X Q150 0 (o_aload 0 (o_iload 1 (o_iconst (-1) (o_vI orc 149 3 8 (o_ifn (o_iconst 0 (o_zret)) (o_iconst 1 (o_zret)))))))
    refine gk_aload_n (j := 0) h (by decide +kernel) rfl ?_
    refine gk_iload_n (j := 1) h (by decide +kernel) rfl ?_
    refine gk_iconst (n := (-1)) h (by decide +kernel) (by decide) ?_
    refine gk_vI (ca_v (idx := 322) h ho hm_149 (rd_le hrd (by decide)) ck_8 (by decide +kernel) kw_974 kw_976 kw_43 kw_101 kw_977 rfl (by decide +kernel) (by decide)) ?_
    refine gk_iflt (off := 7) (tgt := 13) h (by decide +kernel) (by decide) ?_ ?_
    · refine gk_iconst (n := 0) h (by decide +kernel) (by decide) ?_
      exact gk_zret h hR (by decide +kernel)
    · refine gk_iconst (n := 1) h (by decide +kernel) (by decide) ?_
      refine gk_goto (off := 4) (tgt := 14) h (by decide +kernel) (by decide) ?_
      exact gk_zret h hR (by decide +kernel)
  | _ + 1 => exact fun _ _ _ hr => hr.elim
set_option maxRecDepth 20000 in
set_option maxHeartbeats 4000000 in
theorem s_151 : MS mtab yX9_acts cX9_acts 4 (some .int) Q151 P151 := by
  intro X orc d h hR hnm hxn ho hrd b
  match b with
  | 0 =>
    show GK X Q151 0 (o_iconst 0 (o_istore 2 (o_aload 0 (o_iload 1 (o_iconst (-1) (o_vI orc 149 3 8 (o_istore 3 (o_jmp 1))))))))
    refine gk_iconst (n := 0) h (by decide +kernel) (by decide) ?_
    refine gk_istore_n (j := 2) h (by decide +kernel) rfl hxn (by decide) ?_
    refine gk_aload_n (j := 0) h (by decide +kernel) rfl ?_
    refine gk_iload_n (j := 1) h (by decide +kernel) rfl ?_
    refine gk_iconst (n := (-1)) h (by decide +kernel) (by decide) ?_
    refine gk_vI (ca_v (idx := 322) h ho hm_149 (rd_le hrd (by decide)) ck_8 (by decide +kernel) kw_974 kw_976 kw_43 kw_101 kw_977 rfl (by decide +kernel) (by decide)) ?_
    refine gk_istore_n (j := 3) h (by decide +kernel) rfl hxn (by decide) ?_
    exact gk_jmp 1 rfl
  | 1 =>
    show GK X Q151 9 (o_iload 3 (o_ifn (o_iload 2 (o_iret)) (o_iinc 2 1 (o_aload 0 (o_iload 1 (o_iload 3 (o_vI orc 149 3 8 (o_istore 3 (o_jmp 1)))))))))
    refine gk_iload_n (j := 3) h (by decide +kernel) rfl ?_
    refine gk_iflt (off := 16) (tgt := 26) h (by decide +kernel) (by decide) ?_ ?_
    · refine gk_iload_n (j := 2) h (by decide +kernel) rfl ?_
      exact gk_iret h hR (by decide +kernel)
    · refine gk_iinc (z := 1) h (by decide +kernel) (by decide) hxn (by decide) ?_
      refine gk_aload_n (j := 0) h (by decide +kernel) rfl ?_
      refine gk_iload_n (j := 1) h (by decide +kernel) rfl ?_
      refine gk_iload_n (j := 3) h (by decide +kernel) rfl ?_
      refine gk_vI (ca_v (idx := 322) h ho hm_149 (rd_le hrd (by decide)) ck_8 (by decide +kernel) kw_974 kw_976 kw_43 kw_101 kw_977 rfl (by decide +kernel) (by decide)) ?_
      refine gk_istore_n (j := 3) h (by decide +kernel) rfl hxn (by decide) ?_
      refine gk_goto (off := (-14)) (tgt := 9) h (by decide +kernel) (by decide) ?_
      exact gk_jmp 1 rfl
  | _ + 2 => exact fun _ _ _ hr => hr.elim
set_option maxRecDepth 20000 in
set_option maxHeartbeats 4000000 in
theorem s_152 : MS mtab yX9_finds cX9_finds 5 (some .boolean) Q152 P152 := by
  intro X orc d h hR hnm hxn ho hrd b
  match b with
  | 0 =>
    show GK X Q152 0 (o_aload 0 (o_iload 1 (o_iconst (-1) (o_vI orc 149 3 8 (o_istore 3 (o_iconst 0 (o_istore 4 (o_jmp 1))))))))
    refine gk_aload_n (j := 0) h (by decide +kernel) rfl ?_
    refine gk_iload_n (j := 1) h (by decide +kernel) rfl ?_
    refine gk_iconst (n := (-1)) h (by decide +kernel) (by decide) ?_
    refine gk_vI (ca_v (idx := 322) h ho hm_149 (rd_le hrd (by decide)) ck_8 (by decide +kernel) kw_974 kw_976 kw_43 kw_101 kw_977 rfl (by decide +kernel) (by decide)) ?_
    refine gk_istore_n (j := 3) h (by decide +kernel) rfl hxn (by decide) ?_
    refine gk_iconst (n := 0) h (by decide +kernel) (by decide) ?_
    refine gk_istore h (by decide +kernel) hxn (by decide) ?_
    exact gk_jmp 1 rfl
  | 1 =>
    show GK X Q152 10 (o_iload 4 (o_iload 2 (o_ilt (o_iload 3 (o_ifn (o_jmp 2) (o_aload 0 (o_iload 1 (o_iload 3 (o_vI orc 149 3 8 (o_istore 3 (o_iinc 4 1 (o_jmp 1))))))))) (o_jmp 2))))
    refine gk_iload h (by decide +kernel) ?_
    refine gk_iload_n (j := 2) h (by decide +kernel) rfl ?_
    refine gk_icmpge (off := 20) (tgt := 33) h (by decide +kernel) (by decide) ?_ ?_
    · exact gk_jmp 2 rfl
    · refine gk_iload_n (j := 3) h (by decide +kernel) rfl ?_
      refine gk_iflt (off := 16) (tgt := 33) h (by decide +kernel) (by decide) ?_ ?_
      · exact gk_jmp 2 rfl
      · refine gk_aload_n (j := 0) h (by decide +kernel) rfl ?_
        refine gk_iload_n (j := 1) h (by decide +kernel) rfl ?_
        refine gk_iload_n (j := 3) h (by decide +kernel) rfl ?_
        refine gk_vI (ca_v (idx := 322) h ho hm_149 (rd_le hrd (by decide)) ck_8 (by decide +kernel) kw_974 kw_976 kw_43 kw_101 kw_977 rfl (by decide +kernel) (by decide)) ?_
        refine gk_istore_n (j := 3) h (by decide +kernel) rfl hxn (by decide) ?_
        refine gk_iinc (z := 1) h (by decide +kernel) (by decide) hxn (by decide) ?_
        refine gk_goto (off := (-20)) (tgt := 10) h (by decide +kernel) (by decide) ?_
        exact gk_jmp 1 rfl
  | 2 =>
    show GK X Q152 33 (o_iload 2 (o_ifn (o_iconst 0 (o_zret)) (o_iload 3 (o_ifn (o_iconst 0 (o_zret)) (o_iconst 1 (o_zret))))))
    refine gk_iload_n (j := 2) h (by decide +kernel) rfl ?_
    refine gk_iflt (off := 11) (tgt := 45) h (by decide +kernel) (by decide) ?_ ?_
    · refine gk_iconst (n := 0) h (by decide +kernel) (by decide) ?_
      exact gk_zret h hR (by decide +kernel)
    · refine gk_iload_n (j := 3) h (by decide +kernel) rfl ?_
      refine gk_iflt (off := 7) (tgt := 45) h (by decide +kernel) (by decide) ?_ ?_
      · refine gk_iconst (n := 0) h (by decide +kernel) (by decide) ?_
        exact gk_zret h hR (by decide +kernel)
      · refine gk_iconst (n := 1) h (by decide +kernel) (by decide) ?_
        refine gk_goto (off := 4) (tgt := 46) h (by decide +kernel) (by decide) ?_
        exact gk_zret h hR (by decide +kernel)
  | _ + 3 => exact fun _ _ _ hr => hr.elim
set_option maxRecDepth 20000 in
set_option maxHeartbeats 4000000 in
theorem s_153 : MS mtab yX9_sets cX9_sets 10 none Q153 P153 := by
  intro X orc d h hR hnm hxn ho hrd b
  match b with
  | 0 =>
    show GK X Q153 0 (o_aload 0 (o_getR 8 36 (o_iload 1 (o_iconst 42 (o_i2 (fun x y => x + y) (o_iald 0 (o_istore 5 (o_aload 0 (o_getR 8 14 (o_iload 2 (o_iald 0 (o_istore 6 (o_aload 0 (o_getR 8 36 (o_iload 1 (o_iload 3 (o_i2 (fun x y => x + y) (o_iald 0 (o_istore 7 (o_iconst 0 (o_istore 8 (o_iload 3 (o_istore 9 (o_jmp 1))))))))))))))))))))))))
    refine gk_aload_n (j := 0) h (by decide +kernel) rfl ?_
    refine gk_getR (i := 81) h ck_8 (by decide) (fun _ _ _ => rfl) (by decide +kernel) kw_1041 ?_
    refine gk_iload_n (j := 1) h (by decide +kernel) rfl ?_
    refine gk_bipush (n := 42) h (by decide +kernel) (by decide) ?_
    refine gk_iadd h (by decide +kernel) ?_
    refine gk_ald0 h (by decide +kernel) ?_
    refine gk_istore h (by decide +kernel) hxn (by decide) ?_
    refine gk_aload_n (j := 0) h (by decide +kernel) rfl ?_
    refine gk_getR (i := 25) h ck_8 (by decide) (fun _ _ _ => rfl) (by decide +kernel) kw_1019 ?_
    refine gk_iload_n (j := 2) h (by decide +kernel) rfl ?_
    refine gk_ald0 h (by decide +kernel) ?_
    refine gk_istore h (by decide +kernel) hxn (by decide) ?_
    refine gk_aload_n (j := 0) h (by decide +kernel) rfl ?_
    refine gk_getR (i := 81) h ck_8 (by decide) (fun _ _ _ => rfl) (by decide +kernel) kw_1041 ?_
    refine gk_iload_n (j := 1) h (by decide +kernel) rfl ?_
    refine gk_iload_n (j := 3) h (by decide +kernel) rfl ?_
    refine gk_iadd h (by decide +kernel) ?_
    refine gk_ald0 h (by decide +kernel) ?_
    refine gk_istore h (by decide +kernel) hxn (by decide) ?_
    refine gk_iconst (n := 0) h (by decide +kernel) (by decide) ?_
    refine gk_istore h (by decide +kernel) hxn (by decide) ?_
    refine gk_iload_n (j := 3) h (by decide +kernel) rfl ?_
    refine gk_istore h (by decide +kernel) hxn (by decide) ?_
    exact gk_jmp 1 rfl
  | 1 =>
    show GK X Q153 35 (o_iload 9 (o_iload 3 (o_iload 4 (o_i2 (fun x y => x + y) (o_ilt (o_iload 8 (o_iload 7 (o_aload 0 (o_getR 8 36 (o_iload 1 (o_iload 9 (o_i2 (fun x y => x + y) (o_iald 0 (o_i2 (fun x y => x - y) (o_i2 (fun x y => x + y) (o_istore 8 (o_aload 0 (o_getR 8 36 (o_iload 1 (o_iconst 20 (o_i2 (fun x y => x + y) (o_iload 9 (o_i2 (fun x y => x + y) (o_dup2 (o_iald 0 (o_iload 7 (o_aload 0 (o_getR 8 36 (o_iload 1 (o_iload 9 (o_i2 (fun x y => x + y) (o_iald 0 (o_i2 (fun x y => x - y) (o_i2 (fun x y => x + y) (o_iast 0 (fun x => x) (o_aload 0 (o_getR 8 36 (o_iload 1 (o_iload 9 (o_i2 (fun x y => x + y) (o_iload 7 (o_iconst 1 (o_i2 (fun x y => x + y) (o_iast 0 (fun x => x) (o_aload 0 (o_getR 8 36 (o_iload 1 (o_iconst 30 (o_i2 (fun x y => x + y) (o_iload 9 (o_i2 (fun x y => x + y) (o_iload 6 (o_iconst 4 (o_ieq (o_iconst 2 (o_iload 5 (o_i2 (fun x y => x - y) (o_jmp 2)))) (o_iconst 1 (o_iload 5 (o_i2 (fun x y => x + y) (o_jmp 2))))))))))))))))))))))))))))))))))))))))))))))))))))) (o_iload 6 (o_iconst 3 (o_ieq (o_aload 0 (o_getR 8 36 (o_iload 1 (o_aload 0 (o_iload 3 (o_vI orc 144 2 8 (o_i2 (fun x y => x + y) (o_dup2 (o_iald 0 (o_iconst 1 (o_i2 (fun x y => x + y) (o_iast 0 (fun x => x) (o_aload 0 (o_getR 8 36 (o_iload 1 (o_iconst 30 (o_i2 (fun x y => x + y) (o_aload 0 (o_iload 3 (o_vI orc 144 2 8 (o_i2 (fun x y => x + y) (o_iconst 1 (o_iload 5 (o_i2 (fun x y => x + y) (o_iast 0 (fun x => x) (o_jmp 3)))))))))))))))))))))))))) (o_jmp 3)))))))))
    refine gk_iload h (by decide +kernel) ?_
    refine gk_iload_n (j := 3) h (by decide +kernel) rfl ?_
    refine gk_iload h (by decide +kernel) ?_
    refine gk_iadd h (by decide +kernel) ?_
    refine gk_icmpge (off := 95) (tgt := 136) h (by decide +kernel) (by decide) ?_ ?_
    · refine gk_iload h (by decide +kernel) ?_
      refine gk_iconst (n := 3) h (by decide +kernel) (by decide) ?_
      refine gk_icmpne (off := 38) (tgt := 177) h (by decide +kernel) (by decide) ?_ ?_
      · exact gk_jmp 3 rfl
      · refine gk_aload_n (j := 0) h (by decide +kernel) rfl ?_
        refine gk_getR (i := 81) h ck_8 (by decide) (fun _ _ _ => rfl) (by decide +kernel) kw_1041 ?_
        refine gk_iload_n (j := 1) h (by decide +kernel) rfl ?_
        refine gk_aload_n (j := 0) h (by decide +kernel) rfl ?_
        refine gk_iload_n (j := 3) h (by decide +kernel) rfl ?_
        refine gk_vI (ca_v (idx := 298) h ho hm_144 (rd_le hrd (by decide)) ck_8 (by decide +kernel) kw_993 kw_995 kw_47 kw_101 kw_996 rfl (by decide +kernel) (by decide)) ?_
        refine gk_iadd h (by decide +kernel) ?_
        refine gk_dup2 h (by decide +kernel) ?_
        refine gk_ald0 h (by decide +kernel) ?_
        refine gk_iconst (n := 1) h (by decide +kernel) (by decide) ?_
        refine gk_iadd h (by decide +kernel) ?_
        refine gk_ast0 h (by decide +kernel) ?_
        refine gk_aload_n (j := 0) h (by decide +kernel) rfl ?_
        refine gk_getR (i := 81) h ck_8 (by decide) (fun _ _ _ => rfl) (by decide +kernel) kw_1041 ?_
        refine gk_iload_n (j := 1) h (by decide +kernel) rfl ?_
        refine gk_bipush (n := 30) h (by decide +kernel) (by decide) ?_
        refine gk_iadd h (by decide +kernel) ?_
        refine gk_aload_n (j := 0) h (by decide +kernel) rfl ?_
        refine gk_iload_n (j := 3) h (by decide +kernel) rfl ?_
        refine gk_vI (ca_v (idx := 298) h ho hm_144 (rd_le hrd (by decide)) ck_8 (by decide +kernel) kw_993 kw_995 kw_47 kw_101 kw_996 rfl (by decide +kernel) (by decide)) ?_
        refine gk_iadd h (by decide +kernel) ?_
        refine gk_iconst (n := 1) h (by decide +kernel) (by decide) ?_
        refine gk_iload h (by decide +kernel) ?_
        refine gk_iadd h (by decide +kernel) ?_
        refine gk_ast0 h (by decide +kernel) ?_
        exact gk_jmp 3 rfl
    · refine gk_iload h (by decide +kernel) ?_
      refine gk_iload h (by decide +kernel) ?_
      refine gk_aload_n (j := 0) h (by decide +kernel) rfl ?_
      refine gk_getR (i := 81) h ck_8 (by decide) (fun _ _ _ => rfl) (by decide +kernel) kw_1041 ?_
      refine gk_iload_n (j := 1) h (by decide +kernel) rfl ?_
      refine gk_iload h (by decide +kernel) ?_
      refine gk_iadd h (by decide +kernel) ?_
      refine gk_ald0 h (by decide +kernel) ?_
      refine gk_isub h (by decide +kernel) ?_
      refine gk_iadd h (by decide +kernel) ?_
      refine gk_istore h (by decide +kernel) hxn (by decide) ?_
      refine gk_aload_n (j := 0) h (by decide +kernel) rfl ?_
      refine gk_getR (i := 81) h ck_8 (by decide) (fun _ _ _ => rfl) (by decide +kernel) kw_1041 ?_
      refine gk_iload_n (j := 1) h (by decide +kernel) rfl ?_
      refine gk_bipush (n := 20) h (by decide +kernel) (by decide) ?_
      refine gk_iadd h (by decide +kernel) ?_
      refine gk_iload h (by decide +kernel) ?_
      refine gk_iadd h (by decide +kernel) ?_
      refine gk_dup2 h (by decide +kernel) ?_
      refine gk_ald0 h (by decide +kernel) ?_
      refine gk_iload h (by decide +kernel) ?_
      refine gk_aload_n (j := 0) h (by decide +kernel) rfl ?_
      refine gk_getR (i := 81) h ck_8 (by decide) (fun _ _ _ => rfl) (by decide +kernel) kw_1041 ?_
      refine gk_iload_n (j := 1) h (by decide +kernel) rfl ?_
      refine gk_iload h (by decide +kernel) ?_
      refine gk_iadd h (by decide +kernel) ?_
      refine gk_ald0 h (by decide +kernel) ?_
      refine gk_isub h (by decide +kernel) ?_
      refine gk_iadd h (by decide +kernel) ?_
      refine gk_ast0 h (by decide +kernel) ?_
      refine gk_aload_n (j := 0) h (by decide +kernel) rfl ?_
      refine gk_getR (i := 81) h ck_8 (by decide) (fun _ _ _ => rfl) (by decide +kernel) kw_1041 ?_
      refine gk_iload_n (j := 1) h (by decide +kernel) rfl ?_
      refine gk_iload h (by decide +kernel) ?_
      refine gk_iadd h (by decide +kernel) ?_
      refine gk_iload h (by decide +kernel) ?_
      refine gk_iconst (n := 1) h (by decide +kernel) (by decide) ?_
      refine gk_iadd h (by decide +kernel) ?_
      refine gk_ast0 h (by decide +kernel) ?_
      refine gk_aload_n (j := 0) h (by decide +kernel) rfl ?_
      refine gk_getR (i := 81) h ck_8 (by decide) (fun _ _ _ => rfl) (by decide +kernel) kw_1041 ?_
      refine gk_iload_n (j := 1) h (by decide +kernel) rfl ?_
      refine gk_bipush (n := 30) h (by decide +kernel) (by decide) ?_
      refine gk_iadd h (by decide +kernel) ?_
      refine gk_iload h (by decide +kernel) ?_
      refine gk_iadd h (by decide +kernel) ?_
      refine gk_iload h (by decide +kernel) ?_
      refine gk_iconst (n := 4) h (by decide +kernel) (by decide) ?_
      refine gk_icmpne (off := 10) (tgt := 125) h (by decide +kernel) (by decide) ?_ ?_
      · refine gk_iconst (n := 1) h (by decide +kernel) (by decide) ?_
        refine gk_iload h (by decide +kernel) ?_
        refine gk_iadd h (by decide +kernel) ?_
        exact gk_jmp 2 rfl
      · refine gk_iconst (n := 2) h (by decide +kernel) (by decide) ?_
        refine gk_iload h (by decide +kernel) ?_
        refine gk_isub h (by decide +kernel) ?_
        refine gk_goto (off := 7) (tgt := 129) h (by decide +kernel) (by decide) ?_
        exact gk_jmp 2 rfl
  | 2 =>
    show GK X Q153 129 (o_iast 0 (fun x => x) (o_iinc 9 1 (o_jmp 1)))
    refine gk_ast0 h (by decide +kernel) ?_
    refine gk_iinc (z := 1) h (by decide +kernel) (by decide) hxn (by decide) ?_
    refine gk_goto (off := (-98)) (tgt := 35) h (by decide +kernel) (by decide) ?_
    exact gk_jmp 1 rfl
  | 3 =>
    show GK X Q153 177 (o_aload 0 (o_getR 8 36 (o_iload 1 (o_iconst 47 (o_i2 (fun x y => x + y) (o_iload 6 (o_iconst 4 (o_ieq (o_iconst 1 (o_iload 5 (o_i2 (fun x y => x - y) (o_jmp 4)))) (o_iload 5 (o_jmp 4))))))))))
    refine gk_aload_n (j := 0) h (by decide +kernel) rfl ?_
    refine gk_getR (i := 81) h ck_8 (by decide) (fun _ _ _ => rfl) (by decide +kernel) kw_1041 ?_
    refine gk_iload_n (j := 1) h (by decide +kernel) rfl ?_
    refine gk_bipush (n := 47) h (by decide +kernel) (by decide) ?_
    refine gk_iadd h (by decide +kernel) ?_
    refine gk_iload h (by decide +kernel) ?_
    refine gk_iconst (n := 4) h (by decide +kernel) (by decide) ?_
    refine gk_icmpne (off := 10) (tgt := 198) h (by decide +kernel) (by decide) ?_ ?_
    · refine gk_iload h (by decide +kernel) ?_
      exact gk_jmp 4 rfl
    · refine gk_iconst (n := 1) h (by decide +kernel) (by decide) ?_
      refine gk_iload h (by decide +kernel) ?_
      refine gk_isub h (by decide +kernel) ?_
      refine gk_goto (off := 5) (tgt := 200) h (by decide +kernel) (by decide) ?_
      exact gk_jmp 4 rfl
  | 4 =>
    show GK X Q153 200 (o_i2 (fun x y => x + y) (o_dup2 (o_iald 0 (o_iload 8 (o_i2 (fun x y => x + y) (o_iast 0 (fun x => x) (o_aload 0 (o_getR 8 34 (o_iconst 1 (o_iload 6 (o_iconst 3 (o_ieq (o_iconst 2 (o_jmp 5)) (o_iload 4 (o_jmp 5))))))))))))))
    refine gk_iadd h (by decide +kernel) ?_
    refine gk_dup2 h (by decide +kernel) ?_
    refine gk_ald0 h (by decide +kernel) ?_
    refine gk_iload h (by decide +kernel) ?_
    refine gk_iadd h (by decide +kernel) ?_
    refine gk_ast0 h (by decide +kernel) ?_
    refine gk_aload_n (j := 0) h (by decide +kernel) rfl ?_
    refine gk_getR (i := 78) h ck_8 (by decide) (fun _ _ _ => rfl) (by decide +kernel) kw_1039 ?_
    refine gk_iconst (n := 1) h (by decide +kernel) (by decide) ?_
    refine gk_iload h (by decide +kernel) ?_
    refine gk_iconst (n := 3) h (by decide +kernel) (by decide) ?_
    refine gk_icmpne (off := 7) (tgt := 222) h (by decide +kernel) (by decide) ?_ ?_
    · refine gk_iload h (by decide +kernel) ?_
      exact gk_jmp 5 rfl
    · refine gk_iconst (n := 2) h (by decide +kernel) (by decide) ?_
      refine gk_goto (off := 5) (tgt := 224) h (by decide +kernel) (by decide) ?_
      exact gk_jmp 5 rfl
  | 5 =>
    show GK X Q153 224 (o_iast 0 (fun x => x) (o_aload 0 (o_getR 8 34 (o_iconst 2 (o_iload 7 (o_iast 0 (fun x => x) (o_aload 0 (o_getR 8 34 (o_iconst 3 (o_iload 8 (o_iast 0 (fun x => x) (o_aload 0 (o_getR 8 34 (o_iconst 4 (o_aload 0 (o_getR 8 36 (o_iload 1 (o_iconst 45 (o_i2 (fun x y => x + y) (o_iald 0 (o_iast 0 (fun x => x) (o_aload 0 (o_getR 8 36 (o_iload 1 (o_iconst 46 (o_i2 (fun x y => x + y) (o_dup2 (o_iald 0 (o_aload 0 (o_getR 8 18 (o_iconst 0 (o_iald 0 (o_aload 0 (o_getR 8 17 (o_iconst 0 (o_iald 0 (o_ieq (o_aload 0 (o_getR 8 34 (o_iconst 1 (o_iald 0 (o_jmp 6))))) (o_aload 0 (o_iconst 0 (o_vI orc 127 2 8 (o_jmp 6)))))))))))))))))))))))))))))))))))))))))
    refine gk_ast0 h (by decide +kernel) ?_
    refine gk_aload_n (j := 0) h (by decide +kernel) rfl ?_
    refine gk_getR (i := 78) h ck_8 (by decide) (fun _ _ _ => rfl) (by decide +kernel) kw_1039 ?_
    refine gk_iconst (n := 2) h (by decide +kernel) (by decide) ?_
    refine gk_iload h (by decide +kernel) ?_
    refine gk_ast0 h (by decide +kernel) ?_
    refine gk_aload_n (j := 0) h (by decide +kernel) rfl ?_
    refine gk_getR (i := 78) h ck_8 (by decide) (fun _ _ _ => rfl) (by decide +kernel) kw_1039 ?_
    refine gk_iconst (n := 3) h (by decide +kernel) (by decide) ?_
    refine gk_iload h (by decide +kernel) ?_
    refine gk_ast0 h (by decide +kernel) ?_
    refine gk_aload_n (j := 0) h (by decide +kernel) rfl ?_
    refine gk_getR (i := 78) h ck_8 (by decide) (fun _ _ _ => rfl) (by decide +kernel) kw_1039 ?_
    refine gk_iconst (n := 4) h (by decide +kernel) (by decide) ?_
    refine gk_aload_n (j := 0) h (by decide +kernel) rfl ?_
    refine gk_getR (i := 81) h ck_8 (by decide) (fun _ _ _ => rfl) (by decide +kernel) kw_1041 ?_
    refine gk_iload_n (j := 1) h (by decide +kernel) rfl ?_
    refine gk_bipush (n := 45) h (by decide +kernel) (by decide) ?_
    refine gk_iadd h (by decide +kernel) ?_
    refine gk_ald0 h (by decide +kernel) ?_
    refine gk_ast0 h (by decide +kernel) ?_
    refine gk_aload_n (j := 0) h (by decide +kernel) rfl ?_
    refine gk_getR (i := 81) h ck_8 (by decide) (fun _ _ _ => rfl) (by decide +kernel) kw_1041 ?_
    refine gk_iload_n (j := 1) h (by decide +kernel) rfl ?_
    refine gk_bipush (n := 46) h (by decide +kernel) (by decide) ?_
    refine gk_iadd h (by decide +kernel) ?_
    refine gk_dup2 h (by decide +kernel) ?_
    refine gk_ald0 h (by decide +kernel) ?_
    refine gk_aload_n (j := 0) h (by decide +kernel) rfl ?_
    refine gk_getR (i := 38) h ck_8 (by decide) (fun _ _ _ => rfl) (by decide +kernel) kw_1023 ?_
    refine gk_iconst (n := 0) h (by decide +kernel) (by decide) ?_
    refine gk_ald0 h (by decide +kernel) ?_
    refine gk_aload_n (j := 0) h (by decide +kernel) rfl ?_
    refine gk_getR (i := 35) h ck_8 (by decide) (fun _ _ _ => rfl) (by decide +kernel) kw_1022 ?_
    refine gk_iconst (n := 0) h (by decide +kernel) (by decide) ?_
    refine gk_ald0 h (by decide +kernel) ?_
    refine gk_icmpne (off := 12) (tgt := 290) h (by decide +kernel) (by decide) ?_ ?_
    · refine gk_aload_n (j := 0) h (by decide +kernel) rfl ?_
      refine gk_iconst (n := 0) h (by decide +kernel) (by decide) ?_
      refine gk_vI (ca_v (idx := 326) h ho hm_127 (rd_le hrd (by decide)) ck_8 (by decide +kernel) kw_1286 kw_1288 kw_70 kw_101 kw_1289 rfl (by decide +kernel) (by decide)) ?_
      exact gk_jmp 6 rfl
    · refine gk_aload_n (j := 0) h (by decide +kernel) rfl ?_
      refine gk_getR (i := 78) h ck_8 (by decide) (fun _ _ _ => rfl) (by decide +kernel) kw_1039 ?_
      refine gk_iconst (n := 1) h (by decide +kernel) (by decide) ?_
      refine gk_ald0 h (by decide +kernel) ?_
      refine gk_goto (off := 8) (tgt := 295) h (by decide +kernel) (by decide) ?_
      exact gk_jmp 6 rfl
  | 6 =>
    show GK X Q153 295 (o_i2 (fun x y => x + y) (o_iast 0 (fun x => x) (o_vret)))
    refine gk_iadd h (by decide +kernel) ?_
    refine gk_ast0 h (by decide +kernel) ?_
    exact gk_vret h hR (by decide +kernel)
  | _ + 7 => exact fun _ _ _ hr => hr.elim
