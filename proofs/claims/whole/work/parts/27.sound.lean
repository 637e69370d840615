set_option maxRecDepth 20000 in
set_option maxHeartbeats 4000000 in
theorem s_154 : MS mtab yX9_does cX9_does 6 none Q154 P154 := by
  intro X orc d h hR hnm hxn ho hrd b
  match b with
  | 0 =>
    show GK X Q154 0 (o_aload 0 (o_getR 8 36 (o_iload 1 (o_iconst 42 (o_i2 (fun x y => x + y) (o_iald 0 (o_istore 5 (o_iload 2 (o_iconst (-2) (o_ieq (o_aload 0 (o_getR 8 36 (o_iload 1 (o_iconst 10 (o_i2 (fun x y => x + y) (o_iload 3 (o_i2 (fun x y => x + y) (o_iconst 1 (o_iload 5 (o_i2 (fun x y => x + y) (o_iast 0 (fun x => x) (o_aload 0 (o_getR 8 36 (o_iload 1 (o_iconst 40 (o_i2 (fun x y => x + y) (o_iload 5 (o_i2 (fun x y => x + y) (o_dup2 (o_iald 0 (o_iconst 1 (o_i2 (fun x y => x - y) (o_iast 0 (fun x => x) (o_jmp 1)))))))))))))))))))))))) (o_aload 0 (o_iload 1 (o_iload 2 (o_iload 3 (o_iload 4 (o_vV orc 153 5 8 (o_jmp 1)))))))))))))))))
    refine gk_aload_n (j := 0) h (by decide +kernel) rfl ?_
    refine gk_getR (i := 81) h ck_8 (by decide) (fun _ _ _ => rfl) (by decide +kernel) kw_1041 ?_
    refine gk_iload_n (j := 1) h (by decide +kernel) rfl ?_
    refine gk_bipush (n := 42) h (by decide +kernel) (by decide) ?_
    refine gk_iadd h (by decide +kernel) ?_
    refine gk_ald0 h (by decide +kernel) ?_
    refine gk_istore h (by decide +kernel) hxn (by decide) ?_
    refine gk_iload_n (j := 2) h (by decide +kernel) rfl ?_
    refine gk_bipush (n := (-2)) h (by decide +kernel) (by decide) ?_
    refine gk_icmpne (off := 37) (tgt := 51) h (by decide +kernel) (by decide) ?_ ?_
    · refine gk_aload_n (j := 0) h (by decide +kernel) rfl ?_
      refine gk_iload_n (j := 1) h (by decide +kernel) rfl ?_
      refine gk_iload_n (j := 2) h (by decide +kernel) rfl ?_
      refine gk_iload_n (j := 3) h (by decide +kernel) rfl ?_
      refine gk_iload h (by decide +kernel) ?_
      refine gk_vV (ca_v (idx := 329) h ho hm_153 (rd_le hrd (by decide)) ck_8 (by decide +kernel) kw_1282 kw_1284 kw_69 kw_101 kw_1285 rfl (by decide +kernel) (by decide)) ?_
      exact gk_jmp 1 rfl
    · refine gk_aload_n (j := 0) h (by decide +kernel) rfl ?_
      refine gk_getR (i := 81) h ck_8 (by decide) (fun _ _ _ => rfl) (by decide +kernel) kw_1041 ?_
      refine gk_iload_n (j := 1) h (by decide +kernel) rfl ?_
      refine gk_bipush (n := 10) h (by decide +kernel) (by decide) ?_
      refine gk_iadd h (by decide +kernel) ?_
      refine gk_iload_n (j := 3) h (by decide +kernel) rfl ?_
      refine gk_iadd h (by decide +kernel) ?_
      refine gk_iconst (n := 1) h (by decide +kernel) (by decide) ?_
      refine gk_iload h (by decide +kernel) ?_
      refine gk_iadd h (by decide +kernel) ?_
      refine gk_ast0 h (by decide +kernel) ?_
      refine gk_aload_n (j := 0) h (by decide +kernel) rfl ?_
      refine gk_getR (i := 81) h ck_8 (by decide) (fun _ _ _ => rfl) (by decide +kernel) kw_1041 ?_
      refine gk_iload_n (j := 1) h (by decide +kernel) rfl ?_
      refine gk_bipush (n := 40) h (by decide +kernel) (by decide) ?_
      refine gk_iadd h (by decide +kernel) ?_
      refine gk_iload h (by decide +kernel) ?_
      refine gk_iadd h (by decide +kernel) ?_
      refine gk_dup2 h (by decide +kernel) ?_
      refine gk_ald0 h (by decide +kernel) ?_
      refine gk_iconst (n := 1) h (by decide +kernel) (by decide) ?_
      refine gk_isub h (by decide +kernel) ?_
      refine gk_ast0 h (by decide +kernel) ?_
      refine gk_goto (off := 12) (tgt := 60) h (by decide +kernel) (by decide) ?_
      exact gk_jmp 1 rfl
  | 1 =>
    show GK X Q154 60 (o_aload 0 (o_getR 8 36 (o_iload 1 (o_iconst 45 (o_i2 (fun x y => x + y) (o_dup2 (o_iald 0 (o_iconst 1 (o_i2 (fun x y => x + y) (o_iast 0 (fun x => x) (o_aload 0 (o_getR 8 36 (o_iload 1 (o_iconst 42 (o_i2 (fun x y => x + y) (o_iconst 1 (o_iload 5 (o_i2 (fun x y => x - y) (o_iast 0 (fun x => x) (o_aload 0 (o_iload 1 (o_vV orc 142 2 8 (o_vret)))))))))))))))))))))))
    refine gk_aload_n (j := 0) h (by decide +kernel) rfl ?_
    refine gk_getR (i := 81) h ck_8 (by decide) (fun _ _ _ => rfl) (by decide +kernel) kw_1041 ?_
    refine gk_iload_n (j := 1) h (by decide +kernel) rfl ?_
    refine gk_bipush (n := 45) h (by decide +kernel) (by decide) ?_
    refine gk_iadd h (by decide +kernel) ?_
    refine gk_dup2 h (by decide +kernel) ?_
    refine gk_ald0 h (by decide +kernel) ?_
    refine gk_iconst (n := 1) h (by decide +kernel) (by decide) ?_
    refine gk_iadd h (by decide +kernel) ?_
    refine gk_ast0 h (by decide +kernel) ?_
    refine gk_aload_n (j := 0) h (by decide +kernel) rfl ?_
    refine gk_getR (i := 81) h ck_8 (by decide) (fun _ _ _ => rfl) (by decide +kernel) kw_1041 ?_
    refine gk_iload_n (j := 1) h (by decide +kernel) rfl ?_
    refine gk_bipush (n := 42) h (by decide +kernel) (by decide) ?_
    refine gk_iadd h (by decide +kernel) ?_
    refine gk_iconst (n := 1) h (by decide +kernel) (by decide) ?_
    refine gk_iload h (by decide +kernel) ?_
    refine gk_isub h (by decide +kernel) ?_
    refine gk_ast0 h (by decide +kernel) ?_
    refine gk_aload_n (j := 0) h (by decide +kernel) rfl ?_
    refine gk_iload_n (j := 1) h (by decide +kernel) rfl ?_
    refine gk_vV (ca_v (idx := 283) h ho hm_142 (rd_le hrd (by decide)) ck_8 (by decide +kernel) kw_962 kw_964 kw_40 kw_101 kw_965 rfl (by decide +kernel) (by decide)) ?_
    exact gk_vret h hR (by decide +kernel)
  | _ + 2 => exact fun _ _ _ hr => hr.elim
set_option maxRecDepth 20000 in
set_option maxHeartbeats 4000000 in
theorem s_155 : MS mtab yX9_keeps cX9_keeps 2 none Q155 P155 := by
  intro X orc d h hR hnm hxn ho hrd b
  match b with
  | 0 =>
    show GK X Q155 0 (o_aload 0 (o_getI 8 38 (o_iconst 60 (o_ieq (o_iconst 0 (o_istore 1 (o_jmp 1))) (o_jmp 2)))))
    refine gk_aload_n (j := 0) h (by decide +kernel) rfl ?_
    refine gk_getI (i := 274) h ck_8 (by decide) (fun _ _ _ => rfl) (by decide +kernel) kw_1043 ?_
    refine gk_bipush (n := 60) h (by decide +kernel) (by decide) ?_
    refine gk_icmpne (off := 43) (tgt := 49) h (by decide +kernel) (by decide) ?_ ?_
    · exact gk_jmp 2 rfl
    · refine gk_iconst (n := 0) h (by decide +kernel) (by decide) ?_
      refine gk_istore_n (j := 1) h (by decide +kernel) rfl hxn (by decide) ?_
      exact gk_jmp 1 rfl
  | 1 =>
    show GK X Q155 11 (o_iload 1 (o_iconst 3776 (o_ilt (o_aload 0 (o_getR 8 37 (o_iload 1 (o_aload 0 (o_getR 8 37 (o_iload 1 (o_iconst 64 (o_i2 (fun x y => x + y) (o_iald 0 (o_iast 0 (fun x => x) (o_iinc 1 1 (o_jmp 1)))))))))))) (o_aload 0 (o_dup (o_getI 8 38 (o_iconst 1 (o_i2 (fun x y => x - y) (o_putI 8 38 (o_jmp 2))))))))))
    refine gk_iload_n (j := 1) h (by decide +kernel) rfl ?_
    refine gk_sipush (n := 3776) h (by decide +kernel) (by decide) ?_
    refine gk_icmpge (off := 24) (tgt := 39) h (by decide +kernel) (by decide) ?_ ?_
    · refine gk_aload_n (j := 0) h (by decide +kernel) rfl ?_
      refine gk_dup h (by decide +kernel) ?_
      refine gk_getI (i := 274) h ck_8 (by decide) (fun _ _ _ => rfl) (by decide +kernel) kw_1043 ?_
      refine gk_iconst (n := 1) h (by decide +kernel) (by decide) ?_
      refine gk_isub h (by decide +kernel) ?_
      refine gk_putI (i := 274) h ck_8 (by decide) rfl (Or.inl rfl) (by decide +kernel) kw_1043 ?_
      exact gk_jmp 2 rfl
    · refine gk_aload_n (j := 0) h (by decide +kernel) rfl ?_
      refine gk_getR (i := 84) h ck_8 (by decide) (fun _ _ _ => rfl) (by decide +kernel) kw_1042 ?_
      refine gk_iload_n (j := 1) h (by decide +kernel) rfl ?_
      refine gk_aload_n (j := 0) h (by decide +kernel) rfl ?_
      refine gk_getR (i := 84) h ck_8 (by decide) (fun _ _ _ => rfl) (by decide +kernel) kw_1042 ?_
      refine gk_iload_n (j := 1) h (by decide +kernel) rfl ?_
      refine gk_bipush (n := 64) h (by decide +kernel) (by decide) ?_
      refine gk_iadd h (by decide +kernel) ?_
      refine gk_ald0 h (by decide +kernel) ?_
      refine gk_ast0 h (by decide +kernel) ?_
      refine gk_iinc (z := 1) h (by decide +kernel) (by decide) hxn (by decide) ?_
      refine gk_goto (off := (-25)) (tgt := 11) h (by decide +kernel) (by decide) ?_
      exact gk_jmp 1 rfl
  | 2 =>
    show GK X Q155 49 (o_iconst 0 (o_istore 1 (o_jmp 3)))
    refine gk_iconst (n := 0) h (by decide +kernel) (by decide) ?_
    refine gk_istore_n (j := 1) h (by decide +kernel) rfl hxn (by decide) ?_
    exact gk_jmp 3 rfl
  | 3 =>
    show GK X Q155 51 (o_iload 1 (o_iconst 64 (o_ilt (o_aload 0 (o_getR 8 37 (o_iconst 64 (o_aload 0 (o_getI 8 38 (o_i2 (fun x y => x * y) (o_iload 1 (o_i2 (fun x y => x + y) (o_aload 0 (o_getR 8 36 (o_iload 1 (o_iald 0 (o_iast 0 (fun x => x) (o_iinc 1 1 (o_jmp 3))))))))))))))) (o_aload 0 (o_dup (o_getI 8 38 (o_iconst 1 (o_i2 (fun x y => x + y) (o_putI 8 38 (o_vret))))))))))
    refine gk_iload_n (j := 1) h (by decide +kernel) rfl ?_
    refine gk_bipush (n := 64) h (by decide +kernel) (by decide) ?_
    refine gk_icmpge (off := 29) (tgt := 83) h (by decide +kernel) (by decide) ?_ ?_
    · refine gk_aload_n (j := 0) h (by decide +kernel) rfl ?_
      refine gk_dup h (by decide +kernel) ?_
      refine gk_getI (i := 274) h ck_8 (by decide) (fun _ _ _ => rfl) (by decide +kernel) kw_1043 ?_
      refine gk_iconst (n := 1) h (by decide +kernel) (by decide) ?_
      refine gk_iadd h (by decide +kernel) ?_
      refine gk_putI (i := 274) h ck_8 (by decide) rfl (Or.inl rfl) (by decide +kernel) kw_1043 ?_
      exact gk_vret h hR (by decide +kernel)
    · refine gk_aload_n (j := 0) h (by decide +kernel) rfl ?_
      refine gk_getR (i := 84) h ck_8 (by decide) (fun _ _ _ => rfl) (by decide +kernel) kw_1042 ?_
      refine gk_bipush (n := 64) h (by decide +kernel) (by decide) ?_
      refine gk_aload_n (j := 0) h (by decide +kernel) rfl ?_
      refine gk_getI (i := 274) h ck_8 (by decide) (fun _ _ _ => rfl) (by decide +kernel) kw_1043 ?_
      refine gk_imul h (by decide +kernel) ?_
      refine gk_iload_n (j := 1) h (by decide +kernel) rfl ?_
      refine gk_iadd h (by decide +kernel) ?_
      refine gk_aload_n (j := 0) h (by decide +kernel) rfl ?_
      refine gk_getR (i := 81) h ck_8 (by decide) (fun _ _ _ => rfl) (by decide +kernel) kw_1041 ?_
      refine gk_iload_n (j := 1) h (by decide +kernel) rfl ?_
      refine gk_ald0 h (by decide +kernel) ?_
      refine gk_ast0 h (by decide +kernel) ?_
      refine gk_iinc (z := 1) h (by decide +kernel) (by decide) hxn (by decide) ?_
      refine gk_goto (off := (-29)) (tgt := 51) h (by decide +kernel) (by decide) ?_
      exact gk_jmp 3 rfl
  | _ + 4 => exact fun _ _ _ hr => hr.elim
set_option maxRecDepth 20000 in
set_option maxHeartbeats 4000000 in
theorem s_156 : MS mtab yX9_stone cX9_stone 3 (some .int) Q156 P156 := by
  intro X orc d h hR hnm hxn ho hrd b
  match b with
  | 0 =>
    show GK X Q156 0 (o_aload 0 (o_iconst 0 (o_putI 8 0 (o_iload 1 (o_ifn (o_jmp 1) (o_iload 1 (o_aload 0 (o_getR 8 12 (o_iconst 0 (o_iald 0 (o_ilt (o_iload 2 (o_iconst 0 (o_iconst 1 (o_sI orc 114 3 (o_if0 (o_jmp 1) (o_iload 2 (o_if0 (o_aload 0 (o_getR 8 14 (o_iload 1 (o_iald 0 (o_iret))))) (o_aload 0 (o_getR 8 15 (o_iload 1 (o_iald 0 (o_iret)))))))))))) (o_jmp 1))))))))))))
    refine gk_aload_n (j := 0) h (by decide +kernel) rfl ?_
    refine gk_iconst (n := 0) h (by decide +kernel) (by decide) ?_
    refine gk_putI (i := 116) h ck_8 (by decide) rfl (Or.inl rfl) (by decide +kernel) kw_1005 ?_
    refine gk_iload_n (j := 1) h (by decide +kernel) rfl ?_
    refine gk_iflt (off := 22) (tgt := 28) h (by decide +kernel) (by decide) ?_ ?_
    · exact gk_jmp 1 rfl
    · refine gk_iload_n (j := 1) h (by decide +kernel) rfl ?_
      refine gk_aload_n (j := 0) h (by decide +kernel) rfl ?_
      refine gk_getR (i := 19) h ck_8 (by decide) (fun _ _ _ => rfl) (by decide +kernel) kw_1017 ?_
      refine gk_iconst (n := 0) h (by decide +kernel) (by decide) ?_
      refine gk_ald0 h (by decide +kernel) ?_
      refine gk_icmpge (off := 12) (tgt := 28) h (by decide +kernel) (by decide) ?_ ?_
      · exact gk_jmp 1 rfl
      · refine gk_iload_n (j := 2) h (by decide +kernel) rfl ?_
        refine gk_iconst (n := 0) h (by decide +kernel) (by decide) ?_
        refine gk_iconst (n := 1) h (by decide +kernel) (by decide) ?_
        refine gk_sI (ca_s (idx := 223) h ho hm_114 (rd_le hrd (by decide)) (by decide +kernel) kw_990 kw_991 kw_101 kw_992 (by decide +kernel)) ?_
        refine gk_ifne (off := 7) (tgt := 32) h (by decide +kernel) (by decide) ?_ ?_
        · refine gk_iload_n (j := 2) h (by decide +kernel) rfl ?_
          refine gk_ifne (off := 12) (tgt := 45) h (by decide +kernel) (by decide) ?_ ?_
          · refine gk_aload_n (j := 0) h (by decide +kernel) rfl ?_
            refine gk_getR (i := 28) h ck_8 (by decide) (fun _ _ _ => rfl) (by decide +kernel) kw_1020 ?_
            refine gk_iload_n (j := 1) h (by decide +kernel) rfl ?_
            refine gk_ald0 h (by decide +kernel) ?_
            exact gk_iret h hR (by decide +kernel)
          · refine gk_aload_n (j := 0) h (by decide +kernel) rfl ?_
            refine gk_getR (i := 25) h ck_8 (by decide) (fun _ _ _ => rfl) (by decide +kernel) kw_1019 ?_
            refine gk_iload_n (j := 1) h (by decide +kernel) rfl ?_
            refine gk_ald0 h (by decide +kernel) ?_
            refine gk_goto (off := 9) (tgt := 51) h (by decide +kernel) (by decide) ?_
            exact gk_iret h hR (by decide +kernel)
        · exact gk_jmp 1 rfl
  | 1 =>
    show GK X Q156 28 (o_iconst (-1) (o_iret))
    refine gk_iconst (n := (-1)) h (by decide +kernel) (by decide) ?_
    refine gk_goto (off := 22) (tgt := 51) h (by decide +kernel) (by decide) ?_
    exact gk_iret h hR (by decide +kernel)
  | _ + 2 => exact fun _ _ _ hr => hr.elim
set_option maxRecDepth 20000 in
set_option maxHeartbeats 4000000 in
theorem s_157 : MS mtab yX9_set cX9_set 5 (some .int) Q157 P157 := by
  intro X orc d h hR hnm hxn ho hrd b
  match b with
  | 0 =>
    show GK X Q157 0 (o_aload 0 (o_iconst 0 (o_putI 8 0 (o_aload 0 (o_iconst 0 (o_iload 1 (o_iload 2 (o_iload 3 (o_aload 0 (o_getR 8 36 (o_iconst 43 (o_iald 0 (o_ifp (o_iconst 1 (o_jmp 1)) (o_iconst 0 (o_jmp 1)))))))))))))))
    refine gk_aload_n (j := 0) h (by decide +kernel) rfl ?_
    refine gk_iconst (n := 0) h (by decide +kernel) (by decide) ?_
    refine gk_putI (i := 116) h ck_8 (by decide) rfl (Or.inl rfl) (by decide +kernel) kw_1005 ?_
    refine gk_aload_n (j := 0) h (by decide +kernel) rfl ?_
    refine gk_iconst (n := 0) h (by decide +kernel) (by decide) ?_
    refine gk_iload_n (j := 1) h (by decide +kernel) rfl ?_
    refine gk_iload_n (j := 2) h (by decide +kernel) rfl ?_
    refine gk_iload_n (j := 3) h (by decide +kernel) rfl ?_
    refine gk_aload_n (j := 0) h (by decide +kernel) rfl ?_
    refine gk_getR (i := 81) h ck_8 (by decide) (fun _ _ _ => rfl) (by decide +kernel) kw_1041 ?_
    refine gk_bipush (n := 43) h (by decide +kernel) (by decide) ?_
    refine gk_ald0 h (by decide +kernel) ?_
    refine gk_ifle (off := 7) (tgt := 24) h (by decide +kernel) (by decide) ?_ ?_
    · refine gk_iconst (n := 0) h (by decide +kernel) (by decide) ?_
      exact gk_jmp 1 rfl
    · refine gk_iconst (n := 1) h (by decide +kernel) (by decide) ?_
      refine gk_goto (off := 4) (tgt := 25) h (by decide +kernel) (by decide) ?_
      exact gk_jmp 1 rfl
  | 1 =>
    show GK X Q157 25 (o_vI orc 147 6 8 (o_istore 4 (o_iload 4 (o_ifp (o_iload 4 (o_iret)) (o_aload 0 (o_vV orc 155 1 8 (o_aload 0 (o_iconst 0 (o_iload 1 (o_iload 2 (o_iload 3 (o_vV orc 154 5 8 (o_iconst 0 (o_iret))))))))))))))
    refine gk_vI (ca_v (idx := 314) h ho hm_147 (rd_le hrd (by decide)) ck_8 (by decide +kernel) kw_978 kw_980 kw_44 kw_101 kw_981 rfl (by decide +kernel) (by decide)) ?_
    refine gk_istore h (by decide +kernel) hxn (by decide) ?_
    refine gk_iload h (by decide +kernel) ?_
    refine gk_ifle (off := 6) (tgt := 38) h (by decide +kernel) (by decide) ?_ ?_
    · refine gk_aload_n (j := 0) h (by decide +kernel) rfl ?_
      refine gk_vV (ca_v (idx := 333) h ho hm_155 (rd_le hrd (by decide)) ck_8 (by decide +kernel) kw_1274 kw_1276 kw_67 kw_101 kw_1277 rfl (by decide +kernel) (by decide)) ?_
      refine gk_aload_n (j := 0) h (by decide +kernel) rfl ?_
      refine gk_iconst (n := 0) h (by decide +kernel) (by decide) ?_
      refine gk_iload_n (j := 1) h (by decide +kernel) rfl ?_
      refine gk_iload_n (j := 2) h (by decide +kernel) rfl ?_
      refine gk_iload_n (j := 3) h (by decide +kernel) rfl ?_
      refine gk_vV (ca_v (idx := 336) h ho hm_154 (rd_le hrd (by decide)) ck_8 (by decide +kernel) kw_1278 kw_1280 kw_68 kw_101 kw_1281 rfl (by decide +kernel) (by decide)) ?_
      refine gk_iconst (n := 0) h (by decide +kernel) (by decide) ?_
      exact gk_iret h hR (by decide +kernel)
    · refine gk_iload h (by decide +kernel) ?_
      exact gk_iret h hR (by decide +kernel)
  | _ + 2 => exact fun _ _ _ hr => hr.elim
set_option maxRecDepth 20000 in
set_option maxHeartbeats 4000000 in
theorem s_158 : MS mtab yX9_leave cX9_leave 3 (some .int) Q158 P158 := by
  intro X orc d h hR hnm hxn ho hrd b
  match b with
  | 0 =>
    show GK X Q158 0 (o_aload 0 (o_iconst 0 (o_putI 8 0 (o_aload 0 (o_iconst 0 (o_iload 1 (o_aload 0 (o_getR 8 36 (o_iconst 43 (o_iald 0 (o_ifp (o_iconst 1 (o_jmp 1)) (o_iconst 0 (o_jmp 1)))))))))))))
    refine gk_aload_n (j := 0) h (by decide +kernel) rfl ?_
    refine gk_iconst (n := 0) h (by decide +kernel) (by decide) ?_
    refine gk_putI (i := 116) h ck_8 (by decide) rfl (Or.inl rfl) (by decide +kernel) kw_1005 ?_
    refine gk_aload_n (j := 0) h (by decide +kernel) rfl ?_
    refine gk_iconst (n := 0) h (by decide +kernel) (by decide) ?_
    refine gk_iload_n (j := 1) h (by decide +kernel) rfl ?_
    refine gk_aload_n (j := 0) h (by decide +kernel) rfl ?_
    refine gk_getR (i := 81) h ck_8 (by decide) (fun _ _ _ => rfl) (by decide +kernel) kw_1041 ?_
    refine gk_bipush (n := 43) h (by decide +kernel) (by decide) ?_
    refine gk_ald0 h (by decide +kernel) ?_
    refine gk_ifle (off := 7) (tgt := 22) h (by decide +kernel) (by decide) ?_ ?_
    · refine gk_iconst (n := 0) h (by decide +kernel) (by decide) ?_
      exact gk_jmp 1 rfl
    · refine gk_iconst (n := 1) h (by decide +kernel) (by decide) ?_
      refine gk_goto (off := 4) (tgt := 23) h (by decide +kernel) (by decide) ?_
      exact gk_jmp 1 rfl
  | 1 =>
    show GK X Q158 23 (o_vI orc 148 4 8 (o_istore 2 (o_iload 2 (o_ifp (o_iload 2 (o_iret)) (o_aload 0 (o_vV orc 155 1 8 (o_aload 0 (o_iconst 0 (o_iconst (-2) (o_iload 1 (o_iconst 0 (o_vV orc 154 5 8 (o_iconst 0 (o_iret))))))))))))))
    refine gk_vI (ca_v (idx := 318) h ho hm_148 (rd_le hrd (by decide)) ck_8 (by decide +kernel) kw_1001 kw_1003 kw_49 kw_101 kw_1004 rfl (by decide +kernel) (by decide)) ?_
    refine gk_istore_n (j := 2) h (by decide +kernel) rfl hxn (by decide) ?_
    refine gk_iload_n (j := 2) h (by decide +kernel) rfl ?_
    refine gk_ifle (off := 5) (tgt := 33) h (by decide +kernel) (by decide) ?_ ?_
    · refine gk_aload_n (j := 0) h (by decide +kernel) rfl ?_
      refine gk_vV (ca_v (idx := 333) h ho hm_155 (rd_le hrd (by decide)) ck_8 (by decide +kernel) kw_1274 kw_1276 kw_67 kw_101 kw_1277 rfl (by decide +kernel) (by decide)) ?_
      refine gk_aload_n (j := 0) h (by decide +kernel) rfl ?_
      refine gk_iconst (n := 0) h (by decide +kernel) (by decide) ?_
      refine gk_bipush (n := (-2)) h (by decide +kernel) (by decide) ?_
      refine gk_iload_n (j := 1) h (by decide +kernel) rfl ?_
      refine gk_iconst (n := 0) h (by decide +kernel) (by decide) ?_
      refine gk_vV (ca_v (idx := 336) h ho hm_154 (rd_le hrd (by decide)) ck_8 (by decide +kernel) kw_1278 kw_1280 kw_68 kw_101 kw_1281 rfl (by decide +kernel) (by decide)) ?_
      refine gk_iconst (n := 0) h (by decide +kernel) (by decide) ?_
      exact gk_iret h hR (by decide +kernel)
    · refine gk_iload_n (j := 2) h (by decide +kernel) rfl ?_
      exact gk_iret h hR (by decide +kernel)
  | _ + 2 => exact fun _ _ _ hr => hr.elim
set_option maxRecDepth 20000 in
set_option maxHeartbeats 4000000 in
theorem s_159 : MS mtab yX9_fits cX9_fits 4 (some .int) Q159 P159 := by
  intro X orc d h hR hnm hxn ho hrd b
  match b with
  | 0 =>
    show GK X Q159 0 (o_aload 0 (o_iconst 0 (o_putI 8 0 (o_aload 0 (o_iconst 0 (o_iload 1 (o_iload 2 (o_iload 3 (o_aload 0 (o_getR 8 36 (o_iconst 43 (o_iald 0 (o_ifp (o_iconst 1 (o_jmp 1)) (o_iconst 0 (o_jmp 1)))))))))))))))
    refine gk_aload_n (j := 0) h (by decide +kernel) rfl ?_
    refine gk_iconst (n := 0) h (by decide +kernel) (by decide) ?_
    refine gk_putI (i := 116) h ck_8 (by decide) rfl (Or.inl rfl) (by decide +kernel) kw_1005 ?_
    refine gk_aload_n (j := 0) h (by decide +kernel) rfl ?_
    refine gk_iconst (n := 0) h (by decide +kernel) (by decide) ?_
    refine gk_iload_n (j := 1) h (by decide +kernel) rfl ?_
    refine gk_iload_n (j := 2) h (by decide +kernel) rfl ?_
    refine gk_iload_n (j := 3) h (by decide +kernel) rfl ?_
    refine gk_aload_n (j := 0) h (by decide +kernel) rfl ?_
    refine gk_getR (i := 81) h ck_8 (by decide) (fun _ _ _ => rfl) (by decide +kernel) kw_1041 ?_
    refine gk_bipush (n := 43) h (by decide +kernel) (by decide) ?_
    refine gk_ald0 h (by decide +kernel) ?_
    refine gk_ifle (off := 7) (tgt := 24) h (by decide +kernel) (by decide) ?_ ?_
    · refine gk_iconst (n := 0) h (by decide +kernel) (by decide) ?_
      exact gk_jmp 1 rfl
    · refine gk_iconst (n := 1) h (by decide +kernel) (by decide) ?_
      refine gk_goto (off := 4) (tgt := 25) h (by decide +kernel) (by decide) ?_
      exact gk_jmp 1 rfl
  | 1 =>
    show GK X Q159 25 (o_vI orc 147 6 8 (o_iret))
    refine gk_vI (ca_v (idx := 314) h ho hm_147 (rd_le hrd (by decide)) ck_8 (by decide +kernel) kw_978 kw_980 kw_44 kw_101 kw_981 rfl (by decide +kernel) (by decide)) ?_
    exact gk_iret h hR (by decide +kernel)
  | _ + 2 => exact fun _ _ _ hr => hr.elim
set_option maxRecDepth 20000 in
set_option maxHeartbeats 4000000 in
theorem s_160 : MS mtab yX9_undo cX9_undo 2 (some .boolean) Q160 P160 := by
  intro X orc d h hR hnm hxn ho hrd b
  match b with
  | 0 =>
    show GK X Q160 0 (o_aload 0 (o_iconst 0 (o_putI 8 0 (o_aload 0 (o_getI 8 38 (o_if0 (o_iconst 0 (o_zret)) (o_aload 0 (o_dup (o_getI 8 38 (o_iconst 1 (o_i2 (fun x y => x - y) (o_putI 8 38 (o_iconst 0 (o_istore 1 (o_jmp 1)))))))))))))))
    refine gk_aload_n (j := 0) h (by decide +kernel) rfl ?_
    refine gk_iconst (n := 0) h (by decide +kernel) (by decide) ?_
    refine gk_putI (i := 116) h ck_8 (by decide) rfl (Or.inl rfl) (by decide +kernel) kw_1005 ?_
    refine gk_aload_n (j := 0) h (by decide +kernel) rfl ?_
    refine gk_getI (i := 274) h ck_8 (by decide) (fun _ _ _ => rfl) (by decide +kernel) kw_1043 ?_
    refine gk_ifne (off := 5) (tgt := 14) h (by decide +kernel) (by decide) ?_ ?_
    · refine gk_aload_n (j := 0) h (by decide +kernel) rfl ?_
      refine gk_dup h (by decide +kernel) ?_
      refine gk_getI (i := 274) h ck_8 (by decide) (fun _ _ _ => rfl) (by decide +kernel) kw_1043 ?_
      refine gk_iconst (n := 1) h (by decide +kernel) (by decide) ?_
      refine gk_isub h (by decide +kernel) ?_
      refine gk_putI (i := 274) h ck_8 (by decide) rfl (Or.inl rfl) (by decide +kernel) kw_1043 ?_
      refine gk_iconst (n := 0) h (by decide +kernel) (by decide) ?_
      refine gk_istore_n (j := 1) h (by decide +kernel) rfl hxn (by decide) ?_
      exact gk_jmp 1 rfl
    · refine gk_iconst (n := 0) h (by decide +kernel) (by decide) ?_
      exact gk_zret h hR (by decide +kernel)
  | 1 =>
    show GK X Q160 26 (o_iload 1 (o_iconst 64 (o_ilt (o_aload 0 (o_getR 8 36 (o_iload 1 (o_aload 0 (o_getR 8 37 (o_iconst 64 (o_aload 0 (o_getI 8 38 (o_i2 (fun x y => x * y) (o_iload 1 (o_i2 (fun x y => x + y) (o_iald 0 (o_iast 0 (fun x => x) (o_iinc 1 1 (o_jmp 1))))))))))))))) (o_iconst 1 (o_zret)))))
    refine gk_iload_n (j := 1) h (by decide +kernel) rfl ?_
    refine gk_bipush (n := 64) h (by decide +kernel) (by decide) ?_
    refine gk_icmpge (off := 29) (tgt := 58) h (by decide +kernel) (by decide) ?_ ?_
    · refine gk_iconst (n := 1) h (by decide +kernel) (by decide) ?_
      exact gk_zret h hR (by decide +kernel)
    · refine gk_aload_n (j := 0) h (by decide +kernel) rfl ?_
      refine gk_getR (i := 81) h ck_8 (by decide) (fun _ _ _ => rfl) (by decide +kernel) kw_1041 ?_
      refine gk_iload_n (j := 1) h (by decide +kernel) rfl ?_
      refine gk_aload_n (j := 0) h (by decide +kernel) rfl ?_
      refine gk_getR (i := 84) h ck_8 (by decide) (fun _ _ _ => rfl) (by decide +kernel) kw_1042 ?_
      refine gk_bipush (n := 64) h (by decide +kernel) (by decide) ?_
      refine gk_aload_n (j := 0) h (by decide +kernel) rfl ?_
      refine gk_getI (i := 274) h ck_8 (by decide) (fun _ _ _ => rfl) (by decide +kernel) kw_1043 ?_
      refine gk_imul h (by decide +kernel) ?_
      refine gk_iload_n (j := 1) h (by decide +kernel) rfl ?_
      refine gk_iadd h (by decide +kernel) ?_
      refine gk_ald0 h (by decide +kernel) ?_
      refine gk_ast0 h (by decide +kernel) ?_
      refine gk_iinc (z := 1) h (by decide +kernel) (by decide) hxn (by decide) ?_
      refine gk_goto (off := (-29)) (tgt := 26) h (by decide +kernel) (by decide) ?_
      exact gk_jmp 1 rfl
  | _ + 2 => exact fun _ _ _ hr => hr.elim
set_option maxRecDepth 20000 in
set_option maxHeartbeats 4000000 in
theorem s_161 : MS mtab yX9_column cX9_column 3 (some .int) Q161 P161 := by
  intro X orc d h hR hnm hxn ho hrd b
  match b with
  | 0 =>
    show GK X Q161 0 (o_aload 0 (o_iconst 0 (o_putI 8 0 (o_aload 0 (o_iload 1 (o_vI orc 143 2 8 (o_if0 (o_iconst (-1) (o_iret)) (o_iload 2 (o_iconst 0 (o_iconst 3 (o_sI orc 114 3 (o_if0 (o_iconst (-1) (o_iret)) (o_iload 2 (o_if0 (o_aload 0 (o_getR 8 36 (o_iload 1 (o_iald 0 (o_iret))))) (o_iload 2 (o_iconst 1 (o_ieq (o_aload 0 (o_getR 8 36 (o_iconst 10 (o_iload 1 (o_i2 (fun x y => x + y) (o_iald 0 (o_iconst 1 (o_i2 (fun x y => x - y) (o_iret))))))))) (o_iload 2 (o_iconst 2 (o_ieq (o_aload 0 (o_getR 8 36 (o_iconst 20 (o_iload 1 (o_i2 (fun x y => x + y) (o_iald 0 (o_iret))))))) (o_aload 0 (o_getR 8 36 (o_iconst 30 (o_iload 1 (o_i2 (fun x y => x + y) (o_iald 0 (o_iconst 1 (o_i2 (fun x y => x - y) (o_iret)))))))))))))))))))))))))))))
    refine gk_aload_n (j := 0) h (by decide +kernel) rfl ?_
    refine gk_iconst (n := 0) h (by decide +kernel) (by decide) ?_
    refine gk_putI (i := 116) h ck_8 (by decide) rfl (Or.inl rfl) (by decide +kernel) kw_1005 ?_
    refine gk_aload_n (j := 0) h (by decide +kernel) rfl ?_
    refine gk_iload_n (j := 1) h (by decide +kernel) rfl ?_
    refine gk_vI (ca_v (idx := 292) h ho hm_143 (rd_le hrd (by decide)) ck_8 (by decide +kernel) kw_982 kw_984 kw_45 kw_101 kw_985 rfl (by decide +kernel) (by decide)) ?_
    refine gk_ifeq (off := 12) (tgt := 22) h (by decide +kernel) (by decide) ?_ ?_
    · refine gk_iconst (n := (-1)) h (by decide +kernel) (by decide) ?_
      exact gk_iret h hR (by decide +kernel)
    · refine gk_iload_n (j := 2) h (by decide +kernel) rfl ?_
      refine gk_iconst (n := 0) h (by decide +kernel) (by decide) ?_
      refine gk_iconst (n := 3) h (by decide +kernel) (by decide) ?_
      refine gk_sI (ca_s (idx := 223) h ho hm_114 (rd_le hrd (by decide)) (by decide +kernel) kw_990 kw_991 kw_101 kw_992 (by decide +kernel)) ?_
      refine gk_ifne (off := 5) (tgt := 24) h (by decide +kernel) (by decide) ?_ ?_
      · refine gk_iload_n (j := 2) h (by decide +kernel) rfl ?_
        refine gk_ifne (off := 12) (tgt := 37) h (by decide +kernel) (by decide) ?_ ?_
        · refine gk_iload_n (j := 2) h (by decide +kernel) rfl ?_
          refine gk_iconst (n := 1) h (by decide +kernel) (by decide) ?_
          refine gk_icmpne (off := 17) (tgt := 56) h (by decide +kernel) (by decide) ?_ ?_
          · refine gk_iload_n (j := 2) h (by decide +kernel) rfl ?_
            refine gk_iconst (n := 2) h (by decide +kernel) (by decide) ?_
            refine gk_icmpne (off := 15) (tgt := 73) h (by decide +kernel) (by decide) ?_ ?_
            · refine gk_aload_n (j := 0) h (by decide +kernel) rfl ?_
              refine gk_getR (i := 81) h ck_8 (by decide) (fun _ _ _ => rfl) (by decide +kernel) kw_1041 ?_
              refine gk_bipush (n := 30) h (by decide +kernel) (by decide) ?_
              refine gk_iload_n (j := 1) h (by decide +kernel) rfl ?_
              refine gk_iadd h (by decide +kernel) ?_
              refine gk_ald0 h (by decide +kernel) ?_
              refine gk_iconst (n := 1) h (by decide +kernel) (by decide) ?_
              refine gk_isub h (by decide +kernel) ?_
              exact gk_iret h hR (by decide +kernel)
            · refine gk_aload_n (j := 0) h (by decide +kernel) rfl ?_
              refine gk_getR (i := 81) h ck_8 (by decide) (fun _ _ _ => rfl) (by decide +kernel) kw_1041 ?_
              refine gk_bipush (n := 20) h (by decide +kernel) (by decide) ?_
              refine gk_iload_n (j := 1) h (by decide +kernel) rfl ?_
              refine gk_iadd h (by decide +kernel) ?_
              refine gk_ald0 h (by decide +kernel) ?_
              refine gk_goto (off := 14) (tgt := 84) h (by decide +kernel) (by decide) ?_
              exact gk_iret h hR (by decide +kernel)
          · refine gk_aload_n (j := 0) h (by decide +kernel) rfl ?_
            refine gk_getR (i := 81) h ck_8 (by decide) (fun _ _ _ => rfl) (by decide +kernel) kw_1041 ?_
            refine gk_bipush (n := 10) h (by decide +kernel) (by decide) ?_
            refine gk_iload_n (j := 1) h (by decide +kernel) rfl ?_
            refine gk_iadd h (by decide +kernel) ?_
            refine gk_ald0 h (by decide +kernel) ?_
            refine gk_iconst (n := 1) h (by decide +kernel) (by decide) ?_
            refine gk_isub h (by decide +kernel) ?_
            refine gk_goto (off := 31) (tgt := 84) h (by decide +kernel) (by decide) ?_
            exact gk_iret h hR (by decide +kernel)
        · refine gk_aload_n (j := 0) h (by decide +kernel) rfl ?_
          refine gk_getR (i := 81) h ck_8 (by decide) (fun _ _ _ => rfl) (by decide +kernel) kw_1041 ?_
          refine gk_iload_n (j := 1) h (by decide +kernel) rfl ?_
          refine gk_ald0 h (by decide +kernel) ?_
          refine gk_goto (off := 50) (tgt := 84) h (by decide +kernel) (by decide) ?_
          exact gk_iret h hR (by decide +kernel)
      · refine gk_iconst (n := (-1)) h (by decide +kernel) (by decide) ?_
        exact gk_iret h hR (by decide +kernel)
  | _ + 1 => exact fun _ _ _ hr => hr.elim
set_option maxRecDepth 20000 in
set_option maxHeartbeats 4000000 in
theorem s_162 : MS mtab yX9_actsNow cX9_actsNow 1 (some .int) Q162 P162 := by
  intro X orc d h hR hnm hxn ho hrd b
  match b with
  | 0 =>
    show GK X Q162 0 (o_aload 0 (o_getR 8 36 (o_iconst 43 (o_iald 0 (o_ifp (o_iconst 0 (o_iret)) (o_aload 0 (o_iconst 0 (o_vI orc 151 2 8 (o_iret)))))))))
    refine gk_aload_n (j := 0) h (by decide +kernel) rfl ?_
    refine gk_getR (i := 81) h ck_8 (by decide) (fun _ _ _ => rfl) (by decide +kernel) kw_1041 ?_
    refine gk_bipush (n := 43) h (by decide +kernel) (by decide) ?_
    refine gk_ald0 h (by decide +kernel) ?_
    refine gk_ifle (off := 7) (tgt := 14) h (by decide +kernel) (by decide) ?_ ?_
    · refine gk_aload_n (j := 0) h (by decide +kernel) rfl ?_
      refine gk_iconst (n := 0) h (by decide +kernel) (by decide) ?_
      refine gk_vI (ca_v (idx := 339) h ho hm_151 (rd_le hrd (by decide)) ck_8 (by decide +kernel) kw_1326 kw_1328 kw_75 kw_101 kw_1329 rfl (by decide +kernel) (by decide)) ?_
      exact gk_iret h hR (by decide +kernel)
    · refine gk_iconst (n := 0) h (by decide +kernel) (by decide) ?_
      refine gk_goto (off := 8) (tgt := 19) h (by decide +kernel) (by decide) ?_
      exact gk_iret h hR (by decide +kernel)
  | _ + 1 => exact fun _ _ _ hr => hr.elim
set_option maxRecDepth 20000 in
set_option maxHeartbeats 4000000 in
theorem s_163 : MS mtab yX9_state cX9_state 2 (some .int) Q163 P163 := by
  intro X orc d h hR hnm hxn ho hrd b
  match b with
  | 0 =>
    show GK X Q163 0 (o_aload 0 (o_iload 1 (o_iconst 0 (o_iconst 9 (o_sI orc 114 3 (o_if0 (o_iconst 1 (o_jmp 1)) (o_iconst 0 (o_jmp 1))))))))
    refine gk_aload_n (j := 0) h (by decide +kernel) rfl ?_
    refine gk_iload_n (j := 1) h (by decide +kernel) rfl ?_
    refine gk_iconst (n := 0) h (by decide +kernel) (by decide) ?_
    refine gk_bipush (n := 9) h (by decide +kernel) (by decide) ?_
    refine gk_sI (ca_s (idx := 223) h ho hm_114 (rd_le hrd (by decide)) (by decide +kernel) kw_990 kw_991 kw_101 kw_992 (by decide +kernel)) ?_
    refine gk_ifeq (off := 7) (tgt := 15) h (by decide +kernel) (by decide) ?_ ?_
    · refine gk_iconst (n := 1) h (by decide +kernel) (by decide) ?_
      exact gk_jmp 1 rfl
    · refine gk_iconst (n := 0) h (by decide +kernel) (by decide) ?_
      refine gk_goto (off := 4) (tgt := 16) h (by decide +kernel) (by decide) ?_
      exact gk_jmp 1 rfl
  | 1 =>
    show GK X Q163 16 (o_putI 8 0 (o_aload 0 (o_getI 8 0 (o_iconst 1 (o_ieq (o_iconst 0 (o_iret)) (o_iload 1 (o_iconst 5 (o_ilt (o_iload 1 (o_if0 (o_aload 0 (o_getR 8 36 (o_iconst 45 (o_iald 0 (o_iret))))) (o_iload 1 (o_iconst 1 (o_ieq (o_aload 0 (o_getR 8 36 (o_iconst 43 (o_iald 0 (o_ifp (o_iconst (-1) (o_iret)) (o_aload 0 (o_getR 8 36 (o_iconst 42 (o_iald 0 (o_iret)))))))))) (o_iload 1 (o_iconst 2 (o_ieq (o_aload 0 (o_getR 8 36 (o_iconst 44 (o_iald 0 (o_iret))))) (o_iload 1 (o_iconst 3 (o_ieq (o_aload 0 (o_getR 8 36 (o_iconst 43 (o_iald 0 (o_iconst 1 (o_i2 (fun x y => x - y) (o_iret))))))) (o_aload 0 (o_getR 8 36 (o_iconst 46 (o_iald 0 (o_iret)))))))))))))))) (o_iload 1 (o_iconst 7 (o_ilt (o_aload 0 (o_getR 8 36 (o_iconst 47 (o_iload 1 (o_i2 (fun x y => x + y) (o_iconst 5 (o_i2 (fun x y => x - y) (o_iald 0 (o_iret))))))))) (o_iload 1 (o_iconst 9 (o_ilt (o_aload 0 (o_getR 8 36 (o_iconst 40 (o_iload 1 (o_i2 (fun x y => x + y) (o_iconst 7 (o_i2 (fun x y => x - y) (o_iald 0 (o_iret))))))))) (o_aload 0 (o_vI orc 162 1 8 (o_iret)))))))))))))))))
    refine gk_putI (i := 116) h ck_8 (by decide) rfl (Or.inl rfl) (by decide +kernel) kw_1005 ?_
    refine gk_aload_n (j := 0) h (by decide +kernel) rfl ?_
    refine gk_getI (i := 116) h ck_8 (by decide) (fun _ _ _ => rfl) (by decide +kernel) kw_1005 ?_
    refine gk_iconst (n := 1) h (by decide +kernel) (by decide) ?_
    refine gk_icmpne (off := 5) (tgt := 29) h (by decide +kernel) (by decide) ?_ ?_
    · refine gk_iload_n (j := 1) h (by decide +kernel) rfl ?_
      refine gk_iconst (n := 5) h (by decide +kernel) (by decide) ?_
      refine gk_icmpge (off := 86) (tgt := 117) h (by decide +kernel) (by decide) ?_ ?_
      · refine gk_iload_n (j := 1) h (by decide +kernel) rfl ?_
        refine gk_bipush (n := 7) h (by decide +kernel) (by decide) ?_
        refine gk_icmpge (off := 17) (tgt := 137) h (by decide +kernel) (by decide) ?_ ?_
        · refine gk_iload_n (j := 1) h (by decide +kernel) rfl ?_
          refine gk_bipush (n := 9) h (by decide +kernel) (by decide) ?_
          refine gk_icmpge (off := 18) (tgt := 158) h (by decide +kernel) (by decide) ?_ ?_
          · refine gk_aload_n (j := 0) h (by decide +kernel) rfl ?_
            refine gk_vI (ca_v (idx := 342) h ho hm_162 (rd_le hrd (by decide)) ck_8 (by decide +kernel) kw_1322 kw_1324 kw_74 kw_101 kw_1325 rfl (by decide +kernel) (by decide)) ?_
            exact gk_iret h hR (by decide +kernel)
          · refine gk_aload_n (j := 0) h (by decide +kernel) rfl ?_
            refine gk_getR (i := 81) h ck_8 (by decide) (fun _ _ _ => rfl) (by decide +kernel) kw_1041 ?_
            refine gk_bipush (n := 40) h (by decide +kernel) (by decide) ?_
            refine gk_iload_n (j := 1) h (by decide +kernel) rfl ?_
            refine gk_iadd h (by decide +kernel) ?_
            refine gk_bipush (n := 7) h (by decide +kernel) (by decide) ?_
            refine gk_isub h (by decide +kernel) ?_
            refine gk_ald0 h (by decide +kernel) ?_
            refine gk_goto (off := 7) (tgt := 162) h (by decide +kernel) (by decide) ?_
            exact gk_iret h hR (by decide +kernel)
        · refine gk_aload_n (j := 0) h (by decide +kernel) rfl ?_
          refine gk_getR (i := 81) h ck_8 (by decide) (fun _ _ _ => rfl) (by decide +kernel) kw_1041 ?_
          refine gk_bipush (n := 47) h (by decide +kernel) (by decide) ?_
          refine gk_iload_n (j := 1) h (by decide +kernel) rfl ?_
          refine gk_iadd h (by decide +kernel) ?_
          refine gk_iconst (n := 5) h (by decide +kernel) (by decide) ?_
          refine gk_isub h (by decide +kernel) ?_
          refine gk_ald0 h (by decide +kernel) ?_
          refine gk_goto (off := 28) (tgt := 162) h (by decide +kernel) (by decide) ?_
          exact gk_iret h hR (by decide +kernel)
      · refine gk_iload_n (j := 1) h (by decide +kernel) rfl ?_
        refine gk_ifne (off := 13) (tgt := 48) h (by decide +kernel) (by decide) ?_ ?_
        · refine gk_iload_n (j := 1) h (by decide +kernel) rfl ?_
          refine gk_iconst (n := 1) h (by decide +kernel) (by decide) ?_
          refine gk_icmpne (off := 27) (tgt := 77) h (by decide +kernel) (by decide) ?_ ?_
          · refine gk_iload_n (j := 1) h (by decide +kernel) rfl ?_
            refine gk_iconst (n := 2) h (by decide +kernel) (by decide) ?_
            refine gk_icmpne (off := 13) (tgt := 92) h (by decide +kernel) (by decide) ?_ ?_
            · refine gk_iload_n (j := 1) h (by decide +kernel) rfl ?_
              refine gk_iconst (n := 3) h (by decide +kernel) (by decide) ?_
              refine gk_icmpne (off := 15) (tgt := 109) h (by decide +kernel) (by decide) ?_ ?_
              · refine gk_aload_n (j := 0) h (by decide +kernel) rfl ?_
                refine gk_getR (i := 81) h ck_8 (by decide) (fun _ _ _ => rfl) (by decide +kernel) kw_1041 ?_
                refine gk_bipush (n := 46) h (by decide +kernel) (by decide) ?_
                refine gk_ald0 h (by decide +kernel) ?_
                exact gk_iret h hR (by decide +kernel)
              · refine gk_aload_n (j := 0) h (by decide +kernel) rfl ?_
                refine gk_getR (i := 81) h ck_8 (by decide) (fun _ _ _ => rfl) (by decide +kernel) kw_1041 ?_
                refine gk_bipush (n := 43) h (by decide +kernel) (by decide) ?_
                refine gk_ald0 h (by decide +kernel) ?_
                refine gk_iconst (n := 1) h (by decide +kernel) (by decide) ?_
                refine gk_isub h (by decide +kernel) ?_
                refine gk_goto (off := 10) (tgt := 116) h (by decide +kernel) (by decide) ?_
                exact gk_iret h hR (by decide +kernel)
            · refine gk_aload_n (j := 0) h (by decide +kernel) rfl ?_
              refine gk_getR (i := 81) h ck_8 (by decide) (fun _ _ _ => rfl) (by decide +kernel) kw_1041 ?_
              refine gk_bipush (n := 44) h (by decide +kernel) (by decide) ?_
              refine gk_ald0 h (by decide +kernel) ?_
              refine gk_goto (off := 27) (tgt := 116) h (by decide +kernel) (by decide) ?_
              exact gk_iret h hR (by decide +kernel)
          · refine gk_aload_n (j := 0) h (by decide +kernel) rfl ?_
            refine gk_getR (i := 81) h ck_8 (by decide) (fun _ _ _ => rfl) (by decide +kernel) kw_1041 ?_
            refine gk_bipush (n := 43) h (by decide +kernel) (by decide) ?_
            refine gk_ald0 h (by decide +kernel) ?_
            refine gk_ifle (off := 7) (tgt := 67) h (by decide +kernel) (by decide) ?_ ?_
            · refine gk_aload_n (j := 0) h (by decide +kernel) rfl ?_
              refine gk_getR (i := 81) h ck_8 (by decide) (fun _ _ _ => rfl) (by decide +kernel) kw_1041 ?_
              refine gk_bipush (n := 42) h (by decide +kernel) (by decide) ?_
              refine gk_ald0 h (by decide +kernel) ?_
              refine gk_goto (off := 42) (tgt := 116) h (by decide +kernel) (by decide) ?_
              exact gk_iret h hR (by decide +kernel)
            · refine gk_iconst (n := (-1)) h (by decide +kernel) (by decide) ?_
              refine gk_goto (off := 52) (tgt := 116) h (by decide +kernel) (by decide) ?_
              exact gk_iret h hR (by decide +kernel)
        · refine gk_aload_n (j := 0) h (by decide +kernel) rfl ?_
          refine gk_getR (i := 81) h ck_8 (by decide) (fun _ _ _ => rfl) (by decide +kernel) kw_1041 ?_
          refine gk_bipush (n := 45) h (by decide +kernel) (by decide) ?_
          refine gk_ald0 h (by decide +kernel) ?_
          refine gk_goto (off := 71) (tgt := 116) h (by decide +kernel) (by decide) ?_
          exact gk_iret h hR (by decide +kernel)
    · refine gk_iconst (n := 0) h (by decide +kernel) (by decide) ?_
      exact gk_iret h hR (by decide +kernel)
  | _ + 2 => exact fun _ _ _ hr => hr.elim
set_option maxRecDepth 20000 in
set_option maxHeartbeats 4000000 in
theorem s_164 : MS mtab yX9_act cX9_act 3 (some .int) Q164 P164 := by
  intro X orc d h hR hnm hxn ho hrd b
  match b with
  | 0 =>
    show GK X Q164 0 (o_aload 0 (o_iconst 0 (o_putI 8 0 (o_iload 2 (o_iconst 0 (o_iconst 2 (o_sI orc 114 3 (o_if0 (o_iconst (-1) (o_iret)) (o_aload 0 (o_getR 8 36 (o_iconst 43 (o_iald 0 (o_ifp (o_iconst (-1) (o_iret)) (o_aload 0 (o_iconst 0 (o_iload 1 (o_vI orc 152 3 8 (o_if0 (o_iconst (-1) (o_iret)) (o_iload 2 (o_if0 (o_aload 0 (o_getI 8 39 (o_iret))) (o_iload 2 (o_iconst 1 (o_ieq (o_aload 0 (o_getI 8 40 (o_iret))) (o_aload 0 (o_getI 8 41 (o_iret))))))))))))))))))))))))))
    refine gk_aload_n (j := 0) h (by decide +kernel) rfl ?_
    refine gk_iconst (n := 0) h (by decide +kernel) (by decide) ?_
    refine gk_putI (i := 116) h ck_8 (by decide) rfl (Or.inl rfl) (by decide +kernel) kw_1005 ?_
    refine gk_iload_n (j := 2) h (by decide +kernel) rfl ?_
    refine gk_iconst (n := 0) h (by decide +kernel) (by decide) ?_
    refine gk_iconst (n := 2) h (by decide +kernel) (by decide) ?_
    refine gk_sI (ca_s (idx := 223) h ho hm_114 (rd_le hrd (by decide)) (by decide +kernel) kw_990 kw_991 kw_101 kw_992 (by decide +kernel)) ?_
    refine gk_ifeq (off := 22) (tgt := 33) h (by decide +kernel) (by decide) ?_ ?_
    · refine gk_iconst (n := (-1)) h (by decide +kernel) (by decide) ?_
      exact gk_iret h hR (by decide +kernel)
    · refine gk_aload_n (j := 0) h (by decide +kernel) rfl ?_
      refine gk_getR (i := 81) h ck_8 (by decide) (fun _ _ _ => rfl) (by decide +kernel) kw_1041 ?_
      refine gk_bipush (n := 43) h (by decide +kernel) (by decide) ?_
      refine gk_ald0 h (by decide +kernel) ?_
      refine gk_ifgt (off := 12) (tgt := 33) h (by decide +kernel) (by decide) ?_ ?_
      · refine gk_iconst (n := (-1)) h (by decide +kernel) (by decide) ?_
        exact gk_iret h hR (by decide +kernel)
      · refine gk_aload_n (j := 0) h (by decide +kernel) rfl ?_
        refine gk_iconst (n := 0) h (by decide +kernel) (by decide) ?_
        refine gk_iload_n (j := 1) h (by decide +kernel) rfl ?_
        refine gk_vI (ca_v (idx := 345) h ho hm_152 (rd_le hrd (by decide)) ck_8 (by decide +kernel) kw_1334 kw_1336 kw_76 kw_101 kw_1337 rfl (by decide +kernel) (by decide)) ?_
        refine gk_ifne (off := 5) (tgt := 35) h (by decide +kernel) (by decide) ?_ ?_
        · refine gk_iload_n (j := 2) h (by decide +kernel) rfl ?_
          refine gk_ifne (off := 10) (tgt := 46) h (by decide +kernel) (by decide) ?_ ?_
          · refine gk_iload_n (j := 2) h (by decide +kernel) rfl ?_
            refine gk_iconst (n := 1) h (by decide +kernel) (by decide) ?_
            refine gk_icmpne (off := 10) (tgt := 58) h (by decide +kernel) (by decide) ?_ ?_
            · refine gk_aload_n (j := 0) h (by decide +kernel) rfl ?_
              refine gk_getI (i := 311) h ck_8 (by decide) (fun _ _ _ => rfl) (by decide +kernel) kw_1046 ?_
              exact gk_iret h hR (by decide +kernel)
            · refine gk_aload_n (j := 0) h (by decide +kernel) rfl ?_
              refine gk_getI (i := 308) h ck_8 (by decide) (fun _ _ _ => rfl) (by decide +kernel) kw_1045 ?_
              refine gk_goto (off := 7) (tgt := 62) h (by decide +kernel) (by decide) ?_
              exact gk_iret h hR (by decide +kernel)
          · refine gk_aload_n (j := 0) h (by decide +kernel) rfl ?_
            refine gk_getI (i := 305) h ck_8 (by decide) (fun _ _ _ => rfl) (by decide +kernel) kw_1044 ?_
            refine gk_goto (off := 19) (tgt := 62) h (by decide +kernel) (by decide) ?_
            exact gk_iret h hR (by decide +kernel)
        · refine gk_iconst (n := (-1)) h (by decide +kernel) (by decide) ?_
          exact gk_iret h hR (by decide +kernel)
  | _ + 1 => exact fun _ _ _ hr => hr.elim
set_option maxRecDepth 20000 in
set_option maxHeartbeats 4000000 in
theorem s_165 : MS mtab yX9_isSmall cX9_isSmall 3 (some .boolean) Q165 P165 := by
  intro X orc d h hR hnm hxn ho hrd b
  match b with
  | 0 =>
    show GK X Q165 0 (o_iconst 1 (o_istore 1 (o_iconst 0 (o_istore 2 (o_jmp 1)))))
    refine gk_iconst (n := 1) h (by decide +kernel) (by decide) ?_
    refine gk_istore_n (j := 1) h (by decide +kernel) rfl hxn (by decide) ?_
    refine gk_iconst (n := 0) h (by decide +kernel) (by decide) ?_
    refine gk_istore_n (j := 2) h (by decide +kernel) rfl hxn (by decide) ?_
    exact gk_jmp 1 rfl
  | 1 =>
    show GK X Q165 4 (o_iload 2 (o_aload 0 (o_getR 8 10 (o_iconst 0 (o_iald 0 (o_ilt (o_iload 1 (o_iconst 256 (o_igt (o_jmp 2) (o_iload 1 (o_aload 0 (o_getR 8 11 (o_iconst 0 (o_iald 0 (o_iconst 1 (o_i2 (fun x y => x + y) (o_i2 (fun x y => x * y) (o_istore 1 (o_iinc 2 1 (o_jmp 1)))))))))))))) (o_jmp 2)))))))
    refine gk_iload_n (j := 2) h (by decide +kernel) rfl ?_
    refine gk_aload_n (j := 0) h (by decide +kernel) rfl ?_
    refine gk_getR (i := 13) h ck_8 (by decide) (fun _ _ _ => rfl) (by decide +kernel) kw_1015 ?_
    refine gk_iconst (n := 0) h (by decide +kernel) (by decide) ?_
    refine gk_ald0 h (by decide +kernel) ?_
    refine gk_icmpge (off := 27) (tgt := 38) h (by decide +kernel) (by decide) ?_ ?_
    · exact gk_jmp 2 rfl
    · refine gk_iload_n (j := 1) h (by decide +kernel) rfl ?_
      refine gk_sipush (n := 256) h (by decide +kernel) (by decide) ?_
      refine gk_icmpgt (off := 20) (tgt := 38) h (by decide +kernel) (by decide) ?_ ?_
      · exact gk_jmp 2 rfl
      · refine gk_iload_n (j := 1) h (by decide +kernel) rfl ?_
        refine gk_aload_n (j := 0) h (by decide +kernel) rfl ?_
        refine gk_getR (i := 16) h ck_8 (by decide) (fun _ _ _ => rfl) (by decide +kernel) kw_1016 ?_
        refine gk_iconst (n := 0) h (by decide +kernel) (by decide) ?_
        refine gk_ald0 h (by decide +kernel) ?_
        refine gk_iconst (n := 1) h (by decide +kernel) (by decide) ?_
        refine gk_iadd h (by decide +kernel) ?_
        refine gk_imul h (by decide +kernel) ?_
        refine gk_istore_n (j := 1) h (by decide +kernel) rfl hxn (by decide) ?_
        refine gk_iinc (z := 1) h (by decide +kernel) (by decide) hxn (by decide) ?_
        refine gk_goto (off := (-31)) (tgt := 4) h (by decide +kernel) (by decide) ?_
        exact gk_jmp 1 rfl
  | 2 =>
    show GK X Q165 38 (o_aload 0 (o_getR 8 10 (o_iconst 0 (o_iald 0 (o_iconst 5 (o_igt (o_iconst 0 (o_zret)) (o_iload 1 (o_iconst 256 (o_igt (o_iconst 0 (o_zret)) (o_iconst 1 (o_zret)))))))))))
    refine gk_aload_n (j := 0) h (by decide +kernel) rfl ?_
    refine gk_getR (i := 13) h ck_8 (by decide) (fun _ _ _ => rfl) (by decide +kernel) kw_1015 ?_
    refine gk_iconst (n := 0) h (by decide +kernel) (by decide) ?_
    refine gk_ald0 h (by decide +kernel) ?_
    refine gk_iconst (n := 5) h (by decide +kernel) (by decide) ?_
    refine gk_icmpgt (off := 14) (tgt := 59) h (by decide +kernel) (by decide) ?_ ?_
    · refine gk_iconst (n := 0) h (by decide +kernel) (by decide) ?_
      exact gk_zret h hR (by decide +kernel)
    · refine gk_iload_n (j := 1) h (by decide +kernel) rfl ?_
      refine gk_sipush (n := 256) h (by decide +kernel) (by decide) ?_
      refine gk_icmpgt (off := 7) (tgt := 59) h (by decide +kernel) (by decide) ?_ ?_
      · refine gk_iconst (n := 0) h (by decide +kernel) (by decide) ?_
        exact gk_zret h hR (by decide +kernel)
      · refine gk_iconst (n := 1) h (by decide +kernel) (by decide) ?_
        refine gk_goto (off := 4) (tgt := 60) h (by decide +kernel) (by decide) ?_
        exact gk_zret h hR (by decide +kernel)
  | _ + 3 => exact fun _ _ _ hr => hr.elim
set_option maxRecDepth 20000 in
set_option maxHeartbeats 4000000 in
theorem s_166 : MS mtab yX9_wallOf cX9_wallOf 5 (some .int) Q166 P166 := by
  intro X orc d h hR hnm hxn ho hrd b
  match b with
  | 0 =>
    show GK X Q166 0 (o_iconst 0 (o_istore 2 (o_iconst 0 (o_istore 3 (o_aload 0 (o_getR 8 10 (o_iconst 0 (o_iald 0 (o_iconst 1 (o_i2 (fun x y => x - y) (o_istore 4 (o_jmp 1))))))))))))
    refine gk_iconst (n := 0) h (by decide +kernel) (by decide) ?_
    refine gk_istore_n (j := 2) h (by decide +kernel) rfl hxn (by decide) ?_
    refine gk_iconst (n := 0) h (by decide +kernel) (by decide) ?_
    refine gk_istore_n (j := 3) h (by decide +kernel) rfl hxn (by decide) ?_
    refine gk_aload_n (j := 0) h (by decide +kernel) rfl ?_
    refine gk_getR (i := 13) h ck_8 (by decide) (fun _ _ _ => rfl) (by decide +kernel) kw_1015 ?_
    refine gk_iconst (n := 0) h (by decide +kernel) (by decide) ?_
    refine gk_ald0 h (by decide +kernel) ?_
    refine gk_iconst (n := 1) h (by decide +kernel) (by decide) ?_
    refine gk_isub h (by decide +kernel) ?_
    refine gk_istore h (by decide +kernel) hxn (by decide) ?_
    exact gk_jmp 1 rfl
  | 1 =>
    show GK X Q166 14 (o_iload 4 (o_ifn (o_iconst 32 (o_iload 2 (o_i2 (fun x y => x * y) (o_iload 3 (o_i2 (fun x y => x + y) (o_iret)))))) (o_iload 2 (o_aload 0 (o_getR 8 11 (o_iconst 0 (o_iald 0 (o_iconst 1 (o_i2 (fun x y => x + y) (o_i2 (fun x y => x * y) (o_aload 0 (o_getR 8 36 (o_iload 1 (o_iload 4 (o_i2 (fun x y => x + y) (o_iald 0 (o_i2 (fun x y => x + y) (o_istore 2 (o_iconst 2 (o_iload 3 (o_i2 (fun x y => x * y) (o_aload 0 (o_getR 8 36 (o_iload 1 (o_iconst 10 (o_i2 (fun x y => x + y) (o_iload 4 (o_i2 (fun x y => x + y) (o_iald 0 (o_ifp (o_iconst 1 (o_jmp 2)) (o_iconst 0 (o_jmp 2))))))))))))))))))))))))))))))))
    refine gk_iload h (by decide +kernel) ?_
    refine gk_iflt (off := 55) (tgt := 71) h (by decide +kernel) (by decide) ?_ ?_
    · refine gk_bipush (n := 32) h (by decide +kernel) (by decide) ?_
      refine gk_iload_n (j := 2) h (by decide +kernel) rfl ?_
      refine gk_imul h (by decide +kernel) ?_
      refine gk_iload_n (j := 3) h (by decide +kernel) rfl ?_
      refine gk_iadd h (by decide +kernel) ?_
      exact gk_iret h hR (by decide +kernel)
    · refine gk_iload_n (j := 2) h (by decide +kernel) rfl ?_
      refine gk_aload_n (j := 0) h (by decide +kernel) rfl ?_
      refine gk_getR (i := 16) h ck_8 (by decide) (fun _ _ _ => rfl) (by decide +kernel) kw_1016 ?_
      refine gk_iconst (n := 0) h (by decide +kernel) (by decide) ?_
      refine gk_ald0 h (by decide +kernel) ?_
      refine gk_iconst (n := 1) h (by decide +kernel) (by decide) ?_
      refine gk_iadd h (by decide +kernel) ?_
      refine gk_imul h (by decide +kernel) ?_
      refine gk_aload_n (j := 0) h (by decide +kernel) rfl ?_
      refine gk_getR (i := 81) h ck_8 (by decide) (fun _ _ _ => rfl) (by decide +kernel) kw_1041 ?_
      refine gk_iload_n (j := 1) h (by decide +kernel) rfl ?_
      refine gk_iload h (by decide +kernel) ?_
      refine gk_iadd h (by decide +kernel) ?_
      refine gk_ald0 h (by decide +kernel) ?_
      refine gk_iadd h (by decide +kernel) ?_
      refine gk_istore_n (j := 2) h (by decide +kernel) rfl hxn (by decide) ?_
      refine gk_iconst (n := 2) h (by decide +kernel) (by decide) ?_
      refine gk_iload_n (j := 3) h (by decide +kernel) rfl ?_
      refine gk_imul h (by decide +kernel) ?_
      refine gk_aload_n (j := 0) h (by decide +kernel) rfl ?_
      refine gk_getR (i := 81) h ck_8 (by decide) (fun _ _ _ => rfl) (by decide +kernel) kw_1041 ?_
      refine gk_iload_n (j := 1) h (by decide +kernel) rfl ?_
      refine gk_bipush (n := 10) h (by decide +kernel) (by decide) ?_
      refine gk_iadd h (by decide +kernel) ?_
      refine gk_iload h (by decide +kernel) ?_
      refine gk_iadd h (by decide +kernel) ?_
      refine gk_ald0 h (by decide +kernel) ?_
      refine gk_ifle (off := 7) (tgt := 62) h (by decide +kernel) (by decide) ?_ ?_
      · refine gk_iconst (n := 0) h (by decide +kernel) (by decide) ?_
        exact gk_jmp 2 rfl
      · refine gk_iconst (n := 1) h (by decide +kernel) (by decide) ?_
        refine gk_goto (off := 4) (tgt := 63) h (by decide +kernel) (by decide) ?_
        exact gk_jmp 2 rfl
  | 2 =>
    show GK X Q166 63 (o_i2 (fun x y => x + y) (o_istore 3 (o_iinc 4 (-1) (o_jmp 1))))
    refine gk_iadd h (by decide +kernel) ?_
    refine gk_istore_n (j := 3) h (by decide +kernel) rfl hxn (by decide) ?_
    refine gk_iinc (z := (-1)) h (by decide +kernel) (by decide) hxn (by decide) ?_
    refine gk_goto (off := (-54)) (tgt := 14) h (by decide +kernel) (by decide) ?_
    exact gk_jmp 1 rfl
  | _ + 3 => exact fun _ _ _ hr => hr.elim
set_option maxRecDepth 20000 in
set_option maxHeartbeats 4000000 in
theorem s_167 : MS mtab yX9_numberOf cX9_numberOf 2 (some .int) Q167 P167 := by
  intro X orc d h hR hnm hxn ho hrd b
  match b with
  | 0 =>
    show GK X Q167 0 (o_iconst 8 (o_aload 0 (o_iload 1 (o_vI orc 166 2 8 (o_i2 (fun x y => x * y) (o_iconst 4 (o_aload 0 (o_getR 8 36 (o_iload 1 (o_iconst 42 (o_i2 (fun x y => x + y) (o_iald 0 (o_i2 (fun x y => x * y) (o_i2 (fun x y => x + y) (o_iconst 2 (o_aload 0 (o_getR 8 36 (o_iload 1 (o_iconst 40 (o_i2 (fun x y => x + y) (o_iconst 1 (o_i2 (fun x y => x + y) (o_iald 0 (o_i2 (fun x y => x * y) (o_i2 (fun x y => x + y) (o_aload 0 (o_getR 8 36 (o_iload 1 (o_iconst 40 (o_i2 (fun x y => x + y) (o_iald 0 (o_i2 (fun x y => x + y) (o_iret)))))))))))))))))))))))))))))))))
    refine gk_bipush (n := 8) h (by decide +kernel) (by decide) ?_
    refine gk_aload_n (j := 0) h (by decide +kernel) rfl ?_
    refine gk_iload_n (j := 1) h (by decide +kernel) rfl ?_
    refine gk_vI (ca_v (idx := 348) h ho hm_166 (rd_le hrd (by decide)) ck_8 (by decide +kernel) kw_1366 kw_1368 kw_83 kw_101 kw_1369 rfl (by decide +kernel) (by decide)) ?_
    refine gk_imul h (by decide +kernel) ?_
    refine gk_iconst (n := 4) h (by decide +kernel) (by decide) ?_
    refine gk_aload_n (j := 0) h (by decide +kernel) rfl ?_
    refine gk_getR (i := 81) h ck_8 (by decide) (fun _ _ _ => rfl) (by decide +kernel) kw_1041 ?_
    refine gk_iload_n (j := 1) h (by decide +kernel) rfl ?_
    refine gk_bipush (n := 42) h (by decide +kernel) (by decide) ?_
    refine gk_iadd h (by decide +kernel) ?_
    refine gk_ald0 h (by decide +kernel) ?_
    refine gk_imul h (by decide +kernel) ?_
    refine gk_iadd h (by decide +kernel) ?_
    refine gk_iconst (n := 2) h (by decide +kernel) (by decide) ?_
    refine gk_aload_n (j := 0) h (by decide +kernel) rfl ?_
    refine gk_getR (i := 81) h ck_8 (by decide) (fun _ _ _ => rfl) (by decide +kernel) kw_1041 ?_
    refine gk_iload_n (j := 1) h (by decide +kernel) rfl ?_
    refine gk_bipush (n := 40) h (by decide +kernel) (by decide) ?_
    refine gk_iadd h (by decide +kernel) ?_
    refine gk_iconst (n := 1) h (by decide +kernel) (by decide) ?_
    refine gk_iadd h (by decide +kernel) ?_
    refine gk_ald0 h (by decide +kernel) ?_
    refine gk_imul h (by decide +kernel) ?_
    refine gk_iadd h (by decide +kernel) ?_
    refine gk_aload_n (j := 0) h (by decide +kernel) rfl ?_
    refine gk_getR (i := 81) h ck_8 (by decide) (fun _ _ _ => rfl) (by decide +kernel) kw_1041 ?_
    refine gk_iload_n (j := 1) h (by decide +kernel) rfl ?_
    refine gk_bipush (n := 40) h (by decide +kernel) (by decide) ?_
    refine gk_iadd h (by decide +kernel) ?_
    refine gk_ald0 h (by decide +kernel) ?_
    refine gk_iadd h (by decide +kernel) ?_
    exact gk_iret h hR (by decide +kernel)
  | _ + 1 => exact fun _ _ _ hr => hr.elim
set_option maxRecDepth 20000 in
set_option maxHeartbeats 4000000 in
theorem s_168 : MS mtab yX9_laysOut cX9_laysOut 6 none Q168 P168 := by
  intro X orc d h hR hnm hxn ho hrd b
  match b with
  | 0 =>
    show GK X Q168 0 (o_iconst 0 (o_istore 3 (o_jmp 1)))
    refine gk_iconst (n := 0) h (by decide +kernel) (by decide) ?_
    refine gk_istore_n (j := 3) h (by decide +kernel) rfl hxn (by decide) ?_
    exact gk_jmp 1 rfl
  | 1 =>
    show GK X Q168 2 (o_iload 3 (o_iconst 64 (o_ilt (o_aload 0 (o_getR 8 36 (o_iload 1 (o_iload 3 (o_i2 (fun x y => x + y) (o_iconst 0 (o_iast 0 (fun x => x) (o_iinc 3 1 (o_jmp 1))))))))) (o_iload 2 (o_iconst 256 (o_i2z (fun x y => x / y) (o_istore 3 (o_iload 2 (o_iconst 8 (o_i2z (fun x y => x / y) (o_iconst 32 (o_i2z (fun x y => x - x / y * y) (o_istore 4 (o_iconst 0 (o_istore 5 (o_jmp 2))))))))))))))))
    refine gk_iload_n (j := 3) h (by decide +kernel) rfl ?_
    refine gk_bipush (n := 64) h (by decide +kernel) (by decide) ?_
    refine gk_icmpge (off := 18) (tgt := 23) h (by decide +kernel) (by decide) ?_ ?_
    · refine gk_iload_n (j := 2) h (by decide +kernel) rfl ?_
      refine gk_sipush (n := 256) h (by decide +kernel) (by decide) ?_
      refine gk_idiv h (by decide +kernel) ?_
      refine gk_istore_n (j := 3) h (by decide +kernel) rfl hxn (by decide) ?_
      refine gk_iload_n (j := 2) h (by decide +kernel) rfl ?_
      refine gk_bipush (n := 8) h (by decide +kernel) (by decide) ?_
      refine gk_idiv h (by decide +kernel) ?_
      refine gk_bipush (n := 32) h (by decide +kernel) (by decide) ?_
      refine gk_irem h (by decide +kernel) ?_
      refine gk_istore h (by decide +kernel) hxn (by decide) ?_
      refine gk_iconst (n := 0) h (by decide +kernel) (by decide) ?_
      refine gk_istore h (by decide +kernel) hxn (by decide) ?_
      exact gk_jmp 2 rfl
    · refine gk_aload_n (j := 0) h (by decide +kernel) rfl ?_
      refine gk_getR (i := 81) h ck_8 (by decide) (fun _ _ _ => rfl) (by decide +kernel) kw_1041 ?_
      refine gk_iload_n (j := 1) h (by decide +kernel) rfl ?_
      refine gk_iload_n (j := 3) h (by decide +kernel) rfl ?_
      refine gk_iadd h (by decide +kernel) ?_
      refine gk_iconst (n := 0) h (by decide +kernel) (by decide) ?_
      refine gk_ast0 h (by decide +kernel) ?_
      refine gk_iinc (z := 1) h (by decide +kernel) (by decide) hxn (by decide) ?_
      refine gk_goto (off := (-18)) (tgt := 2) h (by decide +kernel) (by decide) ?_
      exact gk_jmp 1 rfl
  | 2 =>
    show GK X Q168 41 (o_iload 5 (o_aload 0 (o_getR 8 10 (o_iconst 0 (o_iald 0 (o_ilt (o_aload 0 (o_getR 8 36 (o_iload 1 (o_iload 5 (o_i2 (fun x y => x + y) (o_iload 3 (o_aload 0 (o_getR 8 11 (o_iconst 0 (o_iald 0 (o_iconst 1 (o_i2 (fun x y => x + y) (o_i2z (fun x y => x - x / y * y) (o_iast 0 (fun x => x) (o_iload 3 (o_aload 0 (o_getR 8 11 (o_iconst 0 (o_iald 0 (o_iconst 1 (o_i2 (fun x y => x + y) (o_i2z (fun x y => x / y) (o_istore 3 (o_aload 0 (o_getR 8 36 (o_iload 1 (o_iconst 10 (o_i2 (fun x y => x + y) (o_iload 5 (o_i2 (fun x y => x + y) (o_iload 4 (o_iload 5 (o_i2 (fun x y => x >>> (y &&& 31)) (o_iconst 1 (o_i2 (fun x y => x &&& y) (o_iast 0 (fun x => x) (o_iinc 5 1 (o_jmp 2)))))))))))))))))))))))))))))))))))))) (o_aload 0 (o_getR 8 36 (o_iload 1 (o_iconst 42 (o_i2 (fun x y => x + y) (o_iload 2 (o_iconst 4 (o_i2z (fun x y => x / y) (o_iconst 2 (o_i2z (fun x y => x - x / y * y) (o_iast 0 (fun x => x) (o_aload 0 (o_getR 8 36 (o_iload 1 (o_iconst 40 (o_i2 (fun x y => x + y) (o_iconst 1 (o_i2 (fun x y => x + y) (o_iload 2 (o_iconst 2 (o_i2z (fun x y => x / y) (o_iconst 2 (o_i2z (fun x y => x - x / y * y) (o_iast 0 (fun x => x) (o_aload 0 (o_getR 8 36 (o_iload 1 (o_iconst 40 (o_i2 (fun x y => x + y) (o_iload 2 (o_iconst 2 (o_i2z (fun x y => x - x / y * y) (o_iast 0 (fun x => x) (o_aload 0 (o_getR 8 36 (o_iload 1 (o_iconst 45 (o_i2 (fun x y => x + y) (o_aload 0 (o_iload 1 (o_vI orc 166 2 8 (o_if0 (o_iconst 0 (o_jmp 3)) (o_iconst 1 (o_jmp 3))))))))))))))))))))))))))))))))))))))))))))))))))
    refine gk_iload h (by decide +kernel) ?_
    refine gk_aload_n (j := 0) h (by decide +kernel) rfl ?_
    refine gk_getR (i := 13) h ck_8 (by decide) (fun _ _ _ => rfl) (by decide +kernel) kw_1015 ?_
    refine gk_iconst (n := 0) h (by decide +kernel) (by decide) ?_
    refine gk_ald0 h (by decide +kernel) ?_
    refine gk_icmpge (off := 58) (tgt := 107) h (by decide +kernel) (by decide) ?_ ?_
    · refine gk_aload_n (j := 0) h (by decide +kernel) rfl ?_
      refine gk_getR (i := 81) h ck_8 (by decide) (fun _ _ _ => rfl) (by decide +kernel) kw_1041 ?_
      refine gk_iload_n (j := 1) h (by decide +kernel) rfl ?_
      refine gk_bipush (n := 42) h (by decide +kernel) (by decide) ?_
      refine gk_iadd h (by decide +kernel) ?_
      refine gk_iload_n (j := 2) h (by decide +kernel) rfl ?_
      refine gk_iconst (n := 4) h (by decide +kernel) (by decide) ?_
      refine gk_idiv h (by decide +kernel) ?_
      refine gk_iconst (n := 2) h (by decide +kernel) (by decide) ?_
      refine gk_irem h (by decide +kernel) ?_
      refine gk_ast0 h (by decide +kernel) ?_
      refine gk_aload_n (j := 0) h (by decide +kernel) rfl ?_
      refine gk_getR (i := 81) h ck_8 (by decide) (fun _ _ _ => rfl) (by decide +kernel) kw_1041 ?_
      refine gk_iload_n (j := 1) h (by decide +kernel) rfl ?_
      refine gk_bipush (n := 40) h (by decide +kernel) (by decide) ?_
      refine gk_iadd h (by decide +kernel) ?_
      refine gk_iconst (n := 1) h (by decide +kernel) (by decide) ?_
      refine gk_iadd h (by decide +kernel) ?_
      refine gk_iload_n (j := 2) h (by decide +kernel) rfl ?_
      refine gk_iconst (n := 2) h (by decide +kernel) (by decide) ?_
      refine gk_idiv h (by decide +kernel) ?_
      refine gk_iconst (n := 2) h (by decide +kernel) (by decide) ?_
      refine gk_irem h (by decide +kernel) ?_
      refine gk_ast0 h (by decide +kernel) ?_
      refine gk_aload_n (j := 0) h (by decide +kernel) rfl ?_
      refine gk_getR (i := 81) h ck_8 (by decide) (fun _ _ _ => rfl) (by decide +kernel) kw_1041 ?_
      refine gk_iload_n (j := 1) h (by decide +kernel) rfl ?_
      refine gk_bipush (n := 40) h (by decide +kernel) (by decide) ?_
      refine gk_iadd h (by decide +kernel) ?_
      refine gk_iload_n (j := 2) h (by decide +kernel) rfl ?_
      refine gk_iconst (n := 2) h (by decide +kernel) (by decide) ?_
      refine gk_irem h (by decide +kernel) ?_
      refine gk_ast0 h (by decide +kernel) ?_
      refine gk_aload_n (j := 0) h (by decide +kernel) rfl ?_
      refine gk_getR (i := 81) h ck_8 (by decide) (fun _ _ _ => rfl) (by decide +kernel) kw_1041 ?_
      refine gk_iload_n (j := 1) h (by decide +kernel) rfl ?_
      refine gk_bipush (n := 45) h (by decide +kernel) (by decide) ?_
      refine gk_iadd h (by decide +kernel) ?_
      refine gk_aload_n (j := 0) h (by decide +kernel) rfl ?_
      refine gk_iload_n (j := 1) h (by decide +kernel) rfl ?_
      refine gk_vI (ca_v (idx := 348) h ho hm_166 (rd_le hrd (by decide)) ck_8 (by decide +kernel) kw_1366 kw_1368 kw_83 kw_101 kw_1369 rfl (by decide +kernel) (by decide)) ?_
      refine gk_ifne (off := 7) (tgt := 169) h (by decide +kernel) (by decide) ?_ ?_
      · refine gk_iconst (n := 1) h (by decide +kernel) (by decide) ?_
        exact gk_jmp 3 rfl
      · refine gk_iconst (n := 0) h (by decide +kernel) (by decide) ?_
        refine gk_goto (off := 4) (tgt := 170) h (by decide +kernel) (by decide) ?_
        exact gk_jmp 3 rfl
    · refine gk_aload_n (j := 0) h (by decide +kernel) rfl ?_
      refine gk_getR (i := 81) h ck_8 (by decide) (fun _ _ _ => rfl) (by decide +kernel) kw_1041 ?_
      refine gk_iload_n (j := 1) h (by decide +kernel) rfl ?_
      refine gk_iload h (by decide +kernel) ?_
      refine gk_iadd h (by decide +kernel) ?_
      refine gk_iload_n (j := 3) h (by decide +kernel) rfl ?_
      refine gk_aload_n (j := 0) h (by decide +kernel) rfl ?_
      refine gk_getR (i := 16) h ck_8 (by decide) (fun _ _ _ => rfl) (by decide +kernel) kw_1016 ?_
      refine gk_iconst (n := 0) h (by decide +kernel) (by decide) ?_
      refine gk_ald0 h (by decide +kernel) ?_
      refine gk_iconst (n := 1) h (by decide +kernel) (by decide) ?_
      refine gk_iadd h (by decide +kernel) ?_
      refine gk_irem h (by decide +kernel) ?_
      refine gk_ast0 h (by decide +kernel) ?_
      refine gk_iload_n (j := 3) h (by decide +kernel) rfl ?_
      refine gk_aload_n (j := 0) h (by decide +kernel) rfl ?_
      refine gk_getR (i := 16) h ck_8 (by decide) (fun _ _ _ => rfl) (by decide +kernel) kw_1016 ?_
      refine gk_iconst (n := 0) h (by decide +kernel) (by decide) ?_
      refine gk_ald0 h (by decide +kernel) ?_
      refine gk_iconst (n := 1) h (by decide +kernel) (by decide) ?_
      refine gk_iadd h (by decide +kernel) ?_
      refine gk_idiv h (by decide +kernel) ?_
      refine gk_istore_n (j := 3) h (by decide +kernel) rfl hxn (by decide) ?_
      refine gk_aload_n (j := 0) h (by decide +kernel) rfl ?_
      refine gk_getR (i := 81) h ck_8 (by decide) (fun _ _ _ => rfl) (by decide +kernel) kw_1041 ?_
      refine gk_iload_n (j := 1) h (by decide +kernel) rfl ?_
      refine gk_bipush (n := 10) h (by decide +kernel) (by decide) ?_
      refine gk_iadd h (by decide +kernel) ?_
      refine gk_iload h (by decide +kernel) ?_
      refine gk_iadd h (by decide +kernel) ?_
      refine gk_iload h (by decide +kernel) ?_
      refine gk_iload h (by decide +kernel) ?_
      refine gk_ishr h (by decide +kernel) ?_
      refine gk_iconst (n := 1) h (by decide +kernel) (by decide) ?_
      refine gk_iand h (by decide +kernel) ?_
      refine gk_ast0 h (by decide +kernel) ?_
      refine gk_iinc (z := 1) h (by decide +kernel) (by decide) hxn (by decide) ?_
      refine gk_goto (off := (-63)) (tgt := 41) h (by decide +kernel) (by decide) ?_
      exact gk_jmp 2 rfl
  | 3 =>
    show GK X Q168 170 (o_iast 0 (fun x => x) (o_aload 0 (o_iload 1 (o_vV orc 142 2 8 (o_vret)))))
    refine gk_ast0 h (by decide +kernel) ?_
    refine gk_aload_n (j := 0) h (by decide +kernel) rfl ?_
    refine gk_iload_n (j := 1) h (by decide +kernel) rfl ?_
    refine gk_vV (ca_v (idx := 283) h ho hm_142 (rd_le hrd (by decide)) ck_8 (by decide +kernel) kw_962 kw_964 kw_40 kw_101 kw_965 rfl (by decide +kernel) (by decide)) ?_
    exact gk_vret h hR (by decide +kernel)
  | _ + 4 => exact fun _ _ _ hr => hr.elim
set_option maxRecDepth 20000 in
set_option maxHeartbeats 4000000 in
theorem s_169 : MS mtab yX9_copies cX9_copies 4 none Q169 P169 := by
  intro X orc d h hR hnm hxn ho hrd b
  match b with
  | 0 =>
    show GK X Q169 0 (o_iconst 0 (o_istore 3 (o_jmp 1)))
    refine gk_iconst (n := 0) h (by decide +kernel) (by decide) ?_
    refine gk_istore_n (j := 3) h (by decide +kernel) rfl hxn (by decide) ?_
    exact gk_jmp 1 rfl
  | 1 =>
    show GK X Q169 2 (o_iload 3 (o_iconst 64 (o_ilt (o_aload 0 (o_getR 8 36 (o_iload 2 (o_iload 3 (o_i2 (fun x y => x + y) (o_aload 0 (o_getR 8 36 (o_iload 1 (o_iload 3 (o_i2 (fun x y => x + y) (o_iald 0 (o_iast 0 (fun x => x) (o_iinc 3 1 (o_jmp 1)))))))))))))) (o_vret))))
    refine gk_iload_n (j := 3) h (by decide +kernel) rfl ?_
    refine gk_bipush (n := 64) h (by decide +kernel) (by decide) ?_
    refine gk_icmpge (off := 25) (tgt := 30) h (by decide +kernel) (by decide) ?_ ?_
    · exact gk_vret h hR (by decide +kernel)
    · refine gk_aload_n (j := 0) h (by decide +kernel) rfl ?_
      refine gk_getR (i := 81) h ck_8 (by decide) (fun _ _ _ => rfl) (by decide +kernel) kw_1041 ?_
      refine gk_iload_n (j := 2) h (by decide +kernel) rfl ?_
      refine gk_iload_n (j := 3) h (by decide +kernel) rfl ?_
      refine gk_iadd h (by decide +kernel) ?_
      refine gk_aload_n (j := 0) h (by decide +kernel) rfl ?_
      refine gk_getR (i := 81) h ck_8 (by decide) (fun _ _ _ => rfl) (by decide +kernel) kw_1041 ?_
      refine gk_iload_n (j := 1) h (by decide +kernel) rfl ?_
      refine gk_iload_n (j := 3) h (by decide +kernel) rfl ?_
      refine gk_iadd h (by decide +kernel) ?_
      refine gk_ald0 h (by decide +kernel) ?_
      refine gk_ast0 h (by decide +kernel) ?_
      refine gk_iinc (z := 1) h (by decide +kernel) (by decide) hxn (by decide) ?_
      refine gk_goto (off := (-25)) (tgt := 2) h (by decide +kernel) (by decide) ?_
      exact gk_jmp 1 rfl
  | _ + 2 => exact fun _ _ _ hr => hr.elim
set_option maxRecDepth 20000 in
set_option maxHeartbeats 4000000 in
theorem s_170 : MS mtab yX9_knows cX9_knows 2 none Q170 P170 := by
  intro X orc d h hR hnm hxn ho hrd b
  match b with
  | 0 =>
    show GK X Q170 0 (o_aload 0 (o_getI 8 44 (o_if0 (o_aload 0 (o_iconst 1 (o_putZ 8 44 (o_iconst 0 (o_istore 1 (o_jmp 1)))))) (o_vret))))
    refine gk_aload_n (j := 0) h (by decide +kernel) rfl ?_
    refine gk_getI (i := 277) h ck_8 (by decide) (fun _ _ _ => rfl) (by decide +kernel) kw_1049 ?_
    refine gk_ifeq (off := 4) (tgt := 8) h (by decide +kernel) (by decide) ?_ ?_
    · refine gk_aload_n (j := 0) h (by decide +kernel) rfl ?_
      refine gk_iconst (n := 1) h (by decide +kernel) (by decide) ?_
      refine gk_putZ (i := 277) h ck_8 (by decide) rfl (Or.inl rfl) (by decide +kernel) kw_1049 ?_
      refine gk_iconst (n := 0) h (by decide +kernel) (by decide) ?_
      refine gk_istore_n (j := 1) h (by decide +kernel) rfl hxn (by decide) ?_
      exact gk_jmp 1 rfl
    · exact gk_vret h hR (by decide +kernel)
  | 1 =>
    show GK X Q170 15 (o_iload 1 (o_iconst 65536 (o_ilt (o_aload 0 (o_getR 8 42 (o_iload 1 (o_iconst 0 (o_iast 3 (fun x => vp_nar .byte x) (o_iinc 1 1 (o_jmp 1))))))) (o_vret))))
    refine gk_iload_n (j := 1) h (by decide +kernel) rfl ?_
    refine gk_ldc (i := 87) h (by decide +kernel) kw_953 ?_
    refine gk_icmpge (off := 16) (tgt := 34) h (by decide +kernel) (by decide) ?_ ?_
    · exact gk_vret h hR (by decide +kernel)
    · refine gk_aload_n (j := 0) h (by decide +kernel) rfl ?_
      refine gk_getR (i := 88) h ck_8 (by decide) (fun _ _ _ => rfl) (by decide +kernel) kw_1047 ?_
      refine gk_iload_n (j := 1) h (by decide +kernel) rfl ?_
      refine gk_iconst (n := 0) h (by decide +kernel) (by decide) ?_
      refine gk_ast3 h (by decide +kernel) ?_
      refine gk_iinc (z := 1) h (by decide +kernel) (by decide) hxn (by decide) ?_
      refine gk_goto (off := (-16)) (tgt := 15) h (by decide +kernel) (by decide) ?_
      exact gk_jmp 1 rfl
  | _ + 2 => exact fun _ _ _ hr => hr.elim
set_option maxRecDepth 20000 in
set_option maxHeartbeats 4000000 in
theorem s_171 : MS mtab yX9_isBetter cX9_isBetter 5 (some .boolean) Q171 P171 := by
  intro X orc d h hR hnm hxn ho hrd b
  match b with
  | 0 =>
    show GK X Q171 0 (o_iload 1 (o_iload 3 (o_ieq (o_iload 1 (o_iconst 1 (o_iload 0 (o_i2 (fun x y => x + y) (o_ieq (o_iload 2 (o_iload 4 (o_igt (o_iconst 1 (o_zret)) (o_iconst 0 (o_zret))))) (o_iload 2 (o_iload 4 (o_ilt (o_iconst 1 (o_zret)) (o_iconst 0 (o_zret)))))))))) (o_iload 3 (o_iconst 1 (o_iload 0 (o_i2 (fun x y => x + y) (o_ieq (o_iconst 1 (o_zret)) (o_iconst 0 (o_zret))))))))))
    refine gk_iload_n (j := 1) h (by decide +kernel) rfl ?_
    refine gk_iload_n (j := 3) h (by decide +kernel) rfl ?_
    refine gk_icmpeq (off := 16) (tgt := 18) h (by decide +kernel) (by decide) ?_ ?_
    · refine gk_iload_n (j := 1) h (by decide +kernel) rfl ?_
      refine gk_iconst (n := 1) h (by decide +kernel) (by decide) ?_
      refine gk_iload_n (j := 0) h (by decide +kernel) rfl ?_
      refine gk_iadd h (by decide +kernel) ?_
      refine gk_icmpne (off := 17) (tgt := 39) h (by decide +kernel) (by decide) ?_ ?_
      · refine gk_iload_n (j := 2) h (by decide +kernel) rfl ?_
        refine gk_iload h (by decide +kernel) ?_
        refine gk_icmpge (off := 7) (tgt := 49) h (by decide +kernel) (by decide) ?_ ?_
        · refine gk_iconst (n := 0) h (by decide +kernel) (by decide) ?_
          exact gk_zret h hR (by decide +kernel)
        · refine gk_iconst (n := 1) h (by decide +kernel) (by decide) ?_
          refine gk_goto (off := 4) (tgt := 50) h (by decide +kernel) (by decide) ?_
          exact gk_zret h hR (by decide +kernel)
      · refine gk_iload_n (j := 2) h (by decide +kernel) rfl ?_
        refine gk_iload h (by decide +kernel) ?_
        refine gk_icmple (off := 7) (tgt := 35) h (by decide +kernel) (by decide) ?_ ?_
        · refine gk_iconst (n := 0) h (by decide +kernel) (by decide) ?_
          refine gk_goto (off := 14) (tgt := 50) h (by decide +kernel) (by decide) ?_
          exact gk_zret h hR (by decide +kernel)
        · refine gk_iconst (n := 1) h (by decide +kernel) (by decide) ?_
          refine gk_goto (off := 18) (tgt := 50) h (by decide +kernel) (by decide) ?_
          exact gk_zret h hR (by decide +kernel)
    · refine gk_iload_n (j := 3) h (by decide +kernel) rfl ?_
      refine gk_iconst (n := 1) h (by decide +kernel) (by decide) ?_
      refine gk_iload_n (j := 0) h (by decide +kernel) rfl ?_
      refine gk_iadd h (by decide +kernel) ?_
      refine gk_icmpne (off := 7) (tgt := 16) h (by decide +kernel) (by decide) ?_ ?_
      · refine gk_iconst (n := 0) h (by decide +kernel) (by decide) ?_
        exact gk_zret h hR (by decide +kernel)
      · refine gk_iconst (n := 1) h (by decide +kernel) (by decide) ?_
        refine gk_goto (off := 4) (tgt := 17) h (by decide +kernel) (by decide) ?_
        exact gk_zret h hR (by decide +kernel)
  | _ + 1 => exact fun _ _ _ hr => hr.elim
set_option maxRecDepth 20000 in
set_option maxHeartbeats 4000000 in
theorem s_172 : MS mtab yX9_solves cX9_solves 9 (some .int) Q172 P172 := by
  intro X orc d h hR hnm hxn ho hrd b
  match b with
  | 0 =>
    show GK X Q172 0 (o_aload 0 (o_iload 1 (o_vI orc 167 2 8 (o_istore 2 (o_aload 0 (o_getR 8 42 (o_iload 2 (o_iald 3 (o_ifp (o_iload 2 (o_iret)) (o_aload 0 (o_getR 8 36 (o_iload 1 (o_iconst 43 (o_i2 (fun x y => x + y) (o_iald 0 (o_istore 3 (o_iconst 0 (o_istore 4 (o_iload 3 (o_ifp (o_iconst 1 (o_jmp 1)) (o_iconst 0 (o_jmp 1))))))))))))))))))))))
    refine gk_aload_n (j := 0) h (by decide +kernel) rfl ?_
    refine gk_iload_n (j := 1) h (by decide +kernel) rfl ?_
    refine gk_vI (ca_v (idx := 351) h ho hm_167 (rd_le hrd (by decide)) ck_8 (by decide +kernel) kw_1362 kw_1364 kw_82 kw_101 kw_1365 rfl (by decide +kernel) (by decide)) ?_
    refine gk_istore_n (j := 2) h (by decide +kernel) rfl hxn (by decide) ?_
    refine gk_aload_n (j := 0) h (by decide +kernel) rfl ?_
    refine gk_getR (i := 88) h ck_8 (by decide) (fun _ _ _ => rfl) (by decide +kernel) kw_1047 ?_
    refine gk_iload_n (j := 2) h (by decide +kernel) rfl ?_
    refine gk_ald3 h (by decide +kernel) ?_
    refine gk_ifle (off := 5) (tgt := 17) h (by decide +kernel) (by decide) ?_ ?_
    · refine gk_aload_n (j := 0) h (by decide +kernel) rfl ?_
      refine gk_getR (i := 81) h ck_8 (by decide) (fun _ _ _ => rfl) (by decide +kernel) kw_1041 ?_
      refine gk_iload_n (j := 1) h (by decide +kernel) rfl ?_
      refine gk_bipush (n := 43) h (by decide +kernel) (by decide) ?_
      refine gk_iadd h (by decide +kernel) ?_
      refine gk_ald0 h (by decide +kernel) ?_
      refine gk_istore_n (j := 3) h (by decide +kernel) rfl hxn (by decide) ?_
      refine gk_iconst (n := 0) h (by decide +kernel) (by decide) ?_
      refine gk_istore h (by decide +kernel) hxn (by decide) ?_
      refine gk_iload_n (j := 3) h (by decide +kernel) rfl ?_
      refine gk_ifle (off := 7) (tgt := 38) h (by decide +kernel) (by decide) ?_ ?_
      · refine gk_iconst (n := 0) h (by decide +kernel) (by decide) ?_
        exact gk_jmp 1 rfl
      · refine gk_iconst (n := 1) h (by decide +kernel) (by decide) ?_
        refine gk_goto (off := 4) (tgt := 39) h (by decide +kernel) (by decide) ?_
        exact gk_jmp 1 rfl
    · refine gk_iload_n (j := 2) h (by decide +kernel) rfl ?_
      exact gk_iret h hR (by decide +kernel)
  | 1 =>
    show GK X Q172 39 (o_istore 5 (o_iload 5 (o_if0 (o_aload 0 (o_iload 1 (o_iconst (-1) (o_vI orc 149 3 8 (o_jmp 2))))) (o_iconst (-1) (o_jmp 2)))))
    refine gk_istore h (by decide +kernel) hxn (by decide) ?_
    refine gk_iload h (by decide +kernel) ?_
    refine gk_ifeq (off := 7) (tgt := 50) h (by decide +kernel) (by decide) ?_ ?_
    · refine gk_aload_n (j := 0) h (by decide +kernel) rfl ?_
      refine gk_iload_n (j := 1) h (by decide +kernel) rfl ?_
      refine gk_iconst (n := (-1)) h (by decide +kernel) (by decide) ?_
      refine gk_vI (ca_v (idx := 322) h ho hm_149 (rd_le hrd (by decide)) ck_8 (by decide +kernel) kw_974 kw_976 kw_43 kw_101 kw_977 rfl (by decide +kernel) (by decide)) ?_
      exact gk_jmp 2 rfl
    · refine gk_iconst (n := (-1)) h (by decide +kernel) (by decide) ?_
      refine gk_goto (off := 9) (tgt := 56) h (by decide +kernel) (by decide) ?_
      exact gk_jmp 2 rfl
  | 2 =>
    show GK X Q172 56 (o_istore 6 (o_jmp 3))
    refine gk_istore h (by decide +kernel) hxn (by decide) ?_
    exact gk_jmp 3 rfl
  | 3 =>
    show GK X Q172 58 (o_iload 6 (o_ifn (o_aload 0 (o_getR 8 42 (o_iload 2 (o_iload 3 (o_i1 (fun x => x.toInt8.toInt32) (o_iast 3 (fun x => vp_nar .byte x) (o_aload 0 (o_getR 8 43 (o_iload 2 (o_iload 4 (o_i1 (fun x => x.toInt8.toInt32) (o_iast 3 (fun x => vp_nar .byte x) (o_iload 2 (o_iret)))))))))))))) (o_iload 1 (o_iconst 64 (o_i2 (fun x y => x + y) (o_istore 7 (o_aload 0 (o_iload 1 (o_iload 7 (o_vV orc 169 3 8 (o_aload 0 (o_iload 7 (o_aload 0 (o_getI 8 39 (o_aload 0 (o_getI 8 40 (o_aload 0 (o_getI 8 41 (o_vV orc 154 5 8 (o_aload 0 (o_iload 7 (o_vI orc 172 2 8 (o_istore 8 (o_iload 5 (o_if0 (o_jmp 4) (o_aload 0 (o_getR 8 36 (o_iload 1 (o_iconst 42 (o_i2 (fun x y => x + y) (o_iald 0 (o_aload 0 (o_getR 8 42 (o_iload 8 (o_iald 3 (o_aload 0 (o_getR 8 43 (o_iload 8 (o_iald 3 (o_iconst 1 (o_i2 (fun x y => x + y) (o_iload 3 (o_iload 4 (o_sI orc 171 5 (o_if0 (o_jmp 5) (o_jmp 4))))))))))))))))))))))))))))))))))))))))))))))
    refine gk_iload h (by decide +kernel) ?_
    refine gk_iflt (off := 118) (tgt := 178) h (by decide +kernel) (by decide) ?_ ?_
    · refine gk_aload_n (j := 0) h (by decide +kernel) rfl ?_
      refine gk_getR (i := 88) h ck_8 (by decide) (fun _ _ _ => rfl) (by decide +kernel) kw_1047 ?_
      refine gk_iload_n (j := 2) h (by decide +kernel) rfl ?_
      refine gk_iload_n (j := 3) h (by decide +kernel) rfl ?_
      refine gk_i2b h (by decide +kernel) ?_
      refine gk_ast3 h (by decide +kernel) ?_
      refine gk_aload_n (j := 0) h (by decide +kernel) rfl ?_
      refine gk_getR (i := 92) h ck_8 (by decide) (fun _ _ _ => rfl) (by decide +kernel) kw_1048 ?_
      refine gk_iload_n (j := 2) h (by decide +kernel) rfl ?_
      refine gk_iload h (by decide +kernel) ?_
      refine gk_i2b h (by decide +kernel) ?_
      refine gk_ast3 h (by decide +kernel) ?_
      refine gk_iload_n (j := 2) h (by decide +kernel) rfl ?_
      exact gk_iret h hR (by decide +kernel)
    · refine gk_iload_n (j := 1) h (by decide +kernel) rfl ?_
      refine gk_bipush (n := 64) h (by decide +kernel) (by decide) ?_
      refine gk_iadd h (by decide +kernel) ?_
      refine gk_istore h (by decide +kernel) hxn (by decide) ?_
      refine gk_aload_n (j := 0) h (by decide +kernel) rfl ?_
      refine gk_iload_n (j := 1) h (by decide +kernel) rfl ?_
      refine gk_iload h (by decide +kernel) ?_
      refine gk_vV (ca_v (idx := 354) h ho hm_169 (rd_le hrd (by decide)) ck_8 (by decide +kernel) kw_1354 kw_1356 kw_80 kw_101 kw_1357 rfl (by decide +kernel) (by decide)) ?_
      refine gk_aload_n (j := 0) h (by decide +kernel) rfl ?_
      refine gk_iload h (by decide +kernel) ?_
      refine gk_aload_n (j := 0) h (by decide +kernel) rfl ?_
      refine gk_getI (i := 305) h ck_8 (by decide) (fun _ _ _ => rfl) (by decide +kernel) kw_1044 ?_
      refine gk_aload_n (j := 0) h (by decide +kernel) rfl ?_
      refine gk_getI (i := 308) h ck_8 (by decide) (fun _ _ _ => rfl) (by decide +kernel) kw_1045 ?_
      refine gk_aload_n (j := 0) h (by decide +kernel) rfl ?_
      refine gk_getI (i := 311) h ck_8 (by decide) (fun _ _ _ => rfl) (by decide +kernel) kw_1046 ?_
      refine gk_vV (ca_v (idx := 336) h ho hm_154 (rd_le hrd (by decide)) ck_8 (by decide +kernel) kw_1278 kw_1280 kw_68 kw_101 kw_1281 rfl (by decide +kernel) (by decide)) ?_
      refine gk_aload_n (j := 0) h (by decide +kernel) rfl ?_
      refine gk_iload h (by decide +kernel) ?_
      refine gk_vI (ca_v (idx := 357) h ho hm_172 (rd_le hrd (by decide)) ck_8 (by decide +kernel) kw_1358 kw_1360 kw_81 kw_101 kw_1361 rfl (by decide +kernel) (by decide)) ?_
      refine gk_istore h (by decide +kernel) hxn (by decide) ?_
      refine gk_iload h (by decide +kernel) ?_
      refine gk_ifeq (off := 40) (tgt := 144) h (by decide +kernel) (by decide) ?_ ?_
      · exact gk_jmp 4 rfl
      · refine gk_aload_n (j := 0) h (by decide +kernel) rfl ?_
        refine gk_getR (i := 81) h ck_8 (by decide) (fun _ _ _ => rfl) (by decide +kernel) kw_1041 ?_
        refine gk_iload_n (j := 1) h (by decide +kernel) rfl ?_
        refine gk_bipush (n := 42) h (by decide +kernel) (by decide) ?_
        refine gk_iadd h (by decide +kernel) ?_
        refine gk_ald0 h (by decide +kernel) ?_
        refine gk_aload_n (j := 0) h (by decide +kernel) rfl ?_
        refine gk_getR (i := 88) h ck_8 (by decide) (fun _ _ _ => rfl) (by decide +kernel) kw_1047 ?_
        refine gk_iload h (by decide +kernel) ?_
        refine gk_ald3 h (by decide +kernel) ?_
        refine gk_aload_n (j := 0) h (by decide +kernel) rfl ?_
        refine gk_getR (i := 92) h ck_8 (by decide) (fun _ _ _ => rfl) (by decide +kernel) kw_1048 ?_
        refine gk_iload h (by decide +kernel) ?_
        refine gk_ald3 h (by decide +kernel) ?_
        refine gk_iconst (n := 1) h (by decide +kernel) (by decide) ?_
        refine gk_iadd h (by decide +kernel) ?_
        refine gk_iload_n (j := 3) h (by decide +kernel) rfl ?_
        refine gk_iload h (by decide +kernel) ?_
        refine gk_sI (ca_s (idx := 360) h ho hm_171 (rd_le hrd (by decide)) (by decide +kernel) kw_1370 kw_1371 kw_101 kw_1372 (by decide +kernel)) ?_
        refine gk_ifne (off := 6) (tgt := 144) h (by decide +kernel) (by decide) ?_ ?_
        · exact gk_jmp 4 rfl
        · refine gk_goto (off := 25) (tgt := 166) h (by decide +kernel) (by decide) ?_
          exact gk_jmp 5 rfl
  | 4 =>
    show GK X Q172 144 (o_iconst 1 (o_istore 5 (o_aload 0 (o_getR 8 42 (o_iload 8 (o_iald 3 (o_istore 3 (o_aload 0 (o_getR 8 43 (o_iload 8 (o_iald 3 (o_iconst 1 (o_i2 (fun x y => x + y) (o_istore 4 (o_jmp 5)))))))))))))))
    refine gk_iconst (n := 1) h (by decide +kernel) (by decide) ?_
    refine gk_istore h (by decide +kernel) hxn (by decide) ?_
    refine gk_aload_n (j := 0) h (by decide +kernel) rfl ?_
    refine gk_getR (i := 88) h ck_8 (by decide) (fun _ _ _ => rfl) (by decide +kernel) kw_1047 ?_
    refine gk_iload h (by decide +kernel) ?_
    refine gk_ald3 h (by decide +kernel) ?_
    refine gk_istore_n (j := 3) h (by decide +kernel) rfl hxn (by decide) ?_
    refine gk_aload_n (j := 0) h (by decide +kernel) rfl ?_
    refine gk_getR (i := 92) h ck_8 (by decide) (fun _ _ _ => rfl) (by decide +kernel) kw_1048 ?_
    refine gk_iload h (by decide +kernel) ?_
    refine gk_ald3 h (by decide +kernel) ?_
    refine gk_iconst (n := 1) h (by decide +kernel) (by decide) ?_
    refine gk_iadd h (by decide +kernel) ?_
    refine gk_istore h (by decide +kernel) hxn (by decide) ?_
    exact gk_jmp 5 rfl
  | 5 =>
    show GK X Q172 166 (o_aload 0 (o_iload 1 (o_iload 6 (o_vI orc 149 3 8 (o_istore 6 (o_jmp 3))))))
    refine gk_aload_n (j := 0) h (by decide +kernel) rfl ?_
    refine gk_iload_n (j := 1) h (by decide +kernel) rfl ?_
    refine gk_iload h (by decide +kernel) ?_
    refine gk_vI (ca_v (idx := 322) h ho hm_149 (rd_le hrd (by decide)) ck_8 (by decide +kernel) kw_974 kw_976 kw_43 kw_101 kw_977 rfl (by decide +kernel) (by decide)) ?_
    refine gk_istore h (by decide +kernel) hxn (by decide) ?_
    refine gk_goto (off := (-117)) (tgt := 58) h (by decide +kernel) (by decide) ?_
    exact gk_jmp 3 rfl
  | _ + 6 => exact fun _ _ _ hr => hr.elim
