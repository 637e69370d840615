set_option maxRecDepth 20000 in
set_option maxHeartbeats 4000000 in
theorem s_31 : MS mtab yX3_emit cX3_emit 2 none Q31 P31 := by
  intro X orc d h hR hnm hxn ho hrd b
  match b with
  | 0 =>
    show GK X Q31 0 (o_aload 0 (o_getI 2 13 (o_if0 (o_aload 0 (o_getI 2 8 (o_aload 0 (o_getR 2 7 (o_alen (o_ilt (o_aload 0 (o_getR 2 7 (o_aload 0 (o_getI 2 8 (o_iload 1 (o_iast 0 (fun x => x) (o_aload 0 (o_dup (o_getI 2 8 (o_iconst 1 (o_i2 (fun x y => x + y) (o_putI 2 8 (o_vret))))))))))))) (o_vret))))))) (o_vret))))
    refine gk_aload_n (j := 0) h (by decide +kernel) rfl ?_
    refine gk_getI (i := 55) h ck_2 (by decide) (fun _ _ _ => rfl) (by decide +kernel) kw_144 ?_
    refine gk_ifne (off := 35) (tgt := 39) h (by decide +kernel) (by decide) ?_ ?_
    · exact gk_vret h hR (by decide +kernel)
    · refine gk_aload_n (j := 0) h (by decide +kernel) rfl ?_
      refine gk_getI (i := 38) h ck_2 (by decide) (fun _ _ _ => rfl) (by decide +kernel) kw_139 ?_
      refine gk_aload_n (j := 0) h (by decide +kernel) rfl ?_
      refine gk_getR (i := 35) h ck_2 (by decide) (fun _ _ _ => rfl) (by decide +kernel) kw_138 ?_
      refine gk_alen h (by decide +kernel) ?_
      refine gk_icmpge (off := 23) (tgt := 39) h (by decide +kernel) (by decide) ?_ ?_
      · exact gk_vret h hR (by decide +kernel)
      · refine gk_aload_n (j := 0) h (by decide +kernel) rfl ?_
        refine gk_getR (i := 35) h ck_2 (by decide) (fun _ _ _ => rfl) (by decide +kernel) kw_138 ?_
        refine gk_aload_n (j := 0) h (by decide +kernel) rfl ?_
        refine gk_getI (i := 38) h ck_2 (by decide) (fun _ _ _ => rfl) (by decide +kernel) kw_139 ?_
        refine gk_iload_n (j := 1) h (by decide +kernel) rfl ?_
        refine gk_ast0 h (by decide +kernel) ?_
        refine gk_aload_n (j := 0) h (by decide +kernel) rfl ?_
        refine gk_dup h (by decide +kernel) ?_
        refine gk_getI (i := 38) h ck_2 (by decide) (fun _ _ _ => rfl) (by decide +kernel) kw_139 ?_
        refine gk_iconst (n := 1) h (by decide +kernel) (by decide) ?_
        refine gk_iadd h (by decide +kernel) ?_
        refine gk_putI (i := 38) h ck_2 (by decide) rfl (Or.inl rfl) (by decide +kernel) kw_139 ?_
        exact gk_vret h hR (by decide +kernel)
  | _ + 1 => exact fun _ _ _ hr => hr.elim
set_option maxRecDepth 20000 in
set_option maxHeartbeats 4000000 in
theorem s_32 : MS mtab yX3_wrong cX3_wrong 2 none Q32 P32 := by
  intro X orc d h hR hnm hxn ho hrd b
  match b with
  | 0 =>
    show GK X Q32 0 (o_aload 0 (o_getI 2 13 (o_if0 (o_aload 0 (o_iload 1 (o_iconst 16 (o_aload 0 (o_getI 2 14 (o_i2 (fun x y => x * y) (o_i2 (fun x y => x + y) (o_putI 2 13 (o_vret))))))))) (o_vret))))
    refine gk_aload_n (j := 0) h (by decide +kernel) rfl ?_
    refine gk_getI (i := 55) h ck_2 (by decide) (fun _ _ _ => rfl) (by decide +kernel) kw_144 ?_
    refine gk_ifne (off := 16) (tgt := 20) h (by decide +kernel) (by decide) ?_ ?_
    · exact gk_vret h hR (by decide +kernel)
    · refine gk_aload_n (j := 0) h (by decide +kernel) rfl ?_
      refine gk_iload_n (j := 1) h (by decide +kernel) rfl ?_
      refine gk_bipush (n := 16) h (by decide +kernel) (by decide) ?_
      refine gk_aload_n (j := 0) h (by decide +kernel) rfl ?_
      refine gk_getI (i := 58) h ck_2 (by decide) (fun _ _ _ => rfl) (by decide +kernel) kw_145 ?_
      refine gk_imul h (by decide +kernel) ?_
      refine gk_iadd h (by decide +kernel) ?_
      refine gk_putI (i := 55) h ck_2 (by decide) rfl (Or.inl rfl) (by decide +kernel) kw_144 ?_
      exact gk_vret h hR (by decide +kernel)
  | _ + 1 => exact fun _ _ _ hr => hr.elim
set_option maxRecDepth 20000 in
set_option maxHeartbeats 4000000 in
theorem s_33 : MS mtab yX3_expect cX3_expect 2 none Q33 P33 := by
  intro X orc d h hR hnm hxn ho hrd b
  match b with
  | 0 =>
    show GK X Q33 0 (o_aload 0 (o_getI 2 16 (o_iload 1 (o_ieq (o_aload 0 (o_vV orc 37 1 2 (o_vret))) (o_aload 0 (o_iconst 1 (o_vV orc 32 2 2 (o_vret))))))))
    refine gk_aload_n (j := 0) h (by decide +kernel) rfl ?_
    refine gk_getI (i := 64) h ck_2 (by decide) (fun _ _ _ => rfl) (by decide +kernel) kw_147 ?_
    refine gk_iload_n (j := 1) h (by decide +kernel) rfl ?_
    refine gk_icmpne (off := 10) (tgt := 15) h (by decide +kernel) (by decide) ?_ ?_
    · refine gk_aload_n (j := 0) h (by decide +kernel) rfl ?_
      refine gk_iconst (n := 1) h (by decide +kernel) (by decide) ?_
      refine gk_vV (ca_v (idx := 100) h ho hm_32 (rd_le hrd (by decide)) ck_2 (by decide +kernel) kw_567 kw_569 kw_11 kw_92 kw_570 rfl (by decide +kernel) (by decide)) ?_
      exact gk_vret h hR (by decide +kernel)
    · refine gk_aload_n (j := 0) h (by decide +kernel) rfl ?_
      refine gk_vV (ca_v (idx := 85) h ho hm_37 (rd_le hrd (by decide)) ck_2 (by decide +kernel) kw_493 kw_495 kw_5 kw_92 kw_496 rfl (by decide +kernel) (by decide)) ?_
      refine gk_goto (off := 8) (tgt := 20) h (by decide +kernel) (by decide) ?_
      exact gk_vret h hR (by decide +kernel)
  | _ + 1 => exact fun _ _ _ hr => hr.elim
set_option maxRecDepth 20000 in
set_option maxHeartbeats 4000000 in
theorem s_34 : MS mtab yX3_expectNumber cX3_expectNumber 4 (some .int) Q34 P34 := by
  intro X orc d h hR hnm hxn ho hrd b
  match b with
  | 0 =>
    show GK X Q34 0 (o_aload 0 (o_getI 2 16 (o_iconst 257 (o_ieq (o_aload 0 (o_getI 2 17 (o_iload 1 (o_ilt (o_jmp 1) (o_aload 0 (o_getI 2 17 (o_iload 2 (o_igt (o_jmp 1) (o_aload 0 (o_getI 2 17 (o_istore 3 (o_aload 0 (o_vV orc 37 1 2 (o_iload 3 (o_iret))))))))))))))) (o_aload 0 (o_iconst 1 (o_vV orc 32 2 2 (o_iload 1 (o_iret)))))))))
    refine gk_aload_n (j := 0) h (by decide +kernel) rfl ?_
    refine gk_getI (i := 64) h ck_2 (by decide) (fun _ _ _ => rfl) (by decide +kernel) kw_147 ?_
    refine gk_sipush (n := 257) h (by decide +kernel) (by decide) ?_
    refine gk_icmpeq (off := 10) (tgt := 17) h (by decide +kernel) (by decide) ?_ ?_
    · refine gk_aload_n (j := 0) h (by decide +kernel) rfl ?_
      refine gk_getI (i := 67) h ck_2 (by decide) (fun _ _ _ => rfl) (by decide +kernel) kw_148 ?_
      refine gk_iload_n (j := 1) h (by decide +kernel) rfl ?_
      refine gk_icmplt (off := 11) (tgt := 33) h (by decide +kernel) (by decide) ?_ ?_
      · exact gk_jmp 1 rfl
      · refine gk_aload_n (j := 0) h (by decide +kernel) rfl ?_
        refine gk_getI (i := 67) h ck_2 (by decide) (fun _ _ _ => rfl) (by decide +kernel) kw_148 ?_
        refine gk_iload_n (j := 2) h (by decide +kernel) rfl ?_
        refine gk_icmple (off := 10) (tgt := 40) h (by decide +kernel) (by decide) ?_ ?_
        · refine gk_aload_n (j := 0) h (by decide +kernel) rfl ?_
          refine gk_getI (i := 67) h ck_2 (by decide) (fun _ _ _ => rfl) (by decide +kernel) kw_148 ?_
          refine gk_istore_n (j := 3) h (by decide +kernel) rfl hxn (by decide) ?_
          refine gk_aload_n (j := 0) h (by decide +kernel) rfl ?_
          refine gk_vV (ca_v (idx := 85) h ho hm_37 (rd_le hrd (by decide)) ck_2 (by decide +kernel) kw_493 kw_495 kw_5 kw_92 kw_496 rfl (by decide +kernel) (by decide)) ?_
          refine gk_iload_n (j := 3) h (by decide +kernel) rfl ?_
          exact gk_iret h hR (by decide +kernel)
        · exact gk_jmp 1 rfl
    · refine gk_aload_n (j := 0) h (by decide +kernel) rfl ?_
      refine gk_iconst (n := 1) h (by decide +kernel) (by decide) ?_
      refine gk_vV (ca_v (idx := 100) h ho hm_32 (rd_le hrd (by decide)) ck_2 (by decide +kernel) kw_567 kw_569 kw_11 kw_92 kw_570 rfl (by decide +kernel) (by decide)) ?_
      refine gk_iload_n (j := 1) h (by decide +kernel) rfl ?_
      exact gk_iret h hR (by decide +kernel)
  | 1 =>
    show GK X Q34 33 (o_aload 0 (o_iconst 4 (o_vV orc 32 2 2 (o_iload 1 (o_iret)))))
    refine gk_aload_n (j := 0) h (by decide +kernel) rfl ?_
    refine gk_iconst (n := 4) h (by decide +kernel) (by decide) ?_
    refine gk_vV (ca_v (idx := 100) h ho hm_32 (rd_le hrd (by decide)) ck_2 (by decide +kernel) kw_567 kw_569 kw_11 kw_92 kw_570 rfl (by decide +kernel) (by decide)) ?_
    refine gk_iload_n (j := 1) h (by decide +kernel) rfl ?_
    exact gk_iret h hR (by decide +kernel)
  | _ + 2 => exact fun _ _ _ hr => hr.elim
set_option maxRecDepth 20000 in
set_option maxHeartbeats 4000000 in
theorem s_35 : MS mtab yX3_expectKind cX3_expectKind 2 (some .int) Q35 P35 := by
  intro X orc d h hR hnm hxn ho hrd b
  match b with
  | 0 =>
    show GK X Q35 0 (o_aload 0 (o_getI 2 16 (o_iconst 132 (o_ilt (o_jmp 1) (o_aload 0 (o_getI 2 16 (o_iconst 137 (o_igt (o_jmp 1) (o_aload 0 (o_getI 2 16 (o_iconst 132 (o_i2 (fun x y => x - y) (o_istore 1 (o_aload 0 (o_vV orc 37 1 2 (o_iload 1 (o_iret)))))))))))))))))
    refine gk_aload_n (j := 0) h (by decide +kernel) rfl ?_
    refine gk_getI (i := 64) h ck_2 (by decide) (fun _ _ _ => rfl) (by decide +kernel) kw_147 ?_
    refine gk_sipush (n := 132) h (by decide +kernel) (by decide) ?_
    refine gk_icmplt (off := 13) (tgt := 20) h (by decide +kernel) (by decide) ?_ ?_
    · exact gk_jmp 1 rfl
    · refine gk_aload_n (j := 0) h (by decide +kernel) rfl ?_
      refine gk_getI (i := 64) h ck_2 (by decide) (fun _ _ _ => rfl) (by decide +kernel) kw_147 ?_
      refine gk_sipush (n := 137) h (by decide +kernel) (by decide) ?_
      refine gk_icmple (off := 10) (tgt := 27) h (by decide +kernel) (by decide) ?_ ?_
      · refine gk_aload_n (j := 0) h (by decide +kernel) rfl ?_
        refine gk_getI (i := 64) h ck_2 (by decide) (fun _ _ _ => rfl) (by decide +kernel) kw_147 ?_
        refine gk_sipush (n := 132) h (by decide +kernel) (by decide) ?_
        refine gk_isub h (by decide +kernel) ?_
        refine gk_istore_n (j := 1) h (by decide +kernel) rfl hxn (by decide) ?_
        refine gk_aload_n (j := 0) h (by decide +kernel) rfl ?_
        refine gk_vV (ca_v (idx := 85) h ho hm_37 (rd_le hrd (by decide)) ck_2 (by decide +kernel) kw_493 kw_495 kw_5 kw_92 kw_496 rfl (by decide +kernel) (by decide)) ?_
        refine gk_iload_n (j := 1) h (by decide +kernel) rfl ?_
        exact gk_iret h hR (by decide +kernel)
      · exact gk_jmp 1 rfl
  | 1 =>
    show GK X Q35 20 (o_aload 0 (o_iconst 1 (o_vV orc 32 2 2 (o_iconst 0 (o_iret)))))
    refine gk_aload_n (j := 0) h (by decide +kernel) rfl ?_
    refine gk_iconst (n := 1) h (by decide +kernel) (by decide) ?_
    refine gk_vV (ca_v (idx := 100) h ho hm_32 (rd_le hrd (by decide)) ck_2 (by decide +kernel) kw_567 kw_569 kw_11 kw_92 kw_570 rfl (by decide +kernel) (by decide)) ?_
    refine gk_iconst (n := 0) h (by decide +kernel) (by decide) ?_
    exact gk_iret h hR (by decide +kernel)
  | _ + 2 => exact fun _ _ _ hr => hr.elim
set_option maxRecDepth 20000 in
set_option maxHeartbeats 4000000 in
theorem s_36 : MS mtab yX3_expectName cX3_expectName 3 (some .long) Q36 P36 := by
  intro X orc d h hR hnm hxn ho hrd b
  match b with
  | 0 =>
    show GK X Q36 0 (o_aload 0 (o_getI 2 16 (o_iconst 256 (o_ieq (o_iconst 0 (o_istore 1 (o_jmp 1))) (o_aload 0 (o_iconst 1 (o_vV orc 32 2 2 (o_lconst 0 (o_lret)))))))))
    refine gk_aload_n (j := 0) h (by decide +kernel) rfl ?_
    refine gk_getI (i := 64) h ck_2 (by decide) (fun _ _ _ => rfl) (by decide +kernel) kw_147 ?_
    refine gk_sipush (n := 256) h (by decide +kernel) (by decide) ?_
    refine gk_icmpeq (off := 10) (tgt := 17) h (by decide +kernel) (by decide) ?_ ?_
    · refine gk_iconst (n := 0) h (by decide +kernel) (by decide) ?_
      refine gk_istore_n (j := 1) h (by decide +kernel) rfl hxn (by decide) ?_
      exact gk_jmp 1 rfl
    · refine gk_aload_n (j := 0) h (by decide +kernel) rfl ?_
      refine gk_iconst (n := 1) h (by decide +kernel) (by decide) ?_
      refine gk_vV (ca_v (idx := 100) h ho hm_32 (rd_le hrd (by decide)) ck_2 (by decide +kernel) kw_567 kw_569 kw_11 kw_92 kw_570 rfl (by decide +kernel) (by decide)) ?_
      refine gk_lconst (n := 0) h (by decide +kernel) rfl ?_
      exact gk_lret h hR (by decide +kernel)
  | 1 =>
    show GK X Q36 19 (o_iload 1 (o_aload 0 (o_getI 2 3 (o_ilt (o_aload 0 (o_getR 2 6 (o_iload 1 (o_lald (o_aload 0 (o_getL 2 18 (o_lcmp (o_if0 (o_aload 0 (o_iconst 3 (o_vV orc 32 2 2 (o_jmp 2)))) (o_jmp 2))))))))) (o_aload 0 (o_getL 2 18 (o_lstore 1 (o_aload 0 (o_vV orc 37 1 2 (o_lload 1 (o_lret)))))))))))
    refine gk_iload_n (j := 1) h (by decide +kernel) rfl ?_
    refine gk_aload_n (j := 0) h (by decide +kernel) rfl ?_
    refine gk_getI (i := 21) h ck_2 (by decide) (fun _ _ _ => rfl) (by decide +kernel) kw_131 ?_
    refine gk_icmpge (off := 28) (tgt := 52) h (by decide +kernel) (by decide) ?_ ?_
    · refine gk_aload_n (j := 0) h (by decide +kernel) rfl ?_
      refine gk_getL (i := 70) h ck_2 (by decide) (fun _ _ _ => rfl) (by decide +kernel) kw_149 ?_
      refine gk_lstore_n (j := 1) h (by decide +kernel) rfl hxn (by decide) ?_
      refine gk_aload_n (j := 0) h (by decide +kernel) rfl ?_
      refine gk_vV (ca_v (idx := 85) h ho hm_37 (rd_le hrd (by decide)) ck_2 (by decide +kernel) kw_493 kw_495 kw_5 kw_92 kw_496 rfl (by decide +kernel) (by decide)) ?_
      refine gk_lload_n (j := 1) h (by decide +kernel) rfl ?_
      exact gk_lret h hR (by decide +kernel)
    · refine gk_aload_n (j := 0) h (by decide +kernel) rfl ?_
      refine gk_getR (i := 31) h ck_2 (by decide) (fun _ _ _ => rfl) (by decide +kernel) kw_137 ?_
      refine gk_iload_n (j := 1) h (by decide +kernel) rfl ?_
      refine gk_lald h (by decide +kernel) ?_
      refine gk_aload_n (j := 0) h (by decide +kernel) rfl ?_
      refine gk_getL (i := 70) h ck_2 (by decide) (fun _ _ _ => rfl) (by decide +kernel) kw_149 ?_
      refine gk_lcmp h (by decide +kernel) ?_
      refine gk_ifne (off := 8) (tgt := 46) h (by decide +kernel) (by decide) ?_ ?_
      · exact gk_jmp 2 rfl
      · refine gk_aload_n (j := 0) h (by decide +kernel) rfl ?_
        refine gk_iconst (n := 3) h (by decide +kernel) (by decide) ?_
        refine gk_vV (ca_v (idx := 100) h ho hm_32 (rd_le hrd (by decide)) ck_2 (by decide +kernel) kw_567 kw_569 kw_11 kw_92 kw_570 rfl (by decide +kernel) (by decide)) ?_
        exact gk_jmp 2 rfl
  | 2 =>
    show GK X Q36 46 (o_iinc 1 1 (o_jmp 1))
    refine gk_iinc (z := 1) h (by decide +kernel) (by decide) hxn (by decide) ?_
    refine gk_goto (off := (-30)) (tgt := 19) h (by decide +kernel) (by decide) ?_
    exact gk_jmp 1 rfl
  | _ + 3 => exact fun _ _ _ hr => hr.elim
set_option maxRecDepth 20000 in
set_option maxHeartbeats 4000000 in
theorem s_37 : MS mtab yX3_step cX3_step 2 none Q37 P37 := by
  intro X orc d h hR hnm hxn ho hrd b
  match b with
  | 0 =>
    show GK X Q37 0 (o_aload 0 (o_getI 2 13 (o_if0 (o_aload 0 (o_getI 2 15 (o_istore 1 (o_jmp 1)))) (o_vret))))
    refine gk_aload_n (j := 0) h (by decide +kernel) rfl ?_
    refine gk_getI (i := 55) h ck_2 (by decide) (fun _ _ _ => rfl) (by decide +kernel) kw_144 ?_
    refine gk_ifeq (off := 4) (tgt := 8) h (by decide +kernel) (by decide) ?_ ?_
    · refine gk_aload_n (j := 0) h (by decide +kernel) rfl ?_
      refine gk_getI (i := 61) h ck_2 (by decide) (fun _ _ _ => rfl) (by decide +kernel) kw_146 ?_
      refine gk_istore_n (j := 1) h (by decide +kernel) rfl hxn (by decide) ?_
      exact gk_jmp 1 rfl
    · exact gk_vret h hR (by decide +kernel)
  | 1 =>
    show GK X Q37 13 (o_iload 1 (o_aload 0 (o_getI 2 12 (o_ilt (o_aload 0 (o_getR 2 11 (o_iload 1 (o_iald 2 (o_iconst 10 (o_ieq (o_jmp 2) (o_aload 0 (o_getR 2 11 (o_iload 1 (o_iald 2 (o_iconst 32 (o_ieq (o_jmp 2) (o_jmp 3))))))))))))) (o_jmp 3)))))
    refine gk_iload_n (j := 1) h (by decide +kernel) rfl ?_
    refine gk_aload_n (j := 0) h (by decide +kernel) rfl ?_
    refine gk_getI (i := 52) h ck_2 (by decide) (fun _ _ _ => rfl) (by decide +kernel) kw_143 ?_
    refine gk_icmpge (off := 31) (tgt := 49) h (by decide +kernel) (by decide) ?_ ?_
    · exact gk_jmp 3 rfl
    · refine gk_aload_n (j := 0) h (by decide +kernel) rfl ?_
      refine gk_getR (i := 48) h ck_2 (by decide) (fun _ _ _ => rfl) (by decide +kernel) kw_142 ?_
      refine gk_iload_n (j := 1) h (by decide +kernel) rfl ?_
      refine gk_ald2 h (by decide +kernel) ?_
      refine gk_bipush (n := 10) h (by decide +kernel) (by decide) ?_
      refine gk_icmpeq (off := 14) (tgt := 43) h (by decide +kernel) (by decide) ?_ ?_
      · exact gk_jmp 2 rfl
      · refine gk_aload_n (j := 0) h (by decide +kernel) rfl ?_
        refine gk_getR (i := 48) h ck_2 (by decide) (fun _ _ _ => rfl) (by decide +kernel) kw_142 ?_
        refine gk_iload_n (j := 1) h (by decide +kernel) rfl ?_
        refine gk_ald2 h (by decide +kernel) ?_
        refine gk_bipush (n := 32) h (by decide +kernel) (by decide) ?_
        refine gk_icmpne (off := 9) (tgt := 49) h (by decide +kernel) (by decide) ?_ ?_
        · exact gk_jmp 3 rfl
        · exact gk_jmp 2 rfl
  | 2 =>
    show GK X Q37 43 (o_iinc 1 1 (o_jmp 1))
    refine gk_iinc (z := 1) h (by decide +kernel) (by decide) hxn (by decide) ?_
    refine gk_goto (off := (-33)) (tgt := 13) h (by decide +kernel) (by decide) ?_
    exact gk_jmp 1 rfl
  | 3 =>
    show GK X Q37 49 (o_aload 0 (o_iload 1 (o_putI 2 14 (o_iload 1 (o_aload 0 (o_getI 2 12 (o_ilt (o_aload 0 (o_getR 2 11 (o_iload 1 (o_iald 2 (o_sI orc 41 1 (o_if0 (o_aload 0 (o_getR 2 11 (o_iload 1 (o_iald 2 (o_sI orc 42 1 (o_if0 (o_aload 0 (o_iload 1 (o_iconst 1 (o_i2 (fun x y => x + y) (o_putI 2 15 (o_aload 0 (o_aload 0 (o_getR 2 11 (o_iload 1 (o_iald 2 (o_sI orc 43 1 (o_if0 (o_iconst 258 (o_jmp 4)) (o_aload 0 (o_getR 2 11 (o_iload 1 (o_iald 2 (o_jmp 4))))))))))))))))) (o_aload 0 (o_vV orc 40 1 2 (o_vret))))))))) (o_aload 0 (o_vV orc 38 1 2 (o_vret))))))))) (o_aload 0 (o_iconst 259 (o_putI 2 16 (o_vret)))))))))))
    refine gk_aload_n (j := 0) h (by decide +kernel) rfl ?_
    refine gk_iload_n (j := 1) h (by decide +kernel) rfl ?_
    refine gk_putI (i := 58) h ck_2 (by decide) rfl (Or.inl rfl) (by decide +kernel) kw_145 ?_
    refine gk_iload_n (j := 1) h (by decide +kernel) rfl ?_
    refine gk_aload_n (j := 0) h (by decide +kernel) rfl ?_
    refine gk_getI (i := 52) h ck_2 (by decide) (fun _ _ _ => rfl) (by decide +kernel) kw_143 ?_
    refine gk_icmplt (off := 13) (tgt := 72) h (by decide +kernel) (by decide) ?_ ?_
    · refine gk_aload_n (j := 0) h (by decide +kernel) rfl ?_
      refine gk_getR (i := 48) h ck_2 (by decide) (fun _ _ _ => rfl) (by decide +kernel) kw_142 ?_
      refine gk_iload_n (j := 1) h (by decide +kernel) rfl ?_
      refine gk_ald2 h (by decide +kernel) ?_
      refine gk_sI (ca_s (idx := 137) h ho hm_41 (rd_le hrd (by decide)) (by decide +kernel) kw_497 kw_498 kw_92 kw_499 (by decide +kernel)) ?_
      refine gk_ifeq (off := 10) (tgt := 91) h (by decide +kernel) (by decide) ?_ ?_
      · refine gk_aload_n (j := 0) h (by decide +kernel) rfl ?_
        refine gk_getR (i := 48) h ck_2 (by decide) (fun _ _ _ => rfl) (by decide +kernel) kw_142 ?_
        refine gk_iload_n (j := 1) h (by decide +kernel) rfl ?_
        refine gk_ald2 h (by decide +kernel) ?_
        refine gk_sI (ca_s (idx := 144) h ho hm_42 (rd_le hrd (by decide)) (by decide +kernel) kw_549 kw_550 kw_92 kw_551 (by decide +kernel)) ?_
        refine gk_ifeq (off := 10) (tgt := 110) h (by decide +kernel) (by decide) ?_ ?_
        · refine gk_aload_n (j := 0) h (by decide +kernel) rfl ?_
          refine gk_iload_n (j := 1) h (by decide +kernel) rfl ?_
          refine gk_iconst (n := 1) h (by decide +kernel) (by decide) ?_
          refine gk_iadd h (by decide +kernel) ?_
          refine gk_putI (i := 61) h ck_2 (by decide) rfl (Or.inl rfl) (by decide +kernel) kw_146 ?_
          refine gk_aload_n (j := 0) h (by decide +kernel) rfl ?_
          refine gk_aload_n (j := 0) h (by decide +kernel) rfl ?_
          refine gk_getR (i := 48) h ck_2 (by decide) (fun _ _ _ => rfl) (by decide +kernel) kw_142 ?_
          refine gk_iload_n (j := 1) h (by decide +kernel) rfl ?_
          refine gk_ald2 h (by decide +kernel) ?_
          refine gk_sI (ca_s (idx := 150) h ho hm_43 (rd_le hrd (by decide)) (by decide +kernel) kw_556 kw_557 kw_92 kw_558 (by decide +kernel)) ?_
          refine gk_ifeq (off := 12) (tgt := 139) h (by decide +kernel) (by decide) ?_ ?_
          · refine gk_sipush (n := 258) h (by decide +kernel) (by decide) ?_
            exact gk_jmp 4 rfl
          · refine gk_aload_n (j := 0) h (by decide +kernel) rfl ?_
            refine gk_getR (i := 48) h ck_2 (by decide) (fun _ _ _ => rfl) (by decide +kernel) kw_142 ?_
            refine gk_iload_n (j := 1) h (by decide +kernel) rfl ?_
            refine gk_ald2 h (by decide +kernel) ?_
            refine gk_goto (off := 6) (tgt := 142) h (by decide +kernel) (by decide) ?_
            exact gk_jmp 4 rfl
        · refine gk_aload_n (j := 0) h (by decide +kernel) rfl ?_
          refine gk_vV (ca_v (idx := 147) h ho hm_40 (rd_le hrd (by decide)) ck_2 (by decide +kernel) kw_552 kw_554 kw_8 kw_92 kw_555 rfl (by decide +kernel) (by decide)) ?_
          refine gk_goto (off := 38) (tgt := 145) h (by decide +kernel) (by decide) ?_
          exact gk_vret h hR (by decide +kernel)
      · refine gk_aload_n (j := 0) h (by decide +kernel) rfl ?_
        refine gk_vV (ca_v (idx := 141) h ho hm_38 (rd_le hrd (by decide)) ck_2 (by decide +kernel) kw_500 kw_502 kw_6 kw_92 kw_503 rfl (by decide +kernel) (by decide)) ?_
        refine gk_goto (off := 57) (tgt := 145) h (by decide +kernel) (by decide) ?_
        exact gk_vret h hR (by decide +kernel)
    · refine gk_aload_n (j := 0) h (by decide +kernel) rfl ?_
      refine gk_sipush (n := 259) h (by decide +kernel) (by decide) ?_
      refine gk_putI (i := 64) h ck_2 (by decide) rfl (Or.inl rfl) (by decide +kernel) kw_147 ?_
      refine gk_goto (off := 76) (tgt := 145) h (by decide +kernel) (by decide) ?_
      exact gk_vret h hR (by decide +kernel)
  | 4 =>
    show GK X Q37 142 (o_putI 2 16 (o_vret))
    refine gk_putI (i := 64) h ck_2 (by decide) rfl (Or.inl rfl) (by decide +kernel) kw_147 ?_
    exact gk_vret h hR (by decide +kernel)
  | _ + 5 => exact fun _ _ _ hr => hr.elim
set_option maxRecDepth 20000 in
set_option maxHeartbeats 4000000 in
theorem s_38 : MS mtab yX3_stepWord cX3_stepWord 3 none Q38 P38 := by
  intro X orc d h hR hnm hxn ho hrd b
  match b with
  | 0 =>
    show GK X Q38 0 (o_aload 0 (o_getI 2 14 (o_istore 1 (o_jmp 1))))
    refine gk_aload_n (j := 0) h (by decide +kernel) rfl ?_
    refine gk_getI (i := 58) h ck_2 (by decide) (fun _ _ _ => rfl) (by decide +kernel) kw_145 ?_
    refine gk_istore_n (j := 1) h (by decide +kernel) rfl hxn (by decide) ?_
    exact gk_jmp 1 rfl
  | 1 =>
    show GK X Q38 5 (o_iload 1 (o_aload 0 (o_getI 2 12 (o_ilt (o_aload 0 (o_getR 2 11 (o_iload 1 (o_iald 2 (o_sI orc 41 1 (o_if0 (o_jmp 2) (o_iinc 1 1 (o_jmp 1)))))))) (o_jmp 2)))))
    refine gk_iload_n (j := 1) h (by decide +kernel) rfl ?_
    refine gk_aload_n (j := 0) h (by decide +kernel) rfl ?_
    refine gk_getI (i := 52) h ck_2 (by decide) (fun _ _ _ => rfl) (by decide +kernel) kw_143 ?_
    refine gk_icmpge (off := 21) (tgt := 31) h (by decide +kernel) (by decide) ?_ ?_
    · exact gk_jmp 2 rfl
    · refine gk_aload_n (j := 0) h (by decide +kernel) rfl ?_
      refine gk_getR (i := 48) h ck_2 (by decide) (fun _ _ _ => rfl) (by decide +kernel) kw_142 ?_
      refine gk_iload_n (j := 1) h (by decide +kernel) rfl ?_
      refine gk_ald2 h (by decide +kernel) ?_
      refine gk_sI (ca_s (idx := 137) h ho hm_41 (rd_le hrd (by decide)) (by decide +kernel) kw_497 kw_498 kw_92 kw_499 (by decide +kernel)) ?_
      refine gk_ifeq (off := 9) (tgt := 31) h (by decide +kernel) (by decide) ?_ ?_
      · exact gk_jmp 2 rfl
      · refine gk_iinc (z := 1) h (by decide +kernel) (by decide) hxn (by decide) ?_
        refine gk_goto (off := (-23)) (tgt := 5) h (by decide +kernel) (by decide) ?_
        exact gk_jmp 1 rfl
  | 2 =>
    show GK X Q38 31 (o_aload 0 (o_iload 1 (o_putI 2 15 (o_iload 1 (o_aload 0 (o_getI 2 14 (o_i2 (fun x y => x - y) (o_iconst 8 (o_igt (o_aload 0 (o_iconst 258 (o_putI 2 16 (o_vret)))) (o_aload 0 (o_lconst 0 (o_putL 2 18 (o_aload 0 (o_getI 2 14 (o_istore 2 (o_jmp 3))))))))))))))))
    refine gk_aload_n (j := 0) h (by decide +kernel) rfl ?_
    refine gk_iload_n (j := 1) h (by decide +kernel) rfl ?_
    refine gk_putI (i := 61) h ck_2 (by decide) rfl (Or.inl rfl) (by decide +kernel) kw_146 ?_
    refine gk_iload_n (j := 1) h (by decide +kernel) rfl ?_
    refine gk_aload_n (j := 0) h (by decide +kernel) rfl ?_
    refine gk_getI (i := 58) h ck_2 (by decide) (fun _ _ _ => rfl) (by decide +kernel) kw_145 ?_
    refine gk_isub h (by decide +kernel) ?_
    refine gk_bipush (n := 8) h (by decide +kernel) (by decide) ?_
    refine gk_icmple (off := 11) (tgt := 55) h (by decide +kernel) (by decide) ?_ ?_
    · refine gk_aload_n (j := 0) h (by decide +kernel) rfl ?_
      refine gk_lconst (n := 0) h (by decide +kernel) rfl ?_
      refine gk_putL (i := 70) h ck_2 (by decide) rfl (Or.inl rfl) (by decide +kernel) kw_149 ?_
      refine gk_aload_n (j := 0) h (by decide +kernel) rfl ?_
      refine gk_getI (i := 58) h ck_2 (by decide) (fun _ _ _ => rfl) (by decide +kernel) kw_145 ?_
      refine gk_istore_n (j := 2) h (by decide +kernel) rfl hxn (by decide) ?_
      exact gk_jmp 3 rfl
    · refine gk_aload_n (j := 0) h (by decide +kernel) rfl ?_
      refine gk_sipush (n := 258) h (by decide +kernel) (by decide) ?_
      refine gk_putI (i := 64) h ck_2 (by decide) rfl (Or.inl rfl) (by decide +kernel) kw_147 ?_
      exact gk_vret h hR (by decide +kernel)
  | 3 =>
    show GK X Q38 65 (o_iload 2 (o_iload 1 (o_ilt (o_aload 0 (o_aload 0 (o_getL 2 18 (o_iconst 8 (o_lsh (fun x y => x <<< (y.toInt64 &&& 63)) (o_aload 0 (o_getR 2 11 (o_iload 2 (o_iald 2 (o_i2l (o_l2 (fun x y => x ||| y) (o_putL 2 18 (o_iinc 2 1 (o_jmp 3)))))))))))))) (o_aload 0 (o_aload 0 (o_iload 1 (o_aload 0 (o_getI 2 14 (o_i2 (fun x y => x - y) (o_vI orc 39 2 2 (o_putI 2 16 (o_vret))))))))))))
    refine gk_iload_n (j := 2) h (by decide +kernel) rfl ?_
    refine gk_iload_n (j := 1) h (by decide +kernel) rfl ?_
    refine gk_icmpge (off := 28) (tgt := 95) h (by decide +kernel) (by decide) ?_ ?_
    · refine gk_aload_n (j := 0) h (by decide +kernel) rfl ?_
      refine gk_aload_n (j := 0) h (by decide +kernel) rfl ?_
      refine gk_iload_n (j := 1) h (by decide +kernel) rfl ?_
      refine gk_aload_n (j := 0) h (by decide +kernel) rfl ?_
      refine gk_getI (i := 58) h ck_2 (by decide) (fun _ _ _ => rfl) (by decide +kernel) kw_145 ?_
      refine gk_isub h (by decide +kernel) ?_
      refine gk_vI (ca_v (idx := 153) h ho hm_39 (rd_le hrd (by decide)) ck_2 (by decide +kernel) kw_504 kw_506 kw_7 kw_92 kw_507 rfl (by decide +kernel) (by decide)) ?_
      refine gk_putI (i := 64) h ck_2 (by decide) rfl (Or.inl rfl) (by decide +kernel) kw_147 ?_
      exact gk_vret h hR (by decide +kernel)
    · refine gk_aload_n (j := 0) h (by decide +kernel) rfl ?_
      refine gk_aload_n (j := 0) h (by decide +kernel) rfl ?_
      refine gk_getL (i := 70) h ck_2 (by decide) (fun _ _ _ => rfl) (by decide +kernel) kw_149 ?_
      refine gk_bipush (n := 8) h (by decide +kernel) (by decide) ?_
      refine gk_lshl h (by decide +kernel) ?_
      refine gk_aload_n (j := 0) h (by decide +kernel) rfl ?_
      refine gk_getR (i := 48) h ck_2 (by decide) (fun _ _ _ => rfl) (by decide +kernel) kw_142 ?_
      refine gk_iload_n (j := 2) h (by decide +kernel) rfl ?_
      refine gk_ald2 h (by decide +kernel) ?_
      refine gk_i2l h (by decide +kernel) ?_
      refine gk_lor h (by decide +kernel) ?_
      refine gk_putL (i := 70) h ck_2 (by decide) rfl (Or.inl rfl) (by decide +kernel) kw_149 ?_
      refine gk_iinc (z := 1) h (by decide +kernel) (by decide) hxn (by decide) ?_
      refine gk_goto (off := (-27)) (tgt := 65) h (by decide +kernel) (by decide) ?_
      exact gk_jmp 3 rfl
  | _ + 4 => exact fun _ _ _ hr => hr.elim
set_option maxRecDepth 20000 in
set_option maxHeartbeats 4000000 in
theorem s_39 : MS mtab yX3_knownWord cX3_knownWord 6 (some .int) Q39 P39 := by
  intro X orc d h hR hnm hxn ho hrd b
  match b with
  | 0 =>
    show GK X Q39 0 (o_iconst 0 (o_istore 2 (o_jmp 1)))
    refine gk_iconst (n := 0) h (by decide +kernel) (by decide) ?_
    refine gk_istore_n (j := 2) h (by decide +kernel) rfl hxn (by decide) ?_
    exact gk_jmp 1 rfl
  | 1 =>
    show GK X Q39 2 (o_iload 2 (o_iconst 17 (o_ilt (o_iload 1 (o_iconst 6 (o_igt (o_iconst 256 (o_iret)) (o_iload 2 (o_iconst 6 (o_i2 (fun x y => x * y) (o_istore 3 (o_iconst 0 (o_istore 4 (o_jmp 2)))))))))) (o_iconst 256 (o_iret)))))
    refine gk_iload_n (j := 2) h (by decide +kernel) rfl ?_
    refine gk_bipush (n := 17) h (by decide +kernel) (by decide) ?_
    refine gk_icmpge (off := 104) (tgt := 109) h (by decide +kernel) (by decide) ?_ ?_
    · refine gk_sipush (n := 256) h (by decide +kernel) (by decide) ?_
      exact gk_iret h hR (by decide +kernel)
    · refine gk_iload_n (j := 1) h (by decide +kernel) rfl ?_
      refine gk_bipush (n := 6) h (by decide +kernel) (by decide) ?_
      refine gk_icmpgt (off := 98) (tgt := 109) h (by decide +kernel) (by decide) ?_ ?_
      · refine gk_sipush (n := 256) h (by decide +kernel) (by decide) ?_
        exact gk_iret h hR (by decide +kernel)
      · refine gk_iload_n (j := 2) h (by decide +kernel) rfl ?_
        refine gk_bipush (n := 6) h (by decide +kernel) (by decide) ?_
        refine gk_imul h (by decide +kernel) ?_
        refine gk_istore_n (j := 3) h (by decide +kernel) rfl hxn (by decide) ?_
        refine gk_iconst (n := 0) h (by decide +kernel) (by decide) ?_
        refine gk_istore h (by decide +kernel) hxn (by decide) ?_
        exact gk_jmp 2 rfl
  | 2 =>
    show GK X Q39 22 (o_iload 4 (o_iload 1 (o_ilt (o_str 0 (o_iload 3 (o_iload 4 (o_i2 (fun x y => x + y) (o_wI orc 189 2 (o_aload 0 (o_getR 2 11 (o_aload 0 (o_getI 2 14 (o_iload 4 (o_i2 (fun x y => x + y) (o_iald 2 (o_ieq (o_iinc 4 1 (o_jmp 2)) (o_jmp 3)))))))))))))) (o_jmp 3))))
    refine gk_iload h (by decide +kernel) ?_
    refine gk_iload_n (j := 1) h (by decide +kernel) rfl ?_
    refine gk_icmpge (off := 33) (tgt := 58) h (by decide +kernel) (by decide) ?_ ?_
    · exact gk_jmp 3 rfl
    · refine gk_ldcS h rfl (by decide +kernel) ?_
      refine gk_iload_n (j := 3) h (by decide +kernel) rfl ?_
      refine gk_iload h (by decide +kernel) ?_
      refine gk_iadd h (by decide +kernel) ?_
      refine gk_wI (ca_w (idx := 159) h ho hm_189 (rd_le hrd (by decide)) (by decide +kernel) kw_509 kw_510 kw_511 kw_102 kw_512 rfl (by decide +kernel) (by decide)) ?_
      refine gk_aload_n (j := 0) h (by decide +kernel) rfl ?_
      refine gk_getR (i := 48) h ck_2 (by decide) (fun _ _ _ => rfl) (by decide +kernel) kw_142 ?_
      refine gk_aload_n (j := 0) h (by decide +kernel) rfl ?_
      refine gk_getI (i := 58) h ck_2 (by decide) (fun _ _ _ => rfl) (by decide +kernel) kw_145 ?_
      refine gk_iload h (by decide +kernel) ?_
      refine gk_iadd h (by decide +kernel) ?_
      refine gk_ald2 h (by decide +kernel) ?_
      refine gk_icmpne (off := 9) (tgt := 58) h (by decide +kernel) (by decide) ?_ ?_
      · exact gk_jmp 3 rfl
      · refine gk_iinc (z := 1) h (by decide +kernel) (by decide) hxn (by decide) ?_
        refine gk_goto (off := (-33)) (tgt := 22) h (by decide +kernel) (by decide) ?_
        exact gk_jmp 2 rfl
  | 3 =>
    show GK X Q39 58 (o_iload 4 (o_iconst 6 (o_ieq (o_jmp 4) (o_str 0 (o_iload 3 (o_iload 4 (o_i2 (fun x y => x + y) (o_wI orc 189 2 (o_iconst 32 (o_ieq (o_jmp 4) (o_iconst 0 (o_jmp 5))))))))))))
    refine gk_iload h (by decide +kernel) ?_
    refine gk_bipush (n := 6) h (by decide +kernel) (by decide) ?_
    refine gk_icmpeq (off := 17) (tgt := 79) h (by decide +kernel) (by decide) ?_ ?_
    · exact gk_jmp 4 rfl
    · refine gk_ldcS h rfl (by decide +kernel) ?_
      refine gk_iload_n (j := 3) h (by decide +kernel) rfl ?_
      refine gk_iload h (by decide +kernel) ?_
      refine gk_iadd h (by decide +kernel) ?_
      refine gk_wI (ca_w (idx := 159) h ho hm_189 (rd_le hrd (by decide)) (by decide +kernel) kw_509 kw_510 kw_511 kw_102 kw_512 rfl (by decide +kernel) (by decide)) ?_
      refine gk_bipush (n := 32) h (by decide +kernel) (by decide) ?_
      refine gk_icmpne (off := 7) (tgt := 83) h (by decide +kernel) (by decide) ?_ ?_
      · refine gk_iconst (n := 0) h (by decide +kernel) (by decide) ?_
        exact gk_jmp 5 rfl
      · exact gk_jmp 4 rfl
  | 4 =>
    show GK X Q39 79 (o_iconst 1 (o_jmp 5))
    refine gk_iconst (n := 1) h (by decide +kernel) (by decide) ?_
    refine gk_goto (off := 4) (tgt := 84) h (by decide +kernel) (by decide) ?_
    exact gk_jmp 5 rfl
  | 5 =>
    show GK X Q39 84 (o_istore 5 (o_iload 4 (o_iload 1 (o_ieq (o_iload 5 (o_if0 (o_jmp 6) (o_iconst 128 (o_iload 2 (o_i2 (fun x y => x + y) (o_iret)))))) (o_jmp 6)))))
    refine gk_istore h (by decide +kernel) hxn (by decide) ?_
    refine gk_iload h (by decide +kernel) ?_
    refine gk_iload_n (j := 1) h (by decide +kernel) rfl ?_
    refine gk_icmpne (off := 14) (tgt := 103) h (by decide +kernel) (by decide) ?_ ?_
    · exact gk_jmp 6 rfl
    · refine gk_iload h (by decide +kernel) ?_
      refine gk_ifeq (off := 9) (tgt := 103) h (by decide +kernel) (by decide) ?_ ?_
      · exact gk_jmp 6 rfl
      · refine gk_sipush (n := 128) h (by decide +kernel) (by decide) ?_
        refine gk_iload_n (j := 2) h (by decide +kernel) rfl ?_
        refine gk_iadd h (by decide +kernel) ?_
        exact gk_iret h hR (by decide +kernel)
  | 6 =>
    show GK X Q39 103 (o_iinc 2 1 (o_jmp 1))
    refine gk_iinc (z := 1) h (by decide +kernel) (by decide) hxn (by decide) ?_
    refine gk_goto (off := (-104)) (tgt := 2) h (by decide +kernel) (by decide) ?_
    exact gk_jmp 1 rfl
  | _ + 7 => exact fun _ _ _ hr => hr.elim
set_option maxRecDepth 20000 in
set_option maxHeartbeats 4000000 in
theorem s_40 : MS mtab yX3_stepNumber cX3_stepNumber 2 none Q40 P40 := by
  intro X orc d h hR hnm hxn ho hrd b
  match b with
  | 0 =>
    show GK X Q40 0 (o_aload 0 (o_getI 2 14 (o_istore 1 (o_aload 0 (o_iconst 0 (o_putI 2 17 (o_jmp 1)))))))
    refine gk_aload_n (j := 0) h (by decide +kernel) rfl ?_
    refine gk_getI (i := 58) h ck_2 (by decide) (fun _ _ _ => rfl) (by decide +kernel) kw_145 ?_
    refine gk_istore_n (j := 1) h (by decide +kernel) rfl hxn (by decide) ?_
    refine gk_aload_n (j := 0) h (by decide +kernel) rfl ?_
    refine gk_iconst (n := 0) h (by decide +kernel) (by decide) ?_
    refine gk_putI (i := 67) h ck_2 (by decide) rfl (Or.inl rfl) (by decide +kernel) kw_148 ?_
    exact gk_jmp 1 rfl
  | 1 =>
    show GK X Q40 10 (o_iload 1 (o_aload 0 (o_getI 2 12 (o_ilt (o_aload 0 (o_getR 2 11 (o_iload 1 (o_iald 2 (o_sI orc 42 1 (o_if0 (o_jmp 2) (o_aload 0 (o_aload 0 (o_getI 2 17 (o_iconst 10 (o_i2 (fun x y => x * y) (o_aload 0 (o_getR 2 11 (o_iload 1 (o_iald 2 (o_i2 (fun x y => x + y) (o_iconst 48 (o_i2 (fun x y => x - y) (o_putI 2 17 (o_iinc 1 1 (o_jmp 1))))))))))))))))))))) (o_jmp 2)))))
    refine gk_iload_n (j := 1) h (by decide +kernel) rfl ?_
    refine gk_aload_n (j := 0) h (by decide +kernel) rfl ?_
    refine gk_getI (i := 52) h ck_2 (by decide) (fun _ _ _ => rfl) (by decide +kernel) kw_143 ?_
    refine gk_icmpge (off := 42) (tgt := 57) h (by decide +kernel) (by decide) ?_ ?_
    · exact gk_jmp 2 rfl
    · refine gk_aload_n (j := 0) h (by decide +kernel) rfl ?_
      refine gk_getR (i := 48) h ck_2 (by decide) (fun _ _ _ => rfl) (by decide +kernel) kw_142 ?_
      refine gk_iload_n (j := 1) h (by decide +kernel) rfl ?_
      refine gk_ald2 h (by decide +kernel) ?_
      refine gk_sI (ca_s (idx := 144) h ho hm_42 (rd_le hrd (by decide)) (by decide +kernel) kw_549 kw_550 kw_92 kw_551 (by decide +kernel)) ?_
      refine gk_ifeq (off := 30) (tgt := 57) h (by decide +kernel) (by decide) ?_ ?_
      · exact gk_jmp 2 rfl
      · refine gk_aload_n (j := 0) h (by decide +kernel) rfl ?_
        refine gk_aload_n (j := 0) h (by decide +kernel) rfl ?_
        refine gk_getI (i := 67) h ck_2 (by decide) (fun _ _ _ => rfl) (by decide +kernel) kw_148 ?_
        refine gk_bipush (n := 10) h (by decide +kernel) (by decide) ?_
        refine gk_imul h (by decide +kernel) ?_
        refine gk_aload_n (j := 0) h (by decide +kernel) rfl ?_
        refine gk_getR (i := 48) h ck_2 (by decide) (fun _ _ _ => rfl) (by decide +kernel) kw_142 ?_
        refine gk_iload_n (j := 1) h (by decide +kernel) rfl ?_
        refine gk_ald2 h (by decide +kernel) ?_
        refine gk_iadd h (by decide +kernel) ?_
        refine gk_bipush (n := 48) h (by decide +kernel) (by decide) ?_
        refine gk_isub h (by decide +kernel) ?_
        refine gk_putI (i := 67) h ck_2 (by decide) rfl (Or.inl rfl) (by decide +kernel) kw_148 ?_
        refine gk_iinc (z := 1) h (by decide +kernel) (by decide) hxn (by decide) ?_
        refine gk_goto (off := (-44)) (tgt := 10) h (by decide +kernel) (by decide) ?_
        exact gk_jmp 1 rfl
  | 2 =>
    show GK X Q40 57 (o_aload 0 (o_iload 1 (o_putI 2 15 (o_aload 0 (o_iload 1 (o_aload 0 (o_getI 2 14 (o_i2 (fun x y => x - y) (o_iconst 4 (o_igt (o_iconst 258 (o_jmp 3)) (o_iconst 257 (o_jmp 3))))))))))))
    refine gk_aload_n (j := 0) h (by decide +kernel) rfl ?_
    refine gk_iload_n (j := 1) h (by decide +kernel) rfl ?_
    refine gk_putI (i := 61) h ck_2 (by decide) rfl (Or.inl rfl) (by decide +kernel) kw_146 ?_
    refine gk_aload_n (j := 0) h (by decide +kernel) rfl ?_
    refine gk_iload_n (j := 1) h (by decide +kernel) rfl ?_
    refine gk_aload_n (j := 0) h (by decide +kernel) rfl ?_
    refine gk_getI (i := 58) h ck_2 (by decide) (fun _ _ _ => rfl) (by decide +kernel) kw_145 ?_
    refine gk_isub h (by decide +kernel) ?_
    refine gk_iconst (n := 4) h (by decide +kernel) (by decide) ?_
    refine gk_icmple (off := 9) (tgt := 79) h (by decide +kernel) (by decide) ?_ ?_
    · refine gk_sipush (n := 257) h (by decide +kernel) (by decide) ?_
      exact gk_jmp 3 rfl
    · refine gk_sipush (n := 258) h (by decide +kernel) (by decide) ?_
      refine gk_goto (off := 6) (tgt := 82) h (by decide +kernel) (by decide) ?_
      exact gk_jmp 3 rfl
  | 3 =>
    show GK X Q40 82 (o_putI 2 16 (o_vret))
    refine gk_putI (i := 64) h ck_2 (by decide) rfl (Or.inl rfl) (by decide +kernel) kw_147 ?_
    exact gk_vret h hR (by decide +kernel)
  | _ + 4 => exact fun _ _ _ hr => hr.elim
set_option maxRecDepth 20000 in
set_option maxHeartbeats 4000000 in
theorem s_41 : MS mtab yX3_isLetter cX3_isLetter 1 (some .boolean) Q41 P41 := by
  intro X orc d h hR hnm hxn ho hrd b
  match b with
  | 0 =>
    show GK X Q41 0 (o_iload 0 (o_iconst 97 (o_ilt (o_iconst 0 (o_zret)) (o_iload 0 (o_iconst 122 (o_igt (o_iconst 0 (o_zret)) (o_iconst 1 (o_zret))))))))
    refine gk_iload_n (j := 0) h (by decide +kernel) rfl ?_
    refine gk_bipush (n := 97) h (by decide +kernel) (by decide) ?_
    refine gk_icmplt (off := 13) (tgt := 16) h (by decide +kernel) (by decide) ?_ ?_
    · refine gk_iconst (n := 0) h (by decide +kernel) (by decide) ?_
      exact gk_zret h hR (by decide +kernel)
    · refine gk_iload_n (j := 0) h (by decide +kernel) rfl ?_
      refine gk_bipush (n := 122) h (by decide +kernel) (by decide) ?_
      refine gk_icmpgt (off := 7) (tgt := 16) h (by decide +kernel) (by decide) ?_ ?_
      · refine gk_iconst (n := 0) h (by decide +kernel) (by decide) ?_
        exact gk_zret h hR (by decide +kernel)
      · refine gk_iconst (n := 1) h (by decide +kernel) (by decide) ?_
        refine gk_goto (off := 4) (tgt := 17) h (by decide +kernel) (by decide) ?_
        exact gk_zret h hR (by decide +kernel)
  | _ + 1 => exact fun _ _ _ hr => hr.elim
set_option maxRecDepth 20000 in
set_option maxHeartbeats 4000000 in
theorem s_42 : MS mtab yX3_isDigit cX3_isDigit 1 (some .boolean) Q42 P42 := by
  intro X orc d h hR hnm hxn ho hrd b
  match b with
  | 0 =>
    show GK X Q42 0 (o_iload 0 (o_iconst 48 (o_ilt (o_iconst 0 (o_zret)) (o_iload 0 (o_iconst 57 (o_igt (o_iconst 0 (o_zret)) (o_iconst 1 (o_zret))))))))
    refine gk_iload_n (j := 0) h (by decide +kernel) rfl ?_
    refine gk_bipush (n := 48) h (by decide +kernel) (by decide) ?_
    refine gk_icmplt (off := 13) (tgt := 16) h (by decide +kernel) (by decide) ?_ ?_
    · refine gk_iconst (n := 0) h (by decide +kernel) (by decide) ?_
      exact gk_zret h hR (by decide +kernel)
    · refine gk_iload_n (j := 0) h (by decide +kernel) rfl ?_
      refine gk_bipush (n := 57) h (by decide +kernel) (by decide) ?_
      refine gk_icmpgt (off := 7) (tgt := 16) h (by decide +kernel) (by decide) ?_ ?_
      · refine gk_iconst (n := 0) h (by decide +kernel) (by decide) ?_
        exact gk_zret h hR (by decide +kernel)
      · refine gk_iconst (n := 1) h (by decide +kernel) (by decide) ?_
        refine gk_goto (off := 4) (tgt := 17) h (by decide +kernel) (by decide) ?_
        exact gk_zret h hR (by decide +kernel)
  | _ + 1 => exact fun _ _ _ hr => hr.elim
set_option maxRecDepth 20000 in
set_option maxHeartbeats 4000000 in
theorem s_43 : MS mtab yX3_isSign cX3_isSign 1 (some .boolean) Q43 P43 := by
  intro X orc d h hR hnm hxn ho hrd b
  match b with
  | 0 =>
    show GK X Q43 0 (o_iload 0 (o_iconst 40 (o_ieq (o_jmp 1) (o_iload 0 (o_iconst 41 (o_ieq (o_jmp 1) (o_iload 0 (o_iconst 60 (o_ieq (o_jmp 1) (o_iload 0 (o_iconst 61 (o_ieq (o_jmp 1) (o_iload 0 (o_iconst 43 (o_ieq (o_jmp 1) (o_iload 0 (o_iconst 45 (o_ieq (o_jmp 1) (o_iload 0 (o_iconst 42 (o_ieq (o_jmp 1) (o_iload 0 (o_iconst 59 (o_ieq (o_jmp 1) (o_iconst 0 (o_zret))))))))))))))))))))))))))
    refine gk_iload_n (j := 0) h (by decide +kernel) rfl ?_
    refine gk_bipush (n := 40) h (by decide +kernel) (by decide) ?_
    refine gk_icmpeq (off := 45) (tgt := 48) h (by decide +kernel) (by decide) ?_ ?_
    · exact gk_jmp 1 rfl
    · refine gk_iload_n (j := 0) h (by decide +kernel) rfl ?_
      refine gk_bipush (n := 41) h (by decide +kernel) (by decide) ?_
      refine gk_icmpeq (off := 39) (tgt := 48) h (by decide +kernel) (by decide) ?_ ?_
      · exact gk_jmp 1 rfl
      · refine gk_iload_n (j := 0) h (by decide +kernel) rfl ?_
        refine gk_bipush (n := 60) h (by decide +kernel) (by decide) ?_
        refine gk_icmpeq (off := 33) (tgt := 48) h (by decide +kernel) (by decide) ?_ ?_
        · exact gk_jmp 1 rfl
        · refine gk_iload_n (j := 0) h (by decide +kernel) rfl ?_
          refine gk_bipush (n := 61) h (by decide +kernel) (by decide) ?_
          refine gk_icmpeq (off := 27) (tgt := 48) h (by decide +kernel) (by decide) ?_ ?_
          · exact gk_jmp 1 rfl
          · refine gk_iload_n (j := 0) h (by decide +kernel) rfl ?_
            refine gk_bipush (n := 43) h (by decide +kernel) (by decide) ?_
            refine gk_icmpeq (off := 21) (tgt := 48) h (by decide +kernel) (by decide) ?_ ?_
            · exact gk_jmp 1 rfl
            · refine gk_iload_n (j := 0) h (by decide +kernel) rfl ?_
              refine gk_bipush (n := 45) h (by decide +kernel) (by decide) ?_
              refine gk_icmpeq (off := 15) (tgt := 48) h (by decide +kernel) (by decide) ?_ ?_
              · exact gk_jmp 1 rfl
              · refine gk_iload_n (j := 0) h (by decide +kernel) rfl ?_
                refine gk_bipush (n := 42) h (by decide +kernel) (by decide) ?_
                refine gk_icmpeq (off := 9) (tgt := 48) h (by decide +kernel) (by decide) ?_ ?_
                · exact gk_jmp 1 rfl
                · refine gk_iload_n (j := 0) h (by decide +kernel) rfl ?_
                  refine gk_bipush (n := 59) h (by decide +kernel) (by decide) ?_
                  refine gk_icmpne (off := 7) (tgt := 52) h (by decide +kernel) (by decide) ?_ ?_
                  · refine gk_iconst (n := 0) h (by decide +kernel) (by decide) ?_
                    exact gk_zret h hR (by decide +kernel)
                  · exact gk_jmp 1 rfl
  | 1 =>
    show GK X Q43 48 (o_iconst 1 (o_zret))
    refine gk_iconst (n := 1) h (by decide +kernel) (by decide) ?_
    refine gk_goto (off := 4) (tgt := 53) h (by decide +kernel) (by decide) ?_
    exact gk_zret h hR (by decide +kernel)
  | _ + 2 => exact fun _ _ _ hr => hr.elim
set_option maxRecDepth 20000 in
set_option maxHeartbeats 4000000 in
theorem s_44 : MS mtab yX4_init cX4_init 1 none Q44 P44 := by
  intro X orc d h hR hnm hxn ho hrd b
  match b with
  | 0 =>
    show GK X Q44 0 (o_aload 0 (o_obj (o_aload 0 (o_iconst 32 (o_newa 0 (o_putR 3 0 (o_aload 0 (o_iconst 0 (o_putI 3 1 (o_vret))))))))))
    refine gk_aload_n (j := 0) h (by decide +kernel) rfl ?_
    refine gk_obj (i := 1) h (by decide +kernel) kw_203 kw_117 kw_118 ?_
    refine gk_aload_n (j := 0) h (by decide +kernel) rfl ?_
    refine gk_bipush (n := 32) h (by decide +kernel) (by decide) ?_
    refine gk_newa (aty := .int) h (by decide) (by decide +kernel) rfl kw_190 ?_
    refine gk_putR (i := 7) h ck_3 (by decide) (Or.inr ⟨_, rfl⟩) (Or.inr ⟨rfl, hnm, rfl⟩) (by decide +kernel) kw_204 ?_
    refine gk_aload_n (j := 0) h (by decide +kernel) rfl ?_
    refine gk_iconst (n := 0) h (by decide +kernel) (by decide) ?_
    refine gk_putI (i := 13) h ck_3 (by decide) rfl (Or.inl rfl) (by decide +kernel) kw_205 ?_
    exact gk_vret h hR (by decide +kernel)
  | _ + 1 => exact fun _ _ _ hr => hr.elim
theorem so_X4_worth_24 {α : Type} {a0 a1 a2 a3 a4 : α} (x : Int32) (hx : ∀ q ∈ ([(138, a0), (139, a1), (140, a2), (141, a3), (142, a4)] : List (Int32 × α)), x ≠ q.1) : x.toInt < 138 ∨ 142 < x.toInt := by
  simp only [List.mem_cons, List.not_mem_nil, or_false, forall_eq_or_imp, forall_eq] at hx
  simp only [ne_eq, ← Int32.toInt_inj] at hx
  simp at hx
  omega
set_option maxRecDepth 20000 in
set_option maxHeartbeats 4000000 in
theorem s_45 : MS mtab yX4_worth cX4_worth 9 (some .int) Q45 P45 := by
  intro X orc d h hR hnm hxn ho hrd b
  match b with
  | 0 =>
    show GK X Q45 0 (o_aload 0 (o_iconst 0 (o_putI 3 1 (o_iconst 0 (o_istore 6 (o_jmp 1))))))
    refine gk_aload_n (j := 0) h (by decide +kernel) rfl ?_
    refine gk_iconst (n := 0) h (by decide +kernel) (by decide) ?_
    refine gk_putI (i := 13) h ck_3 (by decide) rfl (Or.inl rfl) (by decide +kernel) kw_205 ?_
    refine gk_iconst (n := 0) h (by decide +kernel) (by decide) ?_
    refine gk_istore h (by decide +kernel) hxn (by decide) ?_
    exact gk_jmp 1 rfl
  | 1 =>
    show GK X Q45 8 (o_iload 6 (o_aload 1 (o_alen (o_ilt (o_aload 1 (o_iload 6 (o_iald 0 (o_istore 7 (o_iload 7 (o_i1 (fun x => -x) (o_sw [(138, o_aload 0 (o_iload 2 (o_vV orc 47 2 3 (o_jmp 3)))), (139, o_aload 0 (o_iload 3 (o_vV orc 47 2 3 (o_jmp 3)))), (140, o_aload 0 (o_iload 4 (o_vV orc 47 2 3 (o_jmp 3)))), (141, o_aload 0 (o_iload 5 (o_vV orc 47 2 3 (o_jmp 3)))), (142, o_aload 0 (o_aload 0 (o_vI orc 48 1 3 (o_if0 (o_iconst 1 (o_jmp 2)) (o_iconst 0 (o_jmp 2))))))] (o_iload 7 (o_ifn (o_aload 0 (o_vI orc 48 1 3 (o_istore 8 (o_aload 0 (o_iload 7 (o_i1 (fun x => -x) (o_aload 0 (o_vI orc 48 1 3 (o_iload 8 (o_sI orc 46 3 (o_vV orc 47 2 3 (o_jmp 3)))))))))))) (o_aload 0 (o_iload 7 (o_vV orc 47 2 3 (o_jmp 3))))))))))))) (o_aload 0 (o_vI orc 48 1 3 (o_iret)))))))
    refine gk_iload h (by decide +kernel) ?_
    refine gk_aload_n (j := 1) h (by decide +kernel) rfl ?_
    refine gk_alen h (by decide +kernel) ?_
    refine gk_icmpge (off := 143) (tgt := 155) h (by decide +kernel) (by decide) ?_ ?_
    · refine gk_aload_n (j := 0) h (by decide +kernel) rfl ?_
      refine gk_vI (ca_v (idx := 21) h ho hm_48 (rd_le hrd (by decide)) ck_3 (by decide +kernel) kw_662 kw_664 kw_27 kw_94 kw_665 rfl (by decide +kernel) (by decide)) ?_
      exact gk_iret h hR (by decide +kernel)
    · refine gk_aload_n (j := 1) h (by decide +kernel) rfl ?_
      refine gk_iload h (by decide +kernel) ?_
      refine gk_ald0 h (by decide +kernel) ?_
      refine gk_istore h (by decide +kernel) hxn (by decide) ?_
      refine gk_iload h (by decide +kernel) ?_
      refine gk_ineg h (by decide +kernel) ?_
      refine gk_tsw (dflt := 89) (lo := 138) (hi := 142) (offs := #[36, 44, 52, 61, 70]) (len := 36) (td := 113) h (by decide +kernel) (by decide) ?_ ?_ (by intro x hx; exact so_X4_worth_24 x hx)
      · refine gk_iload h (by decide +kernel) ?_
        refine gk_iflt (off := 12) (tgt := 127) h (by decide +kernel) (by decide) ?_ ?_
        · refine gk_aload_n (j := 0) h (by decide +kernel) rfl ?_
          refine gk_vI (ca_v (idx := 21) h ho hm_48 (rd_le hrd (by decide)) ck_3 (by decide +kernel) kw_662 kw_664 kw_27 kw_94 kw_665 rfl (by decide +kernel) (by decide)) ?_
          refine gk_istore h (by decide +kernel) hxn (by decide) ?_
          refine gk_aload_n (j := 0) h (by decide +kernel) rfl ?_
          refine gk_iload h (by decide +kernel) ?_
          refine gk_ineg h (by decide +kernel) ?_
          refine gk_aload_n (j := 0) h (by decide +kernel) rfl ?_
          refine gk_vI (ca_v (idx := 21) h ho hm_48 (rd_le hrd (by decide)) ck_3 (by decide +kernel) kw_662 kw_664 kw_27 kw_94 kw_665 rfl (by decide +kernel) (by decide)) ?_
          refine gk_iload h (by decide +kernel) ?_
          refine gk_sI (ca_s (idx := 25) h ho hm_46 (rd_le hrd (by decide)) (by decide +kernel) kw_666 kw_667 kw_94 kw_668 (by decide +kernel)) ?_
          refine gk_vV (ca_v (idx := 17) h ho hm_47 (rd_le hrd (by decide)) ck_3 (by decide +kernel) kw_658 kw_660 kw_26 kw_94 kw_661 rfl (by decide +kernel) (by decide)) ?_
          exact gk_jmp 3 rfl
        · refine gk_aload_n (j := 0) h (by decide +kernel) rfl ?_
          refine gk_iload h (by decide +kernel) ?_
          refine gk_vV (ca_v (idx := 17) h ho hm_47 (rd_le hrd (by decide)) ck_3 (by decide +kernel) kw_658 kw_660 kw_26 kw_94 kw_661 rfl (by decide +kernel) (by decide)) ?_
          refine gk_goto (off := 25) (tgt := 149) h (by decide +kernel) (by decide) ?_
          exact gk_jmp 3 rfl
      · intro q hq
        simp only [List.mem_cons, List.not_mem_nil, or_false] at hq
        rcases hq with rfl | rfl | rfl | rfl | rfl
        · refine ⟨60, 36, by dsimp only; decide, by dsimp only; decide, by dsimp only; decide, by decide, ?_⟩
          refine gk_aload_n (j := 0) h (by decide +kernel) rfl ?_
          refine gk_iload_n (j := 2) h (by decide +kernel) rfl ?_
          refine gk_vV (ca_v (idx := 17) h ho hm_47 (rd_le hrd (by decide)) ck_3 (by decide +kernel) kw_658 kw_660 kw_26 kw_94 kw_661 rfl (by decide +kernel) (by decide)) ?_
          refine gk_goto (off := 84) (tgt := 149) h (by decide +kernel) (by decide) ?_
          exact gk_jmp 3 rfl
        · refine ⟨68, 44, by dsimp only; decide, by dsimp only; decide, by dsimp only; decide, by decide, ?_⟩
          refine gk_aload_n (j := 0) h (by decide +kernel) rfl ?_
          refine gk_iload_n (j := 3) h (by decide +kernel) rfl ?_
          refine gk_vV (ca_v (idx := 17) h ho hm_47 (rd_le hrd (by decide)) ck_3 (by decide +kernel) kw_658 kw_660 kw_26 kw_94 kw_661 rfl (by decide +kernel) (by decide)) ?_
          refine gk_goto (off := 76) (tgt := 149) h (by decide +kernel) (by decide) ?_
          exact gk_jmp 3 rfl
        · refine ⟨76, 52, by dsimp only; decide, by dsimp only; decide, by dsimp only; decide, by decide, ?_⟩
          refine gk_aload_n (j := 0) h (by decide +kernel) rfl ?_
          refine gk_iload h (by decide +kernel) ?_
          refine gk_vV (ca_v (idx := 17) h ho hm_47 (rd_le hrd (by decide)) ck_3 (by decide +kernel) kw_658 kw_660 kw_26 kw_94 kw_661 rfl (by decide +kernel) (by decide)) ?_
          refine gk_goto (off := 67) (tgt := 149) h (by decide +kernel) (by decide) ?_
          exact gk_jmp 3 rfl
        · refine ⟨85, 61, by dsimp only; decide, by dsimp only; decide, by dsimp only; decide, by decide, ?_⟩
          refine gk_aload_n (j := 0) h (by decide +kernel) rfl ?_
          refine gk_iload h (by decide +kernel) ?_
          refine gk_vV (ca_v (idx := 17) h ho hm_47 (rd_le hrd (by decide)) ck_3 (by decide +kernel) kw_658 kw_660 kw_26 kw_94 kw_661 rfl (by decide +kernel) (by decide)) ?_
          refine gk_goto (off := 58) (tgt := 149) h (by decide +kernel) (by decide) ?_
          exact gk_jmp 3 rfl
        · refine ⟨94, 70, by dsimp only; decide, by dsimp only; decide, by dsimp only; decide, by decide, ?_⟩
          refine gk_aload_n (j := 0) h (by decide +kernel) rfl ?_
          refine gk_aload_n (j := 0) h (by decide +kernel) rfl ?_
          refine gk_vI (ca_v (idx := 21) h ho hm_48 (rd_le hrd (by decide)) ck_3 (by decide +kernel) kw_662 kw_664 kw_27 kw_94 kw_665 rfl (by decide +kernel) (by decide)) ?_
          refine gk_ifne (off := 7) (tgt := 106) h (by decide +kernel) (by decide) ?_ ?_
          · refine gk_iconst (n := 0) h (by decide +kernel) (by decide) ?_
            exact gk_jmp 2 rfl
          · refine gk_iconst (n := 1) h (by decide +kernel) (by decide) ?_
            refine gk_goto (off := 4) (tgt := 107) h (by decide +kernel) (by decide) ?_
            exact gk_jmp 2 rfl
  | 2 =>
    show GK X Q45 107 (o_vV orc 47 2 3 (o_jmp 3))
    refine gk_vV (ca_v (idx := 17) h ho hm_47 (rd_le hrd (by decide)) ck_3 (by decide +kernel) kw_658 kw_660 kw_26 kw_94 kw_661 rfl (by decide +kernel) (by decide)) ?_
    refine gk_goto (off := 39) (tgt := 149) h (by decide +kernel) (by decide) ?_
    exact gk_jmp 3 rfl
  | 3 =>
    show GK X Q45 149 (o_iinc 6 1 (o_jmp 1))
    refine gk_iinc (z := 1) h (by decide +kernel) (by decide) hxn (by decide) ?_
    refine gk_goto (off := (-144)) (tgt := 8) h (by decide +kernel) (by decide) ?_
    exact gk_jmp 1 rfl
  | _ + 4 => exact fun _ _ _ hr => hr.elim
theorem so_X4_joined_1 {α : Type} {a0 a1 a2 a3 a4 a5 : α} (x : Int32) (hx : ∀ q ∈ ([(42, a0), (43, a1), (45, a2), (60, a3), (61, a4), (143, a5)] : List (Int32 × α)), x ≠ q.1) : Op.lookupswitch.offset (#[(42, 59), (43, 63), (45, 67), (60, 71), (61, 82), (143, 93)] : Array (Int × Int)).toList 107 x.toInt = 107 := by
  simp only [List.mem_cons, List.not_mem_nil, or_false, forall_eq_or_imp, forall_eq] at hx
  simp only [ne_eq, ← Int32.toInt_inj] at hx
  simp at hx
  simp [Op.lookupswitch.offset]
  repeat' split
  all_goals omega
set_option maxRecDepth 20000 in
set_option maxHeartbeats 4000000 in
theorem s_46 : MS mtab yX4_joined cX4_joined 3 (some .int) Q46 P46 := by
  intro X orc d h hR hnm hxn ho hrd b
  match b with
  | 0 =>
    show GK X Q46 0 (o_iload 0 (o_sw [(42, o_iload 1 (o_iload 2 (o_i2 (fun x y => x * y) (o_iret)))), (43, o_iload 1 (o_iload 2 (o_i2 (fun x y => x + y) (o_iret)))), (45, o_iload 1 (o_iload 2 (o_i2 (fun x y => x - y) (o_iret)))), (60, o_iload 1 (o_iload 2 (o_ilt (o_iconst 1 (o_iret)) (o_iconst 0 (o_iret))))), (61, o_iload 1 (o_iload 2 (o_ieq (o_iconst 1 (o_iret)) (o_iconst 0 (o_iret))))), (143, o_iload 1 (o_if0 (o_iconst 0 (o_iret)) (o_iload 2 (o_if0 (o_iconst 0 (o_iret)) (o_iconst 1 (o_iret))))))] (o_iload 1 (o_if0 (o_iload 2 (o_if0 (o_iconst 0 (o_iret)) (o_jmp 1))) (o_jmp 1)))))
    refine gk_iload_n (j := 0) h (by decide +kernel) rfl ?_
    refine gk_lsw (dflt := 107) (pr := #[(42, 59), (43, 63), (45, 67), (60, 71), (61, 82), (143, 93)]) (len := 59) (td := 108) h (by decide +kernel) (by decide) (by decide) ?_ ?_ (by intro x hx; exact so_X4_joined_1 x hx)
    · refine gk_iload_n (j := 1) h (by decide +kernel) rfl ?_
      refine gk_ifne (off := 7) (tgt := 116) h (by decide +kernel) (by decide) ?_ ?_
      · exact gk_jmp 1 rfl
      · refine gk_iload_n (j := 2) h (by decide +kernel) rfl ?_
        refine gk_ifeq (off := 7) (tgt := 120) h (by decide +kernel) (by decide) ?_ ?_
        · refine gk_iconst (n := 0) h (by decide +kernel) (by decide) ?_
          exact gk_iret h hR (by decide +kernel)
        · exact gk_jmp 1 rfl
    · intro q hq
      simp only [List.mem_cons, List.not_mem_nil, or_false] at hq
      rcases hq with rfl | rfl | rfl | rfl | rfl | rfl
      · refine ⟨60, 59, by dsimp only; decide, by decide, ?_⟩
        refine gk_iload_n (j := 1) h (by decide +kernel) rfl ?_
        refine gk_iload_n (j := 2) h (by decide +kernel) rfl ?_
        refine gk_imul h (by decide +kernel) ?_
        exact gk_iret h hR (by decide +kernel)
      · refine ⟨64, 63, by dsimp only; decide, by decide, ?_⟩
        refine gk_iload_n (j := 1) h (by decide +kernel) rfl ?_
        refine gk_iload_n (j := 2) h (by decide +kernel) rfl ?_
        refine gk_iadd h (by decide +kernel) ?_
        exact gk_iret h hR (by decide +kernel)
      · refine ⟨68, 67, by dsimp only; decide, by decide, ?_⟩
        refine gk_iload_n (j := 1) h (by decide +kernel) rfl ?_
        refine gk_iload_n (j := 2) h (by decide +kernel) rfl ?_
        refine gk_isub h (by decide +kernel) ?_
        exact gk_iret h hR (by decide +kernel)
      · refine ⟨72, 71, by dsimp only; decide, by decide, ?_⟩
        refine gk_iload_n (j := 1) h (by decide +kernel) rfl ?_
        refine gk_iload_n (j := 2) h (by decide +kernel) rfl ?_
        refine gk_icmpge (off := 7) (tgt := 81) h (by decide +kernel) (by decide) ?_ ?_
        · refine gk_iconst (n := 0) h (by decide +kernel) (by decide) ?_
          exact gk_iret h hR (by decide +kernel)
        · refine gk_iconst (n := 1) h (by decide +kernel) (by decide) ?_
          refine gk_goto (off := 4) (tgt := 82) h (by decide +kernel) (by decide) ?_
          exact gk_iret h hR (by decide +kernel)
      · refine ⟨83, 82, by dsimp only; decide, by decide, ?_⟩
        refine gk_iload_n (j := 1) h (by decide +kernel) rfl ?_
        refine gk_iload_n (j := 2) h (by decide +kernel) rfl ?_
        refine gk_icmpne (off := 7) (tgt := 92) h (by decide +kernel) (by decide) ?_ ?_
        · refine gk_iconst (n := 0) h (by decide +kernel) (by decide) ?_
          exact gk_iret h hR (by decide +kernel)
        · refine gk_iconst (n := 1) h (by decide +kernel) (by decide) ?_
          refine gk_goto (off := 4) (tgt := 93) h (by decide +kernel) (by decide) ?_
          exact gk_iret h hR (by decide +kernel)
      · refine ⟨94, 93, by dsimp only; decide, by decide, ?_⟩
        refine gk_iload_n (j := 1) h (by decide +kernel) rfl ?_
        refine gk_ifeq (off := 11) (tgt := 106) h (by decide +kernel) (by decide) ?_ ?_
        · refine gk_iconst (n := 0) h (by decide +kernel) (by decide) ?_
          exact gk_iret h hR (by decide +kernel)
        · refine gk_iload_n (j := 2) h (by decide +kernel) rfl ?_
          refine gk_ifeq (off := 7) (tgt := 106) h (by decide +kernel) (by decide) ?_ ?_
          · refine gk_iconst (n := 0) h (by decide +kernel) (by decide) ?_
            exact gk_iret h hR (by decide +kernel)
          · refine gk_iconst (n := 1) h (by decide +kernel) (by decide) ?_
            refine gk_goto (off := 4) (tgt := 107) h (by decide +kernel) (by decide) ?_
            exact gk_iret h hR (by decide +kernel)
  | 1 =>
    show GK X Q46 116 (o_iconst 1 (o_iret))
    refine gk_iconst (n := 1) h (by decide +kernel) (by decide) ?_
    refine gk_goto (off := 4) (tgt := 121) h (by decide +kernel) (by decide) ?_
    exact gk_iret h hR (by decide +kernel)
  | _ + 2 => exact fun _ _ _ hr => hr.elim
set_option maxRecDepth 20000 in
set_option maxHeartbeats 4000000 in
theorem s_47 : MS mtab yX4_push cX4_push 2 none Q47 P47 := by
  intro X orc d h hR hnm hxn ho hrd b
  match b with
  | 0 =>
    show GK X Q47 0 (o_aload 0 (o_getI 3 1 (o_aload 0 (o_getR 3 0 (o_alen (o_ilt (o_aload 0 (o_getR 3 0 (o_aload 0 (o_getI 3 1 (o_iload 1 (o_iast 0 (fun x => x) (o_aload 0 (o_dup (o_getI 3 1 (o_iconst 1 (o_i2 (fun x y => x + y) (o_putI 3 1 (o_vret))))))))))))) (o_vret)))))))
    refine gk_aload_n (j := 0) h (by decide +kernel) rfl ?_
    refine gk_getI (i := 13) h ck_3 (by decide) (fun _ _ _ => rfl) (by decide +kernel) kw_205 ?_
    refine gk_aload_n (j := 0) h (by decide +kernel) rfl ?_
    refine gk_getR (i := 7) h ck_3 (by decide) (fun _ _ _ => rfl) (by decide +kernel) kw_204 ?_
    refine gk_alen h (by decide +kernel) ?_
    refine gk_icmpge (off := 23) (tgt := 32) h (by decide +kernel) (by decide) ?_ ?_
    · exact gk_vret h hR (by decide +kernel)
    · refine gk_aload_n (j := 0) h (by decide +kernel) rfl ?_
      refine gk_getR (i := 7) h ck_3 (by decide) (fun _ _ _ => rfl) (by decide +kernel) kw_204 ?_
      refine gk_aload_n (j := 0) h (by decide +kernel) rfl ?_
      refine gk_getI (i := 13) h ck_3 (by decide) (fun _ _ _ => rfl) (by decide +kernel) kw_205 ?_
      refine gk_iload_n (j := 1) h (by decide +kernel) rfl ?_
      refine gk_ast0 h (by decide +kernel) ?_
      refine gk_aload_n (j := 0) h (by decide +kernel) rfl ?_
      refine gk_dup h (by decide +kernel) ?_
      refine gk_getI (i := 13) h ck_3 (by decide) (fun _ _ _ => rfl) (by decide +kernel) kw_205 ?_
      refine gk_iconst (n := 1) h (by decide +kernel) (by decide) ?_
      refine gk_iadd h (by decide +kernel) ?_
      refine gk_putI (i := 13) h ck_3 (by decide) rfl (Or.inl rfl) (by decide +kernel) kw_205 ?_
      exact gk_vret h hR (by decide +kernel)
  | _ + 1 => exact fun _ _ _ hr => hr.elim
set_option maxRecDepth 20000 in
set_option maxHeartbeats 4000000 in
theorem s_48 : MS mtab yX4_pop cX4_pop 1 (some .int) Q48 P48 := by
  intro X orc d h hR hnm hxn ho hrd b
  match b with
  | 0 =>
    show GK X Q48 0 (o_aload 0 (o_getI 3 1 (o_ifp (o_aload 0 (o_dup (o_getI 3 1 (o_iconst 1 (o_i2 (fun x y => x - y) (o_putI 3 1 (o_jmp 1))))))) (o_jmp 1))))
    refine gk_aload_n (j := 0) h (by decide +kernel) rfl ?_
    refine gk_getI (i := 13) h ck_3 (by decide) (fun _ _ _ => rfl) (by decide +kernel) kw_205 ?_
    refine gk_ifle (off := 13) (tgt := 17) h (by decide +kernel) (by decide) ?_ ?_
    · exact gk_jmp 1 rfl
    · refine gk_aload_n (j := 0) h (by decide +kernel) rfl ?_
      refine gk_dup h (by decide +kernel) ?_
      refine gk_getI (i := 13) h ck_3 (by decide) (fun _ _ _ => rfl) (by decide +kernel) kw_205 ?_
      refine gk_iconst (n := 1) h (by decide +kernel) (by decide) ?_
      refine gk_isub h (by decide +kernel) ?_
      refine gk_putI (i := 13) h ck_3 (by decide) rfl (Or.inl rfl) (by decide +kernel) kw_205 ?_
      exact gk_jmp 1 rfl
  | 1 =>
    show GK X Q48 17 (o_aload 0 (o_getR 3 0 (o_aload 0 (o_getI 3 1 (o_iald 0 (o_iret))))))
    refine gk_aload_n (j := 0) h (by decide +kernel) rfl ?_
    refine gk_getR (i := 7) h ck_3 (by decide) (fun _ _ _ => rfl) (by decide +kernel) kw_204 ?_
    refine gk_aload_n (j := 0) h (by decide +kernel) rfl ?_
    refine gk_getI (i := 13) h ck_3 (by decide) (fun _ _ _ => rfl) (by decide +kernel) kw_205 ?_
    refine gk_ald0 h (by decide +kernel) ?_
    exact gk_iret h hR (by decide +kernel)
  | _ + 2 => exact fun _ _ _ hr => hr.elim
set_option maxRecDepth 20000 in
set_option maxHeartbeats 4000000 in
theorem s_49 : MS mtab yX5_init cX5_init 1 none Q49 P49 := by
  intro X orc d h hR hnm hxn ho hrd b
  match b with
  | 0 =>
    show GK X Q49 0 (o_aload 0 (o_obj (o_aload 0 (o_iconst 60 (o_newa 0 (o_putR 4 0 (o_aload 0 (o_iconst 0 (o_putI 4 1 (o_aload 0 (o_lconst 0 (o_putL 4 2 (o_aload 0 (o_iconst 0 (o_putI 4 3 (o_aload 0 (o_iconst 2 (o_newa 0 (o_putR 4 4 (o_aload 0 (o_iconst 10 (o_newa 0 (o_putR 4 5 (o_aload 0 (o_iconst 10 (o_newa 0 (o_putR 4 6 (o_aload 0 (o_new 3 (o_dup (o_nV orc 44 1 (o_putR 4 7 (o_vret)))))))))))))))))))))))))))))))))
    refine gk_aload_n (j := 0) h (by decide +kernel) rfl ?_
    refine gk_obj (i := 3) h (by decide +kernel) kw_197 kw_117 kw_118 ?_
    refine gk_aload_n (j := 0) h (by decide +kernel) rfl ?_
    refine gk_bipush (n := 60) h (by decide +kernel) (by decide) ?_
    refine gk_newa (aty := .int) h (by decide) (by decide +kernel) rfl kw_190 ?_
    refine gk_putR (i := 9) h ck_4 (by decide) (Or.inr ⟨_, rfl⟩) (Or.inr ⟨rfl, hnm, rfl⟩) (by decide +kernel) kw_211 ?_
    refine gk_aload_n (j := 0) h (by decide +kernel) rfl ?_
    refine gk_iconst (n := 0) h (by decide +kernel) (by decide) ?_
    refine gk_putI (i := 15) h ck_4 (by decide) rfl (Or.inl rfl) (by decide +kernel) kw_213 ?_
    refine gk_aload_n (j := 0) h (by decide +kernel) rfl ?_
    refine gk_lconst (n := 0) h (by decide +kernel) rfl ?_
    refine gk_putL (i := 21) h ck_4 (by decide) rfl (Or.inl rfl) (by decide +kernel) kw_216 ?_
    refine gk_aload_n (j := 0) h (by decide +kernel) rfl ?_
    refine gk_iconst (n := 0) h (by decide +kernel) (by decide) ?_
    refine gk_putI (i := 25) h ck_4 (by decide) rfl (Or.inl rfl) (by decide +kernel) kw_218 ?_
    refine gk_aload_n (j := 0) h (by decide +kernel) rfl ?_
    refine gk_iconst (n := 2) h (by decide +kernel) (by decide) ?_
    refine gk_newa (aty := .int) h (by decide) (by decide +kernel) rfl kw_190 ?_
    refine gk_putR (i := 28) h ck_4 (by decide) (Or.inr ⟨_, rfl⟩) (Or.inr ⟨rfl, hnm, rfl⟩) (by decide +kernel) kw_220 ?_
    refine gk_aload_n (j := 0) h (by decide +kernel) rfl ?_
    refine gk_bipush (n := 10) h (by decide +kernel) (by decide) ?_
    refine gk_newa (aty := .int) h (by decide) (by decide +kernel) rfl kw_190 ?_
    refine gk_putR (i := 31) h ck_4 (by decide) (Or.inr ⟨_, rfl⟩) (Or.inr ⟨rfl, hnm, rfl⟩) (by decide +kernel) kw_222 ?_
    refine gk_aload_n (j := 0) h (by decide +kernel) rfl ?_
    refine gk_bipush (n := 10) h (by decide +kernel) (by decide) ?_
    refine gk_newa (aty := .int) h (by decide) (by decide +kernel) rfl kw_190 ?_
    refine gk_putR (i := 34) h ck_4 (by decide) (Or.inr ⟨_, rfl⟩) (Or.inr ⟨rfl, hnm, rfl⟩) (by decide +kernel) kw_224 ?_
    refine gk_aload_n (j := 0) h (by decide +kernel) rfl ?_
    refine gk_new (i := 37) h ck_3 (by decide +kernel) kw_198 kw_199 kw_94 nd_3 ?_
    refine gk_dup h (by decide +kernel) ?_
    refine gk_nV (ca_nN (idx := 39) h ho hm_44 (rd_le hrd (by decide)) (by decide +kernel) (by decide +kernel) kw_201 kw_94 kw_202 rfl (by decide +kernel) (by decide)) ?_
    refine gk_putR (i := 40) h ck_4 (by decide) (Or.inl ⟨_, rfl⟩) (Or.inr ⟨rfl, hnm, rfl⟩) (by decide +kernel) kw_226 ?_
    exact gk_vret h hR (by decide +kernel)
  | _ + 1 => exact fun _ _ _ hr => hr.elim
set_option maxRecDepth 20000 in
set_option maxHeartbeats 4000000 in
theorem s_50 : MS mtab yX5_town cX5_town 1 (some .int) Q50 P50 := by
  intro X orc d h hR hnm hxn ho hrd b
  match b with
  | 0 =>
    show GK X Q50 0 (o_aload 0 (o_getI 4 1 (o_iconst 1 (o_i2 (fun x y => x &&& y) (o_iret)))))
    refine gk_aload_n (j := 0) h (by decide +kernel) rfl ?_
    refine gk_getI (i := 15) h ck_4 (by decide) (fun _ _ _ => rfl) (by decide +kernel) kw_213 ?_
    refine gk_iconst (n := 1) h (by decide +kernel) (by decide) ?_
    refine gk_iand h (by decide +kernel) ?_
    exact gk_iret h hR (by decide +kernel)
  | _ + 1 => exact fun _ _ _ hr => hr.elim
set_option maxRecDepth 20000 in
set_option maxHeartbeats 4000000 in
theorem s_51 : MS mtab yX5_clear cX5_clear 2 none Q51 P51 := by
  intro X orc d h hR hnm hxn ho hrd b
  match b with
  | 0 =>
    show GK X Q51 0 (o_aload 0 (o_iconst 0 (o_putI 4 1 (o_aload 0 (o_lconst 0 (o_putL 4 2 (o_aload 0 (o_iconst 0 (o_putI 4 3 (o_aload 0 (o_getR 4 4 (o_iconst 0 (o_iconst 0 (o_iast 0 (fun x => x) (o_aload 0 (o_getR 4 4 (o_iconst 1 (o_iconst 0 (o_iast 0 (fun x => x) (o_iconst 0 (o_istore 1 (o_jmp 1))))))))))))))))))))))
    refine gk_aload_n (j := 0) h (by decide +kernel) rfl ?_
    refine gk_iconst (n := 0) h (by decide +kernel) (by decide) ?_
    refine gk_putI (i := 15) h ck_4 (by decide) rfl (Or.inl rfl) (by decide +kernel) kw_213 ?_
    refine gk_aload_n (j := 0) h (by decide +kernel) rfl ?_
    refine gk_lconst (n := 0) h (by decide +kernel) rfl ?_
    refine gk_putL (i := 21) h ck_4 (by decide) rfl (Or.inl rfl) (by decide +kernel) kw_216 ?_
    refine gk_aload_n (j := 0) h (by decide +kernel) rfl ?_
    refine gk_iconst (n := 0) h (by decide +kernel) (by decide) ?_
    refine gk_putI (i := 25) h ck_4 (by decide) rfl (Or.inl rfl) (by decide +kernel) kw_218 ?_
    refine gk_aload_n (j := 0) h (by decide +kernel) rfl ?_
    refine gk_getR (i := 28) h ck_4 (by decide) (fun _ _ _ => rfl) (by decide +kernel) kw_220 ?_
    refine gk_iconst (n := 0) h (by decide +kernel) (by decide) ?_
    refine gk_iconst (n := 0) h (by decide +kernel) (by decide) ?_
    refine gk_ast0 h (by decide +kernel) ?_
    refine gk_aload_n (j := 0) h (by decide +kernel) rfl ?_
    refine gk_getR (i := 28) h ck_4 (by decide) (fun _ _ _ => rfl) (by decide +kernel) kw_220 ?_
    refine gk_iconst (n := 1) h (by decide +kernel) (by decide) ?_
    refine gk_iconst (n := 0) h (by decide +kernel) (by decide) ?_
    refine gk_ast0 h (by decide +kernel) ?_
    refine gk_iconst (n := 0) h (by decide +kernel) (by decide) ?_
    refine gk_istore_n (j := 1) h (by decide +kernel) rfl hxn (by decide) ?_
    exact gk_jmp 1 rfl
  | 1 =>
    show GK X Q51 31 (o_iload 1 (o_iconst 10 (o_ilt (o_aload 0 (o_getR 4 5 (o_iload 1 (o_iconst 0 (o_iast 0 (fun x => x) (o_aload 0 (o_getR 4 6 (o_iload 1 (o_iconst (-1) (o_iast 0 (fun x => x) (o_iinc 1 1 (o_jmp 1)))))))))))) (o_vret))))
    refine gk_iload_n (j := 1) h (by decide +kernel) rfl ?_
    refine gk_bipush (n := 10) h (by decide +kernel) (by decide) ?_
    refine gk_icmpge (off := 23) (tgt := 57) h (by decide +kernel) (by decide) ?_ ?_
    · exact gk_vret h hR (by decide +kernel)
    · refine gk_aload_n (j := 0) h (by decide +kernel) rfl ?_
      refine gk_getR (i := 31) h ck_4 (by decide) (fun _ _ _ => rfl) (by decide +kernel) kw_222 ?_
      refine gk_iload_n (j := 1) h (by decide +kernel) rfl ?_
      refine gk_iconst (n := 0) h (by decide +kernel) (by decide) ?_
      refine gk_ast0 h (by decide +kernel) ?_
      refine gk_aload_n (j := 0) h (by decide +kernel) rfl ?_
      refine gk_getR (i := 34) h ck_4 (by decide) (fun _ _ _ => rfl) (by decide +kernel) kw_224 ?_
      refine gk_iload_n (j := 1) h (by decide +kernel) rfl ?_
      refine gk_iconst (n := (-1)) h (by decide +kernel) (by decide) ?_
      refine gk_ast0 h (by decide +kernel) ?_
      refine gk_iinc (z := 1) h (by decide +kernel) (by decide) hxn (by decide) ?_
      refine gk_goto (off := (-23)) (tgt := 31) h (by decide +kernel) (by decide) ?_
      exact gk_jmp 1 rfl
  | _ + 2 => exact fun _ _ _ hr => hr.elim
set_option maxRecDepth 20000 in
set_option maxHeartbeats 4000000 in
theorem s_52 : MS mtab yX5_take cX5_take 2 none Q52 P52 := by
  intro X orc d h hR hnm hxn ho hrd b
  match b with
  | 0 =>
    show GK X Q52 0 (o_aload 1 (o_iconst 0 (o_aload 0 (o_getR 4 0 (o_iconst 0 (o_iconst 60 (o_copy (o_vret))))))))
    refine gk_aload_n (j := 1) h (by decide +kernel) rfl ?_
    refine gk_iconst (n := 0) h (by decide +kernel) (by decide) ?_
    refine gk_aload_n (j := 0) h (by decide +kernel) rfl ?_
    refine gk_getR (i := 9) h ck_4 (by decide) (fun _ _ _ => rfl) (by decide +kernel) kw_211 ?_
    refine gk_iconst (n := 0) h (by decide +kernel) (by decide) ?_
    refine gk_bipush (n := 60) h (by decide +kernel) (by decide) ?_
    refine gk_copy (i := 44) h (by decide +kernel) kw_867 kw_298 kw_297 kw_98 ?_
    exact gk_vret h hR (by decide +kernel)
  | _ + 1 => exact fun _ _ _ hr => hr.elim
set_option maxRecDepth 20000 in
set_option maxHeartbeats 4000000 in
theorem s_53 : MS mtab yX5_replay cX5_replay 4 none Q53 P53 := by
  intro X orc d h hR hnm hxn ho hrd b
  match b with
  | 0 =>
    show GK X Q53 0 (o_aload 0 (o_vV orc 51 1 4 (o_iconst 0 (o_istore 3 (o_jmp 1)))))
    refine gk_aload_n (j := 0) h (by decide +kernel) rfl ?_
    refine gk_vV (ca_v (idx := 50) h ho hm_51 (rd_le hrd (by decide)) ck_4 (by decide +kernel) kw_700 kw_360 kw_361 kw_93 kw_362 rfl (by decide +kernel) (by decide)) ?_
    refine gk_iconst (n := 0) h (by decide +kernel) (by decide) ?_
    refine gk_istore_n (j := 3) h (by decide +kernel) rfl hxn (by decide) ?_
    exact gk_jmp 1 rfl
  | 1 =>
    show GK X Q53 6 (o_iload 3 (o_iload 2 (o_ilt (o_iload 3 (o_aload 0 (o_getR 4 0 (o_alen (o_ilt (o_aload 0 (o_aload 1 (o_aload 0 (o_getR 4 0 (o_iload 3 (o_iald 0 (o_vV orc 54 3 4 (o_iinc 3 1 (o_jmp 1))))))))) (o_vret)))))) (o_vret))))
    refine gk_iload_n (j := 3) h (by decide +kernel) rfl ?_
    refine gk_iload_n (j := 2) h (by decide +kernel) rfl ?_
    refine gk_icmpge (off := 29) (tgt := 37) h (by decide +kernel) (by decide) ?_ ?_
    · exact gk_vret h hR (by decide +kernel)
    · refine gk_iload_n (j := 3) h (by decide +kernel) rfl ?_
      refine gk_aload_n (j := 0) h (by decide +kernel) rfl ?_
      refine gk_getR (i := 9) h ck_4 (by decide) (fun _ _ _ => rfl) (by decide +kernel) kw_211 ?_
      refine gk_alen h (by decide +kernel) ?_
      refine gk_icmpge (off := 20) (tgt := 37) h (by decide +kernel) (by decide) ?_ ?_
      · exact gk_vret h hR (by decide +kernel)
      · refine gk_aload_n (j := 0) h (by decide +kernel) rfl ?_
        refine gk_aload_n (j := 1) h (by decide +kernel) rfl ?_
        refine gk_aload_n (j := 0) h (by decide +kernel) rfl ?_
        refine gk_getR (i := 9) h ck_4 (by decide) (fun _ _ _ => rfl) (by decide +kernel) kw_211 ?_
        refine gk_iload_n (j := 3) h (by decide +kernel) rfl ?_
        refine gk_ald0 h (by decide +kernel) ?_
        refine gk_vV (ca_v (idx := 53) h ho hm_54 (rd_le hrd (by decide)) ck_4 (by decide +kernel) kw_701 kw_640 kw_641 kw_93 kw_642 rfl (by decide +kernel) (by decide)) ?_
        refine gk_iinc (z := 1) h (by decide +kernel) (by decide) hxn (by decide) ?_
        refine gk_goto (off := (-28)) (tgt := 6) h (by decide +kernel) (by decide) ?_
        exact gk_jmp 1 rfl
  | _ + 2 => exact fun _ _ _ hr => hr.elim
set_option maxRecDepth 20000 in
set_option maxHeartbeats 4000000 in
theorem s_54 : MS mtab yX5_perform cX5_perform 3 none Q54 P54 := by
  intro X orc d h hR hnm hxn ho hrd b
  match b with
  | 0 =>
    show GK X Q54 0 (o_aload 0 (o_getI 4 1 (o_aload 0 (o_getR 4 0 (o_alen (o_ilt (o_iload 2 (o_sI orc 2 1 (o_if0 (o_aload 0 (o_aload 1 (o_iload 2 (o_vV orc 55 3 4 (o_jmp 1))))) (o_jmp 1)))) (o_vret)))))))
    refine gk_aload_n (j := 0) h (by decide +kernel) rfl ?_
    refine gk_getI (i := 15) h ck_4 (by decide) (fun _ _ _ => rfl) (by decide +kernel) kw_213 ?_
    refine gk_aload_n (j := 0) h (by decide +kernel) rfl ?_
    refine gk_getR (i := 9) h ck_4 (by decide) (fun _ _ _ => rfl) (by decide +kernel) kw_211 ?_
    refine gk_alen h (by decide +kernel) ?_
    refine gk_icmplt (off := 4) (tgt := 13) h (by decide +kernel) (by decide) ?_ ?_
    · refine gk_iload_n (j := 2) h (by decide +kernel) rfl ?_
      refine gk_sI (ca_s (idx := 57) h ho hm_2 (rd_le hrd (by decide)) (by decide +kernel) kw_643 kw_401 kw_99 kw_402 (by decide +kernel)) ?_
      refine gk_ifne (off := 9) (tgt := 26) h (by decide +kernel) (by decide) ?_ ?_
      · exact gk_jmp 1 rfl
      · refine gk_aload_n (j := 0) h (by decide +kernel) rfl ?_
        refine gk_aload_n (j := 1) h (by decide +kernel) rfl ?_
        refine gk_iload_n (j := 2) h (by decide +kernel) rfl ?_
        refine gk_vV (ca_v (idx := 63) h ho hm_55 (rd_le hrd (by decide)) ck_4 (by decide +kernel) kw_644 kw_646 kw_25 kw_93 kw_647 rfl (by decide +kernel) (by decide)) ?_
        exact gk_jmp 1 rfl
    · exact gk_vret h hR (by decide +kernel)
  | 1 =>
    show GK X Q54 26 (o_aload 0 (o_aload 1 (o_aload 0 (o_getL 4 2 (o_aload 0 (o_vI orc 50 1 4 (o_iload 2 (o_vL orc 73 4 5 (o_putL 4 2 (o_aload 0 (o_getR 4 0 (o_aload 0 (o_getI 4 1 (o_iload 2 (o_iast 0 (fun x => x) (o_aload 0 (o_dup (o_getI 4 1 (o_iconst 1 (o_i2 (fun x y => x + y) (o_putI 4 1 (o_vret))))))))))))))))))))))
    refine gk_aload_n (j := 0) h (by decide +kernel) rfl ?_
    refine gk_aload_n (j := 1) h (by decide +kernel) rfl ?_
    refine gk_aload_n (j := 0) h (by decide +kernel) rfl ?_
    refine gk_getL (i := 21) h ck_4 (by decide) (fun _ _ _ => rfl) (by decide +kernel) kw_216 ?_
    refine gk_aload_n (j := 0) h (by decide +kernel) rfl ?_
    refine gk_vI (ca_v (idx := 66) h ho hm_50 (rd_le hrd (by decide)) ck_4 (by decide +kernel) kw_652 kw_386 kw_387 kw_93 kw_388 rfl (by decide +kernel) (by decide)) ?_
    refine gk_iload_n (j := 2) h (by decide +kernel) rfl ?_
    refine gk_vL (ca_v (idx := 70) h ho hm_73 (rd_le hrd (by decide)) ck_5 (by decide +kernel) kw_669 kw_670 kw_671 kw_97 kw_672 rfl (by decide +kernel) (by decide)) ?_
    refine gk_putL (i := 21) h ck_4 (by decide) rfl (Or.inl rfl) (by decide +kernel) kw_216 ?_
    refine gk_aload_n (j := 0) h (by decide +kernel) rfl ?_
    refine gk_getR (i := 9) h ck_4 (by decide) (fun _ _ _ => rfl) (by decide +kernel) kw_211 ?_
    refine gk_aload_n (j := 0) h (by decide +kernel) rfl ?_
    refine gk_getI (i := 15) h ck_4 (by decide) (fun _ _ _ => rfl) (by decide +kernel) kw_213 ?_
    refine gk_iload_n (j := 2) h (by decide +kernel) rfl ?_
    refine gk_ast0 h (by decide +kernel) ?_
    refine gk_aload_n (j := 0) h (by decide +kernel) rfl ?_
    refine gk_dup h (by decide +kernel) ?_
    refine gk_getI (i := 15) h ck_4 (by decide) (fun _ _ _ => rfl) (by decide +kernel) kw_213 ?_
    refine gk_iconst (n := 1) h (by decide +kernel) (by decide) ?_
    refine gk_iadd h (by decide +kernel) ?_
    refine gk_putI (i := 15) h ck_4 (by decide) rfl (Or.inl rfl) (by decide +kernel) kw_213 ?_
    exact gk_vret h hR (by decide +kernel)
  | _ + 2 => exact fun _ _ _ hr => hr.elim
set_option maxRecDepth 20000 in
set_option maxHeartbeats 4000000 in
theorem s_55 : MS mtab yX5_lodge cX5_lodge 11 none Q55 P55 := by
  intro X orc d h hR hnm hxn ho hrd b
  match b with
  | 0 =>
    show GK X Q55 0 (o_aload 1 (o_getR 5 4 (o_iload 2 (o_sI orc 3 1 (o_iald 0 (o_istore 3 (o_iload 2 (o_sI orc 4 1 (o_istore 4 (o_iload 2 (o_sI orc 5 1 (o_istore 5 (o_aload 0 (o_getL 4 2 (o_iload 4 (o_sI orc 57 2 (o_istore 6 (o_iload 3 (o_iconst 4 (o_ieq (o_iconst 1 (o_aload 0 (o_vI orc 50 1 4 (o_i2 (fun x y => x - y) (o_jmp 1))))) (o_aload 0 (o_vI orc 50 1 4 (o_jmp 1)))))))))))))))))))))))
    refine gk_aload_n (j := 1) h (by decide +kernel) rfl ?_
    refine gk_getR (i := 74) h ck_5 (by decide) (fun _ _ _ => rfl) (by decide +kernel) kw_330 ?_
    refine gk_iload_n (j := 2) h (by decide +kernel) rfl ?_
    refine gk_sI (ca_s (idx := 77) h ho hm_3 (rd_le hrd (by decide)) (by decide +kernel) kw_648 kw_404 kw_99 kw_405 (by decide +kernel)) ?_
    refine gk_ald0 h (by decide +kernel) ?_
    refine gk_istore_n (j := 3) h (by decide +kernel) rfl hxn (by decide) ?_
    refine gk_iload_n (j := 2) h (by decide +kernel) rfl ?_
    refine gk_sI (ca_s (idx := 81) h ho hm_4 (rd_le hrd (by decide)) (by decide +kernel) kw_649 kw_398 kw_99 kw_399 (by decide +kernel)) ?_
    refine gk_istore h (by decide +kernel) hxn (by decide) ?_
    refine gk_iload_n (j := 2) h (by decide +kernel) rfl ?_
    refine gk_sI (ca_s (idx := 84) h ho hm_5 (rd_le hrd (by decide)) (by decide +kernel) kw_650 kw_422 kw_99 kw_423 (by decide +kernel)) ?_
    refine gk_istore h (by decide +kernel) hxn (by decide) ?_
    refine gk_aload_n (j := 0) h (by decide +kernel) rfl ?_
    refine gk_getL (i := 21) h ck_4 (by decide) (fun _ _ _ => rfl) (by decide +kernel) kw_216 ?_
    refine gk_iload h (by decide +kernel) ?_
    refine gk_sI (ca_s (idx := 87) h ho hm_57 (rd_le hrd (by decide)) (by decide +kernel) kw_651 kw_418 kw_97 kw_419 (by decide +kernel)) ?_
    refine gk_istore h (by decide +kernel) hxn (by decide) ?_
    refine gk_iload_n (j := 3) h (by decide +kernel) rfl ?_
    refine gk_iconst (n := 4) h (by decide +kernel) (by decide) ?_
    refine gk_icmpne (off := 12) (tgt := 47) h (by decide +kernel) (by decide) ?_ ?_
    · refine gk_aload_n (j := 0) h (by decide +kernel) rfl ?_
      refine gk_vI (ca_v (idx := 66) h ho hm_50 (rd_le hrd (by decide)) ck_4 (by decide +kernel) kw_652 kw_386 kw_387 kw_93 kw_388 rfl (by decide +kernel) (by decide)) ?_
      exact gk_jmp 1 rfl
    · refine gk_iconst (n := 1) h (by decide +kernel) (by decide) ?_
      refine gk_aload_n (j := 0) h (by decide +kernel) rfl ?_
      refine gk_vI (ca_v (idx := 66) h ho hm_50 (rd_le hrd (by decide)) ck_4 (by decide +kernel) kw_652 kw_386 kw_387 kw_93 kw_388 rfl (by decide +kernel) (by decide)) ?_
      refine gk_isub h (by decide +kernel) ?_
      refine gk_goto (off := 7) (tgt := 51) h (by decide +kernel) (by decide) ?_
      exact gk_jmp 1 rfl
  | 1 =>
    show GK X Q55 51 (o_istore 7 (o_iload 3 (o_iconst 3 (o_ieq (o_aload 0 (o_getR 4 6 (o_iload 4 (o_iload 7 (o_iast 0 (fun x => x) (o_aload 0 (o_getR 4 6 (o_aload 1 (o_iload 4 (o_vI orc 63 2 5 (o_iload 7 (o_iast 0 (fun x => x) (o_aload 0 (o_dup (o_getI 4 3 (o_aload 0 (o_getR 4 7 (o_aload 1 (o_getR 5 6 (o_iconst 2 (o_iload 6 (o_iconst 0 (o_aload 0 (o_getI 4 1 (o_vI orc 45 6 3 (o_i2 (fun x y => x + y) (o_putI 4 3 (o_vret)))))))))))))))))))))))))))) (o_iconst 0 (o_istore 8 (o_iload 4 (o_istore 9 (o_jmp 2)))))))))
    refine gk_istore h (by decide +kernel) hxn (by decide) ?_
    refine gk_iload_n (j := 3) h (by decide +kernel) rfl ?_
    refine gk_iconst (n := 3) h (by decide +kernel) (by decide) ?_
    refine gk_icmpne (off := 54) (tgt := 109) h (by decide +kernel) (by decide) ?_ ?_
    · refine gk_iconst (n := 0) h (by decide +kernel) (by decide) ?_
      refine gk_istore h (by decide +kernel) hxn (by decide) ?_
      refine gk_iload h (by decide +kernel) ?_
      refine gk_istore h (by decide +kernel) hxn (by decide) ?_
      exact gk_jmp 2 rfl
    · refine gk_aload_n (j := 0) h (by decide +kernel) rfl ?_
      refine gk_getR (i := 34) h ck_4 (by decide) (fun _ _ _ => rfl) (by decide +kernel) kw_224 ?_
      refine gk_iload h (by decide +kernel) ?_
      refine gk_iload h (by decide +kernel) ?_
      refine gk_ast0 h (by decide +kernel) ?_
      refine gk_aload_n (j := 0) h (by decide +kernel) rfl ?_
      refine gk_getR (i := 34) h ck_4 (by decide) (fun _ _ _ => rfl) (by decide +kernel) kw_224 ?_
      refine gk_aload_n (j := 1) h (by decide +kernel) rfl ?_
      refine gk_iload h (by decide +kernel) ?_
      refine gk_vI (ca_v (idx := 91) h ho hm_63 (rd_le hrd (by decide)) ck_5 (by decide +kernel) kw_653 kw_311 kw_312 kw_97 kw_313 rfl (by decide +kernel) (by decide)) ?_
      refine gk_iload h (by decide +kernel) ?_
      refine gk_ast0 h (by decide +kernel) ?_
      refine gk_aload_n (j := 0) h (by decide +kernel) rfl ?_
      refine gk_dup h (by decide +kernel) ?_
      refine gk_getI (i := 25) h ck_4 (by decide) (fun _ _ _ => rfl) (by decide +kernel) kw_218 ?_
      refine gk_aload_n (j := 0) h (by decide +kernel) rfl ?_
      refine gk_getR (i := 40) h ck_4 (by decide) (fun _ _ _ => rfl) (by decide +kernel) kw_226 ?_
      refine gk_aload_n (j := 1) h (by decide +kernel) rfl ?_
      refine gk_getR (i := 94) h ck_5 (by decide) (fun _ _ _ => rfl) (by decide +kernel) kw_334 ?_
      refine gk_iconst (n := 2) h (by decide +kernel) (by decide) ?_
      refine gk_iload h (by decide +kernel) ?_
      refine gk_iconst (n := 0) h (by decide +kernel) (by decide) ?_
      refine gk_aload_n (j := 0) h (by decide +kernel) rfl ?_
      refine gk_getI (i := 15) h ck_4 (by decide) (fun _ _ _ => rfl) (by decide +kernel) kw_213 ?_
      refine gk_vI (ca_v (idx := 97) h ho hm_45 (rd_le hrd (by decide)) ck_3 (by decide +kernel) kw_654 kw_655 kw_656 kw_94 kw_657 rfl (by decide +kernel) (by decide)) ?_
      refine gk_iadd h (by decide +kernel) ?_
      refine gk_putI (i := 25) h ck_4 (by decide) rfl (Or.inl rfl) (by decide +kernel) kw_218 ?_
      exact gk_vret h hR (by decide +kernel)
  | 2 =>
    show GK X Q55 116 (o_iload 9 (o_iload 4 (o_iload 5 (o_i2 (fun x y => x + y) (o_ilt (o_iload 6 (o_aload 0 (o_getL 4 2 (o_iload 9 (o_sI orc 57 2 (o_i2 (fun x y => x - y) (o_istore 10 (o_iload 8 (o_iload 10 (o_i2 (fun x y => x + y) (o_istore 8 (o_aload 0 (o_getR 4 5 (o_iload 9 (o_dup2 (o_iald 0 (o_iload 10 (o_i2 (fun x y => x + y) (o_iast 0 (fun x => x) (o_aload 0 (o_getR 4 6 (o_iload 9 (o_iload 7 (o_iast 0 (fun x => x) (o_iinc 9 1 (o_jmp 2)))))))))))))))))))))))))) (o_aload 0 (o_getR 4 4 (o_iload 7 (o_dup2 (o_iald 0 (o_iload 8 (o_i2 (fun x y => x + y) (o_iast 0 (fun x => x) (o_aload 0 (o_dup (o_getI 4 3 (o_aload 0 (o_getR 4 7 (o_aload 1 (o_getR 5 6 (o_iload 5 (o_iload 6 (o_iload 8 (o_aload 0 (o_getI 4 1 (o_vI orc 45 6 3 (o_i2 (fun x y => x + y) (o_putI 4 3 (o_vret)))))))))))))))))))))))))))))
    refine gk_iload h (by decide +kernel) ?_
    refine gk_iload h (by decide +kernel) ?_
    refine gk_iload h (by decide +kernel) ?_
    refine gk_iadd h (by decide +kernel) ?_
    refine gk_icmpge (off := 51) (tgt := 174) h (by decide +kernel) (by decide) ?_ ?_
    · refine gk_aload_n (j := 0) h (by decide +kernel) rfl ?_
      refine gk_getR (i := 28) h ck_4 (by decide) (fun _ _ _ => rfl) (by decide +kernel) kw_220 ?_
      refine gk_iload h (by decide +kernel) ?_
      refine gk_dup2 h (by decide +kernel) ?_
      refine gk_ald0 h (by decide +kernel) ?_
      refine gk_iload h (by decide +kernel) ?_
      refine gk_iadd h (by decide +kernel) ?_
      refine gk_ast0 h (by decide +kernel) ?_
      refine gk_aload_n (j := 0) h (by decide +kernel) rfl ?_
      refine gk_dup h (by decide +kernel) ?_
      refine gk_getI (i := 25) h ck_4 (by decide) (fun _ _ _ => rfl) (by decide +kernel) kw_218 ?_
      refine gk_aload_n (j := 0) h (by decide +kernel) rfl ?_
      refine gk_getR (i := 40) h ck_4 (by decide) (fun _ _ _ => rfl) (by decide +kernel) kw_226 ?_
      refine gk_aload_n (j := 1) h (by decide +kernel) rfl ?_
      refine gk_getR (i := 94) h ck_5 (by decide) (fun _ _ _ => rfl) (by decide +kernel) kw_334 ?_
      refine gk_iload h (by decide +kernel) ?_
      refine gk_iload h (by decide +kernel) ?_
      refine gk_iload h (by decide +kernel) ?_
      refine gk_aload_n (j := 0) h (by decide +kernel) rfl ?_
      refine gk_getI (i := 15) h ck_4 (by decide) (fun _ _ _ => rfl) (by decide +kernel) kw_213 ?_
      refine gk_vI (ca_v (idx := 97) h ho hm_45 (rd_le hrd (by decide)) ck_3 (by decide +kernel) kw_654 kw_655 kw_656 kw_94 kw_657 rfl (by decide +kernel) (by decide)) ?_
      refine gk_iadd h (by decide +kernel) ?_
      refine gk_putI (i := 25) h ck_4 (by decide) rfl (Or.inl rfl) (by decide +kernel) kw_218 ?_
      exact gk_vret h hR (by decide +kernel)
    · refine gk_iload h (by decide +kernel) ?_
      refine gk_aload_n (j := 0) h (by decide +kernel) rfl ?_
      refine gk_getL (i := 21) h ck_4 (by decide) (fun _ _ _ => rfl) (by decide +kernel) kw_216 ?_
      refine gk_iload h (by decide +kernel) ?_
      refine gk_sI (ca_s (idx := 87) h ho hm_57 (rd_le hrd (by decide)) (by decide +kernel) kw_651 kw_418 kw_97 kw_419 (by decide +kernel)) ?_
      refine gk_isub h (by decide +kernel) ?_
      refine gk_istore h (by decide +kernel) hxn (by decide) ?_
      refine gk_iload h (by decide +kernel) ?_
      refine gk_iload h (by decide +kernel) ?_
      refine gk_iadd h (by decide +kernel) ?_
      refine gk_istore h (by decide +kernel) hxn (by decide) ?_
      refine gk_aload_n (j := 0) h (by decide +kernel) rfl ?_
      refine gk_getR (i := 31) h ck_4 (by decide) (fun _ _ _ => rfl) (by decide +kernel) kw_222 ?_
      refine gk_iload h (by decide +kernel) ?_
      refine gk_dup2 h (by decide +kernel) ?_
      refine gk_ald0 h (by decide +kernel) ?_
      refine gk_iload h (by decide +kernel) ?_
      refine gk_iadd h (by decide +kernel) ?_
      refine gk_ast0 h (by decide +kernel) ?_
      refine gk_aload_n (j := 0) h (by decide +kernel) rfl ?_
      refine gk_getR (i := 34) h ck_4 (by decide) (fun _ _ _ => rfl) (by decide +kernel) kw_224 ?_
      refine gk_iload h (by decide +kernel) ?_
      refine gk_iload h (by decide +kernel) ?_
      refine gk_ast0 h (by decide +kernel) ?_
      refine gk_iinc (z := 1) h (by decide +kernel) (by decide) hxn (by decide) ?_
      refine gk_goto (off := (-55)) (tgt := 116) h (by decide +kernel) (by decide) ?_
      exact gk_jmp 2 rfl
  | _ + 3 => exact fun _ _ _ hr => hr.elim
