set_option maxRecDepth 20000 in
set_option maxHeartbeats 4000000 in
theorem s_188 : MS mtab yX9_count cX9_count 2 (some .int) Q188 P188 := by
  intro X orc d h hR hnm hxn ho hrd b
  match b with
  | 0 =>
    show GK X Q188 0 (o_aload 0 (o_iconst 0 (o_putI 8 0 (o_iload 1 (o_iconst 0 (o_iconst 5 (o_sI orc 114 3 (o_if0 (o_iconst (-1) (o_iret)) (o_iload 1 (o_if0 (o_aload 0 (o_getR 8 10 (o_iconst 0 (o_iald 0 (o_iret))))) (o_iload 1 (o_iconst 1 (o_ieq (o_aload 0 (o_getR 8 11 (o_iconst 0 (o_iald 0 (o_iret))))) (o_iload 1 (o_iconst 2 (o_ieq (o_aload 0 (o_getR 8 12 (o_iconst 0 (o_iald 0 (o_iret))))) (o_iload 1 (o_iconst 3 (o_ieq (o_aload 0 (o_vI orc 165 1 8 (o_if0 (o_iconst 0 (o_iret)) (o_iconst 1 (o_iret))))) (o_iload 1 (o_iconst 4 (o_ieq (o_aload 0 (o_getI 8 38 (o_iret))) (o_aload 0 (o_getI 8 1 (o_iret)))))))))))))))))))))))))
    refine gk_aload_n (j := 0) h (by decide +kernel) rfl ?_
    refine gk_iconst (n := 0) h (by decide +kernel) (by decide) ?_
    refine gk_putI (i := 116) h ck_8 (by decide) rfl (Or.inl rfl) (by decide +kernel) kw_1005 ?_
    refine gk_iload_n (j := 1) h (by decide +kernel) rfl ?_
    refine gk_iconst (n := 0) h (by decide +kernel) (by decide) ?_
    refine gk_iconst (n := 5) h (by decide +kernel) (by decide) ?_
    refine gk_sI (ca_s (idx := 223) h ho hm_114 (rd_le hrd (by decide)) (by decide +kernel) kw_990 kw_991 kw_101 kw_992 (by decide +kernel)) ?_
    refine gk_ifne (off := 5) (tgt := 16) h (by decide +kernel) (by decide) ?_ ?_
    · refine gk_iload_n (j := 1) h (by decide +kernel) rfl ?_
      refine gk_ifne (off := 12) (tgt := 29) h (by decide +kernel) (by decide) ?_ ?_
      · refine gk_iload_n (j := 1) h (by decide +kernel) rfl ?_
        refine gk_iconst (n := 1) h (by decide +kernel) (by decide) ?_
        refine gk_icmpne (off := 12) (tgt := 43) h (by decide +kernel) (by decide) ?_ ?_
        · refine gk_iload_n (j := 1) h (by decide +kernel) rfl ?_
          refine gk_iconst (n := 2) h (by decide +kernel) (by decide) ?_
          refine gk_icmpne (off := 12) (tgt := 57) h (by decide +kernel) (by decide) ?_ ?_
          · refine gk_iload_n (j := 1) h (by decide +kernel) rfl ?_
            refine gk_iconst (n := 3) h (by decide +kernel) (by decide) ?_
            refine gk_icmpne (off := 18) (tgt := 77) h (by decide +kernel) (by decide) ?_ ?_
            · refine gk_iload_n (j := 1) h (by decide +kernel) rfl ?_
              refine gk_iconst (n := 4) h (by decide +kernel) (by decide) ?_
              refine gk_icmpne (off := 10) (tgt := 89) h (by decide +kernel) (by decide) ?_ ?_
              · refine gk_aload_n (j := 0) h (by decide +kernel) rfl ?_
                refine gk_getI (i := 122) h ck_8 (by decide) (fun _ _ _ => rfl) (by decide +kernel) kw_1006 ?_
                exact gk_iret h hR (by decide +kernel)
              · refine gk_aload_n (j := 0) h (by decide +kernel) rfl ?_
                refine gk_getI (i := 274) h ck_8 (by decide) (fun _ _ _ => rfl) (by decide +kernel) kw_1043 ?_
                refine gk_goto (off := 7) (tgt := 93) h (by decide +kernel) (by decide) ?_
                exact gk_iret h hR (by decide +kernel)
            · refine gk_aload_n (j := 0) h (by decide +kernel) rfl ?_
              refine gk_vI (ca_v (idx := 367) h ho hm_165 (rd_le hrd (by decide)) ck_8 (by decide +kernel) kw_1342 kw_1344 kw_77 kw_101 kw_1345 rfl (by decide +kernel) (by decide)) ?_
              refine gk_ifeq (off := 7) (tgt := 73) h (by decide +kernel) (by decide) ?_ ?_
              · refine gk_iconst (n := 0) h (by decide +kernel) (by decide) ?_
                refine gk_goto (off := 19) (tgt := 93) h (by decide +kernel) (by decide) ?_
                exact gk_iret h hR (by decide +kernel)
              · refine gk_iconst (n := 1) h (by decide +kernel) (by decide) ?_
                refine gk_goto (off := 23) (tgt := 93) h (by decide +kernel) (by decide) ?_
                exact gk_iret h hR (by decide +kernel)
          · refine gk_aload_n (j := 0) h (by decide +kernel) rfl ?_
            refine gk_getR (i := 19) h ck_8 (by decide) (fun _ _ _ => rfl) (by decide +kernel) kw_1017 ?_
            refine gk_iconst (n := 0) h (by decide +kernel) (by decide) ?_
            refine gk_ald0 h (by decide +kernel) ?_
            refine gk_goto (off := 39) (tgt := 93) h (by decide +kernel) (by decide) ?_
            exact gk_iret h hR (by decide +kernel)
        · refine gk_aload_n (j := 0) h (by decide +kernel) rfl ?_
          refine gk_getR (i := 16) h ck_8 (by decide) (fun _ _ _ => rfl) (by decide +kernel) kw_1016 ?_
          refine gk_iconst (n := 0) h (by decide +kernel) (by decide) ?_
          refine gk_ald0 h (by decide +kernel) ?_
          refine gk_goto (off := 53) (tgt := 93) h (by decide +kernel) (by decide) ?_
          exact gk_iret h hR (by decide +kernel)
      · refine gk_aload_n (j := 0) h (by decide +kernel) rfl ?_
        refine gk_getR (i := 13) h ck_8 (by decide) (fun _ _ _ => rfl) (by decide +kernel) kw_1015 ?_
        refine gk_iconst (n := 0) h (by decide +kernel) (by decide) ?_
        refine gk_ald0 h (by decide +kernel) ?_
        refine gk_goto (off := 67) (tgt := 93) h (by decide +kernel) (by decide) ?_
        exact gk_iret h hR (by decide +kernel)
    · refine gk_iconst (n := (-1)) h (by decide +kernel) (by decide) ?_
      exact gk_iret h hR (by decide +kernel)
  | _ + 1 => exact fun _ _ _ hr => hr.elim
