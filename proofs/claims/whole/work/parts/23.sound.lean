set_option maxRecDepth 20000 in
set_option maxHeartbeats 4000000 in
theorem s_79 : MS mtab yX6_manyNumbers cX6_manyNumbers 1 (some .int) Q79 P79 := by
  intro X orc d h hR hnm hxn ho hrd b
  match b with
  | 0 =>
    show GK X Q79 0 (o_aload 0 (o_getI 5 1 (o_iconst 3 (o_i2 (fun x y => x + y) (o_aload 0 (o_getI 5 0 (o_sI orc 60 2 (o_iret))))))))
    refine gk_aload_n (j := 0) h (by decide +kernel) rfl ?_
    refine gk_getI (i := 21) h ck_5 (by decide) (fun _ _ _ => rfl) (by decide +kernel) kw_323 ?_
    refine gk_iconst (n := 3) h (by decide +kernel) (by decide) ?_
    refine gk_iadd h (by decide +kernel) ?_
    refine gk_aload_n (j := 0) h (by decide +kernel) rfl ?_
    refine gk_getI (i := 15) h ck_5 (by decide) (fun _ _ _ => rfl) (by decide +kernel) kw_321 ?_
    refine gk_sI (ca_s (idx := 51) h ho hm_60 (rd_le hrd (by decide)) (by decide +kernel) kw_299 kw_300 kw_97 kw_301 (by decide +kernel)) ?_
    exact gk_iret h hR (by decide +kernel)
  | _ + 1 => exact fun _ _ _ hr => hr.elim
set_option maxRecDepth 20000 in
set_option maxHeartbeats 4000000 in
theorem s_80 : MS mtab yX7_init cX7_init 1 none Q80 P80 := by
  intro X orc d h hR hnm hxn ho hrd b
  match b with
  | 0 =>
    show GK X Q80 0 (o_aload 0 (o_obj (o_aload 0 (o_iconst 3125 (o_newa 0 (o_putR 6 0 (o_vret)))))))
    refine gk_aload_n (j := 0) h (by decide +kernel) rfl ?_
    refine gk_obj (i := 3) h (by decide +kernel) kw_270 kw_117 kw_118 ?_
    refine gk_aload_n (j := 0) h (by decide +kernel) rfl ?_
    refine gk_sipush (n := 3125) h (by decide +kernel) (by decide) ?_
    refine gk_newa (aty := .int) h (by decide) (by decide +kernel) rfl kw_190 ?_
    refine gk_putR (i := 9) h ck_6 (by decide) (Or.inr ⟨_, rfl⟩) (Or.inr ⟨rfl, hnm, rfl⟩) (by decide +kernel) kw_271 ?_
    exact gk_vret h hR (by decide +kernel)
  | _ + 1 => exact fun _ _ _ hr => hr.elim
set_option maxRecDepth 20000 in
set_option maxHeartbeats 4000000 in
theorem s_81 : MS mtab yX7_spread cX7_spread 10 none Q81 P81 := by
  intro X orc d h hR hnm hxn ho hrd b
  match b with
  | 0 =>
    show GK X Q81 0 (o_iconst 0 (o_istore 7 (o_jmp 1)))
    refine gk_iconst (n := 0) h (by decide +kernel) (by decide) ?_
    refine gk_istore h (by decide +kernel) hxn (by decide) ?_
    exact gk_jmp 1 rfl
  | 1 =>
    show GK X Q81 3 (o_iload 7 (o_aload 0 (o_getR 6 0 (o_alen (o_ilt (o_aload 0 (o_getR 6 0 (o_iload 7 (o_iconst 0 (o_iast 0 (fun x => x) (o_iinc 7 1 (o_jmp 1))))))) (o_aload 1 (o_lload 2 (o_vI orc 76 2 5 (o_istore 7 (o_iload 7 (o_aload 0 (o_getR 6 0 (o_alen (o_ilt (o_aload 0 (o_getR 6 0 (o_iload 7 (o_iconst 1 (o_iast 0 (fun x => x) (o_iconst 1 (o_istore 8 (o_iconst 0 (o_istore 9 (o_jmp 2)))))))))) (o_vret)))))))))))))))
    refine gk_iload h (by decide +kernel) ?_
    refine gk_aload_n (j := 0) h (by decide +kernel) rfl ?_
    refine gk_getR (i := 9) h ck_6 (by decide) (fun _ _ _ => rfl) (by decide +kernel) kw_271 ?_
    refine gk_alen h (by decide +kernel) ?_
    refine gk_icmpge (off := 17) (tgt := 27) h (by decide +kernel) (by decide) ?_ ?_
    · refine gk_aload_n (j := 1) h (by decide +kernel) rfl ?_
      refine gk_lload_n (j := 2) h (by decide +kernel) rfl ?_
      refine gk_vI (ca_v (idx := 15) h ho hm_76 (rd_le hrd (by decide)) ck_5 (by decide +kernel) kw_806 kw_733 kw_734 kw_97 kw_735 rfl (by decide +kernel) (by decide)) ?_
      refine gk_istore h (by decide +kernel) hxn (by decide) ?_
      refine gk_iload h (by decide +kernel) ?_
      refine gk_aload_n (j := 0) h (by decide +kernel) rfl ?_
      refine gk_getR (i := 9) h ck_6 (by decide) (fun _ _ _ => rfl) (by decide +kernel) kw_271 ?_
      refine gk_alen h (by decide +kernel) ?_
      refine gk_icmplt (off := 4) (tgt := 45) h (by decide +kernel) (by decide) ?_ ?_
      · refine gk_aload_n (j := 0) h (by decide +kernel) rfl ?_
        refine gk_getR (i := 9) h ck_6 (by decide) (fun _ _ _ => rfl) (by decide +kernel) kw_271 ?_
        refine gk_iload h (by decide +kernel) ?_
        refine gk_iconst (n := 1) h (by decide +kernel) (by decide) ?_
        refine gk_ast0 h (by decide +kernel) ?_
        refine gk_iconst (n := 1) h (by decide +kernel) (by decide) ?_
        refine gk_istore h (by decide +kernel) hxn (by decide) ?_
        refine gk_iconst (n := 0) h (by decide +kernel) (by decide) ?_
        refine gk_istore h (by decide +kernel) hxn (by decide) ?_
        exact gk_jmp 2 rfl
      · exact gk_vret h hR (by decide +kernel)
    · refine gk_aload_n (j := 0) h (by decide +kernel) rfl ?_
      refine gk_getR (i := 9) h ck_6 (by decide) (fun _ _ _ => rfl) (by decide +kernel) kw_271 ?_
      refine gk_iload h (by decide +kernel) ?_
      refine gk_iconst (n := 0) h (by decide +kernel) (by decide) ?_
      refine gk_ast0 h (by decide +kernel) ?_
      refine gk_iinc (z := 1) h (by decide +kernel) (by decide) hxn (by decide) ?_
      refine gk_goto (off := (-21)) (tgt := 3) h (by decide +kernel) (by decide) ?_
      exact gk_jmp 1 rfl
  | 2 =>
    show GK X Q81 59 (o_iload 9 (o_iload 5 (o_ilt (o_iload 8 (o_if0 (o_vret) (o_aload 0 (o_aload 1 (o_iload 4 (o_iload 9 (o_i2 (fun x y => x + y) (o_iconst 1 (o_i2 (fun x y => x &&& y) (o_iload 6 (o_vI orc 82 4 6 (o_istore 8 (o_iinc 9 1 (o_jmp 2)))))))))))))) (o_vret))))
    refine gk_iload h (by decide +kernel) ?_
    refine gk_iload h (by decide +kernel) ?_
    refine gk_icmpge (off := 30) (tgt := 93) h (by decide +kernel) (by decide) ?_ ?_
    · exact gk_vret h hR (by decide +kernel)
    · refine gk_iload h (by decide +kernel) ?_
      refine gk_ifeq (off := 25) (tgt := 93) h (by decide +kernel) (by decide) ?_ ?_
      · exact gk_vret h hR (by decide +kernel)
      · refine gk_aload_n (j := 0) h (by decide +kernel) rfl ?_
        refine gk_aload_n (j := 1) h (by decide +kernel) rfl ?_
        refine gk_iload h (by decide +kernel) ?_
        refine gk_iload h (by decide +kernel) ?_
        refine gk_iadd h (by decide +kernel) ?_
        refine gk_iconst (n := 1) h (by decide +kernel) (by decide) ?_
        refine gk_iand h (by decide +kernel) ?_
        refine gk_iload h (by decide +kernel) ?_
        refine gk_vI (ca_v (idx := 21) h ho hm_82 (rd_le hrd (by decide)) ck_6 (by decide +kernel) kw_807 kw_809 kw_35 kw_96 kw_810 rfl (by decide +kernel) (by decide)) ?_
        refine gk_istore h (by decide +kernel) hxn (by decide) ?_
        refine gk_iinc (z := 1) h (by decide +kernel) (by decide) hxn (by decide) ?_
        refine gk_goto (off := (-31)) (tgt := 59) h (by decide +kernel) (by decide) ?_
        exact gk_jmp 2 rfl
  | _ + 3 => exact fun _ _ _ hr => hr.elim
set_option maxRecDepth 20000 in
set_option maxHeartbeats 4000000 in
theorem s_82 : MS mtab yX7_spreadDay cX7_spreadDay 7 (some .boolean) Q82 P82 := by
  intro X orc d h hR hnm hxn ho hrd b
  match b with
  | 0 =>
    show GK X Q82 0 (o_iconst 0 (o_istore 4 (o_aload 0 (o_getR 6 0 (o_alen (o_aload 1 (o_vI orc 79 1 5 (o_min (o_iconst 1 (o_i2 (fun x y => x - y) (o_istore 5 (o_jmp 1))))))))))))
    refine gk_iconst (n := 0) h (by decide +kernel) (by decide) ?_
    refine gk_istore h (by decide +kernel) hxn (by decide) ?_
    refine gk_aload_n (j := 0) h (by decide +kernel) rfl ?_
    refine gk_getR (i := 9) h ck_6 (by decide) (fun _ _ _ => rfl) (by decide +kernel) kw_271 ?_
    refine gk_alen h (by decide +kernel) ?_
    refine gk_aload_n (j := 1) h (by decide +kernel) rfl ?_
    refine gk_vI (ca_v (idx := 25) h ho hm_79 (rd_le hrd (by decide)) ck_5 (by decide +kernel) kw_811 kw_812 kw_813 kw_97 kw_814 rfl (by decide +kernel) (by decide)) ?_
    refine gk_min (i := 29) h (by decide +kernel) kw_815 kw_816 kw_110 kw_817 ?_
    refine gk_iconst (n := 1) h (by decide +kernel) (by decide) ?_
    refine gk_isub h (by decide +kernel) ?_
    refine gk_istore h (by decide +kernel) hxn (by decide) ?_
    exact gk_jmp 1 rfl
  | 1 =>
    show GK X Q82 19 (o_iload 5 (o_ifn (o_iload 4 (o_zret)) (o_aload 0 (o_getR 6 0 (o_iload 5 (o_iald 0 (o_if0 (o_jmp 2) (o_aload 0 (o_getR 6 0 (o_iload 5 (o_iald 0 (o_istore 6 (o_aload 0 (o_getR 6 0 (o_iload 5 (o_iconst 0 (o_iast 0 (fun x => x) (o_aload 0 (o_aload 1 (o_aload 1 (o_iload 5 (o_vL orc 78 2 5 (o_iload 2 (o_iload 6 (o_iload 3 (o_vV orc 83 6 6 (o_iconst 1 (o_istore 4 (o_jmp 2)))))))))))))))))))))))))))))
    refine gk_iload h (by decide +kernel) ?_
    refine gk_iflt (off := 54) (tgt := 75) h (by decide +kernel) (by decide) ?_ ?_
    · refine gk_iload h (by decide +kernel) ?_
      exact gk_zret h hR (by decide +kernel)
    · refine gk_aload_n (j := 0) h (by decide +kernel) rfl ?_
      refine gk_getR (i := 9) h ck_6 (by decide) (fun _ _ _ => rfl) (by decide +kernel) kw_271 ?_
      refine gk_iload h (by decide +kernel) ?_
      refine gk_ald0 h (by decide +kernel) ?_
      refine gk_ifeq (off := 38) (tgt := 69) h (by decide +kernel) (by decide) ?_ ?_
      · exact gk_jmp 2 rfl
      · refine gk_aload_n (j := 0) h (by decide +kernel) rfl ?_
        refine gk_getR (i := 9) h ck_6 (by decide) (fun _ _ _ => rfl) (by decide +kernel) kw_271 ?_
        refine gk_iload h (by decide +kernel) ?_
        refine gk_ald0 h (by decide +kernel) ?_
        refine gk_istore h (by decide +kernel) hxn (by decide) ?_
        refine gk_aload_n (j := 0) h (by decide +kernel) rfl ?_
        refine gk_getR (i := 9) h ck_6 (by decide) (fun _ _ _ => rfl) (by decide +kernel) kw_271 ?_
        refine gk_iload h (by decide +kernel) ?_
        refine gk_iconst (n := 0) h (by decide +kernel) (by decide) ?_
        refine gk_ast0 h (by decide +kernel) ?_
        refine gk_aload_n (j := 0) h (by decide +kernel) rfl ?_
        refine gk_aload_n (j := 1) h (by decide +kernel) rfl ?_
        refine gk_aload_n (j := 1) h (by decide +kernel) rfl ?_
        refine gk_iload h (by decide +kernel) ?_
        refine gk_vL (ca_v (idx := 35) h ho hm_78 (rd_le hrd (by decide)) ck_5 (by decide +kernel) kw_818 kw_819 kw_820 kw_97 kw_821 rfl (by decide +kernel) (by decide)) ?_
        refine gk_iload_n (j := 2) h (by decide +kernel) rfl ?_
        refine gk_iload h (by decide +kernel) ?_
        refine gk_iload_n (j := 3) h (by decide +kernel) rfl ?_
        refine gk_vV (ca_v (idx := 39) h ho hm_83 (rd_le hrd (by decide)) ck_6 (by decide +kernel) kw_822 kw_824 kw_36 kw_96 kw_825 rfl (by decide +kernel) (by decide)) ?_
        refine gk_iconst (n := 1) h (by decide +kernel) (by decide) ?_
        refine gk_istore h (by decide +kernel) hxn (by decide) ?_
        exact gk_jmp 2 rfl
  | 2 =>
    show GK X Q82 69 (o_iinc 5 (-1) (o_jmp 1))
    refine gk_iinc (z := (-1)) h (by decide +kernel) (by decide) hxn (by decide) ?_
    refine gk_goto (off := (-53)) (tgt := 19) h (by decide +kernel) (by decide) ?_
    exact gk_jmp 1 rfl
  | _ + 3 => exact fun _ _ _ hr => hr.elim
set_option maxRecDepth 20000 in
set_option maxHeartbeats 4000000 in
theorem s_83 : MS mtab yX7_spreadWall cX7_spreadWall 10 none Q83 P83 := by
  intro X orc d h hR hnm hxn ho hrd b
  match b with
  | 0 =>
    show GK X Q83 0 (o_iconst 0 (o_istore 7 (o_jmp 1)))
    refine gk_iconst (n := 0) h (by decide +kernel) (by decide) ?_
    refine gk_istore h (by decide +kernel) hxn (by decide) ?_
    exact gk_jmp 1 rfl
  | 1 =>
    show GK X Q83 3 (o_iload 7 (o_aload 1 (o_getR 5 8 (o_alen (o_ilt (o_aload 1 (o_getR 5 8 (o_iload 7 (o_iald 0 (o_istore 8 (o_aload 1 (o_lload 2 (o_iload 4 (o_iload 8 (o_vI orc 71 4 5 (o_if0 (o_jmp 3) (o_aload 1 (o_aload 1 (o_lload 2 (o_iload 4 (o_iload 8 (o_vL orc 73 4 5 (o_vI orc 76 2 5 (o_istore 9 (o_iload 9 (o_aload 0 (o_getR 6 0 (o_alen (o_ilt (o_aload 0 (o_getR 6 0 (o_iload 9 (o_iload 6 (o_if0 (o_iconst 1 (o_jmp 2)) (o_aload 0 (o_getR 6 0 (o_iload 9 (o_iald 0 (o_i2l (o_iload 5 (o_i2l (o_l2 (fun x y => x + y) (o_lconst 1000000007 (o_l2z (fun x y => x - x / y * y) (o_l2i (o_jmp 2))))))))))))))))) (o_jmp 3))))))))))))))))))))))))) (o_vret))))))
    refine gk_iload h (by decide +kernel) ?_
    refine gk_aload_n (j := 1) h (by decide +kernel) rfl ?_
    refine gk_getR (i := 43) h ck_5 (by decide) (fun _ _ _ => rfl) (by decide +kernel) kw_338 ?_
    refine gk_alen h (by decide +kernel) ?_
    refine gk_icmpge (off := 88) (tgt := 98) h (by decide +kernel) (by decide) ?_ ?_
    · exact gk_vret h hR (by decide +kernel)
    · refine gk_aload_n (j := 1) h (by decide +kernel) rfl ?_
      refine gk_getR (i := 43) h ck_5 (by decide) (fun _ _ _ => rfl) (by decide +kernel) kw_338 ?_
      refine gk_iload h (by decide +kernel) ?_
      refine gk_ald0 h (by decide +kernel) ?_
      refine gk_istore h (by decide +kernel) hxn (by decide) ?_
      refine gk_aload_n (j := 1) h (by decide +kernel) rfl ?_
      refine gk_lload_n (j := 2) h (by decide +kernel) rfl ?_
      refine gk_iload h (by decide +kernel) ?_
      refine gk_iload h (by decide +kernel) ?_
      refine gk_vI (ca_v (idx := 46) h ho hm_71 (rd_le hrd (by decide)) ck_5 (by decide +kernel) kw_826 kw_394 kw_395 kw_97 kw_396 rfl (by decide +kernel) (by decide)) ?_
      refine gk_ifeq (off := 61) (tgt := 92) h (by decide +kernel) (by decide) ?_ ?_
      · exact gk_jmp 3 rfl
      · refine gk_aload_n (j := 1) h (by decide +kernel) rfl ?_
        refine gk_aload_n (j := 1) h (by decide +kernel) rfl ?_
        refine gk_lload_n (j := 2) h (by decide +kernel) rfl ?_
        refine gk_iload h (by decide +kernel) ?_
        refine gk_iload h (by decide +kernel) ?_
        refine gk_vL (ca_v (idx := 50) h ho hm_73 (rd_le hrd (by decide)) ck_5 (by decide +kernel) kw_827 kw_670 kw_671 kw_97 kw_672 rfl (by decide +kernel) (by decide)) ?_
        refine gk_vI (ca_v (idx := 15) h ho hm_76 (rd_le hrd (by decide)) ck_5 (by decide +kernel) kw_806 kw_733 kw_734 kw_97 kw_735 rfl (by decide +kernel) (by decide)) ?_
        refine gk_istore h (by decide +kernel) hxn (by decide) ?_
        refine gk_iload h (by decide +kernel) ?_
        refine gk_aload_n (j := 0) h (by decide +kernel) rfl ?_
        refine gk_getR (i := 9) h ck_6 (by decide) (fun _ _ _ => rfl) (by decide +kernel) kw_271 ?_
        refine gk_alen h (by decide +kernel) ?_
        refine gk_icmpge (off := 36) (tgt := 92) h (by decide +kernel) (by decide) ?_ ?_
        · exact gk_jmp 3 rfl
        · refine gk_aload_n (j := 0) h (by decide +kernel) rfl ?_
          refine gk_getR (i := 9) h ck_6 (by decide) (fun _ _ _ => rfl) (by decide +kernel) kw_271 ?_
          refine gk_iload h (by decide +kernel) ?_
          refine gk_iload h (by decide +kernel) ?_
          refine gk_ifeq (off := 23) (tgt := 90) h (by decide +kernel) (by decide) ?_ ?_
          · refine gk_iconst (n := 1) h (by decide +kernel) (by decide) ?_
            exact gk_jmp 2 rfl
          · refine gk_aload_n (j := 0) h (by decide +kernel) rfl ?_
            refine gk_getR (i := 9) h ck_6 (by decide) (fun _ _ _ => rfl) (by decide +kernel) kw_271 ?_
            refine gk_iload h (by decide +kernel) ?_
            refine gk_ald0 h (by decide +kernel) ?_
            refine gk_i2l h (by decide +kernel) ?_
            refine gk_iload h (by decide +kernel) ?_
            refine gk_i2l h (by decide +kernel) ?_
            refine gk_ladd h (by decide +kernel) ?_
            refine gk_ldc2 (i := 54) h (by decide +kernel) kw_828 ?_
            refine gk_lrem h (by decide +kernel) ?_
            refine gk_l2i h (by decide +kernel) ?_
            refine gk_goto (off := 4) (tgt := 91) h (by decide +kernel) (by decide) ?_
            exact gk_jmp 2 rfl
  | 2 =>
    show GK X Q83 91 (o_iast 0 (fun x => x) (o_jmp 3))
    refine gk_ast0 h (by decide +kernel) ?_
    exact gk_jmp 3 rfl
  | 3 =>
    show GK X Q83 92 (o_iinc 7 1 (o_jmp 1))
    refine gk_iinc (z := 1) h (by decide +kernel) (by decide) hxn (by decide) ?_
    refine gk_goto (off := (-92)) (tgt := 3) h (by decide +kernel) (by decide) ?_
    exact gk_jmp 1 rfl
  | _ + 4 => exact fun _ _ _ hr => hr.elim
set_option maxRecDepth 20000 in
set_option maxHeartbeats 4000000 in
theorem s_84 : MS mtab yX7_unlikeWalls cX7_unlikeWalls 5 (some .int) Q84 P84 := by
  intro X orc d h hR hnm hxn ho hrd b
  match b with
  | 0 =>
    show GK X Q84 0 (o_iconst 0 (o_istore 2 (o_aload 0 (o_getR 6 0 (o_alen (o_iconst 1 (o_i2 (fun x y => x - y) (o_istore 3 (o_jmp 1)))))))))
    refine gk_iconst (n := 0) h (by decide +kernel) (by decide) ?_
    refine gk_istore_n (j := 2) h (by decide +kernel) rfl hxn (by decide) ?_
    refine gk_aload_n (j := 0) h (by decide +kernel) rfl ?_
    refine gk_getR (i := 9) h ck_6 (by decide) (fun _ _ _ => rfl) (by decide +kernel) kw_271 ?_
    refine gk_alen h (by decide +kernel) ?_
    refine gk_iconst (n := 1) h (by decide +kernel) (by decide) ?_
    refine gk_isub h (by decide +kernel) ?_
    refine gk_istore_n (j := 3) h (by decide +kernel) rfl hxn (by decide) ?_
    exact gk_jmp 1 rfl
  | 1 =>
    show GK X Q84 10 (o_iload 3 (o_ifn (o_iload 2 (o_iret)) (o_aload 0 (o_getR 6 0 (o_iload 3 (o_iald 0 (o_if0 (o_jmp 2) (o_aload 1 (o_aload 1 (o_iload 3 (o_vL orc 78 2 5 (o_vI orc 77 2 5 (o_istore 4 (o_iload 4 (o_iload 3 (o_ieq (o_iinc 2 1 (o_jmp 2)) (o_iload 4 (o_aload 0 (o_getR 6 0 (o_alen (o_ilt (o_aload 0 (o_getR 6 0 (o_iload 4 (o_iconst 1 (o_iast 0 (fun x => x) (o_jmp 2)))))) (o_jmp 2))))))))))))))))))))))
    refine gk_iload_n (j := 3) h (by decide +kernel) rfl ?_
    refine gk_iflt (off := 59) (tgt := 70) h (by decide +kernel) (by decide) ?_ ?_
    · refine gk_iload_n (j := 2) h (by decide +kernel) rfl ?_
      exact gk_iret h hR (by decide +kernel)
    · refine gk_aload_n (j := 0) h (by decide +kernel) rfl ?_
      refine gk_getR (i := 9) h ck_6 (by decide) (fun _ _ _ => rfl) (by decide +kernel) kw_271 ?_
      refine gk_iload_n (j := 3) h (by decide +kernel) rfl ?_
      refine gk_ald0 h (by decide +kernel) ?_
      refine gk_ifeq (off := 44) (tgt := 64) h (by decide +kernel) (by decide) ?_ ?_
      · exact gk_jmp 2 rfl
      · refine gk_aload_n (j := 1) h (by decide +kernel) rfl ?_
        refine gk_aload_n (j := 1) h (by decide +kernel) rfl ?_
        refine gk_iload_n (j := 3) h (by decide +kernel) rfl ?_
        refine gk_vL (ca_v (idx := 35) h ho hm_78 (rd_le hrd (by decide)) ck_5 (by decide +kernel) kw_818 kw_819 kw_820 kw_97 kw_821 rfl (by decide +kernel) (by decide)) ?_
        refine gk_vI (ca_v (idx := 56) h ho hm_77 (rd_le hrd (by decide)) ck_5 (by decide +kernel) kw_833 kw_834 kw_835 kw_97 kw_836 rfl (by decide +kernel) (by decide)) ?_
        refine gk_istore h (by decide +kernel) hxn (by decide) ?_
        refine gk_iload h (by decide +kernel) ?_
        refine gk_iload_n (j := 3) h (by decide +kernel) rfl ?_
        refine gk_icmpne (off := 9) (tgt := 46) h (by decide +kernel) (by decide) ?_ ?_
        · refine gk_iload h (by decide +kernel) ?_
          refine gk_aload_n (j := 0) h (by decide +kernel) rfl ?_
          refine gk_getR (i := 9) h ck_6 (by decide) (fun _ _ _ => rfl) (by decide +kernel) kw_271 ?_
          refine gk_alen h (by decide +kernel) ?_
          refine gk_icmpge (off := 11) (tgt := 64) h (by decide +kernel) (by decide) ?_ ?_
          · exact gk_jmp 2 rfl
          · refine gk_aload_n (j := 0) h (by decide +kernel) rfl ?_
            refine gk_getR (i := 9) h ck_6 (by decide) (fun _ _ _ => rfl) (by decide +kernel) kw_271 ?_
            refine gk_iload h (by decide +kernel) ?_
            refine gk_iconst (n := 1) h (by decide +kernel) (by decide) ?_
            refine gk_ast0 h (by decide +kernel) ?_
            exact gk_jmp 2 rfl
        · refine gk_iinc (z := 1) h (by decide +kernel) (by decide) hxn (by decide) ?_
          refine gk_goto (off := 21) (tgt := 64) h (by decide +kernel) (by decide) ?_
          exact gk_jmp 2 rfl
  | 2 =>
    show GK X Q84 64 (o_iinc 3 (-1) (o_jmp 1))
    refine gk_iinc (z := (-1)) h (by decide +kernel) (by decide) hxn (by decide) ?_
    refine gk_goto (off := (-57)) (tgt := 10) h (by decide +kernel) (by decide) ?_
    exact gk_jmp 1 rfl
  | _ + 3 => exact fun _ _ _ hr => hr.elim
set_option maxRecDepth 20000 in
set_option maxHeartbeats 4000000 in
theorem s_85 : MS mtab yX7_waysTo cX7_waysTo 8 (some .int) Q85 P85 := by
  intro X orc d h hR hnm hxn ho hrd b
  match b with
  | 0 =>
    show GK X Q85 0 (o_aload 1 (o_lload 2 (o_vI orc 77 2 5 (o_istore 4 (o_lconst 0 (o_lstore 5 (o_iconst 0 (o_istore 7 (o_jmp 1)))))))))
    refine gk_aload_n (j := 1) h (by decide +kernel) rfl ?_
    refine gk_lload_n (j := 2) h (by decide +kernel) rfl ?_
    refine gk_vI (ca_v (idx := 56) h ho hm_77 (rd_le hrd (by decide)) ck_5 (by decide +kernel) kw_833 kw_834 kw_835 kw_97 kw_836 rfl (by decide +kernel) (by decide)) ?_
    refine gk_istore h (by decide +kernel) hxn (by decide) ?_
    refine gk_lconst (n := 0) h (by decide +kernel) rfl ?_
    refine gk_lstore h (by decide +kernel) hxn (by decide) ?_
    refine gk_iconst (n := 0) h (by decide +kernel) (by decide) ?_
    refine gk_istore h (by decide +kernel) hxn (by decide) ?_
    exact gk_jmp 1 rfl
  | 1 =>
    show GK X Q85 13 (o_iload 7 (o_aload 0 (o_getR 6 0 (o_alen (o_ilt (o_aload 0 (o_getR 6 0 (o_iload 7 (o_iald 0 (o_if0 (o_jmp 2) (o_aload 1 (o_aload 1 (o_iload 7 (o_vL orc 78 2 5 (o_vI orc 77 2 5 (o_iload 4 (o_ieq (o_lload 5 (o_aload 0 (o_getR 6 0 (o_iload 7 (o_iald 0 (o_i2l (o_l2 (fun x y => x + y) (o_lstore 5 (o_jmp 2))))))))) (o_jmp 2))))))))))))) (o_lload 5 (o_lconst 1000000007 (o_l2z (fun x y => x - x / y * y) (o_l2i (o_iret))))))))))
    refine gk_iload h (by decide +kernel) ?_
    refine gk_aload_n (j := 0) h (by decide +kernel) rfl ?_
    refine gk_getR (i := 9) h ck_6 (by decide) (fun _ _ _ => rfl) (by decide +kernel) kw_271 ?_
    refine gk_alen h (by decide +kernel) ?_
    refine gk_icmpge (off := 47) (tgt := 67) h (by decide +kernel) (by decide) ?_ ?_
    · refine gk_lload h (by decide +kernel) ?_
      refine gk_ldc2 (i := 54) h (by decide +kernel) kw_828 ?_
      refine gk_lrem h (by decide +kernel) ?_
      refine gk_l2i h (by decide +kernel) ?_
      exact gk_iret h hR (by decide +kernel)
    · refine gk_aload_n (j := 0) h (by decide +kernel) rfl ?_
      refine gk_getR (i := 9) h ck_6 (by decide) (fun _ _ _ => rfl) (by decide +kernel) kw_271 ?_
      refine gk_iload h (by decide +kernel) ?_
      refine gk_ald0 h (by decide +kernel) ?_
      refine gk_ifeq (off := 31) (tgt := 61) h (by decide +kernel) (by decide) ?_ ?_
      · exact gk_jmp 2 rfl
      · refine gk_aload_n (j := 1) h (by decide +kernel) rfl ?_
        refine gk_aload_n (j := 1) h (by decide +kernel) rfl ?_
        refine gk_iload h (by decide +kernel) ?_
        refine gk_vL (ca_v (idx := 35) h ho hm_78 (rd_le hrd (by decide)) ck_5 (by decide +kernel) kw_818 kw_819 kw_820 kw_97 kw_821 rfl (by decide +kernel) (by decide)) ?_
        refine gk_vI (ca_v (idx := 56) h ho hm_77 (rd_le hrd (by decide)) ck_5 (by decide +kernel) kw_833 kw_834 kw_835 kw_97 kw_836 rfl (by decide +kernel) (by decide)) ?_
        refine gk_iload h (by decide +kernel) ?_
        refine gk_icmpne (off := 16) (tgt := 61) h (by decide +kernel) (by decide) ?_ ?_
        · exact gk_jmp 2 rfl
        · refine gk_lload h (by decide +kernel) ?_
          refine gk_aload_n (j := 0) h (by decide +kernel) rfl ?_
          refine gk_getR (i := 9) h ck_6 (by decide) (fun _ _ _ => rfl) (by decide +kernel) kw_271 ?_
          refine gk_iload h (by decide +kernel) ?_
          refine gk_ald0 h (by decide +kernel) ?_
          refine gk_i2l h (by decide +kernel) ?_
          refine gk_ladd h (by decide +kernel) ?_
          refine gk_lstore h (by decide +kernel) hxn (by decide) ?_
          exact gk_jmp 2 rfl
  | 2 =>
    show GK X Q85 61 (o_iinc 7 1 (o_jmp 1))
    refine gk_iinc (z := 1) h (by decide +kernel) (by decide) hxn (by decide) ?_
    refine gk_goto (off := (-51)) (tgt := 13) h (by decide +kernel) (by decide) ?_
    exact gk_jmp 1 rfl
  | _ + 3 => exact fun _ _ _ hr => hr.elim
set_option maxRecDepth 20000 in
set_option maxHeartbeats 4000000 in
theorem s_86 : MS mtab yX8_init cX8_init 2 none Q86 P86 := by
  intro X orc d h hR hnm hxn ho hrd b
  match b with
  | 0 =>
    show GK X Q86 0 (o_aload 0 (o_obj (o_aload 0 (o_iconst 1000 (o_newa 2 (o_putR 7 0 (o_aload 0 (o_iconst 0 (o_putI 7 1 (o_aload 0 (o_new 2 (o_dup (o_nV orc 18 1 (o_putR 7 2 (o_aload 0 (o_new 4 (o_dup (o_nV orc 49 1 (o_putR 7 4 (o_aload 0 (o_iconst 4 (o_newa 5 (o_putR 7 5 (o_aload 0 (o_new 1 (o_dup (o_nV orc 8 1 (o_putR 7 6 (o_aload 0 (o_new 1 (o_dup (o_nV orc 8 1 (o_putR 7 7 (o_aload 0 (o_new 6 (o_dup (o_nV orc 80 1 (o_putR 7 8 (o_aload 0 (o_iconst 250 (o_newa 0 (o_putR 7 9 (o_aload 0 (o_iconst 0 (o_putI 7 10 (o_aload 0 (o_iconst 250 (o_newa 0 (o_putR 7 11 (o_aload 0 (o_aload 0 (o_getR 7 2 (o_vR orc 19 1 2 (o_putR 7 3 (o_aload 0 (o_getR 7 4 (o_vV orc 51 1 4 (o_iconst 0 (o_istore 1 (o_jmp 1))))))))))))))))))))))))))))))))))))))))))))))))))))))))))))
    refine gk_aload_n (j := 0) h (by decide +kernel) rfl ?_
    refine gk_obj (i := 1) h (by decide +kernel) kw_116 kw_117 kw_118 ?_
    refine gk_aload_n (j := 0) h (by decide +kernel) rfl ?_
    refine gk_sipush (n := 1000) h (by decide +kernel) (by decide) ?_
    refine gk_newa (aty := .char) h (by decide) (by decide +kernel) rfl kw_189 ?_
    refine gk_putR (i := 9) h ck_7 (by decide) (Or.inr ⟨_, rfl⟩) (Or.inr ⟨rfl, hnm, rfl⟩) (by decide +kernel) kw_440 ?_
    refine gk_aload_n (j := 0) h (by decide +kernel) rfl ?_
    refine gk_iconst (n := 0) h (by decide +kernel) (by decide) ?_
    refine gk_putI (i := 13) h ck_7 (by decide) rfl (Or.inl rfl) (by decide +kernel) kw_441 ?_
    refine gk_aload_n (j := 0) h (by decide +kernel) rfl ?_
    refine gk_new (i := 17) h ck_2 (by decide +kernel) kw_119 kw_120 kw_92 nd_2 ?_
    refine gk_dup h (by decide +kernel) ?_
    refine gk_nV (ca_nN (idx := 19) h ho hm_18 (rd_le hrd (by decide)) (by decide +kernel) (by decide +kernel) kw_122 kw_92 kw_123 rfl (by decide +kernel) (by decide)) ?_
    refine gk_putR (i := 20) h ck_7 (by decide) (Or.inl ⟨_, rfl⟩) (Or.inr ⟨rfl, hnm, rfl⟩) (by decide +kernel) kw_442 ?_
    refine gk_aload_n (j := 0) h (by decide +kernel) rfl ?_
    refine gk_new (i := 24) h ck_4 (by decide +kernel) kw_192 kw_193 kw_93 nd_4 ?_
    refine gk_dup h (by decide +kernel) ?_
    refine gk_nV (ca_nN (idx := 26) h ho hm_49 (rd_le hrd (by decide)) (by decide +kernel) (by decide +kernel) kw_195 kw_93 kw_196 rfl (by decide +kernel) (by decide)) ?_
    refine gk_putR (i := 27) h ck_7 (by decide) (Or.inl ⟨_, rfl⟩) (Or.inr ⟨rfl, hnm, rfl⟩) (by decide +kernel) kw_444 ?_
    refine gk_aload_n (j := 0) h (by decide +kernel) rfl ?_
    refine gk_iconst (n := 4) h (by decide +kernel) (by decide) ?_
    refine gk_anew (i := 31) h (by decide +kernel) kw_244 ?_
    refine gk_putR (i := 33) h ck_7 (by decide) (Or.inr ⟨_, rfl⟩) (Or.inr ⟨rfl, hnm, rfl⟩) (by decide +kernel) kw_445 ?_
    refine gk_aload_n (j := 0) h (by decide +kernel) rfl ?_
    refine gk_new (i := 37) h ck_1 (by decide +kernel) kw_246 kw_247 kw_95 nd_1 ?_
    refine gk_dup h (by decide +kernel) ?_
    refine gk_nV (ca_nN (idx := 39) h ho hm_8 (rd_le hrd (by decide)) (by decide +kernel) (by decide +kernel) kw_249 kw_95 kw_250 rfl (by decide +kernel) (by decide)) ?_
    refine gk_putR (i := 40) h ck_7 (by decide) (Or.inl ⟨_, rfl⟩) (Or.inr ⟨rfl, hnm, rfl⟩) (by decide +kernel) kw_446 ?_
    refine gk_aload_n (j := 0) h (by decide +kernel) rfl ?_
    refine gk_new (i := 37) h ck_1 (by decide +kernel) kw_246 kw_247 kw_95 nd_1 ?_
    refine gk_dup h (by decide +kernel) ?_
    refine gk_nV (ca_nN (idx := 39) h ho hm_8 (rd_le hrd (by decide)) (by decide +kernel) (by decide +kernel) kw_249 kw_95 kw_250 rfl (by decide +kernel) (by decide)) ?_
    refine gk_putR (i := 44) h ck_7 (by decide) (Or.inl ⟨_, rfl⟩) (Or.inr ⟨rfl, hnm, rfl⟩) (by decide +kernel) kw_447 ?_
    refine gk_aload_n (j := 0) h (by decide +kernel) rfl ?_
    refine gk_new (i := 47) h ck_6 (by decide +kernel) kw_265 kw_266 kw_96 nd_6 ?_
    refine gk_dup h (by decide +kernel) ?_
    refine gk_nV (ca_nN (idx := 49) h ho hm_80 (rd_le hrd (by decide)) (by decide +kernel) (by decide +kernel) kw_268 kw_96 kw_269 rfl (by decide +kernel) (by decide)) ?_
    refine gk_putR (i := 50) h ck_7 (by decide) (Or.inl ⟨_, rfl⟩) (Or.inr ⟨rfl, hnm, rfl⟩) (by decide +kernel) kw_448 ?_
    refine gk_aload_n (j := 0) h (by decide +kernel) rfl ?_
    refine gk_sipush (n := 250) h (by decide +kernel) (by decide) ?_
    refine gk_newa (aty := .int) h (by decide) (by decide +kernel) rfl kw_190 ?_
    refine gk_putR (i := 56) h ck_7 (by decide) (Or.inr ⟨_, rfl⟩) (Or.inr ⟨rfl, hnm, rfl⟩) (by decide +kernel) kw_449 ?_
    refine gk_aload_n (j := 0) h (by decide +kernel) rfl ?_
    refine gk_iconst (n := 0) h (by decide +kernel) (by decide) ?_
    refine gk_putI (i := 60) h ck_7 (by decide) rfl (Or.inl rfl) (by decide +kernel) kw_450 ?_
    refine gk_aload_n (j := 0) h (by decide +kernel) rfl ?_
    refine gk_sipush (n := 250) h (by decide +kernel) (by decide) ?_
    refine gk_newa (aty := .int) h (by decide) (by decide +kernel) rfl kw_190 ?_
    refine gk_putR (i := 63) h ck_7 (by decide) (Or.inr ⟨_, rfl⟩) (Or.inr ⟨rfl, hnm, rfl⟩) (by decide +kernel) kw_451 ?_
    refine gk_aload_n (j := 0) h (by decide +kernel) rfl ?_
    refine gk_aload_n (j := 0) h (by decide +kernel) rfl ?_
    refine gk_getR (i := 20) h ck_7 (by decide) (fun _ _ _ => rfl) (by decide +kernel) kw_442 ?_
    refine gk_vR (ca_v (idx := 66) h ho hm_19 (rd_le hrd (by decide)) ck_2 (by decide +kernel) kw_275 kw_276 kw_277 kw_92 kw_278 rfl (by decide +kernel) (by decide)) ?_
    refine gk_putR (i := 70) h ck_7 (by decide) (Or.inl ⟨_, rfl⟩) (Or.inl rfl) (by decide +kernel) kw_443 ?_
    refine gk_aload_n (j := 0) h (by decide +kernel) rfl ?_
    refine gk_getR (i := 27) h ck_7 (by decide) (fun _ _ _ => rfl) (by decide +kernel) kw_444 ?_
    refine gk_vV (ca_v (idx := 74) h ho hm_51 (rd_le hrd (by decide)) ck_4 (by decide +kernel) kw_359 kw_360 kw_361 kw_93 kw_362 rfl (by decide +kernel) (by decide)) ?_
    refine gk_iconst (n := 0) h (by decide +kernel) (by decide) ?_
    refine gk_istore_n (j := 1) h (by decide +kernel) rfl hxn (by decide) ?_
    exact gk_jmp 1 rfl
  | 1 =>
    show GK X Q86 124 (o_iload 1 (o_aload 0 (o_getR 7 5 (o_alen (o_ilt (o_aload 0 (o_getR 7 5 (o_iload 1 (o_new 0 (o_dup (o_nV orc 6 1 (o_aast (o_iinc 1 1 (o_jmp 1))))))))) (o_aload 0 (o_vV orc 107 1 7 (o_vret))))))))
    refine gk_iload_n (j := 1) h (by decide +kernel) rfl ?_
    refine gk_aload_n (j := 0) h (by decide +kernel) rfl ?_
    refine gk_getR (i := 33) h ck_7 (by decide) (fun _ _ _ => rfl) (by decide +kernel) kw_445 ?_
    refine gk_alen h (by decide +kernel) ?_
    refine gk_icmpge (off := 22) (tgt := 152) h (by decide +kernel) (by decide) ?_ ?_
    · refine gk_aload_n (j := 0) h (by decide +kernel) rfl ?_
      refine gk_vV (ca_v (idx := 78) h ho hm_107 (rd_le hrd (by decide)) ck_7 (by decide +kernel) kw_381 kw_383 kw_1 kw_91 kw_384 rfl (by decide +kernel) (by decide)) ?_
      exact gk_vret h hR (by decide +kernel)
    · refine gk_aload_n (j := 0) h (by decide +kernel) rfl ?_
      refine gk_getR (i := 33) h ck_7 (by decide) (fun _ _ _ => rfl) (by decide +kernel) kw_445 ?_
      refine gk_iload_n (j := 1) h (by decide +kernel) rfl ?_
      refine gk_new (i := 31) h ck_0 (by decide +kernel) kw_244 kw_363 kw_100 nd_0 ?_
      refine gk_dup h (by decide +kernel) ?_
      refine gk_nV (ca_nN (idx := 77) h ho hm_6 (rd_le hrd (by decide)) (by decide +kernel) (by decide +kernel) kw_365 kw_100 kw_366 rfl (by decide +kernel) (by decide)) ?_
      refine gk_aast h (by decide +kernel) ?_
      refine gk_iinc (z := 1) h (by decide +kernel) (by decide) hxn (by decide) ?_
      refine gk_goto (off := (-25)) (tgt := 124) h (by decide +kernel) (by decide) ?_
      exact gk_jmp 1 rfl
  | _ + 2 => exact fun _ _ _ hr => hr.elim
set_option maxRecDepth 20000 in
set_option maxHeartbeats 4000000 in
theorem s_87 : MS mtab yX8_feed cX8_feed 7 (some .int) Q87 P87 := by
  intro X orc d h hR hnm hxn ho hrd b
  match b with
  | 0 =>
    show GK X Q87 0 (o_aload 0 (o_lload 1 (o_vV orc 106 2 7 (o_aload 0 (o_lload 3 (o_vV orc 106 2 7 (o_aload 0 (o_lload 5 (o_vV orc 106 2 7 (o_aload 0 (o_getI 7 1 (o_iret))))))))))))
    refine gk_aload_n (j := 0) h (by decide +kernel) rfl ?_
    refine gk_lload_n (j := 1) h (by decide +kernel) rfl ?_
    refine gk_vV (ca_v (idx := 81) h ho hm_106 (rd_le hrd (by decide)) ck_7 (by decide +kernel) kw_481 kw_483 kw_4 kw_91 kw_484 rfl (by decide +kernel) (by decide)) ?_
    refine gk_aload_n (j := 0) h (by decide +kernel) rfl ?_
    refine gk_lload_n (j := 3) h (by decide +kernel) rfl ?_
    refine gk_vV (ca_v (idx := 81) h ho hm_106 (rd_le hrd (by decide)) ck_7 (by decide +kernel) kw_481 kw_483 kw_4 kw_91 kw_484 rfl (by decide +kernel) (by decide)) ?_
    refine gk_aload_n (j := 0) h (by decide +kernel) rfl ?_
    refine gk_lload h (by decide +kernel) ?_
    refine gk_vV (ca_v (idx := 81) h ho hm_106 (rd_le hrd (by decide)) ck_7 (by decide +kernel) kw_481 kw_483 kw_4 kw_91 kw_484 rfl (by decide +kernel) (by decide)) ?_
    refine gk_aload_n (j := 0) h (by decide +kernel) rfl ?_
    refine gk_getI (i := 13) h ck_7 (by decide) (fun _ _ _ => rfl) (by decide +kernel) kw_441 ?_
    exact gk_iret h hR (by decide +kernel)
  | _ + 1 => exact fun _ _ _ hr => hr.elim
set_option maxRecDepth 20000 in
set_option maxHeartbeats 4000000 in
theorem s_88 : MS mtab yX8_truce cX8_truce 2 (some .int) Q88 P88 := by
  intro X orc d h hR hnm hxn ho hrd b
  match b with
  | 0 =>
    show GK X Q88 0 (o_aload 0 (o_getR 7 2 (o_aload 0 (o_getR 7 0 (o_aload 0 (o_getI 7 1 (o_vI orc 21 3 2 (o_istore 1 (o_aload 0 (o_iconst 0 (o_putI 7 1 (o_iload 1 (o_if0 (o_aload 0 (o_aload 0 (o_getR 7 2 (o_vR orc 19 1 2 (o_putR 7 3 (o_aload 0 (o_getR 7 4 (o_vV orc 51 1 4 (o_aload 0 (o_vV orc 107 1 7 (o_iload 1 (o_iret)))))))))))) (o_iload 1 (o_iret)))))))))))))))
    refine gk_aload_n (j := 0) h (by decide +kernel) rfl ?_
    refine gk_getR (i := 20) h ck_7 (by decide) (fun _ _ _ => rfl) (by decide +kernel) kw_442 ?_
    refine gk_aload_n (j := 0) h (by decide +kernel) rfl ?_
    refine gk_getR (i := 9) h ck_7 (by decide) (fun _ _ _ => rfl) (by decide +kernel) kw_440 ?_
    refine gk_aload_n (j := 0) h (by decide +kernel) rfl ?_
    refine gk_getI (i := 13) h ck_7 (by decide) (fun _ _ _ => rfl) (by decide +kernel) kw_441 ?_
    refine gk_vI (ca_v (idx := 85) h ho hm_21 (rd_le hrd (by decide)) ck_2 (by decide +kernel) kw_489 kw_490 kw_491 kw_92 kw_492 rfl (by decide +kernel) (by decide)) ?_
    refine gk_istore_n (j := 1) h (by decide +kernel) rfl hxn (by decide) ?_
    refine gk_aload_n (j := 0) h (by decide +kernel) rfl ?_
    refine gk_iconst (n := 0) h (by decide +kernel) (by decide) ?_
    refine gk_putI (i := 13) h ck_7 (by decide) rfl (Or.inl rfl) (by decide +kernel) kw_441 ?_
    refine gk_iload_n (j := 1) h (by decide +kernel) rfl ?_
    refine gk_ifne (off := 25) (tgt := 47) h (by decide +kernel) (by decide) ?_ ?_
    · refine gk_iload_n (j := 1) h (by decide +kernel) rfl ?_
      exact gk_iret h hR (by decide +kernel)
    · refine gk_aload_n (j := 0) h (by decide +kernel) rfl ?_
      refine gk_aload_n (j := 0) h (by decide +kernel) rfl ?_
      refine gk_getR (i := 20) h ck_7 (by decide) (fun _ _ _ => rfl) (by decide +kernel) kw_442 ?_
      refine gk_vR (ca_v (idx := 66) h ho hm_19 (rd_le hrd (by decide)) ck_2 (by decide +kernel) kw_275 kw_276 kw_277 kw_92 kw_278 rfl (by decide +kernel) (by decide)) ?_
      refine gk_putR (i := 70) h ck_7 (by decide) (Or.inl ⟨_, rfl⟩) (Or.inl rfl) (by decide +kernel) kw_443 ?_
      refine gk_aload_n (j := 0) h (by decide +kernel) rfl ?_
      refine gk_getR (i := 27) h ck_7 (by decide) (fun _ _ _ => rfl) (by decide +kernel) kw_444 ?_
      refine gk_vV (ca_v (idx := 74) h ho hm_51 (rd_le hrd (by decide)) ck_4 (by decide +kernel) kw_359 kw_360 kw_361 kw_93 kw_362 rfl (by decide +kernel) (by decide)) ?_
      refine gk_aload_n (j := 0) h (by decide +kernel) rfl ?_
      refine gk_vV (ca_v (idx := 78) h ho hm_107 (rd_le hrd (by decide)) ck_7 (by decide +kernel) kw_381 kw_383 kw_1 kw_91 kw_384 rfl (by decide +kernel) (by decide)) ?_
      refine gk_iload_n (j := 1) h (by decide +kernel) rfl ?_
      exact gk_iret h hR (by decide +kernel)
  | _ + 1 => exact fun _ _ _ hr => hr.elim
theorem so_X8_stone_18 {α : Type} {a0 a1 : α} (x : Int32) (hx : ∀ q ∈ ([(0, a0), (1, a1)] : List (Int32 × α)), x ≠ q.1) : Op.lookupswitch.offset (#[(0, 26), (1, 36)] : Array (Int × Int)).toList 46 x.toInt = 46 := by
  simp only [List.mem_cons, List.not_mem_nil, or_false, forall_eq_or_imp, forall_eq] at hx
  simp only [ne_eq, ← Int32.toInt_inj] at hx
  simp at hx
  simp [Op.lookupswitch.offset]
  repeat' split
  all_goals omega
set_option maxRecDepth 20000 in
set_option maxHeartbeats 4000000 in
theorem s_89 : MS mtab yX8_stone cX8_stone 3 (some .int) Q89 P89 := by
  intro X orc d h hR hnm hxn ho hrd b
  match b with
  | 0 =>
    show GK X Q89 0 (o_iload 1 (o_ifn (o_iconst (-1) (o_iret)) (o_iload 1 (o_aload 0 (o_getR 7 3 (o_getI 5 3 (o_ilt (o_iload 2 (o_sw [(0, o_aload 0 (o_getR 7 3 (o_getR 5 4 (o_iload 1 (o_iald 0 (o_iret)))))), (1, o_aload 0 (o_getR 7 3 (o_getR 5 5 (o_iload 1 (o_iald 0 (o_iret))))))] (o_iconst (-1) (o_iret)))) (o_iconst (-1) (o_iret)))))))))
    refine gk_iload_n (j := 1) h (by decide +kernel) rfl ?_
    refine gk_iflt (off := 14) (tgt := 15) h (by decide +kernel) (by decide) ?_ ?_
    · refine gk_iconst (n := (-1)) h (by decide +kernel) (by decide) ?_
      exact gk_iret h hR (by decide +kernel)
    · refine gk_iload_n (j := 1) h (by decide +kernel) rfl ?_
      refine gk_aload_n (j := 0) h (by decide +kernel) rfl ?_
      refine gk_getR (i := 70) h ck_7 (by decide) (fun _ _ _ => rfl) (by decide +kernel) kw_443 ?_
      refine gk_getI (i := 89) h ck_5 (by decide) (fun _ _ _ => rfl) (by decide +kernel) kw_327 ?_
      refine gk_icmplt (off := 5) (tgt := 17) h (by decide +kernel) (by decide) ?_ ?_
      · refine gk_iload_n (j := 2) h (by decide +kernel) rfl ?_
        refine gk_lsw (dflt := 46) (pr := #[(0, 26), (1, 36)]) (len := 26) (td := 64) h (by decide +kernel) (by decide) (by decide) ?_ ?_ (by intro x hx; exact so_X8_stone_18 x hx)
        · refine gk_iconst (n := (-1)) h (by decide +kernel) (by decide) ?_
          exact gk_iret h hR (by decide +kernel)
        · intro q hq
          simp only [List.mem_cons, List.not_mem_nil, or_false] at hq
          rcases hq with rfl | rfl
          · refine ⟨44, 26, by dsimp only; decide, by decide, ?_⟩
            refine gk_aload_n (j := 0) h (by decide +kernel) rfl ?_
            refine gk_getR (i := 70) h ck_7 (by decide) (fun _ _ _ => rfl) (by decide +kernel) kw_443 ?_
            refine gk_getR (i := 94) h ck_5 (by decide) (fun _ _ _ => rfl) (by decide +kernel) kw_329 ?_
            refine gk_iload_n (j := 1) h (by decide +kernel) rfl ?_
            refine gk_ald0 h (by decide +kernel) ?_
            exact gk_iret h hR (by decide +kernel)
          · refine ⟨54, 36, by dsimp only; decide, by decide, ?_⟩
            refine gk_aload_n (j := 0) h (by decide +kernel) rfl ?_
            refine gk_getR (i := 70) h ck_7 (by decide) (fun _ _ _ => rfl) (by decide +kernel) kw_443 ?_
            refine gk_getR (i := 97) h ck_5 (by decide) (fun _ _ _ => rfl) (by decide +kernel) kw_332 ?_
            refine gk_iload_n (j := 1) h (by decide +kernel) rfl ?_
            refine gk_ald0 h (by decide +kernel) ?_
            exact gk_iret h hR (by decide +kernel)
      · refine gk_iconst (n := (-1)) h (by decide +kernel) (by decide) ?_
        exact gk_iret h hR (by decide +kernel)
  | _ + 1 => exact fun _ _ _ hr => hr.elim
set_option maxRecDepth 20000 in
set_option maxHeartbeats 4000000 in
theorem s_90 : MS mtab yX8_set cX8_set 5 (some .int) Q90 P90 := by
  intro X orc d h hR hnm hxn ho hrd b
  match b with
  | 0 =>
    show GK X Q90 0 (o_aload 0 (o_iload 1 (o_iload 2 (o_iload 3 (o_vI orc 92 4 7 (o_istore 4 (o_iload 4 (o_if0 (o_aload 0 (o_getR 7 4 (o_aload 0 (o_getR 7 3 (o_iload 1 (o_iload 2 (o_iload 3 (o_sI orc 0 3 (o_vV orc 54 3 4 (o_aload 0 (o_vV orc 107 1 7 (o_iload 4 (o_iret))))))))))))) (o_iload 4 (o_iret))))))))))
    refine gk_aload_n (j := 0) h (by decide +kernel) rfl ?_
    refine gk_iload_n (j := 1) h (by decide +kernel) rfl ?_
    refine gk_iload_n (j := 2) h (by decide +kernel) rfl ?_
    refine gk_iload_n (j := 3) h (by decide +kernel) rfl ?_
    refine gk_vI (ca_v (idx := 100) h ho hm_92 (rd_le hrd (by decide)) ck_7 (by decide +kernel) kw_628 kw_629 kw_630 kw_91 kw_631 rfl (by decide +kernel) (by decide)) ?_
    refine gk_istore h (by decide +kernel) hxn (by decide) ?_
    refine gk_iload h (by decide +kernel) ?_
    refine gk_ifne (off := 24) (tgt := 35) h (by decide +kernel) (by decide) ?_ ?_
    · refine gk_iload h (by decide +kernel) ?_
      exact gk_iret h hR (by decide +kernel)
    · refine gk_aload_n (j := 0) h (by decide +kernel) rfl ?_
      refine gk_getR (i := 27) h ck_7 (by decide) (fun _ _ _ => rfl) (by decide +kernel) kw_444 ?_
      refine gk_aload_n (j := 0) h (by decide +kernel) rfl ?_
      refine gk_getR (i := 70) h ck_7 (by decide) (fun _ _ _ => rfl) (by decide +kernel) kw_443 ?_
      refine gk_iload_n (j := 1) h (by decide +kernel) rfl ?_
      refine gk_iload_n (j := 2) h (by decide +kernel) rfl ?_
      refine gk_iload_n (j := 3) h (by decide +kernel) rfl ?_
      refine gk_sI (ca_s (idx := 104) h ho hm_0 (rd_le hrd (by decide)) (by decide +kernel) kw_638 kw_315 kw_99 kw_316 (by decide +kernel)) ?_
      refine gk_vV (ca_v (idx := 107) h ho hm_54 (rd_le hrd (by decide)) ck_4 (by decide +kernel) kw_639 kw_640 kw_641 kw_93 kw_642 rfl (by decide +kernel) (by decide)) ?_
      refine gk_aload_n (j := 0) h (by decide +kernel) rfl ?_
      refine gk_vV (ca_v (idx := 78) h ho hm_107 (rd_le hrd (by decide)) ck_7 (by decide +kernel) kw_381 kw_383 kw_1 kw_91 kw_384 rfl (by decide +kernel) (by decide)) ?_
      refine gk_iload h (by decide +kernel) ?_
      exact gk_iret h hR (by decide +kernel)
  | _ + 1 => exact fun _ _ _ hr => hr.elim
set_option maxRecDepth 20000 in
set_option maxHeartbeats 4000000 in
theorem s_91 : MS mtab yX8_leave cX8_leave 3 (some .int) Q91 P91 := by
  intro X orc d h hR hnm hxn ho hrd b
  match b with
  | 0 =>
    show GK X Q91 0 (o_aload 0 (o_iload 1 (o_vI orc 109 2 7 (o_istore 2 (o_iload 2 (o_if0 (o_aload 0 (o_getR 7 4 (o_aload 0 (o_getR 7 3 (o_iload 1 (o_sI orc 1 1 (o_vV orc 54 3 4 (o_aload 0 (o_vV orc 107 1 7 (o_iload 2 (o_iret))))))))))) (o_iload 2 (o_iret))))))))
    refine gk_aload_n (j := 0) h (by decide +kernel) rfl ?_
    refine gk_iload_n (j := 1) h (by decide +kernel) rfl ?_
    refine gk_vI (ca_v (idx := 111) h ho hm_109 (rd_le hrd (by decide)) ck_7 (by decide +kernel) kw_685 kw_687 kw_28 kw_91 kw_688 rfl (by decide +kernel) (by decide)) ?_
    refine gk_istore_n (j := 2) h (by decide +kernel) rfl hxn (by decide) ?_
    refine gk_iload_n (j := 2) h (by decide +kernel) rfl ?_
    refine gk_ifne (off := 22) (tgt := 29) h (by decide +kernel) (by decide) ?_ ?_
    · refine gk_iload_n (j := 2) h (by decide +kernel) rfl ?_
      exact gk_iret h hR (by decide +kernel)
    · refine gk_aload_n (j := 0) h (by decide +kernel) rfl ?_
      refine gk_getR (i := 27) h ck_7 (by decide) (fun _ _ _ => rfl) (by decide +kernel) kw_444 ?_
      refine gk_aload_n (j := 0) h (by decide +kernel) rfl ?_
      refine gk_getR (i := 70) h ck_7 (by decide) (fun _ _ _ => rfl) (by decide +kernel) kw_443 ?_
      refine gk_iload_n (j := 1) h (by decide +kernel) rfl ?_
      refine gk_sI (ca_s (idx := 115) h ho hm_1 (rd_le hrd (by decide)) (by decide +kernel) kw_690 kw_318 kw_99 kw_319 (by decide +kernel)) ?_
      refine gk_vV (ca_v (idx := 107) h ho hm_54 (rd_le hrd (by decide)) ck_4 (by decide +kernel) kw_639 kw_640 kw_641 kw_93 kw_642 rfl (by decide +kernel) (by decide)) ?_
      refine gk_aload_n (j := 0) h (by decide +kernel) rfl ?_
      refine gk_vV (ca_v (idx := 78) h ho hm_107 (rd_le hrd (by decide)) ck_7 (by decide +kernel) kw_381 kw_383 kw_1 kw_91 kw_384 rfl (by decide +kernel) (by decide)) ?_
      refine gk_iload_n (j := 2) h (by decide +kernel) rfl ?_
      exact gk_iret h hR (by decide +kernel)
  | _ + 1 => exact fun _ _ _ hr => hr.elim
set_option maxRecDepth 20000 in
set_option maxHeartbeats 4000000 in
theorem s_92 : MS mtab yX8_fits cX8_fits 4 (some .int) Q92 P92 := by
  intro X orc d h hR hnm hxn ho hrd b
  match b with
  | 0 =>
    show GK X Q92 0 (o_aload 0 (o_getR 7 3 (o_iload 1 (o_iload 2 (o_iload 3 (o_vI orc 62 4 5 (o_if0 (o_iconst 1 (o_iret)) (o_aload 0 (o_vI orc 108 1 7 (o_if0 (o_aload 0 (o_getR 7 3 (o_aload 0 (o_getR 7 4 (o_getL 4 2 (o_iload 1 (o_iload 2 (o_iload 3 (o_vI orc 64 5 5 (o_iret)))))))))) (o_iconst 2 (o_iret))))))))))))
    refine gk_aload_n (j := 0) h (by decide +kernel) rfl ?_
    refine gk_getR (i := 70) h ck_7 (by decide) (fun _ _ _ => rfl) (by decide +kernel) kw_443 ?_
    refine gk_iload_n (j := 1) h (by decide +kernel) rfl ?_
    refine gk_iload_n (j := 2) h (by decide +kernel) rfl ?_
    refine gk_iload_n (j := 3) h (by decide +kernel) rfl ?_
    refine gk_vI (ca_v (idx := 118) h ho hm_62 (rd_le hrd (by decide)) ck_5 (by decide +kernel) kw_632 kw_307 kw_308 kw_97 kw_309 rfl (by decide +kernel) (by decide)) ?_
    refine gk_ifne (off := 5) (tgt := 15) h (by decide +kernel) (by decide) ?_ ?_
    · refine gk_aload_n (j := 0) h (by decide +kernel) rfl ?_
      refine gk_vI (ca_v (idx := 122) h ho hm_108 (rd_le hrd (by decide)) ck_7 (by decide +kernel) kw_633 kw_635 kw_24 kw_91 kw_636 rfl (by decide +kernel) (by decide)) ?_
      refine gk_ifeq (off := 7) (tgt := 26) h (by decide +kernel) (by decide) ?_ ?_
      · refine gk_aload_n (j := 0) h (by decide +kernel) rfl ?_
        refine gk_getR (i := 70) h ck_7 (by decide) (fun _ _ _ => rfl) (by decide +kernel) kw_443 ?_
        refine gk_aload_n (j := 0) h (by decide +kernel) rfl ?_
        refine gk_getR (i := 27) h ck_7 (by decide) (fun _ _ _ => rfl) (by decide +kernel) kw_444 ?_
        refine gk_getL (i := 126) h ck_4 (by decide) (fun _ _ _ => rfl) (by decide +kernel) kw_217 ?_
        refine gk_iload_n (j := 1) h (by decide +kernel) rfl ?_
        refine gk_iload_n (j := 2) h (by decide +kernel) rfl ?_
        refine gk_iload_n (j := 3) h (by decide +kernel) rfl ?_
        refine gk_vI (ca_v (idx := 130) h ho hm_64 (rd_le hrd (by decide)) ck_5 (by decide +kernel) kw_637 kw_425 kw_426 kw_97 kw_427 rfl (by decide +kernel) (by decide)) ?_
        exact gk_iret h hR (by decide +kernel)
      · refine gk_iconst (n := 2) h (by decide +kernel) (by decide) ?_
        refine gk_goto (off := 20) (tgt := 43) h (by decide +kernel) (by decide) ?_
        exact gk_iret h hR (by decide +kernel)
    · refine gk_iconst (n := 1) h (by decide +kernel) (by decide) ?_
      exact gk_iret h hR (by decide +kernel)
  | _ + 1 => exact fun _ _ _ hr => hr.elim
set_option maxRecDepth 20000 in
set_option maxHeartbeats 4000000 in
theorem s_93 : MS mtab yX8_undo cX8_undo 1 (some .boolean) Q93 P93 := by
  intro X orc d h hR hnm hxn ho hrd b
  match b with
  | 0 =>
    show GK X Q93 0 (o_aload 0 (o_getR 7 4 (o_getI 4 1 (o_if0 (o_iconst 0 (o_zret)) (o_aload 0 (o_getR 7 4 (o_aload 0 (o_getR 7 3 (o_aload 0 (o_getR 7 4 (o_getI 4 1 (o_iconst 1 (o_i2 (fun x y => x - y) (o_vV orc 53 3 4 (o_aload 0 (o_vV orc 107 1 7 (o_iconst 1 (o_zret))))))))))))))))))
    refine gk_aload_n (j := 0) h (by decide +kernel) rfl ?_
    refine gk_getR (i := 27) h ck_7 (by decide) (fun _ _ _ => rfl) (by decide +kernel) kw_444 ?_
    refine gk_getI (i := 134) h ck_4 (by decide) (fun _ _ _ => rfl) (by decide +kernel) kw_215 ?_
    refine gk_ifne (off := 5) (tgt := 12) h (by decide +kernel) (by decide) ?_ ?_
    · refine gk_aload_n (j := 0) h (by decide +kernel) rfl ?_
      refine gk_getR (i := 27) h ck_7 (by decide) (fun _ _ _ => rfl) (by decide +kernel) kw_444 ?_
      refine gk_aload_n (j := 0) h (by decide +kernel) rfl ?_
      refine gk_getR (i := 70) h ck_7 (by decide) (fun _ _ _ => rfl) (by decide +kernel) kw_443 ?_
      refine gk_aload_n (j := 0) h (by decide +kernel) rfl ?_
      refine gk_getR (i := 27) h ck_7 (by decide) (fun _ _ _ => rfl) (by decide +kernel) kw_444 ?_
      refine gk_getI (i := 134) h ck_4 (by decide) (fun _ _ _ => rfl) (by decide +kernel) kw_215 ?_
      refine gk_iconst (n := 1) h (by decide +kernel) (by decide) ?_
      refine gk_isub h (by decide +kernel) ?_
      refine gk_vV (ca_v (idx := 137) h ho hm_53 (rd_le hrd (by decide)) ck_4 (by decide +kernel) kw_696 kw_697 kw_698 kw_93 kw_699 rfl (by decide +kernel) (by decide)) ?_
      refine gk_aload_n (j := 0) h (by decide +kernel) rfl ?_
      refine gk_vV (ca_v (idx := 78) h ho hm_107 (rd_le hrd (by decide)) ck_7 (by decide +kernel) kw_381 kw_383 kw_1 kw_91 kw_384 rfl (by decide +kernel) (by decide)) ?_
      refine gk_iconst (n := 1) h (by decide +kernel) (by decide) ?_
      exact gk_zret h hR (by decide +kernel)
    · refine gk_iconst (n := 0) h (by decide +kernel) (by decide) ?_
      exact gk_zret h hR (by decide +kernel)
  | _ + 1 => exact fun _ _ _ hr => hr.elim
theorem so_X8_column_18 {α : Type} {a0 a1 a2 a3 : α} (x : Int32) (hx : ∀ q ∈ ([(0, a0), (1, a1), (2, a2), (3, a3)] : List (Int32 × α)), x ≠ q.1) : x.toInt < 0 ∨ 3 < x.toInt := by
  simp only [List.mem_cons, List.not_mem_nil, or_false, forall_eq_or_imp, forall_eq] at hx
  simp only [ne_eq, ← Int32.toInt_inj] at hx
  simp at hx
  omega
set_option maxRecDepth 20000 in
set_option maxHeartbeats 4000000 in
theorem s_94 : MS mtab yX8_column cX8_column 3 (some .int) Q94 P94 := by
  intro X orc d h hR hnm hxn ho hrd b
  match b with
  | 0 =>
    show GK X Q94 0 (o_iload 1 (o_ifn (o_iconst (-1) (o_iret)) (o_iload 1 (o_aload 0 (o_getR 7 3 (o_getI 5 0 (o_ilt (o_iload 2 (o_sw [(0, o_aload 0 (o_getR 7 4 (o_getL 4 2 (o_iload 1 (o_sI orc 57 2 (o_iret)))))), (1, o_aload 0 (o_getR 7 4 (o_getL 4 2 (o_iload 1 (o_sI orc 58 2 (o_iret)))))), (2, o_aload 0 (o_getR 7 4 (o_getR 4 5 (o_iload 1 (o_iald 0 (o_iret)))))), (3, o_aload 0 (o_getR 7 4 (o_getR 4 6 (o_iload 1 (o_iald 0 (o_iret))))))] (o_iconst (-1) (o_iret)))) (o_iconst (-1) (o_iret)))))))))
    refine gk_iload_n (j := 1) h (by decide +kernel) rfl ?_
    refine gk_iflt (off := 14) (tgt := 15) h (by decide +kernel) (by decide) ?_ ?_
    · refine gk_iconst (n := (-1)) h (by decide +kernel) (by decide) ?_
      exact gk_iret h hR (by decide +kernel)
    · refine gk_iload_n (j := 1) h (by decide +kernel) rfl ?_
      refine gk_aload_n (j := 0) h (by decide +kernel) rfl ?_
      refine gk_getR (i := 70) h ck_7 (by decide) (fun _ _ _ => rfl) (by decide +kernel) kw_443 ?_
      refine gk_getI (i := 140) h ck_5 (by decide) (fun _ _ _ => rfl) (by decide +kernel) kw_322 ?_
      refine gk_icmplt (off := 5) (tgt := 17) h (by decide +kernel) (by decide) ?_ ?_
      · refine gk_iload_n (j := 2) h (by decide +kernel) rfl ?_
        refine gk_tsw (dflt := 74) (lo := 0) (hi := 3) (offs := #[30, 42, 54, 64]) (len := 30) (td := 92) h (by decide +kernel) (by decide) ?_ ?_ (by intro x hx; exact so_X8_column_18 x hx)
        · refine gk_iconst (n := (-1)) h (by decide +kernel) (by decide) ?_
          exact gk_iret h hR (by decide +kernel)
        · intro q hq
          simp only [List.mem_cons, List.not_mem_nil, or_false] at hq
          rcases hq with rfl | rfl | rfl | rfl
          · refine ⟨48, 30, by dsimp only; decide, by dsimp only; decide, by dsimp only; decide, by decide, ?_⟩
            refine gk_aload_n (j := 0) h (by decide +kernel) rfl ?_
            refine gk_getR (i := 27) h ck_7 (by decide) (fun _ _ _ => rfl) (by decide +kernel) kw_444 ?_
            refine gk_getL (i := 126) h ck_4 (by decide) (fun _ _ _ => rfl) (by decide +kernel) kw_217 ?_
            refine gk_iload_n (j := 1) h (by decide +kernel) rfl ?_
            refine gk_sI (ca_s (idx := 143) h ho hm_57 (rd_le hrd (by decide)) (by decide +kernel) kw_706 kw_418 kw_97 kw_419 (by decide +kernel)) ?_
            exact gk_iret h hR (by decide +kernel)
          · refine ⟨60, 42, by dsimp only; decide, by dsimp only; decide, by dsimp only; decide, by decide, ?_⟩
            refine gk_aload_n (j := 0) h (by decide +kernel) rfl ?_
            refine gk_getR (i := 27) h ck_7 (by decide) (fun _ _ _ => rfl) (by decide +kernel) kw_444 ?_
            refine gk_getL (i := 126) h ck_4 (by decide) (fun _ _ _ => rfl) (by decide +kernel) kw_217 ?_
            refine gk_iload_n (j := 1) h (by decide +kernel) rfl ?_
            refine gk_sI (ca_s (idx := 147) h ho hm_58 (rd_le hrd (by decide)) (by decide +kernel) kw_707 kw_415 kw_97 kw_416 (by decide +kernel)) ?_
            exact gk_iret h hR (by decide +kernel)
          · refine ⟨72, 54, by dsimp only; decide, by dsimp only; decide, by dsimp only; decide, by decide, ?_⟩
            refine gk_aload_n (j := 0) h (by decide +kernel) rfl ?_
            refine gk_getR (i := 27) h ck_7 (by decide) (fun _ _ _ => rfl) (by decide +kernel) kw_444 ?_
            refine gk_getR (i := 150) h ck_4 (by decide) (fun _ _ _ => rfl) (by decide +kernel) kw_223 ?_
            refine gk_iload_n (j := 1) h (by decide +kernel) rfl ?_
            refine gk_ald0 h (by decide +kernel) ?_
            exact gk_iret h hR (by decide +kernel)
          · refine ⟨82, 64, by dsimp only; decide, by dsimp only; decide, by dsimp only; decide, by decide, ?_⟩
            refine gk_aload_n (j := 0) h (by decide +kernel) rfl ?_
            refine gk_getR (i := 27) h ck_7 (by decide) (fun _ _ _ => rfl) (by decide +kernel) kw_444 ?_
            refine gk_getR (i := 153) h ck_4 (by decide) (fun _ _ _ => rfl) (by decide +kernel) kw_225 ?_
            refine gk_iload_n (j := 1) h (by decide +kernel) rfl ?_
            refine gk_ald0 h (by decide +kernel) ?_
            exact gk_iret h hR (by decide +kernel)
      · refine gk_iconst (n := (-1)) h (by decide +kernel) (by decide) ?_
        exact gk_iret h hR (by decide +kernel)
  | _ + 1 => exact fun _ _ _ hr => hr.elim
theorem so_X8_act_22 {α : Type} {a0 a1 a2 : α} (x : Int32) (hx : ∀ q ∈ ([(0, a0), (1, a1), (2, a2)] : List (Int32 × α)), x ≠ q.1) : x.toInt < 0 ∨ 2 < x.toInt := by
  simp only [List.mem_cons, List.not_mem_nil, or_false, forall_eq_or_imp, forall_eq] at hx
  simp only [ne_eq, ← Int32.toInt_inj] at hx
  simp at hx
  omega
set_option maxRecDepth 20000 in
set_option maxHeartbeats 4000000 in
theorem s_95 : MS mtab yX8_act cX8_act 4 (some .int) Q95 P95 := by
  intro X orc d h hR hnm hxn ho hrd b
  match b with
  | 0 =>
    show GK X Q95 0 (o_iload 1 (o_ifn (o_iconst (-1) (o_iret)) (o_iload 1 (o_aload 0 (o_getI 7 10 (o_ilt (o_aload 0 (o_getR 7 9 (o_iload 1 (o_iald 0 (o_istore 3 (o_iload 2 (o_sw [(0, o_iload 3 (o_sI orc 2 1 (o_if0 (o_iload 3 (o_sI orc 3 1 (o_iret))) (o_iconst (-2) (o_iret))))), (1, o_iload 3 (o_sI orc 4 1 (o_iret))), (2, o_iload 3 (o_sI orc 2 1 (o_if0 (o_iload 3 (o_sI orc 5 1 (o_iret))) (o_iconst 0 (o_iret)))))] (o_iconst (-1) (o_iret))))))))) (o_iconst (-1) (o_iret))))))))
    refine gk_iload_n (j := 1) h (by decide +kernel) rfl ?_
    refine gk_iflt (off := 11) (tgt := 12) h (by decide +kernel) (by decide) ?_ ?_
    · refine gk_iconst (n := (-1)) h (by decide +kernel) (by decide) ?_
      exact gk_iret h hR (by decide +kernel)
    · refine gk_iload_n (j := 1) h (by decide +kernel) rfl ?_
      refine gk_aload_n (j := 0) h (by decide +kernel) rfl ?_
      refine gk_getI (i := 60) h ck_7 (by decide) (fun _ _ _ => rfl) (by decide +kernel) kw_450 ?_
      refine gk_icmplt (off := 5) (tgt := 14) h (by decide +kernel) (by decide) ?_ ?_
      · refine gk_aload_n (j := 0) h (by decide +kernel) rfl ?_
        refine gk_getR (i := 56) h ck_7 (by decide) (fun _ _ _ => rfl) (by decide +kernel) kw_449 ?_
        refine gk_iload_n (j := 1) h (by decide +kernel) rfl ?_
        refine gk_ald0 h (by decide +kernel) ?_
        refine gk_istore_n (j := 3) h (by decide +kernel) rfl hxn (by decide) ?_
        refine gk_iload_n (j := 2) h (by decide +kernel) rfl ?_
        refine gk_tsw (dflt := 64) (lo := 0) (hi := 2) (offs := #[26, 43, 48]) (len := 26) (td := 86) h (by decide +kernel) (by decide) ?_ ?_ (by intro x hx; exact so_X8_act_22 x hx)
        · refine gk_iconst (n := (-1)) h (by decide +kernel) (by decide) ?_
          exact gk_iret h hR (by decide +kernel)
        · intro q hq
          simp only [List.mem_cons, List.not_mem_nil, or_false] at hq
          rcases hq with rfl | rfl | rfl
          · refine ⟨48, 26, by dsimp only; decide, by dsimp only; decide, by dsimp only; decide, by decide, ?_⟩
            refine gk_iload_n (j := 3) h (by decide +kernel) rfl ?_
            refine gk_sI (ca_s (idx := 183) h ho hm_2 (rd_le hrd (by decide)) (by decide +kernel) kw_712 kw_401 kw_99 kw_402 (by decide +kernel)) ?_
            refine gk_ifeq (off := 8) (tgt := 60) h (by decide +kernel) (by decide) ?_ ?_
            · refine gk_iload_n (j := 3) h (by decide +kernel) rfl ?_
              refine gk_sI (ca_s (idx := 187) h ho hm_3 (rd_le hrd (by decide)) (by decide +kernel) kw_713 kw_404 kw_99 kw_405 (by decide +kernel)) ?_
              exact gk_iret h hR (by decide +kernel)
            · refine gk_bipush (n := (-2)) h (by decide +kernel) (by decide) ?_
              refine gk_goto (off := 7) (tgt := 64) h (by decide +kernel) (by decide) ?_
              exact gk_iret h hR (by decide +kernel)
          · refine ⟨65, 43, by dsimp only; decide, by dsimp only; decide, by dsimp only; decide, by decide, ?_⟩
            refine gk_iload_n (j := 3) h (by decide +kernel) rfl ?_
            refine gk_sI (ca_s (idx := 190) h ho hm_4 (rd_le hrd (by decide)) (by decide +kernel) kw_714 kw_398 kw_99 kw_399 (by decide +kernel)) ?_
            exact gk_iret h hR (by decide +kernel)
          · refine ⟨70, 48, by dsimp only; decide, by dsimp only; decide, by dsimp only; decide, by decide, ?_⟩
            refine gk_iload_n (j := 3) h (by decide +kernel) rfl ?_
            refine gk_sI (ca_s (idx := 183) h ho hm_2 (rd_le hrd (by decide)) (by decide +kernel) kw_712 kw_401 kw_99 kw_402 (by decide +kernel)) ?_
            refine gk_ifeq (off := 7) (tgt := 81) h (by decide +kernel) (by decide) ?_ ?_
            · refine gk_iload_n (j := 3) h (by decide +kernel) rfl ?_
              refine gk_sI (ca_s (idx := 193) h ho hm_5 (rd_le hrd (by decide)) (by decide +kernel) kw_715 kw_422 kw_99 kw_423 (by decide +kernel)) ?_
              exact gk_iret h hR (by decide +kernel)
            · refine gk_iconst (n := 0) h (by decide +kernel) (by decide) ?_
              refine gk_goto (off := 7) (tgt := 85) h (by decide +kernel) (by decide) ?_
              exact gk_iret h hR (by decide +kernel)
      · refine gk_iconst (n := (-1)) h (by decide +kernel) (by decide) ?_
        exact gk_iret h hR (by decide +kernel)
  | _ + 1 => exact fun _ _ _ hr => hr.elim
set_option maxRecDepth 20000 in
set_option maxHeartbeats 4000000 in
theorem s_96 : MS mtab yX8_pays cX8_pays 1 (some .int) Q96 P96 := by
  intro X orc d h hR hnm hxn ho hrd b
  match b with
  | 0 =>
    show GK X Q96 0 (o_aload 0 (o_getR 7 3 (o_getI 5 7 (o_if0 (o_iconst (-1) (o_iret)) (o_aload 0 (o_vI orc 110 1 7 (o_sI orc 9 1 (o_iret))))))))
    refine gk_aload_n (j := 0) h (by decide +kernel) rfl ?_
    refine gk_getR (i := 70) h ck_7 (by decide) (fun _ _ _ => rfl) (by decide +kernel) kw_443 ?_
    refine gk_getI (i := 196) h ck_5 (by decide) (fun _ _ _ => rfl) (by decide +kernel) kw_336 ?_
    refine gk_ifeq (off := 13) (tgt := 20) h (by decide +kernel) (by decide) ?_ ?_
    · refine gk_iconst (n := (-1)) h (by decide +kernel) (by decide) ?_
      exact gk_iret h hR (by decide +kernel)
    · refine gk_aload_n (j := 0) h (by decide +kernel) rfl ?_
      refine gk_vI (ca_v (idx := 200) h ho hm_110 (rd_le hrd (by decide)) ck_7 (by decide +kernel) kw_720 kw_722 kw_29 kw_91 kw_723 rfl (by decide +kernel) (by decide)) ?_
      refine gk_sI (ca_s (idx := 203) h ho hm_9 (rd_le hrd (by decide)) (by decide +kernel) kw_773 kw_771 kw_95 kw_772 (by decide +kernel)) ?_
      refine gk_goto (off := 4) (tgt := 21) h (by decide +kernel) (by decide) ?_
      exact gk_iret h hR (by decide +kernel)
  | _ + 1 => exact fun _ _ _ hr => hr.elim
set_option maxRecDepth 20000 in
set_option maxHeartbeats 4000000 in
theorem s_97 : MS mtab yX8_days cX8_days 1 (some .int) Q97 P97 := by
  intro X orc d h hR hnm hxn ho hrd b
  match b with
  | 0 =>
    show GK X Q97 0 (o_aload 0 (o_getR 7 3 (o_getI 5 7 (o_if0 (o_iconst (-1) (o_iret)) (o_aload 0 (o_vI orc 110 1 7 (o_sI orc 10 1 (o_iret))))))))
    refine gk_aload_n (j := 0) h (by decide +kernel) rfl ?_
    refine gk_getR (i := 70) h ck_7 (by decide) (fun _ _ _ => rfl) (by decide +kernel) kw_443 ?_
    refine gk_getI (i := 196) h ck_5 (by decide) (fun _ _ _ => rfl) (by decide +kernel) kw_336 ?_
    refine gk_ifeq (off := 13) (tgt := 20) h (by decide +kernel) (by decide) ?_ ?_
    · refine gk_iconst (n := (-1)) h (by decide +kernel) (by decide) ?_
      exact gk_iret h hR (by decide +kernel)
    · refine gk_aload_n (j := 0) h (by decide +kernel) rfl ?_
      refine gk_vI (ca_v (idx := 200) h ho hm_110 (rd_le hrd (by decide)) ck_7 (by decide +kernel) kw_720 kw_722 kw_29 kw_91 kw_723 rfl (by decide +kernel) (by decide)) ?_
      refine gk_sI (ca_s (idx := 206) h ho hm_10 (rd_le hrd (by decide)) (by decide +kernel) kw_778 kw_768 kw_95 kw_769 (by decide +kernel)) ?_
      refine gk_goto (off := 4) (tgt := 21) h (by decide +kernel) (by decide) ?_
      exact gk_iret h hR (by decide +kernel)
  | _ + 1 => exact fun _ _ _ hr => hr.elim
set_option maxRecDepth 20000 in
set_option maxHeartbeats 4000000 in
theorem s_98 : MS mtab yX8_best cX8_best 5 (some .int) Q98 P98 := by
  intro X orc d h hR hnm hxn ho hrd b
  match b with
  | 0 =>
    show GK X Q98 0 (o_aload 0 (o_getR 7 3 (o_getI 5 7 (o_if0 (o_iconst (-1) (o_iret)) (o_iconst (-1) (o_istore 1 (o_iconst (-1) (o_istore 2 (o_iconst 0 (o_istore 3 (o_jmp 1)))))))))))
    refine gk_aload_n (j := 0) h (by decide +kernel) rfl ?_
    refine gk_getR (i := 70) h ck_7 (by decide) (fun _ _ _ => rfl) (by decide +kernel) kw_443 ?_
    refine gk_getI (i := 196) h ck_5 (by decide) (fun _ _ _ => rfl) (by decide +kernel) kw_336 ?_
    refine gk_ifne (off := 5) (tgt := 12) h (by decide +kernel) (by decide) ?_ ?_
    · refine gk_iconst (n := (-1)) h (by decide +kernel) (by decide) ?_
      refine gk_istore_n (j := 1) h (by decide +kernel) rfl hxn (by decide) ?_
      refine gk_iconst (n := (-1)) h (by decide +kernel) (by decide) ?_
      refine gk_istore_n (j := 2) h (by decide +kernel) rfl hxn (by decide) ?_
      refine gk_iconst (n := 0) h (by decide +kernel) (by decide) ?_
      refine gk_istore_n (j := 3) h (by decide +kernel) rfl hxn (by decide) ?_
      exact gk_jmp 1 rfl
    · refine gk_iconst (n := (-1)) h (by decide +kernel) (by decide) ?_
      exact gk_iret h hR (by decide +kernel)
  | 1 =>
    show GK X Q98 18 (o_iload 3 (o_aload 0 (o_getI 7 10 (o_ilt (o_aload 0 (o_aload 0 (o_getR 7 9 (o_iload 3 (o_iald 0 (o_vI orc 111 2 7 (o_aload 0 (o_getR 7 4 (o_vI orc 50 1 4 (o_sI orc 12 2 (o_istore 4 (o_iload 4 (o_iload 2 (o_igt (o_iload 4 (o_istore 2 (o_iload 3 (o_istore 1 (o_jmp 2))))) (o_jmp 2))))))))))))))) (o_iload 1 (o_iret))))))
    refine gk_iload_n (j := 3) h (by decide +kernel) rfl ?_
    refine gk_aload_n (j := 0) h (by decide +kernel) rfl ?_
    refine gk_getI (i := 60) h ck_7 (by decide) (fun _ _ _ => rfl) (by decide +kernel) kw_450 ?_
    refine gk_icmpge (off := 42) (tgt := 65) h (by decide +kernel) (by decide) ?_ ?_
    · refine gk_iload_n (j := 1) h (by decide +kernel) rfl ?_
      exact gk_iret h hR (by decide +kernel)
    · refine gk_aload_n (j := 0) h (by decide +kernel) rfl ?_
      refine gk_aload_n (j := 0) h (by decide +kernel) rfl ?_
      refine gk_getR (i := 56) h ck_7 (by decide) (fun _ _ _ => rfl) (by decide +kernel) kw_449 ?_
      refine gk_iload_n (j := 3) h (by decide +kernel) rfl ?_
      refine gk_ald0 h (by decide +kernel) ?_
      refine gk_vI (ca_v (idx := 209) h ho hm_111 (rd_le hrd (by decide)) ck_7 (by decide +kernel) kw_783 kw_785 kw_34 kw_91 kw_786 rfl (by decide +kernel) (by decide)) ?_
      refine gk_aload_n (j := 0) h (by decide +kernel) rfl ?_
      refine gk_getR (i := 27) h ck_7 (by decide) (fun _ _ _ => rfl) (by decide +kernel) kw_444 ?_
      refine gk_vI (ca_v (idx := 156) h ho hm_50 (rd_le hrd (by decide)) ck_4 (by decide +kernel) kw_385 kw_386 kw_387 kw_93 kw_388 rfl (by decide +kernel) (by decide)) ?_
      refine gk_sI (ca_s (idx := 212) h ho hm_12 (rd_le hrd (by decide)) (by decide +kernel) kw_789 kw_765 kw_95 kw_766 (by decide +kernel)) ?_
      refine gk_istore h (by decide +kernel) hxn (by decide) ?_
      refine gk_iload h (by decide +kernel) ?_
      refine gk_iload_n (j := 2) h (by decide +kernel) rfl ?_
      refine gk_icmple (off := 8) (tgt := 59) h (by decide +kernel) (by decide) ?_ ?_
      · exact gk_jmp 2 rfl
      · refine gk_iload h (by decide +kernel) ?_
        refine gk_istore_n (j := 2) h (by decide +kernel) rfl hxn (by decide) ?_
        refine gk_iload_n (j := 3) h (by decide +kernel) rfl ?_
        refine gk_istore_n (j := 1) h (by decide +kernel) rfl hxn (by decide) ?_
        exact gk_jmp 2 rfl
  | 2 =>
    show GK X Q98 59 (o_iinc 3 1 (o_jmp 1))
    refine gk_iinc (z := 1) h (by decide +kernel) (by decide) hxn (by decide) ?_
    refine gk_goto (off := (-44)) (tgt := 18) h (by decide +kernel) (by decide) ?_
    exact gk_jmp 1 rfl
  | _ + 3 => exact fun _ _ _ hr => hr.elim
set_option maxRecDepth 20000 in
set_option maxHeartbeats 4000000 in
theorem s_99 : MS mtab yX8_holds cX8_holds 2 (some .int) Q99 P99 := by
  intro X orc d h hR hnm hxn ho hrd b
  match b with
  | 0 =>
    show GK X Q99 0 (o_iload 1 (o_ifn (o_iconst (-1) (o_iret)) (o_iload 1 (o_aload 0 (o_getI 7 10 (o_ilt (o_aload 0 (o_getR 7 3 (o_getI 5 7 (o_if0 (o_iconst (-1) (o_iret)) (o_aload 0 (o_aload 0 (o_getR 7 9 (o_iload 1 (o_iald 0 (o_vI orc 111 2 7 (o_sI orc 10 1 (o_iret)))))))))))) (o_iconst (-1) (o_iret))))))))
    refine gk_iload_n (j := 1) h (by decide +kernel) rfl ?_
    refine gk_iflt (off := 21) (tgt := 22) h (by decide +kernel) (by decide) ?_ ?_
    · refine gk_iconst (n := (-1)) h (by decide +kernel) (by decide) ?_
      exact gk_iret h hR (by decide +kernel)
    · refine gk_iload_n (j := 1) h (by decide +kernel) rfl ?_
      refine gk_aload_n (j := 0) h (by decide +kernel) rfl ?_
      refine gk_getI (i := 60) h ck_7 (by decide) (fun _ _ _ => rfl) (by decide +kernel) kw_450 ?_
      refine gk_icmpge (off := 13) (tgt := 22) h (by decide +kernel) (by decide) ?_ ?_
      · refine gk_iconst (n := (-1)) h (by decide +kernel) (by decide) ?_
        exact gk_iret h hR (by decide +kernel)
      · refine gk_aload_n (j := 0) h (by decide +kernel) rfl ?_
        refine gk_getR (i := 70) h ck_7 (by decide) (fun _ _ _ => rfl) (by decide +kernel) kw_443 ?_
        refine gk_getI (i := 196) h ck_5 (by decide) (fun _ _ _ => rfl) (by decide +kernel) kw_336 ?_
        refine gk_ifne (off := 5) (tgt := 24) h (by decide +kernel) (by decide) ?_ ?_
        · refine gk_aload_n (j := 0) h (by decide +kernel) rfl ?_
          refine gk_aload_n (j := 0) h (by decide +kernel) rfl ?_
          refine gk_getR (i := 56) h ck_7 (by decide) (fun _ _ _ => rfl) (by decide +kernel) kw_449 ?_
          refine gk_iload_n (j := 1) h (by decide +kernel) rfl ?_
          refine gk_ald0 h (by decide +kernel) ?_
          refine gk_vI (ca_v (idx := 209) h ho hm_111 (rd_le hrd (by decide)) ck_7 (by decide +kernel) kw_783 kw_785 kw_34 kw_91 kw_786 rfl (by decide +kernel) (by decide)) ?_
          refine gk_sI (ca_s (idx := 206) h ho hm_10 (rd_le hrd (by decide)) (by decide +kernel) kw_778 kw_768 kw_95 kw_769 (by decide +kernel)) ?_
          exact gk_iret h hR (by decide +kernel)
        · refine gk_iconst (n := (-1)) h (by decide +kernel) (by decide) ?_
          exact gk_iret h hR (by decide +kernel)
  | _ + 1 => exact fun _ _ _ hr => hr.elim
set_option maxRecDepth 20000 in
set_option maxHeartbeats 4000000 in
theorem s_100 : MS mtab yX8_mason cX8_mason 3 (some .int) Q100 P100 := by
  intro X orc d h hR hnm hxn ho hrd b
  match b with
  | 0 =>
    show GK X Q100 0 (o_iload 1 (o_ifn (o_iconst (-1) (o_iret)) (o_iload 1 (o_iconst 1 (o_igt (o_iconst (-1) (o_iret)) (o_iload 2 (o_ifn (o_iconst (-1) (o_iret)) (o_iload 2 (o_iconst 2 (o_igt (o_iconst (-1) (o_iret)) (o_aload 0 (o_getR 7 3 (o_getI 5 7 (o_if0 (o_iconst (-1) (o_iret)) (o_aload 0 (o_getR 7 7 (o_aload 0 (o_getR 7 3 (o_iload 1 (o_iload 2 (o_vV orc 13 4 1 (o_aload 0 (o_getR 7 7 (o_aload 0 (o_getR 7 4 (o_getL 4 2 (o_aload 0 (o_getR 7 4 (o_vI orc 50 1 4 (o_iconst 0 (o_vI orc 14 4 1 (o_sI orc 9 1 (o_iret)))))))))))))))))))))))))))))))))
    refine gk_iload_n (j := 1) h (by decide +kernel) rfl ?_
    refine gk_iflt (off := 27) (tgt := 28) h (by decide +kernel) (by decide) ?_ ?_
    · refine gk_iconst (n := (-1)) h (by decide +kernel) (by decide) ?_
      exact gk_iret h hR (by decide +kernel)
    · refine gk_iload_n (j := 1) h (by decide +kernel) rfl ?_
      refine gk_iconst (n := 1) h (by decide +kernel) (by decide) ?_
      refine gk_icmpgt (off := 22) (tgt := 28) h (by decide +kernel) (by decide) ?_ ?_
      · refine gk_iconst (n := (-1)) h (by decide +kernel) (by decide) ?_
        exact gk_iret h hR (by decide +kernel)
      · refine gk_iload_n (j := 2) h (by decide +kernel) rfl ?_
        refine gk_iflt (off := 18) (tgt := 28) h (by decide +kernel) (by decide) ?_ ?_
        · refine gk_iconst (n := (-1)) h (by decide +kernel) (by decide) ?_
          exact gk_iret h hR (by decide +kernel)
        · refine gk_iload_n (j := 2) h (by decide +kernel) rfl ?_
          refine gk_iconst (n := 2) h (by decide +kernel) (by decide) ?_
          refine gk_icmpgt (off := 13) (tgt := 28) h (by decide +kernel) (by decide) ?_ ?_
          · refine gk_iconst (n := (-1)) h (by decide +kernel) (by decide) ?_
            exact gk_iret h hR (by decide +kernel)
          · refine gk_aload_n (j := 0) h (by decide +kernel) rfl ?_
            refine gk_getR (i := 70) h ck_7 (by decide) (fun _ _ _ => rfl) (by decide +kernel) kw_443 ?_
            refine gk_getI (i := 196) h ck_5 (by decide) (fun _ _ _ => rfl) (by decide +kernel) kw_336 ?_
            refine gk_ifne (off := 5) (tgt := 30) h (by decide +kernel) (by decide) ?_ ?_
            · refine gk_aload_n (j := 0) h (by decide +kernel) rfl ?_
              refine gk_getR (i := 44) h ck_7 (by decide) (fun _ _ _ => rfl) (by decide +kernel) kw_447 ?_
              refine gk_aload_n (j := 0) h (by decide +kernel) rfl ?_
              refine gk_getR (i := 70) h ck_7 (by decide) (fun _ _ _ => rfl) (by decide +kernel) kw_443 ?_
              refine gk_iload_n (j := 1) h (by decide +kernel) rfl ?_
              refine gk_iload_n (j := 2) h (by decide +kernel) rfl ?_
              refine gk_vV (ca_v (idx := 216) h ho hm_13 (rd_le hrd (by decide)) ck_1 (by decide +kernel) kw_724 kw_725 kw_726 kw_95 kw_727 rfl (by decide +kernel) (by decide)) ?_
              refine gk_aload_n (j := 0) h (by decide +kernel) rfl ?_
              refine gk_getR (i := 44) h ck_7 (by decide) (fun _ _ _ => rfl) (by decide +kernel) kw_447 ?_
              refine gk_aload_n (j := 0) h (by decide +kernel) rfl ?_
              refine gk_getR (i := 27) h ck_7 (by decide) (fun _ _ _ => rfl) (by decide +kernel) kw_444 ?_
              refine gk_getL (i := 126) h ck_4 (by decide) (fun _ _ _ => rfl) (by decide +kernel) kw_217 ?_
              refine gk_aload_n (j := 0) h (by decide +kernel) rfl ?_
              refine gk_getR (i := 27) h ck_7 (by decide) (fun _ _ _ => rfl) (by decide +kernel) kw_444 ?_
              refine gk_vI (ca_v (idx := 156) h ho hm_50 (rd_le hrd (by decide)) ck_4 (by decide +kernel) kw_385 kw_386 kw_387 kw_93 kw_388 rfl (by decide +kernel) (by decide)) ?_
              refine gk_iconst (n := 0) h (by decide +kernel) (by decide) ?_
              refine gk_vI (ca_vN (idx := 220) h ho hm_14 (rd_le hrd (by decide)) ck_1 (by decide +kernel) (by decide +kernel) kw_730 kw_30 kw_95 kw_731 rfl (by decide +kernel) (by decide)) ?_
              refine gk_sI (ca_s (idx := 203) h ho hm_9 (rd_le hrd (by decide)) (by decide +kernel) kw_773 kw_771 kw_95 kw_772 (by decide +kernel)) ?_
              exact gk_iret h hR (by decide +kernel)
            · refine gk_iconst (n := (-1)) h (by decide +kernel) (by decide) ?_
              exact gk_iret h hR (by decide +kernel)
  | _ + 1 => exact fun _ _ _ hr => hr.elim
set_option maxRecDepth 20000 in
set_option maxHeartbeats 4000000 in
theorem s_101 : MS mtab yX8_reached cX8_reached 2 (some .int) Q101 P101 := by
  intro X orc d h hR hnm hxn ho hrd b
  match b with
  | 0 =>
    show GK X Q101 0 (o_iload 1 (o_ifn (o_iconst (-1) (o_iret)) (o_iload 1 (o_iconst 30 (o_igt (o_iconst (-1) (o_iret)) (o_aload 0 (o_getR 7 3 (o_getI 5 7 (o_if0 (o_iconst (-1) (o_iret)) (o_aload 0 (o_getR 7 8 (o_aload 0 (o_getR 7 3 (o_aload 0 (o_getR 7 4 (o_getL 4 2 (o_aload 0 (o_getR 7 4 (o_vI orc 50 1 4 (o_iload 1 (o_iconst 0 (o_vV orc 81 6 6 (o_aload 0 (o_getR 7 8 (o_aload 0 (o_getR 7 3 (o_vI orc 84 2 6 (o_iret))))))))))))))))))))))))))))
    refine gk_iload_n (j := 1) h (by decide +kernel) rfl ?_
    refine gk_iflt (off := 19) (tgt := 20) h (by decide +kernel) (by decide) ?_ ?_
    · refine gk_iconst (n := (-1)) h (by decide +kernel) (by decide) ?_
      exact gk_iret h hR (by decide +kernel)
    · refine gk_iload_n (j := 1) h (by decide +kernel) rfl ?_
      refine gk_bipush (n := 30) h (by decide +kernel) (by decide) ?_
      refine gk_icmpgt (off := 13) (tgt := 20) h (by decide +kernel) (by decide) ?_ ?_
      · refine gk_iconst (n := (-1)) h (by decide +kernel) (by decide) ?_
        exact gk_iret h hR (by decide +kernel)
      · refine gk_aload_n (j := 0) h (by decide +kernel) rfl ?_
        refine gk_getR (i := 70) h ck_7 (by decide) (fun _ _ _ => rfl) (by decide +kernel) kw_443 ?_
        refine gk_getI (i := 196) h ck_5 (by decide) (fun _ _ _ => rfl) (by decide +kernel) kw_336 ?_
        refine gk_ifne (off := 5) (tgt := 22) h (by decide +kernel) (by decide) ?_ ?_
        · refine gk_aload_n (j := 0) h (by decide +kernel) rfl ?_
          refine gk_getR (i := 50) h ck_7 (by decide) (fun _ _ _ => rfl) (by decide +kernel) kw_448 ?_
          refine gk_aload_n (j := 0) h (by decide +kernel) rfl ?_
          refine gk_getR (i := 70) h ck_7 (by decide) (fun _ _ _ => rfl) (by decide +kernel) kw_443 ?_
          refine gk_aload_n (j := 0) h (by decide +kernel) rfl ?_
          refine gk_getR (i := 27) h ck_7 (by decide) (fun _ _ _ => rfl) (by decide +kernel) kw_444 ?_
          refine gk_getL (i := 126) h ck_4 (by decide) (fun _ _ _ => rfl) (by decide +kernel) kw_217 ?_
          refine gk_aload_n (j := 0) h (by decide +kernel) rfl ?_
          refine gk_getR (i := 27) h ck_7 (by decide) (fun _ _ _ => rfl) (by decide +kernel) kw_444 ?_
          refine gk_vI (ca_v (idx := 156) h ho hm_50 (rd_le hrd (by decide)) ck_4 (by decide +kernel) kw_385 kw_386 kw_387 kw_93 kw_388 rfl (by decide +kernel) (by decide)) ?_
          refine gk_iload_n (j := 1) h (by decide +kernel) rfl ?_
          refine gk_iconst (n := 0) h (by decide +kernel) (by decide) ?_
          refine gk_vV (ca_v (idx := 224) h ho hm_81 (rd_le hrd (by decide)) ck_6 (by decide +kernel) kw_802 kw_803 kw_804 kw_96 kw_805 rfl (by decide +kernel) (by decide)) ?_
          refine gk_aload_n (j := 0) h (by decide +kernel) rfl ?_
          refine gk_getR (i := 50) h ck_7 (by decide) (fun _ _ _ => rfl) (by decide +kernel) kw_448 ?_
          refine gk_aload_n (j := 0) h (by decide +kernel) rfl ?_
          refine gk_getR (i := 70) h ck_7 (by decide) (fun _ _ _ => rfl) (by decide +kernel) kw_443 ?_
          refine gk_vI (ca_v (idx := 228) h ho hm_84 (rd_le hrd (by decide)) ck_6 (by decide +kernel) kw_829 kw_830 kw_831 kw_96 kw_832 rfl (by decide +kernel) (by decide)) ?_
          exact gk_iret h hR (by decide +kernel)
        · refine gk_iconst (n := (-1)) h (by decide +kernel) (by decide) ?_
          exact gk_iret h hR (by decide +kernel)
  | _ + 1 => exact fun _ _ _ hr => hr.elim
set_option maxRecDepth 20000 in
set_option maxHeartbeats 4000000 in
theorem s_102 : MS mtab yX8_histories cX8_histories 2 (some .int) Q102 P102 := by
  intro X orc d h hR hnm hxn ho hrd b
  match b with
  | 0 =>
    show GK X Q102 0 (o_iload 1 (o_ifn (o_iconst (-1) (o_iret)) (o_iload 1 (o_iconst 30 (o_igt (o_iconst (-1) (o_iret)) (o_aload 0 (o_getR 7 3 (o_getI 5 7 (o_if0 (o_iconst (-1) (o_iret)) (o_aload 0 (o_getR 7 8 (o_aload 0 (o_getR 7 3 (o_lconst 0 (o_iconst 0 (o_iload 1 (o_iconst 1 (o_vV orc 81 6 6 (o_aload 0 (o_getR 7 8 (o_aload 0 (o_getR 7 3 (o_aload 0 (o_getR 7 4 (o_getL 4 2 (o_vI orc 85 3 6 (o_iret)))))))))))))))))))))))))))
    refine gk_iload_n (j := 1) h (by decide +kernel) rfl ?_
    refine gk_iflt (off := 19) (tgt := 20) h (by decide +kernel) (by decide) ?_ ?_
    · refine gk_iconst (n := (-1)) h (by decide +kernel) (by decide) ?_
      exact gk_iret h hR (by decide +kernel)
    · refine gk_iload_n (j := 1) h (by decide +kernel) rfl ?_
      refine gk_bipush (n := 30) h (by decide +kernel) (by decide) ?_
      refine gk_icmpgt (off := 13) (tgt := 20) h (by decide +kernel) (by decide) ?_ ?_
      · refine gk_iconst (n := (-1)) h (by decide +kernel) (by decide) ?_
        exact gk_iret h hR (by decide +kernel)
      · refine gk_aload_n (j := 0) h (by decide +kernel) rfl ?_
        refine gk_getR (i := 70) h ck_7 (by decide) (fun _ _ _ => rfl) (by decide +kernel) kw_443 ?_
        refine gk_getI (i := 196) h ck_5 (by decide) (fun _ _ _ => rfl) (by decide +kernel) kw_336 ?_
        refine gk_ifne (off := 5) (tgt := 22) h (by decide +kernel) (by decide) ?_ ?_
        · refine gk_aload_n (j := 0) h (by decide +kernel) rfl ?_
          refine gk_getR (i := 50) h ck_7 (by decide) (fun _ _ _ => rfl) (by decide +kernel) kw_448 ?_
          refine gk_aload_n (j := 0) h (by decide +kernel) rfl ?_
          refine gk_getR (i := 70) h ck_7 (by decide) (fun _ _ _ => rfl) (by decide +kernel) kw_443 ?_
          refine gk_lconst (n := 0) h (by decide +kernel) rfl ?_
          refine gk_iconst (n := 0) h (by decide +kernel) (by decide) ?_
          refine gk_iload_n (j := 1) h (by decide +kernel) rfl ?_
          refine gk_iconst (n := 1) h (by decide +kernel) (by decide) ?_
          refine gk_vV (ca_v (idx := 224) h ho hm_81 (rd_le hrd (by decide)) ck_6 (by decide +kernel) kw_802 kw_803 kw_804 kw_96 kw_805 rfl (by decide +kernel) (by decide)) ?_
          refine gk_aload_n (j := 0) h (by decide +kernel) rfl ?_
          refine gk_getR (i := 50) h ck_7 (by decide) (fun _ _ _ => rfl) (by decide +kernel) kw_448 ?_
          refine gk_aload_n (j := 0) h (by decide +kernel) rfl ?_
          refine gk_getR (i := 70) h ck_7 (by decide) (fun _ _ _ => rfl) (by decide +kernel) kw_443 ?_
          refine gk_aload_n (j := 0) h (by decide +kernel) rfl ?_
          refine gk_getR (i := 27) h ck_7 (by decide) (fun _ _ _ => rfl) (by decide +kernel) kw_444 ?_
          refine gk_getL (i := 126) h ck_4 (by decide) (fun _ _ _ => rfl) (by decide +kernel) kw_217 ?_
          refine gk_vI (ca_v (idx := 232) h ho hm_85 (rd_le hrd (by decide)) ck_6 (by decide +kernel) kw_841 kw_842 kw_843 kw_96 kw_844 rfl (by decide +kernel) (by decide)) ?_
          exact gk_iret h hR (by decide +kernel)
        · refine gk_iconst (n := (-1)) h (by decide +kernel) (by decide) ?_
          exact gk_iret h hR (by decide +kernel)
  | _ + 1 => exact fun _ _ _ hr => hr.elim
set_option maxRecDepth 20000 in
set_option maxHeartbeats 4000000 in
theorem s_103 : MS mtab yX8_lots cX8_lots 14 (some .int) Q103 P103 := by
  intro X orc d h hR hnm hxn ho hrd b
  match b with
  | 0 =>
    show GK X Q103 0 (o_iload 1 (o_ifn (o_iconst (-1) (o_iret)) (o_iload 1 (o_iconst 9999 (o_igt (o_iconst (-1) (o_iret)) (o_iload 2 (o_iconst 1 (o_ilt (o_iconst (-1) (o_iret)) (o_iload 2 (o_iconst 100 (o_igt (o_iconst (-1) (o_iret)) (o_iload 3 (o_ifn (o_iconst (-1) (o_iret)) (o_iload 3 (o_iconst 1 (o_igt (o_iconst (-1) (o_iret)) (o_iload 1 (o_i2l (o_lstore 4 (o_iconst 0 (o_istore 6 (o_iconst 0 (o_istore 7 (o_iconst 0 (o_istore 8 (o_jmp 1))))))))))))))))))))))))))
    refine gk_iload_n (j := 1) h (by decide +kernel) rfl ?_
    refine gk_iflt (off := 30) (tgt := 31) h (by decide +kernel) (by decide) ?_ ?_
    · refine gk_iconst (n := (-1)) h (by decide +kernel) (by decide) ?_
      exact gk_iret h hR (by decide +kernel)
    · refine gk_iload_n (j := 1) h (by decide +kernel) rfl ?_
      refine gk_sipush (n := 9999) h (by decide +kernel) (by decide) ?_
      refine gk_icmpgt (off := 23) (tgt := 31) h (by decide +kernel) (by decide) ?_ ?_
      · refine gk_iconst (n := (-1)) h (by decide +kernel) (by decide) ?_
        exact gk_iret h hR (by decide +kernel)
      · refine gk_iload_n (j := 2) h (by decide +kernel) rfl ?_
        refine gk_iconst (n := 1) h (by decide +kernel) (by decide) ?_
        refine gk_icmplt (off := 18) (tgt := 31) h (by decide +kernel) (by decide) ?_ ?_
        · refine gk_iconst (n := (-1)) h (by decide +kernel) (by decide) ?_
          exact gk_iret h hR (by decide +kernel)
        · refine gk_iload_n (j := 2) h (by decide +kernel) rfl ?_
          refine gk_bipush (n := 100) h (by decide +kernel) (by decide) ?_
          refine gk_icmpgt (off := 12) (tgt := 31) h (by decide +kernel) (by decide) ?_ ?_
          · refine gk_iconst (n := (-1)) h (by decide +kernel) (by decide) ?_
            exact gk_iret h hR (by decide +kernel)
          · refine gk_iload_n (j := 3) h (by decide +kernel) rfl ?_
            refine gk_iflt (off := 8) (tgt := 31) h (by decide +kernel) (by decide) ?_ ?_
            · refine gk_iconst (n := (-1)) h (by decide +kernel) (by decide) ?_
              exact gk_iret h hR (by decide +kernel)
            · refine gk_iload_n (j := 3) h (by decide +kernel) rfl ?_
              refine gk_iconst (n := 1) h (by decide +kernel) (by decide) ?_
              refine gk_icmple (off := 5) (tgt := 33) h (by decide +kernel) (by decide) ?_ ?_
              · refine gk_iload_n (j := 1) h (by decide +kernel) rfl ?_
                refine gk_i2l h (by decide +kernel) ?_
                refine gk_lstore h (by decide +kernel) hxn (by decide) ?_
                refine gk_iconst (n := 0) h (by decide +kernel) (by decide) ?_
                refine gk_istore h (by decide +kernel) hxn (by decide) ?_
                refine gk_iconst (n := 0) h (by decide +kernel) (by decide) ?_
                refine gk_istore h (by decide +kernel) hxn (by decide) ?_
                refine gk_iconst (n := 0) h (by decide +kernel) (by decide) ?_
                refine gk_istore h (by decide +kernel) hxn (by decide) ?_
                exact gk_jmp 1 rfl
              · refine gk_iconst (n := (-1)) h (by decide +kernel) (by decide) ?_
                exact gk_iret h hR (by decide +kernel)
  | 1 =>
    show GK X Q103 46 (o_iload 8 (o_iload 2 (o_ilt (o_aload 0 (o_getR 7 4 (o_getL 4 2 (o_lstore 9 (o_aload 0 (o_getR 7 4 (o_vI orc 50 1 4 (o_istore 11 (o_aload 0 (o_getR 7 3 (o_lload 9 (o_iload 11 (o_aload 0 (o_getR 7 11 (o_vI orc 72 4 5 (o_istore 12 (o_iconst 0 (o_istore 13 (o_jmp 2))))))))))))))))))) (o_iload 3 (o_if0 (o_iload 6 (o_iret)) (o_iload 7 (o_iret)))))))
    refine gk_iload h (by decide +kernel) ?_
    refine gk_iload_n (j := 2) h (by decide +kernel) rfl ?_
    refine gk_icmpge (off := 160) (tgt := 209) h (by decide +kernel) (by decide) ?_ ?_
    · refine gk_iload_n (j := 3) h (by decide +kernel) rfl ?_
      refine gk_ifne (off := 8) (tgt := 218) h (by decide +kernel) (by decide) ?_ ?_
      · refine gk_iload h (by decide +kernel) ?_
        exact gk_iret h hR (by decide +kernel)
      · refine gk_iload h (by decide +kernel) ?_
        refine gk_goto (off := 5) (tgt := 220) h (by decide +kernel) (by decide) ?_
        exact gk_iret h hR (by decide +kernel)
    · refine gk_aload_n (j := 0) h (by decide +kernel) rfl ?_
      refine gk_getR (i := 27) h ck_7 (by decide) (fun _ _ _ => rfl) (by decide +kernel) kw_444 ?_
      refine gk_getL (i := 126) h ck_4 (by decide) (fun _ _ _ => rfl) (by decide +kernel) kw_217 ?_
      refine gk_lstore h (by decide +kernel) hxn (by decide) ?_
      refine gk_aload_n (j := 0) h (by decide +kernel) rfl ?_
      refine gk_getR (i := 27) h ck_7 (by decide) (fun _ _ _ => rfl) (by decide +kernel) kw_444 ?_
      refine gk_vI (ca_v (idx := 156) h ho hm_50 (rd_le hrd (by decide)) ck_4 (by decide +kernel) kw_385 kw_386 kw_387 kw_93 kw_388 rfl (by decide +kernel) (by decide)) ?_
      refine gk_istore h (by decide +kernel) hxn (by decide) ?_
      refine gk_aload_n (j := 0) h (by decide +kernel) rfl ?_
      refine gk_getR (i := 70) h ck_7 (by decide) (fun _ _ _ => rfl) (by decide +kernel) kw_443 ?_
      refine gk_lload h (by decide +kernel) ?_
      refine gk_iload h (by decide +kernel) ?_
      refine gk_aload_n (j := 0) h (by decide +kernel) rfl ?_
      refine gk_getR (i := 63) h ck_7 (by decide) (fun _ _ _ => rfl) (by decide +kernel) kw_451 ?_
      refine gk_vI (ca_v (idx := 236) h ho hm_72 (rd_le hrd (by decide)) ck_5 (by decide +kernel) kw_389 kw_390 kw_391 kw_97 kw_392 rfl (by decide +kernel) (by decide)) ?_
      refine gk_istore h (by decide +kernel) hxn (by decide) ?_
      refine gk_iconst (n := 0) h (by decide +kernel) (by decide) ?_
      refine gk_istore h (by decide +kernel) hxn (by decide) ?_
      exact gk_jmp 2 rfl
  | 2 =>
    show GK X Q103 90 (o_iload 13 (o_iconst 60 (o_ilt (o_iload 12 (o_ifp (o_lload 4 (o_lconst 1103515245 (o_l2 (fun x y => x * y) (o_lconst 12345 (o_l2 (fun x y => x + y) (o_lconst 2147483648 (o_l2z (fun x y => x - x / y * y) (o_lstore 4 (o_aload 0 (o_getR 7 3 (o_lload 9 (o_iload 11 (o_aload 0 (o_getR 7 11 (o_lload 4 (o_lconst 65536 (o_l2z (fun x y => x / y) (o_iload 12 (o_i2l (o_l2z (fun x y => x - x / y * y) (o_l2i (o_iald 0 (o_vL orc 73 4 5 (o_lstore 9 (o_iconst 1 (o_iload 11 (o_i2 (fun x y => x - y) (o_istore 11 (o_iinc 7 1 (o_aload 0 (o_getR 7 3 (o_lload 9 (o_iload 11 (o_aload 0 (o_getR 7 11 (o_vI orc 72 4 5 (o_istore 12 (o_iinc 13 1 (o_jmp 2))))))))))))))))))))))))))))))))))))))) (o_jmp 3))) (o_jmp 3))))
    refine gk_iload h (by decide +kernel) ?_
    refine gk_bipush (n := 60) h (by decide +kernel) (by decide) ?_
    refine gk_icmpge (off := 85) (tgt := 179) h (by decide +kernel) (by decide) ?_ ?_
    · exact gk_jmp 3 rfl
    · refine gk_iload h (by decide +kernel) ?_
      refine gk_ifle (off := 80) (tgt := 179) h (by decide +kernel) (by decide) ?_ ?_
      · exact gk_jmp 3 rfl
      · refine gk_lload h (by decide +kernel) ?_
        refine gk_ldc2 (i := 240) h (by decide +kernel) kw_849 ?_
        refine gk_lmul h (by decide +kernel) ?_
        refine gk_ldc2 (i := 242) h (by decide +kernel) kw_850 ?_
        refine gk_ladd h (by decide +kernel) ?_
        refine gk_ldc2 (i := 244) h (by decide +kernel) kw_851 ?_
        refine gk_lrem h (by decide +kernel) ?_
        refine gk_lstore h (by decide +kernel) hxn (by decide) ?_
        refine gk_aload_n (j := 0) h (by decide +kernel) rfl ?_
        refine gk_getR (i := 70) h ck_7 (by decide) (fun _ _ _ => rfl) (by decide +kernel) kw_443 ?_
        refine gk_lload h (by decide +kernel) ?_
        refine gk_iload h (by decide +kernel) ?_
        refine gk_aload_n (j := 0) h (by decide +kernel) rfl ?_
        refine gk_getR (i := 63) h ck_7 (by decide) (fun _ _ _ => rfl) (by decide +kernel) kw_451 ?_
        refine gk_lload h (by decide +kernel) ?_
        refine gk_ldc2 (i := 246) h (by decide +kernel) kw_852 ?_
        refine gk_ldiv h (by decide +kernel) ?_
        refine gk_iload h (by decide +kernel) ?_
        refine gk_i2l h (by decide +kernel) ?_
        refine gk_lrem h (by decide +kernel) ?_
        refine gk_l2i h (by decide +kernel) ?_
        refine gk_ald0 h (by decide +kernel) ?_
        refine gk_vL (ca_v (idx := 248) h ho hm_73 (rd_le hrd (by decide)) ck_5 (by decide +kernel) kw_787 kw_670 kw_671 kw_97 kw_672 rfl (by decide +kernel) (by decide)) ?_
        refine gk_lstore h (by decide +kernel) hxn (by decide) ?_
        refine gk_iconst (n := 1) h (by decide +kernel) (by decide) ?_
        refine gk_iload h (by decide +kernel) ?_
        refine gk_isub h (by decide +kernel) ?_
        refine gk_istore h (by decide +kernel) hxn (by decide) ?_
        refine gk_iinc (z := 1) h (by decide +kernel) (by decide) hxn (by decide) ?_
        refine gk_aload_n (j := 0) h (by decide +kernel) rfl ?_
        refine gk_getR (i := 70) h ck_7 (by decide) (fun _ _ _ => rfl) (by decide +kernel) kw_443 ?_
        refine gk_lload h (by decide +kernel) ?_
        refine gk_iload h (by decide +kernel) ?_
        refine gk_aload_n (j := 0) h (by decide +kernel) rfl ?_
        refine gk_getR (i := 63) h ck_7 (by decide) (fun _ _ _ => rfl) (by decide +kernel) kw_451 ?_
        refine gk_vI (ca_v (idx := 236) h ho hm_72 (rd_le hrd (by decide)) ck_5 (by decide +kernel) kw_389 kw_390 kw_391 kw_97 kw_392 rfl (by decide +kernel) (by decide)) ?_
        refine gk_istore h (by decide +kernel) hxn (by decide) ?_
        refine gk_iinc (z := 1) h (by decide +kernel) (by decide) hxn (by decide) ?_
        refine gk_goto (off := (-86)) (tgt := 90) h (by decide +kernel) (by decide) ?_
        exact gk_jmp 2 rfl
  | 3 =>
    show GK X Q103 179 (o_iload 6 (o_aload 0 (o_getR 7 3 (o_lload 9 (o_iload 11 (o_vI orc 75 3 5 (o_if0 (o_iconst 1 (o_jmp 4)) (o_iconst 0 (o_jmp 4)))))))))
    refine gk_iload h (by decide +kernel) ?_
    refine gk_aload_n (j := 0) h (by decide +kernel) rfl ?_
    refine gk_getR (i := 70) h ck_7 (by decide) (fun _ _ _ => rfl) (by decide +kernel) kw_443 ?_
    refine gk_lload h (by decide +kernel) ?_
    refine gk_iload h (by decide +kernel) ?_
    refine gk_vI (ca_v (idx := 164) h ho hm_75 (rd_le hrd (by decide)) ck_5 (by decide +kernel) kw_853 kw_748 kw_749 kw_97 kw_750 rfl (by decide +kernel) (by decide)) ?_
    refine gk_ifne (off := 7) (tgt := 199) h (by decide +kernel) (by decide) ?_ ?_
    · refine gk_iconst (n := 0) h (by decide +kernel) (by decide) ?_
      exact gk_jmp 4 rfl
    · refine gk_iconst (n := 1) h (by decide +kernel) (by decide) ?_
      refine gk_goto (off := 4) (tgt := 200) h (by decide +kernel) (by decide) ?_
      exact gk_jmp 4 rfl
  | 4 =>
    show GK X Q103 200 (o_i2 (fun x y => x + y) (o_istore 6 (o_iinc 8 1 (o_jmp 1))))
    refine gk_iadd h (by decide +kernel) ?_
    refine gk_istore h (by decide +kernel) hxn (by decide) ?_
    refine gk_iinc (z := 1) h (by decide +kernel) (by decide) hxn (by decide) ?_
    refine gk_goto (off := (-160)) (tgt := 46) h (by decide +kernel) (by decide) ?_
    exact gk_jmp 1 rfl
  | _ + 5 => exact fun _ _ _ hr => hr.elim
