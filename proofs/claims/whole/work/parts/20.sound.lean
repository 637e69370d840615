set_option maxRecDepth 20000 in
set_option maxHeartbeats 4000000 in
theorem s_0 : MS mtab yX0_ofStone cX0_ofStone 3 (some .int) Q0 P0 := by
  intro X orc d h hR hnm hxn ho hrd b
  match b with
  | 0 =>
    show GK X Q0 0 (o_iload 0 (o_iconst 6 (o_i2 (fun x y => x <<< (y &&& 31)) (o_iload 1 (o_iconst 2 (o_i2 (fun x y => x <<< (y &&& 31)) (o_i2 (fun x y => x ||| y) (o_iload 2 (o_iconst 1 (o_i2 (fun x y => x - y) (o_i2 (fun x y => x ||| y) (o_iret))))))))))))
    refine gk_iload_n (j := 0) h (by decide +kernel) rfl ?_
    refine gk_bipush (n := 6) h (by decide +kernel) (by decide) ?_
    refine gk_ishl h (by decide +kernel) ?_
    refine gk_iload_n (j := 1) h (by decide +kernel) rfl ?_
    refine gk_iconst (n := 2) h (by decide +kernel) (by decide) ?_
    refine gk_ishl h (by decide +kernel) ?_
    refine gk_ior h (by decide +kernel) ?_
    refine gk_iload_n (j := 2) h (by decide +kernel) rfl ?_
    refine gk_iconst (n := 1) h (by decide +kernel) (by decide) ?_
    refine gk_isub h (by decide +kernel) ?_
    refine gk_ior h (by decide +kernel) ?_
    exact gk_iret h hR (by decide +kernel)
  | _ + 1 => exact fun _ _ _ hr => hr.elim
set_option maxRecDepth 20000 in
set_option maxHeartbeats 4000000 in
theorem s_1 : MS mtab yX0_ofGate cX0_ofGate 1 (some .int) Q1 P1 := by
  intro X orc d h hR hnm hxn ho hrd b
  match b with
  | 0 =>
    show GK X Q1 0 (o_iconst 384 (o_iload 0 (o_iconst 2 (o_i2 (fun x y => x <<< (y &&& 31)) (o_i2 (fun x y => x ||| y) (o_iret))))))
    refine gk_sipush (n := 384) h (by decide +kernel) (by decide) ?_
    refine gk_iload_n (j := 0) h (by decide +kernel) rfl ?_
    refine gk_iconst (n := 2) h (by decide +kernel) (by decide) ?_
    refine gk_ishl h (by decide +kernel) ?_
    refine gk_ior h (by decide +kernel) ?_
    exact gk_iret h hR (by decide +kernel)
  | _ + 1 => exact fun _ _ _ hr => hr.elim
set_option maxRecDepth 20000 in
set_option maxHeartbeats 4000000 in
theorem s_2 : MS mtab yX0_isGate cX0_isGate 1 (some .boolean) Q2 P2 := by
  intro X orc d h hR hnm hxn ho hrd b
  match b with
  | 0 =>
    show GK X Q2 0 (o_iload 0 (o_sI orc 3 1 (o_iconst 6 (o_ieq (o_iconst 1 (o_zret)) (o_iconst 0 (o_zret))))))
    refine gk_iload_n (j := 0) h (by decide +kernel) rfl ?_
    refine gk_sI (ca_s (idx := 11) h ho hm_3 (rd_le hrd (by decide)) (by decide +kernel) kw_403 kw_404 kw_99 kw_405 (by decide +kernel)) ?_
    refine gk_bipush (n := 6) h (by decide +kernel) (by decide) ?_
    refine gk_icmpne (off := 7) (tgt := 13) h (by decide +kernel) (by decide) ?_ ?_
    · refine gk_iconst (n := 0) h (by decide +kernel) (by decide) ?_
      exact gk_zret h hR (by decide +kernel)
    · refine gk_iconst (n := 1) h (by decide +kernel) (by decide) ?_
      refine gk_goto (off := 4) (tgt := 14) h (by decide +kernel) (by decide) ?_
      exact gk_zret h hR (by decide +kernel)
  | _ + 1 => exact fun _ _ _ hr => hr.elim
set_option maxRecDepth 20000 in
set_option maxHeartbeats 4000000 in
theorem s_3 : MS mtab yX0_stoneOf cX0_stoneOf 1 (some .int) Q3 P3 := by
  intro X orc d h hR hnm hxn ho hrd b
  match b with
  | 0 =>
    show GK X Q3 0 (o_iload 0 (o_iconst 6 (o_i2 (fun x y => x >>> (y &&& 31)) (o_iret))))
    refine gk_iload_n (j := 0) h (by decide +kernel) rfl ?_
    refine gk_bipush (n := 6) h (by decide +kernel) (by decide) ?_
    refine gk_ishr h (by decide +kernel) ?_
    exact gk_iret h hR (by decide +kernel)
  | _ + 1 => exact fun _ _ _ hr => hr.elim
set_option maxRecDepth 20000 in
set_option maxHeartbeats 4000000 in
theorem s_4 : MS mtab yX0_columnOf cX0_columnOf 1 (some .int) Q4 P4 := by
  intro X orc d h hR hnm hxn ho hrd b
  match b with
  | 0 =>
    show GK X Q4 0 (o_iload 0 (o_iconst 2 (o_i2 (fun x y => x >>> (y &&& 31)) (o_iconst 15 (o_i2 (fun x y => x &&& y) (o_iret))))))
    refine gk_iload_n (j := 0) h (by decide +kernel) rfl ?_
    refine gk_iconst (n := 2) h (by decide +kernel) (by decide) ?_
    refine gk_ishr h (by decide +kernel) ?_
    refine gk_bipush (n := 15) h (by decide +kernel) (by decide) ?_
    refine gk_iand h (by decide +kernel) ?_
    exact gk_iret h hR (by decide +kernel)
  | _ + 1 => exact fun _ _ _ hr => hr.elim
set_option maxRecDepth 20000 in
set_option maxHeartbeats 4000000 in
theorem s_5 : MS mtab yX0_wideOf cX0_wideOf 1 (some .int) Q5 P5 := by
  intro X orc d h hR hnm hxn ho hrd b
  match b with
  | 0 =>
    show GK X Q5 0 (o_iload 0 (o_iconst 3 (o_i2 (fun x y => x &&& y) (o_iconst 1 (o_i2 (fun x y => x + y) (o_iret))))))
    refine gk_iload_n (j := 0) h (by decide +kernel) rfl ?_
    refine gk_iconst (n := 3) h (by decide +kernel) (by decide) ?_
    refine gk_iand h (by decide +kernel) ?_
    refine gk_iconst (n := 1) h (by decide +kernel) (by decide) ?_
    refine gk_iadd h (by decide +kernel) ?_
    exact gk_iret h hR (by decide +kernel)
  | _ + 1 => exact fun _ _ _ hr => hr.elim
set_option maxRecDepth 20000 in
set_option maxHeartbeats 4000000 in
theorem s_6 : MS mtab yX1_init cX1_init 1 none Q6 P6 := by
  intro X orc d h hR hnm hxn ho hrd b
  match b with
  | 0 =>
    show GK X Q6 0 (o_aload 0 (o_obj (o_aload 0 (o_null (o_putR 0 0 (o_aload 0 (o_iconst 60 (o_newa 0 (o_putR 0 1 (o_aload 0 (o_iconst 0 (o_putI 0 2 (o_vret)))))))))))))
    refine gk_aload_n (j := 0) h (by decide +kernel) rfl ?_
    refine gk_obj (i := 3) h (by decide +kernel) kw_367 kw_117 kw_118 ?_
    refine gk_aload_n (j := 0) h (by decide +kernel) rfl ?_
    refine gk_null h (by decide +kernel) ?_
    refine gk_putR (i := 9) h ck_0 (by decide) (Or.inl ⟨_, rfl⟩) (Or.inl rfl) (by decide +kernel) kw_368 ?_
    refine gk_aload_n (j := 0) h (by decide +kernel) rfl ?_
    refine gk_bipush (n := 60) h (by decide +kernel) (by decide) ?_
    refine gk_newa (aty := .int) h (by decide) (by decide +kernel) rfl kw_190 ?_
    refine gk_putR (i := 15) h ck_0 (by decide) (Or.inr ⟨_, rfl⟩) (Or.inr ⟨rfl, hnm, rfl⟩) (by decide +kernel) kw_370 ?_
    refine gk_aload_n (j := 0) h (by decide +kernel) rfl ?_
    refine gk_iconst (n := 0) h (by decide +kernel) (by decide) ?_
    refine gk_putI (i := 19) h ck_0 (by decide) rfl (Or.inl rfl) (by decide +kernel) kw_372 ?_
    exact gk_vret h hR (by decide +kernel)
  | _ + 1 => exact fun _ _ _ hr => hr.elim
set_option maxRecDepth 20000 in
set_option maxHeartbeats 4000000 in
theorem s_7 : MS mtab yX1_lay cX1_lay 3 none Q7 P7 := by
  intro X orc d h hR hnm hxn ho hrd b
  match b with
  | 0 =>
    show GK X Q7 0 (o_aload 0 (o_aload 1 (o_putR 0 0 (o_aload 2 (o_getR 4 0 (o_iconst 0 (o_aload 0 (o_getR 0 1 (o_iconst 0 (o_iconst 60 (o_copy (o_aload 0 (o_aload 2 (o_getI 4 1 (o_putI 0 2 (o_vret))))))))))))))))
    refine gk_aload_n (j := 0) h (by decide +kernel) rfl ?_
    refine gk_aload_n (j := 1) h (by decide +kernel) rfl ?_
    refine gk_putR (i := 9) h ck_0 (by decide) (Or.inl ⟨_, rfl⟩) (Or.inl rfl) (by decide +kernel) kw_368 ?_
    refine gk_aload_n (j := 2) h (by decide +kernel) rfl ?_
    refine gk_getR (i := 23) h ck_4 (by decide) (fun _ _ _ => rfl) (by decide +kernel) kw_212 ?_
    refine gk_iconst (n := 0) h (by decide +kernel) (by decide) ?_
    refine gk_aload_n (j := 0) h (by decide +kernel) rfl ?_
    refine gk_getR (i := 15) h ck_0 (by decide) (fun _ _ _ => rfl) (by decide +kernel) kw_370 ?_
    refine gk_iconst (n := 0) h (by decide +kernel) (by decide) ?_
    refine gk_bipush (n := 60) h (by decide +kernel) (by decide) ?_
    refine gk_copy (i := 26) h (by decide +kernel) kw_862 kw_298 kw_297 kw_98 ?_
    refine gk_aload_n (j := 0) h (by decide +kernel) rfl ?_
    refine gk_aload_n (j := 2) h (by decide +kernel) rfl ?_
    refine gk_getI (i := 32) h ck_4 (by decide) (fun _ _ _ => rfl) (by decide +kernel) kw_214 ?_
    refine gk_putI (i := 19) h ck_0 (by decide) rfl (Or.inl rfl) (by decide +kernel) kw_372 ?_
    exact gk_vret h hR (by decide +kernel)
  | _ + 1 => exact fun _ _ _ hr => hr.elim
set_option maxRecDepth 20000 in
set_option maxHeartbeats 4000000 in
theorem s_8 : MS mtab yX2_init cX2_init 1 none Q8 P8 := by
  intro X orc d h hR hnm hxn ho hrd b
  match b with
  | 0 =>
    show GK X Q8 0 (o_aload 0 (o_obj (o_aload 0 (o_iconst 6250 (o_newa 0 (o_putR 1 0 (o_aload 0 (o_null (o_putR 1 1 (o_aload 0 (o_iconst (-1) (o_putI 1 2 (o_aload 0 (o_iconst (-1) (o_putI 1 3 (o_vret))))))))))))))))
    refine gk_aload_n (j := 0) h (by decide +kernel) rfl ?_
    refine gk_obj (i := 3) h (by decide +kernel) kw_251 kw_117 kw_118 ?_
    refine gk_aload_n (j := 0) h (by decide +kernel) rfl ?_
    refine gk_sipush (n := 6250) h (by decide +kernel) (by decide) ?_
    refine gk_newa (aty := .int) h (by decide) (by decide +kernel) rfl kw_190 ?_
    refine gk_putR (i := 9) h ck_1 (by decide) (Or.inr ⟨_, rfl⟩) (Or.inr ⟨rfl, hnm, rfl⟩) (by decide +kernel) kw_252 ?_
    refine gk_aload_n (j := 0) h (by decide +kernel) rfl ?_
    refine gk_null h (by decide +kernel) ?_
    refine gk_putR (i := 15) h ck_1 (by decide) (Or.inl ⟨_, rfl⟩) (Or.inl rfl) (by decide +kernel) kw_253 ?_
    refine gk_aload_n (j := 0) h (by decide +kernel) rfl ?_
    refine gk_iconst (n := (-1)) h (by decide +kernel) (by decide) ?_
    refine gk_putI (i := 19) h ck_1 (by decide) rfl (Or.inl rfl) (by decide +kernel) kw_254 ?_
    refine gk_aload_n (j := 0) h (by decide +kernel) rfl ?_
    refine gk_iconst (n := (-1)) h (by decide +kernel) (by decide) ?_
    refine gk_putI (i := 23) h ck_1 (by decide) rfl (Or.inl rfl) (by decide +kernel) kw_255 ?_
    exact gk_vret h hR (by decide +kernel)
  | _ + 1 => exact fun _ _ _ hr => hr.elim
set_option maxRecDepth 20000 in
set_option maxHeartbeats 4000000 in
theorem s_9 : MS mtab yX2_payerIn cX2_payerIn 1 (some .int) Q9 P9 := by
  intro X orc d h hR hnm hxn ho hrd b
  match b with
  | 0 =>
    show GK X Q9 0 (o_iload 0 (o_iconst 1 (o_i2 (fun x y => x &&& y) (o_iret))))
    refine gk_iload_n (j := 0) h (by decide +kernel) rfl ?_
    refine gk_iconst (n := 1) h (by decide +kernel) (by decide) ?_
    refine gk_iand h (by decide +kernel) ?_
    exact gk_iret h hR (by decide +kernel)
  | _ + 1 => exact fun _ _ _ hr => hr.elim
set_option maxRecDepth 20000 in
set_option maxHeartbeats 4000000 in
theorem s_10 : MS mtab yX2_daysIn cX2_daysIn 1 (some .int) Q10 P10 := by
  intro X orc d h hR hnm hxn ho hrd b
  match b with
  | 0 =>
    show GK X Q10 0 (o_iload 0 (o_iconst 1 (o_i2 (fun x y => x >>> (y &&& 31)) (o_iret))))
    refine gk_iload_n (j := 0) h (by decide +kernel) rfl ?_
    refine gk_iconst (n := 1) h (by decide +kernel) (by decide) ?_
    refine gk_ishr h (by decide +kernel) ?_
    exact gk_iret h hR (by decide +kernel)
  | _ + 1 => exact fun _ _ _ hr => hr.elim
set_option maxRecDepth 20000 in
set_option maxHeartbeats 4000000 in
theorem s_11 : MS mtab yX2_later cX2_later 1 (some .int) Q11 P11 := by
  intro X orc d h hR hnm hxn ho hrd b
  match b with
  | 0 =>
    show GK X Q11 0 (o_iload 0 (o_iconst 2 (o_i2 (fun x y => x + y) (o_iret))))
    refine gk_iload_n (j := 0) h (by decide +kernel) rfl ?_
    refine gk_iconst (n := 2) h (by decide +kernel) (by decide) ?_
    refine gk_iadd h (by decide +kernel) ?_
    exact gk_iret h hR (by decide +kernel)
  | _ + 1 => exact fun _ _ _ hr => hr.elim
set_option maxRecDepth 20000 in
set_option maxHeartbeats 4000000 in
theorem s_12 : MS mtab yX2_score cX2_score 3 (some .int) Q12 P12 := by
  intro X orc d h hR hnm hxn ho hrd b
  match b with
  | 0 =>
    show GK X Q12 0 (o_iload 0 (o_sI orc 10 1 (o_istore 2 (o_iload 0 (o_sI orc 9 1 (o_iload 1 (o_ieq (o_iload 2 (o_iret)) (o_iconst 1000 (o_iload 2 (o_i2 (fun x y => x - y) (o_iret)))))))))))
    refine gk_iload_n (j := 0) h (by decide +kernel) rfl ?_
    refine gk_sI (ca_s (idx := 26) h ho hm_10 (rd_le hrd (by decide)) (by decide +kernel) kw_767 kw_768 kw_95 kw_769 (by decide +kernel)) ?_
    refine gk_istore_n (j := 2) h (by decide +kernel) rfl hxn (by decide) ?_
    refine gk_iload_n (j := 0) h (by decide +kernel) rfl ?_
    refine gk_sI (ca_s (idx := 30) h ho hm_9 (rd_le hrd (by decide)) (by decide +kernel) kw_770 kw_771 kw_95 kw_772 (by decide +kernel)) ?_
    refine gk_iload_n (j := 1) h (by decide +kernel) rfl ?_
    refine gk_icmpne (off := 7) (tgt := 17) h (by decide +kernel) (by decide) ?_ ?_
    · refine gk_sipush (n := 1000) h (by decide +kernel) (by decide) ?_
      refine gk_iload_n (j := 2) h (by decide +kernel) rfl ?_
      refine gk_isub h (by decide +kernel) ?_
      exact gk_iret h hR (by decide +kernel)
    · refine gk_iload_n (j := 2) h (by decide +kernel) rfl ?_
      refine gk_goto (off := 8) (tgt := 22) h (by decide +kernel) (by decide) ?_
      exact gk_iret h hR (by decide +kernel)
  | _ + 1 => exact fun _ _ _ hr => hr.elim
set_option maxRecDepth 20000 in
set_option maxHeartbeats 4000000 in
theorem s_13 : MS mtab yX2_prepare cX2_prepare 5 none Q13 P13 := by
  intro X orc d h hR hnm hxn ho hrd b
  match b with
  | 0 =>
    show GK X Q13 0 (o_aload 0 (o_getR 1 1 (o_aload 1 (o_aeq (o_aload 0 (o_getI 1 2 (o_iload 2 (o_ieq (o_aload 0 (o_getI 1 3 (o_iload 3 (o_ieq (o_vret) (o_jmp 1))))) (o_jmp 1))))) (o_jmp 1)))))
    refine gk_aload_n (j := 0) h (by decide +kernel) rfl ?_
    refine gk_getR (i := 15) h ck_1 (by decide) (fun _ _ _ => rfl) (by decide +kernel) kw_253 ?_
    refine gk_aload_n (j := 1) h (by decide +kernel) rfl ?_
    refine gk_acmpne (off := 20) (tgt := 25) h (by decide +kernel) (by decide) ?_ ?_
    · exact gk_jmp 1 rfl
    · refine gk_aload_n (j := 0) h (by decide +kernel) rfl ?_
      refine gk_getI (i := 19) h ck_1 (by decide) (fun _ _ _ => rfl) (by decide +kernel) kw_254 ?_
      refine gk_iload_n (j := 2) h (by decide +kernel) rfl ?_
      refine gk_icmpne (off := 12) (tgt := 25) h (by decide +kernel) (by decide) ?_ ?_
      · exact gk_jmp 1 rfl
      · refine gk_aload_n (j := 0) h (by decide +kernel) rfl ?_
        refine gk_getI (i := 23) h ck_1 (by decide) (fun _ _ _ => rfl) (by decide +kernel) kw_255 ?_
        refine gk_iload_n (j := 3) h (by decide +kernel) rfl ?_
        refine gk_icmpne (off := 4) (tgt := 25) h (by decide +kernel) (by decide) ?_ ?_
        · exact gk_jmp 1 rfl
        · exact gk_vret h hR (by decide +kernel)
  | 1 =>
    show GK X Q13 25 (o_aload 0 (o_aload 1 (o_putR 1 1 (o_aload 0 (o_iload 2 (o_putI 1 2 (o_aload 0 (o_iload 3 (o_putI 1 3 (o_iconst 0 (o_istore 4 (o_jmp 2))))))))))))
    refine gk_aload_n (j := 0) h (by decide +kernel) rfl ?_
    refine gk_aload_n (j := 1) h (by decide +kernel) rfl ?_
    refine gk_putR (i := 15) h ck_1 (by decide) (Or.inl ⟨_, rfl⟩) (Or.inl rfl) (by decide +kernel) kw_253 ?_
    refine gk_aload_n (j := 0) h (by decide +kernel) rfl ?_
    refine gk_iload_n (j := 2) h (by decide +kernel) rfl ?_
    refine gk_putI (i := 19) h ck_1 (by decide) rfl (Or.inl rfl) (by decide +kernel) kw_254 ?_
    refine gk_aload_n (j := 0) h (by decide +kernel) rfl ?_
    refine gk_iload_n (j := 3) h (by decide +kernel) rfl ?_
    refine gk_putI (i := 23) h ck_1 (by decide) rfl (Or.inl rfl) (by decide +kernel) kw_255 ?_
    refine gk_iconst (n := 0) h (by decide +kernel) (by decide) ?_
    refine gk_istore h (by decide +kernel) hxn (by decide) ?_
    exact gk_jmp 2 rfl
  | 2 =>
    show GK X Q13 43 (o_iload 4 (o_aload 0 (o_getR 1 0 (o_alen (o_ilt (o_aload 0 (o_getR 1 0 (o_iload 4 (o_iconst 0 (o_iast 0 (fun x => x) (o_iinc 4 1 (o_jmp 2))))))) (o_vret))))))
    refine gk_iload h (by decide +kernel) ?_
    refine gk_aload_n (j := 0) h (by decide +kernel) rfl ?_
    refine gk_getR (i := 9) h ck_1 (by decide) (fun _ _ _ => rfl) (by decide +kernel) kw_252 ?_
    refine gk_alen h (by decide +kernel) ?_
    refine gk_icmpge (off := 17) (tgt := 67) h (by decide +kernel) (by decide) ?_ ?_
    · exact gk_vret h hR (by decide +kernel)
    · refine gk_aload_n (j := 0) h (by decide +kernel) rfl ?_
      refine gk_getR (i := 9) h ck_1 (by decide) (fun _ _ _ => rfl) (by decide +kernel) kw_252 ?_
      refine gk_iload h (by decide +kernel) ?_
      refine gk_iconst (n := 0) h (by decide +kernel) (by decide) ?_
      refine gk_ast0 h (by decide +kernel) ?_
      refine gk_iinc (z := 1) h (by decide +kernel) (by decide) hxn (by decide) ?_
      refine gk_goto (off := (-21)) (tgt := 43) h (by decide +kernel) (by decide) ?_
      exact gk_jmp 2 rfl
  | _ + 3 => exact fun _ _ _ hr => hr.elim
set_option maxRecDepth 20000 in
set_option maxHeartbeats 4000000 in
theorem s_14 : MS mtab yX2_outcome cX2_outcome 6 (some .int) Q14 P14 := by
  intro X orc d h hR hnm hxn ho hrd b
  match b with
  | 0 =>
    show GK X Q14 0 (o_aload 0 (o_getR 1 1 (o_ifnull (o_iload 3 (o_iret)) (o_iload 4 (o_iconst 20 (o_igt (o_iload 3 (o_iret)) (o_iconst 2 (o_aload 0 (o_getR 1 1 (o_lload 1 (o_vI orc 76 2 5 (o_i2 (fun x y => x * y) (o_iload 3 (o_i2 (fun x y => x + y) (o_istore 5 (o_iload 5 (o_aload 0 (o_getR 1 0 (o_alen (o_ilt (o_aload 0 (o_getR 1 0 (o_iload 5 (o_iald 0 (o_if0 (o_aload 0 (o_getR 1 0 (o_iload 5 (o_iconst 1 (o_iload 3 (o_aload 0 (o_getI 1 2 (o_ieq (o_aload 0 (o_lload 1 (o_iload 3 (o_iload 4 (o_vI orc 16 4 1 (o_jmp 1)))))) (o_aload 0 (o_lload 1 (o_iload 3 (o_iload 4 (o_vI orc 15 4 1 (o_jmp 1)))))))))))))) (o_jmp 2)))))) (o_iload 3 (o_iret))))))))))))))))))))))
    refine gk_aload_n (j := 0) h (by decide +kernel) rfl ?_
    refine gk_getR (i := 15) h ck_1 (by decide) (fun _ _ _ => rfl) (by decide +kernel) kw_253 ?_
    refine gk_ifnull (off := 10) (tgt := 14) h (by decide +kernel) (by decide) ?_ ?_
    · refine gk_iload_n (j := 3) h (by decide +kernel) rfl ?_
      exact gk_iret h hR (by decide +kernel)
    · refine gk_iload h (by decide +kernel) ?_
      refine gk_bipush (n := 20) h (by decide +kernel) (by decide) ?_
      refine gk_icmple (off := 5) (tgt := 16) h (by decide +kernel) (by decide) ?_ ?_
      · refine gk_iconst (n := 2) h (by decide +kernel) (by decide) ?_
        refine gk_aload_n (j := 0) h (by decide +kernel) rfl ?_
        refine gk_getR (i := 15) h ck_1 (by decide) (fun _ _ _ => rfl) (by decide +kernel) kw_253 ?_
        refine gk_lload_n (j := 1) h (by decide +kernel) rfl ?_
        refine gk_vI (ca_v (idx := 33) h ho hm_76 (rd_le hrd (by decide)) ck_5 (by decide +kernel) kw_732 kw_733 kw_734 kw_97 kw_735 rfl (by decide +kernel) (by decide)) ?_
        refine gk_imul h (by decide +kernel) ?_
        refine gk_iload_n (j := 3) h (by decide +kernel) rfl ?_
        refine gk_iadd h (by decide +kernel) ?_
        refine gk_istore h (by decide +kernel) hxn (by decide) ?_
        refine gk_iload h (by decide +kernel) ?_
        refine gk_aload_n (j := 0) h (by decide +kernel) rfl ?_
        refine gk_getR (i := 9) h ck_1 (by decide) (fun _ _ _ => rfl) (by decide +kernel) kw_252 ?_
        refine gk_alen h (by decide +kernel) ?_
        refine gk_icmplt (off := 5) (tgt := 42) h (by decide +kernel) (by decide) ?_ ?_
        · refine gk_aload_n (j := 0) h (by decide +kernel) rfl ?_
          refine gk_getR (i := 9) h ck_1 (by decide) (fun _ _ _ => rfl) (by decide +kernel) kw_252 ?_
          refine gk_iload h (by decide +kernel) ?_
          refine gk_ald0 h (by decide +kernel) ?_
          refine gk_ifne (off := 39) (tgt := 88) h (by decide +kernel) (by decide) ?_ ?_
          · exact gk_jmp 2 rfl
          · refine gk_aload_n (j := 0) h (by decide +kernel) rfl ?_
            refine gk_getR (i := 9) h ck_1 (by decide) (fun _ _ _ => rfl) (by decide +kernel) kw_252 ?_
            refine gk_iload h (by decide +kernel) ?_
            refine gk_iconst (n := 1) h (by decide +kernel) (by decide) ?_
            refine gk_iload_n (j := 3) h (by decide +kernel) rfl ?_
            refine gk_aload_n (j := 0) h (by decide +kernel) rfl ?_
            refine gk_getI (i := 19) h ck_1 (by decide) (fun _ _ _ => rfl) (by decide +kernel) kw_254 ?_
            refine gk_icmpne (off := 14) (tgt := 78) h (by decide +kernel) (by decide) ?_ ?_
            · refine gk_aload_n (j := 0) h (by decide +kernel) rfl ?_
              refine gk_lload_n (j := 1) h (by decide +kernel) rfl ?_
              refine gk_iload_n (j := 3) h (by decide +kernel) rfl ?_
              refine gk_iload h (by decide +kernel) ?_
              refine gk_vI (ca_v (idx := 43) h ho hm_15 (rd_le hrd (by decide)) ck_1 (by decide +kernel) kw_760 kw_762 kw_33 kw_95 kw_763 rfl (by decide +kernel) (by decide)) ?_
              exact gk_jmp 1 rfl
            · refine gk_aload_n (j := 0) h (by decide +kernel) rfl ?_
              refine gk_lload_n (j := 1) h (by decide +kernel) rfl ?_
              refine gk_iload_n (j := 3) h (by decide +kernel) rfl ?_
              refine gk_iload h (by decide +kernel) ?_
              refine gk_vI (ca_v (idx := 39) h ho hm_16 (rd_le hrd (by decide)) ck_1 (by decide +kernel) kw_736 kw_738 kw_31 kw_95 kw_739 rfl (by decide +kernel) (by decide)) ?_
              refine gk_goto (off := 11) (tgt := 86) h (by decide +kernel) (by decide) ?_
              exact gk_jmp 1 rfl
        · refine gk_iload_n (j := 3) h (by decide +kernel) rfl ?_
          exact gk_iret h hR (by decide +kernel)
      · refine gk_iload_n (j := 3) h (by decide +kernel) rfl ?_
        exact gk_iret h hR (by decide +kernel)
  | 1 =>
    show GK X Q14 86 (o_i2 (fun x y => x + y) (o_iast 0 (fun x => x) (o_jmp 2)))
    refine gk_iadd h (by decide +kernel) ?_
    refine gk_ast0 h (by decide +kernel) ?_
    exact gk_jmp 2 rfl
  | 2 =>
    show GK X Q14 88 (o_aload 0 (o_getR 1 0 (o_iload 5 (o_iald 0 (o_iconst 1 (o_i2 (fun x y => x - y) (o_iret)))))))
    refine gk_aload_n (j := 0) h (by decide +kernel) rfl ?_
    refine gk_getR (i := 9) h ck_1 (by decide) (fun _ _ _ => rfl) (by decide +kernel) kw_252 ?_
    refine gk_iload h (by decide +kernel) ?_
    refine gk_ald0 h (by decide +kernel) ?_
    refine gk_iconst (n := 1) h (by decide +kernel) (by decide) ?_
    refine gk_isub h (by decide +kernel) ?_
    exact gk_iret h hR (by decide +kernel)
  | _ + 3 => exact fun _ _ _ hr => hr.elim
set_option maxRecDepth 20000 in
set_option maxHeartbeats 4000000 in
theorem s_15 : MS mtab yX2_outcomeByChoice cX2_outcomeByChoice 9 (some .int) Q15 P15 := by
  intro X orc d h hR hnm hxn ho hrd b
  match b with
  | 0 =>
    show GK X Q15 0 (o_iconst (-1) (o_istore 5 (o_iconst 0 (o_istore 6 (o_jmp 1)))))
    refine gk_iconst (n := (-1)) h (by decide +kernel) (by decide) ?_
    refine gk_istore h (by decide +kernel) hxn (by decide) ?_
    refine gk_iconst (n := 0) h (by decide +kernel) (by decide) ?_
    refine gk_istore h (by decide +kernel) hxn (by decide) ?_
    exact gk_jmp 1 rfl
  | 1 =>
    show GK X Q15 6 (o_iload 6 (o_aload 0 (o_getR 1 1 (o_getR 5 8 (o_alen (o_ilt (o_aload 0 (o_getR 1 1 (o_getR 5 8 (o_iload 6 (o_iald 0 (o_istore 7 (o_aload 0 (o_getR 1 1 (o_lload 1 (o_iload 3 (o_iload 7 (o_vI orc 71 4 5 (o_if0 (o_jmp 3) (o_aload 0 (o_aload 0 (o_getR 1 1 (o_lload 1 (o_iload 3 (o_iload 7 (o_vL orc 73 4 5 (o_iconst 1 (o_iload 3 (o_i2 (fun x y => x - y) (o_iload 4 (o_iconst 1 (o_i2 (fun x y => x + y) (o_vI orc 14 4 1 (o_sI orc 11 1 (o_istore 8 (o_iload 5 (o_iconst (-1) (o_ieq (o_jmp 2) (o_iload 8 (o_iload 3 (o_sI orc 12 2 (o_iload 5 (o_iload 3 (o_sI orc 12 2 (o_igt (o_jmp 2) (o_jmp 3)))))))))))))))))))))))))))))))))))))))) (o_iload 5 (o_iconst (-1) (o_ieq (o_aload 0 (o_getR 1 1 (o_lload 1 (o_iload 3 (o_vI orc 75 3 5 (o_iret)))))) (o_iload 5 (o_iret)))))))))))
    refine gk_iload h (by decide +kernel) ?_
    refine gk_aload_n (j := 0) h (by decide +kernel) rfl ?_
    refine gk_getR (i := 15) h ck_1 (by decide) (fun _ _ _ => rfl) (by decide +kernel) kw_253 ?_
    refine gk_getR (i := 46) h ck_5 (by decide) (fun _ _ _ => rfl) (by decide +kernel) kw_339 ?_
    refine gk_alen h (by decide +kernel) ?_
    refine gk_icmpge (off := 87) (tgt := 103) h (by decide +kernel) (by decide) ?_ ?_
    · refine gk_iload h (by decide +kernel) ?_
      refine gk_iconst (n := (-1)) h (by decide +kernel) (by decide) ?_
      refine gk_icmpne (off := 15) (tgt := 121) h (by decide +kernel) (by decide) ?_ ?_
      · refine gk_iload h (by decide +kernel) ?_
        exact gk_iret h hR (by decide +kernel)
      · refine gk_aload_n (j := 0) h (by decide +kernel) rfl ?_
        refine gk_getR (i := 15) h ck_1 (by decide) (fun _ _ _ => rfl) (by decide +kernel) kw_253 ?_
        refine gk_lload_n (j := 1) h (by decide +kernel) rfl ?_
        refine gk_iload_n (j := 3) h (by decide +kernel) rfl ?_
        refine gk_vI (ca_v (idx := 67) h ho hm_75 (rd_le hrd (by decide)) ck_5 (by decide +kernel) kw_747 kw_748 kw_749 kw_97 kw_750 rfl (by decide +kernel) (by decide)) ?_
        refine gk_goto (off := 5) (tgt := 123) h (by decide +kernel) (by decide) ?_
        exact gk_iret h hR (by decide +kernel)
    · refine gk_aload_n (j := 0) h (by decide +kernel) rfl ?_
      refine gk_getR (i := 15) h ck_1 (by decide) (fun _ _ _ => rfl) (by decide +kernel) kw_253 ?_
      refine gk_getR (i := 46) h ck_5 (by decide) (fun _ _ _ => rfl) (by decide +kernel) kw_339 ?_
      refine gk_iload h (by decide +kernel) ?_
      refine gk_ald0 h (by decide +kernel) ?_
      refine gk_istore h (by decide +kernel) hxn (by decide) ?_
      refine gk_aload_n (j := 0) h (by decide +kernel) rfl ?_
      refine gk_getR (i := 15) h ck_1 (by decide) (fun _ _ _ => rfl) (by decide +kernel) kw_253 ?_
      refine gk_lload_n (j := 1) h (by decide +kernel) rfl ?_
      refine gk_iload_n (j := 3) h (by decide +kernel) rfl ?_
      refine gk_iload h (by decide +kernel) ?_
      refine gk_vI (ca_v (idx := 49) h ho hm_71 (rd_le hrd (by decide)) ck_5 (by decide +kernel) kw_744 kw_394 kw_395 kw_97 kw_396 rfl (by decide +kernel) (by decide)) ?_
      refine gk_ifeq (off := 55) (tgt := 97) h (by decide +kernel) (by decide) ?_ ?_
      · exact gk_jmp 3 rfl
      · refine gk_aload_n (j := 0) h (by decide +kernel) rfl ?_
        refine gk_aload_n (j := 0) h (by decide +kernel) rfl ?_
        refine gk_getR (i := 15) h ck_1 (by decide) (fun _ _ _ => rfl) (by decide +kernel) kw_253 ?_
        refine gk_lload_n (j := 1) h (by decide +kernel) rfl ?_
        refine gk_iload_n (j := 3) h (by decide +kernel) rfl ?_
        refine gk_iload h (by decide +kernel) ?_
        refine gk_vL (ca_v (idx := 53) h ho hm_73 (rd_le hrd (by decide)) ck_5 (by decide +kernel) kw_755 kw_670 kw_671 kw_97 kw_672 rfl (by decide +kernel) (by decide)) ?_
        refine gk_iconst (n := 1) h (by decide +kernel) (by decide) ?_
        refine gk_iload_n (j := 3) h (by decide +kernel) rfl ?_
        refine gk_isub h (by decide +kernel) ?_
        refine gk_iload h (by decide +kernel) ?_
        refine gk_iconst (n := 1) h (by decide +kernel) (by decide) ?_
        refine gk_iadd h (by decide +kernel) ?_
        refine gk_vI (ca_v (idx := 57) h ho hm_14 (rd_le hrd (by decide)) ck_1 (by decide +kernel) kw_756 kw_730 kw_30 kw_95 kw_731 rfl (by decide +kernel) (by decide)) ?_
        refine gk_sI (ca_s (idx := 60) h ho hm_11 (rd_le hrd (by decide)) (by decide +kernel) kw_757 kw_758 kw_95 kw_759 (by decide +kernel)) ?_
        refine gk_istore h (by decide +kernel) hxn (by decide) ?_
        refine gk_iload h (by decide +kernel) ?_
        refine gk_iconst (n := (-1)) h (by decide +kernel) (by decide) ?_
        refine gk_icmpeq (off := 18) (tgt := 93) h (by decide +kernel) (by decide) ?_ ?_
        · exact gk_jmp 2 rfl
        · refine gk_iload h (by decide +kernel) ?_
          refine gk_iload_n (j := 3) h (by decide +kernel) rfl ?_
          refine gk_sI (ca_s (idx := 63) h ho hm_12 (rd_le hrd (by decide)) (by decide +kernel) kw_764 kw_765 kw_95 kw_766 (by decide +kernel)) ?_
          refine gk_iload h (by decide +kernel) ?_
          refine gk_iload_n (j := 3) h (by decide +kernel) rfl ?_
          refine gk_sI (ca_s (idx := 63) h ho hm_12 (rd_le hrd (by decide)) (by decide +kernel) kw_764 kw_765 kw_95 kw_766 (by decide +kernel)) ?_
          refine gk_icmple (off := 7) (tgt := 97) h (by decide +kernel) (by decide) ?_ ?_
          · exact gk_jmp 3 rfl
          · exact gk_jmp 2 rfl
  | 2 =>
    show GK X Q15 93 (o_iload 8 (o_istore 5 (o_jmp 3)))
    refine gk_iload h (by decide +kernel) ?_
    refine gk_istore h (by decide +kernel) hxn (by decide) ?_
    exact gk_jmp 3 rfl
  | 3 =>
    show GK X Q15 97 (o_iinc 6 1 (o_jmp 1))
    refine gk_iinc (z := 1) h (by decide +kernel) (by decide) hxn (by decide) ?_
    refine gk_goto (off := (-94)) (tgt := 6) h (by decide +kernel) (by decide) ?_
    exact gk_jmp 1 rfl
  | _ + 4 => exact fun _ _ _ hr => hr.elim
set_option maxRecDepth 20000 in
set_option maxHeartbeats 4000000 in
theorem s_16 : MS mtab yX2_outcomeByRule cX2_outcomeByRule 6 (some .int) Q16 P16 := by
  intro X orc d h hR hnm hxn ho hrd b
  match b with
  | 0 =>
    show GK X Q16 0 (o_aload 0 (o_lload 1 (o_iload 3 (o_vI orc 17 3 1 (o_istore 5 (o_iload 5 (o_iconst (-1) (o_ieq (o_aload 0 (o_getR 1 1 (o_lload 1 (o_iload 3 (o_vI orc 75 3 5 (o_iret)))))) (o_aload 0 (o_aload 0 (o_getR 1 1 (o_lload 1 (o_iload 3 (o_iload 5 (o_vL orc 73 4 5 (o_iconst 1 (o_iload 3 (o_i2 (fun x y => x - y) (o_iload 4 (o_iconst 1 (o_i2 (fun x y => x + y) (o_vI orc 14 4 1 (o_sI orc 11 1 (o_iret))))))))))))))))))))))))
    refine gk_aload_n (j := 0) h (by decide +kernel) rfl ?_
    refine gk_lload_n (j := 1) h (by decide +kernel) rfl ?_
    refine gk_iload_n (j := 3) h (by decide +kernel) rfl ?_
    refine gk_vI (ca_v (idx := 71) h ho hm_17 (rd_le hrd (by decide)) ck_1 (by decide +kernel) kw_740 kw_742 kw_32 kw_95 kw_743 rfl (by decide +kernel) (by decide)) ?_
    refine gk_istore h (by decide +kernel) hxn (by decide) ?_
    refine gk_iload h (by decide +kernel) ?_
    refine gk_iconst (n := (-1)) h (by decide +kernel) (by decide) ?_
    refine gk_icmpne (off := 13) (tgt := 24) h (by decide +kernel) (by decide) ?_ ?_
    · refine gk_aload_n (j := 0) h (by decide +kernel) rfl ?_
      refine gk_aload_n (j := 0) h (by decide +kernel) rfl ?_
      refine gk_getR (i := 15) h ck_1 (by decide) (fun _ _ _ => rfl) (by decide +kernel) kw_253 ?_
      refine gk_lload_n (j := 1) h (by decide +kernel) rfl ?_
      refine gk_iload_n (j := 3) h (by decide +kernel) rfl ?_
      refine gk_iload h (by decide +kernel) ?_
      refine gk_vL (ca_v (idx := 53) h ho hm_73 (rd_le hrd (by decide)) ck_5 (by decide +kernel) kw_755 kw_670 kw_671 kw_97 kw_672 rfl (by decide +kernel) (by decide)) ?_
      refine gk_iconst (n := 1) h (by decide +kernel) (by decide) ?_
      refine gk_iload_n (j := 3) h (by decide +kernel) rfl ?_
      refine gk_isub h (by decide +kernel) ?_
      refine gk_iload h (by decide +kernel) ?_
      refine gk_iconst (n := 1) h (by decide +kernel) (by decide) ?_
      refine gk_iadd h (by decide +kernel) ?_
      refine gk_vI (ca_v (idx := 57) h ho hm_14 (rd_le hrd (by decide)) ck_1 (by decide +kernel) kw_756 kw_730 kw_30 kw_95 kw_731 rfl (by decide +kernel) (by decide)) ?_
      refine gk_sI (ca_s (idx := 60) h ho hm_11 (rd_le hrd (by decide)) (by decide +kernel) kw_757 kw_758 kw_95 kw_759 (by decide +kernel)) ?_
      exact gk_iret h hR (by decide +kernel)
    · refine gk_aload_n (j := 0) h (by decide +kernel) rfl ?_
      refine gk_getR (i := 15) h ck_1 (by decide) (fun _ _ _ => rfl) (by decide +kernel) kw_253 ?_
      refine gk_lload_n (j := 1) h (by decide +kernel) rfl ?_
      refine gk_iload_n (j := 3) h (by decide +kernel) rfl ?_
      refine gk_vI (ca_v (idx := 67) h ho hm_75 (rd_le hrd (by decide)) ck_5 (by decide +kernel) kw_747 kw_748 kw_749 kw_97 kw_750 rfl (by decide +kernel) (by decide)) ?_
      exact gk_iret h hR (by decide +kernel)
  | _ + 1 => exact fun _ _ _ hr => hr.elim
set_option maxRecDepth 20000 in
set_option maxHeartbeats 4000000 in
theorem s_17 : MS mtab yX2_actByRule cX2_actByRule 9 (some .int) Q17 P17 := by
  intro X orc d h hR hnm hxn ho hrd b
  match b with
  | 0 =>
    show GK X Q17 0 (o_iconst (-1) (o_istore 4 (o_iconst 0 (o_istore 5 (o_iconst 0 (o_istore 6 (o_jmp 1)))))))
    refine gk_iconst (n := (-1)) h (by decide +kernel) (by decide) ?_
    refine gk_istore h (by decide +kernel) hxn (by decide) ?_
    refine gk_iconst (n := 0) h (by decide +kernel) (by decide) ?_
    refine gk_istore h (by decide +kernel) hxn (by decide) ?_
    refine gk_iconst (n := 0) h (by decide +kernel) (by decide) ?_
    refine gk_istore h (by decide +kernel) hxn (by decide) ?_
    exact gk_jmp 1 rfl
  | 1 =>
    show GK X Q17 9 (o_iload 6 (o_aload 0 (o_getR 1 1 (o_getR 5 8 (o_alen (o_ilt (o_aload 0 (o_getR 1 1 (o_getR 5 8 (o_iload 6 (o_iald 0 (o_istore 7 (o_aload 0 (o_getR 1 1 (o_lload 1 (o_iload 3 (o_iload 7 (o_vI orc 71 4 5 (o_if0 (o_jmp 3) (o_lload 1 (o_iload 7 (o_sI orc 4 1 (o_sI orc 57 2 (o_istore 8 (o_iload 4 (o_iconst (-1) (o_ieq (o_jmp 2) (o_aload 0 (o_getI 1 3 (o_iconst 1 (o_ieq (o_jmp 2) (o_aload 0 (o_getI 1 3 (o_iconst 2 (o_ieq (o_iload 8 (o_iload 5 (o_ilt (o_jmp 2) (o_jmp 3)))) (o_jmp 3)))))))))))))))))))))))))))))) (o_iload 4 (o_iret))))))))
    refine gk_iload h (by decide +kernel) ?_
    refine gk_aload_n (j := 0) h (by decide +kernel) rfl ?_
    refine gk_getR (i := 15) h ck_1 (by decide) (fun _ _ _ => rfl) (by decide +kernel) kw_253 ?_
    refine gk_getR (i := 46) h ck_5 (by decide) (fun _ _ _ => rfl) (by decide +kernel) kw_339 ?_
    refine gk_alen h (by decide +kernel) ?_
    refine gk_icmpge (off := 83) (tgt := 102) h (by decide +kernel) (by decide) ?_ ?_
    · refine gk_iload h (by decide +kernel) ?_
      exact gk_iret h hR (by decide +kernel)
    · refine gk_aload_n (j := 0) h (by decide +kernel) rfl ?_
      refine gk_getR (i := 15) h ck_1 (by decide) (fun _ _ _ => rfl) (by decide +kernel) kw_253 ?_
      refine gk_getR (i := 46) h ck_5 (by decide) (fun _ _ _ => rfl) (by decide +kernel) kw_339 ?_
      refine gk_iload h (by decide +kernel) ?_
      refine gk_ald0 h (by decide +kernel) ?_
      refine gk_istore h (by decide +kernel) hxn (by decide) ?_
      refine gk_aload_n (j := 0) h (by decide +kernel) rfl ?_
      refine gk_getR (i := 15) h ck_1 (by decide) (fun _ _ _ => rfl) (by decide +kernel) kw_253 ?_
      refine gk_lload_n (j := 1) h (by decide +kernel) rfl ?_
      refine gk_iload_n (j := 3) h (by decide +kernel) rfl ?_
      refine gk_iload h (by decide +kernel) ?_
      refine gk_vI (ca_v (idx := 49) h ho hm_71 (rd_le hrd (by decide)) ck_5 (by decide +kernel) kw_744 kw_394 kw_395 kw_97 kw_396 rfl (by decide +kernel) (by decide)) ?_
      refine gk_ifeq (off := 51) (tgt := 96) h (by decide +kernel) (by decide) ?_ ?_
      · exact gk_jmp 3 rfl
      · refine gk_lload_n (j := 1) h (by decide +kernel) rfl ?_
        refine gk_iload h (by decide +kernel) ?_
        refine gk_sI (ca_s (idx := 74) h ho hm_4 (rd_le hrd (by decide)) (by decide +kernel) kw_745 kw_398 kw_99 kw_399 (by decide +kernel)) ?_
        refine gk_sI (ca_s (idx := 79) h ho hm_57 (rd_le hrd (by decide)) (by decide +kernel) kw_746 kw_418 kw_97 kw_419 (by decide +kernel)) ?_
        refine gk_istore h (by decide +kernel) hxn (by decide) ?_
        refine gk_iload h (by decide +kernel) ?_
        refine gk_iconst (n := (-1)) h (by decide +kernel) (by decide) ?_
        refine gk_icmpeq (off := 26) (tgt := 88) h (by decide +kernel) (by decide) ?_ ?_
        · exact gk_jmp 2 rfl
        · refine gk_aload_n (j := 0) h (by decide +kernel) rfl ?_
          refine gk_getI (i := 23) h ck_1 (by decide) (fun _ _ _ => rfl) (by decide +kernel) kw_255 ?_
          refine gk_iconst (n := 1) h (by decide +kernel) (by decide) ?_
          refine gk_icmpeq (off := 18) (tgt := 88) h (by decide +kernel) (by decide) ?_ ?_
          · exact gk_jmp 2 rfl
          · refine gk_aload_n (j := 0) h (by decide +kernel) rfl ?_
            refine gk_getI (i := 23) h ck_1 (by decide) (fun _ _ _ => rfl) (by decide +kernel) kw_255 ?_
            refine gk_iconst (n := 2) h (by decide +kernel) (by decide) ?_
            refine gk_icmpne (off := 18) (tgt := 96) h (by decide +kernel) (by decide) ?_ ?_
            · exact gk_jmp 3 rfl
            · refine gk_iload h (by decide +kernel) ?_
              refine gk_iload h (by decide +kernel) ?_
              refine gk_icmpge (off := 11) (tgt := 96) h (by decide +kernel) (by decide) ?_ ?_
              · exact gk_jmp 3 rfl
              · exact gk_jmp 2 rfl
  | 2 =>
    show GK X Q17 88 (o_iload 7 (o_istore 4 (o_iload 8 (o_istore 5 (o_jmp 3)))))
    refine gk_iload h (by decide +kernel) ?_
    refine gk_istore h (by decide +kernel) hxn (by decide) ?_
    refine gk_iload h (by decide +kernel) ?_
    refine gk_istore h (by decide +kernel) hxn (by decide) ?_
    exact gk_jmp 3 rfl
  | 3 =>
    show GK X Q17 96 (o_iinc 6 1 (o_jmp 1))
    refine gk_iinc (z := 1) h (by decide +kernel) (by decide) hxn (by decide) ?_
    refine gk_goto (off := (-90)) (tgt := 9) h (by decide +kernel) (by decide) ?_
    exact gk_jmp 1 rfl
  | _ + 4 => exact fun _ _ _ hr => hr.elim
set_option maxRecDepth 20000 in
set_option maxHeartbeats 4000000 in
theorem s_18 : MS mtab yX3_init cX3_init 1 none Q18 P18 := by
  intro X orc d h hR hnm hxn ho hrd b
  match b with
  | 0 =>
    show GK X Q18 0 (o_aload 0 (o_obj (o_aload 0 (o_iconst 2 (o_putI 2 0 (o_aload 0 (o_iconst 1 (o_putI 2 1 (o_aload 0 (o_iconst 0 (o_putI 2 2 (o_aload 0 (o_iconst 0 (o_putI 2 3 (o_aload 0 (o_iconst 6 (o_newa 0 (o_putR 2 4 (o_aload 0 (o_iconst 6 (o_newa 0 (o_putR 2 5 (o_aload 0 (o_iconst 6 (o_newa 1 (o_putR 2 6 (o_aload 0 (o_iconst 1000 (o_newa 0 (o_putR 2 7 (o_aload 0 (o_iconst 0 (o_putI 2 8 (o_aload 0 (o_iconst 0 (o_putZ 2 9 (o_aload 0 (o_iconst 0 (o_putZ 2 10 (o_aload 0 (o_iconst 0 (o_newa 2 (o_putR 2 11 (o_aload 0 (o_iconst 0 (o_putI 2 12 (o_aload 0 (o_iconst 0 (o_putI 2 13 (o_aload 0 (o_iconst 0 (o_putI 2 14 (o_aload 0 (o_iconst 0 (o_putI 2 15 (o_aload 0 (o_iconst 259 (o_putI 2 16 (o_aload 0 (o_iconst 0 (o_putI 2 17 (o_aload 0 (o_lconst 0 (o_putL 2 18 (o_vret)))))))))))))))))))))))))))))))))))))))))))))))))))))))))))))))))
    refine gk_aload_n (j := 0) h (by decide +kernel) rfl ?_
    refine gk_obj (i := 3) h (by decide +kernel) kw_124 kw_117 kw_118 ?_
    refine gk_aload_n (j := 0) h (by decide +kernel) rfl ?_
    refine gk_iconst (n := 2) h (by decide +kernel) (by decide) ?_
    refine gk_putI (i := 9) h ck_2 (by decide) rfl (Or.inl rfl) (by decide +kernel) kw_125 ?_
    refine gk_aload_n (j := 0) h (by decide +kernel) rfl ?_
    refine gk_iconst (n := 1) h (by decide +kernel) (by decide) ?_
    refine gk_putI (i := 15) h ck_2 (by decide) rfl (Or.inl rfl) (by decide +kernel) kw_127 ?_
    refine gk_aload_n (j := 0) h (by decide +kernel) rfl ?_
    refine gk_iconst (n := 0) h (by decide +kernel) (by decide) ?_
    refine gk_putI (i := 18) h ck_2 (by decide) rfl (Or.inl rfl) (by decide +kernel) kw_129 ?_
    refine gk_aload_n (j := 0) h (by decide +kernel) rfl ?_
    refine gk_iconst (n := 0) h (by decide +kernel) (by decide) ?_
    refine gk_putI (i := 21) h ck_2 (by decide) rfl (Or.inl rfl) (by decide +kernel) kw_131 ?_
    refine gk_aload_n (j := 0) h (by decide +kernel) rfl ?_
    refine gk_bipush (n := 6) h (by decide +kernel) (by decide) ?_
    refine gk_newa (aty := .int) h (by decide) (by decide +kernel) rfl kw_190 ?_
    refine gk_putR (i := 24) h ck_2 (by decide) (Or.inr ⟨_, rfl⟩) (Or.inr ⟨rfl, hnm, rfl⟩) (by decide +kernel) kw_133 ?_
    refine gk_aload_n (j := 0) h (by decide +kernel) rfl ?_
    refine gk_bipush (n := 6) h (by decide +kernel) (by decide) ?_
    refine gk_newa (aty := .int) h (by decide) (by decide +kernel) rfl kw_190 ?_
    refine gk_putR (i := 28) h ck_2 (by decide) (Or.inr ⟨_, rfl⟩) (Or.inr ⟨rfl, hnm, rfl⟩) (by decide +kernel) kw_135 ?_
    refine gk_aload_n (j := 0) h (by decide +kernel) rfl ?_
    refine gk_bipush (n := 6) h (by decide +kernel) (by decide) ?_
    refine gk_newa (aty := .long) h (by decide) (by decide +kernel) rfl kw_191 ?_
    refine gk_putR (i := 31) h ck_2 (by decide) (Or.inr ⟨_, rfl⟩) (Or.inr ⟨rfl, hnm, rfl⟩) (by decide +kernel) kw_137 ?_
    refine gk_aload_n (j := 0) h (by decide +kernel) rfl ?_
    refine gk_sipush (n := 1000) h (by decide +kernel) (by decide) ?_
    refine gk_newa (aty := .int) h (by decide) (by decide +kernel) rfl kw_190 ?_
    refine gk_putR (i := 35) h ck_2 (by decide) (Or.inr ⟨_, rfl⟩) (Or.inr ⟨rfl, hnm, rfl⟩) (by decide +kernel) kw_138 ?_
    refine gk_aload_n (j := 0) h (by decide +kernel) rfl ?_
    refine gk_iconst (n := 0) h (by decide +kernel) (by decide) ?_
    refine gk_putI (i := 38) h ck_2 (by decide) rfl (Or.inl rfl) (by decide +kernel) kw_139 ?_
    refine gk_aload_n (j := 0) h (by decide +kernel) rfl ?_
    refine gk_iconst (n := 0) h (by decide +kernel) (by decide) ?_
    refine gk_putZ (i := 41) h ck_2 (by decide) rfl (Or.inl rfl) (by decide +kernel) kw_140 ?_
    refine gk_aload_n (j := 0) h (by decide +kernel) rfl ?_
    refine gk_iconst (n := 0) h (by decide +kernel) (by decide) ?_
    refine gk_putZ (i := 45) h ck_2 (by decide) rfl (Or.inl rfl) (by decide +kernel) kw_141 ?_
    refine gk_aload_n (j := 0) h (by decide +kernel) rfl ?_
    refine gk_iconst (n := 0) h (by decide +kernel) (by decide) ?_
    refine gk_newa (aty := .char) h (by decide) (by decide +kernel) rfl kw_189 ?_
    refine gk_putR (i := 48) h ck_2 (by decide) (Or.inr ⟨_, rfl⟩) (Or.inl rfl) (by decide +kernel) kw_142 ?_
    refine gk_aload_n (j := 0) h (by decide +kernel) rfl ?_
    refine gk_iconst (n := 0) h (by decide +kernel) (by decide) ?_
    refine gk_putI (i := 52) h ck_2 (by decide) rfl (Or.inl rfl) (by decide +kernel) kw_143 ?_
    refine gk_aload_n (j := 0) h (by decide +kernel) rfl ?_
    refine gk_iconst (n := 0) h (by decide +kernel) (by decide) ?_
    refine gk_putI (i := 55) h ck_2 (by decide) rfl (Or.inl rfl) (by decide +kernel) kw_144 ?_
    refine gk_aload_n (j := 0) h (by decide +kernel) rfl ?_
    refine gk_iconst (n := 0) h (by decide +kernel) (by decide) ?_
    refine gk_putI (i := 58) h ck_2 (by decide) rfl (Or.inl rfl) (by decide +kernel) kw_145 ?_
    refine gk_aload_n (j := 0) h (by decide +kernel) rfl ?_
    refine gk_iconst (n := 0) h (by decide +kernel) (by decide) ?_
    refine gk_putI (i := 61) h ck_2 (by decide) rfl (Or.inl rfl) (by decide +kernel) kw_146 ?_
    refine gk_aload_n (j := 0) h (by decide +kernel) rfl ?_
    refine gk_sipush (n := 259) h (by decide +kernel) (by decide) ?_
    refine gk_putI (i := 64) h ck_2 (by decide) rfl (Or.inl rfl) (by decide +kernel) kw_147 ?_
    refine gk_aload_n (j := 0) h (by decide +kernel) rfl ?_
    refine gk_iconst (n := 0) h (by decide +kernel) (by decide) ?_
    refine gk_putI (i := 67) h ck_2 (by decide) rfl (Or.inl rfl) (by decide +kernel) kw_148 ?_
    refine gk_aload_n (j := 0) h (by decide +kernel) rfl ?_
    refine gk_lconst (n := 0) h (by decide +kernel) rfl ?_
    refine gk_putL (i := 70) h ck_2 (by decide) rfl (Or.inl rfl) (by decide +kernel) kw_149 ?_
    exact gk_vret h hR (by decide +kernel)
  | _ + 1 => exact fun _ _ _ hr => hr.elim
set_option maxRecDepth 20000 in
set_option maxHeartbeats 4000000 in
theorem s_19 : MS mtab yX3_written cX3_written 1 (some (.object "TruceWall$Truce")) Q19 P19 := by
  intro X orc d h hR hnm hxn ho hrd b
  match b with
  | 0 =>
    show GK X Q19 0 (o_new 5 (o_dup (o_aload 0 (o_nV orc 56 2 (o_aret)))))
    refine gk_new (i := 74) h ck_5 (by decide +kernel) kw_279 kw_280 kw_97 nd_5 ?_
    refine gk_dup h (by decide +kernel) ?_
    refine gk_aload_n (j := 0) h (by decide +kernel) rfl ?_
    refine gk_nV (ca_n (idx := 76) h ho hm_56 (rd_le hrd (by decide)) (by decide +kernel) kw_281 kw_282 kw_97 kw_283 rfl (by decide +kernel) (by decide)) ?_
    exact gk_aret h hR (Or.inl ⟨_, rfl⟩) (by decide +kernel)
  | _ + 1 => exact fun _ _ _ hr => hr.elim
set_option maxRecDepth 20000 in
set_option maxHeartbeats 4000000 in
theorem s_20 : MS mtab yX3_fineCode cX3_fineCode 2 (some (.array .int)) Q20 P20 := by
  intro X orc d h hR hnm hxn ho hrd b
  match b with
  | 0 =>
    show GK X Q20 0 (o_aload 0 (o_getI 2 10 (o_if0 (o_iconst 1 (o_jmp 1)) (o_aload 0 (o_getI 2 8 (o_jmp 1))))))
    refine gk_aload_n (j := 0) h (by decide +kernel) rfl ?_
    refine gk_getI (i := 45) h ck_2 (by decide) (fun _ _ _ => rfl) (by decide +kernel) kw_141 ?_
    refine gk_ifeq (off := 10) (tgt := 14) h (by decide +kernel) (by decide) ?_ ?_
    · refine gk_iconst (n := 1) h (by decide +kernel) (by decide) ?_
      exact gk_jmp 1 rfl
    · refine gk_aload_n (j := 0) h (by decide +kernel) rfl ?_
      refine gk_getI (i := 38) h ck_2 (by decide) (fun _ _ _ => rfl) (by decide +kernel) kw_139 ?_
      refine gk_goto (off := 4) (tgt := 15) h (by decide +kernel) (by decide) ?_
      exact gk_jmp 1 rfl
  | 1 =>
    show GK X Q20 15 (o_newa 0 (o_astore 1 (o_aload 0 (o_getI 2 10 (o_if0 (o_aload 1 (o_iconst 0 (o_iconst (-138) (o_iast 0 (fun x => x) (o_aload 1 (o_aret)))))) (o_aload 0 (o_getR 2 7 (o_iconst 0 (o_aload 1 (o_iconst 0 (o_aload 0 (o_getI 2 8 (o_copy (o_aload 1 (o_aret)))))))))))))))
    refine gk_newa (aty := .int) h (by decide) (by decide +kernel) rfl kw_190 ?_
    refine gk_astore_n (j := 1) h (by decide +kernel) rfl hxn (by decide) ?_
    refine gk_aload_n (j := 0) h (by decide +kernel) rfl ?_
    refine gk_getI (i := 45) h ck_2 (by decide) (fun _ _ _ => rfl) (by decide +kernel) kw_141 ?_
    refine gk_ifeq (off := 20) (tgt := 42) h (by decide +kernel) (by decide) ?_ ?_
    · refine gk_aload_n (j := 1) h (by decide +kernel) rfl ?_
      refine gk_iconst (n := 0) h (by decide +kernel) (by decide) ?_
      refine gk_sipush (n := (-138)) h (by decide +kernel) (by decide) ?_
      refine gk_ast0 h (by decide +kernel) ?_
      refine gk_aload_n (j := 1) h (by decide +kernel) rfl ?_
      exact gk_aret h hR (Or.inr ⟨_, rfl⟩) (by decide +kernel)
    · refine gk_aload_n (j := 0) h (by decide +kernel) rfl ?_
      refine gk_getR (i := 35) h ck_2 (by decide) (fun _ _ _ => rfl) (by decide +kernel) kw_138 ?_
      refine gk_iconst (n := 0) h (by decide +kernel) (by decide) ?_
      refine gk_aload_n (j := 1) h (by decide +kernel) rfl ?_
      refine gk_iconst (n := 0) h (by decide +kernel) (by decide) ?_
      refine gk_aload_n (j := 0) h (by decide +kernel) rfl ?_
      refine gk_getI (i := 38) h ck_2 (by decide) (fun _ _ _ => rfl) (by decide +kernel) kw_139 ?_
      refine gk_copy (i := 79) h (by decide +kernel) kw_296 kw_298 kw_297 kw_98 ?_
      refine gk_goto (off := 9) (tgt := 48) h (by decide +kernel) (by decide) ?_
      refine gk_aload_n (j := 1) h (by decide +kernel) rfl ?_
      exact gk_aret h hR (Or.inr ⟨_, rfl⟩) (by decide +kernel)
  | _ + 2 => exact fun _ _ _ hr => hr.elim
theorem so_X3_readTruce_83 {α : Type} {a0 a1 a2 : α} (x : Int32) (hx : ∀ q ∈ ([(129, a0), (130, a1), (131, a2)] : List (Int32 × α)), x ≠ q.1) : x.toInt < 129 ∨ 131 < x.toInt := by
  simp only [List.mem_cons, List.not_mem_nil, or_false, forall_eq_or_imp, forall_eq] at hx
  simp only [ne_eq, ← Int32.toInt_inj] at hx
  simp at hx
  omega
set_option maxRecDepth 20000 in
set_option maxHeartbeats 4000000 in
theorem s_21 : MS mtab yX3_readTruce cX3_readTruce 4 (some .int) Q21 P21 := by
  intro X orc d h hR hnm hxn ho hrd b
  match b with
  | 0 =>
    show GK X Q21 0 (o_aload 0 (o_aload 1 (o_putR 2 11 (o_aload 0 (o_iload 2 (o_putI 2 12 (o_aload 0 (o_iconst 0 (o_putI 2 13 (o_aload 0 (o_iconst 0 (o_putI 2 15 (o_aload 0 (o_iconst 0 (o_putI 2 2 (o_aload 0 (o_iconst 0 (o_putI 2 3 (o_aload 0 (o_iconst 0 (o_putI 2 8 (o_aload 0 (o_iconst 0 (o_putZ 2 9 (o_aload 0 (o_iconst 0 (o_putZ 2 10 (o_aload 0 (o_vV orc 37 1 2 (o_aload 0 (o_vV orc 22 1 2 (o_iconst 0 (o_istore 3 (o_jmp 1))))))))))))))))))))))))))))))))))
    refine gk_aload_n (j := 0) h (by decide +kernel) rfl ?_
    refine gk_aload_n (j := 1) h (by decide +kernel) rfl ?_
    refine gk_putR (i := 48) h ck_2 (by decide) (Or.inr ⟨_, rfl⟩) (Or.inl rfl) (by decide +kernel) kw_142 ?_
    refine gk_aload_n (j := 0) h (by decide +kernel) rfl ?_
    refine gk_iload_n (j := 2) h (by decide +kernel) rfl ?_
    refine gk_putI (i := 52) h ck_2 (by decide) rfl (Or.inl rfl) (by decide +kernel) kw_143 ?_
    refine gk_aload_n (j := 0) h (by decide +kernel) rfl ?_
    refine gk_iconst (n := 0) h (by decide +kernel) (by decide) ?_
    refine gk_putI (i := 55) h ck_2 (by decide) rfl (Or.inl rfl) (by decide +kernel) kw_144 ?_
    refine gk_aload_n (j := 0) h (by decide +kernel) rfl ?_
    refine gk_iconst (n := 0) h (by decide +kernel) (by decide) ?_
    refine gk_putI (i := 61) h ck_2 (by decide) rfl (Or.inl rfl) (by decide +kernel) kw_146 ?_
    refine gk_aload_n (j := 0) h (by decide +kernel) rfl ?_
    refine gk_iconst (n := 0) h (by decide +kernel) (by decide) ?_
    refine gk_putI (i := 18) h ck_2 (by decide) rfl (Or.inl rfl) (by decide +kernel) kw_129 ?_
    refine gk_aload_n (j := 0) h (by decide +kernel) rfl ?_
    refine gk_iconst (n := 0) h (by decide +kernel) (by decide) ?_
    refine gk_putI (i := 21) h ck_2 (by decide) rfl (Or.inl rfl) (by decide +kernel) kw_131 ?_
    refine gk_aload_n (j := 0) h (by decide +kernel) rfl ?_
    refine gk_iconst (n := 0) h (by decide +kernel) (by decide) ?_
    refine gk_putI (i := 38) h ck_2 (by decide) rfl (Or.inl rfl) (by decide +kernel) kw_139 ?_
    refine gk_aload_n (j := 0) h (by decide +kernel) rfl ?_
    refine gk_iconst (n := 0) h (by decide +kernel) (by decide) ?_
    refine gk_putZ (i := 41) h ck_2 (by decide) rfl (Or.inl rfl) (by decide +kernel) kw_140 ?_
    refine gk_aload_n (j := 0) h (by decide +kernel) rfl ?_
    refine gk_iconst (n := 0) h (by decide +kernel) (by decide) ?_
    refine gk_putZ (i := 45) h ck_2 (by decide) rfl (Or.inl rfl) (by decide +kernel) kw_141 ?_
    refine gk_aload_n (j := 0) h (by decide +kernel) rfl ?_
    refine gk_vV (ca_v (idx := 85) h ho hm_37 (rd_le hrd (by decide)) ck_2 (by decide +kernel) kw_493 kw_495 kw_5 kw_92 kw_496 rfl (by decide +kernel) (by decide)) ?_
    refine gk_aload_n (j := 0) h (by decide +kernel) rfl ?_
    refine gk_vV (ca_v (idx := 88) h ho hm_22 (rd_le hrd (by decide)) ck_2 (by decide +kernel) kw_559 kw_561 kw_9 kw_92 kw_562 rfl (by decide +kernel) (by decide)) ?_
    refine gk_iconst (n := 0) h (by decide +kernel) (by decide) ?_
    refine gk_istore_n (j := 3) h (by decide +kernel) rfl hxn (by decide) ?_
    exact gk_jmp 1 rfl
  | 1 =>
    show GK X Q21 55 (o_iload 3 (o_iconst 1000 (o_ilt (o_aload 0 (o_getI 2 13 (o_if0 (o_aload 0 (o_getI 2 16 (o_iconst 259 (o_ieq (o_jmp 3) (o_aload 0 (o_getI 2 16 (o_sw [(129, o_aload 0 (o_vV orc 23 1 2 (o_jmp 2))), (130, o_aload 0 (o_vV orc 24 1 2 (o_jmp 2))), (131, o_aload 0 (o_vV orc 25 1 2 (o_jmp 2)))] (o_aload 0 (o_iconst 1 (o_vV orc 32 2 2 (o_jmp 2))))))))))) (o_jmp 3)))) (o_jmp 3))))
    refine gk_iload_n (j := 3) h (by decide +kernel) rfl ?_
    refine gk_sipush (n := 1000) h (by decide +kernel) (by decide) ?_
    refine gk_icmpge (off := 81) (tgt := 140) h (by decide +kernel) (by decide) ?_ ?_
    · exact gk_jmp 3 rfl
    · refine gk_aload_n (j := 0) h (by decide +kernel) rfl ?_
      refine gk_getI (i := 55) h ck_2 (by decide) (fun _ _ _ => rfl) (by decide +kernel) kw_144 ?_
      refine gk_ifne (off := 74) (tgt := 140) h (by decide +kernel) (by decide) ?_ ?_
      · exact gk_jmp 3 rfl
      · refine gk_aload_n (j := 0) h (by decide +kernel) rfl ?_
        refine gk_getI (i := 64) h ck_2 (by decide) (fun _ _ _ => rfl) (by decide +kernel) kw_147 ?_
        refine gk_sipush (n := 259) h (by decide +kernel) (by decide) ?_
        refine gk_icmpeq (off := 64) (tgt := 140) h (by decide +kernel) (by decide) ?_ ?_
        · exact gk_jmp 3 rfl
        · refine gk_aload_n (j := 0) h (by decide +kernel) rfl ?_
          refine gk_getI (i := 64) h ck_2 (by decide) (fun _ _ _ => rfl) (by decide +kernel) kw_147 ?_
          refine gk_tsw (dflt := 46) (lo := 129) (hi := 131) (offs := #[25, 32, 39]) (len := 25) (td := 129) h (by decide +kernel) (by decide) ?_ ?_ (by intro x hx; exact so_X3_readTruce_83 x hx)
          · refine gk_aload_n (j := 0) h (by decide +kernel) rfl ?_
            refine gk_iconst (n := 1) h (by decide +kernel) (by decide) ?_
            refine gk_vV (ca_v (idx := 100) h ho hm_32 (rd_le hrd (by decide)) ck_2 (by decide +kernel) kw_567 kw_569 kw_11 kw_92 kw_570 rfl (by decide +kernel) (by decide)) ?_
            exact gk_jmp 2 rfl
          · intro q hq
            simp only [List.mem_cons, List.not_mem_nil, or_false] at hq
            rcases hq with rfl | rfl | rfl
            · refine ⟨108, 25, by dsimp only; decide, by dsimp only; decide, by dsimp only; decide, by decide, ?_⟩
              refine gk_aload_n (j := 0) h (by decide +kernel) rfl ?_
              refine gk_vV (ca_v (idx := 91) h ho hm_23 (rd_le hrd (by decide)) ck_2 (by decide +kernel) kw_575 kw_577 kw_13 kw_92 kw_578 rfl (by decide +kernel) (by decide)) ?_
              refine gk_goto (off := 22) (tgt := 134) h (by decide +kernel) (by decide) ?_
              exact gk_jmp 2 rfl
            · refine ⟨115, 32, by dsimp only; decide, by dsimp only; decide, by dsimp only; decide, by decide, ?_⟩
              refine gk_aload_n (j := 0) h (by decide +kernel) rfl ?_
              refine gk_vV (ca_v (idx := 94) h ho hm_24 (rd_le hrd (by decide)) ck_2 (by decide +kernel) kw_587 kw_589 kw_16 kw_92 kw_590 rfl (by decide +kernel) (by decide)) ?_
              refine gk_goto (off := 15) (tgt := 134) h (by decide +kernel) (by decide) ?_
              exact gk_jmp 2 rfl
            · refine ⟨122, 39, by dsimp only; decide, by dsimp only; decide, by dsimp only; decide, by decide, ?_⟩
              refine gk_aload_n (j := 0) h (by decide +kernel) rfl ?_
              refine gk_vV (ca_v (idx := 97) h ho hm_25 (rd_le hrd (by decide)) ck_2 (by decide +kernel) kw_591 kw_593 kw_17 kw_92 kw_594 rfl (by decide +kernel) (by decide)) ?_
              refine gk_goto (off := 8) (tgt := 134) h (by decide +kernel) (by decide) ?_
              exact gk_jmp 2 rfl
  | 2 =>
    show GK X Q21 134 (o_iinc 3 1 (o_jmp 1))
    refine gk_iinc (z := 1) h (by decide +kernel) (by decide) hxn (by decide) ?_
    refine gk_goto (off := (-82)) (tgt := 55) h (by decide +kernel) (by decide) ?_
    exact gk_jmp 1 rfl
  | 3 =>
    show GK X Q21 140 (o_aload 0 (o_getI 2 13 (o_iret)))
    refine gk_aload_n (j := 0) h (by decide +kernel) rfl ?_
    refine gk_getI (i := 55) h ck_2 (by decide) (fun _ _ _ => rfl) (by decide +kernel) kw_144 ?_
    exact gk_iret h hR (by decide +kernel)
  | _ + 4 => exact fun _ _ _ hr => hr.elim
set_option maxRecDepth 20000 in
set_option maxHeartbeats 4000000 in
theorem s_22 : MS mtab yX3_wallLine cX3_wallLine 1 none Q22 P22 := by
  intro X orc d h hR hnm hxn ho hrd b
  match b with
  | 0 =>
    show GK X Q22 0 (o_aload 0 (o_iconst 128 (o_vV orc 33 2 2 (o_aload 0 (o_aload 0 (o_iconst 2 (o_iconst 10 (o_vI orc 34 3 2 (o_putI 2 0 (o_aload 0 (o_aload 0 (o_iconst 1 (o_iconst 6 (o_vI orc 34 3 2 (o_putI 2 1 (o_aload 0 (o_iconst 59 (o_vV orc 33 2 2 (o_vret)))))))))))))))))))
    refine gk_aload_n (j := 0) h (by decide +kernel) rfl ?_
    refine gk_sipush (n := 128) h (by decide +kernel) (by decide) ?_
    refine gk_vV (ca_v (idx := 104) h ho hm_33 (rd_le hrd (by decide)) ck_2 (by decide +kernel) kw_563 kw_565 kw_10 kw_92 kw_566 rfl (by decide +kernel) (by decide)) ?_
    refine gk_aload_n (j := 0) h (by decide +kernel) rfl ?_
    refine gk_aload_n (j := 0) h (by decide +kernel) rfl ?_
    refine gk_iconst (n := 2) h (by decide +kernel) (by decide) ?_
    refine gk_bipush (n := 10) h (by decide +kernel) (by decide) ?_
    refine gk_vI (ca_v (idx := 107) h ho hm_34 (rd_le hrd (by decide)) ck_2 (by decide +kernel) kw_571 kw_573 kw_12 kw_92 kw_574 rfl (by decide +kernel) (by decide)) ?_
    refine gk_putI (i := 9) h ck_2 (by decide) rfl (Or.inl rfl) (by decide +kernel) kw_125 ?_
    refine gk_aload_n (j := 0) h (by decide +kernel) rfl ?_
    refine gk_aload_n (j := 0) h (by decide +kernel) rfl ?_
    refine gk_iconst (n := 1) h (by decide +kernel) (by decide) ?_
    refine gk_bipush (n := 6) h (by decide +kernel) (by decide) ?_
    refine gk_vI (ca_v (idx := 107) h ho hm_34 (rd_le hrd (by decide)) ck_2 (by decide +kernel) kw_571 kw_573 kw_12 kw_92 kw_574 rfl (by decide +kernel) (by decide)) ?_
    refine gk_putI (i := 15) h ck_2 (by decide) rfl (Or.inl rfl) (by decide +kernel) kw_127 ?_
    refine gk_aload_n (j := 0) h (by decide +kernel) rfl ?_
    refine gk_bipush (n := 59) h (by decide +kernel) (by decide) ?_
    refine gk_vV (ca_v (idx := 104) h ho hm_33 (rd_le hrd (by decide)) ck_2 (by decide +kernel) kw_563 kw_565 kw_10 kw_92 kw_566 rfl (by decide +kernel) (by decide)) ?_
    exact gk_vret h hR (by decide +kernel)
  | _ + 1 => exact fun _ _ _ hr => hr.elim
set_option maxRecDepth 20000 in
set_option maxHeartbeats 4000000 in
theorem s_23 : MS mtab yX3_stoneLine cX3_stoneLine 4 none Q23 P23 := by
  intro X orc d h hR hnm hxn ho hrd b
  match b with
  | 0 =>
    show GK X Q23 0 (o_aload 0 (o_getI 2 3 (o_iconst 6 (o_ilt (o_aload 0 (o_vV orc 37 1 2 (o_aload 0 (o_getR 2 6 (o_aload 0 (o_getI 2 3 (o_aload 0 (o_vL orc 36 1 2 (o_last (o_aload 0 (o_vI orc 35 1 2 (o_istore 1 (o_iload 1 (o_iconst 1 (o_ieq (o_iconst 2 (o_jmp 1)) (o_iconst 1 (o_jmp 1))))))))))))))))) (o_aload 0 (o_iconst 5 (o_vV orc 32 2 2 (o_vret))))))))
    refine gk_aload_n (j := 0) h (by decide +kernel) rfl ?_
    refine gk_getI (i := 21) h ck_2 (by decide) (fun _ _ _ => rfl) (by decide +kernel) kw_131 ?_
    refine gk_bipush (n := 6) h (by decide +kernel) (by decide) ?_
    refine gk_icmplt (off := 9) (tgt := 15) h (by decide +kernel) (by decide) ?_ ?_
    · refine gk_aload_n (j := 0) h (by decide +kernel) rfl ?_
      refine gk_vV (ca_v (idx := 85) h ho hm_37 (rd_le hrd (by decide)) ck_2 (by decide +kernel) kw_493 kw_495 kw_5 kw_92 kw_496 rfl (by decide +kernel) (by decide)) ?_
      refine gk_aload_n (j := 0) h (by decide +kernel) rfl ?_
      refine gk_getR (i := 31) h ck_2 (by decide) (fun _ _ _ => rfl) (by decide +kernel) kw_137 ?_
      refine gk_aload_n (j := 0) h (by decide +kernel) rfl ?_
      refine gk_getI (i := 21) h ck_2 (by decide) (fun _ _ _ => rfl) (by decide +kernel) kw_131 ?_
      refine gk_aload_n (j := 0) h (by decide +kernel) rfl ?_
      refine gk_vL (ca_v (idx := 111) h ho hm_36 (rd_le hrd (by decide)) ck_2 (by decide +kernel) kw_579 kw_581 kw_14 kw_92 kw_582 rfl (by decide +kernel) (by decide)) ?_
      refine gk_last h (by decide +kernel) ?_
      refine gk_aload_n (j := 0) h (by decide +kernel) rfl ?_
      refine gk_vI (ca_v (idx := 115) h ho hm_35 (rd_le hrd (by decide)) ck_2 (by decide +kernel) kw_583 kw_585 kw_15 kw_92 kw_586 rfl (by decide +kernel) (by decide)) ?_
      refine gk_istore_n (j := 1) h (by decide +kernel) rfl hxn (by decide) ?_
      refine gk_iload_n (j := 1) h (by decide +kernel) rfl ?_
      refine gk_iconst (n := 1) h (by decide +kernel) (by decide) ?_
      refine gk_icmpne (off := 7) (tgt := 46) h (by decide +kernel) (by decide) ?_ ?_
      · refine gk_iconst (n := 1) h (by decide +kernel) (by decide) ?_
        exact gk_jmp 1 rfl
      · refine gk_iconst (n := 2) h (by decide +kernel) (by decide) ?_
        refine gk_goto (off := 4) (tgt := 47) h (by decide +kernel) (by decide) ?_
        exact gk_jmp 1 rfl
    · refine gk_aload_n (j := 0) h (by decide +kernel) rfl ?_
      refine gk_iconst (n := 5) h (by decide +kernel) (by decide) ?_
      refine gk_vV (ca_v (idx := 100) h ho hm_32 (rd_le hrd (by decide)) ck_2 (by decide +kernel) kw_567 kw_569 kw_11 kw_92 kw_570 rfl (by decide +kernel) (by decide)) ?_
      exact gk_vret h hR (by decide +kernel)
  | 1 =>
    show GK X Q23 47 (o_istore 2 (o_iload 1 (o_iconst 2 (o_ieq (o_jmp 2) (o_iload 1 (o_iconst 3 (o_ieq (o_jmp 2) (o_iconst 4 (o_jmp 3)))))))))
    refine gk_istore_n (j := 2) h (by decide +kernel) rfl hxn (by decide) ?_
    refine gk_iload_n (j := 1) h (by decide +kernel) rfl ?_
    refine gk_iconst (n := 2) h (by decide +kernel) (by decide) ?_
    refine gk_icmpeq (off := 8) (tgt := 58) h (by decide +kernel) (by decide) ?_ ?_
    · exact gk_jmp 2 rfl
    · refine gk_iload_n (j := 1) h (by decide +kernel) rfl ?_
      refine gk_iconst (n := 3) h (by decide +kernel) (by decide) ?_
      refine gk_icmpne (off := 7) (tgt := 62) h (by decide +kernel) (by decide) ?_ ?_
      · refine gk_iconst (n := 4) h (by decide +kernel) (by decide) ?_
        exact gk_jmp 3 rfl
      · exact gk_jmp 2 rfl
  | 2 =>
    show GK X Q23 58 (o_iconst 1 (o_jmp 3))
    refine gk_iconst (n := 1) h (by decide +kernel) (by decide) ?_
    refine gk_goto (off := 4) (tgt := 63) h (by decide +kernel) (by decide) ?_
    exact gk_jmp 3 rfl
  | 3 =>
    show GK X Q23 63 (o_istore 3 (o_aload 0 (o_getR 2 4 (o_aload 0 (o_getI 2 3 (o_iload 1 (o_iast 0 (fun x => x) (o_aload 0 (o_getR 2 5 (o_aload 0 (o_getI 2 3 (o_aload 0 (o_iload 2 (o_iload 3 (o_vI orc 34 3 2 (o_iast 0 (fun x => x) (o_aload 0 (o_iconst 59 (o_vV orc 33 2 2 (o_aload 0 (o_dup (o_getI 2 3 (o_iconst 1 (o_i2 (fun x y => x + y) (o_putI 2 3 (o_vret))))))))))))))))))))))))))
    refine gk_istore_n (j := 3) h (by decide +kernel) rfl hxn (by decide) ?_
    refine gk_aload_n (j := 0) h (by decide +kernel) rfl ?_
    refine gk_getR (i := 24) h ck_2 (by decide) (fun _ _ _ => rfl) (by decide +kernel) kw_133 ?_
    refine gk_aload_n (j := 0) h (by decide +kernel) rfl ?_
    refine gk_getI (i := 21) h ck_2 (by decide) (fun _ _ _ => rfl) (by decide +kernel) kw_131 ?_
    refine gk_iload_n (j := 1) h (by decide +kernel) rfl ?_
    refine gk_ast0 h (by decide +kernel) ?_
    refine gk_aload_n (j := 0) h (by decide +kernel) rfl ?_
    refine gk_getR (i := 28) h ck_2 (by decide) (fun _ _ _ => rfl) (by decide +kernel) kw_135 ?_
    refine gk_aload_n (j := 0) h (by decide +kernel) rfl ?_
    refine gk_getI (i := 21) h ck_2 (by decide) (fun _ _ _ => rfl) (by decide +kernel) kw_131 ?_
    refine gk_aload_n (j := 0) h (by decide +kernel) rfl ?_
    refine gk_iload_n (j := 2) h (by decide +kernel) rfl ?_
    refine gk_iload_n (j := 3) h (by decide +kernel) rfl ?_
    refine gk_vI (ca_v (idx := 107) h ho hm_34 (rd_le hrd (by decide)) ck_2 (by decide +kernel) kw_571 kw_573 kw_12 kw_92 kw_574 rfl (by decide +kernel) (by decide)) ?_
    refine gk_ast0 h (by decide +kernel) ?_
    refine gk_aload_n (j := 0) h (by decide +kernel) rfl ?_
    refine gk_bipush (n := 59) h (by decide +kernel) (by decide) ?_
    refine gk_vV (ca_v (idx := 104) h ho hm_33 (rd_le hrd (by decide)) ck_2 (by decide +kernel) kw_563 kw_565 kw_10 kw_92 kw_566 rfl (by decide +kernel) (by decide)) ?_
    refine gk_aload_n (j := 0) h (by decide +kernel) rfl ?_
    refine gk_dup h (by decide +kernel) ?_
    refine gk_getI (i := 21) h ck_2 (by decide) (fun _ _ _ => rfl) (by decide +kernel) kw_131 ?_
    refine gk_iconst (n := 1) h (by decide +kernel) (by decide) ?_
    refine gk_iadd h (by decide +kernel) ?_
    refine gk_putI (i := 21) h ck_2 (by decide) rfl (Or.inl rfl) (by decide +kernel) kw_131 ?_
    exact gk_vret h hR (by decide +kernel)
  | _ + 4 => exact fun _ _ _ hr => hr.elim
set_option maxRecDepth 20000 in
set_option maxHeartbeats 4000000 in
theorem s_24 : MS mtab yX3_gatesLine cX3_gatesLine 1 none Q24 P24 := by
  intro X orc d h hR hnm hxn ho hrd b
  match b with
  | 0 =>
    show GK X Q24 0 (o_aload 0 (o_getI 2 9 (o_if0 (o_aload 0 (o_iconst 1 (o_putZ 2 9 (o_aload 0 (o_vV orc 37 1 2 (o_aload 0 (o_aload 0 (o_iconst 0 (o_iconst 1 (o_vI orc 34 3 2 (o_putI 2 2 (o_aload 0 (o_iconst 59 (o_vV orc 33 2 2 (o_vret))))))))))))))) (o_aload 0 (o_iconst 3 (o_vV orc 32 2 2 (o_vret)))))))
    refine gk_aload_n (j := 0) h (by decide +kernel) rfl ?_
    refine gk_getI (i := 41) h ck_2 (by decide) (fun _ _ _ => rfl) (by decide +kernel) kw_140 ?_
    refine gk_ifeq (off := 9) (tgt := 13) h (by decide +kernel) (by decide) ?_ ?_
    · refine gk_aload_n (j := 0) h (by decide +kernel) rfl ?_
      refine gk_iconst (n := 1) h (by decide +kernel) (by decide) ?_
      refine gk_putZ (i := 41) h ck_2 (by decide) rfl (Or.inl rfl) (by decide +kernel) kw_140 ?_
      refine gk_aload_n (j := 0) h (by decide +kernel) rfl ?_
      refine gk_vV (ca_v (idx := 85) h ho hm_37 (rd_le hrd (by decide)) ck_2 (by decide +kernel) kw_493 kw_495 kw_5 kw_92 kw_496 rfl (by decide +kernel) (by decide)) ?_
      refine gk_aload_n (j := 0) h (by decide +kernel) rfl ?_
      refine gk_aload_n (j := 0) h (by decide +kernel) rfl ?_
      refine gk_iconst (n := 0) h (by decide +kernel) (by decide) ?_
      refine gk_iconst (n := 1) h (by decide +kernel) (by decide) ?_
      refine gk_vI (ca_v (idx := 107) h ho hm_34 (rd_le hrd (by decide)) ck_2 (by decide +kernel) kw_571 kw_573 kw_12 kw_92 kw_574 rfl (by decide +kernel) (by decide)) ?_
      refine gk_putI (i := 18) h ck_2 (by decide) rfl (Or.inl rfl) (by decide +kernel) kw_129 ?_
      refine gk_aload_n (j := 0) h (by decide +kernel) rfl ?_
      refine gk_bipush (n := 59) h (by decide +kernel) (by decide) ?_
      refine gk_vV (ca_v (idx := 104) h ho hm_33 (rd_le hrd (by decide)) ck_2 (by decide +kernel) kw_563 kw_565 kw_10 kw_92 kw_566 rfl (by decide +kernel) (by decide)) ?_
      exact gk_vret h hR (by decide +kernel)
    · refine gk_aload_n (j := 0) h (by decide +kernel) rfl ?_
      refine gk_iconst (n := 3) h (by decide +kernel) (by decide) ?_
      refine gk_vV (ca_v (idx := 100) h ho hm_32 (rd_le hrd (by decide)) ck_2 (by decide +kernel) kw_567 kw_569 kw_11 kw_92 kw_570 rfl (by decide +kernel) (by decide)) ?_
      exact gk_vret h hR (by decide +kernel)
  | _ + 1 => exact fun _ _ _ hr => hr.elim
set_option maxRecDepth 20000 in
set_option maxHeartbeats 4000000 in
theorem s_25 : MS mtab yX3_fineLine cX3_fineLine 1 none Q25 P25 := by
  intro X orc d h hR hnm hxn ho hrd b
  match b with
  | 0 =>
    show GK X Q25 0 (o_aload 0 (o_getI 2 10 (o_if0 (o_aload 0 (o_iconst 1 (o_putZ 2 10 (o_aload 0 (o_vV orc 37 1 2 (o_aload 0 (o_iconst 0 (o_vV orc 26 2 2 (o_aload 0 (o_iconst 59 (o_vV orc 33 2 2 (o_vret)))))))))))) (o_aload 0 (o_iconst 3 (o_vV orc 32 2 2 (o_vret)))))))
    refine gk_aload_n (j := 0) h (by decide +kernel) rfl ?_
    refine gk_getI (i := 45) h ck_2 (by decide) (fun _ _ _ => rfl) (by decide +kernel) kw_141 ?_
    refine gk_ifeq (off := 9) (tgt := 13) h (by decide +kernel) (by decide) ?_ ?_
    · refine gk_aload_n (j := 0) h (by decide +kernel) rfl ?_
      refine gk_iconst (n := 1) h (by decide +kernel) (by decide) ?_
      refine gk_putZ (i := 45) h ck_2 (by decide) rfl (Or.inl rfl) (by decide +kernel) kw_141 ?_
      refine gk_aload_n (j := 0) h (by decide +kernel) rfl ?_
      refine gk_vV (ca_v (idx := 85) h ho hm_37 (rd_le hrd (by decide)) ck_2 (by decide +kernel) kw_493 kw_495 kw_5 kw_92 kw_496 rfl (by decide +kernel) (by decide)) ?_
      refine gk_aload_n (j := 0) h (by decide +kernel) rfl ?_
      refine gk_iconst (n := 0) h (by decide +kernel) (by decide) ?_
      refine gk_vV (ca_v (idx := 119) h ho hm_26 (rd_le hrd (by decide)) ck_2 (by decide +kernel) kw_595 kw_597 kw_18 kw_92 kw_598 rfl (by decide +kernel) (by decide)) ?_
      refine gk_aload_n (j := 0) h (by decide +kernel) rfl ?_
      refine gk_bipush (n := 59) h (by decide +kernel) (by decide) ?_
      refine gk_vV (ca_v (idx := 104) h ho hm_33 (rd_le hrd (by decide)) ck_2 (by decide +kernel) kw_563 kw_565 kw_10 kw_92 kw_566 rfl (by decide +kernel) (by decide)) ?_
      exact gk_vret h hR (by decide +kernel)
    · refine gk_aload_n (j := 0) h (by decide +kernel) rfl ?_
      refine gk_iconst (n := 3) h (by decide +kernel) (by decide) ?_
      refine gk_vV (ca_v (idx := 100) h ho hm_32 (rd_le hrd (by decide)) ck_2 (by decide +kernel) kw_567 kw_569 kw_11 kw_92 kw_570 rfl (by decide +kernel) (by decide)) ?_
      exact gk_vret h hR (by decide +kernel)
  | _ + 1 => exact fun _ _ _ hr => hr.elim
set_option maxRecDepth 20000 in
set_option maxHeartbeats 4000000 in
theorem s_26 : MS mtab yX3_readE cX3_readE 4 none Q26 P26 := by
  intro X orc d h hR hnm hxn ho hrd b
  match b with
  | 0 =>
    show GK X Q26 0 (o_aload 0 (o_iload 1 (o_vV orc 27 2 2 (o_iconst 0 (o_istore 2 (o_jmp 1))))))
    refine gk_aload_n (j := 0) h (by decide +kernel) rfl ?_
    refine gk_iload_n (j := 1) h (by decide +kernel) rfl ?_
    refine gk_vV (ca_v (idx := 122) h ho hm_27 (rd_le hrd (by decide)) ck_2 (by decide +kernel) kw_599 kw_601 kw_19 kw_92 kw_602 rfl (by decide +kernel) (by decide)) ?_
    refine gk_iconst (n := 0) h (by decide +kernel) (by decide) ?_
    refine gk_istore_n (j := 2) h (by decide +kernel) rfl hxn (by decide) ?_
    exact gk_jmp 1 rfl
  | 1 =>
    show GK X Q26 7 (o_iload 2 (o_iconst 1000 (o_ilt (o_aload 0 (o_getI 2 13 (o_if0 (o_aload 0 (o_getI 2 16 (o_iconst 143 (o_ieq (o_jmp 2) (o_aload 0 (o_getI 2 16 (o_iconst 144 (o_ieq (o_jmp 2) (o_vret))))))))) (o_vret)))) (o_vret))))
    refine gk_iload_n (j := 2) h (by decide +kernel) rfl ?_
    refine gk_sipush (n := 1000) h (by decide +kernel) (by decide) ?_
    refine gk_icmpge (off := 56) (tgt := 67) h (by decide +kernel) (by decide) ?_ ?_
    · exact gk_vret h hR (by decide +kernel)
    · refine gk_aload_n (j := 0) h (by decide +kernel) rfl ?_
      refine gk_getI (i := 55) h ck_2 (by decide) (fun _ _ _ => rfl) (by decide +kernel) kw_144 ?_
      refine gk_ifne (off := 49) (tgt := 67) h (by decide +kernel) (by decide) ?_ ?_
      · exact gk_vret h hR (by decide +kernel)
      · refine gk_aload_n (j := 0) h (by decide +kernel) rfl ?_
        refine gk_getI (i := 64) h ck_2 (by decide) (fun _ _ _ => rfl) (by decide +kernel) kw_147 ?_
        refine gk_sipush (n := 143) h (by decide +kernel) (by decide) ?_
        refine gk_icmpeq (off := 13) (tgt := 41) h (by decide +kernel) (by decide) ?_ ?_
        · exact gk_jmp 2 rfl
        · refine gk_aload_n (j := 0) h (by decide +kernel) rfl ?_
          refine gk_getI (i := 64) h ck_2 (by decide) (fun _ _ _ => rfl) (by decide +kernel) kw_147 ?_
          refine gk_sipush (n := 144) h (by decide +kernel) (by decide) ?_
          refine gk_icmpne (off := 29) (tgt := 67) h (by decide +kernel) (by decide) ?_ ?_
          · exact gk_vret h hR (by decide +kernel)
          · exact gk_jmp 2 rfl
  | 2 =>
    show GK X Q26 41 (o_aload 0 (o_getI 2 16 (o_istore 3 (o_aload 0 (o_vV orc 37 1 2 (o_aload 0 (o_iload 1 (o_vV orc 27 2 2 (o_aload 0 (o_iload 3 (o_i1 (fun x => -x) (o_vV orc 31 2 2 (o_iinc 2 1 (o_jmp 1))))))))))))))
    refine gk_aload_n (j := 0) h (by decide +kernel) rfl ?_
    refine gk_getI (i := 64) h ck_2 (by decide) (fun _ _ _ => rfl) (by decide +kernel) kw_147 ?_
    refine gk_istore_n (j := 3) h (by decide +kernel) rfl hxn (by decide) ?_
    refine gk_aload_n (j := 0) h (by decide +kernel) rfl ?_
    refine gk_vV (ca_v (idx := 85) h ho hm_37 (rd_le hrd (by decide)) ck_2 (by decide +kernel) kw_493 kw_495 kw_5 kw_92 kw_496 rfl (by decide +kernel) (by decide)) ?_
    refine gk_aload_n (j := 0) h (by decide +kernel) rfl ?_
    refine gk_iload_n (j := 1) h (by decide +kernel) rfl ?_
    refine gk_vV (ca_v (idx := 122) h ho hm_27 (rd_le hrd (by decide)) ck_2 (by decide +kernel) kw_599 kw_601 kw_19 kw_92 kw_602 rfl (by decide +kernel) (by decide)) ?_
    refine gk_aload_n (j := 0) h (by decide +kernel) rfl ?_
    refine gk_iload_n (j := 3) h (by decide +kernel) rfl ?_
    refine gk_ineg h (by decide +kernel) ?_
    refine gk_vV (ca_v (idx := 125) h ho hm_31 (rd_le hrd (by decide)) ck_2 (by decide +kernel) kw_615 kw_617 kw_23 kw_92 kw_618 rfl (by decide +kernel) (by decide)) ?_
    refine gk_iinc (z := 1) h (by decide +kernel) (by decide) hxn (by decide) ?_
    refine gk_goto (off := (-57)) (tgt := 7) h (by decide +kernel) (by decide) ?_
    exact gk_jmp 1 rfl
  | _ + 3 => exact fun _ _ _ hr => hr.elim
set_option maxRecDepth 20000 in
set_option maxHeartbeats 4000000 in
theorem s_27 : MS mtab yX3_readTest cX3_readTest 3 none Q27 P27 := by
  intro X orc d h hR hnm hxn ho hrd b
  match b with
  | 0 =>
    show GK X Q27 0 (o_aload 0 (o_iload 1 (o_vV orc 28 2 2 (o_aload 0 (o_getI 2 13 (o_if0 (o_aload 0 (o_getI 2 16 (o_iconst 60 (o_ieq (o_jmp 1) (o_aload 0 (o_getI 2 16 (o_iconst 61 (o_ieq (o_jmp 1) (o_vret))))))))) (o_vret)))))))
    refine gk_aload_n (j := 0) h (by decide +kernel) rfl ?_
    refine gk_iload_n (j := 1) h (by decide +kernel) rfl ?_
    refine gk_vV (ca_v (idx := 128) h ho hm_28 (rd_le hrd (by decide)) ck_2 (by decide +kernel) kw_603 kw_605 kw_20 kw_92 kw_606 rfl (by decide +kernel) (by decide)) ?_
    refine gk_aload_n (j := 0) h (by decide +kernel) rfl ?_
    refine gk_getI (i := 55) h ck_2 (by decide) (fun _ _ _ => rfl) (by decide +kernel) kw_144 ?_
    refine gk_ifne (off := 41) (tgt := 50) h (by decide +kernel) (by decide) ?_ ?_
    · exact gk_vret h hR (by decide +kernel)
    · refine gk_aload_n (j := 0) h (by decide +kernel) rfl ?_
      refine gk_getI (i := 64) h ck_2 (by decide) (fun _ _ _ => rfl) (by decide +kernel) kw_147 ?_
      refine gk_bipush (n := 60) h (by decide +kernel) (by decide) ?_
      refine gk_icmpeq (off := 12) (tgt := 30) h (by decide +kernel) (by decide) ?_ ?_
      · exact gk_jmp 1 rfl
      · refine gk_aload_n (j := 0) h (by decide +kernel) rfl ?_
        refine gk_getI (i := 64) h ck_2 (by decide) (fun _ _ _ => rfl) (by decide +kernel) kw_147 ?_
        refine gk_bipush (n := 61) h (by decide +kernel) (by decide) ?_
        refine gk_icmpne (off := 23) (tgt := 50) h (by decide +kernel) (by decide) ?_ ?_
        · exact gk_vret h hR (by decide +kernel)
        · exact gk_jmp 1 rfl
  | 1 =>
    show GK X Q27 30 (o_aload 0 (o_getI 2 16 (o_istore 2 (o_aload 0 (o_vV orc 37 1 2 (o_aload 0 (o_iload 1 (o_vV orc 28 2 2 (o_aload 0 (o_iload 2 (o_i1 (fun x => -x) (o_vV orc 31 2 2 (o_vret)))))))))))))
    refine gk_aload_n (j := 0) h (by decide +kernel) rfl ?_
    refine gk_getI (i := 64) h ck_2 (by decide) (fun _ _ _ => rfl) (by decide +kernel) kw_147 ?_
    refine gk_istore_n (j := 2) h (by decide +kernel) rfl hxn (by decide) ?_
    refine gk_aload_n (j := 0) h (by decide +kernel) rfl ?_
    refine gk_vV (ca_v (idx := 85) h ho hm_37 (rd_le hrd (by decide)) ck_2 (by decide +kernel) kw_493 kw_495 kw_5 kw_92 kw_496 rfl (by decide +kernel) (by decide)) ?_
    refine gk_aload_n (j := 0) h (by decide +kernel) rfl ?_
    refine gk_iload_n (j := 1) h (by decide +kernel) rfl ?_
    refine gk_vV (ca_v (idx := 128) h ho hm_28 (rd_le hrd (by decide)) ck_2 (by decide +kernel) kw_603 kw_605 kw_20 kw_92 kw_606 rfl (by decide +kernel) (by decide)) ?_
    refine gk_aload_n (j := 0) h (by decide +kernel) rfl ?_
    refine gk_iload_n (j := 2) h (by decide +kernel) rfl ?_
    refine gk_ineg h (by decide +kernel) ?_
    refine gk_vV (ca_v (idx := 125) h ho hm_31 (rd_le hrd (by decide)) ck_2 (by decide +kernel) kw_615 kw_617 kw_23 kw_92 kw_618 rfl (by decide +kernel) (by decide)) ?_
    exact gk_vret h hR (by decide +kernel)
  | _ + 2 => exact fun _ _ _ hr => hr.elim
set_option maxRecDepth 20000 in
set_option maxHeartbeats 4000000 in
theorem s_28 : MS mtab yX3_readSum cX3_readSum 4 none Q28 P28 := by
  intro X orc d h hR hnm hxn ho hrd b
  match b with
  | 0 =>
    show GK X Q28 0 (o_aload 0 (o_iload 1 (o_vV orc 29 2 2 (o_iconst 0 (o_istore 2 (o_jmp 1))))))
    refine gk_aload_n (j := 0) h (by decide +kernel) rfl ?_
    refine gk_iload_n (j := 1) h (by decide +kernel) rfl ?_
    refine gk_vV (ca_v (idx := 131) h ho hm_29 (rd_le hrd (by decide)) ck_2 (by decide +kernel) kw_607 kw_609 kw_21 kw_92 kw_610 rfl (by decide +kernel) (by decide)) ?_
    refine gk_iconst (n := 0) h (by decide +kernel) (by decide) ?_
    refine gk_istore_n (j := 2) h (by decide +kernel) rfl hxn (by decide) ?_
    exact gk_jmp 1 rfl
  | 1 =>
    show GK X Q28 7 (o_iload 2 (o_iconst 1000 (o_ilt (o_aload 0 (o_getI 2 13 (o_if0 (o_aload 0 (o_getI 2 16 (o_iconst 43 (o_ieq (o_jmp 2) (o_aload 0 (o_getI 2 16 (o_iconst 45 (o_ieq (o_jmp 2) (o_vret))))))))) (o_vret)))) (o_vret))))
    refine gk_iload_n (j := 2) h (by decide +kernel) rfl ?_
    refine gk_sipush (n := 1000) h (by decide +kernel) (by decide) ?_
    refine gk_icmpge (off := 54) (tgt := 65) h (by decide +kernel) (by decide) ?_ ?_
    · exact gk_vret h hR (by decide +kernel)
    · refine gk_aload_n (j := 0) h (by decide +kernel) rfl ?_
      refine gk_getI (i := 55) h ck_2 (by decide) (fun _ _ _ => rfl) (by decide +kernel) kw_144 ?_
      refine gk_ifne (off := 47) (tgt := 65) h (by decide +kernel) (by decide) ?_ ?_
      · exact gk_vret h hR (by decide +kernel)
      · refine gk_aload_n (j := 0) h (by decide +kernel) rfl ?_
        refine gk_getI (i := 64) h ck_2 (by decide) (fun _ _ _ => rfl) (by decide +kernel) kw_147 ?_
        refine gk_bipush (n := 43) h (by decide +kernel) (by decide) ?_
        refine gk_icmpeq (off := 12) (tgt := 39) h (by decide +kernel) (by decide) ?_ ?_
        · exact gk_jmp 2 rfl
        · refine gk_aload_n (j := 0) h (by decide +kernel) rfl ?_
          refine gk_getI (i := 64) h ck_2 (by decide) (fun _ _ _ => rfl) (by decide +kernel) kw_147 ?_
          refine gk_bipush (n := 45) h (by decide +kernel) (by decide) ?_
          refine gk_icmpne (off := 29) (tgt := 65) h (by decide +kernel) (by decide) ?_ ?_
          · exact gk_vret h hR (by decide +kernel)
          · exact gk_jmp 2 rfl
  | 2 =>
    show GK X Q28 39 (o_aload 0 (o_getI 2 16 (o_istore 3 (o_aload 0 (o_vV orc 37 1 2 (o_aload 0 (o_iload 1 (o_vV orc 29 2 2 (o_aload 0 (o_iload 3 (o_i1 (fun x => -x) (o_vV orc 31 2 2 (o_iinc 2 1 (o_jmp 1))))))))))))))
    refine gk_aload_n (j := 0) h (by decide +kernel) rfl ?_
    refine gk_getI (i := 64) h ck_2 (by decide) (fun _ _ _ => rfl) (by decide +kernel) kw_147 ?_
    refine gk_istore_n (j := 3) h (by decide +kernel) rfl hxn (by decide) ?_
    refine gk_aload_n (j := 0) h (by decide +kernel) rfl ?_
    refine gk_vV (ca_v (idx := 85) h ho hm_37 (rd_le hrd (by decide)) ck_2 (by decide +kernel) kw_493 kw_495 kw_5 kw_92 kw_496 rfl (by decide +kernel) (by decide)) ?_
    refine gk_aload_n (j := 0) h (by decide +kernel) rfl ?_
    refine gk_iload_n (j := 1) h (by decide +kernel) rfl ?_
    refine gk_vV (ca_v (idx := 131) h ho hm_29 (rd_le hrd (by decide)) ck_2 (by decide +kernel) kw_607 kw_609 kw_21 kw_92 kw_610 rfl (by decide +kernel) (by decide)) ?_
    refine gk_aload_n (j := 0) h (by decide +kernel) rfl ?_
    refine gk_iload_n (j := 3) h (by decide +kernel) rfl ?_
    refine gk_ineg h (by decide +kernel) ?_
    refine gk_vV (ca_v (idx := 125) h ho hm_31 (rd_le hrd (by decide)) ck_2 (by decide +kernel) kw_615 kw_617 kw_23 kw_92 kw_618 rfl (by decide +kernel) (by decide)) ?_
    refine gk_iinc (z := 1) h (by decide +kernel) (by decide) hxn (by decide) ?_
    refine gk_goto (off := (-55)) (tgt := 7) h (by decide +kernel) (by decide) ?_
    exact gk_jmp 1 rfl
  | _ + 3 => exact fun _ _ _ hr => hr.elim
set_option maxRecDepth 20000 in
set_option maxHeartbeats 4000000 in
theorem s_29 : MS mtab yX3_readProduct cX3_readProduct 3 none Q29 P29 := by
  intro X orc d h hR hnm hxn ho hrd b
  match b with
  | 0 =>
    show GK X Q29 0 (o_aload 0 (o_iload 1 (o_vV orc 30 2 2 (o_iconst 0 (o_istore 2 (o_jmp 1))))))
    refine gk_aload_n (j := 0) h (by decide +kernel) rfl ?_
    refine gk_iload_n (j := 1) h (by decide +kernel) rfl ?_
    refine gk_vV (ca_v (idx := 134) h ho hm_30 (rd_le hrd (by decide)) ck_2 (by decide +kernel) kw_611 kw_613 kw_22 kw_92 kw_614 rfl (by decide +kernel) (by decide)) ?_
    refine gk_iconst (n := 0) h (by decide +kernel) (by decide) ?_
    refine gk_istore_n (j := 2) h (by decide +kernel) rfl hxn (by decide) ?_
    exact gk_jmp 1 rfl
  | 1 =>
    show GK X Q29 7 (o_iload 2 (o_iconst 1000 (o_ilt (o_aload 0 (o_getI 2 13 (o_if0 (o_aload 0 (o_getI 2 16 (o_iconst 42 (o_ieq (o_aload 0 (o_vV orc 37 1 2 (o_aload 0 (o_iload 1 (o_vV orc 30 2 2 (o_aload 0 (o_iconst (-42) (o_vV orc 31 2 2 (o_iinc 2 1 (o_jmp 1)))))))))) (o_vret))))) (o_vret)))) (o_vret))))
    refine gk_iload_n (j := 2) h (by decide +kernel) rfl ?_
    refine gk_sipush (n := 1000) h (by decide +kernel) (by decide) ?_
    refine gk_icmpge (off := 40) (tgt := 51) h (by decide +kernel) (by decide) ?_ ?_
    · exact gk_vret h hR (by decide +kernel)
    · refine gk_aload_n (j := 0) h (by decide +kernel) rfl ?_
      refine gk_getI (i := 55) h ck_2 (by decide) (fun _ _ _ => rfl) (by decide +kernel) kw_144 ?_
      refine gk_ifne (off := 33) (tgt := 51) h (by decide +kernel) (by decide) ?_ ?_
      · exact gk_vret h hR (by decide +kernel)
      · refine gk_aload_n (j := 0) h (by decide +kernel) rfl ?_
        refine gk_getI (i := 64) h ck_2 (by decide) (fun _ _ _ => rfl) (by decide +kernel) kw_147 ?_
        refine gk_bipush (n := 42) h (by decide +kernel) (by decide) ?_
        refine gk_icmpne (off := 24) (tgt := 51) h (by decide +kernel) (by decide) ?_ ?_
        · exact gk_vret h hR (by decide +kernel)
        · refine gk_aload_n (j := 0) h (by decide +kernel) rfl ?_
          refine gk_vV (ca_v (idx := 85) h ho hm_37 (rd_le hrd (by decide)) ck_2 (by decide +kernel) kw_493 kw_495 kw_5 kw_92 kw_496 rfl (by decide +kernel) (by decide)) ?_
          refine gk_aload_n (j := 0) h (by decide +kernel) rfl ?_
          refine gk_iload_n (j := 1) h (by decide +kernel) rfl ?_
          refine gk_vV (ca_v (idx := 134) h ho hm_30 (rd_le hrd (by decide)) ck_2 (by decide +kernel) kw_611 kw_613 kw_22 kw_92 kw_614 rfl (by decide +kernel) (by decide)) ?_
          refine gk_aload_n (j := 0) h (by decide +kernel) rfl ?_
          refine gk_bipush (n := (-42)) h (by decide +kernel) (by decide) ?_
          refine gk_vV (ca_v (idx := 125) h ho hm_31 (rd_le hrd (by decide)) ck_2 (by decide +kernel) kw_615 kw_617 kw_23 kw_92 kw_618 rfl (by decide +kernel) (by decide)) ?_
          refine gk_iinc (z := 1) h (by decide +kernel) (by decide) hxn (by decide) ?_
          refine gk_goto (off := (-41)) (tgt := 7) h (by decide +kernel) (by decide) ?_
          exact gk_jmp 1 rfl
  | _ + 2 => exact fun _ _ _ hr => hr.elim
set_option maxRecDepth 20000 in
set_option maxHeartbeats 4000000 in
theorem s_30 : MS mtab yX3_readPart cX3_readPart 3 none Q30 P30 := by
  intro X orc d h hR hnm hxn ho hrd b
  match b with
  | 0 =>
    show GK X Q30 0 (o_aload 0 (o_getI 2 16 (o_iconst 138 (o_ilt (o_jmp 1) (o_aload 0 (o_getI 2 16 (o_iconst 141 (o_igt (o_jmp 1) (o_iconst 1 (o_jmp 2))))))))))
    refine gk_aload_n (j := 0) h (by decide +kernel) rfl ?_
    refine gk_getI (i := 64) h ck_2 (by decide) (fun _ _ _ => rfl) (by decide +kernel) kw_147 ?_
    refine gk_sipush (n := 138) h (by decide +kernel) (by decide) ?_
    refine gk_icmplt (off := 17) (tgt := 24) h (by decide +kernel) (by decide) ?_ ?_
    · exact gk_jmp 1 rfl
    · refine gk_aload_n (j := 0) h (by decide +kernel) rfl ?_
      refine gk_getI (i := 64) h ck_2 (by decide) (fun _ _ _ => rfl) (by decide +kernel) kw_147 ?_
      refine gk_sipush (n := 141) h (by decide +kernel) (by decide) ?_
      refine gk_icmpgt (off := 7) (tgt := 24) h (by decide +kernel) (by decide) ?_ ?_
      · exact gk_jmp 1 rfl
      · refine gk_iconst (n := 1) h (by decide +kernel) (by decide) ?_
        refine gk_goto (off := 4) (tgt := 25) h (by decide +kernel) (by decide) ?_
        exact gk_jmp 2 rfl
  | 1 =>
    show GK X Q30 24 (o_iconst 0 (o_jmp 2))
    refine gk_iconst (n := 0) h (by decide +kernel) (by decide) ?_
    exact gk_jmp 2 rfl
  | 2 =>
    show GK X Q30 25 (o_istore 2 (o_iload 2 (o_if0 (o_aload 0 (o_getI 2 16 (o_iconst 257 (o_ieq (o_jmp 3) (o_aload 0 (o_getI 2 16 (o_iconst 142 (o_ieq (o_jmp 3) (o_aload 0 (o_getI 2 16 (o_iconst 40 (o_ieq (o_jmp 3) (o_aload 0 (o_iconst 1 (o_vV orc 32 2 2 (o_vret)))))))))))))))) (o_jmp 3))))
    refine gk_istore_n (j := 2) h (by decide +kernel) rfl hxn (by decide) ?_
    refine gk_iload_n (j := 2) h (by decide +kernel) rfl ?_
    refine gk_ifne (off := 40) (tgt := 67) h (by decide +kernel) (by decide) ?_ ?_
    · exact gk_jmp 3 rfl
    · refine gk_aload_n (j := 0) h (by decide +kernel) rfl ?_
      refine gk_getI (i := 64) h ck_2 (by decide) (fun _ _ _ => rfl) (by decide +kernel) kw_147 ?_
      refine gk_sipush (n := 257) h (by decide +kernel) (by decide) ?_
      refine gk_icmpeq (off := 30) (tgt := 67) h (by decide +kernel) (by decide) ?_ ?_
      · exact gk_jmp 3 rfl
      · refine gk_aload_n (j := 0) h (by decide +kernel) rfl ?_
        refine gk_getI (i := 64) h ck_2 (by decide) (fun _ _ _ => rfl) (by decide +kernel) kw_147 ?_
        refine gk_sipush (n := 142) h (by decide +kernel) (by decide) ?_
        refine gk_icmpeq (off := 20) (tgt := 67) h (by decide +kernel) (by decide) ?_ ?_
        · exact gk_jmp 3 rfl
        · refine gk_aload_n (j := 0) h (by decide +kernel) rfl ?_
          refine gk_getI (i := 64) h ck_2 (by decide) (fun _ _ _ => rfl) (by decide +kernel) kw_147 ?_
          refine gk_bipush (n := 40) h (by decide +kernel) (by decide) ?_
          refine gk_icmpeq (off := 11) (tgt := 67) h (by decide +kernel) (by decide) ?_ ?_
          · exact gk_jmp 3 rfl
          · refine gk_aload_n (j := 0) h (by decide +kernel) rfl ?_
            refine gk_iconst (n := 1) h (by decide +kernel) (by decide) ?_
            refine gk_vV (ca_v (idx := 100) h ho hm_32 (rd_le hrd (by decide)) ck_2 (by decide +kernel) kw_567 kw_569 kw_11 kw_92 kw_570 rfl (by decide +kernel) (by decide)) ?_
            refine gk_goto (off := 109) (tgt := 173) h (by decide +kernel) (by decide) ?_
            exact gk_vret h hR (by decide +kernel)
  | 3 =>
    show GK X Q30 67 (o_iload 1 (o_iconst 5 (o_ilt (o_aload 0 (o_getI 2 16 (o_iconst 257 (o_ieq (o_aload 0 (o_aload 0 (o_getI 2 17 (o_vV orc 31 2 2 (o_aload 0 (o_vV orc 37 1 2 (o_vret))))))) (o_iload 2 (o_if0 (o_aload 0 (o_getI 2 16 (o_iconst 142 (o_ieq (o_aload 0 (o_vV orc 37 1 2 (o_aload 0 (o_iload 1 (o_iconst 1 (o_i2 (fun x y => x + y) (o_vV orc 30 2 2 (o_aload 0 (o_iconst (-142) (o_vV orc 31 2 2 (o_vret))))))))))) (o_aload 0 (o_vV orc 37 1 2 (o_aload 0 (o_iload 1 (o_iconst 1 (o_i2 (fun x y => x + y) (o_vV orc 26 2 2 (o_aload 0 (o_iconst 41 (o_vV orc 33 2 2 (o_vret))))))))))))))) (o_aload 0 (o_aload 0 (o_getI 2 16 (o_i1 (fun x => -x) (o_vV orc 31 2 2 (o_aload 0 (o_vV orc 37 1 2 (o_vret)))))))))))))) (o_aload 0 (o_iconst 5 (o_vV orc 32 2 2 (o_vret)))))))
    refine gk_iload_n (j := 1) h (by decide +kernel) rfl ?_
    refine gk_iconst (n := 5) h (by decide +kernel) (by decide) ?_
    refine gk_icmplt (off := 11) (tgt := 80) h (by decide +kernel) (by decide) ?_ ?_
    · refine gk_aload_n (j := 0) h (by decide +kernel) rfl ?_
      refine gk_getI (i := 64) h ck_2 (by decide) (fun _ _ _ => rfl) (by decide +kernel) kw_147 ?_
      refine gk_sipush (n := 257) h (by decide +kernel) (by decide) ?_
      refine gk_icmpne (off := 18) (tgt := 105) h (by decide +kernel) (by decide) ?_ ?_
      · refine gk_iload_n (j := 2) h (by decide +kernel) rfl ?_
        refine gk_ifeq (off := 19) (tgt := 125) h (by decide +kernel) (by decide) ?_ ?_
        · refine gk_aload_n (j := 0) h (by decide +kernel) rfl ?_
          refine gk_getI (i := 64) h ck_2 (by decide) (fun _ _ _ => rfl) (by decide +kernel) kw_147 ?_
          refine gk_sipush (n := 142) h (by decide +kernel) (by decide) ?_
          refine gk_icmpne (off := 24) (tgt := 156) h (by decide +kernel) (by decide) ?_ ?_
          · refine gk_aload_n (j := 0) h (by decide +kernel) rfl ?_
            refine gk_vV (ca_v (idx := 85) h ho hm_37 (rd_le hrd (by decide)) ck_2 (by decide +kernel) kw_493 kw_495 kw_5 kw_92 kw_496 rfl (by decide +kernel) (by decide)) ?_
            refine gk_aload_n (j := 0) h (by decide +kernel) rfl ?_
            refine gk_iload_n (j := 1) h (by decide +kernel) rfl ?_
            refine gk_iconst (n := 1) h (by decide +kernel) (by decide) ?_
            refine gk_iadd h (by decide +kernel) ?_
            refine gk_vV (ca_v (idx := 119) h ho hm_26 (rd_le hrd (by decide)) ck_2 (by decide +kernel) kw_595 kw_597 kw_18 kw_92 kw_598 rfl (by decide +kernel) (by decide)) ?_
            refine gk_aload_n (j := 0) h (by decide +kernel) rfl ?_
            refine gk_bipush (n := 41) h (by decide +kernel) (by decide) ?_
            refine gk_vV (ca_v (idx := 104) h ho hm_33 (rd_le hrd (by decide)) ck_2 (by decide +kernel) kw_563 kw_565 kw_10 kw_92 kw_566 rfl (by decide +kernel) (by decide)) ?_
            exact gk_vret h hR (by decide +kernel)
          · refine gk_aload_n (j := 0) h (by decide +kernel) rfl ?_
            refine gk_vV (ca_v (idx := 85) h ho hm_37 (rd_le hrd (by decide)) ck_2 (by decide +kernel) kw_493 kw_495 kw_5 kw_92 kw_496 rfl (by decide +kernel) (by decide)) ?_
            refine gk_aload_n (j := 0) h (by decide +kernel) rfl ?_
            refine gk_iload_n (j := 1) h (by decide +kernel) rfl ?_
            refine gk_iconst (n := 1) h (by decide +kernel) (by decide) ?_
            refine gk_iadd h (by decide +kernel) ?_
            refine gk_vV (ca_v (idx := 134) h ho hm_30 (rd_le hrd (by decide)) ck_2 (by decide +kernel) kw_611 kw_613 kw_22 kw_92 kw_614 rfl (by decide +kernel) (by decide)) ?_
            refine gk_aload_n (j := 0) h (by decide +kernel) rfl ?_
            refine gk_sipush (n := (-142)) h (by decide +kernel) (by decide) ?_
            refine gk_vV (ca_v (idx := 125) h ho hm_31 (rd_le hrd (by decide)) ck_2 (by decide +kernel) kw_615 kw_617 kw_23 kw_92 kw_618 rfl (by decide +kernel) (by decide)) ?_
            refine gk_goto (off := 20) (tgt := 173) h (by decide +kernel) (by decide) ?_
            exact gk_vret h hR (by decide +kernel)
        · refine gk_aload_n (j := 0) h (by decide +kernel) rfl ?_
          refine gk_aload_n (j := 0) h (by decide +kernel) rfl ?_
          refine gk_getI (i := 64) h ck_2 (by decide) (fun _ _ _ => rfl) (by decide +kernel) kw_147 ?_
          refine gk_ineg h (by decide +kernel) ?_
          refine gk_vV (ca_v (idx := 125) h ho hm_31 (rd_le hrd (by decide)) ck_2 (by decide +kernel) kw_615 kw_617 kw_23 kw_92 kw_618 rfl (by decide +kernel) (by decide)) ?_
          refine gk_aload_n (j := 0) h (by decide +kernel) rfl ?_
          refine gk_vV (ca_v (idx := 85) h ho hm_37 (rd_le hrd (by decide)) ck_2 (by decide +kernel) kw_493 kw_495 kw_5 kw_92 kw_496 rfl (by decide +kernel) (by decide)) ?_
          refine gk_goto (off := 51) (tgt := 173) h (by decide +kernel) (by decide) ?_
          exact gk_vret h hR (by decide +kernel)
      · refine gk_aload_n (j := 0) h (by decide +kernel) rfl ?_
        refine gk_aload_n (j := 0) h (by decide +kernel) rfl ?_
        refine gk_getI (i := 67) h ck_2 (by decide) (fun _ _ _ => rfl) (by decide +kernel) kw_148 ?_
        refine gk_vV (ca_v (idx := 125) h ho hm_31 (rd_le hrd (by decide)) ck_2 (by decide +kernel) kw_615 kw_617 kw_23 kw_92 kw_618 rfl (by decide +kernel) (by decide)) ?_
        refine gk_aload_n (j := 0) h (by decide +kernel) rfl ?_
        refine gk_vV (ca_v (idx := 85) h ho hm_37 (rd_le hrd (by decide)) ck_2 (by decide +kernel) kw_493 kw_495 kw_5 kw_92 kw_496 rfl (by decide +kernel) (by decide)) ?_
        refine gk_goto (off := 71) (tgt := 173) h (by decide +kernel) (by decide) ?_
        exact gk_vret h hR (by decide +kernel)
    · refine gk_aload_n (j := 0) h (by decide +kernel) rfl ?_
      refine gk_iconst (n := 5) h (by decide +kernel) (by decide) ?_
      refine gk_vV (ca_v (idx := 100) h ho hm_32 (rd_le hrd (by decide)) ck_2 (by decide +kernel) kw_567 kw_569 kw_11 kw_92 kw_570 rfl (by decide +kernel) (by decide)) ?_
      refine gk_goto (off := 96) (tgt := 173) h (by decide +kernel) (by decide) ?_
      exact gk_vret h hR (by decide +kernel)
  | _ + 4 => exact fun _ _ _ hr => hr.elim
