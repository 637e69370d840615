set_option maxRecDepth 20000 in
set_option maxHeartbeats 4000000 in
theorem s_56 : MS mtab yX6_init cX6_init 2 none Q56 P56 := by
  intro X orc d h hR hnm hxn ho hrd b
  match b with
  | 0 =>
    show GK X Q56 0 (o_aload 0 (o_obj (o_aload 0 (o_aload 1 (o_getI 2 0 (o_putI 5 0 (o_aload 0 (o_aload 1 (o_getI 2 1 (o_putI 5 1 (o_aload 0 (o_aload 1 (o_getI 2 2 (o_putI 5 2 (o_aload 0 (o_aload 1 (o_getI 2 3 (o_putI 5 3 (o_aload 0 (o_aload 1 (o_getR 2 4 (o_clone (o_castA (o_putR 5 4 (o_aload 0 (o_aload 1 (o_getR 2 5 (o_clone (o_castA (o_putR 5 5 (o_aload 0 (o_aload 1 (o_vR orc 20 1 2 (o_putR 5 6 (o_aload 0 (o_aload 0 (o_getI 5 0 (o_iconst 5 (o_igt (o_jmp 1) (o_aload 0 (o_getI 5 1 (o_iconst 1 (o_i2 (fun x y => x + y) (o_aload 0 (o_getI 5 0 (o_sI orc 60 2 (o_iconst 256 (o_igt (o_jmp 1) (o_iconst 1 (o_jmp 2))))))))))))))))))))))))))))))))))))))))))))))))))
    refine gk_aload_n (j := 0) h (by decide +kernel) rfl ?_
    refine gk_obj (i := 3) h (by decide +kernel) kw_284 kw_117 kw_118 ?_
    refine gk_aload_n (j := 0) h (by decide +kernel) rfl ?_
    refine gk_aload_n (j := 1) h (by decide +kernel) rfl ?_
    refine gk_getI (i := 9) h ck_2 (by decide) (fun _ _ _ => rfl) (by decide +kernel) kw_126 ?_
    refine gk_putI (i := 15) h ck_5 (by decide) rfl (Or.inr ⟨rfl, hnm, rfl⟩) (by decide +kernel) kw_321 ?_
    refine gk_aload_n (j := 0) h (by decide +kernel) rfl ?_
    refine gk_aload_n (j := 1) h (by decide +kernel) rfl ?_
    refine gk_getI (i := 18) h ck_2 (by decide) (fun _ _ _ => rfl) (by decide +kernel) kw_128 ?_
    refine gk_putI (i := 21) h ck_5 (by decide) rfl (Or.inr ⟨rfl, hnm, rfl⟩) (by decide +kernel) kw_323 ?_
    refine gk_aload_n (j := 0) h (by decide +kernel) rfl ?_
    refine gk_aload_n (j := 1) h (by decide +kernel) rfl ?_
    refine gk_getI (i := 22) h ck_2 (by decide) (fun _ _ _ => rfl) (by decide +kernel) kw_130 ?_
    refine gk_putI (i := 25) h ck_5 (by decide) rfl (Or.inr ⟨rfl, hnm, rfl⟩) (by decide +kernel) kw_325 ?_
    refine gk_aload_n (j := 0) h (by decide +kernel) rfl ?_
    refine gk_aload_n (j := 1) h (by decide +kernel) rfl ?_
    refine gk_getI (i := 26) h ck_2 (by decide) (fun _ _ _ => rfl) (by decide +kernel) kw_132 ?_
    refine gk_putI (i := 29) h ck_5 (by decide) rfl (Or.inr ⟨rfl, hnm, rfl⟩) (by decide +kernel) kw_326 ?_
    refine gk_aload_n (j := 0) h (by decide +kernel) rfl ?_
    refine gk_aload_n (j := 1) h (by decide +kernel) rfl ?_
    refine gk_getR (i := 30) h ck_2 (by decide) (fun _ _ _ => rfl) (by decide +kernel) kw_134 ?_
    refine gk_clone (i := 34) h (by decide +kernel) kw_285 kw_286 kw_287 kw_288 kw_289 ?_
    refine gk_castA (i := 35) h (by decide +kernel) kw_291 ?_
    refine gk_putR (i := 39) h ck_5 (by decide) (Or.inr ⟨_, rfl⟩) (Or.inr ⟨rfl, hnm, rfl⟩) (by decide +kernel) kw_328 ?_
    refine gk_aload_n (j := 0) h (by decide +kernel) rfl ?_
    refine gk_aload_n (j := 1) h (by decide +kernel) rfl ?_
    refine gk_getR (i := 40) h ck_2 (by decide) (fun _ _ _ => rfl) (by decide +kernel) kw_136 ?_
    refine gk_clone (i := 34) h (by decide +kernel) kw_285 kw_286 kw_287 kw_288 kw_289 ?_
    refine gk_castA (i := 35) h (by decide +kernel) kw_291 ?_
    refine gk_putR (i := 43) h ck_5 (by decide) (Or.inr ⟨_, rfl⟩) (Or.inr ⟨rfl, hnm, rfl⟩) (by decide +kernel) kw_331 ?_
    refine gk_aload_n (j := 0) h (by decide +kernel) rfl ?_
    refine gk_aload_n (j := 1) h (by decide +kernel) rfl ?_
    refine gk_vR (ca_v (idx := 44) h ho hm_20 (rd_le hrd (by decide)) ck_2 (by decide +kernel) kw_292 kw_293 kw_294 kw_92 kw_295 rfl (by decide +kernel) (by decide)) ?_
    refine gk_putR (i := 48) h ck_5 (by decide) (Or.inr ⟨_, rfl⟩) (Or.inr ⟨rfl, hnm, rfl⟩) (by decide +kernel) kw_333 ?_
    refine gk_aload_n (j := 0) h (by decide +kernel) rfl ?_
    refine gk_aload_n (j := 0) h (by decide +kernel) rfl ?_
    refine gk_getI (i := 15) h ck_5 (by decide) (fun _ _ _ => rfl) (by decide +kernel) kw_321 ?_
    refine gk_iconst (n := 5) h (by decide +kernel) (by decide) ?_
    refine gk_icmpgt (off := 26) (tgt := 104) h (by decide +kernel) (by decide) ?_ ?_
    · exact gk_jmp 1 rfl
    · refine gk_aload_n (j := 0) h (by decide +kernel) rfl ?_
      refine gk_getI (i := 21) h ck_5 (by decide) (fun _ _ _ => rfl) (by decide +kernel) kw_323 ?_
      refine gk_iconst (n := 1) h (by decide +kernel) (by decide) ?_
      refine gk_iadd h (by decide +kernel) ?_
      refine gk_aload_n (j := 0) h (by decide +kernel) rfl ?_
      refine gk_getI (i := 15) h ck_5 (by decide) (fun _ _ _ => rfl) (by decide +kernel) kw_321 ?_
      refine gk_sI (ca_s (idx := 51) h ho hm_60 (rd_le hrd (by decide)) (by decide +kernel) kw_299 kw_300 kw_97 kw_301 (by decide +kernel)) ?_
      refine gk_sipush (n := 256) h (by decide +kernel) (by decide) ?_
      refine gk_icmpgt (off := 7) (tgt := 104) h (by decide +kernel) (by decide) ?_ ?_
      · exact gk_jmp 1 rfl
      · refine gk_iconst (n := 1) h (by decide +kernel) (by decide) ?_
        refine gk_goto (off := 4) (tgt := 105) h (by decide +kernel) (by decide) ?_
        exact gk_jmp 2 rfl
  | 1 =>
    show GK X Q56 104 (o_iconst 0 (o_jmp 2))
    refine gk_iconst (n := 0) h (by decide +kernel) (by decide) ?_
    exact gk_jmp 2 rfl
  | 2 =>
    show GK X Q56 105 (o_putZ 5 7 (o_aload 0 (o_aload 0 (o_vR orc 61 1 5 (o_putR 5 8 (o_vret))))))
    refine gk_putZ (i := 55) h ck_5 (by decide) rfl (Or.inr ⟨rfl, hnm, rfl⟩) (by decide +kernel) kw_335 ?_
    refine gk_aload_n (j := 0) h (by decide +kernel) rfl ?_
    refine gk_aload_n (j := 0) h (by decide +kernel) rfl ?_
    refine gk_vR (ca_v (idx := 59) h ho hm_61 (rd_le hrd (by decide)) ck_5 (by decide +kernel) kw_302 kw_304 kw_0 kw_97 kw_305 rfl (by decide +kernel) (by decide)) ?_
    refine gk_putR (i := 62) h ck_5 (by decide) (Or.inr ⟨_, rfl⟩) (Or.inr ⟨rfl, hnm, rfl⟩) (by decide +kernel) kw_337 ?_
    exact gk_vret h hR (by decide +kernel)
  | _ + 3 => exact fun _ _ _ hr => hr.elim
set_option maxRecDepth 20000 in
set_option maxHeartbeats 4000000 in
theorem s_57 : MS mtab yX6_heightAt cX6_heightAt 4 (some .int) Q57 P57 := by
  intro X orc d h hR hnm hxn ho hrd b
  match b with
  | 0 =>
    show GK X Q57 0 (o_lload 0 (o_iconst 4 (o_iload 2 (o_i2 (fun x y => x * y) (o_lsh (fun x y => (x.toUInt64 >>> (y.toInt64.toUInt64 &&& Int64.toUInt64 63)).toInt64) (o_l2i (o_iconst 15 (o_i2 (fun x y => x &&& y) (o_istore 3 (o_iload 3 (o_iconst 8 (o_ilt (o_iload 3 (o_iret)) (o_iconst 0 (o_iret))))))))))))))
    refine gk_lload_n (j := 0) h (by decide +kernel) rfl ?_
    refine gk_iconst (n := 4) h (by decide +kernel) (by decide) ?_
    refine gk_iload_n (j := 2) h (by decide +kernel) rfl ?_
    refine gk_imul h (by decide +kernel) ?_
    refine gk_lushr h (by decide +kernel) ?_
    refine gk_l2i h (by decide +kernel) ?_
    refine gk_bipush (n := 15) h (by decide +kernel) (by decide) ?_
    refine gk_iand h (by decide +kernel) ?_
    refine gk_istore_n (j := 3) h (by decide +kernel) rfl hxn (by decide) ?_
    refine gk_iload_n (j := 3) h (by decide +kernel) rfl ?_
    refine gk_bipush (n := 8) h (by decide +kernel) (by decide) ?_
    refine gk_icmpge (off := 7) (tgt := 20) h (by decide +kernel) (by decide) ?_ ?_
    · refine gk_iconst (n := 0) h (by decide +kernel) (by decide) ?_
      exact gk_iret h hR (by decide +kernel)
    · refine gk_iload_n (j := 3) h (by decide +kernel) rfl ?_
      refine gk_goto (off := 4) (tgt := 21) h (by decide +kernel) (by decide) ?_
      exact gk_iret h hR (by decide +kernel)
  | _ + 1 => exact fun _ _ _ hr => hr.elim
set_option maxRecDepth 20000 in
set_option maxHeartbeats 4000000 in
theorem s_58 : MS mtab yX6_gateAt cX6_gateAt 4 (some .int) Q58 P58 := by
  intro X orc d h hR hnm hxn ho hrd b
  match b with
  | 0 =>
    show GK X Q58 0 (o_lload 0 (o_iconst 4 (o_iload 2 (o_i2 (fun x y => x * y) (o_lsh (fun x y => (x.toUInt64 >>> (y.toInt64.toUInt64 &&& Int64.toUInt64 63)).toInt64) (o_l2i (o_iconst 15 (o_i2 (fun x y => x &&& y) (o_istore 3 (o_iload 3 (o_iconst 8 (o_ilt (o_iconst (-1) (o_iret)) (o_iload 3 (o_iconst 8 (o_i2 (fun x y => x - y) (o_iret))))))))))))))))
    refine gk_lload_n (j := 0) h (by decide +kernel) rfl ?_
    refine gk_iconst (n := 4) h (by decide +kernel) (by decide) ?_
    refine gk_iload_n (j := 2) h (by decide +kernel) rfl ?_
    refine gk_imul h (by decide +kernel) ?_
    refine gk_lushr h (by decide +kernel) ?_
    refine gk_l2i h (by decide +kernel) ?_
    refine gk_bipush (n := 15) h (by decide +kernel) (by decide) ?_
    refine gk_iand h (by decide +kernel) ?_
    refine gk_istore_n (j := 3) h (by decide +kernel) rfl hxn (by decide) ?_
    refine gk_iload_n (j := 3) h (by decide +kernel) rfl ?_
    refine gk_bipush (n := 8) h (by decide +kernel) (by decide) ?_
    refine gk_icmpge (off := 7) (tgt := 20) h (by decide +kernel) (by decide) ?_ ?_
    · refine gk_iload_n (j := 3) h (by decide +kernel) rfl ?_
      refine gk_bipush (n := 8) h (by decide +kernel) (by decide) ?_
      refine gk_isub h (by decide +kernel) ?_
      exact gk_iret h hR (by decide +kernel)
    · refine gk_iconst (n := (-1)) h (by decide +kernel) (by decide) ?_
      refine gk_goto (off := 7) (tgt := 24) h (by decide +kernel) (by decide) ?_
      exact gk_iret h hR (by decide +kernel)
  | _ + 1 => exact fun _ _ _ hr => hr.elim
set_option maxRecDepth 20000 in
set_option maxHeartbeats 4000000 in
theorem s_59 : MS mtab yX6_withPlace cX6_withPlace 5 (some .long) Q59 P59 := by
  intro X orc d h hR hnm hxn ho hrd b
  match b with
  | 0 =>
    show GK X Q59 0 (o_iconst 4 (o_iload 2 (o_i2 (fun x y => x * y) (o_istore 4 (o_lload 0 (o_lconst 15 (o_iload 4 (o_lsh (fun x y => x <<< (y.toInt64 &&& 63)) (o_lconst (-1) (o_l2 (fun x y => x ^^^ y) (o_l2 (fun x y => x &&& y) (o_iload 3 (o_i2l (o_iload 4 (o_lsh (fun x y => x <<< (y.toInt64 &&& 63)) (o_l2 (fun x y => x ||| y) (o_lret)))))))))))))))))
    refine gk_iconst (n := 4) h (by decide +kernel) (by decide) ?_
    refine gk_iload_n (j := 2) h (by decide +kernel) rfl ?_
    refine gk_imul h (by decide +kernel) ?_
    refine gk_istore h (by decide +kernel) hxn (by decide) ?_
    refine gk_lload_n (j := 0) h (by decide +kernel) rfl ?_
    refine gk_ldc2 (i := 65) h (by decide +kernel) kw_679 ?_
    refine gk_iload h (by decide +kernel) ?_
    refine gk_lshl h (by decide +kernel) ?_
    refine gk_ldc2 (i := 67) h (by decide +kernel) kw_680 ?_
    refine gk_lxor h (by decide +kernel) ?_
    refine gk_land h (by decide +kernel) ?_
    refine gk_iload_n (j := 3) h (by decide +kernel) rfl ?_
    refine gk_i2l h (by decide +kernel) ?_
    refine gk_iload h (by decide +kernel) ?_
    refine gk_lshl h (by decide +kernel) ?_
    refine gk_lor h (by decide +kernel) ?_
    exact gk_lret h hR (by decide +kernel)
  | _ + 1 => exact fun _ _ _ hr => hr.elim
set_option maxRecDepth 20000 in
set_option maxHeartbeats 4000000 in
theorem s_60 : MS mtab yX6_power cX6_power 4 (some .int) Q60 P60 := by
  intro X orc d h hR hnm hxn ho hrd b
  match b with
  | 0 =>
    show GK X Q60 0 (o_iconst 1 (o_istore 2 (o_iconst 0 (o_istore 3 (o_jmp 1)))))
    refine gk_iconst (n := 1) h (by decide +kernel) (by decide) ?_
    refine gk_istore_n (j := 2) h (by decide +kernel) rfl hxn (by decide) ?_
    refine gk_iconst (n := 0) h (by decide +kernel) (by decide) ?_
    refine gk_istore_n (j := 3) h (by decide +kernel) rfl hxn (by decide) ?_
    exact gk_jmp 1 rfl
  | 1 =>
    show GK X Q60 4 (o_iload 3 (o_iload 1 (o_ilt (o_iload 2 (o_iload 0 (o_i2 (fun x y => x * y) (o_istore 2 (o_iinc 3 1 (o_jmp 1)))))) (o_iload 2 (o_iret)))))
    refine gk_iload_n (j := 3) h (by decide +kernel) rfl ?_
    refine gk_iload_n (j := 1) h (by decide +kernel) rfl ?_
    refine gk_icmpge (off := 13) (tgt := 19) h (by decide +kernel) (by decide) ?_ ?_
    · refine gk_iload_n (j := 2) h (by decide +kernel) rfl ?_
      exact gk_iret h hR (by decide +kernel)
    · refine gk_iload_n (j := 2) h (by decide +kernel) rfl ?_
      refine gk_iload_n (j := 0) h (by decide +kernel) rfl ?_
      refine gk_imul h (by decide +kernel) ?_
      refine gk_istore_n (j := 2) h (by decide +kernel) rfl hxn (by decide) ?_
      refine gk_iinc (z := 1) h (by decide +kernel) (by decide) hxn (by decide) ?_
      refine gk_goto (off := (-12)) (tgt := 4) h (by decide +kernel) (by decide) ?_
      exact gk_jmp 1 rfl
  | _ + 2 => exact fun _ _ _ hr => hr.elim
set_option maxRecDepth 20000 in
set_option maxHeartbeats 4000000 in
theorem s_61 : MS mtab yX6_allCandidates cX6_allCandidates 7 (some (.array .int)) Q61 P61 := by
  intro X orc d h hR hnm hxn ho hrd b
  match b with
  | 0 =>
    show GK X Q61 0 (o_iconst 250 (o_newa 0 (o_astore 1 (o_iconst 0 (o_istore 2 (o_iconst 0 (o_istore 3 (o_jmp 1))))))))
    refine gk_sipush (n := 250) h (by decide +kernel) (by decide) ?_
    refine gk_newa (aty := .int) h (by decide) (by decide +kernel) rfl kw_190 ?_
    refine gk_astore_n (j := 1) h (by decide +kernel) rfl hxn (by decide) ?_
    refine gk_iconst (n := 0) h (by decide +kernel) (by decide) ?_
    refine gk_istore_n (j := 2) h (by decide +kernel) rfl hxn (by decide) ?_
    refine gk_iconst (n := 0) h (by decide +kernel) (by decide) ?_
    refine gk_istore_n (j := 3) h (by decide +kernel) rfl hxn (by decide) ?_
    exact gk_jmp 1 rfl
  | 1 =>
    show GK X Q61 10 (o_iload 3 (o_aload 0 (o_getI 5 3 (o_ilt (o_iconst 0 (o_istore 4 (o_jmp 2))) (o_iconst 0 (o_istore 3 (o_jmp 7)))))))
    refine gk_iload_n (j := 3) h (by decide +kernel) rfl ?_
    refine gk_aload_n (j := 0) h (by decide +kernel) rfl ?_
    refine gk_getI (i := 29) h ck_5 (by decide) (fun _ _ _ => rfl) (by decide +kernel) kw_326 ?_
    refine gk_icmpge (off := 113) (tgt := 128) h (by decide +kernel) (by decide) ?_ ?_
    · refine gk_iconst (n := 0) h (by decide +kernel) (by decide) ?_
      refine gk_istore_n (j := 3) h (by decide +kernel) rfl hxn (by decide) ?_
      exact gk_jmp 7 rfl
    · refine gk_iconst (n := 0) h (by decide +kernel) (by decide) ?_
      refine gk_istore h (by decide +kernel) hxn (by decide) ?_
      exact gk_jmp 2 rfl
  | 2 =>
    show GK X Q61 21 (o_iload 4 (o_aload 0 (o_getI 5 0 (o_ilt (o_iconst 1 (o_istore 5 (o_jmp 3))) (o_iinc 3 1 (o_jmp 1))))))
    refine gk_iload h (by decide +kernel) ?_
    refine gk_aload_n (j := 0) h (by decide +kernel) rfl ?_
    refine gk_getI (i := 15) h ck_5 (by decide) (fun _ _ _ => rfl) (by decide +kernel) kw_321 ?_
    refine gk_icmpge (off := 95) (tgt := 122) h (by decide +kernel) (by decide) ?_ ?_
    · refine gk_iinc (z := 1) h (by decide +kernel) (by decide) hxn (by decide) ?_
      refine gk_goto (off := (-115)) (tgt := 10) h (by decide +kernel) (by decide) ?_
      exact gk_jmp 1 rfl
    · refine gk_iconst (n := 1) h (by decide +kernel) (by decide) ?_
      refine gk_istore h (by decide +kernel) hxn (by decide) ?_
      exact gk_jmp 3 rfl
  | 3 =>
    show GK X Q61 33 (o_iload 5 (o_aload 0 (o_getR 5 5 (o_iload 3 (o_iald 0 (o_igt (o_iinc 4 1 (o_jmp 2)) (o_aload 0 (o_getR 5 4 (o_iload 3 (o_iald 0 (o_iconst 3 (o_ieq (o_jmp 4) (o_iload 4 (o_iload 5 (o_i2 (fun x y => x + y) (o_aload 0 (o_getI 5 0 (o_igt (o_iconst 0 (o_jmp 5)) (o_jmp 4)))))))))))))))))))
    refine gk_iload h (by decide +kernel) ?_
    refine gk_aload_n (j := 0) h (by decide +kernel) rfl ?_
    refine gk_getR (i := 43) h ck_5 (by decide) (fun _ _ _ => rfl) (by decide +kernel) kw_331 ?_
    refine gk_iload_n (j := 3) h (by decide +kernel) rfl ?_
    refine gk_ald0 h (by decide +kernel) ?_
    refine gk_icmpgt (off := 75) (tgt := 116) h (by decide +kernel) (by decide) ?_ ?_
    · refine gk_iinc (z := 1) h (by decide +kernel) (by decide) hxn (by decide) ?_
      refine gk_goto (off := (-98)) (tgt := 21) h (by decide +kernel) (by decide) ?_
      exact gk_jmp 2 rfl
    · refine gk_aload_n (j := 0) h (by decide +kernel) rfl ?_
      refine gk_getR (i := 39) h ck_5 (by decide) (fun _ _ _ => rfl) (by decide +kernel) kw_328 ?_
      refine gk_iload_n (j := 3) h (by decide +kernel) rfl ?_
      refine gk_ald0 h (by decide +kernel) ?_
      refine gk_iconst (n := 3) h (by decide +kernel) (by decide) ?_
      refine gk_icmpeq (off := 15) (tgt := 66) h (by decide +kernel) (by decide) ?_ ?_
      · exact gk_jmp 4 rfl
      · refine gk_iload h (by decide +kernel) ?_
        refine gk_iload h (by decide +kernel) ?_
        refine gk_iadd h (by decide +kernel) ?_
        refine gk_aload_n (j := 0) h (by decide +kernel) rfl ?_
        refine gk_getI (i := 15) h ck_5 (by decide) (fun _ _ _ => rfl) (by decide +kernel) kw_321 ?_
        refine gk_icmpgt (off := 7) (tgt := 70) h (by decide +kernel) (by decide) ?_ ?_
        · refine gk_iconst (n := 0) h (by decide +kernel) (by decide) ?_
          exact gk_jmp 5 rfl
        · exact gk_jmp 4 rfl
  | 4 =>
    show GK X Q61 66 (o_iconst 1 (o_jmp 5))
    refine gk_iconst (n := 1) h (by decide +kernel) (by decide) ?_
    refine gk_goto (off := 4) (tgt := 71) h (by decide +kernel) (by decide) ?_
    exact gk_jmp 5 rfl
  | 5 =>
    show GK X Q61 71 (o_istore 6 (o_iload 6 (o_if0 (o_jmp 6) (o_aload 0 (o_iload 3 (o_iload 4 (o_iload 5 (o_vI orc 62 4 5 (o_if0 (o_jmp 6) (o_iload 2 (o_aload 1 (o_alen (o_ilt (o_aload 1 (o_iload 2 (o_iload 3 (o_iload 4 (o_iload 5 (o_sI orc 0 3 (o_iast 0 (fun x => x) (o_iinc 2 1 (o_jmp 6))))))))) (o_jmp 6))))))))))))))
    refine gk_istore h (by decide +kernel) hxn (by decide) ?_
    refine gk_iload h (by decide +kernel) ?_
    refine gk_ifeq (off := 35) (tgt := 110) h (by decide +kernel) (by decide) ?_ ?_
    · exact gk_jmp 6 rfl
    · refine gk_aload_n (j := 0) h (by decide +kernel) rfl ?_
      refine gk_iload_n (j := 3) h (by decide +kernel) rfl ?_
      refine gk_iload h (by decide +kernel) ?_
      refine gk_iload h (by decide +kernel) ?_
      refine gk_vI (ca_v (idx := 71) h ho hm_62 (rd_le hrd (by decide)) ck_5 (by decide +kernel) kw_306 kw_307 kw_308 kw_97 kw_309 rfl (by decide +kernel) (by decide)) ?_
      refine gk_ifeq (off := 23) (tgt := 110) h (by decide +kernel) (by decide) ?_ ?_
      · exact gk_jmp 6 rfl
      · refine gk_iload_n (j := 2) h (by decide +kernel) rfl ?_
        refine gk_aload_n (j := 1) h (by decide +kernel) rfl ?_
        refine gk_alen h (by decide +kernel) ?_
        refine gk_icmpge (off := 17) (tgt := 110) h (by decide +kernel) (by decide) ?_ ?_
        · exact gk_jmp 6 rfl
        · refine gk_aload_n (j := 1) h (by decide +kernel) rfl ?_
          refine gk_iload_n (j := 2) h (by decide +kernel) rfl ?_
          refine gk_iload_n (j := 3) h (by decide +kernel) rfl ?_
          refine gk_iload h (by decide +kernel) ?_
          refine gk_iload h (by decide +kernel) ?_
          refine gk_sI (ca_s (idx := 75) h ho hm_0 (rd_le hrd (by decide)) (by decide +kernel) kw_314 kw_315 kw_99 kw_316 (by decide +kernel)) ?_
          refine gk_ast0 h (by decide +kernel) ?_
          refine gk_iinc (z := 1) h (by decide +kernel) (by decide) hxn (by decide) ?_
          exact gk_jmp 6 rfl
  | 6 =>
    show GK X Q61 110 (o_iinc 5 1 (o_jmp 3))
    refine gk_iinc (z := 1) h (by decide +kernel) (by decide) hxn (by decide) ?_
    refine gk_goto (off := (-80)) (tgt := 33) h (by decide +kernel) (by decide) ?_
    exact gk_jmp 3 rfl
  | 7 =>
    show GK X Q61 130 (o_iload 3 (o_aload 0 (o_getI 5 0 (o_ilt (o_aload 0 (o_getI 5 2 (o_ifp (o_iload 2 (o_aload 1 (o_alen (o_ilt (o_aload 1 (o_iload 2 (o_iload 3 (o_sI orc 1 1 (o_iast 0 (fun x => x) (o_iinc 2 1 (o_iinc 3 1 (o_jmp 7)))))))) (o_jmp 8))))) (o_jmp 8)))) (o_jmp 8)))))
    refine gk_iload_n (j := 3) h (by decide +kernel) rfl ?_
    refine gk_aload_n (j := 0) h (by decide +kernel) rfl ?_
    refine gk_getI (i := 15) h ck_5 (by decide) (fun _ _ _ => rfl) (by decide +kernel) kw_321 ?_
    refine gk_icmpge (off := 32) (tgt := 167) h (by decide +kernel) (by decide) ?_ ?_
    · exact gk_jmp 8 rfl
    · refine gk_aload_n (j := 0) h (by decide +kernel) rfl ?_
      refine gk_getI (i := 25) h ck_5 (by decide) (fun _ _ _ => rfl) (by decide +kernel) kw_325 ?_
      refine gk_ifle (off := 25) (tgt := 167) h (by decide +kernel) (by decide) ?_ ?_
      · exact gk_jmp 8 rfl
      · refine gk_iload_n (j := 2) h (by decide +kernel) rfl ?_
        refine gk_aload_n (j := 1) h (by decide +kernel) rfl ?_
        refine gk_alen h (by decide +kernel) ?_
        refine gk_icmpge (off := 19) (tgt := 167) h (by decide +kernel) (by decide) ?_ ?_
        · exact gk_jmp 8 rfl
        · refine gk_aload_n (j := 1) h (by decide +kernel) rfl ?_
          refine gk_iload_n (j := 2) h (by decide +kernel) rfl ?_
          refine gk_iload_n (j := 3) h (by decide +kernel) rfl ?_
          refine gk_sI (ca_s (idx := 79) h ho hm_1 (rd_le hrd (by decide)) (by decide +kernel) kw_317 kw_318 kw_99 kw_319 (by decide +kernel)) ?_
          refine gk_ast0 h (by decide +kernel) ?_
          refine gk_iinc (z := 1) h (by decide +kernel) (by decide) hxn (by decide) ?_
          refine gk_iinc (z := 1) h (by decide +kernel) (by decide) hxn (by decide) ?_
          refine gk_goto (off := (-34)) (tgt := 130) h (by decide +kernel) (by decide) ?_
          exact gk_jmp 7 rfl
  | 8 =>
    show GK X Q61 167 (o_iload 2 (o_newa 0 (o_astore 3 (o_aload 1 (o_iconst 0 (o_aload 3 (o_iconst 0 (o_iload 2 (o_copy (o_aload 3 (o_aret)))))))))))
    refine gk_iload_n (j := 2) h (by decide +kernel) rfl ?_
    refine gk_newa (aty := .int) h (by decide) (by decide +kernel) rfl kw_190 ?_
    refine gk_astore_n (j := 3) h (by decide +kernel) rfl hxn (by decide) ?_
    refine gk_aload_n (j := 1) h (by decide +kernel) rfl ?_
    refine gk_iconst (n := 0) h (by decide +kernel) (by decide) ?_
    refine gk_aload_n (j := 3) h (by decide +kernel) rfl ?_
    refine gk_iconst (n := 0) h (by decide +kernel) (by decide) ?_
    refine gk_iload_n (j := 2) h (by decide +kernel) rfl ?_
    refine gk_copy (i := 83) h (by decide +kernel) kw_320 kw_298 kw_297 kw_98 ?_
    refine gk_aload_n (j := 3) h (by decide +kernel) rfl ?_
    exact gk_aret h hR (Or.inr ⟨_, rfl⟩) (by decide +kernel)
  | _ + 9 => exact fun _ _ _ hr => hr.elim
set_option maxRecDepth 20000 in
set_option maxHeartbeats 4000000 in
theorem s_62 : MS mtab yX6_isAsTold cX6_isAsTold 5 (some .boolean) Q62 P62 := by
  intro X orc d h hR hnm hxn ho hrd b
  match b with
  | 0 =>
    show GK X Q62 0 (o_iload 1 (o_ifn (o_iconst 0 (o_zret)) (o_iload 1 (o_aload 0 (o_getI 5 3 (o_ilt (o_iload 2 (o_ifn (o_iconst 0 (o_zret)) (o_iload 2 (o_aload 0 (o_getI 5 0 (o_ilt (o_aload 0 (o_getR 5 4 (o_iload 1 (o_iald 0 (o_iconst 5 (o_ieq (o_iload 3 (o_iconst 1 (o_ilt (o_iconst 0 (o_zret)) (o_iload 3 (o_aload 0 (o_getR 5 5 (o_iload 1 (o_iald 0 (o_igt (o_iconst 0 (o_zret)) (o_iconst 1 (o_zret))))))))))) (o_aload 0 (o_getR 5 4 (o_iload 1 (o_iald 0 (o_iconst 3 (o_ieq (o_iload 2 (o_aload 0 (o_iload 2 (o_vI orc 63 2 5 (o_ieq (o_iconst 1 (o_jmp 2)) (o_jmp 1)))))) (o_jmp 1))))))))))))) (o_iconst 0 (o_zret)))))))) (o_iconst 0 (o_zret))))))))
    refine gk_iload_n (j := 1) h (by decide +kernel) rfl ?_
    refine gk_iflt (off := 23) (tgt := 24) h (by decide +kernel) (by decide) ?_ ?_
    · refine gk_iconst (n := 0) h (by decide +kernel) (by decide) ?_
      exact gk_zret h hR (by decide +kernel)
    · refine gk_iload_n (j := 1) h (by decide +kernel) rfl ?_
      refine gk_aload_n (j := 0) h (by decide +kernel) rfl ?_
      refine gk_getI (i := 29) h ck_5 (by decide) (fun _ _ _ => rfl) (by decide +kernel) kw_326 ?_
      refine gk_icmpge (off := 15) (tgt := 24) h (by decide +kernel) (by decide) ?_ ?_
      · refine gk_iconst (n := 0) h (by decide +kernel) (by decide) ?_
        exact gk_zret h hR (by decide +kernel)
      · refine gk_iload_n (j := 2) h (by decide +kernel) rfl ?_
        refine gk_iflt (off := 11) (tgt := 24) h (by decide +kernel) (by decide) ?_ ?_
        · refine gk_iconst (n := 0) h (by decide +kernel) (by decide) ?_
          exact gk_zret h hR (by decide +kernel)
        · refine gk_iload_n (j := 2) h (by decide +kernel) rfl ?_
          refine gk_aload_n (j := 0) h (by decide +kernel) rfl ?_
          refine gk_getI (i := 15) h ck_5 (by decide) (fun _ _ _ => rfl) (by decide +kernel) kw_321 ?_
          refine gk_icmplt (off := 5) (tgt := 26) h (by decide +kernel) (by decide) ?_ ?_
          · refine gk_aload_n (j := 0) h (by decide +kernel) rfl ?_
            refine gk_getR (i := 39) h ck_5 (by decide) (fun _ _ _ => rfl) (by decide +kernel) kw_328 ?_
            refine gk_iload_n (j := 1) h (by decide +kernel) rfl ?_
            refine gk_ald0 h (by decide +kernel) ?_
            refine gk_iconst (n := 5) h (by decide +kernel) (by decide) ?_
            refine gk_icmpne (off := 24) (tgt := 57) h (by decide +kernel) (by decide) ?_ ?_
            · refine gk_aload_n (j := 0) h (by decide +kernel) rfl ?_
              refine gk_getR (i := 39) h ck_5 (by decide) (fun _ _ _ => rfl) (by decide +kernel) kw_328 ?_
              refine gk_iload_n (j := 1) h (by decide +kernel) rfl ?_
              refine gk_ald0 h (by decide +kernel) ?_
              refine gk_iconst (n := 3) h (by decide +kernel) (by decide) ?_
              refine gk_icmpne (off := 16) (tgt := 80) h (by decide +kernel) (by decide) ?_ ?_
              · exact gk_jmp 1 rfl
              · refine gk_iload_n (j := 2) h (by decide +kernel) rfl ?_
                refine gk_aload_n (j := 0) h (by decide +kernel) rfl ?_
                refine gk_iload_n (j := 2) h (by decide +kernel) rfl ?_
                refine gk_vI (ca_v (idx := 89) h ho hm_63 (rd_le hrd (by decide)) ck_5 (by decide +kernel) kw_310 kw_311 kw_312 kw_97 kw_313 rfl (by decide +kernel) (by decide)) ?_
                refine gk_icmpne (off := 7) (tgt := 80) h (by decide +kernel) (by decide) ?_ ?_
                · exact gk_jmp 1 rfl
                · refine gk_iconst (n := 1) h (by decide +kernel) (by decide) ?_
                  refine gk_goto (off := 4) (tgt := 81) h (by decide +kernel) (by decide) ?_
                  exact gk_jmp 2 rfl
            · refine gk_iload_n (j := 3) h (by decide +kernel) rfl ?_
              refine gk_iconst (n := 1) h (by decide +kernel) (by decide) ?_
              refine gk_icmplt (off := 17) (tgt := 55) h (by decide +kernel) (by decide) ?_ ?_
              · refine gk_iconst (n := 0) h (by decide +kernel) (by decide) ?_
                exact gk_zret h hR (by decide +kernel)
              · refine gk_iload_n (j := 3) h (by decide +kernel) rfl ?_
                refine gk_aload_n (j := 0) h (by decide +kernel) rfl ?_
                refine gk_getR (i := 43) h ck_5 (by decide) (fun _ _ _ => rfl) (by decide +kernel) kw_331 ?_
                refine gk_iload_n (j := 1) h (by decide +kernel) rfl ?_
                refine gk_ald0 h (by decide +kernel) ?_
                refine gk_icmpgt (off := 7) (tgt := 55) h (by decide +kernel) (by decide) ?_ ?_
                · refine gk_iconst (n := 0) h (by decide +kernel) (by decide) ?_
                  exact gk_zret h hR (by decide +kernel)
                · refine gk_iconst (n := 1) h (by decide +kernel) (by decide) ?_
                  refine gk_goto (off := 4) (tgt := 56) h (by decide +kernel) (by decide) ?_
                  exact gk_zret h hR (by decide +kernel)
          · refine gk_iconst (n := 0) h (by decide +kernel) (by decide) ?_
            exact gk_zret h hR (by decide +kernel)
  | 1 =>
    show GK X Q62 80 (o_iconst 0 (o_jmp 2))
    refine gk_iconst (n := 0) h (by decide +kernel) (by decide) ?_
    exact gk_jmp 2 rfl
  | 2 =>
    show GK X Q62 81 (o_istore 4 (o_iload 3 (o_aload 0 (o_getR 5 5 (o_iload 1 (o_iald 0 (o_ieq (o_iload 4 (o_if0 (o_iconst 1 (o_zret)) (o_iconst 0 (o_zret)))) (o_iconst 0 (o_zret)))))))))
    refine gk_istore h (by decide +kernel) hxn (by decide) ?_
    refine gk_iload_n (j := 3) h (by decide +kernel) rfl ?_
    refine gk_aload_n (j := 0) h (by decide +kernel) rfl ?_
    refine gk_getR (i := 43) h ck_5 (by decide) (fun _ _ _ => rfl) (by decide +kernel) kw_331 ?_
    refine gk_iload_n (j := 1) h (by decide +kernel) rfl ?_
    refine gk_ald0 h (by decide +kernel) ?_
    refine gk_icmpne (off := 12) (tgt := 102) h (by decide +kernel) (by decide) ?_ ?_
    · refine gk_iconst (n := 0) h (by decide +kernel) (by decide) ?_
      exact gk_zret h hR (by decide +kernel)
    · refine gk_iload h (by decide +kernel) ?_
      refine gk_ifne (off := 7) (tgt := 102) h (by decide +kernel) (by decide) ?_ ?_
      · refine gk_iconst (n := 0) h (by decide +kernel) (by decide) ?_
        exact gk_zret h hR (by decide +kernel)
      · refine gk_iconst (n := 1) h (by decide +kernel) (by decide) ?_
        refine gk_goto (off := 4) (tgt := 103) h (by decide +kernel) (by decide) ?_
        exact gk_zret h hR (by decide +kernel)
  | _ + 3 => exact fun _ _ _ hr => hr.elim
set_option maxRecDepth 20000 in
set_option maxHeartbeats 4000000 in
theorem s_63 : MS mtab yX6_twinOf cX6_twinOf 2 (some .int) Q63 P63 := by
  intro X orc d h hR hnm hxn ho hrd b
  match b with
  | 0 =>
    show GK X Q63 0 (o_aload 0 (o_getI 5 0 (o_iconst 1 (o_i2 (fun x y => x - y) (o_iload 1 (o_i2 (fun x y => x - y) (o_iret)))))))
    refine gk_aload_n (j := 0) h (by decide +kernel) rfl ?_
    refine gk_getI (i := 15) h ck_5 (by decide) (fun _ _ _ => rfl) (by decide +kernel) kw_321 ?_
    refine gk_iconst (n := 1) h (by decide +kernel) (by decide) ?_
    refine gk_isub h (by decide +kernel) ?_
    refine gk_iload_n (j := 1) h (by decide +kernel) rfl ?_
    refine gk_isub h (by decide +kernel) ?_
    exact gk_iret h hR (by decide +kernel)
  | _ + 1 => exact fun _ _ _ hr => hr.elim
set_option maxRecDepth 20000 in
set_option maxHeartbeats 4000000 in
theorem s_64 : MS mtab yX6_stoneHindrance cX6_stoneHindrance 11 (some .int) Q64 P64 := by
  intro X orc d h hR hnm hxn ho hrd b
  match b with
  | 0 =>
    show GK X Q64 0 (o_aload 0 (o_getR 5 4 (o_iload 3 (o_iald 0 (o_istore 6 (o_iload 6 (o_iconst 3 (o_ieq (o_aload 0 (o_lload 1 (o_iload 4 (o_vI orc 65 3 5 (o_iret))))) (o_iload 4 (o_iload 5 (o_i2 (fun x y => x + y) (o_aload 0 (o_getI 5 0 (o_igt (o_iconst 3 (o_iret)) (o_iconst 1 (o_iconst 4 (o_iload 5 (o_i2 (fun x y => x * y) (o_i2 (fun x y => x <<< (y &&& 31)) (o_iconst 1 (o_i2 (fun x y => x - y) (o_istore 7 (o_lload 1 (o_iconst 4 (o_iload 4 (o_i2 (fun x y => x * y) (o_lsh (fun x y => (x.toUInt64 >>> (y.toInt64.toUInt64 &&& Int64.toUInt64 63)).toInt64) (o_l2i (o_iload 7 (o_i2 (fun x y => x &&& y) (o_istore 8 (o_iload 8 (o_iconst 34952 (o_i2 (fun x y => x &&& y) (o_if0 (o_iload 8 (o_iconst 15 (o_i2 (fun x y => x &&& y) (o_istore 9 (o_iload 8 (o_iload 9 (o_iconst 4369 (o_i2 (fun x y => x * y) (o_iload 7 (o_i2 (fun x y => x &&& y) (o_ieq (o_iconst 1 (o_jmp 1)) (o_iconst 0 (o_jmp 1))))))))))))) (o_iconst 4 (o_iret)))))))))))))))))))))))))))))))))))))
    refine gk_aload_n (j := 0) h (by decide +kernel) rfl ?_
    refine gk_getR (i := 39) h ck_5 (by decide) (fun _ _ _ => rfl) (by decide +kernel) kw_328 ?_
    refine gk_iload_n (j := 3) h (by decide +kernel) rfl ?_
    refine gk_ald0 h (by decide +kernel) ?_
    refine gk_istore h (by decide +kernel) hxn (by decide) ?_
    refine gk_iload h (by decide +kernel) ?_
    refine gk_iconst (n := 3) h (by decide +kernel) (by decide) ?_
    refine gk_icmpne (off := 11) (tgt := 22) h (by decide +kernel) (by decide) ?_ ?_
    · refine gk_iload h (by decide +kernel) ?_
      refine gk_iload h (by decide +kernel) ?_
      refine gk_iadd h (by decide +kernel) ?_
      refine gk_aload_n (j := 0) h (by decide +kernel) rfl ?_
      refine gk_getI (i := 15) h ck_5 (by decide) (fun _ _ _ => rfl) (by decide +kernel) kw_321 ?_
      refine gk_icmple (off := 5) (tgt := 36) h (by decide +kernel) (by decide) ?_ ?_
      · refine gk_iconst (n := 1) h (by decide +kernel) (by decide) ?_
        refine gk_iconst (n := 4) h (by decide +kernel) (by decide) ?_
        refine gk_iload h (by decide +kernel) ?_
        refine gk_imul h (by decide +kernel) ?_
        refine gk_ishl h (by decide +kernel) ?_
        refine gk_iconst (n := 1) h (by decide +kernel) (by decide) ?_
        refine gk_isub h (by decide +kernel) ?_
        refine gk_istore h (by decide +kernel) hxn (by decide) ?_
        refine gk_lload_n (j := 1) h (by decide +kernel) rfl ?_
        refine gk_iconst (n := 4) h (by decide +kernel) (by decide) ?_
        refine gk_iload h (by decide +kernel) ?_
        refine gk_imul h (by decide +kernel) ?_
        refine gk_lushr h (by decide +kernel) ?_
        refine gk_l2i h (by decide +kernel) ?_
        refine gk_iload h (by decide +kernel) ?_
        refine gk_iand h (by decide +kernel) ?_
        refine gk_istore h (by decide +kernel) hxn (by decide) ?_
        refine gk_iload h (by decide +kernel) ?_
        refine gk_ldc (i := 96) h (by decide +kernel) kw_432 ?_
        refine gk_iand h (by decide +kernel) ?_
        refine gk_ifeq (off := 5) (tgt := 68) h (by decide +kernel) (by decide) ?_ ?_
        · refine gk_iload h (by decide +kernel) ?_
          refine gk_bipush (n := 15) h (by decide +kernel) (by decide) ?_
          refine gk_iand h (by decide +kernel) ?_
          refine gk_istore h (by decide +kernel) hxn (by decide) ?_
          refine gk_iload h (by decide +kernel) ?_
          refine gk_iload h (by decide +kernel) ?_
          refine gk_sipush (n := 4369) h (by decide +kernel) (by decide) ?_
          refine gk_imul h (by decide +kernel) ?_
          refine gk_iload h (by decide +kernel) ?_
          refine gk_iand h (by decide +kernel) ?_
          refine gk_icmpne (off := 7) (tgt := 93) h (by decide +kernel) (by decide) ?_ ?_
          · refine gk_iconst (n := 0) h (by decide +kernel) (by decide) ?_
            exact gk_jmp 1 rfl
          · refine gk_iconst (n := 1) h (by decide +kernel) (by decide) ?_
            refine gk_goto (off := 4) (tgt := 94) h (by decide +kernel) (by decide) ?_
            exact gk_jmp 1 rfl
        · refine gk_iconst (n := 4) h (by decide +kernel) (by decide) ?_
          exact gk_iret h hR (by decide +kernel)
      · refine gk_iconst (n := 3) h (by decide +kernel) (by decide) ?_
        exact gk_iret h hR (by decide +kernel)
    · refine gk_aload_n (j := 0) h (by decide +kernel) rfl ?_
      refine gk_lload_n (j := 1) h (by decide +kernel) rfl ?_
      refine gk_iload h (by decide +kernel) ?_
      refine gk_vI (ca_v (idx := 92) h ho hm_65 (rd_le hrd (by decide)) ck_5 (by decide +kernel) kw_428 kw_430 kw_2 kw_97 kw_431 rfl (by decide +kernel) (by decide)) ?_
      exact gk_iret h hR (by decide +kernel)
  | 1 =>
    show GK X Q64 94 (o_istore 10 (o_iload 6 (o_iconst 2 (o_ieq (o_aload 0 (o_lload 1 (o_iload 4 (o_iload 9 (o_vI orc 66 4 5 (o_istore 10 (o_jmp 2))))))) (o_iload 6 (o_iconst 1 (o_ieq (o_iload 8 (o_iload 9 (o_iload 5 (o_sI orc 67 3 (o_istore 10 (o_jmp 2)))))) (o_jmp 2))))))))
    refine gk_istore h (by decide +kernel) hxn (by decide) ?_
    refine gk_iload h (by decide +kernel) ?_
    refine gk_iconst (n := 2) h (by decide +kernel) (by decide) ?_
    refine gk_icmpne (off := 17) (tgt := 116) h (by decide +kernel) (by decide) ?_ ?_
    · refine gk_iload h (by decide +kernel) ?_
      refine gk_iconst (n := 1) h (by decide +kernel) (by decide) ?_
      refine gk_icmpne (off := 14) (tgt := 133) h (by decide +kernel) (by decide) ?_ ?_
      · exact gk_jmp 2 rfl
      · refine gk_iload h (by decide +kernel) ?_
        refine gk_iload h (by decide +kernel) ?_
        refine gk_iload h (by decide +kernel) ?_
        refine gk_sI (ca_s (idx := 101) h ho hm_67 (rd_le hrd (by decide)) (by decide +kernel) kw_437 kw_438 kw_97 kw_439 (by decide +kernel)) ?_
        refine gk_istore h (by decide +kernel) hxn (by decide) ?_
        exact gk_jmp 2 rfl
    · refine gk_aload_n (j := 0) h (by decide +kernel) rfl ?_
      refine gk_lload_n (j := 1) h (by decide +kernel) rfl ?_
      refine gk_iload h (by decide +kernel) ?_
      refine gk_iload h (by decide +kernel) ?_
      refine gk_vI (ca_v (idx := 97) h ho hm_66 (rd_le hrd (by decide)) ck_5 (by decide +kernel) kw_433 kw_435 kw_3 kw_97 kw_436 rfl (by decide +kernel) (by decide)) ?_
      refine gk_istore h (by decide +kernel) hxn (by decide) ?_
      refine gk_goto (off := 20) (tgt := 133) h (by decide +kernel) (by decide) ?_
      exact gk_jmp 2 rfl
  | 2 =>
    show GK X Q64 133 (o_iload 10 (o_if0 (o_iconst 5 (o_iret)) (o_iload 9 (o_aload 0 (o_getI 5 1 (o_ilt (o_iconst 0 (o_iret)) (o_iconst 6 (o_iret))))))))
    refine gk_iload h (by decide +kernel) ?_
    refine gk_ifne (off := 5) (tgt := 140) h (by decide +kernel) (by decide) ?_ ?_
    · refine gk_iload h (by decide +kernel) ?_
      refine gk_aload_n (j := 0) h (by decide +kernel) rfl ?_
      refine gk_getI (i := 21) h ck_5 (by decide) (fun _ _ _ => rfl) (by decide +kernel) kw_323 ?_
      refine gk_icmpge (off := 7) (tgt := 153) h (by decide +kernel) (by decide) ?_ ?_
      · refine gk_bipush (n := 6) h (by decide +kernel) (by decide) ?_
        exact gk_iret h hR (by decide +kernel)
      · refine gk_iconst (n := 0) h (by decide +kernel) (by decide) ?_
        refine gk_goto (off := 5) (tgt := 155) h (by decide +kernel) (by decide) ?_
        exact gk_iret h hR (by decide +kernel)
    · refine gk_iconst (n := 5) h (by decide +kernel) (by decide) ?_
      exact gk_iret h hR (by decide +kernel)
  | _ + 3 => exact fun _ _ _ hr => hr.elim
set_option maxRecDepth 20000 in
set_option maxHeartbeats 4000000 in
theorem s_65 : MS mtab yX6_twinHindrance cX6_twinHindrance 5 (some .int) Q65 P65 := by
  intro X orc d h hR hnm hxn ho hrd b
  match b with
  | 0 =>
    show GK X Q65 0 (o_aload 0 (o_iload 3 (o_vI orc 63 2 5 (o_istore 4 (o_lload 1 (o_iload 3 (o_sI orc 58 2 (o_iconst (-1) (o_ieq (o_lload 1 (o_iload 4 (o_sI orc 58 2 (o_iconst (-1) (o_ieq (o_lload 1 (o_iload 3 (o_sI orc 57 2 (o_aload 0 (o_getI 5 1 (o_ilt (o_lload 1 (o_iload 4 (o_sI orc 57 2 (o_aload 0 (o_getI 5 1 (o_ilt (o_iconst 0 (o_iret)) (o_iconst 6 (o_iret)))))))) (o_iconst 6 (o_iret)))))))) (o_iconst 4 (o_iret))))))) (o_iconst 4 (o_iret)))))))))))
    refine gk_aload_n (j := 0) h (by decide +kernel) rfl ?_
    refine gk_iload_n (j := 3) h (by decide +kernel) rfl ?_
    refine gk_vI (ca_v (idx := 89) h ho hm_63 (rd_le hrd (by decide)) ck_5 (by decide +kernel) kw_310 kw_311 kw_312 kw_97 kw_313 rfl (by decide +kernel) (by decide)) ?_
    refine gk_istore h (by decide +kernel) hxn (by decide) ?_
    refine gk_lload_n (j := 1) h (by decide +kernel) rfl ?_
    refine gk_iload_n (j := 3) h (by decide +kernel) rfl ?_
    refine gk_sI (ca_s (idx := 104) h ho hm_58 (rd_le hrd (by decide)) (by decide +kernel) kw_414 kw_415 kw_97 kw_416 (by decide +kernel)) ?_
    refine gk_iconst (n := (-1)) h (by decide +kernel) (by decide) ?_
    refine gk_icmpne (off := 13) (tgt := 26) h (by decide +kernel) (by decide) ?_ ?_
    · refine gk_iconst (n := 4) h (by decide +kernel) (by decide) ?_
      exact gk_iret h hR (by decide +kernel)
    · refine gk_lload_n (j := 1) h (by decide +kernel) rfl ?_
      refine gk_iload h (by decide +kernel) ?_
      refine gk_sI (ca_s (idx := 104) h ho hm_58 (rd_le hrd (by decide)) (by decide +kernel) kw_414 kw_415 kw_97 kw_416 (by decide +kernel)) ?_
      refine gk_iconst (n := (-1)) h (by decide +kernel) (by decide) ?_
      refine gk_icmpeq (off := 5) (tgt := 28) h (by decide +kernel) (by decide) ?_ ?_
      · refine gk_lload_n (j := 1) h (by decide +kernel) rfl ?_
        refine gk_iload_n (j := 3) h (by decide +kernel) rfl ?_
        refine gk_sI (ca_s (idx := 107) h ho hm_57 (rd_le hrd (by decide)) (by decide +kernel) kw_417 kw_418 kw_97 kw_419 (by decide +kernel)) ?_
        refine gk_aload_n (j := 0) h (by decide +kernel) rfl ?_
        refine gk_getI (i := 21) h ck_5 (by decide) (fun _ _ _ => rfl) (by decide +kernel) kw_323 ?_
        refine gk_icmpge (off := 20) (tgt := 57) h (by decide +kernel) (by decide) ?_ ?_
        · refine gk_bipush (n := 6) h (by decide +kernel) (by decide) ?_
          exact gk_iret h hR (by decide +kernel)
        · refine gk_lload_n (j := 1) h (by decide +kernel) rfl ?_
          refine gk_iload h (by decide +kernel) ?_
          refine gk_sI (ca_s (idx := 107) h ho hm_57 (rd_le hrd (by decide)) (by decide +kernel) kw_417 kw_418 kw_97 kw_419 (by decide +kernel)) ?_
          refine gk_aload_n (j := 0) h (by decide +kernel) rfl ?_
          refine gk_getI (i := 21) h ck_5 (by decide) (fun _ _ _ => rfl) (by decide +kernel) kw_323 ?_
          refine gk_icmpge (off := 7) (tgt := 57) h (by decide +kernel) (by decide) ?_ ?_
          · refine gk_bipush (n := 6) h (by decide +kernel) (by decide) ?_
            exact gk_iret h hR (by decide +kernel)
          · refine gk_iconst (n := 0) h (by decide +kernel) (by decide) ?_
            refine gk_goto (off := 5) (tgt := 59) h (by decide +kernel) (by decide) ?_
            exact gk_iret h hR (by decide +kernel)
      · refine gk_iconst (n := 4) h (by decide +kernel) (by decide) ?_
        exact gk_iret h hR (by decide +kernel)
  | _ + 1 => exact fun _ _ _ hr => hr.elim
set_option maxRecDepth 20000 in
set_option maxHeartbeats 4000000 in
theorem s_66 : MS mtab yX6_roundStands cX6_roundStands 7 (some .boolean) Q66 P66 := by
  intro X orc d h hR hnm hxn ho hrd b
  match b with
  | 0 =>
    show GK X Q66 0 (o_iload 3 (o_iconst 1 (o_i2 (fun x y => x - y) (o_istore 5 (o_jmp 1)))))
    refine gk_iload_n (j := 3) h (by decide +kernel) rfl ?_
    refine gk_iconst (n := 1) h (by decide +kernel) (by decide) ?_
    refine gk_isub h (by decide +kernel) ?_
    refine gk_istore h (by decide +kernel) hxn (by decide) ?_
    exact gk_jmp 1 rfl
  | 1 =>
    show GK X Q66 5 (o_iload 5 (o_iload 3 (o_iconst 1 (o_i2 (fun x y => x + y) (o_igt (o_iconst 1 (o_zret)) (o_iload 5 (o_ifn (o_jmp 2) (o_iload 5 (o_aload 0 (o_getI 5 0 (o_ilt (o_lload 1 (o_iload 5 (o_sI orc 58 2 (o_iconst (-1) (o_ieq (o_iconst 1 (o_jmp 3)) (o_jmp 2)))))) (o_jmp 2))))))))))))
    refine gk_iload h (by decide +kernel) ?_
    refine gk_iload_n (j := 3) h (by decide +kernel) rfl ?_
    refine gk_iconst (n := 1) h (by decide +kernel) (by decide) ?_
    refine gk_iadd h (by decide +kernel) ?_
    refine gk_icmpgt (off := 58) (tgt := 68) h (by decide +kernel) (by decide) ?_ ?_
    · refine gk_iconst (n := 1) h (by decide +kernel) (by decide) ?_
      exact gk_zret h hR (by decide +kernel)
    · refine gk_iload h (by decide +kernel) ?_
      refine gk_iflt (off := 26) (tgt := 41) h (by decide +kernel) (by decide) ?_ ?_
      · exact gk_jmp 2 rfl
      · refine gk_iload h (by decide +kernel) ?_
        refine gk_aload_n (j := 0) h (by decide +kernel) rfl ?_
        refine gk_getI (i := 15) h ck_5 (by decide) (fun _ _ _ => rfl) (by decide +kernel) kw_321 ?_
        refine gk_icmpge (off := 17) (tgt := 41) h (by decide +kernel) (by decide) ?_ ?_
        · exact gk_jmp 2 rfl
        · refine gk_lload_n (j := 1) h (by decide +kernel) rfl ?_
          refine gk_iload h (by decide +kernel) ?_
          refine gk_sI (ca_s (idx := 104) h ho hm_58 (rd_le hrd (by decide)) (by decide +kernel) kw_414 kw_415 kw_97 kw_416 (by decide +kernel)) ?_
          refine gk_iconst (n := (-1)) h (by decide +kernel) (by decide) ?_
          refine gk_icmpne (off := 7) (tgt := 41) h (by decide +kernel) (by decide) ?_ ?_
          · exact gk_jmp 2 rfl
          · refine gk_iconst (n := 1) h (by decide +kernel) (by decide) ?_
            refine gk_goto (off := 4) (tgt := 42) h (by decide +kernel) (by decide) ?_
            exact gk_jmp 3 rfl
  | 2 =>
    show GK X Q66 41 (o_iconst 0 (o_jmp 3))
    refine gk_iconst (n := 0) h (by decide +kernel) (by decide) ?_
    exact gk_jmp 3 rfl
  | 3 =>
    show GK X Q66 42 (o_istore 6 (o_iload 6 (o_if0 (o_jmp 4) (o_lload 1 (o_iload 5 (o_sI orc 57 2 (o_iload 4 (o_igt (o_jmp 4) (o_iconst 0 (o_zret))))))))))
    refine gk_istore h (by decide +kernel) hxn (by decide) ?_
    refine gk_iload h (by decide +kernel) ?_
    refine gk_ifeq (off := 16) (tgt := 62) h (by decide +kernel) (by decide) ?_ ?_
    · exact gk_jmp 4 rfl
    · refine gk_lload_n (j := 1) h (by decide +kernel) rfl ?_
      refine gk_iload h (by decide +kernel) ?_
      refine gk_sI (ca_s (idx := 107) h ho hm_57 (rd_le hrd (by decide)) (by decide +kernel) kw_417 kw_418 kw_97 kw_419 (by decide +kernel)) ?_
      refine gk_iload h (by decide +kernel) ?_
      refine gk_icmpgt (off := 5) (tgt := 62) h (by decide +kernel) (by decide) ?_ ?_
      · exact gk_jmp 4 rfl
      · refine gk_iconst (n := 0) h (by decide +kernel) (by decide) ?_
        exact gk_zret h hR (by decide +kernel)
  | 4 =>
    show GK X Q66 62 (o_iinc 5 2 (o_jmp 1))
    refine gk_iinc (z := 2) h (by decide +kernel) (by decide) hxn (by decide) ?_
    refine gk_goto (off := (-60)) (tgt := 5) h (by decide +kernel) (by decide) ?_
    exact gk_jmp 1 rfl
  | _ + 5 => exact fun _ _ _ hr => hr.elim
set_option maxRecDepth 20000 in
set_option maxHeartbeats 4000000 in
theorem s_67 : MS mtab yX6_bridgeStands cX6_bridgeStands 4 (some .boolean) Q67 P67 := by
  intro X orc d h hR hnm hxn ho hrd b
  match b with
  | 0 =>
    show GK X Q67 0 (o_iconst 1 (o_istore 3 (o_jmp 1)))
    refine gk_iconst (n := 1) h (by decide +kernel) (by decide) ?_
    refine gk_istore_n (j := 3) h (by decide +kernel) rfl hxn (by decide) ?_
    exact gk_jmp 1 rfl
  | 1 =>
    show GK X Q67 2 (o_iload 3 (o_iload 2 (o_iconst 1 (o_i2 (fun x y => x - y) (o_ilt (o_iload 0 (o_iconst 4 (o_iload 3 (o_i2 (fun x y => x * y) (o_i2 (fun x y => x >>> (y &&& 31)) (o_iconst 15 (o_i2 (fun x y => x &&& y) (o_iload 1 (o_igt (o_iconst 0 (o_zret)) (o_iinc 3 1 (o_jmp 1))))))))))) (o_iload 0 (o_iconst 4 (o_iload 2 (o_iconst 1 (o_i2 (fun x y => x - y) (o_i2 (fun x y => x * y) (o_i2 (fun x y => x >>> (y &&& 31)) (o_iload 1 (o_ieq (o_iconst 1 (o_zret)) (o_iconst 0 (o_zret))))))))))))))))
    refine gk_iload_n (j := 3) h (by decide +kernel) rfl ?_
    refine gk_iload_n (j := 2) h (by decide +kernel) rfl ?_
    refine gk_iconst (n := 1) h (by decide +kernel) (by decide) ?_
    refine gk_isub h (by decide +kernel) ?_
    refine gk_icmpge (off := 23) (tgt := 29) h (by decide +kernel) (by decide) ?_ ?_
    · refine gk_iload_n (j := 0) h (by decide +kernel) rfl ?_
      refine gk_iconst (n := 4) h (by decide +kernel) (by decide) ?_
      refine gk_iload_n (j := 2) h (by decide +kernel) rfl ?_
      refine gk_iconst (n := 1) h (by decide +kernel) (by decide) ?_
      refine gk_isub h (by decide +kernel) ?_
      refine gk_imul h (by decide +kernel) ?_
      refine gk_ishr h (by decide +kernel) ?_
      refine gk_iload_n (j := 1) h (by decide +kernel) rfl ?_
      refine gk_icmpne (off := 7) (tgt := 44) h (by decide +kernel) (by decide) ?_ ?_
      · refine gk_iconst (n := 0) h (by decide +kernel) (by decide) ?_
        exact gk_zret h hR (by decide +kernel)
      · refine gk_iconst (n := 1) h (by decide +kernel) (by decide) ?_
        refine gk_goto (off := 4) (tgt := 45) h (by decide +kernel) (by decide) ?_
        exact gk_zret h hR (by decide +kernel)
    · refine gk_iload_n (j := 0) h (by decide +kernel) rfl ?_
      refine gk_iconst (n := 4) h (by decide +kernel) (by decide) ?_
      refine gk_iload_n (j := 3) h (by decide +kernel) rfl ?_
      refine gk_imul h (by decide +kernel) ?_
      refine gk_ishr h (by decide +kernel) ?_
      refine gk_bipush (n := 15) h (by decide +kernel) (by decide) ?_
      refine gk_iand h (by decide +kernel) ?_
      refine gk_iload_n (j := 1) h (by decide +kernel) rfl ?_
      refine gk_icmple (off := 5) (tgt := 23) h (by decide +kernel) (by decide) ?_ ?_
      · refine gk_iinc (z := 1) h (by decide +kernel) (by decide) hxn (by decide) ?_
        refine gk_goto (off := (-24)) (tgt := 2) h (by decide +kernel) (by decide) ?_
        exact gk_jmp 1 rfl
      · refine gk_iconst (n := 0) h (by decide +kernel) (by decide) ?_
        exact gk_zret h hR (by decide +kernel)
  | _ + 2 => exact fun _ _ _ hr => hr.elim
set_option maxRecDepth 20000 in
set_option maxHeartbeats 4000000 in
theorem s_68 : MS mtab yX6_gateHindrance cX6_gateHindrance 5 (some .int) Q68 P68 := by
  intro X orc d h hR hnm hxn ho hrd b
  match b with
  | 0 =>
    show GK X Q68 0 (o_aload 0 (o_lload 1 (o_iload 3 (o_vI orc 69 3 5 (o_if0 (o_iconst 3 (o_iret)) (o_lload 1 (o_iload 4 (o_sI orc 58 2 (o_iconst (-1) (o_ieq (o_lload 1 (o_iload 4 (o_sI orc 57 2 (o_if0 (o_iconst 0 (o_iret)) (o_iconst 5 (o_iret)))))) (o_iconst 4 (o_iret))))))))))))
    refine gk_aload_n (j := 0) h (by decide +kernel) rfl ?_
    refine gk_lload_n (j := 1) h (by decide +kernel) rfl ?_
    refine gk_iload_n (j := 3) h (by decide +kernel) rfl ?_
    refine gk_vI (ca_v (idx := 110) h ho hm_69 (rd_le hrd (by decide)) ck_5 (by decide +kernel) kw_410 kw_411 kw_412 kw_97 kw_413 rfl (by decide +kernel) (by decide)) ?_
    refine gk_ifne (off := 5) (tgt := 11) h (by decide +kernel) (by decide) ?_ ?_
    · refine gk_lload_n (j := 1) h (by decide +kernel) rfl ?_
      refine gk_iload h (by decide +kernel) ?_
      refine gk_sI (ca_s (idx := 104) h ho hm_58 (rd_le hrd (by decide)) (by decide +kernel) kw_414 kw_415 kw_97 kw_416 (by decide +kernel)) ?_
      refine gk_iconst (n := (-1)) h (by decide +kernel) (by decide) ?_
      refine gk_icmpeq (off := 5) (tgt := 23) h (by decide +kernel) (by decide) ?_ ?_
      · refine gk_lload_n (j := 1) h (by decide +kernel) rfl ?_
        refine gk_iload h (by decide +kernel) ?_
        refine gk_sI (ca_s (idx := 107) h ho hm_57 (rd_le hrd (by decide)) (by decide +kernel) kw_417 kw_418 kw_97 kw_419 (by decide +kernel)) ?_
        refine gk_ifne (off := 7) (tgt := 36) h (by decide +kernel) (by decide) ?_ ?_
        · refine gk_iconst (n := 5) h (by decide +kernel) (by decide) ?_
          exact gk_iret h hR (by decide +kernel)
        · refine gk_iconst (n := 0) h (by decide +kernel) (by decide) ?_
          refine gk_goto (off := 4) (tgt := 37) h (by decide +kernel) (by decide) ?_
          exact gk_iret h hR (by decide +kernel)
      · refine gk_iconst (n := 4) h (by decide +kernel) (by decide) ?_
        exact gk_iret h hR (by decide +kernel)
    · refine gk_iconst (n := 3) h (by decide +kernel) (by decide) ?_
      exact gk_iret h hR (by decide +kernel)
  | _ + 1 => exact fun _ _ _ hr => hr.elim
set_option maxRecDepth 20000 in
set_option maxHeartbeats 4000000 in
theorem s_69 : MS mtab yX6_gatesLeft cX6_gatesLeft 4 (some .int) Q69 P69 := by
  intro X orc d h hR hnm hxn ho hrd b
  match b with
  | 0 =>
    show GK X Q69 0 (o_aload 0 (o_getI 5 2 (o_lload 1 (o_iconst 40 (o_iload 3 (o_i2 (fun x y => x + y) (o_lsh (fun x y => (x.toUInt64 >>> (y.toInt64.toUInt64 &&& Int64.toUInt64 63)).toInt64) (o_l2i (o_iconst 1 (o_i2 (fun x y => x &&& y) (o_i2 (fun x y => x - y) (o_iret))))))))))))
    refine gk_aload_n (j := 0) h (by decide +kernel) rfl ?_
    refine gk_getI (i := 25) h ck_5 (by decide) (fun _ _ _ => rfl) (by decide +kernel) kw_325 ?_
    refine gk_lload_n (j := 1) h (by decide +kernel) rfl ?_
    refine gk_bipush (n := 40) h (by decide +kernel) (by decide) ?_
    refine gk_iload_n (j := 3) h (by decide +kernel) rfl ?_
    refine gk_iadd h (by decide +kernel) ?_
    refine gk_lushr h (by decide +kernel) ?_
    refine gk_l2i h (by decide +kernel) ?_
    refine gk_iconst (n := 1) h (by decide +kernel) (by decide) ?_
    refine gk_iand h (by decide +kernel) ?_
    refine gk_isub h (by decide +kernel) ?_
    exact gk_iret h hR (by decide +kernel)
  | _ + 1 => exact fun _ _ _ hr => hr.elim
set_option maxRecDepth 20000 in
set_option maxHeartbeats 4000000 in
theorem s_70 : MS mtab yX6_withGate cX6_withGate 4 (some .long) Q70 P70 := by
  intro X orc d h hR hnm hxn ho hrd b
  match b with
  | 0 =>
    show GK X Q70 0 (o_lload 0 (o_iload 2 (o_iconst 8 (o_iload 3 (o_i2 (fun x y => x + y) (o_sL orc 59 3 (o_lconst 1 (o_iconst 40 (o_iload 3 (o_i2 (fun x y => x + y) (o_lsh (fun x y => x <<< (y.toInt64 &&& 63)) (o_l2 (fun x y => x ||| y) (o_lret)))))))))))))
    refine gk_lload_n (j := 0) h (by decide +kernel) rfl ?_
    refine gk_iload_n (j := 2) h (by decide +kernel) rfl ?_
    refine gk_bipush (n := 8) h (by decide +kernel) (by decide) ?_
    refine gk_iload_n (j := 3) h (by decide +kernel) rfl ?_
    refine gk_iadd h (by decide +kernel) ?_
    refine gk_sL (ca_s (idx := 113) h ho hm_59 (rd_le hrd (by decide)) (by decide +kernel) kw_676 kw_677 kw_97 kw_678 (by decide +kernel)) ?_
    refine gk_lconst (n := 1) h (by decide +kernel) rfl ?_
    refine gk_bipush (n := 40) h (by decide +kernel) (by decide) ?_
    refine gk_iload_n (j := 3) h (by decide +kernel) rfl ?_
    refine gk_iadd h (by decide +kernel) ?_
    refine gk_lshl h (by decide +kernel) ?_
    refine gk_lor h (by decide +kernel) ?_
    exact gk_lret h hR (by decide +kernel)
  | _ + 1 => exact fun _ _ _ hr => hr.elim
set_option maxRecDepth 20000 in
set_option maxHeartbeats 4000000 in
theorem s_71 : MS mtab yX6_canDo cX6_canDo 6 (some .boolean) Q71 P71 := by
  intro X orc d h hR hnm hxn ho hrd b
  match b with
  | 0 =>
    show GK X Q71 0 (o_iload 4 (o_sI orc 4 1 (o_istore 5 (o_iload 4 (o_sI orc 2 1 (o_if0 (o_aload 0 (o_lload 1 (o_iload 4 (o_sI orc 3 1 (o_iload 5 (o_iload 4 (o_sI orc 5 1 (o_vI orc 64 5 5 (o_if0 (o_iconst 1 (o_zret)) (o_iconst 0 (o_zret))))))))))) (o_aload 0 (o_lload 1 (o_iload 3 (o_iload 5 (o_vI orc 68 4 5 (o_if0 (o_iconst 1 (o_zret)) (o_iconst 0 (o_zret))))))))))))))
    refine gk_iload h (by decide +kernel) ?_
    refine gk_sI (ca_s (idx := 117) h ho hm_4 (rd_le hrd (by decide)) (by decide +kernel) kw_397 kw_398 kw_99 kw_399 (by decide +kernel)) ?_
    refine gk_istore h (by decide +kernel) hxn (by decide) ?_
    refine gk_iload h (by decide +kernel) ?_
    refine gk_sI (ca_s (idx := 120) h ho hm_2 (rd_le hrd (by decide)) (by decide +kernel) kw_400 kw_401 kw_99 kw_402 (by decide +kernel)) ?_
    refine gk_ifeq (off := 20) (tgt := 32) h (by decide +kernel) (by decide) ?_ ?_
    · refine gk_aload_n (j := 0) h (by decide +kernel) rfl ?_
      refine gk_lload_n (j := 1) h (by decide +kernel) rfl ?_
      refine gk_iload h (by decide +kernel) ?_
      refine gk_sI (ca_s (idx := 128) h ho hm_3 (rd_le hrd (by decide)) (by decide +kernel) kw_420 kw_404 kw_99 kw_405 (by decide +kernel)) ?_
      refine gk_iload h (by decide +kernel) ?_
      refine gk_iload h (by decide +kernel) ?_
      refine gk_sI (ca_s (idx := 131) h ho hm_5 (rd_le hrd (by decide)) (by decide +kernel) kw_421 kw_422 kw_99 kw_423 (by decide +kernel)) ?_
      refine gk_vI (ca_v (idx := 134) h ho hm_64 (rd_le hrd (by decide)) ck_5 (by decide +kernel) kw_424 kw_425 kw_426 kw_97 kw_427 rfl (by decide +kernel) (by decide)) ?_
      refine gk_ifne (off := 7) (tgt := 56) h (by decide +kernel) (by decide) ?_ ?_
      · refine gk_iconst (n := 0) h (by decide +kernel) (by decide) ?_
        exact gk_zret h hR (by decide +kernel)
      · refine gk_iconst (n := 1) h (by decide +kernel) (by decide) ?_
        refine gk_goto (off := 4) (tgt := 57) h (by decide +kernel) (by decide) ?_
        exact gk_zret h hR (by decide +kernel)
    · refine gk_aload_n (j := 0) h (by decide +kernel) rfl ?_
      refine gk_lload_n (j := 1) h (by decide +kernel) rfl ?_
      refine gk_iload_n (j := 3) h (by decide +kernel) rfl ?_
      refine gk_iload h (by decide +kernel) ?_
      refine gk_vI (ca_v (idx := 124) h ho hm_68 (rd_le hrd (by decide)) ck_5 (by decide +kernel) kw_406 kw_407 kw_408 kw_97 kw_409 rfl (by decide +kernel) (by decide)) ?_
      refine gk_ifne (off := 7) (tgt := 30) h (by decide +kernel) (by decide) ?_ ?_
      · refine gk_iconst (n := 0) h (by decide +kernel) (by decide) ?_
        exact gk_zret h hR (by decide +kernel)
      · refine gk_iconst (n := 1) h (by decide +kernel) (by decide) ?_
        refine gk_goto (off := 4) (tgt := 31) h (by decide +kernel) (by decide) ?_
        exact gk_zret h hR (by decide +kernel)
  | _ + 1 => exact fun _ _ _ hr => hr.elim
set_option maxRecDepth 20000 in
set_option maxHeartbeats 4000000 in
theorem s_72 : MS mtab yX6_gather cX6_gather 7 (some .int) Q72 P72 := by
  intro X orc d h hR hnm hxn ho hrd b
  match b with
  | 0 =>
    show GK X Q72 0 (o_iconst 0 (o_istore 5 (o_iconst 0 (o_istore 6 (o_jmp 1)))))
    refine gk_iconst (n := 0) h (by decide +kernel) (by decide) ?_
    refine gk_istore h (by decide +kernel) hxn (by decide) ?_
    refine gk_iconst (n := 0) h (by decide +kernel) (by decide) ?_
    refine gk_istore h (by decide +kernel) hxn (by decide) ?_
    exact gk_jmp 1 rfl
  | 1 =>
    show GK X Q72 6 (o_iload 6 (o_aload 0 (o_getR 5 8 (o_alen (o_ilt (o_iload 5 (o_aload 4 (o_alen (o_ilt (o_aload 0 (o_lload 1 (o_iload 3 (o_aload 0 (o_getR 5 8 (o_iload 6 (o_iald 0 (o_vI orc 71 4 5 (o_if0 (o_jmp 2) (o_aload 4 (o_iload 5 (o_aload 0 (o_getR 5 8 (o_iload 6 (o_iald 0 (o_iast 0 (fun x => x) (o_iinc 5 1 (o_jmp 2)))))))))))))))))) (o_iload 5 (o_iret)))))) (o_iload 5 (o_iret)))))))
    refine gk_iload h (by decide +kernel) ?_
    refine gk_aload_n (j := 0) h (by decide +kernel) rfl ?_
    refine gk_getR (i := 62) h ck_5 (by decide) (fun _ _ _ => rfl) (by decide +kernel) kw_337 ?_
    refine gk_alen h (by decide +kernel) ?_
    refine gk_icmpge (off := 48) (tgt := 61) h (by decide +kernel) (by decide) ?_ ?_
    · refine gk_iload h (by decide +kernel) ?_
      exact gk_iret h hR (by decide +kernel)
    · refine gk_iload h (by decide +kernel) ?_
      refine gk_aload h (by decide +kernel) ?_
      refine gk_alen h (by decide +kernel) ?_
      refine gk_icmpge (off := 40) (tgt := 61) h (by decide +kernel) (by decide) ?_ ?_
      · refine gk_iload h (by decide +kernel) ?_
        exact gk_iret h hR (by decide +kernel)
      · refine gk_aload_n (j := 0) h (by decide +kernel) rfl ?_
        refine gk_lload_n (j := 1) h (by decide +kernel) rfl ?_
        refine gk_iload_n (j := 3) h (by decide +kernel) rfl ?_
        refine gk_aload_n (j := 0) h (by decide +kernel) rfl ?_
        refine gk_getR (i := 62) h ck_5 (by decide) (fun _ _ _ => rfl) (by decide +kernel) kw_337 ?_
        refine gk_iload h (by decide +kernel) ?_
        refine gk_ald0 h (by decide +kernel) ?_
        refine gk_vI (ca_v (idx := 138) h ho hm_71 (rd_le hrd (by decide)) ck_5 (by decide +kernel) kw_393 kw_394 kw_395 kw_97 kw_396 rfl (by decide +kernel) (by decide)) ?_
        refine gk_ifeq (off := 18) (tgt := 55) h (by decide +kernel) (by decide) ?_ ?_
        · exact gk_jmp 2 rfl
        · refine gk_aload h (by decide +kernel) ?_
          refine gk_iload h (by decide +kernel) ?_
          refine gk_aload_n (j := 0) h (by decide +kernel) rfl ?_
          refine gk_getR (i := 62) h ck_5 (by decide) (fun _ _ _ => rfl) (by decide +kernel) kw_337 ?_
          refine gk_iload h (by decide +kernel) ?_
          refine gk_ald0 h (by decide +kernel) ?_
          refine gk_ast0 h (by decide +kernel) ?_
          refine gk_iinc (z := 1) h (by decide +kernel) (by decide) hxn (by decide) ?_
          exact gk_jmp 2 rfl
  | 2 =>
    show GK X Q72 55 (o_iinc 6 1 (o_jmp 1))
    refine gk_iinc (z := 1) h (by decide +kernel) (by decide) hxn (by decide) ?_
    refine gk_goto (off := (-52)) (tgt := 6) h (by decide +kernel) (by decide) ?_
    exact gk_jmp 1 rfl
  | _ + 3 => exact fun _ _ _ hr => hr.elim
set_option maxRecDepth 20000 in
set_option maxHeartbeats 4000000 in
theorem s_73 : MS mtab yX6_after cX6_after 10 (some .long) Q73 P73 := by
  intro X orc d h hR hnm hxn ho hrd b
  match b with
  | 0 =>
    show GK X Q73 0 (o_iload 4 (o_sI orc 4 1 (o_istore 5 (o_iload 4 (o_sI orc 2 1 (o_if0 (o_lload 1 (o_iload 5 (o_sI orc 57 2 (o_iconst 1 (o_i2 (fun x y => x + y) (o_istore 6 (o_aload 0 (o_getR 5 4 (o_iload 4 (o_sI orc 3 1 (o_iald 0 (o_iconst 3 (o_ieq (o_aload 0 (o_iload 5 (o_vI orc 63 2 5 (o_istore 7 (o_lload 1 (o_iload 5 (o_iload 6 (o_sL orc 59 3 (o_iload 7 (o_lload 1 (o_iload 7 (o_sI orc 57 2 (o_iconst 1 (o_i2 (fun x y => x + y) (o_sL orc 59 3 (o_lret)))))))))))))))) (o_lload 1 (o_lstore 7 (o_iload 5 (o_istore 9 (o_jmp 1)))))))))))))))))) (o_lload 1 (o_iload 5 (o_iload 3 (o_sL orc 70 3 (o_lret)))))))))))
    refine gk_iload h (by decide +kernel) ?_
    refine gk_sI (ca_s (idx := 117) h ho hm_4 (rd_le hrd (by decide)) (by decide +kernel) kw_397 kw_398 kw_99 kw_399 (by decide +kernel)) ?_
    refine gk_istore h (by decide +kernel) hxn (by decide) ?_
    refine gk_iload h (by decide +kernel) ?_
    refine gk_sI (ca_s (idx := 120) h ho hm_2 (rd_le hrd (by decide)) (by decide +kernel) kw_400 kw_401 kw_99 kw_402 (by decide +kernel)) ?_
    refine gk_ifeq (off := 11) (tgt := 23) h (by decide +kernel) (by decide) ?_ ?_
    · refine gk_lload_n (j := 1) h (by decide +kernel) rfl ?_
      refine gk_iload h (by decide +kernel) ?_
      refine gk_sI (ca_s (idx := 107) h ho hm_57 (rd_le hrd (by decide)) (by decide +kernel) kw_417 kw_418 kw_97 kw_419 (by decide +kernel)) ?_
      refine gk_iconst (n := 1) h (by decide +kernel) (by decide) ?_
      refine gk_iadd h (by decide +kernel) ?_
      refine gk_istore h (by decide +kernel) hxn (by decide) ?_
      refine gk_aload_n (j := 0) h (by decide +kernel) rfl ?_
      refine gk_getR (i := 39) h ck_5 (by decide) (fun _ _ _ => rfl) (by decide +kernel) kw_328 ?_
      refine gk_iload h (by decide +kernel) ?_
      refine gk_sI (ca_s (idx := 128) h ho hm_3 (rd_le hrd (by decide)) (by decide +kernel) kw_420 kw_404 kw_99 kw_405 (by decide +kernel)) ?_
      refine gk_ald0 h (by decide +kernel) ?_
      refine gk_iconst (n := 3) h (by decide +kernel) (by decide) ?_
      refine gk_icmpne (off := 33) (tgt := 77) h (by decide +kernel) (by decide) ?_ ?_
      · refine gk_lload_n (j := 1) h (by decide +kernel) rfl ?_
        refine gk_lstore h (by decide +kernel) hxn (by decide) ?_
        refine gk_iload h (by decide +kernel) ?_
        refine gk_istore h (by decide +kernel) hxn (by decide) ?_
        exact gk_jmp 1 rfl
      · refine gk_aload_n (j := 0) h (by decide +kernel) rfl ?_
        refine gk_iload h (by decide +kernel) ?_
        refine gk_vI (ca_v (idx := 89) h ho hm_63 (rd_le hrd (by decide)) ck_5 (by decide +kernel) kw_310 kw_311 kw_312 kw_97 kw_313 rfl (by decide +kernel) (by decide)) ?_
        refine gk_istore h (by decide +kernel) hxn (by decide) ?_
        refine gk_lload_n (j := 1) h (by decide +kernel) rfl ?_
        refine gk_iload h (by decide +kernel) ?_
        refine gk_iload h (by decide +kernel) ?_
        refine gk_sL (ca_s (idx := 113) h ho hm_59 (rd_le hrd (by decide)) (by decide +kernel) kw_676 kw_677 kw_97 kw_678 (by decide +kernel)) ?_
        refine gk_iload h (by decide +kernel) ?_
        refine gk_lload_n (j := 1) h (by decide +kernel) rfl ?_
        refine gk_iload h (by decide +kernel) ?_
        refine gk_sI (ca_s (idx := 107) h ho hm_57 (rd_le hrd (by decide)) (by decide +kernel) kw_417 kw_418 kw_97 kw_419 (by decide +kernel)) ?_
        refine gk_iconst (n := 1) h (by decide +kernel) (by decide) ?_
        refine gk_iadd h (by decide +kernel) ?_
        refine gk_sL (ca_s (idx := 113) h ho hm_59 (rd_le hrd (by decide)) (by decide +kernel) kw_676 kw_677 kw_97 kw_678 (by decide +kernel)) ?_
        exact gk_lret h hR (by decide +kernel)
    · refine gk_lload_n (j := 1) h (by decide +kernel) rfl ?_
      refine gk_iload h (by decide +kernel) ?_
      refine gk_iload_n (j := 3) h (by decide +kernel) rfl ?_
      refine gk_sL (ca_s (idx := 141) h ho hm_70 (rd_le hrd (by decide)) (by decide +kernel) kw_673 kw_674 kw_97 kw_675 (by decide +kernel)) ?_
      exact gk_lret h hR (by decide +kernel)
  | 1 =>
    show GK X Q73 84 (o_iload 9 (o_iload 5 (o_iload 4 (o_sI orc 5 1 (o_i2 (fun x y => x + y) (o_ilt (o_lload 7 (o_iload 9 (o_iload 6 (o_sL orc 59 3 (o_lstore 7 (o_iinc 9 1 (o_jmp 1))))))) (o_lload 7 (o_lret))))))))
    refine gk_iload h (by decide +kernel) ?_
    refine gk_iload h (by decide +kernel) ?_
    refine gk_iload h (by decide +kernel) ?_
    refine gk_sI (ca_s (idx := 131) h ho hm_5 (rd_le hrd (by decide)) (by decide +kernel) kw_421 kw_422 kw_99 kw_423 (by decide +kernel)) ?_
    refine gk_iadd h (by decide +kernel) ?_
    refine gk_icmpge (off := 20) (tgt := 114) h (by decide +kernel) (by decide) ?_ ?_
    · refine gk_lload h (by decide +kernel) ?_
      exact gk_lret h hR (by decide +kernel)
    · refine gk_lload h (by decide +kernel) ?_
      refine gk_iload h (by decide +kernel) ?_
      refine gk_iload h (by decide +kernel) ?_
      refine gk_sL (ca_s (idx := 113) h ho hm_59 (rd_le hrd (by decide)) (by decide +kernel) kw_676 kw_677 kw_97 kw_678 (by decide +kernel)) ?_
      refine gk_lstore h (by decide +kernel) hxn (by decide) ?_
      refine gk_iinc (z := 1) h (by decide +kernel) (by decide) hxn (by decide) ?_
      refine gk_goto (off := (-27)) (tgt := 84) h (by decide +kernel) (by decide) ?_
      exact gk_jmp 1 rfl
  | _ + 2 => exact fun _ _ _ hr => hr.elim
set_option maxRecDepth 20000 in
set_option maxHeartbeats 4000000 in
theorem s_74 : MS mtab yX6_isClosed cX6_isClosed 4 (some .boolean) Q74 P74 := by
  intro X orc d h hR hnm hxn ho hrd b
  match b with
  | 0 =>
    show GK X Q74 0 (o_iconst 0 (o_istore 3 (o_jmp 1)))
    refine gk_iconst (n := 0) h (by decide +kernel) (by decide) ?_
    refine gk_istore_n (j := 3) h (by decide +kernel) rfl hxn (by decide) ?_
    exact gk_jmp 1 rfl
  | 1 =>
    show GK X Q74 2 (o_iload 3 (o_aload 0 (o_getI 5 0 (o_ilt (o_lload 1 (o_iload 3 (o_sI orc 58 2 (o_iconst (-1) (o_ieq (o_lload 1 (o_iload 3 (o_sI orc 57 2 (o_aload 0 (o_getI 5 1 (o_ilt (o_iconst 0 (o_zret)) (o_jmp 2))))))) (o_jmp 2)))))) (o_iconst 1 (o_zret))))))
    refine gk_iload_n (j := 3) h (by decide +kernel) rfl ?_
    refine gk_aload_n (j := 0) h (by decide +kernel) rfl ?_
    refine gk_getI (i := 15) h ck_5 (by decide) (fun _ _ _ => rfl) (by decide +kernel) kw_321 ?_
    refine gk_icmpge (off := 32) (tgt := 39) h (by decide +kernel) (by decide) ?_ ?_
    · refine gk_iconst (n := 1) h (by decide +kernel) (by decide) ?_
      exact gk_zret h hR (by decide +kernel)
    · refine gk_lload_n (j := 1) h (by decide +kernel) rfl ?_
      refine gk_iload_n (j := 3) h (by decide +kernel) rfl ?_
      refine gk_sI (ca_s (idx := 104) h ho hm_58 (rd_le hrd (by decide)) (by decide +kernel) kw_414 kw_415 kw_97 kw_416 (by decide +kernel)) ?_
      refine gk_iconst (n := (-1)) h (by decide +kernel) (by decide) ?_
      refine gk_icmpne (off := 17) (tgt := 33) h (by decide +kernel) (by decide) ?_ ?_
      · exact gk_jmp 2 rfl
      · refine gk_lload_n (j := 1) h (by decide +kernel) rfl ?_
        refine gk_iload_n (j := 3) h (by decide +kernel) rfl ?_
        refine gk_sI (ca_s (idx := 107) h ho hm_57 (rd_le hrd (by decide)) (by decide +kernel) kw_417 kw_418 kw_97 kw_419 (by decide +kernel)) ?_
        refine gk_aload_n (j := 0) h (by decide +kernel) rfl ?_
        refine gk_getI (i := 21) h ck_5 (by decide) (fun _ _ _ => rfl) (by decide +kernel) kw_323 ?_
        refine gk_icmpge (off := 5) (tgt := 33) h (by decide +kernel) (by decide) ?_ ?_
        · exact gk_jmp 2 rfl
        · refine gk_iconst (n := 0) h (by decide +kernel) (by decide) ?_
          exact gk_zret h hR (by decide +kernel)
  | 2 =>
    show GK X Q74 33 (o_iinc 3 1 (o_jmp 1))
    refine gk_iinc (z := 1) h (by decide +kernel) (by decide) hxn (by decide) ?_
    refine gk_goto (off := (-34)) (tgt := 2) h (by decide +kernel) (by decide) ?_
    exact gk_jmp 1 rfl
  | _ + 3 => exact fun _ _ _ hr => hr.elim
set_option maxRecDepth 20000 in
set_option maxHeartbeats 4000000 in
theorem s_75 : MS mtab yX6_payer cX6_payer 4 (some .int) Q75 P75 := by
  intro X orc d h hR hnm hxn ho hrd b
  match b with
  | 0 =>
    show GK X Q75 0 (o_aload 0 (o_lload 1 (o_vI orc 74 2 5 (o_if0 (o_iload 3 (o_iret)) (o_iconst 1 (o_iload 3 (o_i2 (fun x y => x - y) (o_iret))))))))
    refine gk_aload_n (j := 0) h (by decide +kernel) rfl ?_
    refine gk_lload_n (j := 1) h (by decide +kernel) rfl ?_
    refine gk_vI (ca_v (idx := 144) h ho hm_74 (rd_le hrd (by decide)) ck_5 (by decide +kernel) kw_751 kw_752 kw_753 kw_97 kw_754 rfl (by decide +kernel) (by decide)) ?_
    refine gk_ifeq (off := 9) (tgt := 14) h (by decide +kernel) (by decide) ?_ ?_
    · refine gk_iload_n (j := 3) h (by decide +kernel) rfl ?_
      exact gk_iret h hR (by decide +kernel)
    · refine gk_iconst (n := 1) h (by decide +kernel) (by decide) ?_
      refine gk_iload_n (j := 3) h (by decide +kernel) rfl ?_
      refine gk_isub h (by decide +kernel) ?_
      refine gk_goto (off := 4) (tgt := 15) h (by decide +kernel) (by decide) ?_
      exact gk_iret h hR (by decide +kernel)
  | _ + 1 => exact fun _ _ _ hr => hr.elim
set_option maxRecDepth 20000 in
set_option maxHeartbeats 4000000 in
theorem s_76 : MS mtab yX6_numberOf cX6_numberOf 6 (some .int) Q76 P76 := by
  intro X orc d h hR hnm hxn ho hrd b
  match b with
  | 0 =>
    show GK X Q76 0 (o_iconst 0 (o_istore 3 (o_aload 0 (o_getI 5 0 (o_iconst 1 (o_i2 (fun x y => x - y) (o_istore 4 (o_jmp 1))))))))
    refine gk_iconst (n := 0) h (by decide +kernel) (by decide) ?_
    refine gk_istore_n (j := 3) h (by decide +kernel) rfl hxn (by decide) ?_
    refine gk_aload_n (j := 0) h (by decide +kernel) rfl ?_
    refine gk_getI (i := 15) h ck_5 (by decide) (fun _ _ _ => rfl) (by decide +kernel) kw_321 ?_
    refine gk_iconst (n := 1) h (by decide +kernel) (by decide) ?_
    refine gk_isub h (by decide +kernel) ?_
    refine gk_istore h (by decide +kernel) hxn (by decide) ?_
    exact gk_jmp 1 rfl
  | 1 =>
    show GK X Q76 10 (o_iload 4 (o_ifn (o_iload 3 (o_iret)) (o_lload 1 (o_iload 4 (o_sI orc 58 2 (o_istore 5 (o_iload 3 (o_aload 0 (o_getI 5 1 (o_iconst 3 (o_i2 (fun x y => x + y) (o_i2 (fun x y => x * y) (o_iload 5 (o_iconst (-1) (o_ieq (o_lload 1 (o_iload 4 (o_sI orc 57 2 (o_jmp 2)))) (o_aload 0 (o_getI 5 1 (o_iconst 1 (o_i2 (fun x y => x + y) (o_iload 5 (o_i2 (fun x y => x + y) (o_jmp 2))))))))))))))))))))))
    refine gk_iload h (by decide +kernel) ?_
    refine gk_iflt (off := 51) (tgt := 63) h (by decide +kernel) (by decide) ?_ ?_
    · refine gk_iload_n (j := 3) h (by decide +kernel) rfl ?_
      exact gk_iret h hR (by decide +kernel)
    · refine gk_lload_n (j := 1) h (by decide +kernel) rfl ?_
      refine gk_iload h (by decide +kernel) ?_
      refine gk_sI (ca_s (idx := 104) h ho hm_58 (rd_le hrd (by decide)) (by decide +kernel) kw_414 kw_415 kw_97 kw_416 (by decide +kernel)) ?_
      refine gk_istore h (by decide +kernel) hxn (by decide) ?_
      refine gk_iload_n (j := 3) h (by decide +kernel) rfl ?_
      refine gk_aload_n (j := 0) h (by decide +kernel) rfl ?_
      refine gk_getI (i := 21) h ck_5 (by decide) (fun _ _ _ => rfl) (by decide +kernel) kw_323 ?_
      refine gk_iconst (n := 3) h (by decide +kernel) (by decide) ?_
      refine gk_iadd h (by decide +kernel) ?_
      refine gk_imul h (by decide +kernel) ?_
      refine gk_iload h (by decide +kernel) ?_
      refine gk_iconst (n := (-1)) h (by decide +kernel) (by decide) ?_
      refine gk_icmpne (off := 12) (tgt := 46) h (by decide +kernel) (by decide) ?_ ?_
      · refine gk_aload_n (j := 0) h (by decide +kernel) rfl ?_
        refine gk_getI (i := 21) h ck_5 (by decide) (fun _ _ _ => rfl) (by decide +kernel) kw_323 ?_
        refine gk_iconst (n := 1) h (by decide +kernel) (by decide) ?_
        refine gk_iadd h (by decide +kernel) ?_
        refine gk_iload h (by decide +kernel) ?_
        refine gk_iadd h (by decide +kernel) ?_
        exact gk_jmp 2 rfl
      · refine gk_lload_n (j := 1) h (by decide +kernel) rfl ?_
        refine gk_iload h (by decide +kernel) ?_
        refine gk_sI (ca_s (idx := 107) h ho hm_57 (rd_le hrd (by decide)) (by decide +kernel) kw_417 kw_418 kw_97 kw_419 (by decide +kernel)) ?_
        refine gk_goto (off := 12) (tgt := 55) h (by decide +kernel) (by decide) ?_
        exact gk_jmp 2 rfl
  | 2 =>
    show GK X Q76 55 (o_i2 (fun x y => x + y) (o_istore 3 (o_iinc 4 (-1) (o_jmp 1))))
    refine gk_iadd h (by decide +kernel) ?_
    refine gk_istore_n (j := 3) h (by decide +kernel) rfl hxn (by decide) ?_
    refine gk_iinc (z := (-1)) h (by decide +kernel) (by decide) hxn (by decide) ?_
    refine gk_goto (off := (-50)) (tgt := 10) h (by decide +kernel) (by decide) ?_
    exact gk_jmp 1 rfl
  | _ + 3 => exact fun _ _ _ hr => hr.elim
set_option maxRecDepth 20000 in
set_option maxHeartbeats 4000000 in
theorem s_77 : MS mtab yX6_numberOfLooks cX6_numberOfLooks 6 (some .int) Q77 P77 := by
  intro X orc d h hR hnm hxn ho hrd b
  match b with
  | 0 =>
    show GK X Q77 0 (o_iconst 0 (o_istore 3 (o_aload 0 (o_getI 5 0 (o_iconst 1 (o_i2 (fun x y => x - y) (o_istore 4 (o_jmp 1))))))))
    refine gk_iconst (n := 0) h (by decide +kernel) (by decide) ?_
    refine gk_istore_n (j := 3) h (by decide +kernel) rfl hxn (by decide) ?_
    refine gk_aload_n (j := 0) h (by decide +kernel) rfl ?_
    refine gk_getI (i := 15) h ck_5 (by decide) (fun _ _ _ => rfl) (by decide +kernel) kw_321 ?_
    refine gk_iconst (n := 1) h (by decide +kernel) (by decide) ?_
    refine gk_isub h (by decide +kernel) ?_
    refine gk_istore h (by decide +kernel) hxn (by decide) ?_
    exact gk_jmp 1 rfl
  | 1 =>
    show GK X Q77 10 (o_iload 4 (o_ifn (o_iload 3 (o_iret)) (o_lload 1 (o_iload 4 (o_sI orc 58 2 (o_iconst (-1) (o_ieq (o_iconst 0 (o_jmp 2)) (o_iconst 1 (o_jmp 2)))))))))
    refine gk_iload h (by decide +kernel) ?_
    refine gk_iflt (off := 56) (tgt := 68) h (by decide +kernel) (by decide) ?_ ?_
    · refine gk_iload_n (j := 3) h (by decide +kernel) rfl ?_
      exact gk_iret h hR (by decide +kernel)
    · refine gk_lload_n (j := 1) h (by decide +kernel) rfl ?_
      refine gk_iload h (by decide +kernel) ?_
      refine gk_sI (ca_s (idx := 104) h ho hm_58 (rd_le hrd (by decide)) (by decide +kernel) kw_414 kw_415 kw_97 kw_416 (by decide +kernel)) ?_
      refine gk_iconst (n := (-1)) h (by decide +kernel) (by decide) ?_
      refine gk_icmpeq (off := 7) (tgt := 29) h (by decide +kernel) (by decide) ?_ ?_
      · refine gk_iconst (n := 0) h (by decide +kernel) (by decide) ?_
        exact gk_jmp 2 rfl
      · refine gk_iconst (n := 1) h (by decide +kernel) (by decide) ?_
        refine gk_goto (off := 4) (tgt := 30) h (by decide +kernel) (by decide) ?_
        exact gk_jmp 2 rfl
  | 2 =>
    show GK X Q77 30 (o_istore 5 (o_iload 3 (o_aload 0 (o_getI 5 1 (o_iconst 3 (o_i2 (fun x y => x + y) (o_i2 (fun x y => x * y) (o_iload 5 (o_if0 (o_lload 1 (o_iload 4 (o_sI orc 57 2 (o_jmp 3)))) (o_aload 0 (o_getI 5 1 (o_iconst 1 (o_i2 (fun x y => x + y) (o_jmp 3))))))))))))))
    refine gk_istore h (by decide +kernel) hxn (by decide) ?_
    refine gk_iload_n (j := 3) h (by decide +kernel) rfl ?_
    refine gk_aload_n (j := 0) h (by decide +kernel) rfl ?_
    refine gk_getI (i := 21) h ck_5 (by decide) (fun _ _ _ => rfl) (by decide +kernel) kw_323 ?_
    refine gk_iconst (n := 3) h (by decide +kernel) (by decide) ?_
    refine gk_iadd h (by decide +kernel) ?_
    refine gk_imul h (by decide +kernel) ?_
    refine gk_iload h (by decide +kernel) ?_
    refine gk_ifeq (off := 12) (tgt := 54) h (by decide +kernel) (by decide) ?_ ?_
    · refine gk_lload_n (j := 1) h (by decide +kernel) rfl ?_
      refine gk_iload h (by decide +kernel) ?_
      refine gk_sI (ca_s (idx := 107) h ho hm_57 (rd_le hrd (by decide)) (by decide +kernel) kw_417 kw_418 kw_97 kw_419 (by decide +kernel)) ?_
      exact gk_jmp 3 rfl
    · refine gk_aload_n (j := 0) h (by decide +kernel) rfl ?_
      refine gk_getI (i := 21) h ck_5 (by decide) (fun _ _ _ => rfl) (by decide +kernel) kw_323 ?_
      refine gk_iconst (n := 1) h (by decide +kernel) (by decide) ?_
      refine gk_iadd h (by decide +kernel) ?_
      refine gk_goto (off := 9) (tgt := 60) h (by decide +kernel) (by decide) ?_
      exact gk_jmp 3 rfl
  | 3 =>
    show GK X Q77 60 (o_i2 (fun x y => x + y) (o_istore 3 (o_iinc 4 (-1) (o_jmp 1))))
    refine gk_iadd h (by decide +kernel) ?_
    refine gk_istore_n (j := 3) h (by decide +kernel) rfl hxn (by decide) ?_
    refine gk_iinc (z := (-1)) h (by decide +kernel) (by decide) hxn (by decide) ?_
    refine gk_goto (off := (-55)) (tgt := 10) h (by decide +kernel) (by decide) ?_
    exact gk_jmp 1 rfl
  | _ + 4 => exact fun _ _ _ hr => hr.elim
set_option maxRecDepth 20000 in
set_option maxHeartbeats 4000000 in
theorem s_78 : MS mtab yX6_wallOf cX6_wallOf 8 (some .long) Q78 P78 := by
  intro X orc d h hR hnm hxn ho hrd b
  match b with
  | 0 =>
    show GK X Q78 0 (o_lconst 0 (o_lstore 2 (o_iload 1 (o_istore 4 (o_iconst 0 (o_istore 5 (o_jmp 1)))))))
    refine gk_lconst (n := 0) h (by decide +kernel) rfl ?_
    refine gk_lstore_n (j := 2) h (by decide +kernel) rfl hxn (by decide) ?_
    refine gk_iload_n (j := 1) h (by decide +kernel) rfl ?_
    refine gk_istore h (by decide +kernel) hxn (by decide) ?_
    refine gk_iconst (n := 0) h (by decide +kernel) (by decide) ?_
    refine gk_istore h (by decide +kernel) hxn (by decide) ?_
    exact gk_jmp 1 rfl
  | 1 =>
    show GK X Q78 8 (o_iload 5 (o_aload 0 (o_getI 5 0 (o_ilt (o_iload 4 (o_aload 0 (o_getI 5 1 (o_iconst 3 (o_i2 (fun x y => x + y) (o_i2z (fun x y => x - x / y * y) (o_istore 6 (o_iload 4 (o_aload 0 (o_getI 5 1 (o_iconst 3 (o_i2 (fun x y => x + y) (o_i2z (fun x y => x / y) (o_istore 4 (o_iload 6 (o_aload 0 (o_getI 5 1 (o_igt (o_iconst 1 (o_jmp 2)) (o_iconst 0 (o_jmp 2)))))))))))))))))))) (o_lload 2 (o_lret))))))
    refine gk_iload h (by decide +kernel) ?_
    refine gk_aload_n (j := 0) h (by decide +kernel) rfl ?_
    refine gk_getI (i := 15) h ck_5 (by decide) (fun _ _ _ => rfl) (by decide +kernel) kw_321 ?_
    refine gk_icmpge (off := 79) (tgt := 93) h (by decide +kernel) (by decide) ?_ ?_
    · refine gk_lload_n (j := 2) h (by decide +kernel) rfl ?_
      exact gk_lret h hR (by decide +kernel)
    · refine gk_iload h (by decide +kernel) ?_
      refine gk_aload_n (j := 0) h (by decide +kernel) rfl ?_
      refine gk_getI (i := 21) h ck_5 (by decide) (fun _ _ _ => rfl) (by decide +kernel) kw_323 ?_
      refine gk_iconst (n := 3) h (by decide +kernel) (by decide) ?_
      refine gk_iadd h (by decide +kernel) ?_
      refine gk_irem h (by decide +kernel) ?_
      refine gk_istore h (by decide +kernel) hxn (by decide) ?_
      refine gk_iload h (by decide +kernel) ?_
      refine gk_aload_n (j := 0) h (by decide +kernel) rfl ?_
      refine gk_getI (i := 21) h ck_5 (by decide) (fun _ _ _ => rfl) (by decide +kernel) kw_323 ?_
      refine gk_iconst (n := 3) h (by decide +kernel) (by decide) ?_
      refine gk_iadd h (by decide +kernel) ?_
      refine gk_idiv h (by decide +kernel) ?_
      refine gk_istore h (by decide +kernel) hxn (by decide) ?_
      refine gk_iload h (by decide +kernel) ?_
      refine gk_aload_n (j := 0) h (by decide +kernel) rfl ?_
      refine gk_getI (i := 21) h ck_5 (by decide) (fun _ _ _ => rfl) (by decide +kernel) kw_323 ?_
      refine gk_icmple (off := 7) (tgt := 52) h (by decide +kernel) (by decide) ?_ ?_
      · refine gk_iconst (n := 0) h (by decide +kernel) (by decide) ?_
        exact gk_jmp 2 rfl
      · refine gk_iconst (n := 1) h (by decide +kernel) (by decide) ?_
        refine gk_goto (off := 4) (tgt := 53) h (by decide +kernel) (by decide) ?_
        exact gk_jmp 2 rfl
  | 2 =>
    show GK X Q78 53 (o_istore 7 (o_iload 7 (o_if0 (o_lload 2 (o_iload 5 (o_iload 6 (o_sL orc 59 3 (o_jmp 3))))) (o_lload 2 (o_iload 5 (o_iload 6 (o_aload 0 (o_getI 5 1 (o_i2 (fun x y => x - y) (o_iconst 1 (o_i2 (fun x y => x - y) (o_sL orc 70 3 (o_jmp 3)))))))))))))
    refine gk_istore h (by decide +kernel) hxn (by decide) ?_
    refine gk_iload h (by decide +kernel) ?_
    refine gk_ifeq (off := 21) (tgt := 78) h (by decide +kernel) (by decide) ?_ ?_
    · refine gk_lload_n (j := 2) h (by decide +kernel) rfl ?_
      refine gk_iload h (by decide +kernel) ?_
      refine gk_iload h (by decide +kernel) ?_
      refine gk_sL (ca_s (idx := 113) h ho hm_59 (rd_le hrd (by decide)) (by decide +kernel) kw_676 kw_677 kw_97 kw_678 (by decide +kernel)) ?_
      exact gk_jmp 3 rfl
    · refine gk_lload_n (j := 2) h (by decide +kernel) rfl ?_
      refine gk_iload h (by decide +kernel) ?_
      refine gk_iload h (by decide +kernel) ?_
      refine gk_aload_n (j := 0) h (by decide +kernel) rfl ?_
      refine gk_getI (i := 21) h ck_5 (by decide) (fun _ _ _ => rfl) (by decide +kernel) kw_323 ?_
      refine gk_isub h (by decide +kernel) ?_
      refine gk_iconst (n := 1) h (by decide +kernel) (by decide) ?_
      refine gk_isub h (by decide +kernel) ?_
      refine gk_sL (ca_s (idx := 141) h ho hm_70 (rd_le hrd (by decide)) (by decide +kernel) kw_673 kw_674 kw_97 kw_675 (by decide +kernel)) ?_
      refine gk_goto (off := 11) (tgt := 86) h (by decide +kernel) (by decide) ?_
      exact gk_jmp 3 rfl
  | 3 =>
    show GK X Q78 86 (o_lstore 2 (o_iinc 5 1 (o_jmp 1)))
    refine gk_lstore_n (j := 2) h (by decide +kernel) rfl hxn (by decide) ?_
    refine gk_iinc (z := 1) h (by decide +kernel) (by decide) hxn (by decide) ?_
    refine gk_goto (off := (-82)) (tgt := 8) h (by decide +kernel) (by decide) ?_
    exact gk_jmp 1 rfl
  | _ + 4 => exact fun _ _ _ hr => hr.elim
