set_option maxRecDepth 20000 in
set_option maxHeartbeats 4000000 in
theorem s_104 : MS mtab yX8_mark cX8_mark 4 (some .boolean) Q104 P104 := by
  intro X orc d h hR hnm hxn ho hrd b
  match b with
  | 0 =>
    show GK X Q104 0 (o_iload 1 (o_ifn (o_iconst 0 (o_zret)) (o_iload 1 (o_aload 0 (o_getR 7 5 (o_alen (o_ilt (o_aload 0 (o_getR 7 5 (o_iload 1 (o_aald (o_astore 3 (o_iload 2 (o_if0 (o_aload 3 (o_aload 0 (o_getR 7 3 (o_aload 0 (o_getR 7 4 (o_vV orc 7 3 0 (o_iconst 1 (o_zret)))))))) (o_aload 3 (o_getR 0 0 (o_ifnull (o_iconst 0 (o_zret)) (o_aload 0 (o_aload 3 (o_getR 0 0 (o_putR 7 3 (o_aload 0 (o_getR 7 4 (o_aload 3 (o_getR 0 1 (o_vV orc 52 2 4 (o_aload 0 (o_getR 7 4 (o_aload 0 (o_getR 7 3 (o_aload 3 (o_getI 0 2 (o_vV orc 53 3 4 (o_aload 0 (o_vV orc 107 1 7 (o_iconst 1 (o_zret)))))))))))))))))))))))))))))) (o_iconst 0 (o_zret)))))))))
    refine gk_iload_n (j := 1) h (by decide +kernel) rfl ?_
    refine gk_iflt (off := 12) (tgt := 13) h (by decide +kernel) (by decide) ?_ ?_
    · refine gk_iconst (n := 0) h (by decide +kernel) (by decide) ?_
      exact gk_zret h hR (by decide +kernel)
    · refine gk_iload_n (j := 1) h (by decide +kernel) rfl ?_
      refine gk_aload_n (j := 0) h (by decide +kernel) rfl ?_
      refine gk_getR (i := 33) h ck_7 (by decide) (fun _ _ _ => rfl) (by decide +kernel) kw_445 ?_
      refine gk_alen h (by decide +kernel) ?_
      refine gk_icmplt (off := 5) (tgt := 15) h (by decide +kernel) (by decide) ?_ ?_
      · refine gk_aload_n (j := 0) h (by decide +kernel) rfl ?_
        refine gk_getR (i := 33) h ck_7 (by decide) (fun _ _ _ => rfl) (by decide +kernel) kw_445 ?_
        refine gk_iload_n (j := 1) h (by decide +kernel) rfl ?_
        refine gk_aald h (by decide +kernel) ?_
        refine gk_astore_n (j := 3) h (by decide +kernel) rfl hxn (by decide) ?_
        refine gk_iload_n (j := 2) h (by decide +kernel) rfl ?_
        refine gk_ifne (off := 17) (tgt := 40) h (by decide +kernel) (by decide) ?_ ?_
        · refine gk_aload_n (j := 3) h (by decide +kernel) rfl ?_
          refine gk_getR (i := 256) h ck_0 (by decide) (fun _ _ _ => rfl) (by decide +kernel) kw_369 ?_
          refine gk_ifnonnull (off := 5) (tgt := 49) h (by decide +kernel) (by decide) ?_ ?_
          · refine gk_aload_n (j := 0) h (by decide +kernel) rfl ?_
            refine gk_aload_n (j := 3) h (by decide +kernel) rfl ?_
            refine gk_getR (i := 256) h ck_0 (by decide) (fun _ _ _ => rfl) (by decide +kernel) kw_369 ?_
            refine gk_putR (i := 70) h ck_7 (by decide) (Or.inl ⟨_, rfl⟩) (Or.inl rfl) (by decide +kernel) kw_443 ?_
            refine gk_aload_n (j := 0) h (by decide +kernel) rfl ?_
            refine gk_getR (i := 27) h ck_7 (by decide) (fun _ _ _ => rfl) (by decide +kernel) kw_444 ?_
            refine gk_aload_n (j := 3) h (by decide +kernel) rfl ?_
            refine gk_getR (i := 257) h ck_0 (by decide) (fun _ _ _ => rfl) (by decide +kernel) kw_371 ?_
            refine gk_vV (ca_v (idx := 260) h ho hm_52 (rd_le hrd (by decide)) ck_4 (by decide +kernel) kw_863 kw_864 kw_865 kw_93 kw_866 rfl (by decide +kernel) (by decide)) ?_
            refine gk_aload_n (j := 0) h (by decide +kernel) rfl ?_
            refine gk_getR (i := 27) h ck_7 (by decide) (fun _ _ _ => rfl) (by decide +kernel) kw_444 ?_
            refine gk_aload_n (j := 0) h (by decide +kernel) rfl ?_
            refine gk_getR (i := 70) h ck_7 (by decide) (fun _ _ _ => rfl) (by decide +kernel) kw_443 ?_
            refine gk_aload_n (j := 3) h (by decide +kernel) rfl ?_
            refine gk_getI (i := 264) h ck_0 (by decide) (fun _ _ _ => rfl) (by decide +kernel) kw_373 ?_
            refine gk_vV (ca_v (idx := 137) h ho hm_53 (rd_le hrd (by decide)) ck_4 (by decide +kernel) kw_696 kw_697 kw_698 kw_93 kw_699 rfl (by decide +kernel) (by decide)) ?_
            refine gk_aload_n (j := 0) h (by decide +kernel) rfl ?_
            refine gk_vV (ca_v (idx := 78) h ho hm_107 (rd_le hrd (by decide)) ck_7 (by decide +kernel) kw_381 kw_383 kw_1 kw_91 kw_384 rfl (by decide +kernel) (by decide)) ?_
            refine gk_iconst (n := 1) h (by decide +kernel) (by decide) ?_
            exact gk_zret h hR (by decide +kernel)
          · refine gk_iconst (n := 0) h (by decide +kernel) (by decide) ?_
            exact gk_zret h hR (by decide +kernel)
        · refine gk_aload_n (j := 3) h (by decide +kernel) rfl ?_
          refine gk_aload_n (j := 0) h (by decide +kernel) rfl ?_
          refine gk_getR (i := 70) h ck_7 (by decide) (fun _ _ _ => rfl) (by decide +kernel) kw_443 ?_
          refine gk_aload_n (j := 0) h (by decide +kernel) rfl ?_
          refine gk_getR (i := 27) h ck_7 (by decide) (fun _ _ _ => rfl) (by decide +kernel) kw_444 ?_
          refine gk_vV (ca_v (idx := 252) h ho hm_7 (rd_le hrd (by decide)) ck_0 (by decide +kernel) kw_858 kw_859 kw_860 kw_100 kw_861 rfl (by decide +kernel) (by decide)) ?_
          refine gk_iconst (n := 1) h (by decide +kernel) (by decide) ?_
          exact gk_zret h hR (by decide +kernel)
      · refine gk_iconst (n := 0) h (by decide +kernel) (by decide) ?_
        exact gk_zret h hR (by decide +kernel)
  | _ + 1 => exact fun _ _ _ hr => hr.elim
theorem so_X8_count_1 {α : Type} {a0 a1 a2 a3 a4 a5 : α} (x : Int32) (hx : ∀ q ∈ ([(0, a0), (1, a1), (2, a2), (3, a3), (4, a4), (5, a5)] : List (Int32 × α)), x ≠ q.1) : x.toInt < 0 ∨ 5 < x.toInt := by
  simp only [List.mem_cons, List.not_mem_nil, or_false, forall_eq_or_imp, forall_eq] at hx
  simp only [ne_eq, ← Int32.toInt_inj] at hx
  simp at hx
  omega
set_option maxRecDepth 20000 in
set_option maxHeartbeats 4000000 in
theorem s_105 : MS mtab yX8_count cX8_count 2 (some .int) Q105 P105 := by
  intro X orc d h hR hnm hxn ho hrd b
  match b with
  | 0 =>
    show GK X Q105 0 (o_iload 1 (o_sw [(0, o_aload 0 (o_getR 7 3 (o_getI 5 0 (o_iret)))), (1, o_aload 0 (o_getR 7 3 (o_getI 5 1 (o_iret)))), (2, o_aload 0 (o_getR 7 3 (o_getI 5 3 (o_iret)))), (3, o_aload 0 (o_getR 7 3 (o_getI 5 7 (o_if0 (o_iconst 0 (o_iret)) (o_iconst 1 (o_iret)))))), (4, o_aload 0 (o_getR 7 4 (o_getI 4 1 (o_iret)))), (5, o_aload 0 (o_getI 7 1 (o_iret)))] (o_iconst (-1) (o_iret))))
    refine gk_iload_n (j := 1) h (by decide +kernel) rfl ?_
    refine gk_tsw (dflt := 92) (lo := 0) (hi := 5) (offs := #[39, 47, 55, 63, 79, 87]) (len := 39) (td := 93) h (by decide +kernel) (by decide) ?_ ?_ (by intro x hx; exact so_X8_count_1 x hx)
    · refine gk_iconst (n := (-1)) h (by decide +kernel) (by decide) ?_
      exact gk_iret h hR (by decide +kernel)
    · intro q hq
      simp only [List.mem_cons, List.not_mem_nil, or_false] at hq
      rcases hq with rfl | rfl | rfl | rfl | rfl | rfl
      · refine ⟨40, 39, by dsimp only; decide, by dsimp only; decide, by dsimp only; decide, by decide, ?_⟩
        refine gk_aload_n (j := 0) h (by decide +kernel) rfl ?_
        refine gk_getR (i := 70) h ck_7 (by decide) (fun _ _ _ => rfl) (by decide +kernel) kw_443 ?_
        refine gk_getI (i := 140) h ck_5 (by decide) (fun _ _ _ => rfl) (by decide +kernel) kw_322 ?_
        exact gk_iret h hR (by decide +kernel)
      · refine ⟨48, 47, by dsimp only; decide, by dsimp only; decide, by dsimp only; decide, by decide, ?_⟩
        refine gk_aload_n (j := 0) h (by decide +kernel) rfl ?_
        refine gk_getR (i := 70) h ck_7 (by decide) (fun _ _ _ => rfl) (by decide +kernel) kw_443 ?_
        refine gk_getI (i := 265) h ck_5 (by decide) (fun _ _ _ => rfl) (by decide +kernel) kw_324 ?_
        exact gk_iret h hR (by decide +kernel)
      · refine ⟨56, 55, by dsimp only; decide, by dsimp only; decide, by dsimp only; decide, by decide, ?_⟩
        refine gk_aload_n (j := 0) h (by decide +kernel) rfl ?_
        refine gk_getR (i := 70) h ck_7 (by decide) (fun _ _ _ => rfl) (by decide +kernel) kw_443 ?_
        refine gk_getI (i := 89) h ck_5 (by decide) (fun _ _ _ => rfl) (by decide +kernel) kw_327 ?_
        exact gk_iret h hR (by decide +kernel)
      · refine ⟨64, 63, by dsimp only; decide, by dsimp only; decide, by dsimp only; decide, by decide, ?_⟩
        refine gk_aload_n (j := 0) h (by decide +kernel) rfl ?_
        refine gk_getR (i := 70) h ck_7 (by decide) (fun _ _ _ => rfl) (by decide +kernel) kw_443 ?_
        refine gk_getI (i := 196) h ck_5 (by decide) (fun _ _ _ => rfl) (by decide +kernel) kw_336 ?_
        refine gk_ifeq (off := 7) (tgt := 78) h (by decide +kernel) (by decide) ?_ ?_
        · refine gk_iconst (n := 0) h (by decide +kernel) (by decide) ?_
          exact gk_iret h hR (by decide +kernel)
        · refine gk_iconst (n := 1) h (by decide +kernel) (by decide) ?_
          refine gk_goto (off := 4) (tgt := 79) h (by decide +kernel) (by decide) ?_
          exact gk_iret h hR (by decide +kernel)
      · refine ⟨80, 79, by dsimp only; decide, by dsimp only; decide, by dsimp only; decide, by decide, ?_⟩
        refine gk_aload_n (j := 0) h (by decide +kernel) rfl ?_
        refine gk_getR (i := 27) h ck_7 (by decide) (fun _ _ _ => rfl) (by decide +kernel) kw_444 ?_
        refine gk_getI (i := 134) h ck_4 (by decide) (fun _ _ _ => rfl) (by decide +kernel) kw_215 ?_
        exact gk_iret h hR (by decide +kernel)
      · refine ⟨88, 87, by dsimp only; decide, by dsimp only; decide, by dsimp only; decide, by decide, ?_⟩
        refine gk_aload_n (j := 0) h (by decide +kernel) rfl ?_
        refine gk_getI (i := 13) h ck_7 (by decide) (fun _ _ _ => rfl) (by decide +kernel) kw_441 ?_
        exact gk_iret h hR (by decide +kernel)
  | _ + 1 => exact fun _ _ _ hr => hr.elim
set_option maxRecDepth 20000 in
set_option maxHeartbeats 4000000 in
theorem s_106 : MS mtab yX8_takeSigns cX8_takeSigns 6 none Q106 P106 := by
  intro X orc d h hR hnm hxn ho hrd b
  match b with
  | 0 =>
    show GK X Q106 0 (o_iconst 56 (o_istore 3 (o_jmp 1)))
    refine gk_bipush (n := 56) h (by decide +kernel) (by decide) ?_
    refine gk_istore_n (j := 3) h (by decide +kernel) rfl hxn (by decide) ?_
    exact gk_jmp 1 rfl
  | 1 =>
    show GK X Q106 3 (o_iload 3 (o_ifn (o_vret) (o_lload 1 (o_iload 3 (o_lsh (fun x y => (x.toUInt64 >>> (y.toInt64.toUInt64 &&& Int64.toUInt64 63)).toInt64) (o_l2i (o_iconst 255 (o_i2 (fun x y => x &&& y) (o_istore 4 (o_iload 4 (o_iconst 10 (o_ieq (o_jmp 2) (o_iload 4 (o_iconst 32 (o_ilt (o_jmp 3) (o_iload 4 (o_iconst 126 (o_igt (o_jmp 3) (o_jmp 2)))))))))))))))))))
    refine gk_iload_n (j := 3) h (by decide +kernel) rfl ?_
    refine gk_iflt (off := 86) (tgt := 90) h (by decide +kernel) (by decide) ?_ ?_
    · exact gk_vret h hR (by decide +kernel)
    · refine gk_lload_n (j := 1) h (by decide +kernel) rfl ?_
      refine gk_iload_n (j := 3) h (by decide +kernel) rfl ?_
      refine gk_lushr h (by decide +kernel) ?_
      refine gk_l2i h (by decide +kernel) ?_
      refine gk_sipush (n := 255) h (by decide +kernel) (by decide) ?_
      refine gk_iand h (by decide +kernel) ?_
      refine gk_istore h (by decide +kernel) hxn (by decide) ?_
      refine gk_iload h (by decide +kernel) ?_
      refine gk_bipush (n := 10) h (by decide +kernel) (by decide) ?_
      refine gk_icmpeq (off := 17) (tgt := 38) h (by decide +kernel) (by decide) ?_ ?_
      · exact gk_jmp 2 rfl
      · refine gk_iload h (by decide +kernel) ?_
        refine gk_bipush (n := 32) h (by decide +kernel) (by decide) ?_
        refine gk_icmplt (off := 14) (tgt := 42) h (by decide +kernel) (by decide) ?_ ?_
        · exact gk_jmp 3 rfl
        · refine gk_iload h (by decide +kernel) ?_
          refine gk_bipush (n := 126) h (by decide +kernel) (by decide) ?_
          refine gk_icmpgt (off := 7) (tgt := 42) h (by decide +kernel) (by decide) ?_ ?_
          · exact gk_jmp 3 rfl
          · exact gk_jmp 2 rfl
  | 2 =>
    show GK X Q106 38 (o_iconst 1 (o_jmp 4))
    refine gk_iconst (n := 1) h (by decide +kernel) (by decide) ?_
    refine gk_goto (off := 4) (tgt := 43) h (by decide +kernel) (by decide) ?_
    exact gk_jmp 4 rfl
  | 3 =>
    show GK X Q106 42 (o_iconst 0 (o_jmp 4))
    refine gk_iconst (n := 0) h (by decide +kernel) (by decide) ?_
    exact gk_jmp 4 rfl
  | 4 =>
    show GK X Q106 43 (o_istore 5 (o_iload 5 (o_if0 (o_jmp 5) (o_aload 0 (o_getI 7 1 (o_aload 0 (o_getR 7 0 (o_alen (o_ilt (o_aload 0 (o_getR 7 0 (o_aload 0 (o_getI 7 1 (o_iload 4 (o_i1 (fun x => (x.toUInt32 % 65536).toInt32) (o_iast 2 (fun x => vp_nar .char x) (o_aload 0 (o_dup (o_getI 7 1 (o_iconst 1 (o_i2 (fun x y => x + y) (o_putI 7 1 (o_jmp 5)))))))))))))) (o_jmp 5))))))))))
    refine gk_istore h (by decide +kernel) hxn (by decide) ?_
    refine gk_iload h (by decide +kernel) ?_
    refine gk_ifeq (off := 37) (tgt := 84) h (by decide +kernel) (by decide) ?_ ?_
    · exact gk_jmp 5 rfl
    · refine gk_aload_n (j := 0) h (by decide +kernel) rfl ?_
      refine gk_getI (i := 13) h ck_7 (by decide) (fun _ _ _ => rfl) (by decide +kernel) kw_441 ?_
      refine gk_aload_n (j := 0) h (by decide +kernel) rfl ?_
      refine gk_getR (i := 9) h ck_7 (by decide) (fun _ _ _ => rfl) (by decide +kernel) kw_440 ?_
      refine gk_alen h (by decide +kernel) ?_
      refine gk_icmpge (off := 25) (tgt := 84) h (by decide +kernel) (by decide) ?_ ?_
      · exact gk_jmp 5 rfl
      · refine gk_aload_n (j := 0) h (by decide +kernel) rfl ?_
        refine gk_getR (i := 9) h ck_7 (by decide) (fun _ _ _ => rfl) (by decide +kernel) kw_440 ?_
        refine gk_aload_n (j := 0) h (by decide +kernel) rfl ?_
        refine gk_getI (i := 13) h ck_7 (by decide) (fun _ _ _ => rfl) (by decide +kernel) kw_441 ?_
        refine gk_iload h (by decide +kernel) ?_
        refine gk_i2c h (by decide +kernel) ?_
        refine gk_ast2 h (by decide +kernel) ?_
        refine gk_aload_n (j := 0) h (by decide +kernel) rfl ?_
        refine gk_dup h (by decide +kernel) ?_
        refine gk_getI (i := 13) h ck_7 (by decide) (fun _ _ _ => rfl) (by decide +kernel) kw_441 ?_
        refine gk_iconst (n := 1) h (by decide +kernel) (by decide) ?_
        refine gk_iadd h (by decide +kernel) ?_
        refine gk_putI (i := 13) h ck_7 (by decide) rfl (Or.inl rfl) (by decide +kernel) kw_441 ?_
        exact gk_jmp 5 rfl
  | 5 =>
    show GK X Q106 84 (o_iinc 3 (-8) (o_jmp 1))
    refine gk_iinc (z := (-8)) h (by decide +kernel) (by decide) hxn (by decide) ?_
    refine gk_goto (off := (-84)) (tgt := 3) h (by decide +kernel) (by decide) ?_
    exact gk_jmp 1 rfl
  | _ + 6 => exact fun _ _ _ hr => hr.elim
set_option maxRecDepth 20000 in
set_option maxHeartbeats 4000000 in
theorem s_107 : MS mtab yX8_lookRound cX8_lookRound 1 none Q107 P107 := by
  intro X orc d h hR hnm hxn ho hrd b
  match b with
  | 0 =>
    show GK X Q107 0 (o_aload 0 (o_aload 0 (o_getR 7 3 (o_aload 0 (o_getR 7 4 (o_getL 4 2 (o_aload 0 (o_getR 7 4 (o_vI orc 50 1 4 (o_aload 0 (o_getR 7 9 (o_vI orc 72 4 5 (o_putI 7 10 (o_vret))))))))))))))
    refine gk_aload_n (j := 0) h (by decide +kernel) rfl ?_
    refine gk_aload_n (j := 0) h (by decide +kernel) rfl ?_
    refine gk_getR (i := 70) h ck_7 (by decide) (fun _ _ _ => rfl) (by decide +kernel) kw_443 ?_
    refine gk_aload_n (j := 0) h (by decide +kernel) rfl ?_
    refine gk_getR (i := 27) h ck_7 (by decide) (fun _ _ _ => rfl) (by decide +kernel) kw_444 ?_
    refine gk_getL (i := 126) h ck_4 (by decide) (fun _ _ _ => rfl) (by decide +kernel) kw_217 ?_
    refine gk_aload_n (j := 0) h (by decide +kernel) rfl ?_
    refine gk_getR (i := 27) h ck_7 (by decide) (fun _ _ _ => rfl) (by decide +kernel) kw_444 ?_
    refine gk_vI (ca_v (idx := 156) h ho hm_50 (rd_le hrd (by decide)) ck_4 (by decide +kernel) kw_385 kw_386 kw_387 kw_93 kw_388 rfl (by decide +kernel) (by decide)) ?_
    refine gk_aload_n (j := 0) h (by decide +kernel) rfl ?_
    refine gk_getR (i := 56) h ck_7 (by decide) (fun _ _ _ => rfl) (by decide +kernel) kw_449 ?_
    refine gk_vI (ca_v (idx := 236) h ho hm_72 (rd_le hrd (by decide)) ck_5 (by decide +kernel) kw_389 kw_390 kw_391 kw_97 kw_392 rfl (by decide +kernel) (by decide)) ?_
    refine gk_putI (i := 60) h ck_7 (by decide) rfl (Or.inl rfl) (by decide +kernel) kw_450 ?_
    exact gk_vret h hR (by decide +kernel)
  | _ + 1 => exact fun _ _ _ hr => hr.elim
set_option maxRecDepth 20000 in
set_option maxHeartbeats 4000000 in
theorem s_108 : MS mtab yX8_isOver cX8_isOver 1 (some .boolean) Q108 P108 := by
  intro X orc d h hR hnm hxn ho hrd b
  match b with
  | 0 =>
    show GK X Q108 0 (o_aload 0 (o_getI 7 10 (o_if0 (o_iconst 1 (o_zret)) (o_iconst 0 (o_zret)))))
    refine gk_aload_n (j := 0) h (by decide +kernel) rfl ?_
    refine gk_getI (i := 60) h ck_7 (by decide) (fun _ _ _ => rfl) (by decide +kernel) kw_450 ?_
    refine gk_ifne (off := 7) (tgt := 11) h (by decide +kernel) (by decide) ?_ ?_
    · refine gk_iconst (n := 0) h (by decide +kernel) (by decide) ?_
      exact gk_zret h hR (by decide +kernel)
    · refine gk_iconst (n := 1) h (by decide +kernel) (by decide) ?_
      refine gk_goto (off := 4) (tgt := 12) h (by decide +kernel) (by decide) ?_
      exact gk_zret h hR (by decide +kernel)
  | _ + 1 => exact fun _ _ _ hr => hr.elim
set_option maxRecDepth 20000 in
set_option maxHeartbeats 4000000 in
theorem s_109 : MS mtab yX8_gateRefused cX8_gateRefused 2 (some .int) Q109 P109 := by
  intro X orc d h hR hnm hxn ho hrd b
  match b with
  | 0 =>
    show GK X Q109 0 (o_iload 1 (o_ifn (o_iconst 1 (o_iret)) (o_iload 1 (o_aload 0 (o_getR 7 3 (o_getI 5 0 (o_ilt (o_aload 0 (o_vI orc 108 1 7 (o_if0 (o_aload 0 (o_getR 7 3 (o_aload 0 (o_getR 7 4 (o_getL 4 2 (o_aload 0 (o_getR 7 4 (o_vI orc 50 1 4 (o_iload 1 (o_vI orc 68 4 5 (o_iret))))))))))) (o_iconst 2 (o_iret))))) (o_iconst 1 (o_iret)))))))))
    refine gk_iload_n (j := 1) h (by decide +kernel) rfl ?_
    refine gk_iflt (off := 14) (tgt := 15) h (by decide +kernel) (by decide) ?_ ?_
    · refine gk_iconst (n := 1) h (by decide +kernel) (by decide) ?_
      exact gk_iret h hR (by decide +kernel)
    · refine gk_iload_n (j := 1) h (by decide +kernel) rfl ?_
      refine gk_aload_n (j := 0) h (by decide +kernel) rfl ?_
      refine gk_getR (i := 70) h ck_7 (by decide) (fun _ _ _ => rfl) (by decide +kernel) kw_443 ?_
      refine gk_getI (i := 140) h ck_5 (by decide) (fun _ _ _ => rfl) (by decide +kernel) kw_322 ?_
      refine gk_icmplt (off := 5) (tgt := 17) h (by decide +kernel) (by decide) ?_ ?_
      · refine gk_aload_n (j := 0) h (by decide +kernel) rfl ?_
        refine gk_vI (ca_v (idx := 122) h ho hm_108 (rd_le hrd (by decide)) ck_7 (by decide +kernel) kw_633 kw_635 kw_24 kw_91 kw_636 rfl (by decide +kernel) (by decide)) ?_
        refine gk_ifeq (off := 7) (tgt := 28) h (by decide +kernel) (by decide) ?_ ?_
        · refine gk_aload_n (j := 0) h (by decide +kernel) rfl ?_
          refine gk_getR (i := 70) h ck_7 (by decide) (fun _ _ _ => rfl) (by decide +kernel) kw_443 ?_
          refine gk_aload_n (j := 0) h (by decide +kernel) rfl ?_
          refine gk_getR (i := 27) h ck_7 (by decide) (fun _ _ _ => rfl) (by decide +kernel) kw_444 ?_
          refine gk_getL (i := 126) h ck_4 (by decide) (fun _ _ _ => rfl) (by decide +kernel) kw_217 ?_
          refine gk_aload_n (j := 0) h (by decide +kernel) rfl ?_
          refine gk_getR (i := 27) h ck_7 (by decide) (fun _ _ _ => rfl) (by decide +kernel) kw_444 ?_
          refine gk_vI (ca_v (idx := 156) h ho hm_50 (rd_le hrd (by decide)) ck_4 (by decide +kernel) kw_385 kw_386 kw_387 kw_93 kw_388 rfl (by decide +kernel) (by decide)) ?_
          refine gk_iload_n (j := 1) h (by decide +kernel) rfl ?_
          refine gk_vI (ca_v (idx := 268) h ho hm_68 (rd_le hrd (by decide)) ck_5 (by decide +kernel) kw_689 kw_407 kw_408 kw_97 kw_409 rfl (by decide +kernel) (by decide)) ?_
          exact gk_iret h hR (by decide +kernel)
        · refine gk_iconst (n := 2) h (by decide +kernel) (by decide) ?_
          refine gk_goto (off := 25) (tgt := 50) h (by decide +kernel) (by decide) ?_
          exact gk_iret h hR (by decide +kernel)
      · refine gk_iconst (n := 1) h (by decide +kernel) (by decide) ?_
        exact gk_iret h hR (by decide +kernel)
  | _ + 1 => exact fun _ _ _ hr => hr.elim
set_option maxRecDepth 20000 in
set_option maxHeartbeats 4000000 in
theorem s_110 : MS mtab yX8_outcomeNow cX8_outcomeNow 1 (some .int) Q110 P110 := by
  intro X orc d h hR hnm hxn ho hrd b
  match b with
  | 0 =>
    show GK X Q110 0 (o_aload 0 (o_getR 7 6 (o_aload 0 (o_getR 7 3 (o_iconst (-1) (o_iconst (-1) (o_vV orc 13 4 1 (o_aload 0 (o_getR 7 6 (o_aload 0 (o_getR 7 4 (o_getL 4 2 (o_aload 0 (o_getR 7 4 (o_vI orc 50 1 4 (o_iconst 0 (o_vI orc 14 4 1 (o_iret))))))))))))))))))
    refine gk_aload_n (j := 0) h (by decide +kernel) rfl ?_
    refine gk_getR (i := 40) h ck_7 (by decide) (fun _ _ _ => rfl) (by decide +kernel) kw_446 ?_
    refine gk_aload_n (j := 0) h (by decide +kernel) rfl ?_
    refine gk_getR (i := 70) h ck_7 (by decide) (fun _ _ _ => rfl) (by decide +kernel) kw_443 ?_
    refine gk_iconst (n := (-1)) h (by decide +kernel) (by decide) ?_
    refine gk_iconst (n := (-1)) h (by decide +kernel) (by decide) ?_
    refine gk_vV (ca_v (idx := 216) h ho hm_13 (rd_le hrd (by decide)) ck_1 (by decide +kernel) kw_724 kw_725 kw_726 kw_95 kw_727 rfl (by decide +kernel) (by decide)) ?_
    refine gk_aload_n (j := 0) h (by decide +kernel) rfl ?_
    refine gk_getR (i := 40) h ck_7 (by decide) (fun _ _ _ => rfl) (by decide +kernel) kw_446 ?_
    refine gk_aload_n (j := 0) h (by decide +kernel) rfl ?_
    refine gk_getR (i := 27) h ck_7 (by decide) (fun _ _ _ => rfl) (by decide +kernel) kw_444 ?_
    refine gk_getL (i := 126) h ck_4 (by decide) (fun _ _ _ => rfl) (by decide +kernel) kw_217 ?_
    refine gk_aload_n (j := 0) h (by decide +kernel) rfl ?_
    refine gk_getR (i := 27) h ck_7 (by decide) (fun _ _ _ => rfl) (by decide +kernel) kw_444 ?_
    refine gk_vI (ca_v (idx := 156) h ho hm_50 (rd_le hrd (by decide)) ck_4 (by decide +kernel) kw_385 kw_386 kw_387 kw_93 kw_388 rfl (by decide +kernel) (by decide)) ?_
    refine gk_iconst (n := 0) h (by decide +kernel) (by decide) ?_
    refine gk_vI (ca_vN (idx := 220) h ho hm_14 (rd_le hrd (by decide)) ck_1 (by decide +kernel) (by decide +kernel) kw_730 kw_30 kw_95 kw_731 rfl (by decide +kernel) (by decide)) ?_
    exact gk_iret h hR (by decide +kernel)
  | _ + 1 => exact fun _ _ _ hr => hr.elim
set_option maxRecDepth 20000 in
set_option maxHeartbeats 4000000 in
theorem s_111 : MS mtab yX8_outcomeBehind cX8_outcomeBehind 4 (some .int) Q111 P111 := by
  intro X orc d h hR hnm hxn ho hrd b
  match b with
  | 0 =>
    show GK X Q111 0 (o_aload 0 (o_getR 7 6 (o_aload 0 (o_getR 7 3 (o_iconst (-1) (o_iconst (-1) (o_vV orc 13 4 1 (o_aload 0 (o_getR 7 3 (o_aload 0 (o_getR 7 4 (o_getL 4 2 (o_aload 0 (o_getR 7 4 (o_vI orc 50 1 4 (o_iload 1 (o_vL orc 73 4 5 (o_lstore 2 (o_aload 0 (o_getR 7 6 (o_lload 2 (o_iconst 1 (o_aload 0 (o_getR 7 4 (o_vI orc 50 1 4 (o_i2 (fun x y => x - y) (o_iconst 1 (o_vI orc 14 4 1 (o_sI orc 11 1 (o_iret))))))))))))))))))))))))))))))
    refine gk_aload_n (j := 0) h (by decide +kernel) rfl ?_
    refine gk_getR (i := 40) h ck_7 (by decide) (fun _ _ _ => rfl) (by decide +kernel) kw_446 ?_
    refine gk_aload_n (j := 0) h (by decide +kernel) rfl ?_
    refine gk_getR (i := 70) h ck_7 (by decide) (fun _ _ _ => rfl) (by decide +kernel) kw_443 ?_
    refine gk_iconst (n := (-1)) h (by decide +kernel) (by decide) ?_
    refine gk_iconst (n := (-1)) h (by decide +kernel) (by decide) ?_
    refine gk_vV (ca_v (idx := 216) h ho hm_13 (rd_le hrd (by decide)) ck_1 (by decide +kernel) kw_724 kw_725 kw_726 kw_95 kw_727 rfl (by decide +kernel) (by decide)) ?_
    refine gk_aload_n (j := 0) h (by decide +kernel) rfl ?_
    refine gk_getR (i := 70) h ck_7 (by decide) (fun _ _ _ => rfl) (by decide +kernel) kw_443 ?_
    refine gk_aload_n (j := 0) h (by decide +kernel) rfl ?_
    refine gk_getR (i := 27) h ck_7 (by decide) (fun _ _ _ => rfl) (by decide +kernel) kw_444 ?_
    refine gk_getL (i := 126) h ck_4 (by decide) (fun _ _ _ => rfl) (by decide +kernel) kw_217 ?_
    refine gk_aload_n (j := 0) h (by decide +kernel) rfl ?_
    refine gk_getR (i := 27) h ck_7 (by decide) (fun _ _ _ => rfl) (by decide +kernel) kw_444 ?_
    refine gk_vI (ca_v (idx := 156) h ho hm_50 (rd_le hrd (by decide)) ck_4 (by decide +kernel) kw_385 kw_386 kw_387 kw_93 kw_388 rfl (by decide +kernel) (by decide)) ?_
    refine gk_iload_n (j := 1) h (by decide +kernel) rfl ?_
    refine gk_vL (ca_v (idx := 248) h ho hm_73 (rd_le hrd (by decide)) ck_5 (by decide +kernel) kw_787 kw_670 kw_671 kw_97 kw_672 rfl (by decide +kernel) (by decide)) ?_
    refine gk_lstore_n (j := 2) h (by decide +kernel) rfl hxn (by decide) ?_
    refine gk_aload_n (j := 0) h (by decide +kernel) rfl ?_
    refine gk_getR (i := 40) h ck_7 (by decide) (fun _ _ _ => rfl) (by decide +kernel) kw_446 ?_
    refine gk_lload_n (j := 2) h (by decide +kernel) rfl ?_
    refine gk_iconst (n := 1) h (by decide +kernel) (by decide) ?_
    refine gk_aload_n (j := 0) h (by decide +kernel) rfl ?_
    refine gk_getR (i := 27) h ck_7 (by decide) (fun _ _ _ => rfl) (by decide +kernel) kw_444 ?_
    refine gk_vI (ca_v (idx := 156) h ho hm_50 (rd_le hrd (by decide)) ck_4 (by decide +kernel) kw_385 kw_386 kw_387 kw_93 kw_388 rfl (by decide +kernel) (by decide)) ?_
    refine gk_isub h (by decide +kernel) ?_
    refine gk_iconst (n := 1) h (by decide +kernel) (by decide) ?_
    refine gk_vI (ca_vN (idx := 220) h ho hm_14 (rd_le hrd (by decide)) ck_1 (by decide +kernel) (by decide +kernel) kw_730 kw_30 kw_95 kw_731 rfl (by decide +kernel) (by decide)) ?_
    refine gk_sI (ca_s (idx := 271) h ho hm_11 (rd_le hrd (by decide)) (by decide +kernel) kw_788 kw_758 kw_95 kw_759 (by decide +kernel)) ?_
    exact gk_iret h hR (by decide +kernel)
  | _ + 1 => exact fun _ _ _ hr => hr.elim
set_option maxRecDepth 20000 in
set_option maxHeartbeats 4000000 in
theorem s_112 : MS mtab yX9_init cX9_init 1 none Q112 P112 := by
  intro X orc d h hR hnm hxn ho hrd b
  match b with
  | 0 =>
    show GK X Q112 0 (o_aload 0 (o_obj (o_aload 0 (o_iconst 1000 (o_newa 0 (o_putR 8 2 (o_aload 0 (o_iconst 6 (o_newa 0 (o_putR 8 10 (o_aload 0 (o_iconst 6 (o_newa 0 (o_putR 8 11 (o_aload 0 (o_iconst 6 (o_newa 0 (o_putR 8 12 (o_aload 0 (o_iconst 6 (o_newa 0 (o_putR 8 13 (o_aload 0 (o_iconst 36 (o_newa 0 (o_putR 8 14 (o_aload 0 (o_iconst 36 (o_newa 0 (o_putR 8 15 (o_aload 0 (o_iconst 6 (o_newa 1 (o_putR 8 16 (o_aload 0 (o_iconst 6 (o_newa 0 (o_putR 8 17 (o_aload 0 (o_iconst 6 (o_newa 0 (o_putR 8 18 (o_aload 0 (o_iconst 6000 (o_newa 0 (o_putR 8 19 (o_aload 0 (o_iconst 7 (o_newa 0 (o_putR 8 23 (o_aload 0 (o_iconst 7 (o_newa 4 (o_putR 8 24 (o_aload 0 (o_iconst 7 (o_newa 0 (o_putR 8 25 (o_aload 0 (o_iconst 7 (o_newa 0 (o_putR 8 26 (o_aload 0 (o_iconst 7 (o_newa 0 (o_putR 8 27 (o_aload 0 (o_iconst 7 (o_newa 0 (o_putR 8 28 (o_aload 0 (o_iconst 7 (o_newa 0 (o_putR 8 29 (o_aload 0 (o_iconst 7 (o_newa 0 (o_putR 8 30 (o_aload 0 (o_iconst 7 (o_newa 0 (o_putR 8 31 (o_aload 0 (o_iconst 7 (o_newa 0 (o_putR 8 32 (o_aload 0 (o_iconst 7 (o_newa 0 (o_putR 8 33 (o_aload 0 (o_iconst 20 (o_newa 0 (o_putR 8 34 (o_aload 0 (o_iconst 2560 (o_newa 0 (o_putR 8 36 (o_aload 0 (o_iconst 3840 (o_newa 0 (o_putR 8 37 (o_aload 0 (o_iconst 65536 (o_newa 3 (o_putR 8 42 (o_aload 0 (o_iconst 65536 (o_newa 3 (o_putR 8 43 (o_aload 0 (o_iconst 65536 (o_newa 3 (o_putR 8 45 (o_aload 0 (o_iconst 65536 (o_newa 0 (o_putR 8 46 (o_aload 0 (o_iconst 65536 (o_newa 0 (o_putR 8 47 (o_aload 0 (o_iconst 4 (o_newa 4 (o_putR 8 49 (o_aload 0 (o_iconst 15616 (o_newa 0 (o_putR 8 50 (o_aload 0 (o_iconst 4 (o_newa 0 (o_putR 8 51 (o_aload 0 (o_getR 8 10 (o_iconst 0 (o_iconst 2 (o_iast 0 (fun x => x) (o_aload 0 (o_getR 8 11 (o_iconst 0 (o_iconst 1 (o_iast 0 (fun x => x) (o_aload 0 (o_vV orc 139 1 8 (o_vret)))))))))))))))))))))))))))))))))))))))))))))))))))))))))))))))))))))))))))))))))))))))))))))))))))))))))))))))))))))))))))))))))))))))))))))))))))
    refine gk_aload_n (j := 0) h (by decide +kernel) rfl ?_
    refine gk_obj (i := 1) h (by decide +kernel) kw_952 kw_117 kw_118 ?_
    refine gk_aload_n (j := 0) h (by decide +kernel) rfl ?_
    refine gk_sipush (n := 1000) h (by decide +kernel) (by decide) ?_
    refine gk_newa (aty := .int) h (by decide) (by decide +kernel) rfl kw_190 ?_
    refine gk_putR (i := 7) h ck_8 (by decide) (Or.inr ⟨_, rfl⟩) (Or.inr ⟨rfl, hnm, rfl⟩) (by decide +kernel) kw_1007 ?_
    refine gk_aload_n (j := 0) h (by decide +kernel) rfl ?_
    refine gk_bipush (n := 6) h (by decide +kernel) (by decide) ?_
    refine gk_newa (aty := .int) h (by decide) (by decide +kernel) rfl kw_190 ?_
    refine gk_putR (i := 13) h ck_8 (by decide) (Or.inr ⟨_, rfl⟩) (Or.inr ⟨rfl, hnm, rfl⟩) (by decide +kernel) kw_1015 ?_
    refine gk_aload_n (j := 0) h (by decide +kernel) rfl ?_
    refine gk_bipush (n := 6) h (by decide +kernel) (by decide) ?_
    refine gk_newa (aty := .int) h (by decide) (by decide +kernel) rfl kw_190 ?_
    refine gk_putR (i := 16) h ck_8 (by decide) (Or.inr ⟨_, rfl⟩) (Or.inr ⟨rfl, hnm, rfl⟩) (by decide +kernel) kw_1016 ?_
    refine gk_aload_n (j := 0) h (by decide +kernel) rfl ?_
    refine gk_bipush (n := 6) h (by decide +kernel) (by decide) ?_
    refine gk_newa (aty := .int) h (by decide) (by decide +kernel) rfl kw_190 ?_
    refine gk_putR (i := 19) h ck_8 (by decide) (Or.inr ⟨_, rfl⟩) (Or.inr ⟨rfl, hnm, rfl⟩) (by decide +kernel) kw_1017 ?_
    refine gk_aload_n (j := 0) h (by decide +kernel) rfl ?_
    refine gk_bipush (n := 6) h (by decide +kernel) (by decide) ?_
    refine gk_newa (aty := .int) h (by decide) (by decide +kernel) rfl kw_190 ?_
    refine gk_putR (i := 22) h ck_8 (by decide) (Or.inr ⟨_, rfl⟩) (Or.inr ⟨rfl, hnm, rfl⟩) (by decide +kernel) kw_1018 ?_
    refine gk_aload_n (j := 0) h (by decide +kernel) rfl ?_
    refine gk_bipush (n := 36) h (by decide +kernel) (by decide) ?_
    refine gk_newa (aty := .int) h (by decide) (by decide +kernel) rfl kw_190 ?_
    refine gk_putR (i := 25) h ck_8 (by decide) (Or.inr ⟨_, rfl⟩) (Or.inr ⟨rfl, hnm, rfl⟩) (by decide +kernel) kw_1019 ?_
    refine gk_aload_n (j := 0) h (by decide +kernel) rfl ?_
    refine gk_bipush (n := 36) h (by decide +kernel) (by decide) ?_
    refine gk_newa (aty := .int) h (by decide) (by decide +kernel) rfl kw_190 ?_
    refine gk_putR (i := 28) h ck_8 (by decide) (Or.inr ⟨_, rfl⟩) (Or.inr ⟨rfl, hnm, rfl⟩) (by decide +kernel) kw_1020 ?_
    refine gk_aload_n (j := 0) h (by decide +kernel) rfl ?_
    refine gk_bipush (n := 6) h (by decide +kernel) (by decide) ?_
    refine gk_newa (aty := .long) h (by decide) (by decide +kernel) rfl kw_191 ?_
    refine gk_putR (i := 31) h ck_8 (by decide) (Or.inr ⟨_, rfl⟩) (Or.inr ⟨rfl, hnm, rfl⟩) (by decide +kernel) kw_1021 ?_
    refine gk_aload_n (j := 0) h (by decide +kernel) rfl ?_
    refine gk_bipush (n := 6) h (by decide +kernel) (by decide) ?_
    refine gk_newa (aty := .int) h (by decide) (by decide +kernel) rfl kw_190 ?_
    refine gk_putR (i := 35) h ck_8 (by decide) (Or.inr ⟨_, rfl⟩) (Or.inr ⟨rfl, hnm, rfl⟩) (by decide +kernel) kw_1022 ?_
    refine gk_aload_n (j := 0) h (by decide +kernel) rfl ?_
    refine gk_bipush (n := 6) h (by decide +kernel) (by decide) ?_
    refine gk_newa (aty := .int) h (by decide) (by decide +kernel) rfl kw_190 ?_
    refine gk_putR (i := 38) h ck_8 (by decide) (Or.inr ⟨_, rfl⟩) (Or.inr ⟨rfl, hnm, rfl⟩) (by decide +kernel) kw_1023 ?_
    refine gk_aload_n (j := 0) h (by decide +kernel) rfl ?_
    refine gk_sipush (n := 6000) h (by decide +kernel) (by decide) ?_
    refine gk_newa (aty := .int) h (by decide) (by decide +kernel) rfl kw_190 ?_
    refine gk_putR (i := 41) h ck_8 (by decide) (Or.inr ⟨_, rfl⟩) (Or.inr ⟨rfl, hnm, rfl⟩) (by decide +kernel) kw_1024 ?_
    refine gk_aload_n (j := 0) h (by decide +kernel) rfl ?_
    refine gk_bipush (n := 7) h (by decide +kernel) (by decide) ?_
    refine gk_newa (aty := .int) h (by decide) (by decide +kernel) rfl kw_190 ?_
    refine gk_putR (i := 44) h ck_8 (by decide) (Or.inr ⟨_, rfl⟩) (Or.inr ⟨rfl, hnm, rfl⟩) (by decide +kernel) kw_1028 ?_
    refine gk_aload_n (j := 0) h (by decide +kernel) rfl ?_
    refine gk_bipush (n := 7) h (by decide +kernel) (by decide) ?_
    refine gk_newa (aty := .boolean) h (by decide) (by decide +kernel) rfl kw_1162 ?_
    refine gk_putR (i := 47) h ck_8 (by decide) (Or.inr ⟨_, rfl⟩) (Or.inr ⟨rfl, hnm, rfl⟩) (by decide +kernel) kw_1029 ?_
    refine gk_aload_n (j := 0) h (by decide +kernel) rfl ?_
    refine gk_bipush (n := 7) h (by decide +kernel) (by decide) ?_
    refine gk_newa (aty := .int) h (by decide) (by decide +kernel) rfl kw_190 ?_
    refine gk_putR (i := 51) h ck_8 (by decide) (Or.inr ⟨_, rfl⟩) (Or.inr ⟨rfl, hnm, rfl⟩) (by decide +kernel) kw_1030 ?_
    refine gk_aload_n (j := 0) h (by decide +kernel) rfl ?_
    refine gk_bipush (n := 7) h (by decide +kernel) (by decide) ?_
    refine gk_newa (aty := .int) h (by decide) (by decide +kernel) rfl kw_190 ?_
    refine gk_putR (i := 54) h ck_8 (by decide) (Or.inr ⟨_, rfl⟩) (Or.inr ⟨rfl, hnm, rfl⟩) (by decide +kernel) kw_1031 ?_
    refine gk_aload_n (j := 0) h (by decide +kernel) rfl ?_
    refine gk_bipush (n := 7) h (by decide +kernel) (by decide) ?_
    refine gk_newa (aty := .int) h (by decide) (by decide +kernel) rfl kw_190 ?_
    refine gk_putR (i := 57) h ck_8 (by decide) (Or.inr ⟨_, rfl⟩) (Or.inr ⟨rfl, hnm, rfl⟩) (by decide +kernel) kw_1032 ?_
    refine gk_aload_n (j := 0) h (by decide +kernel) rfl ?_
    refine gk_bipush (n := 7) h (by decide +kernel) (by decide) ?_
    refine gk_newa (aty := .int) h (by decide) (by decide +kernel) rfl kw_190 ?_
    refine gk_putR (i := 60) h ck_8 (by decide) (Or.inr ⟨_, rfl⟩) (Or.inr ⟨rfl, hnm, rfl⟩) (by decide +kernel) kw_1033 ?_
    refine gk_aload_n (j := 0) h (by decide +kernel) rfl ?_
    refine gk_bipush (n := 7) h (by decide +kernel) (by decide) ?_
    refine gk_newa (aty := .int) h (by decide) (by decide +kernel) rfl kw_190 ?_
    refine gk_putR (i := 63) h ck_8 (by decide) (Or.inr ⟨_, rfl⟩) (Or.inr ⟨rfl, hnm, rfl⟩) (by decide +kernel) kw_1034 ?_
    refine gk_aload_n (j := 0) h (by decide +kernel) rfl ?_
    refine gk_bipush (n := 7) h (by decide +kernel) (by decide) ?_
    refine gk_newa (aty := .int) h (by decide) (by decide +kernel) rfl kw_190 ?_
    refine gk_putR (i := 66) h ck_8 (by decide) (Or.inr ⟨_, rfl⟩) (Or.inr ⟨rfl, hnm, rfl⟩) (by decide +kernel) kw_1035 ?_
    refine gk_aload_n (j := 0) h (by decide +kernel) rfl ?_
    refine gk_bipush (n := 7) h (by decide +kernel) (by decide) ?_
    refine gk_newa (aty := .int) h (by decide) (by decide +kernel) rfl kw_190 ?_
    refine gk_putR (i := 69) h ck_8 (by decide) (Or.inr ⟨_, rfl⟩) (Or.inr ⟨rfl, hnm, rfl⟩) (by decide +kernel) kw_1036 ?_
    refine gk_aload_n (j := 0) h (by decide +kernel) rfl ?_
    refine gk_bipush (n := 7) h (by decide +kernel) (by decide) ?_
    refine gk_newa (aty := .int) h (by decide) (by decide +kernel) rfl kw_190 ?_
    refine gk_putR (i := 72) h ck_8 (by decide) (Or.inr ⟨_, rfl⟩) (Or.inr ⟨rfl, hnm, rfl⟩) (by decide +kernel) kw_1037 ?_
    refine gk_aload_n (j := 0) h (by decide +kernel) rfl ?_
    refine gk_bipush (n := 7) h (by decide +kernel) (by decide) ?_
    refine gk_newa (aty := .int) h (by decide) (by decide +kernel) rfl kw_190 ?_
    refine gk_putR (i := 75) h ck_8 (by decide) (Or.inr ⟨_, rfl⟩) (Or.inr ⟨rfl, hnm, rfl⟩) (by decide +kernel) kw_1038 ?_
    refine gk_aload_n (j := 0) h (by decide +kernel) rfl ?_
    refine gk_bipush (n := 20) h (by decide +kernel) (by decide) ?_
    refine gk_newa (aty := .int) h (by decide) (by decide +kernel) rfl kw_190 ?_
    refine gk_putR (i := 78) h ck_8 (by decide) (Or.inr ⟨_, rfl⟩) (Or.inr ⟨rfl, hnm, rfl⟩) (by decide +kernel) kw_1039 ?_
    refine gk_aload_n (j := 0) h (by decide +kernel) rfl ?_
    refine gk_sipush (n := 2560) h (by decide +kernel) (by decide) ?_
    refine gk_newa (aty := .int) h (by decide) (by decide +kernel) rfl kw_190 ?_
    refine gk_putR (i := 81) h ck_8 (by decide) (Or.inr ⟨_, rfl⟩) (Or.inr ⟨rfl, hnm, rfl⟩) (by decide +kernel) kw_1041 ?_
    refine gk_aload_n (j := 0) h (by decide +kernel) rfl ?_
    refine gk_sipush (n := 3840) h (by decide +kernel) (by decide) ?_
    refine gk_newa (aty := .int) h (by decide) (by decide +kernel) rfl kw_190 ?_
    refine gk_putR (i := 84) h ck_8 (by decide) (Or.inr ⟨_, rfl⟩) (Or.inr ⟨rfl, hnm, rfl⟩) (by decide +kernel) kw_1042 ?_
    refine gk_aload_n (j := 0) h (by decide +kernel) rfl ?_
    refine gk_ldc (i := 87) h (by decide +kernel) kw_953 ?_
    refine gk_newa (aty := .byte) h (by decide) (by decide +kernel) rfl kw_619 ?_
    refine gk_putR (i := 88) h ck_8 (by decide) (Or.inr ⟨_, rfl⟩) (Or.inr ⟨rfl, hnm, rfl⟩) (by decide +kernel) kw_1047 ?_
    refine gk_aload_n (j := 0) h (by decide +kernel) rfl ?_
    refine gk_ldc (i := 87) h (by decide +kernel) kw_953 ?_
    refine gk_newa (aty := .byte) h (by decide) (by decide +kernel) rfl kw_619 ?_
    refine gk_putR (i := 92) h ck_8 (by decide) (Or.inr ⟨_, rfl⟩) (Or.inr ⟨rfl, hnm, rfl⟩) (by decide +kernel) kw_1048 ?_
    refine gk_aload_n (j := 0) h (by decide +kernel) rfl ?_
    refine gk_ldc (i := 87) h (by decide +kernel) kw_953 ?_
    refine gk_newa (aty := .byte) h (by decide) (by decide +kernel) rfl kw_619 ?_
    refine gk_putR (i := 95) h ck_8 (by decide) (Or.inr ⟨_, rfl⟩) (Or.inr ⟨rfl, hnm, rfl⟩) (by decide +kernel) kw_1050 ?_
    refine gk_aload_n (j := 0) h (by decide +kernel) rfl ?_
    refine gk_ldc (i := 87) h (by decide +kernel) kw_953 ?_
    refine gk_newa (aty := .int) h (by decide) (by decide +kernel) rfl kw_190 ?_
    refine gk_putR (i := 98) h ck_8 (by decide) (Or.inr ⟨_, rfl⟩) (Or.inr ⟨rfl, hnm, rfl⟩) (by decide +kernel) kw_1051 ?_
    refine gk_aload_n (j := 0) h (by decide +kernel) rfl ?_
    refine gk_ldc (i := 87) h (by decide +kernel) kw_953 ?_
    refine gk_newa (aty := .int) h (by decide) (by decide +kernel) rfl kw_190 ?_
    refine gk_putR (i := 101) h ck_8 (by decide) (Or.inr ⟨_, rfl⟩) (Or.inr ⟨rfl, hnm, rfl⟩) (by decide +kernel) kw_1052 ?_
    refine gk_aload_n (j := 0) h (by decide +kernel) rfl ?_
    refine gk_iconst (n := 4) h (by decide +kernel) (by decide) ?_
    refine gk_newa (aty := .boolean) h (by decide) (by decide +kernel) rfl kw_1162 ?_
    refine gk_putR (i := 104) h ck_8 (by decide) (Or.inr ⟨_, rfl⟩) (Or.inr ⟨rfl, hnm, rfl⟩) (by decide +kernel) kw_1054 ?_
    refine gk_aload_n (j := 0) h (by decide +kernel) rfl ?_
    refine gk_sipush (n := 15616) h (by decide +kernel) (by decide) ?_
    refine gk_newa (aty := .int) h (by decide) (by decide +kernel) rfl kw_190 ?_
    refine gk_putR (i := 107) h ck_8 (by decide) (Or.inr ⟨_, rfl⟩) (Or.inr ⟨rfl, hnm, rfl⟩) (by decide +kernel) kw_1055 ?_
    refine gk_aload_n (j := 0) h (by decide +kernel) rfl ?_
    refine gk_iconst (n := 4) h (by decide +kernel) (by decide) ?_
    refine gk_newa (aty := .int) h (by decide) (by decide +kernel) rfl kw_190 ?_
    refine gk_putR (i := 110) h ck_8 (by decide) (Or.inr ⟨_, rfl⟩) (Or.inr ⟨rfl, hnm, rfl⟩) (by decide +kernel) kw_1056 ?_
    refine gk_aload_n (j := 0) h (by decide +kernel) rfl ?_
    refine gk_getR (i := 13) h ck_8 (by decide) (fun _ _ _ => rfl) (by decide +kernel) kw_1015 ?_
    refine gk_iconst (n := 0) h (by decide +kernel) (by decide) ?_
    refine gk_iconst (n := 2) h (by decide +kernel) (by decide) ?_
    refine gk_ast0 h (by decide +kernel) ?_
    refine gk_aload_n (j := 0) h (by decide +kernel) rfl ?_
    refine gk_getR (i := 16) h ck_8 (by decide) (fun _ _ _ => rfl) (by decide +kernel) kw_1016 ?_
    refine gk_iconst (n := 0) h (by decide +kernel) (by decide) ?_
    refine gk_iconst (n := 1) h (by decide +kernel) (by decide) ?_
    refine gk_ast0 h (by decide +kernel) ?_
    refine gk_aload_n (j := 0) h (by decide +kernel) rfl ?_
    refine gk_vV (ca_v (idx := 113) h ho hm_139 (rd_le hrd (by decide)) ck_8 (by decide +kernel) kw_954 kw_956 kw_38 kw_101 kw_957 rfl (by decide +kernel) (by decide)) ?_
    exact gk_vret h hR (by decide +kernel)
  | _ + 1 => exact fun _ _ _ hr => hr.elim
set_option maxRecDepth 20000 in
set_option maxHeartbeats 4000000 in
theorem s_113 : MS mtab yX9_thrown cX9_thrown 1 (some .int) Q113 P113 := by
  intro X orc d h hR hnm hxn ho hrd b
  match b with
  | 0 =>
    show GK X Q113 0 (o_aload 0 (o_getI 8 0 (o_iret)))
    refine gk_aload_n (j := 0) h (by decide +kernel) rfl ?_
    refine gk_getI (i := 116) h ck_8 (by decide) (fun _ _ _ => rfl) (by decide +kernel) kw_1005 ?_
    exact gk_iret h hR (by decide +kernel)
  | _ + 1 => exact fun _ _ _ hr => hr.elim
set_option maxRecDepth 20000 in
set_option maxHeartbeats 4000000 in
theorem s_114 : MS mtab yX9_within cX9_within 3 (some .boolean) Q114 P114 := by
  intro X orc d h hR hnm hxn ho hrd b
  match b with
  | 0 =>
    show GK X Q114 0 (o_iload 0 (o_iload 1 (o_ilt (o_iconst 0 (o_zret)) (o_iload 0 (o_iload 2 (o_igt (o_iconst 0 (o_zret)) (o_iconst 1 (o_zret))))))))
    refine gk_iload_n (j := 0) h (by decide +kernel) rfl ?_
    refine gk_iload_n (j := 1) h (by decide +kernel) rfl ?_
    refine gk_icmplt (off := 12) (tgt := 14) h (by decide +kernel) (by decide) ?_ ?_
    · refine gk_iconst (n := 0) h (by decide +kernel) (by decide) ?_
      exact gk_zret h hR (by decide +kernel)
    · refine gk_iload_n (j := 0) h (by decide +kernel) rfl ?_
      refine gk_iload_n (j := 2) h (by decide +kernel) rfl ?_
      refine gk_icmpgt (off := 7) (tgt := 14) h (by decide +kernel) (by decide) ?_ ?_
      · refine gk_iconst (n := 0) h (by decide +kernel) (by decide) ?_
        exact gk_zret h hR (by decide +kernel)
      · refine gk_iconst (n := 1) h (by decide +kernel) (by decide) ?_
        refine gk_goto (off := 4) (tgt := 15) h (by decide +kernel) (by decide) ?_
        exact gk_zret h hR (by decide +kernel)
  | _ + 1 => exact fun _ _ _ hr => hr.elim
set_option maxRecDepth 20000 in
set_option maxHeartbeats 4000000 in
theorem s_115 : MS mtab yX9_feed cX9_feed 11 (some .int) Q115 P115 := by
  intro X orc d h hR hnm hxn ho hrd b
  match b with
  | 0 =>
    show GK X Q115 0 (o_aload 0 (o_iconst 0 (o_putI 8 0 (o_iconst 0 (o_istore 7 (o_jmp 1))))))
    refine gk_aload_n (j := 0) h (by decide +kernel) rfl ?_
    refine gk_iconst (n := 0) h (by decide +kernel) (by decide) ?_
    refine gk_putI (i := 116) h ck_8 (by decide) rfl (Or.inl rfl) (by decide +kernel) kw_1005 ?_
    refine gk_iconst (n := 0) h (by decide +kernel) (by decide) ?_
    refine gk_istore h (by decide +kernel) hxn (by decide) ?_
    exact gk_jmp 1 rfl
  | 1 =>
    show GK X Q115 8 (o_iload 7 (o_iconst 24 (o_ilt (o_iload 7 (o_iconst 8 (o_ilt (o_lload 1 (o_jmp 2)) (o_iload 7 (o_iconst 16 (o_ilt (o_lload 3 (o_jmp 2)) (o_lload 5 (o_jmp 2)))))))) (o_aload 0 (o_getI 8 1 (o_iret))))))
    refine gk_iload h (by decide +kernel) ?_
    refine gk_bipush (n := 24) h (by decide +kernel) (by decide) ?_
    refine gk_icmpge (off := 108) (tgt := 120) h (by decide +kernel) (by decide) ?_ ?_
    · refine gk_aload_n (j := 0) h (by decide +kernel) rfl ?_
      refine gk_getI (i := 122) h ck_8 (by decide) (fun _ _ _ => rfl) (by decide +kernel) kw_1006 ?_
      exact gk_iret h hR (by decide +kernel)
    · refine gk_iload h (by decide +kernel) ?_
      refine gk_bipush (n := 8) h (by decide +kernel) (by decide) ?_
      refine gk_icmpge (off := 7) (tgt := 26) h (by decide +kernel) (by decide) ?_ ?_
      · refine gk_iload h (by decide +kernel) ?_
        refine gk_bipush (n := 16) h (by decide +kernel) (by decide) ?_
        refine gk_icmpge (off := 7) (tgt := 37) h (by decide +kernel) (by decide) ?_ ?_
        · refine gk_lload h (by decide +kernel) ?_
          exact gk_jmp 2 rfl
        · refine gk_lload_n (j := 3) h (by decide +kernel) rfl ?_
          refine gk_goto (off := 5) (tgt := 39) h (by decide +kernel) (by decide) ?_
          exact gk_jmp 2 rfl
      · refine gk_lload_n (j := 1) h (by decide +kernel) rfl ?_
        refine gk_goto (off := 16) (tgt := 39) h (by decide +kernel) (by decide) ?_
        exact gk_jmp 2 rfl
  | 2 =>
    show GK X Q115 39 (o_lstore 8 (o_lload 8 (o_iconst 56 (o_iconst 8 (o_iload 7 (o_iconst 7 (o_i2 (fun x y => x &&& y) (o_i2 (fun x y => x * y) (o_i2 (fun x y => x - y) (o_lsh (fun x y => (x.toUInt64 >>> (y.toInt64.toUInt64 &&& Int64.toUInt64 63)).toInt64) (o_lconst 255 (o_l2 (fun x y => x &&& y) (o_l2i (o_istore 10 (o_aload 0 (o_getI 8 1 (o_iconst 1000 (o_ilt (o_iload 10 (o_iconst 10 (o_ieq (o_jmp 3) (o_iload 10 (o_iconst 32 (o_ilt (o_jmp 4) (o_iload 10 (o_iconst 126 (o_igt (o_jmp 4) (o_jmp 3)))))))))) (o_jmp 4)))))))))))))))))))
    refine gk_lstore h (by decide +kernel) hxn (by decide) ?_
    refine gk_lload h (by decide +kernel) ?_
    refine gk_bipush (n := 56) h (by decide +kernel) (by decide) ?_
    refine gk_bipush (n := 8) h (by decide +kernel) (by decide) ?_
    refine gk_iload h (by decide +kernel) ?_
    refine gk_bipush (n := 7) h (by decide +kernel) (by decide) ?_
    refine gk_iand h (by decide +kernel) ?_
    refine gk_imul h (by decide +kernel) ?_
    refine gk_isub h (by decide +kernel) ?_
    refine gk_lushr h (by decide +kernel) ?_
    refine gk_ldc2 (i := 120) h (by decide +kernel) kw_1171 ?_
    refine gk_land h (by decide +kernel) ?_
    refine gk_l2i h (by decide +kernel) ?_
    refine gk_istore h (by decide +kernel) hxn (by decide) ?_
    refine gk_aload_n (j := 0) h (by decide +kernel) rfl ?_
    refine gk_getI (i := 122) h ck_8 (by decide) (fun _ _ _ => rfl) (by decide +kernel) kw_1006 ?_
    refine gk_sipush (n := 1000) h (by decide +kernel) (by decide) ?_
    refine gk_icmpge (off := 45) (tgt := 114) h (by decide +kernel) (by decide) ?_ ?_
    · exact gk_jmp 4 rfl
    · refine gk_iload h (by decide +kernel) ?_
      refine gk_bipush (n := 10) h (by decide +kernel) (by decide) ?_
      refine gk_icmpeq (off := 17) (tgt := 93) h (by decide +kernel) (by decide) ?_ ?_
      · exact gk_jmp 3 rfl
      · refine gk_iload h (by decide +kernel) ?_
        refine gk_bipush (n := 32) h (by decide +kernel) (by decide) ?_
        refine gk_icmplt (off := 31) (tgt := 114) h (by decide +kernel) (by decide) ?_ ?_
        · exact gk_jmp 4 rfl
        · refine gk_iload h (by decide +kernel) ?_
          refine gk_bipush (n := 126) h (by decide +kernel) (by decide) ?_
          refine gk_icmpgt (off := 24) (tgt := 114) h (by decide +kernel) (by decide) ?_ ?_
          · exact gk_jmp 4 rfl
          · exact gk_jmp 3 rfl
  | 3 =>
    show GK X Q115 93 (o_aload 0 (o_getR 8 2 (o_aload 0 (o_getI 8 1 (o_iload 10 (o_iast 0 (fun x => x) (o_aload 0 (o_dup (o_getI 8 1 (o_iconst 1 (o_i2 (fun x y => x + y) (o_putI 8 1 (o_jmp 4)))))))))))))
    refine gk_aload_n (j := 0) h (by decide +kernel) rfl ?_
    refine gk_getR (i := 7) h ck_8 (by decide) (fun _ _ _ => rfl) (by decide +kernel) kw_1007 ?_
    refine gk_aload_n (j := 0) h (by decide +kernel) rfl ?_
    refine gk_getI (i := 122) h ck_8 (by decide) (fun _ _ _ => rfl) (by decide +kernel) kw_1006 ?_
    refine gk_iload h (by decide +kernel) ?_
    refine gk_ast0 h (by decide +kernel) ?_
    refine gk_aload_n (j := 0) h (by decide +kernel) rfl ?_
    refine gk_dup h (by decide +kernel) ?_
    refine gk_getI (i := 122) h ck_8 (by decide) (fun _ _ _ => rfl) (by decide +kernel) kw_1006 ?_
    refine gk_iconst (n := 1) h (by decide +kernel) (by decide) ?_
    refine gk_iadd h (by decide +kernel) ?_
    refine gk_putI (i := 122) h ck_8 (by decide) rfl (Or.inl rfl) (by decide +kernel) kw_1006 ?_
    exact gk_jmp 4 rfl
  | 4 =>
    show GK X Q115 114 (o_iinc 7 1 (o_jmp 1))
    refine gk_iinc (z := 1) h (by decide +kernel) (by decide) hxn (by decide) ?_
    refine gk_goto (off := (-109)) (tgt := 8) h (by decide +kernel) (by decide) ?_
    exact gk_jmp 1 rfl
  | _ + 5 => exact fun _ _ _ hr => hr.elim
set_option maxRecDepth 20000 in
set_option maxHeartbeats 4000000 in
theorem s_116 : MS mtab yX9_signAt cX9_signAt 2 (some .int) Q116 P116 := by
  intro X orc d h hR hnm hxn ho hrd b
  match b with
  | 0 =>
    show GK X Q116 0 (o_iload 1 (o_aload 0 (o_getI 8 3 (o_ilt (o_aload 0 (o_getR 8 2 (o_iload 1 (o_iald 0 (o_iret))))) (o_iconst 0 (o_iret))))))
    refine gk_iload_n (j := 1) h (by decide +kernel) rfl ?_
    refine gk_aload_n (j := 0) h (by decide +kernel) rfl ?_
    refine gk_getI (i := 125) h ck_8 (by decide) (fun _ _ _ => rfl) (by decide +kernel) kw_1008 ?_
    refine gk_icmpge (off := 12) (tgt := 17) h (by decide +kernel) (by decide) ?_ ?_
    · refine gk_iconst (n := 0) h (by decide +kernel) (by decide) ?_
      exact gk_iret h hR (by decide +kernel)
    · refine gk_aload_n (j := 0) h (by decide +kernel) rfl ?_
      refine gk_getR (i := 7) h ck_8 (by decide) (fun _ _ _ => rfl) (by decide +kernel) kw_1007 ?_
      refine gk_iload_n (j := 1) h (by decide +kernel) rfl ?_
      refine gk_ald0 h (by decide +kernel) ?_
      refine gk_goto (off := 4) (tgt := 18) h (by decide +kernel) (by decide) ?_
      exact gk_iret h hR (by decide +kernel)
  | _ + 1 => exact fun _ _ _ hr => hr.elim
set_option maxRecDepth 20000 in
set_option maxHeartbeats 4000000 in
theorem s_117 : MS mtab yX9_nextToken cX9_nextToken 2 none Q117 P117 := by
  intro X orc d h hR hnm hxn ho hrd b
  match b with
  | 0 =>
    show GK X Q117 0 (o_aload 0 (o_getI 8 4 (o_aload 0 (o_getI 8 3 (o_ilt (o_aload 0 (o_getR 8 2 (o_aload 0 (o_getI 8 4 (o_iald 0 (o_iconst 32 (o_ieq (o_jmp 1) (o_aload 0 (o_getR 8 2 (o_aload 0 (o_getI 8 4 (o_iald 0 (o_iconst 10 (o_ieq (o_jmp 1) (o_jmp 2))))))))))))))) (o_jmp 2))))))
    refine gk_aload_n (j := 0) h (by decide +kernel) rfl ?_
    refine gk_getI (i := 128) h ck_8 (by decide) (fun _ _ _ => rfl) (by decide +kernel) kw_1009 ?_
    refine gk_aload_n (j := 0) h (by decide +kernel) rfl ?_
    refine gk_getI (i := 125) h ck_8 (by decide) (fun _ _ _ => rfl) (by decide +kernel) kw_1008 ?_
    refine gk_icmpge (off := 44) (tgt := 52) h (by decide +kernel) (by decide) ?_ ?_
    · exact gk_jmp 2 rfl
    · refine gk_aload_n (j := 0) h (by decide +kernel) rfl ?_
      refine gk_getR (i := 7) h ck_8 (by decide) (fun _ _ _ => rfl) (by decide +kernel) kw_1007 ?_
      refine gk_aload_n (j := 0) h (by decide +kernel) rfl ?_
      refine gk_getI (i := 128) h ck_8 (by decide) (fun _ _ _ => rfl) (by decide +kernel) kw_1009 ?_
      refine gk_ald0 h (by decide +kernel) ?_
      refine gk_bipush (n := 32) h (by decide +kernel) (by decide) ?_
      refine gk_icmpeq (off := 17) (tgt := 39) h (by decide +kernel) (by decide) ?_ ?_
      · exact gk_jmp 1 rfl
      · refine gk_aload_n (j := 0) h (by decide +kernel) rfl ?_
        refine gk_getR (i := 7) h ck_8 (by decide) (fun _ _ _ => rfl) (by decide +kernel) kw_1007 ?_
        refine gk_aload_n (j := 0) h (by decide +kernel) rfl ?_
        refine gk_getI (i := 128) h ck_8 (by decide) (fun _ _ _ => rfl) (by decide +kernel) kw_1009 ?_
        refine gk_ald0 h (by decide +kernel) ?_
        refine gk_bipush (n := 10) h (by decide +kernel) (by decide) ?_
        refine gk_icmpne (off := 16) (tgt := 52) h (by decide +kernel) (by decide) ?_ ?_
        · exact gk_jmp 2 rfl
        · exact gk_jmp 1 rfl
  | 1 =>
    show GK X Q117 39 (o_aload 0 (o_dup (o_getI 8 4 (o_iconst 1 (o_i2 (fun x y => x + y) (o_putI 8 4 (o_jmp 0)))))))
    refine gk_aload_n (j := 0) h (by decide +kernel) rfl ?_
    refine gk_dup h (by decide +kernel) ?_
    refine gk_getI (i := 128) h ck_8 (by decide) (fun _ _ _ => rfl) (by decide +kernel) kw_1009 ?_
    refine gk_iconst (n := 1) h (by decide +kernel) (by decide) ?_
    refine gk_iadd h (by decide +kernel) ?_
    refine gk_putI (i := 128) h ck_8 (by decide) rfl (Or.inl rfl) (by decide +kernel) kw_1009 ?_
    refine gk_goto (off := (-49)) (tgt := 0) h (by decide +kernel) (by decide) ?_
    exact gk_jmp 0 rfl
  | 2 =>
    show GK X Q117 52 (o_aload 0 (o_aload 0 (o_getI 8 4 (o_putI 8 5 (o_aload 0 (o_lconst 0 (o_putL 8 7 (o_aload 0 (o_iconst 0 (o_putI 8 8 (o_aload 0 (o_getI 8 4 (o_aload 0 (o_getI 8 3 (o_ieq (o_aload 0 (o_iconst 0 (o_putI 8 6 (o_vret)))) (o_aload 0 (o_getR 8 2 (o_aload 0 (o_getI 8 4 (o_iald 0 (o_istore 1 (o_iload 1 (o_iconst 97 (o_ilt (o_jmp 7) (o_iload 1 (o_iconst 122 (o_igt (o_jmp 7) (o_jmp 3))))))))))))))))))))))))))))
    refine gk_aload_n (j := 0) h (by decide +kernel) rfl ?_
    refine gk_aload_n (j := 0) h (by decide +kernel) rfl ?_
    refine gk_getI (i := 128) h ck_8 (by decide) (fun _ _ _ => rfl) (by decide +kernel) kw_1009 ?_
    refine gk_putI (i := 131) h ck_8 (by decide) rfl (Or.inl rfl) (by decide +kernel) kw_1010 ?_
    refine gk_aload_n (j := 0) h (by decide +kernel) rfl ?_
    refine gk_lconst (n := 0) h (by decide +kernel) rfl ?_
    refine gk_putL (i := 134) h ck_8 (by decide) rfl (Or.inl rfl) (by decide +kernel) kw_1012 ?_
    refine gk_aload_n (j := 0) h (by decide +kernel) rfl ?_
    refine gk_iconst (n := 0) h (by decide +kernel) (by decide) ?_
    refine gk_putI (i := 138) h ck_8 (by decide) rfl (Or.inl rfl) (by decide +kernel) kw_1013 ?_
    refine gk_aload_n (j := 0) h (by decide +kernel) rfl ?_
    refine gk_getI (i := 128) h ck_8 (by decide) (fun _ _ _ => rfl) (by decide +kernel) kw_1009 ?_
    refine gk_aload_n (j := 0) h (by decide +kernel) rfl ?_
    refine gk_getI (i := 125) h ck_8 (by decide) (fun _ _ _ => rfl) (by decide +kernel) kw_1008 ?_
    refine gk_icmpne (off := 9) (tgt := 87) h (by decide +kernel) (by decide) ?_ ?_
    · refine gk_aload_n (j := 0) h (by decide +kernel) rfl ?_
      refine gk_getR (i := 7) h ck_8 (by decide) (fun _ _ _ => rfl) (by decide +kernel) kw_1007 ?_
      refine gk_aload_n (j := 0) h (by decide +kernel) rfl ?_
      refine gk_getI (i := 128) h ck_8 (by decide) (fun _ _ _ => rfl) (by decide +kernel) kw_1009 ?_
      refine gk_ald0 h (by decide +kernel) ?_
      refine gk_istore_n (j := 1) h (by decide +kernel) rfl hxn (by decide) ?_
      refine gk_iload_n (j := 1) h (by decide +kernel) rfl ?_
      refine gk_bipush (n := 97) h (by decide +kernel) (by decide) ?_
      refine gk_icmplt (off := 112) (tgt := 212) h (by decide +kernel) (by decide) ?_ ?_
      · exact gk_jmp 7 rfl
      · refine gk_iload_n (j := 1) h (by decide +kernel) rfl ?_
        refine gk_bipush (n := 122) h (by decide +kernel) (by decide) ?_
        refine gk_icmpgt (off := 106) (tgt := 212) h (by decide +kernel) (by decide) ?_ ?_
        · exact gk_jmp 7 rfl
        · exact gk_jmp 3 rfl
    · refine gk_aload_n (j := 0) h (by decide +kernel) rfl ?_
      refine gk_iconst (n := 0) h (by decide +kernel) (by decide) ?_
      refine gk_putI (i := 141) h ck_8 (by decide) rfl (Or.inl rfl) (by decide +kernel) kw_1011 ?_
      exact gk_vret h hR (by decide +kernel)
  | 3 =>
    show GK X Q117 109 (o_aload 0 (o_aload 0 (o_getI 8 4 (o_vI orc 116 2 8 (o_iconst 97 (o_ilt (o_jmp 5) (o_aload 0 (o_aload 0 (o_getI 8 4 (o_vI orc 116 2 8 (o_iconst 122 (o_igt (o_jmp 5) (o_aload 0 (o_getI 8 4 (o_aload 0 (o_getI 8 5 (o_i2 (fun x y => x - y) (o_iconst 8 (o_ilt (o_aload 0 (o_aload 0 (o_getL 8 7 (o_lconst 27 (o_l2 (fun x y => x * y) (o_aload 0 (o_aload 0 (o_getI 8 4 (o_vI orc 116 2 8 (o_i2l (o_l2 (fun x y => x + y) (o_lconst 96 (o_l2 (fun x y => x - y) (o_putL 8 7 (o_jmp 4))))))))))))))) (o_jmp 4))))))))))))))))))))
    refine gk_aload_n (j := 0) h (by decide +kernel) rfl ?_
    refine gk_aload_n (j := 0) h (by decide +kernel) rfl ?_
    refine gk_getI (i := 128) h ck_8 (by decide) (fun _ _ _ => rfl) (by decide +kernel) kw_1009 ?_
    refine gk_vI (ca_v (idx := 144) h ho hm_116 (rd_le hrd (by decide)) ck_8 (by decide +kernel) kw_1184 kw_1186 kw_52 kw_101 kw_1187 rfl (by decide +kernel) (by decide)) ?_
    refine gk_bipush (n := 97) h (by decide +kernel) (by decide) ?_
    refine gk_icmplt (off := 69) (tgt := 188) h (by decide +kernel) (by decide) ?_ ?_
    · exact gk_jmp 5 rfl
    · refine gk_aload_n (j := 0) h (by decide +kernel) rfl ?_
      refine gk_aload_n (j := 0) h (by decide +kernel) rfl ?_
      refine gk_getI (i := 128) h ck_8 (by decide) (fun _ _ _ => rfl) (by decide +kernel) kw_1009 ?_
      refine gk_vI (ca_v (idx := 144) h ho hm_116 (rd_le hrd (by decide)) ck_8 (by decide +kernel) kw_1184 kw_1186 kw_52 kw_101 kw_1187 rfl (by decide +kernel) (by decide)) ?_
      refine gk_bipush (n := 122) h (by decide +kernel) (by decide) ?_
      refine gk_icmpgt (off := 56) (tgt := 188) h (by decide +kernel) (by decide) ?_ ?_
      · exact gk_jmp 5 rfl
      · refine gk_aload_n (j := 0) h (by decide +kernel) rfl ?_
        refine gk_getI (i := 128) h ck_8 (by decide) (fun _ _ _ => rfl) (by decide +kernel) kw_1009 ?_
        refine gk_aload_n (j := 0) h (by decide +kernel) rfl ?_
        refine gk_getI (i := 131) h ck_8 (by decide) (fun _ _ _ => rfl) (by decide +kernel) kw_1010 ?_
        refine gk_isub h (by decide +kernel) ?_
        refine gk_bipush (n := 8) h (by decide +kernel) (by decide) ?_
        refine gk_icmpge (off := 29) (tgt := 175) h (by decide +kernel) (by decide) ?_ ?_
        · exact gk_jmp 4 rfl
        · refine gk_aload_n (j := 0) h (by decide +kernel) rfl ?_
          refine gk_aload_n (j := 0) h (by decide +kernel) rfl ?_
          refine gk_getL (i := 134) h ck_8 (by decide) (fun _ _ _ => rfl) (by decide +kernel) kw_1012 ?_
          refine gk_ldc2 (i := 148) h (by decide +kernel) kw_1188 ?_
          refine gk_lmul h (by decide +kernel) ?_
          refine gk_aload_n (j := 0) h (by decide +kernel) rfl ?_
          refine gk_aload_n (j := 0) h (by decide +kernel) rfl ?_
          refine gk_getI (i := 128) h ck_8 (by decide) (fun _ _ _ => rfl) (by decide +kernel) kw_1009 ?_
          refine gk_vI (ca_v (idx := 144) h ho hm_116 (rd_le hrd (by decide)) ck_8 (by decide +kernel) kw_1184 kw_1186 kw_52 kw_101 kw_1187 rfl (by decide +kernel) (by decide)) ?_
          refine gk_i2l h (by decide +kernel) ?_
          refine gk_ladd h (by decide +kernel) ?_
          refine gk_ldc2 (i := 150) h (by decide +kernel) kw_1189 ?_
          refine gk_lsub h (by decide +kernel) ?_
          refine gk_putL (i := 134) h ck_8 (by decide) rfl (Or.inl rfl) (by decide +kernel) kw_1012 ?_
          exact gk_jmp 4 rfl
  | 4 =>
    show GK X Q117 175 (o_aload 0 (o_dup (o_getI 8 4 (o_iconst 1 (o_i2 (fun x y => x + y) (o_putI 8 4 (o_jmp 3)))))))
    refine gk_aload_n (j := 0) h (by decide +kernel) rfl ?_
    refine gk_dup h (by decide +kernel) ?_
    refine gk_getI (i := 128) h ck_8 (by decide) (fun _ _ _ => rfl) (by decide +kernel) kw_1009 ?_
    refine gk_iconst (n := 1) h (by decide +kernel) (by decide) ?_
    refine gk_iadd h (by decide +kernel) ?_
    refine gk_putI (i := 128) h ck_8 (by decide) rfl (Or.inl rfl) (by decide +kernel) kw_1009 ?_
    refine gk_goto (off := (-76)) (tgt := 109) h (by decide +kernel) (by decide) ?_
    exact gk_jmp 3 rfl
  | 5 =>
    show GK X Q117 188 (o_aload 0 (o_aload 0 (o_getI 8 4 (o_aload 0 (o_getI 8 5 (o_i2 (fun x y => x - y) (o_iconst 8 (o_igt (o_iconst 4 (o_jmp 6)) (o_iconst 1 (o_jmp 6))))))))))
    refine gk_aload_n (j := 0) h (by decide +kernel) rfl ?_
    refine gk_aload_n (j := 0) h (by decide +kernel) rfl ?_
    refine gk_getI (i := 128) h ck_8 (by decide) (fun _ _ _ => rfl) (by decide +kernel) kw_1009 ?_
    refine gk_aload_n (j := 0) h (by decide +kernel) rfl ?_
    refine gk_getI (i := 131) h ck_8 (by decide) (fun _ _ _ => rfl) (by decide +kernel) kw_1010 ?_
    refine gk_isub h (by decide +kernel) ?_
    refine gk_bipush (n := 8) h (by decide +kernel) (by decide) ?_
    refine gk_icmple (off := 7) (tgt := 207) h (by decide +kernel) (by decide) ?_ ?_
    · refine gk_iconst (n := 1) h (by decide +kernel) (by decide) ?_
      exact gk_jmp 6 rfl
    · refine gk_iconst (n := 4) h (by decide +kernel) (by decide) ?_
      refine gk_goto (off := 4) (tgt := 208) h (by decide +kernel) (by decide) ?_
      exact gk_jmp 6 rfl
  | 6 =>
    show GK X Q117 208 (o_putI 8 6 (o_vret))
    refine gk_putI (i := 141) h ck_8 (by decide) rfl (Or.inl rfl) (by decide +kernel) kw_1011 ?_
    exact gk_vret h hR (by decide +kernel)
  | 7 =>
    show GK X Q117 212 (o_iload 1 (o_iconst 48 (o_ilt (o_jmp 12) (o_iload 1 (o_iconst 57 (o_igt (o_jmp 12) (o_jmp 8)))))))
    refine gk_iload_n (j := 1) h (by decide +kernel) rfl ?_
    refine gk_bipush (n := 48) h (by decide +kernel) (by decide) ?_
    refine gk_icmplt (off := 107) (tgt := 322) h (by decide +kernel) (by decide) ?_ ?_
    · exact gk_jmp 12 rfl
    · refine gk_iload_n (j := 1) h (by decide +kernel) rfl ?_
      refine gk_bipush (n := 57) h (by decide +kernel) (by decide) ?_
      refine gk_icmpgt (off := 101) (tgt := 322) h (by decide +kernel) (by decide) ?_ ?_
      · exact gk_jmp 12 rfl
      · exact gk_jmp 8 rfl
  | 8 =>
    show GK X Q117 224 (o_aload 0 (o_aload 0 (o_getI 8 4 (o_vI orc 116 2 8 (o_iconst 48 (o_ilt (o_jmp 10) (o_aload 0 (o_aload 0 (o_getI 8 4 (o_vI orc 116 2 8 (o_iconst 57 (o_igt (o_jmp 10) (o_aload 0 (o_getI 8 4 (o_aload 0 (o_getI 8 5 (o_i2 (fun x y => x - y) (o_iconst 4 (o_ilt (o_aload 0 (o_aload 0 (o_getI 8 8 (o_iconst 10 (o_i2 (fun x y => x * y) (o_aload 0 (o_aload 0 (o_getI 8 4 (o_vI orc 116 2 8 (o_i2 (fun x y => x + y) (o_iconst 48 (o_i2 (fun x y => x - y) (o_putI 8 8 (o_jmp 9)))))))))))))) (o_jmp 9))))))))))))))))))))
    refine gk_aload_n (j := 0) h (by decide +kernel) rfl ?_
    refine gk_aload_n (j := 0) h (by decide +kernel) rfl ?_
    refine gk_getI (i := 128) h ck_8 (by decide) (fun _ _ _ => rfl) (by decide +kernel) kw_1009 ?_
    refine gk_vI (ca_v (idx := 144) h ho hm_116 (rd_le hrd (by decide)) ck_8 (by decide +kernel) kw_1184 kw_1186 kw_52 kw_101 kw_1187 rfl (by decide +kernel) (by decide)) ?_
    refine gk_bipush (n := 48) h (by decide +kernel) (by decide) ?_
    refine gk_icmplt (off := 65) (tgt := 299) h (by decide +kernel) (by decide) ?_ ?_
    · exact gk_jmp 10 rfl
    · refine gk_aload_n (j := 0) h (by decide +kernel) rfl ?_
      refine gk_aload_n (j := 0) h (by decide +kernel) rfl ?_
      refine gk_getI (i := 128) h ck_8 (by decide) (fun _ _ _ => rfl) (by decide +kernel) kw_1009 ?_
      refine gk_vI (ca_v (idx := 144) h ho hm_116 (rd_le hrd (by decide)) ck_8 (by decide +kernel) kw_1184 kw_1186 kw_52 kw_101 kw_1187 rfl (by decide +kernel) (by decide)) ?_
      refine gk_bipush (n := 57) h (by decide +kernel) (by decide) ?_
      refine gk_icmpgt (off := 52) (tgt := 299) h (by decide +kernel) (by decide) ?_ ?_
      · exact gk_jmp 10 rfl
      · refine gk_aload_n (j := 0) h (by decide +kernel) rfl ?_
        refine gk_getI (i := 128) h ck_8 (by decide) (fun _ _ _ => rfl) (by decide +kernel) kw_1009 ?_
        refine gk_aload_n (j := 0) h (by decide +kernel) rfl ?_
        refine gk_getI (i := 131) h ck_8 (by decide) (fun _ _ _ => rfl) (by decide +kernel) kw_1010 ?_
        refine gk_isub h (by decide +kernel) ?_
        refine gk_iconst (n := 4) h (by decide +kernel) (by decide) ?_
        refine gk_icmpge (off := 26) (tgt := 286) h (by decide +kernel) (by decide) ?_ ?_
        · exact gk_jmp 9 rfl
        · refine gk_aload_n (j := 0) h (by decide +kernel) rfl ?_
          refine gk_aload_n (j := 0) h (by decide +kernel) rfl ?_
          refine gk_getI (i := 138) h ck_8 (by decide) (fun _ _ _ => rfl) (by decide +kernel) kw_1013 ?_
          refine gk_bipush (n := 10) h (by decide +kernel) (by decide) ?_
          refine gk_imul h (by decide +kernel) ?_
          refine gk_aload_n (j := 0) h (by decide +kernel) rfl ?_
          refine gk_aload_n (j := 0) h (by decide +kernel) rfl ?_
          refine gk_getI (i := 128) h ck_8 (by decide) (fun _ _ _ => rfl) (by decide +kernel) kw_1009 ?_
          refine gk_vI (ca_v (idx := 144) h ho hm_116 (rd_le hrd (by decide)) ck_8 (by decide +kernel) kw_1184 kw_1186 kw_52 kw_101 kw_1187 rfl (by decide +kernel) (by decide)) ?_
          refine gk_iadd h (by decide +kernel) ?_
          refine gk_bipush (n := 48) h (by decide +kernel) (by decide) ?_
          refine gk_isub h (by decide +kernel) ?_
          refine gk_putI (i := 138) h ck_8 (by decide) rfl (Or.inl rfl) (by decide +kernel) kw_1013 ?_
          exact gk_jmp 9 rfl
  | 9 =>
    show GK X Q117 286 (o_aload 0 (o_dup (o_getI 8 4 (o_iconst 1 (o_i2 (fun x y => x + y) (o_putI 8 4 (o_jmp 8)))))))
    refine gk_aload_n (j := 0) h (by decide +kernel) rfl ?_
    refine gk_dup h (by decide +kernel) ?_
    refine gk_getI (i := 128) h ck_8 (by decide) (fun _ _ _ => rfl) (by decide +kernel) kw_1009 ?_
    refine gk_iconst (n := 1) h (by decide +kernel) (by decide) ?_
    refine gk_iadd h (by decide +kernel) ?_
    refine gk_putI (i := 128) h ck_8 (by decide) rfl (Or.inl rfl) (by decide +kernel) kw_1009 ?_
    refine gk_goto (off := (-72)) (tgt := 224) h (by decide +kernel) (by decide) ?_
    exact gk_jmp 8 rfl
  | 10 =>
    show GK X Q117 299 (o_aload 0 (o_aload 0 (o_getI 8 4 (o_aload 0 (o_getI 8 5 (o_i2 (fun x y => x - y) (o_iconst 4 (o_igt (o_iconst 4 (o_jmp 11)) (o_iconst 2 (o_jmp 11))))))))))
    refine gk_aload_n (j := 0) h (by decide +kernel) rfl ?_
    refine gk_aload_n (j := 0) h (by decide +kernel) rfl ?_
    refine gk_getI (i := 128) h ck_8 (by decide) (fun _ _ _ => rfl) (by decide +kernel) kw_1009 ?_
    refine gk_aload_n (j := 0) h (by decide +kernel) rfl ?_
    refine gk_getI (i := 131) h ck_8 (by decide) (fun _ _ _ => rfl) (by decide +kernel) kw_1010 ?_
    refine gk_isub h (by decide +kernel) ?_
    refine gk_iconst (n := 4) h (by decide +kernel) (by decide) ?_
    refine gk_icmple (off := 7) (tgt := 317) h (by decide +kernel) (by decide) ?_ ?_
    · refine gk_iconst (n := 2) h (by decide +kernel) (by decide) ?_
      exact gk_jmp 11 rfl
    · refine gk_iconst (n := 4) h (by decide +kernel) (by decide) ?_
      refine gk_goto (off := 4) (tgt := 318) h (by decide +kernel) (by decide) ?_
      exact gk_jmp 11 rfl
  | 11 =>
    show GK X Q117 318 (o_putI 8 6 (o_vret))
    refine gk_putI (i := 141) h ck_8 (by decide) rfl (Or.inl rfl) (by decide +kernel) kw_1011 ?_
    exact gk_vret h hR (by decide +kernel)
  | 12 =>
    show GK X Q117 322 (o_aload 0 (o_dup (o_getI 8 4 (o_iconst 1 (o_i2 (fun x y => x + y) (o_putI 8 4 (o_aload 0 (o_iload 1 (o_iconst 40 (o_ilt (o_jmp 13) (o_iload 1 (o_iconst 43 (o_igt (o_jmp 13) (o_jmp 14))))))))))))))
    refine gk_aload_n (j := 0) h (by decide +kernel) rfl ?_
    refine gk_dup h (by decide +kernel) ?_
    refine gk_getI (i := 128) h ck_8 (by decide) (fun _ _ _ => rfl) (by decide +kernel) kw_1009 ?_
    refine gk_iconst (n := 1) h (by decide +kernel) (by decide) ?_
    refine gk_iadd h (by decide +kernel) ?_
    refine gk_putI (i := 128) h ck_8 (by decide) rfl (Or.inl rfl) (by decide +kernel) kw_1009 ?_
    refine gk_aload_n (j := 0) h (by decide +kernel) rfl ?_
    refine gk_iload_n (j := 1) h (by decide +kernel) rfl ?_
    refine gk_bipush (n := 40) h (by decide +kernel) (by decide) ?_
    refine gk_icmplt (off := 9) (tgt := 345) h (by decide +kernel) (by decide) ?_ ?_
    · exact gk_jmp 13 rfl
    · refine gk_iload_n (j := 1) h (by decide +kernel) rfl ?_
      refine gk_bipush (n := 43) h (by decide +kernel) (by decide) ?_
      refine gk_icmple (off := 21) (tgt := 363) h (by decide +kernel) (by decide) ?_ ?_
      · exact gk_jmp 14 rfl
      · exact gk_jmp 13 rfl
  | 13 =>
    show GK X Q117 345 (o_iload 1 (o_iconst 45 (o_ieq (o_jmp 14) (o_iload 1 (o_iconst 59 (o_ilt (o_jmp 15) (o_iload 1 (o_iconst 61 (o_igt (o_jmp 15) (o_jmp 14))))))))))
    refine gk_iload_n (j := 1) h (by decide +kernel) rfl ?_
    refine gk_bipush (n := 45) h (by decide +kernel) (by decide) ?_
    refine gk_icmpeq (off := 15) (tgt := 363) h (by decide +kernel) (by decide) ?_ ?_
    · exact gk_jmp 14 rfl
    · refine gk_iload_n (j := 1) h (by decide +kernel) rfl ?_
      refine gk_bipush (n := 59) h (by decide +kernel) (by decide) ?_
      refine gk_icmplt (off := 13) (tgt := 367) h (by decide +kernel) (by decide) ?_ ?_
      · exact gk_jmp 15 rfl
      · refine gk_iload_n (j := 1) h (by decide +kernel) rfl ?_
        refine gk_bipush (n := 61) h (by decide +kernel) (by decide) ?_
        refine gk_icmpgt (off := 7) (tgt := 367) h (by decide +kernel) (by decide) ?_ ?_
        · exact gk_jmp 15 rfl
        · exact gk_jmp 14 rfl
  | 14 =>
    show GK X Q117 363 (o_iconst 3 (o_jmp 16))
    refine gk_iconst (n := 3) h (by decide +kernel) (by decide) ?_
    refine gk_goto (off := 4) (tgt := 368) h (by decide +kernel) (by decide) ?_
    exact gk_jmp 16 rfl
  | 15 =>
    show GK X Q117 367 (o_iconst 4 (o_jmp 16))
    refine gk_iconst (n := 4) h (by decide +kernel) (by decide) ?_
    exact gk_jmp 16 rfl
  | 16 =>
    show GK X Q117 368 (o_putI 8 6 (o_vret))
    refine gk_putI (i := 141) h ck_8 (by decide) rfl (Or.inl rfl) (by decide +kernel) kw_1011 ?_
    exact gk_vret h hR (by decide +kernel)
  | _ + 17 => exact fun _ _ _ hr => hr.elim
set_option maxRecDepth 20000 in
set_option maxHeartbeats 4000000 in
theorem s_118 : MS mtab yX9_isWord cX9_isWord 3 (some .boolean) Q118 P118 := by
  intro X orc d h hR hnm hxn ho hrd b
  match b with
  | 0 =>
    show GK X Q118 0 (o_aload 0 (o_getI 8 6 (o_iconst 1 (o_ieq (o_aload 0 (o_getL 8 7 (o_lload 1 (o_lcmp (o_if0 (o_iconst 1 (o_zret)) (o_iconst 0 (o_zret))))))) (o_iconst 0 (o_zret))))))
    refine gk_aload_n (j := 0) h (by decide +kernel) rfl ?_
    refine gk_getI (i := 141) h ck_8 (by decide) (fun _ _ _ => rfl) (by decide +kernel) kw_1011 ?_
    refine gk_iconst (n := 1) h (by decide +kernel) (by decide) ?_
    refine gk_icmpne (off := 16) (tgt := 21) h (by decide +kernel) (by decide) ?_ ?_
    · refine gk_iconst (n := 0) h (by decide +kernel) (by decide) ?_
      exact gk_zret h hR (by decide +kernel)
    · refine gk_aload_n (j := 0) h (by decide +kernel) rfl ?_
      refine gk_getL (i := 134) h ck_8 (by decide) (fun _ _ _ => rfl) (by decide +kernel) kw_1012 ?_
      refine gk_lload_n (j := 1) h (by decide +kernel) rfl ?_
      refine gk_lcmp h (by decide +kernel) ?_
      refine gk_ifne (off := 7) (tgt := 21) h (by decide +kernel) (by decide) ?_ ?_
      · refine gk_iconst (n := 0) h (by decide +kernel) (by decide) ?_
        exact gk_zret h hR (by decide +kernel)
      · refine gk_iconst (n := 1) h (by decide +kernel) (by decide) ?_
        refine gk_goto (off := 4) (tgt := 22) h (by decide +kernel) (by decide) ?_
        exact gk_zret h hR (by decide +kernel)
  | _ + 1 => exact fun _ _ _ hr => hr.elim
set_option maxRecDepth 20000 in
set_option maxHeartbeats 4000000 in
theorem s_119 : MS mtab yX9_isSign cX9_isSign 2 (some .boolean) Q119 P119 := by
  intro X orc d h hR hnm hxn ho hrd b
  match b with
  | 0 =>
    show GK X Q119 0 (o_aload 0 (o_getI 8 6 (o_iconst 3 (o_ieq (o_aload 0 (o_getR 8 2 (o_aload 0 (o_getI 8 5 (o_iald 0 (o_iload 1 (o_ieq (o_iconst 1 (o_zret)) (o_iconst 0 (o_zret))))))))) (o_iconst 0 (o_zret))))))
    refine gk_aload_n (j := 0) h (by decide +kernel) rfl ?_
    refine gk_getI (i := 141) h ck_8 (by decide) (fun _ _ _ => rfl) (by decide +kernel) kw_1011 ?_
    refine gk_iconst (n := 3) h (by decide +kernel) (by decide) ?_
    refine gk_icmpne (off := 20) (tgt := 25) h (by decide +kernel) (by decide) ?_ ?_
    · refine gk_iconst (n := 0) h (by decide +kernel) (by decide) ?_
      exact gk_zret h hR (by decide +kernel)
    · refine gk_aload_n (j := 0) h (by decide +kernel) rfl ?_
      refine gk_getR (i := 7) h ck_8 (by decide) (fun _ _ _ => rfl) (by decide +kernel) kw_1007 ?_
      refine gk_aload_n (j := 0) h (by decide +kernel) rfl ?_
      refine gk_getI (i := 131) h ck_8 (by decide) (fun _ _ _ => rfl) (by decide +kernel) kw_1010 ?_
      refine gk_ald0 h (by decide +kernel) ?_
      refine gk_iload_n (j := 1) h (by decide +kernel) rfl ?_
      refine gk_icmpne (off := 7) (tgt := 25) h (by decide +kernel) (by decide) ?_ ?_
      · refine gk_iconst (n := 0) h (by decide +kernel) (by decide) ?_
        exact gk_zret h hR (by decide +kernel)
      · refine gk_iconst (n := 1) h (by decide +kernel) (by decide) ?_
        refine gk_goto (off := 4) (tgt := 26) h (by decide +kernel) (by decide) ?_
        exact gk_zret h hR (by decide +kernel)
  | _ + 1 => exact fun _ _ _ hr => hr.elim
set_option maxRecDepth 20000 in
set_option maxHeartbeats 4000000 in
theorem s_120 : MS mtab yX9_fails cX9_fails 2 (some .boolean) Q120 P120 := by
  intro X orc d h hR hnm hxn ho hrd b
  match b with
  | 0 =>
    show GK X Q120 0 (o_aload 0 (o_iload 1 (o_iconst 16 (o_aload 0 (o_getI 8 5 (o_i2 (fun x y => x * y) (o_i2 (fun x y => x + y) (o_putI 8 9 (o_iconst 0 (o_zret))))))))))
    refine gk_aload_n (j := 0) h (by decide +kernel) rfl ?_
    refine gk_iload_n (j := 1) h (by decide +kernel) rfl ?_
    refine gk_bipush (n := 16) h (by decide +kernel) (by decide) ?_
    refine gk_aload_n (j := 0) h (by decide +kernel) rfl ?_
    refine gk_getI (i := 131) h ck_8 (by decide) (fun _ _ _ => rfl) (by decide +kernel) kw_1010 ?_
    refine gk_imul h (by decide +kernel) ?_
    refine gk_iadd h (by decide +kernel) ?_
    refine gk_putI (i := 152) h ck_8 (by decide) rfl (Or.inl rfl) (by decide +kernel) kw_1014 ?_
    refine gk_iconst (n := 0) h (by decide +kernel) (by decide) ?_
    exact gk_zret h hR (by decide +kernel)
  | _ + 1 => exact fun _ _ _ hr => hr.elim
set_option maxRecDepth 20000 in
set_option maxHeartbeats 4000000 in
theorem s_121 : MS mtab yX9_puts cX9_puts 2 none Q121 P121 := by
  intro X orc d h hR hnm hxn ho hrd b
  match b with
  | 0 =>
    show GK X Q121 0 (o_aload 0 (o_getR 8 19 (o_aload 0 (o_getI 8 20 (o_iload 1 (o_iast 0 (fun x => x) (o_aload 0 (o_dup (o_getI 8 20 (o_iconst 1 (o_i2 (fun x y => x + y) (o_putI 8 20 (o_vret)))))))))))))
    refine gk_aload_n (j := 0) h (by decide +kernel) rfl ?_
    refine gk_getR (i := 41) h ck_8 (by decide) (fun _ _ _ => rfl) (by decide +kernel) kw_1024 ?_
    refine gk_aload_n (j := 0) h (by decide +kernel) rfl ?_
    refine gk_getI (i := 155) h ck_8 (by decide) (fun _ _ _ => rfl) (by decide +kernel) kw_1025 ?_
    refine gk_iload_n (j := 1) h (by decide +kernel) rfl ?_
    refine gk_ast0 h (by decide +kernel) ?_
    refine gk_aload_n (j := 0) h (by decide +kernel) rfl ?_
    refine gk_dup h (by decide +kernel) ?_
    refine gk_getI (i := 155) h ck_8 (by decide) (fun _ _ _ => rfl) (by decide +kernel) kw_1025 ?_
    refine gk_iconst (n := 1) h (by decide +kernel) (by decide) ?_
    refine gk_iadd h (by decide +kernel) ?_
    refine gk_putI (i := 155) h ck_8 (by decide) rfl (Or.inl rfl) (by decide +kernel) kw_1025 ?_
    exact gk_vret h hR (by decide +kernel)
  | _ + 1 => exact fun _ _ _ hr => hr.elim
set_option maxRecDepth 20000 in
set_option maxHeartbeats 4000000 in
theorem s_122 : MS mtab yX9_fact cX9_fact 1 (some .int) Q122 P122 := by
  intro X orc d h hR hnm hxn ho hrd b
  match b with
  | 0 =>
    show GK X Q122 0 (o_aload 0 (o_getI 8 6 (o_iconst 1 (o_ieq (o_aload 0 (o_getL 8 7 (o_lconst 459383 (o_lcmp (o_if0 (o_iconst 1 (o_iret)) (o_aload 0 (o_getL 8 7 (o_lconst 6491892 (o_lcmp (o_if0 (o_iconst 2 (o_iret)) (o_aload 0 (o_getL 8 7 (o_lconst 4555675 (o_lcmp (o_if0 (o_iconst 3 (o_iret)) (o_aload 0 (o_getL 8 7 (o_lconst 2968 (o_lcmp (o_if0 (o_iconst 4 (o_iret)) (o_iconst 0 (o_iret)))))))))))))))))))))) (o_iconst 0 (o_iret))))))
    refine gk_aload_n (j := 0) h (by decide +kernel) rfl ?_
    refine gk_getI (i := 141) h ck_8 (by decide) (fun _ _ _ => rfl) (by decide +kernel) kw_1011 ?_
    refine gk_iconst (n := 1) h (by decide +kernel) (by decide) ?_
    refine gk_icmpeq (off := 5) (tgt := 10) h (by decide +kernel) (by decide) ?_ ?_
    · refine gk_aload_n (j := 0) h (by decide +kernel) rfl ?_
      refine gk_getL (i := 134) h ck_8 (by decide) (fun _ _ _ => rfl) (by decide +kernel) kw_1012 ?_
      refine gk_ldc2 (i := 158) h (by decide +kernel) kw_1228 ?_
      refine gk_lcmp h (by decide +kernel) ?_
      refine gk_ifne (off := 5) (tgt := 23) h (by decide +kernel) (by decide) ?_ ?_
      · refine gk_aload_n (j := 0) h (by decide +kernel) rfl ?_
        refine gk_getL (i := 134) h ck_8 (by decide) (fun _ _ _ => rfl) (by decide +kernel) kw_1012 ?_
        refine gk_ldc2 (i := 160) h (by decide +kernel) kw_1229 ?_
        refine gk_lcmp h (by decide +kernel) ?_
        refine gk_ifne (off := 5) (tgt := 36) h (by decide +kernel) (by decide) ?_ ?_
        · refine gk_aload_n (j := 0) h (by decide +kernel) rfl ?_
          refine gk_getL (i := 134) h ck_8 (by decide) (fun _ _ _ => rfl) (by decide +kernel) kw_1012 ?_
          refine gk_ldc2 (i := 162) h (by decide +kernel) kw_1230 ?_
          refine gk_lcmp h (by decide +kernel) ?_
          refine gk_ifne (off := 5) (tgt := 49) h (by decide +kernel) (by decide) ?_ ?_
          · refine gk_aload_n (j := 0) h (by decide +kernel) rfl ?_
            refine gk_getL (i := 134) h ck_8 (by decide) (fun _ _ _ => rfl) (by decide +kernel) kw_1012 ?_
            refine gk_ldc2 (i := 164) h (by decide +kernel) kw_1231 ?_
            refine gk_lcmp h (by decide +kernel) ?_
            refine gk_ifne (off := 5) (tgt := 62) h (by decide +kernel) (by decide) ?_ ?_
            · refine gk_iconst (n := 0) h (by decide +kernel) (by decide) ?_
              exact gk_iret h hR (by decide +kernel)
            · refine gk_iconst (n := 4) h (by decide +kernel) (by decide) ?_
              exact gk_iret h hR (by decide +kernel)
          · refine gk_iconst (n := 3) h (by decide +kernel) (by decide) ?_
            exact gk_iret h hR (by decide +kernel)
        · refine gk_iconst (n := 2) h (by decide +kernel) (by decide) ?_
          exact gk_iret h hR (by decide +kernel)
      · refine gk_iconst (n := 1) h (by decide +kernel) (by decide) ?_
        exact gk_iret h hR (by decide +kernel)
    · refine gk_iconst (n := 0) h (by decide +kernel) (by decide) ?_
      exact gk_iret h hR (by decide +kernel)
  | _ + 1 => exact fun _ _ _ hr => hr.elim
set_option maxRecDepth 20000 in
set_option maxHeartbeats 4000000 in
theorem s_123 : MS mtab yX9_reads cX9_reads 6 (some .boolean) Q123 P123 := by
  intro X orc d h hR hnm hxn ho hrd b
  match b with
  | 0 =>
    show GK X Q123 0 (o_iconst 0 (o_istore 1 (o_iconst 1 (o_istore 2 (o_aload 0 (o_getR 8 24 (o_iconst 0 (o_iconst 0 (o_iast 4 (fun x => vp_nar .boolean x) (o_jmp 1))))))))))
    refine gk_iconst (n := 0) h (by decide +kernel) (by decide) ?_
    refine gk_istore_n (j := 1) h (by decide +kernel) rfl hxn (by decide) ?_
    refine gk_iconst (n := 1) h (by decide +kernel) (by decide) ?_
    refine gk_istore_n (j := 2) h (by decide +kernel) rfl hxn (by decide) ?_
    refine gk_aload_n (j := 0) h (by decide +kernel) rfl ?_
    refine gk_getR (i := 47) h ck_8 (by decide) (fun _ _ _ => rfl) (by decide +kernel) kw_1029 ?_
    refine gk_iconst (n := 0) h (by decide +kernel) (by decide) ?_
    refine gk_iconst (n := 0) h (by decide +kernel) (by decide) ?_
    refine gk_ast4 h (by decide +kernel) ?_
    exact gk_jmp 1 rfl
  | 1 =>
    show GK X Q123 11 (o_iload 2 (o_if0 (o_aload 0 (o_iconst 43 (o_vI orc 119 2 8 (o_if0 (o_aload 0 (o_iconst 45 (o_vI orc 119 2 8 (o_if0 (o_aload 0 (o_iconst 42 (o_vI orc 119 2 8 (o_if0 (o_aload 0 (o_iconst 60 (o_vI orc 119 2 8 (o_if0 (o_aload 0 (o_iconst 61 (o_vI orc 119 2 8 (o_if0 (o_jmp 13) (o_jmp 11))))) (o_jmp 11))))) (o_jmp 9))))) (o_jmp 9))))) (o_jmp 9))))) (o_aload 0 (o_vI orc 122 1 8 (o_istore 3 (o_aload 0 (o_lconst 10631 (o_vI orc 118 2 8 (o_istore 4 (o_aload 0 (o_iconst 40 (o_vI orc 119 2 8 (o_istore 5 (o_iload 3 (o_if0 (o_iload 4 (o_if0 (o_iload 5 (o_if0 (o_aload 0 (o_getI 8 6 (o_iconst 2 (o_ieq (o_jmp 2) (o_aload 0 (o_iconst 1 (o_vI orc 120 2 8 (o_zret)))))))) (o_jmp 2))) (o_jmp 2))) (o_jmp 2))))))))))))))))
    refine gk_iload_n (j := 2) h (by decide +kernel) rfl ?_
    refine gk_ifeq (off := 167) (tgt := 179) h (by decide +kernel) (by decide) ?_ ?_
    · refine gk_aload_n (j := 0) h (by decide +kernel) rfl ?_
      refine gk_bipush (n := 43) h (by decide +kernel) (by decide) ?_
      refine gk_vI (ca_v (idx := 176) h ho hm_119 (rd_le hrd (by decide)) ck_8 (by decide +kernel) kw_1207 kw_1209 kw_57 kw_101 kw_1210 rfl (by decide +kernel) (by decide)) ?_
      refine gk_ifne (off := 21) (tgt := 206) h (by decide +kernel) (by decide) ?_ ?_
      · exact gk_jmp 9 rfl
      · refine gk_aload_n (j := 0) h (by decide +kernel) rfl ?_
        refine gk_bipush (n := 45) h (by decide +kernel) (by decide) ?_
        refine gk_vI (ca_v (idx := 176) h ho hm_119 (rd_le hrd (by decide)) ck_8 (by decide +kernel) kw_1207 kw_1209 kw_57 kw_101 kw_1210 rfl (by decide +kernel) (by decide)) ?_
        refine gk_ifne (off := 12) (tgt := 206) h (by decide +kernel) (by decide) ?_ ?_
        · exact gk_jmp 9 rfl
        · refine gk_aload_n (j := 0) h (by decide +kernel) rfl ?_
          refine gk_bipush (n := 42) h (by decide +kernel) (by decide) ?_
          refine gk_vI (ca_v (idx := 176) h ho hm_119 (rd_le hrd (by decide)) ck_8 (by decide +kernel) kw_1207 kw_1209 kw_57 kw_101 kw_1210 rfl (by decide +kernel) (by decide)) ?_
          refine gk_ifeq (off := 42) (tgt := 245) h (by decide +kernel) (by decide) ?_ ?_
          · refine gk_aload_n (j := 0) h (by decide +kernel) rfl ?_
            refine gk_bipush (n := 60) h (by decide +kernel) (by decide) ?_
            refine gk_vI (ca_v (idx := 176) h ho hm_119 (rd_le hrd (by decide)) ck_8 (by decide +kernel) kw_1207 kw_1209 kw_57 kw_101 kw_1210 rfl (by decide +kernel) (by decide)) ?_
            refine gk_ifne (off := 12) (tgt := 263) h (by decide +kernel) (by decide) ?_ ?_
            · exact gk_jmp 11 rfl
            · refine gk_aload_n (j := 0) h (by decide +kernel) rfl ?_
              refine gk_bipush (n := 61) h (by decide +kernel) (by decide) ?_
              refine gk_vI (ca_v (idx := 176) h ho hm_119 (rd_le hrd (by decide)) ck_8 (by decide +kernel) kw_1207 kw_1209 kw_57 kw_101 kw_1210 rfl (by decide +kernel) (by decide)) ?_
              refine gk_ifeq (off := 44) (tgt := 304) h (by decide +kernel) (by decide) ?_ ?_
              · exact gk_jmp 13 rfl
              · exact gk_jmp 11 rfl
          · exact gk_jmp 9 rfl
    · refine gk_aload_n (j := 0) h (by decide +kernel) rfl ?_
      refine gk_vI (ca_v (idx := 166) h ho hm_122 (rd_le hrd (by decide)) ck_8 (by decide +kernel) kw_1251 kw_1253 kw_64 kw_101 kw_1254 rfl (by decide +kernel) (by decide)) ?_
      refine gk_istore_n (j := 3) h (by decide +kernel) rfl hxn (by decide) ?_
      refine gk_aload_n (j := 0) h (by decide +kernel) rfl ?_
      refine gk_ldc2 (i := 170) h (by decide +kernel) kw_1232 ?_
      refine gk_vI (ca_v (idx := 172) h ho hm_118 (rd_le hrd (by decide)) ck_8 (by decide +kernel) kw_1191 kw_1193 kw_53 kw_101 kw_1194 rfl (by decide +kernel) (by decide)) ?_
      refine gk_istore h (by decide +kernel) hxn (by decide) ?_
      refine gk_aload_n (j := 0) h (by decide +kernel) rfl ?_
      refine gk_bipush (n := 40) h (by decide +kernel) (by decide) ?_
      refine gk_vI (ca_v (idx := 176) h ho hm_119 (rd_le hrd (by decide)) ck_8 (by decide +kernel) kw_1207 kw_1209 kw_57 kw_101 kw_1210 rfl (by decide +kernel) (by decide)) ?_
      refine gk_istore h (by decide +kernel) hxn (by decide) ?_
      refine gk_iload_n (j := 3) h (by decide +kernel) rfl ?_
      refine gk_ifne (off := 27) (tgt := 65) h (by decide +kernel) (by decide) ?_ ?_
      · exact gk_jmp 2 rfl
      · refine gk_iload h (by decide +kernel) ?_
        refine gk_ifne (off := 22) (tgt := 65) h (by decide +kernel) (by decide) ?_ ?_
        · exact gk_jmp 2 rfl
        · refine gk_iload h (by decide +kernel) ?_
          refine gk_ifne (off := 17) (tgt := 65) h (by decide +kernel) (by decide) ?_ ?_
          · exact gk_jmp 2 rfl
          · refine gk_aload_n (j := 0) h (by decide +kernel) rfl ?_
            refine gk_getI (i := 141) h ck_8 (by decide) (fun _ _ _ => rfl) (by decide +kernel) kw_1011 ?_
            refine gk_iconst (n := 2) h (by decide +kernel) (by decide) ?_
            refine gk_icmpeq (off := 9) (tgt := 65) h (by decide +kernel) (by decide) ?_ ?_
            · exact gk_jmp 2 rfl
            · refine gk_aload_n (j := 0) h (by decide +kernel) rfl ?_
              refine gk_iconst (n := 1) h (by decide +kernel) (by decide) ?_
              refine gk_vI (ca_v (idx := 180) h ho hm_120 (rd_le hrd (by decide)) ck_8 (by decide +kernel) kw_1195 kw_1197 kw_54 kw_101 kw_1198 rfl (by decide +kernel) (by decide)) ?_
              exact gk_zret h hR (by decide +kernel)
  | 2 =>
    show GK X Q123 65 (o_iload 1 (o_iconst 5 (o_ieq (o_aload 0 (o_iconst 5 (o_vI orc 120 2 8 (o_zret)))) (o_iload 4 (o_if0 (o_iload 5 (o_if0 (o_aload 0 (o_iload 3 (o_ifp (o_iload 3 (o_jmp 6)) (o_iconst 100 (o_aload 0 (o_getI 8 8 (o_i2 (fun x y => x + y) (o_jmp 6)))))))) (o_jmp 3))) (o_jmp 3))))))
    refine gk_iload_n (j := 1) h (by decide +kernel) rfl ?_
    refine gk_iconst (n := 5) h (by decide +kernel) (by decide) ?_
    refine gk_icmpne (off := 9) (tgt := 76) h (by decide +kernel) (by decide) ?_ ?_
    · refine gk_iload h (by decide +kernel) ?_
      refine gk_ifne (off := 8) (tgt := 86) h (by decide +kernel) (by decide) ?_ ?_
      · exact gk_jmp 3 rfl
      · refine gk_iload h (by decide +kernel) ?_
        refine gk_ifeq (off := 48) (tgt := 131) h (by decide +kernel) (by decide) ?_ ?_
        · refine gk_aload_n (j := 0) h (by decide +kernel) rfl ?_
          refine gk_iload_n (j := 3) h (by decide +kernel) rfl ?_
          refine gk_ifle (off := 7) (tgt := 140) h (by decide +kernel) (by decide) ?_ ?_
          · refine gk_bipush (n := 100) h (by decide +kernel) (by decide) ?_
            refine gk_aload_n (j := 0) h (by decide +kernel) rfl ?_
            refine gk_getI (i := 138) h ck_8 (by decide) (fun _ _ _ => rfl) (by decide +kernel) kw_1013 ?_
            refine gk_iadd h (by decide +kernel) ?_
            exact gk_jmp 6 rfl
          · refine gk_iload_n (j := 3) h (by decide +kernel) rfl ?_
            refine gk_goto (off := 10) (tgt := 147) h (by decide +kernel) (by decide) ?_
            exact gk_jmp 6 rfl
        · exact gk_jmp 3 rfl
    · refine gk_aload_n (j := 0) h (by decide +kernel) rfl ?_
      refine gk_iconst (n := 5) h (by decide +kernel) (by decide) ?_
      refine gk_vI (ca_v (idx := 180) h ho hm_120 (rd_le hrd (by decide)) ck_8 (by decide +kernel) kw_1195 kw_1197 kw_54 kw_101 kw_1198 rfl (by decide +kernel) (by decide)) ?_
      exact gk_zret h hR (by decide +kernel)
  | 3 =>
    show GK X Q123 86 (o_aload 0 (o_iload 4 (o_if0 (o_iconst 28 (o_jmp 4)) (o_iconst 30 (o_jmp 4)))))
    refine gk_aload_n (j := 0) h (by decide +kernel) rfl ?_
    refine gk_iload h (by decide +kernel) ?_
    refine gk_ifeq (off := 8) (tgt := 97) h (by decide +kernel) (by decide) ?_ ?_
    · refine gk_bipush (n := 28) h (by decide +kernel) (by decide) ?_
      exact gk_jmp 4 rfl
    · refine gk_bipush (n := 30) h (by decide +kernel) (by decide) ?_
      refine gk_goto (off := 5) (tgt := 99) h (by decide +kernel) (by decide) ?_
      exact gk_jmp 4 rfl
  | 4 =>
    show GK X Q123 99 (o_vV orc 121 2 8 (o_iinc 1 1 (o_aload 0 (o_getR 8 23 (o_iload 1 (o_iload 4 (o_if0 (o_iconst 2 (o_jmp 5)) (o_iconst 1 (o_jmp 5)))))))))
    refine gk_vV (ca_v (idx := 183) h ho hm_121 (rd_le hrd (by decide)) ck_8 (by decide +kernel) kw_1255 kw_1257 kw_65 kw_101 kw_1258 rfl (by decide +kernel) (by decide)) ?_
    refine gk_iinc (z := 1) h (by decide +kernel) (by decide) hxn (by decide) ?_
    refine gk_aload_n (j := 0) h (by decide +kernel) rfl ?_
    refine gk_getR (i := 44) h ck_8 (by decide) (fun _ _ _ => rfl) (by decide +kernel) kw_1028 ?_
    refine gk_iload_n (j := 1) h (by decide +kernel) rfl ?_
    refine gk_iload h (by decide +kernel) ?_
    refine gk_ifeq (off := 7) (tgt := 119) h (by decide +kernel) (by decide) ?_ ?_
    · refine gk_iconst (n := 2) h (by decide +kernel) (by decide) ?_
      exact gk_jmp 5 rfl
    · refine gk_iconst (n := 1) h (by decide +kernel) (by decide) ?_
      refine gk_goto (off := 4) (tgt := 120) h (by decide +kernel) (by decide) ?_
      exact gk_jmp 5 rfl
  | 5 =>
    show GK X Q123 120 (o_iast 0 (fun x => x) (o_aload 0 (o_getR 8 24 (o_iload 1 (o_iconst 0 (o_iast 4 (fun x => vp_nar .boolean x) (o_jmp 8)))))))
    refine gk_ast0 h (by decide +kernel) ?_
    refine gk_aload_n (j := 0) h (by decide +kernel) rfl ?_
    refine gk_getR (i := 47) h ck_8 (by decide) (fun _ _ _ => rfl) (by decide +kernel) kw_1029 ?_
    refine gk_iload_n (j := 1) h (by decide +kernel) rfl ?_
    refine gk_iconst (n := 0) h (by decide +kernel) (by decide) ?_
    refine gk_ast4 h (by decide +kernel) ?_
    refine gk_goto (off := 44) (tgt := 172) h (by decide +kernel) (by decide) ?_
    exact gk_jmp 8 rfl
  | 6 =>
    show GK X Q123 147 (o_vV orc 121 2 8 (o_iconst 0 (o_istore 2 (o_jmp 7))))
    refine gk_vV (ca_v (idx := 183) h ho hm_121 (rd_le hrd (by decide)) ck_8 (by decide +kernel) kw_1255 kw_1257 kw_65 kw_101 kw_1258 rfl (by decide +kernel) (by decide)) ?_
    refine gk_iconst (n := 0) h (by decide +kernel) (by decide) ?_
    refine gk_istore_n (j := 2) h (by decide +kernel) rfl hxn (by decide) ?_
    exact gk_jmp 7 rfl
  | 7 =>
    show GK X Q123 152 (o_iload 1 (o_ifp (o_aload 0 (o_getR 8 23 (o_iload 1 (o_iald 0 (o_iconst 1 (o_ieq (o_iinc 1 (-1) (o_jmp 7)) (o_jmp 8))))))) (o_jmp 8)))
    refine gk_iload_n (j := 1) h (by decide +kernel) rfl ?_
    refine gk_ifle (off := 19) (tgt := 172) h (by decide +kernel) (by decide) ?_ ?_
    · exact gk_jmp 8 rfl
    · refine gk_aload_n (j := 0) h (by decide +kernel) rfl ?_
      refine gk_getR (i := 44) h ck_8 (by decide) (fun _ _ _ => rfl) (by decide +kernel) kw_1028 ?_
      refine gk_iload_n (j := 1) h (by decide +kernel) rfl ?_
      refine gk_ald0 h (by decide +kernel) ?_
      refine gk_iconst (n := 1) h (by decide +kernel) (by decide) ?_
      refine gk_icmpne (off := 9) (tgt := 172) h (by decide +kernel) (by decide) ?_ ?_
      · exact gk_jmp 8 rfl
      · refine gk_iinc (z := (-1)) h (by decide +kernel) (by decide) hxn (by decide) ?_
        refine gk_goto (off := (-17)) (tgt := 152) h (by decide +kernel) (by decide) ?_
        exact gk_jmp 7 rfl
  | 8 =>
    show GK X Q123 172 (o_aload 0 (o_vV orc 117 1 8 (o_jmp 1)))
    refine gk_aload_n (j := 0) h (by decide +kernel) rfl ?_
    refine gk_vV (ca_v (idx := 187) h ho hm_117 (rd_le hrd (by decide)) ck_8 (by decide +kernel) kw_1180 kw_1182 kw_51 kw_101 kw_1183 rfl (by decide +kernel) (by decide)) ?_
    refine gk_goto (off := (-165)) (tgt := 11) h (by decide +kernel) (by decide) ?_
    exact gk_jmp 1 rfl
  | 9 =>
    show GK X Q123 206 (o_aload 0 (o_aload 0 (o_iconst 43 (o_vI orc 119 2 8 (o_if0 (o_aload 0 (o_iconst 45 (o_vI orc 119 2 8 (o_if0 (o_iconst 22 (o_jmp 10)) (o_iconst 21 (o_jmp 10)))))) (o_iconst 20 (o_jmp 10)))))))
    refine gk_aload_n (j := 0) h (by decide +kernel) rfl ?_
    refine gk_aload_n (j := 0) h (by decide +kernel) rfl ?_
    refine gk_bipush (n := 43) h (by decide +kernel) (by decide) ?_
    refine gk_vI (ca_v (idx := 176) h ho hm_119 (rd_le hrd (by decide)) ck_8 (by decide +kernel) kw_1207 kw_1209 kw_57 kw_101 kw_1210 rfl (by decide +kernel) (by decide)) ?_
    refine gk_ifeq (off := 8) (tgt := 221) h (by decide +kernel) (by decide) ?_ ?_
    · refine gk_aload_n (j := 0) h (by decide +kernel) rfl ?_
      refine gk_bipush (n := 45) h (by decide +kernel) (by decide) ?_
      refine gk_vI (ca_v (idx := 176) h ho hm_119 (rd_le hrd (by decide)) ck_8 (by decide +kernel) kw_1207 kw_1209 kw_57 kw_101 kw_1210 rfl (by decide +kernel) (by decide)) ?_
      refine gk_ifeq (off := 8) (tgt := 235) h (by decide +kernel) (by decide) ?_ ?_
      · refine gk_bipush (n := 22) h (by decide +kernel) (by decide) ?_
        exact gk_jmp 10 rfl
      · refine gk_bipush (n := 21) h (by decide +kernel) (by decide) ?_
        refine gk_goto (off := 5) (tgt := 237) h (by decide +kernel) (by decide) ?_
        exact gk_jmp 10 rfl
    · refine gk_bipush (n := 20) h (by decide +kernel) (by decide) ?_
      refine gk_goto (off := 19) (tgt := 237) h (by decide +kernel) (by decide) ?_
      exact gk_jmp 10 rfl
  | 10 =>
    show GK X Q123 237 (o_vV orc 121 2 8 (o_iconst 1 (o_istore 2 (o_jmp 19))))
    refine gk_vV (ca_v (idx := 183) h ho hm_121 (rd_le hrd (by decide)) ck_8 (by decide +kernel) kw_1255 kw_1257 kw_65 kw_101 kw_1258 rfl (by decide +kernel) (by decide)) ?_
    refine gk_iconst (n := 1) h (by decide +kernel) (by decide) ?_
    refine gk_istore_n (j := 2) h (by decide +kernel) rfl hxn (by decide) ?_
    refine gk_goto (off := 182) (tgt := 424) h (by decide +kernel) (by decide) ?_
    exact gk_jmp 19 rfl
  | 11 =>
    show GK X Q123 263 (o_aload 0 (o_getR 8 24 (o_iload 1 (o_iald 4 (o_if0 (o_aload 0 (o_aload 0 (o_iconst 60 (o_vI orc 119 2 8 (o_if0 (o_iconst 25 (o_jmp 12)) (o_iconst 24 (o_jmp 12))))))) (o_jmp 13))))))
    refine gk_aload_n (j := 0) h (by decide +kernel) rfl ?_
    refine gk_getR (i := 47) h ck_8 (by decide) (fun _ _ _ => rfl) (by decide +kernel) kw_1029 ?_
    refine gk_iload_n (j := 1) h (by decide +kernel) rfl ?_
    refine gk_ald4 h (by decide +kernel) ?_
    refine gk_ifne (off := 35) (tgt := 304) h (by decide +kernel) (by decide) ?_ ?_
    · exact gk_jmp 13 rfl
    · refine gk_aload_n (j := 0) h (by decide +kernel) rfl ?_
      refine gk_aload_n (j := 0) h (by decide +kernel) rfl ?_
      refine gk_bipush (n := 60) h (by decide +kernel) (by decide) ?_
      refine gk_vI (ca_v (idx := 176) h ho hm_119 (rd_le hrd (by decide)) ck_8 (by decide +kernel) kw_1207 kw_1209 kw_57 kw_101 kw_1210 rfl (by decide +kernel) (by decide)) ?_
      refine gk_ifeq (off := 8) (tgt := 287) h (by decide +kernel) (by decide) ?_ ?_
      · refine gk_bipush (n := 25) h (by decide +kernel) (by decide) ?_
        exact gk_jmp 12 rfl
      · refine gk_bipush (n := 24) h (by decide +kernel) (by decide) ?_
        refine gk_goto (off := 5) (tgt := 289) h (by decide +kernel) (by decide) ?_
        exact gk_jmp 12 rfl
  | 12 =>
    show GK X Q123 289 (o_vV orc 121 2 8 (o_aload 0 (o_getR 8 24 (o_iload 1 (o_iconst 1 (o_iast 4 (fun x => vp_nar .boolean x) (o_iconst 1 (o_istore 2 (o_jmp 19)))))))))
    refine gk_vV (ca_v (idx := 183) h ho hm_121 (rd_le hrd (by decide)) ck_8 (by decide +kernel) kw_1255 kw_1257 kw_65 kw_101 kw_1258 rfl (by decide +kernel) (by decide)) ?_
    refine gk_aload_n (j := 0) h (by decide +kernel) rfl ?_
    refine gk_getR (i := 47) h ck_8 (by decide) (fun _ _ _ => rfl) (by decide +kernel) kw_1029 ?_
    refine gk_iload_n (j := 1) h (by decide +kernel) rfl ?_
    refine gk_iconst (n := 1) h (by decide +kernel) (by decide) ?_
    refine gk_ast4 h (by decide +kernel) ?_
    refine gk_iconst (n := 1) h (by decide +kernel) (by decide) ?_
    refine gk_istore_n (j := 2) h (by decide +kernel) rfl hxn (by decide) ?_
    refine gk_goto (off := 123) (tgt := 424) h (by decide +kernel) (by decide) ?_
    exact gk_jmp 19 rfl
  | 13 =>
    show GK X Q123 304 (o_aload 0 (o_lconst 1111 (o_vI orc 118 2 8 (o_if0 (o_aload 0 (o_lconst 423 (o_vI orc 118 2 8 (o_if0 (o_aload 0 (o_iconst 41 (o_vI orc 119 2 8 (o_if0 (o_jmp 17) (o_iload 1 (o_ifp (o_aload 0 (o_iconst 29 (o_vV orc 121 2 8 (o_iinc 1 (-1) (o_jmp 16))))) (o_jmp 17))))))) (o_jmp 14))))) (o_jmp 14)))))
    refine gk_aload_n (j := 0) h (by decide +kernel) rfl ?_
    refine gk_ldc2 (i := 190) h (by decide +kernel) kw_1233 ?_
    refine gk_vI (ca_v (idx := 172) h ho hm_118 (rd_le hrd (by decide)) ck_8 (by decide +kernel) kw_1191 kw_1193 kw_53 kw_101 kw_1194 rfl (by decide +kernel) (by decide)) ?_
    refine gk_ifne (off := 13) (tgt := 324) h (by decide +kernel) (by decide) ?_ ?_
    · exact gk_jmp 14 rfl
    · refine gk_aload_n (j := 0) h (by decide +kernel) rfl ?_
      refine gk_ldc2 (i := 192) h (by decide +kernel) kw_1234 ?_
      refine gk_vI (ca_v (idx := 172) h ho hm_118 (rd_le hrd (by decide)) ck_8 (by decide +kernel) kw_1191 kw_1193 kw_53 kw_101 kw_1194 rfl (by decide +kernel) (by decide)) ?_
      refine gk_ifeq (off := 36) (tgt := 357) h (by decide +kernel) (by decide) ?_ ?_
      · refine gk_aload_n (j := 0) h (by decide +kernel) rfl ?_
        refine gk_bipush (n := 41) h (by decide +kernel) (by decide) ?_
        refine gk_vI (ca_v (idx := 176) h ho hm_119 (rd_le hrd (by decide)) ck_8 (by decide +kernel) kw_1207 kw_1209 kw_57 kw_101 kw_1210 rfl (by decide +kernel) (by decide)) ?_
        refine gk_ifeq (off := 36) (tgt := 399) h (by decide +kernel) (by decide) ?_ ?_
        · exact gk_jmp 17 rfl
        · refine gk_iload_n (j := 1) h (by decide +kernel) rfl ?_
          refine gk_ifle (off := 32) (tgt := 399) h (by decide +kernel) (by decide) ?_ ?_
          · exact gk_jmp 17 rfl
          · refine gk_aload_n (j := 0) h (by decide +kernel) rfl ?_
            refine gk_bipush (n := 29) h (by decide +kernel) (by decide) ?_
            refine gk_vV (ca_v (idx := 183) h ho hm_121 (rd_le hrd (by decide)) ck_8 (by decide +kernel) kw_1255 kw_1257 kw_65 kw_101 kw_1258 rfl (by decide +kernel) (by decide)) ?_
            refine gk_iinc (z := (-1)) h (by decide +kernel) (by decide) hxn (by decide) ?_
            exact gk_jmp 16 rfl
      · exact gk_jmp 14 rfl
  | 14 =>
    show GK X Q123 324 (o_aload 0 (o_aload 0 (o_lconst 1111 (o_vI orc 118 2 8 (o_if0 (o_iconst 27 (o_jmp 15)) (o_iconst 26 (o_jmp 15)))))))
    refine gk_aload_n (j := 0) h (by decide +kernel) rfl ?_
    refine gk_aload_n (j := 0) h (by decide +kernel) rfl ?_
    refine gk_ldc2 (i := 190) h (by decide +kernel) kw_1233 ?_
    refine gk_vI (ca_v (idx := 172) h ho hm_118 (rd_le hrd (by decide)) ck_8 (by decide +kernel) kw_1191 kw_1193 kw_53 kw_101 kw_1194 rfl (by decide +kernel) (by decide)) ?_
    refine gk_ifeq (off := 8) (tgt := 340) h (by decide +kernel) (by decide) ?_ ?_
    · refine gk_bipush (n := 27) h (by decide +kernel) (by decide) ?_
      exact gk_jmp 15 rfl
    · refine gk_bipush (n := 26) h (by decide +kernel) (by decide) ?_
      refine gk_goto (off := 5) (tgt := 342) h (by decide +kernel) (by decide) ?_
      exact gk_jmp 15 rfl
  | 15 =>
    show GK X Q123 342 (o_vV orc 121 2 8 (o_aload 0 (o_getR 8 24 (o_iload 1 (o_iconst 0 (o_iast 4 (fun x => vp_nar .boolean x) (o_iconst 1 (o_istore 2 (o_jmp 19)))))))))
    refine gk_vV (ca_v (idx := 183) h ho hm_121 (rd_le hrd (by decide)) ck_8 (by decide +kernel) kw_1255 kw_1257 kw_65 kw_101 kw_1258 rfl (by decide +kernel) (by decide)) ?_
    refine gk_aload_n (j := 0) h (by decide +kernel) rfl ?_
    refine gk_getR (i := 47) h ck_8 (by decide) (fun _ _ _ => rfl) (by decide +kernel) kw_1029 ?_
    refine gk_iload_n (j := 1) h (by decide +kernel) rfl ?_
    refine gk_iconst (n := 0) h (by decide +kernel) (by decide) ?_
    refine gk_ast4 h (by decide +kernel) ?_
    refine gk_iconst (n := 1) h (by decide +kernel) (by decide) ?_
    refine gk_istore_n (j := 2) h (by decide +kernel) rfl hxn (by decide) ?_
    refine gk_goto (off := 70) (tgt := 424) h (by decide +kernel) (by decide) ?_
    exact gk_jmp 19 rfl
  | 16 =>
    show GK X Q123 379 (o_iload 1 (o_ifp (o_aload 0 (o_getR 8 23 (o_iload 1 (o_iald 0 (o_iconst 1 (o_ieq (o_iinc 1 (-1) (o_jmp 16)) (o_jmp 19))))))) (o_jmp 19)))
    refine gk_iload_n (j := 1) h (by decide +kernel) rfl ?_
    refine gk_ifle (off := 44) (tgt := 424) h (by decide +kernel) (by decide) ?_ ?_
    · exact gk_jmp 19 rfl
    · refine gk_aload_n (j := 0) h (by decide +kernel) rfl ?_
      refine gk_getR (i := 44) h ck_8 (by decide) (fun _ _ _ => rfl) (by decide +kernel) kw_1028 ?_
      refine gk_iload_n (j := 1) h (by decide +kernel) rfl ?_
      refine gk_ald0 h (by decide +kernel) ?_
      refine gk_iconst (n := 1) h (by decide +kernel) (by decide) ?_
      refine gk_icmpne (off := 34) (tgt := 424) h (by decide +kernel) (by decide) ?_ ?_
      · exact gk_jmp 19 rfl
      · refine gk_iinc (z := (-1)) h (by decide +kernel) (by decide) hxn (by decide) ?_
        refine gk_goto (off := (-17)) (tgt := 379) h (by decide +kernel) (by decide) ?_
        exact gk_jmp 16 rfl
  | 17 =>
    show GK X Q123 399 (o_iload 1 (o_if0 (o_aload 0 (o_iconst 59 (o_vI orc 119 2 8 (o_if0 (o_jmp 18) (o_aload 0 (o_vV orc 117 1 8 (o_iconst 1 (o_zret)))))))) (o_jmp 18)))
    refine gk_iload_n (j := 1) h (by decide +kernel) rfl ?_
    refine gk_ifne (off := 18) (tgt := 418) h (by decide +kernel) (by decide) ?_ ?_
    · exact gk_jmp 18 rfl
    · refine gk_aload_n (j := 0) h (by decide +kernel) rfl ?_
      refine gk_bipush (n := 59) h (by decide +kernel) (by decide) ?_
      refine gk_vI (ca_v (idx := 176) h ho hm_119 (rd_le hrd (by decide)) ck_8 (by decide +kernel) kw_1207 kw_1209 kw_57 kw_101 kw_1210 rfl (by decide +kernel) (by decide)) ?_
      refine gk_ifeq (off := 9) (tgt := 418) h (by decide +kernel) (by decide) ?_ ?_
      · exact gk_jmp 18 rfl
      · refine gk_aload_n (j := 0) h (by decide +kernel) rfl ?_
        refine gk_vV (ca_v (idx := 187) h ho hm_117 (rd_le hrd (by decide)) ck_8 (by decide +kernel) kw_1180 kw_1182 kw_51 kw_101 kw_1183 rfl (by decide +kernel) (by decide)) ?_
        refine gk_iconst (n := 1) h (by decide +kernel) (by decide) ?_
        exact gk_zret h hR (by decide +kernel)
  | 18 =>
    show GK X Q123 418 (o_aload 0 (o_iconst 1 (o_vI orc 120 2 8 (o_zret))))
    refine gk_aload_n (j := 0) h (by decide +kernel) rfl ?_
    refine gk_iconst (n := 1) h (by decide +kernel) (by decide) ?_
    refine gk_vI (ca_v (idx := 180) h ho hm_120 (rd_le hrd (by decide)) ck_8 (by decide +kernel) kw_1195 kw_1197 kw_54 kw_101 kw_1198 rfl (by decide +kernel) (by decide)) ?_
    exact gk_zret h hR (by decide +kernel)
  | 19 =>
    show GK X Q123 424 (o_aload 0 (o_vV orc 117 1 8 (o_jmp 1)))
    refine gk_aload_n (j := 0) h (by decide +kernel) rfl ?_
    refine gk_vV (ca_v (idx := 187) h ho hm_117 (rd_le hrd (by decide)) ck_8 (by decide +kernel) kw_1180 kw_1182 kw_51 kw_101 kw_1183 rfl (by decide +kernel) (by decide)) ?_
    refine gk_goto (off := (-417)) (tgt := 11) h (by decide +kernel) (by decide) ?_
    exact gk_jmp 1 rfl
  | _ + 20 => exact fun _ _ _ hr => hr.elim
