section
-- ===== PART A: goes FIRST, ahead of the names: the tables' words, and 'selects' of the private methods out of them =====
/-- a private method of a class that the tables say can be made, by its rows of tables_1 -/
def lw_okq (q : MethodName × Nat) : Prop := (q.1.cls ≠ "java/lang/invoke/MethodHandle" ∧ q.1.cls ≠ "java/lang/invoke/VarHandle") ∧ Cond.instantiable q.1.cls q.2 ∈ tables_1 ∧ Cond.privateMethod q.1 ∈ tables_1 ∧ Cond.instanceMethod q.1 ∈ tables_1
theorem lw_p0 : lw_okq (⟨"TruceWall$Truce", "allCandidates", "()[I"⟩, 9) := ⟨⟨by decide +kernel, by decide +kernel⟩, List.mem_of_getElem? (i := 190) (by decide +kernel), List.mem_of_getElem? (i := 213) (by decide +kernel), List.mem_of_getElem? (i := 214) (by decide +kernel)⟩
theorem lw_p1 : lw_okq (⟨"TruceWall", "lookRound", "()V"⟩, 12) := ⟨⟨by decide +kernel, by decide +kernel⟩, List.mem_of_getElem? (i := 22) (by decide +kernel), List.mem_of_getElem? (i := 292) (by decide +kernel), List.mem_of_getElem? (i := 293) (by decide +kernel)⟩
theorem lw_p2 : lw_okq (⟨"TruceWall$Truce", "twinHindrance", "(JI)I"⟩, 9) := ⟨⟨by decide +kernel, by decide +kernel⟩, List.mem_of_getElem? (i := 190) (by decide +kernel), List.mem_of_getElem? (i := 339) (by decide +kernel), List.mem_of_getElem? (i := 340) (by decide +kernel)⟩
theorem lw_p3 : lw_okq (⟨"TruceWall$Truce", "roundStands", "(JII)Z"⟩, 9) := ⟨⟨by decide +kernel, by decide +kernel⟩, List.mem_of_getElem? (i := 190) (by decide +kernel), List.mem_of_getElem? (i := 344) (by decide +kernel), List.mem_of_getElem? (i := 345) (by decide +kernel)⟩
theorem lw_p4 : lw_okq (⟨"TruceWall", "takeSigns", "(J)V"⟩, 12) := ⟨⟨by decide +kernel, by decide +kernel⟩, List.mem_of_getElem? (i := 22) (by decide +kernel), List.mem_of_getElem? (i := 392) (by decide +kernel), List.mem_of_getElem? (i := 393) (by decide +kernel)⟩
theorem lw_p5 : lw_okq (⟨"TruceWall$Reader", "step", "()V"⟩, 19) := ⟨⟨by decide +kernel, by decide +kernel⟩, List.mem_of_getElem? (i := 30) (by decide +kernel), List.mem_of_getElem? (i := 404) (by decide +kernel), List.mem_of_getElem? (i := 405) (by decide +kernel)⟩
theorem lw_p6 : lw_okq (⟨"TruceWall$Reader", "stepWord", "()V"⟩, 19) := ⟨⟨by decide +kernel, by decide +kernel⟩, List.mem_of_getElem? (i := 30) (by decide +kernel), List.mem_of_getElem? (i := 411) (by decide +kernel), List.mem_of_getElem? (i := 412) (by decide +kernel)⟩
theorem lw_p7 : lw_okq (⟨"TruceWall$Reader", "knownWord", "(I)I"⟩, 19) := ⟨⟨by decide +kernel, by decide +kernel⟩, List.mem_of_getElem? (i := 30) (by decide +kernel), List.mem_of_getElem? (i := 415) (by decide +kernel), List.mem_of_getElem? (i := 416) (by decide +kernel)⟩
theorem lw_p8 : lw_okq (⟨"TruceWall$Reader", "stepNumber", "()V"⟩, 19) := ⟨⟨by decide +kernel, by decide +kernel⟩, List.mem_of_getElem? (i := 30) (by decide +kernel), List.mem_of_getElem? (i := 463) (by decide +kernel), List.mem_of_getElem? (i := 464) (by decide +kernel)⟩
theorem lw_p9 : lw_okq (⟨"TruceWall$Reader", "wallLine", "()V"⟩, 19) := ⟨⟨by decide +kernel, by decide +kernel⟩, List.mem_of_getElem? (i := 30) (by decide +kernel), List.mem_of_getElem? (i := 470) (by decide +kernel), List.mem_of_getElem? (i := 471) (by decide +kernel)⟩
theorem lw_p10 : lw_okq (⟨"TruceWall$Reader", "expect", "(I)V"⟩, 19) := ⟨⟨by decide +kernel, by decide +kernel⟩, List.mem_of_getElem? (i := 30) (by decide +kernel), List.mem_of_getElem? (i := 474) (by decide +kernel), List.mem_of_getElem? (i := 475) (by decide +kernel)⟩
theorem lw_p11 : lw_okq (⟨"TruceWall$Reader", "wrong", "(I)V"⟩, 19) := ⟨⟨by decide +kernel, by decide +kernel⟩, List.mem_of_getElem? (i := 30) (by decide +kernel), List.mem_of_getElem? (i := 478) (by decide +kernel), List.mem_of_getElem? (i := 479) (by decide +kernel)⟩
theorem lw_p12 : lw_okq (⟨"TruceWall$Reader", "expectNumber", "(II)I"⟩, 19) := ⟨⟨by decide +kernel, by decide +kernel⟩, List.mem_of_getElem? (i := 30) (by decide +kernel), List.mem_of_getElem? (i := 482) (by decide +kernel), List.mem_of_getElem? (i := 483) (by decide +kernel)⟩
theorem lw_p13 : lw_okq (⟨"TruceWall$Reader", "stoneLine", "()V"⟩, 19) := ⟨⟨by decide +kernel, by decide +kernel⟩, List.mem_of_getElem? (i := 30) (by decide +kernel), List.mem_of_getElem? (i := 486) (by decide +kernel), List.mem_of_getElem? (i := 487) (by decide +kernel)⟩
theorem lw_p14 : lw_okq (⟨"TruceWall$Reader", "expectName", "()J"⟩, 19) := ⟨⟨by decide +kernel, by decide +kernel⟩, List.mem_of_getElem? (i := 30) (by decide +kernel), List.mem_of_getElem? (i := 490) (by decide +kernel), List.mem_of_getElem? (i := 491) (by decide +kernel)⟩
theorem lw_p15 : lw_okq (⟨"TruceWall$Reader", "expectKind", "()I"⟩, 19) := ⟨⟨by decide +kernel, by decide +kernel⟩, List.mem_of_getElem? (i := 30) (by decide +kernel), List.mem_of_getElem? (i := 494) (by decide +kernel), List.mem_of_getElem? (i := 495) (by decide +kernel)⟩
def lw_privs_1 : List (MethodName × Nat) := [(⟨"TruceWall$Truce", "allCandidates", "()[I"⟩, 9), (⟨"TruceWall", "lookRound", "()V"⟩, 12), (⟨"TruceWall$Truce", "twinHindrance", "(JI)I"⟩, 9), (⟨"TruceWall$Truce", "roundStands", "(JII)Z"⟩, 9), (⟨"TruceWall", "takeSigns", "(J)V"⟩, 12), (⟨"TruceWall$Reader", "step", "()V"⟩, 19), (⟨"TruceWall$Reader", "stepWord", "()V"⟩, 19), (⟨"TruceWall$Reader", "knownWord", "(I)I"⟩, 19), (⟨"TruceWall$Reader", "stepNumber", "()V"⟩, 19), (⟨"TruceWall$Reader", "wallLine", "()V"⟩, 19), (⟨"TruceWall$Reader", "expect", "(I)V"⟩, 19), (⟨"TruceWall$Reader", "wrong", "(I)V"⟩, 19), (⟨"TruceWall$Reader", "expectNumber", "(II)I"⟩, 19), (⟨"TruceWall$Reader", "stoneLine", "()V"⟩, 19), (⟨"TruceWall$Reader", "expectName", "()J"⟩, 19), (⟨"TruceWall$Reader", "expectKind", "()I"⟩, 19)]
theorem lw_r1 : ∀ q ∈ lw_privs_1, lw_okq q := List.forall_mem_cons.mpr ⟨lw_p0, List.forall_mem_cons.mpr ⟨lw_p1, List.forall_mem_cons.mpr ⟨lw_p2, List.forall_mem_cons.mpr ⟨lw_p3, List.forall_mem_cons.mpr ⟨lw_p4, List.forall_mem_cons.mpr ⟨lw_p5, List.forall_mem_cons.mpr ⟨lw_p6, List.forall_mem_cons.mpr ⟨lw_p7, List.forall_mem_cons.mpr ⟨lw_p8, List.forall_mem_cons.mpr ⟨lw_p9, List.forall_mem_cons.mpr ⟨lw_p10, List.forall_mem_cons.mpr ⟨lw_p11, List.forall_mem_cons.mpr ⟨lw_p12, List.forall_mem_cons.mpr ⟨lw_p13, List.forall_mem_cons.mpr ⟨lw_p14, List.forall_mem_cons.mpr ⟨lw_p15, fun _ h => absurd h List.not_mem_nil⟩⟩⟩⟩⟩⟩⟩⟩⟩⟩⟩⟩⟩⟩⟩⟩
theorem lw_p16 : lw_okq (⟨"TruceWall$Reader", "gatesLine", "()V"⟩, 19) := ⟨⟨by decide +kernel, by decide +kernel⟩, List.mem_of_getElem? (i := 30) (by decide +kernel), List.mem_of_getElem? (i := 498) (by decide +kernel), List.mem_of_getElem? (i := 499) (by decide +kernel)⟩
theorem lw_p17 : lw_okq (⟨"TruceWall$Reader", "fineLine", "()V"⟩, 19) := ⟨⟨by decide +kernel, by decide +kernel⟩, List.mem_of_getElem? (i := 30) (by decide +kernel), List.mem_of_getElem? (i := 502) (by decide +kernel), List.mem_of_getElem? (i := 503) (by decide +kernel)⟩
theorem lw_p18 : lw_okq (⟨"TruceWall$Reader", "readE", "(I)V"⟩, 19) := ⟨⟨by decide +kernel, by decide +kernel⟩, List.mem_of_getElem? (i := 30) (by decide +kernel), List.mem_of_getElem? (i := 506) (by decide +kernel), List.mem_of_getElem? (i := 507) (by decide +kernel)⟩
theorem lw_p19 : lw_okq (⟨"TruceWall$Reader", "readTest", "(I)V"⟩, 19) := ⟨⟨by decide +kernel, by decide +kernel⟩, List.mem_of_getElem? (i := 30) (by decide +kernel), List.mem_of_getElem? (i := 510) (by decide +kernel), List.mem_of_getElem? (i := 511) (by decide +kernel)⟩
theorem lw_p20 : lw_okq (⟨"TruceWall$Reader", "readSum", "(I)V"⟩, 19) := ⟨⟨by decide +kernel, by decide +kernel⟩, List.mem_of_getElem? (i := 30) (by decide +kernel), List.mem_of_getElem? (i := 514) (by decide +kernel), List.mem_of_getElem? (i := 515) (by decide +kernel)⟩
theorem lw_p21 : lw_okq (⟨"TruceWall$Reader", "readProduct", "(I)V"⟩, 19) := ⟨⟨by decide +kernel, by decide +kernel⟩, List.mem_of_getElem? (i := 30) (by decide +kernel), List.mem_of_getElem? (i := 518) (by decide +kernel), List.mem_of_getElem? (i := 519) (by decide +kernel)⟩
theorem lw_p22 : lw_okq (⟨"TruceWall$Reader", "readPart", "(I)V"⟩, 19) := ⟨⟨by decide +kernel, by decide +kernel⟩, List.mem_of_getElem? (i := 30) (by decide +kernel), List.mem_of_getElem? (i := 522) (by decide +kernel), List.mem_of_getElem? (i := 523) (by decide +kernel)⟩
theorem lw_p23 : lw_okq (⟨"TruceWall$Reader", "emit", "(I)V"⟩, 19) := ⟨⟨by decide +kernel, by decide +kernel⟩, List.mem_of_getElem? (i := 30) (by decide +kernel), List.mem_of_getElem? (i := 526) (by decide +kernel), List.mem_of_getElem? (i := 527) (by decide +kernel)⟩
theorem lw_p24 : lw_okq (⟨"TruceWall", "isOver", "()Z"⟩, 12) := ⟨⟨by decide +kernel, by decide +kernel⟩, List.mem_of_getElem? (i := 22) (by decide +kernel), List.mem_of_getElem? (i := 544) (by decide +kernel), List.mem_of_getElem? (i := 545) (by decide +kernel)⟩
theorem lw_p25 : lw_okq (⟨"TruceWall$Site", "lodge", "(LTruceWall$Truce;I)V"⟩, 8) := ⟨⟨by decide +kernel, by decide +kernel⟩, List.mem_of_getElem? (i := 103) (by decide +kernel), List.mem_of_getElem? (i := 555) (by decide +kernel), List.mem_of_getElem? (i := 556) (by decide +kernel)⟩
theorem lw_p26 : lw_okq (⟨"TruceWall$Reckoner", "push", "(I)V"⟩, 2) := ⟨⟨by decide +kernel, by decide +kernel⟩, List.mem_of_getElem? (i := 109) (by decide +kernel), List.mem_of_getElem? (i := 569) (by decide +kernel), List.mem_of_getElem? (i := 570) (by decide +kernel)⟩
theorem lw_p27 : lw_okq (⟨"TruceWall$Reckoner", "pop", "()I"⟩, 2) := ⟨⟨by decide +kernel, by decide +kernel⟩, List.mem_of_getElem? (i := 109) (by decide +kernel), List.mem_of_getElem? (i := 573) (by decide +kernel), List.mem_of_getElem? (i := 574) (by decide +kernel)⟩
theorem lw_p28 : lw_okq (⟨"TruceWall", "gateRefused", "(I)I"⟩, 12) := ⟨⟨by decide +kernel, by decide +kernel⟩, List.mem_of_getElem? (i := 22) (by decide +kernel), List.mem_of_getElem? (i := 596) (by decide +kernel), List.mem_of_getElem? (i := 597) (by decide +kernel)⟩
theorem lw_p29 : lw_okq (⟨"TruceWall", "outcomeNow", "()I"⟩, 12) := ⟨⟨by decide +kernel, by decide +kernel⟩, List.mem_of_getElem? (i := 22) (by decide +kernel), List.mem_of_getElem? (i := 631) (by decide +kernel), List.mem_of_getElem? (i := 632) (by decide +kernel)⟩
theorem lw_p30 : lw_okq (⟨"TruceWall$Play", "outcome", "(JII)I"⟩, 4) := ⟨⟨by decide +kernel, by decide +kernel⟩, List.mem_of_getElem? (i := 157) (by decide +kernel), List.mem_of_getElem? (i := 639) (by decide +kernel), List.mem_of_getElem? (i := 640) (by decide +kernel)⟩
theorem lw_p31 : lw_okq (⟨"TruceWall$Play", "outcomeByRule", "(JII)I"⟩, 4) := ⟨⟨by decide +kernel, by decide +kernel⟩, List.mem_of_getElem? (i := 157) (by decide +kernel), List.mem_of_getElem? (i := 647) (by decide +kernel), List.mem_of_getElem? (i := 648) (by decide +kernel)⟩
def lw_privs_2 : List (MethodName × Nat) := [(⟨"TruceWall$Reader", "gatesLine", "()V"⟩, 19), (⟨"TruceWall$Reader", "fineLine", "()V"⟩, 19), (⟨"TruceWall$Reader", "readE", "(I)V"⟩, 19), (⟨"TruceWall$Reader", "readTest", "(I)V"⟩, 19), (⟨"TruceWall$Reader", "readSum", "(I)V"⟩, 19), (⟨"TruceWall$Reader", "readProduct", "(I)V"⟩, 19), (⟨"TruceWall$Reader", "readPart", "(I)V"⟩, 19), (⟨"TruceWall$Reader", "emit", "(I)V"⟩, 19), (⟨"TruceWall", "isOver", "()Z"⟩, 12), (⟨"TruceWall$Site", "lodge", "(LTruceWall$Truce;I)V"⟩, 8), (⟨"TruceWall$Reckoner", "push", "(I)V"⟩, 2), (⟨"TruceWall$Reckoner", "pop", "()I"⟩, 2), (⟨"TruceWall", "gateRefused", "(I)I"⟩, 12), (⟨"TruceWall", "outcomeNow", "()I"⟩, 12), (⟨"TruceWall$Play", "outcome", "(JII)I"⟩, 4), (⟨"TruceWall$Play", "outcomeByRule", "(JII)I"⟩, 4)]
theorem lw_r2 : ∀ q ∈ lw_privs_2, lw_okq q := List.forall_mem_cons.mpr ⟨lw_p16, List.forall_mem_cons.mpr ⟨lw_p17, List.forall_mem_cons.mpr ⟨lw_p18, List.forall_mem_cons.mpr ⟨lw_p19, List.forall_mem_cons.mpr ⟨lw_p20, List.forall_mem_cons.mpr ⟨lw_p21, List.forall_mem_cons.mpr ⟨lw_p22, List.forall_mem_cons.mpr ⟨lw_p23, List.forall_mem_cons.mpr ⟨lw_p24, List.forall_mem_cons.mpr ⟨lw_p25, List.forall_mem_cons.mpr ⟨lw_p26, List.forall_mem_cons.mpr ⟨lw_p27, List.forall_mem_cons.mpr ⟨lw_p28, List.forall_mem_cons.mpr ⟨lw_p29, List.forall_mem_cons.mpr ⟨lw_p30, List.forall_mem_cons.mpr ⟨lw_p31, fun _ h => absurd h List.not_mem_nil⟩⟩⟩⟩⟩⟩⟩⟩⟩⟩⟩⟩⟩⟩⟩⟩
theorem lw_p32 : lw_okq (⟨"TruceWall$Play", "actByRule", "(JI)I"⟩, 4) := ⟨⟨by decide +kernel, by decide +kernel⟩, List.mem_of_getElem? (i := 157) (by decide +kernel), List.mem_of_getElem? (i := 651) (by decide +kernel), List.mem_of_getElem? (i := 652) (by decide +kernel)⟩
theorem lw_p33 : lw_okq (⟨"TruceWall$Play", "outcomeByChoice", "(JII)I"⟩, 4) := ⟨⟨by decide +kernel, by decide +kernel⟩, List.mem_of_getElem? (i := 157) (by decide +kernel), List.mem_of_getElem? (i := 671) (by decide +kernel), List.mem_of_getElem? (i := 672) (by decide +kernel)⟩
theorem lw_p34 : lw_okq (⟨"TruceWall", "outcomeBehind", "(I)I"⟩, 12) := ⟨⟨by decide +kernel, by decide +kernel⟩, List.mem_of_getElem? (i := 22) (by decide +kernel), List.mem_of_getElem? (i := 694) (by decide +kernel), List.mem_of_getElem? (i := 695) (by decide +kernel)⟩
theorem lw_p35 : lw_okq (⟨"TruceWall$Ways", "spreadDay", "(LTruceWall$Truce;IZ)Z"⟩, 1) := ⟨⟨by decide +kernel, by decide +kernel⟩, List.mem_of_getElem? (i := 176) (by decide +kernel), List.mem_of_getElem? (i := 718) (by decide +kernel), List.mem_of_getElem? (i := 719) (by decide +kernel)⟩
theorem lw_p36 : lw_okq (⟨"TruceWall$Ways", "spreadWall", "(LTruceWall$Truce;JIIZ)V"⟩, 1) := ⟨⟨by decide +kernel, by decide +kernel⟩, List.mem_of_getElem? (i := 176) (by decide +kernel), List.mem_of_getElem? (i := 733) (by decide +kernel), List.mem_of_getElem? (i := 734) (by decide +kernel)⟩
theorem lw_p37 : lw_okq (⟨"java/lang/Throwable", "fillInStackTrace", "(I)Ljava/lang/Throwable;"⟩, 6) := ⟨⟨by decide +kernel, by decide +kernel⟩, List.mem_of_getElem? (i := 829) (by decide +kernel), List.mem_of_getElem? (i := 827) (by decide +kernel), List.mem_of_getElem? (i := 828) (by decide +kernel)⟩
theorem lw_p38 : lw_okq (⟨"TruceWallModel", "begins", "()V"⟩, 52) := ⟨⟨by decide +kernel, by decide +kernel⟩, List.mem_of_getElem? (i := 858) (by decide +kernel), List.mem_of_getElem? (i := 865) (by decide +kernel), List.mem_of_getElem? (i := 866) (by decide +kernel)⟩
theorem lw_p39 : lw_okq (⟨"TruceWallModel", "nothing", "(I)V"⟩, 52) := ⟨⟨by decide +kernel, by decide +kernel⟩, List.mem_of_getElem? (i := 858) (by decide +kernel), List.mem_of_getElem? (i := 869) (by decide +kernel), List.mem_of_getElem? (i := 870) (by decide +kernel)⟩
theorem lw_p40 : lw_okq (⟨"TruceWallModel", "looks", "(I)V"⟩, 52) := ⟨⟨by decide +kernel, by decide +kernel⟩, List.mem_of_getElem? (i := 858) (by decide +kernel), List.mem_of_getElem? (i := 873) (by decide +kernel), List.mem_of_getElem? (i := 874) (by decide +kernel)⟩
theorem lw_p41 : lw_okq (⟨"TruceWallModel", "isClosed", "(I)Z"⟩, 52) := ⟨⟨by decide +kernel, by decide +kernel⟩, List.mem_of_getElem? (i := 858) (by decide +kernel), List.mem_of_getElem? (i := 877) (by decide +kernel), List.mem_of_getElem? (i := 878) (by decide +kernel)⟩
theorem lw_p42 : lw_okq (⟨"TruceWallModel", "hasAct", "(I)Z"⟩, 52) := ⟨⟨by decide +kernel, by decide +kernel⟩, List.mem_of_getElem? (i := 858) (by decide +kernel), List.mem_of_getElem? (i := 881) (by decide +kernel), List.mem_of_getElem? (i := 882) (by decide +kernel)⟩
theorem lw_p43 : lw_okq (⟨"TruceWallModel", "nextAct", "(II)I"⟩, 52) := ⟨⟨by decide +kernel, by decide +kernel⟩, List.mem_of_getElem? (i := 858) (by decide +kernel), List.mem_of_getElem? (i := 885) (by decide +kernel), List.mem_of_getElem? (i := 886) (by decide +kernel)⟩
theorem lw_p44 : lw_okq (⟨"TruceWallModel", "why", "(IIIIZ)I"⟩, 52) := ⟨⟨by decide +kernel, by decide +kernel⟩, List.mem_of_getElem? (i := 858) (by decide +kernel), List.mem_of_getElem? (i := 889) (by decide +kernel), List.mem_of_getElem? (i := 890) (by decide +kernel)⟩
theorem lw_p45 : lw_okq (⟨"TruceWallModel", "isColumn", "(I)Z"⟩, 52) := ⟨⟨by decide +kernel, by decide +kernel⟩, List.mem_of_getElem? (i := 858) (by decide +kernel), List.mem_of_getElem? (i := 893) (by decide +kernel), List.mem_of_getElem? (i := 894) (by decide +kernel)⟩
theorem lw_p46 : lw_okq (⟨"TruceWallModel", "isWide", "(II)Z"⟩, 52) := ⟨⟨by decide +kernel, by decide +kernel⟩, List.mem_of_getElem? (i := 858) (by decide +kernel), List.mem_of_getElem? (i := 897) (by decide +kernel), List.mem_of_getElem? (i := 898) (by decide +kernel)⟩
theorem lw_p47 : lw_okq (⟨"TruceWallModel", "otherOf", "(I)I"⟩, 52) := ⟨⟨by decide +kernel, by decide +kernel⟩, List.mem_of_getElem? (i := 858) (by decide +kernel), List.mem_of_getElem? (i := 904) (by decide +kernel), List.mem_of_getElem? (i := 905) (by decide +kernel)⟩
def lw_privs_3 : List (MethodName × Nat) := [(⟨"TruceWall$Play", "actByRule", "(JI)I"⟩, 4), (⟨"TruceWall$Play", "outcomeByChoice", "(JII)I"⟩, 4), (⟨"TruceWall", "outcomeBehind", "(I)I"⟩, 12), (⟨"TruceWall$Ways", "spreadDay", "(LTruceWall$Truce;IZ)Z"⟩, 1), (⟨"TruceWall$Ways", "spreadWall", "(LTruceWall$Truce;JIIZ)V"⟩, 1), (⟨"java/lang/Throwable", "fillInStackTrace", "(I)Ljava/lang/Throwable;"⟩, 6), (⟨"TruceWallModel", "begins", "()V"⟩, 52), (⟨"TruceWallModel", "nothing", "(I)V"⟩, 52), (⟨"TruceWallModel", "looks", "(I)V"⟩, 52), (⟨"TruceWallModel", "isClosed", "(I)Z"⟩, 52), (⟨"TruceWallModel", "hasAct", "(I)Z"⟩, 52), (⟨"TruceWallModel", "nextAct", "(II)I"⟩, 52), (⟨"TruceWallModel", "why", "(IIIIZ)I"⟩, 52), (⟨"TruceWallModel", "isColumn", "(I)Z"⟩, 52), (⟨"TruceWallModel", "isWide", "(II)Z"⟩, 52), (⟨"TruceWallModel", "otherOf", "(I)I"⟩, 52)]
theorem lw_r3 : ∀ q ∈ lw_privs_3, lw_okq q := List.forall_mem_cons.mpr ⟨lw_p32, List.forall_mem_cons.mpr ⟨lw_p33, List.forall_mem_cons.mpr ⟨lw_p34, List.forall_mem_cons.mpr ⟨lw_p35, List.forall_mem_cons.mpr ⟨lw_p36, List.forall_mem_cons.mpr ⟨lw_p37, List.forall_mem_cons.mpr ⟨lw_p38, List.forall_mem_cons.mpr ⟨lw_p39, List.forall_mem_cons.mpr ⟨lw_p40, List.forall_mem_cons.mpr ⟨lw_p41, List.forall_mem_cons.mpr ⟨lw_p42, List.forall_mem_cons.mpr ⟨lw_p43, List.forall_mem_cons.mpr ⟨lw_p44, List.forall_mem_cons.mpr ⟨lw_p45, List.forall_mem_cons.mpr ⟨lw_p46, List.forall_mem_cons.mpr ⟨lw_p47, fun _ h => absurd h List.not_mem_nil⟩⟩⟩⟩⟩⟩⟩⟩⟩⟩⟩⟩⟩⟩⟩⟩
theorem lw_p48 : lw_okq (⟨"TruceWallModel", "stands", "(IIII)Z"⟩, 52) := ⟨⟨by decide +kernel, by decide +kernel⟩, List.mem_of_getElem? (i := 858) (by decide +kernel), List.mem_of_getElem? (i := 908) (by decide +kernel), List.mem_of_getElem? (i := 909) (by decide +kernel)⟩
theorem lw_p49 : lw_okq (⟨"TruceWallModel", "whyGate", "(IIZ)I"⟩, 52) := ⟨⟨by decide +kernel, by decide +kernel⟩, List.mem_of_getElem? (i := 858) (by decide +kernel), List.mem_of_getElem? (i := 912) (by decide +kernel), List.mem_of_getElem? (i := 913) (by decide +kernel)⟩
theorem lw_p50 : lw_okq (⟨"TruceWallModel", "readsAll", "()Z"⟩, 52) := ⟨⟨by decide +kernel, by decide +kernel⟩, List.mem_of_getElem? (i := 858) (by decide +kernel), List.mem_of_getElem? (i := 1087) (by decide +kernel), List.mem_of_getElem? (i := 1088) (by decide +kernel)⟩
theorem lw_p51 : lw_okq (⟨"TruceWallModel", "nextToken", "()V"⟩, 52) := ⟨⟨by decide +kernel, by decide +kernel⟩, List.mem_of_getElem? (i := 858) (by decide +kernel), List.mem_of_getElem? (i := 1091) (by decide +kernel), List.mem_of_getElem? (i := 1092) (by decide +kernel)⟩
theorem lw_p52 : lw_okq (⟨"TruceWallModel", "signAt", "(I)I"⟩, 52) := ⟨⟨by decide +kernel, by decide +kernel⟩, List.mem_of_getElem? (i := 858) (by decide +kernel), List.mem_of_getElem? (i := 1095) (by decide +kernel), List.mem_of_getElem? (i := 1096) (by decide +kernel)⟩
theorem lw_p53 : lw_okq (⟨"TruceWallModel", "isWord", "(J)Z"⟩, 52) := ⟨⟨by decide +kernel, by decide +kernel⟩, List.mem_of_getElem? (i := 858) (by decide +kernel), List.mem_of_getElem? (i := 1102) (by decide +kernel), List.mem_of_getElem? (i := 1103) (by decide +kernel)⟩
theorem lw_p54 : lw_okq (⟨"TruceWallModel", "fails", "(I)Z"⟩, 52) := ⟨⟨by decide +kernel, by decide +kernel⟩, List.mem_of_getElem? (i := 858) (by decide +kernel), List.mem_of_getElem? (i := 1106) (by decide +kernel), List.mem_of_getElem? (i := 1107) (by decide +kernel)⟩
theorem lw_p55 : lw_okq (⟨"TruceWallModel", "needsNumber", "(II)Z"⟩, 52) := ⟨⟨by decide +kernel, by decide +kernel⟩, List.mem_of_getElem? (i := 858) (by decide +kernel), List.mem_of_getElem? (i := 1110) (by decide +kernel), List.mem_of_getElem? (i := 1111) (by decide +kernel)⟩
theorem lw_p56 : lw_okq (⟨"TruceWallModel", "ends", "()Z"⟩, 52) := ⟨⟨by decide +kernel, by decide +kernel⟩, List.mem_of_getElem? (i := 858) (by decide +kernel), List.mem_of_getElem? (i := 1114) (by decide +kernel), List.mem_of_getElem? (i := 1115) (by decide +kernel)⟩
theorem lw_p57 : lw_okq (⟨"TruceWallModel", "isSign", "(I)Z"⟩, 52) := ⟨⟨by decide +kernel, by decide +kernel⟩, List.mem_of_getElem? (i := 858) (by decide +kernel), List.mem_of_getElem? (i := 1118) (by decide +kernel), List.mem_of_getElem? (i := 1119) (by decide +kernel)⟩
theorem lw_p58 : lw_okq (⟨"TruceWallModel", "readsStone", "()Z"⟩, 52) := ⟨⟨by decide +kernel, by decide +kernel⟩, List.mem_of_getElem? (i := 858) (by decide +kernel), List.mem_of_getElem? (i := 1123) (by decide +kernel), List.mem_of_getElem? (i := 1124) (by decide +kernel)⟩
theorem lw_p59 : lw_okq (⟨"TruceWallModel", "isKept", "()Z"⟩, 52) := ⟨⟨by decide +kernel, by decide +kernel⟩, List.mem_of_getElem? (i := 858) (by decide +kernel), List.mem_of_getElem? (i := 1127) (by decide +kernel), List.mem_of_getElem? (i := 1128) (by decide +kernel)⟩
theorem lw_p60 : lw_okq (⟨"TruceWallModel", "kindAt", "()I"⟩, 52) := ⟨⟨by decide +kernel, by decide +kernel⟩, List.mem_of_getElem? (i := 858) (by decide +kernel), List.mem_of_getElem? (i := 1146) (by decide +kernel), List.mem_of_getElem? (i := 1147) (by decide +kernel)⟩
theorem lw_p61 : lw_okq (⟨"TruceWallModel", "readsGates", "()Z"⟩, 52) := ⟨⟨by decide +kernel, by decide +kernel⟩, List.mem_of_getElem? (i := 858) (by decide +kernel), List.mem_of_getElem? (i := 1150) (by decide +kernel), List.mem_of_getElem? (i := 1151) (by decide +kernel)⟩
theorem lw_p62 : lw_okq (⟨"TruceWallModel", "readsFine", "()Z"⟩, 52) := ⟨⟨by decide +kernel, by decide +kernel⟩, List.mem_of_getElem? (i := 858) (by decide +kernel), List.mem_of_getElem? (i := 1154) (by decide +kernel), List.mem_of_getElem? (i := 1155) (by decide +kernel)⟩
theorem lw_p63 : lw_okq (⟨"TruceWallModel", "reads", "()Z"⟩, 52) := ⟨⟨by decide +kernel, by decide +kernel⟩, List.mem_of_getElem? (i := 858) (by decide +kernel), List.mem_of_getElem? (i := 1158) (by decide +kernel), List.mem_of_getElem? (i := 1159) (by decide +kernel)⟩
def lw_privs_4 : List (MethodName × Nat) := [(⟨"TruceWallModel", "stands", "(IIII)Z"⟩, 52), (⟨"TruceWallModel", "whyGate", "(IIZ)I"⟩, 52), (⟨"TruceWallModel", "readsAll", "()Z"⟩, 52), (⟨"TruceWallModel", "nextToken", "()V"⟩, 52), (⟨"TruceWallModel", "signAt", "(I)I"⟩, 52), (⟨"TruceWallModel", "isWord", "(J)Z"⟩, 52), (⟨"TruceWallModel", "fails", "(I)Z"⟩, 52), (⟨"TruceWallModel", "needsNumber", "(II)Z"⟩, 52), (⟨"TruceWallModel", "ends", "()Z"⟩, 52), (⟨"TruceWallModel", "isSign", "(I)Z"⟩, 52), (⟨"TruceWallModel", "readsStone", "()Z"⟩, 52), (⟨"TruceWallModel", "isKept", "()Z"⟩, 52), (⟨"TruceWallModel", "kindAt", "()I"⟩, 52), (⟨"TruceWallModel", "readsGates", "()Z"⟩, 52), (⟨"TruceWallModel", "readsFine", "()Z"⟩, 52), (⟨"TruceWallModel", "reads", "()Z"⟩, 52)]
theorem lw_r4 : ∀ q ∈ lw_privs_4, lw_okq q := List.forall_mem_cons.mpr ⟨lw_p48, List.forall_mem_cons.mpr ⟨lw_p49, List.forall_mem_cons.mpr ⟨lw_p50, List.forall_mem_cons.mpr ⟨lw_p51, List.forall_mem_cons.mpr ⟨lw_p52, List.forall_mem_cons.mpr ⟨lw_p53, List.forall_mem_cons.mpr ⟨lw_p54, List.forall_mem_cons.mpr ⟨lw_p55, List.forall_mem_cons.mpr ⟨lw_p56, List.forall_mem_cons.mpr ⟨lw_p57, List.forall_mem_cons.mpr ⟨lw_p58, List.forall_mem_cons.mpr ⟨lw_p59, List.forall_mem_cons.mpr ⟨lw_p60, List.forall_mem_cons.mpr ⟨lw_p61, List.forall_mem_cons.mpr ⟨lw_p62, List.forall_mem_cons.mpr ⟨lw_p63, fun _ h => absurd h List.not_mem_nil⟩⟩⟩⟩⟩⟩⟩⟩⟩⟩⟩⟩⟩⟩⟩⟩
theorem lw_p64 : lw_okq (⟨"TruceWallModel", "fact", "()I"⟩, 52) := ⟨⟨by decide +kernel, by decide +kernel⟩, List.mem_of_getElem? (i := 858) (by decide +kernel), List.mem_of_getElem? (i := 1162) (by decide +kernel), List.mem_of_getElem? (i := 1163) (by decide +kernel)⟩
theorem lw_p65 : lw_okq (⟨"TruceWallModel", "puts", "(I)V"⟩, 52) := ⟨⟨by decide +kernel, by decide +kernel⟩, List.mem_of_getElem? (i := 858) (by decide +kernel), List.mem_of_getElem? (i := 1166) (by decide +kernel), List.mem_of_getElem? (i := 1167) (by decide +kernel)⟩
theorem lw_p66 : lw_okq (⟨"TruceWallModel", "lays", "(II)V"⟩, 52) := ⟨⟨by decide +kernel, by decide +kernel⟩, List.mem_of_getElem? (i := 858) (by decide +kernel), List.mem_of_getElem? (i := 1170) (by decide +kernel), List.mem_of_getElem? (i := 1171) (by decide +kernel)⟩
theorem lw_p67 : lw_okq (⟨"TruceWallModel", "keeps", "()V"⟩, 52) := ⟨⟨by decide +kernel, by decide +kernel⟩, List.mem_of_getElem? (i := 858) (by decide +kernel), List.mem_of_getElem? (i := 1185) (by decide +kernel), List.mem_of_getElem? (i := 1186) (by decide +kernel)⟩
theorem lw_p68 : lw_okq (⟨"TruceWallModel", "does", "(IIII)V"⟩, 52) := ⟨⟨by decide +kernel, by decide +kernel⟩, List.mem_of_getElem? (i := 858) (by decide +kernel), List.mem_of_getElem? (i := 1189) (by decide +kernel), List.mem_of_getElem? (i := 1190) (by decide +kernel)⟩
theorem lw_p69 : lw_okq (⟨"TruceWallModel", "sets", "(IIII)V"⟩, 52) := ⟨⟨by decide +kernel, by decide +kernel⟩, List.mem_of_getElem? (i := 858) (by decide +kernel), List.mem_of_getElem? (i := 1193) (by decide +kernel), List.mem_of_getElem? (i := 1194) (by decide +kernel)⟩
theorem lw_p70 : lw_okq (⟨"TruceWallModel", "worked", "(I)I"⟩, 52) := ⟨⟨by decide +kernel, by decide +kernel⟩, List.mem_of_getElem? (i := 858) (by decide +kernel), List.mem_of_getElem? (i := 1197) (by decide +kernel), List.mem_of_getElem? (i := 1198) (by decide +kernel)⟩
theorem lw_p71 : lw_okq (⟨"TruceWallModel", "opens", "(I)V"⟩, 52) := ⟨⟨by decide +kernel, by decide +kernel⟩, List.mem_of_getElem? (i := 858) (by decide +kernel), List.mem_of_getElem? (i := 1201) (by decide +kernel), List.mem_of_getElem? (i := 1202) (by decide +kernel)⟩
theorem lw_p72 : lw_okq (⟨"TruceWallModel", "sums", "(I)V"⟩, 52) := ⟨⟨by decide +kernel, by decide +kernel⟩, List.mem_of_getElem? (i := 858) (by decide +kernel), List.mem_of_getElem? (i := 1205) (by decide +kernel), List.mem_of_getElem? (i := 1206) (by decide +kernel)⟩
theorem lw_p73 : lw_okq (⟨"TruceWallModel", "tests", "(I)V"⟩, 52) := ⟨⟨by decide +kernel, by decide +kernel⟩, List.mem_of_getElem? (i := 858) (by decide +kernel), List.mem_of_getElem? (i := 1209) (by decide +kernel), List.mem_of_getElem? (i := 1210) (by decide +kernel)⟩
theorem lw_p74 : lw_okq (⟨"TruceWallModel", "actsNow", "()I"⟩, 52) := ⟨⟨by decide +kernel, by decide +kernel⟩, List.mem_of_getElem? (i := 858) (by decide +kernel), List.mem_of_getElem? (i := 1233) (by decide +kernel), List.mem_of_getElem? (i := 1234) (by decide +kernel)⟩
theorem lw_p75 : lw_okq (⟨"TruceWallModel", "acts", "(I)I"⟩, 52) := ⟨⟨by decide +kernel, by decide +kernel⟩, List.mem_of_getElem? (i := 858) (by decide +kernel), List.mem_of_getElem? (i := 1237) (by decide +kernel), List.mem_of_getElem? (i := 1238) (by decide +kernel)⟩
theorem lw_p76 : lw_okq (⟨"TruceWallModel", "finds", "(II)Z"⟩, 52) := ⟨⟨by decide +kernel, by decide +kernel⟩, List.mem_of_getElem? (i := 858) (by decide +kernel), List.mem_of_getElem? (i := 1245) (by decide +kernel), List.mem_of_getElem? (i := 1246) (by decide +kernel)⟩
theorem lw_p77 : lw_okq (⟨"TruceWallModel", "isSmall", "()Z"⟩, 52) := ⟨⟨by decide +kernel, by decide +kernel⟩, List.mem_of_getElem? (i := 858) (by decide +kernel), List.mem_of_getElem? (i := 1253) (by decide +kernel), List.mem_of_getElem? (i := 1254) (by decide +kernel)⟩
theorem lw_p78 : lw_okq (⟨"TruceWallModel", "now", "()I"⟩, 52) := ⟨⟨by decide +kernel, by decide +kernel⟩, List.mem_of_getElem? (i := 858) (by decide +kernel), List.mem_of_getElem? (i := 1257) (by decide +kernel), List.mem_of_getElem? (i := 1258) (by decide +kernel)⟩
theorem lw_p79 : lw_okq (⟨"TruceWallModel", "knows", "()V"⟩, 52) := ⟨⟨by decide +kernel, by decide +kernel⟩, List.mem_of_getElem? (i := 858) (by decide +kernel), List.mem_of_getElem? (i := 1261) (by decide +kernel), List.mem_of_getElem? (i := 1262) (by decide +kernel)⟩
def lw_privs_5 : List (MethodName × Nat) := [(⟨"TruceWallModel", "fact", "()I"⟩, 52), (⟨"TruceWallModel", "puts", "(I)V"⟩, 52), (⟨"TruceWallModel", "lays", "(II)V"⟩, 52), (⟨"TruceWallModel", "keeps", "()V"⟩, 52), (⟨"TruceWallModel", "does", "(IIII)V"⟩, 52), (⟨"TruceWallModel", "sets", "(IIII)V"⟩, 52), (⟨"TruceWallModel", "worked", "(I)I"⟩, 52), (⟨"TruceWallModel", "opens", "(I)V"⟩, 52), (⟨"TruceWallModel", "sums", "(I)V"⟩, 52), (⟨"TruceWallModel", "tests", "(I)V"⟩, 52), (⟨"TruceWallModel", "actsNow", "()I"⟩, 52), (⟨"TruceWallModel", "acts", "(I)I"⟩, 52), (⟨"TruceWallModel", "finds", "(II)Z"⟩, 52), (⟨"TruceWallModel", "isSmall", "()Z"⟩, 52), (⟨"TruceWallModel", "now", "()I"⟩, 52), (⟨"TruceWallModel", "knows", "()V"⟩, 52)]
theorem lw_r5 : ∀ q ∈ lw_privs_5, lw_okq q := List.forall_mem_cons.mpr ⟨lw_p64, List.forall_mem_cons.mpr ⟨lw_p65, List.forall_mem_cons.mpr ⟨lw_p66, List.forall_mem_cons.mpr ⟨lw_p67, List.forall_mem_cons.mpr ⟨lw_p68, List.forall_mem_cons.mpr ⟨lw_p69, List.forall_mem_cons.mpr ⟨lw_p70, List.forall_mem_cons.mpr ⟨lw_p71, List.forall_mem_cons.mpr ⟨lw_p72, List.forall_mem_cons.mpr ⟨lw_p73, List.forall_mem_cons.mpr ⟨lw_p74, List.forall_mem_cons.mpr ⟨lw_p75, List.forall_mem_cons.mpr ⟨lw_p76, List.forall_mem_cons.mpr ⟨lw_p77, List.forall_mem_cons.mpr ⟨lw_p78, List.forall_mem_cons.mpr ⟨lw_p79, fun _ h => absurd h List.not_mem_nil⟩⟩⟩⟩⟩⟩⟩⟩⟩⟩⟩⟩⟩⟩⟩⟩
theorem lw_p80 : lw_okq (⟨"TruceWallModel", "copies", "(II)V"⟩, 52) := ⟨⟨by decide +kernel, by decide +kernel⟩, List.mem_of_getElem? (i := 858) (by decide +kernel), List.mem_of_getElem? (i := 1265) (by decide +kernel), List.mem_of_getElem? (i := 1266) (by decide +kernel)⟩
theorem lw_p81 : lw_okq (⟨"TruceWallModel", "solves", "(I)I"⟩, 52) := ⟨⟨by decide +kernel, by decide +kernel⟩, List.mem_of_getElem? (i := 858) (by decide +kernel), List.mem_of_getElem? (i := 1269) (by decide +kernel), List.mem_of_getElem? (i := 1270) (by decide +kernel)⟩
theorem lw_p82 : lw_okq (⟨"TruceWallModel", "numberOf", "(I)I"⟩, 52) := ⟨⟨by decide +kernel, by decide +kernel⟩, List.mem_of_getElem? (i := 858) (by decide +kernel), List.mem_of_getElem? (i := 1273) (by decide +kernel), List.mem_of_getElem? (i := 1274) (by decide +kernel)⟩
theorem lw_p83 : lw_okq (⟨"TruceWallModel", "wallOf", "(I)I"⟩, 52) := ⟨⟨by decide +kernel, by decide +kernel⟩, List.mem_of_getElem? (i := 858) (by decide +kernel), List.mem_of_getElem? (i := 1277) (by decide +kernel), List.mem_of_getElem? (i := 1278) (by decide +kernel)⟩
theorem lw_p84 : lw_okq (⟨"TruceWallModel", "behind", "(I)I"⟩, 52) := ⟨⟨by decide +kernel, by decide +kernel⟩, List.mem_of_getElem? (i := 858) (by decide +kernel), List.mem_of_getElem? (i := 1292) (by decide +kernel), List.mem_of_getElem? (i := 1293) (by decide +kernel)⟩
theorem lw_p85 : lw_okq (⟨"TruceWallModel", "masons", "(III)I"⟩, 52) := ⟨⟨by decide +kernel, by decide +kernel⟩, List.mem_of_getElem? (i := 858) (by decide +kernel), List.mem_of_getElem? (i := 1304) (by decide +kernel), List.mem_of_getElem? (i := 1305) (by decide +kernel)⟩
theorem lw_p86 : lw_okq (⟨"TruceWallModel", "ruled", "(II)I"⟩, 52) := ⟨⟨by decide +kernel, by decide +kernel⟩, List.mem_of_getElem? (i := 858) (by decide +kernel), List.mem_of_getElem? (i := 1308) (by decide +kernel), List.mem_of_getElem? (i := 1309) (by decide +kernel)⟩
theorem lw_p87 : lw_okq (⟨"TruceWallModel", "goesOn", "(Z)V"⟩, 52) := ⟨⟨by decide +kernel, by decide +kernel⟩, List.mem_of_getElem? (i := 858) (by decide +kernel), List.mem_of_getElem? (i := 1316) (by decide +kernel), List.mem_of_getElem? (i := 1317) (by decide +kernel)⟩
theorem lw_p88 : lw_okq (⟨"TruceWallModel", "laysOut", "(II)V"⟩, 52) := ⟨⟨by decide +kernel, by decide +kernel⟩, List.mem_of_getElem? (i := 858) (by decide +kernel), List.mem_of_getElem? (i := 1320) (by decide +kernel), List.mem_of_getElem? (i := 1321) (by decide +kernel)⟩
theorem lw_p89 : lw_okq (⟨"TruceWallModel", "draws", "(I)I"⟩, 52) := ⟨⟨by decide +kernel, by decide +kernel⟩, List.mem_of_getElem? (i := 858) (by decide +kernel), List.mem_of_getElem? (i := 1333) (by decide +kernel), List.mem_of_getElem? (i := 1334) (by decide +kernel)⟩
def lw_privs_6 : List (MethodName × Nat) := [(⟨"TruceWallModel", "copies", "(II)V"⟩, 52), (⟨"TruceWallModel", "solves", "(I)I"⟩, 52), (⟨"TruceWallModel", "numberOf", "(I)I"⟩, 52), (⟨"TruceWallModel", "wallOf", "(I)I"⟩, 52), (⟨"TruceWallModel", "behind", "(I)I"⟩, 52), (⟨"TruceWallModel", "masons", "(III)I"⟩, 52), (⟨"TruceWallModel", "ruled", "(II)I"⟩, 52), (⟨"TruceWallModel", "goesOn", "(Z)V"⟩, 52), (⟨"TruceWallModel", "laysOut", "(II)V"⟩, 52), (⟨"TruceWallModel", "draws", "(I)I"⟩, 52)]
theorem lw_r6 : ∀ q ∈ lw_privs_6, lw_okq q := List.forall_mem_cons.mpr ⟨lw_p80, List.forall_mem_cons.mpr ⟨lw_p81, List.forall_mem_cons.mpr ⟨lw_p82, List.forall_mem_cons.mpr ⟨lw_p83, List.forall_mem_cons.mpr ⟨lw_p84, List.forall_mem_cons.mpr ⟨lw_p85, List.forall_mem_cons.mpr ⟨lw_p86, List.forall_mem_cons.mpr ⟨lw_p87, List.forall_mem_cons.mpr ⟨lw_p88, List.forall_mem_cons.mpr ⟨lw_p89, fun _ h => absurd h List.not_mem_nil⟩⟩⟩⟩⟩⟩⟩⟩⟩⟩
def lw_privs : List (MethodName × Nat) := lw_privs_1 ++ (lw_privs_2 ++ (lw_privs_3 ++ (lw_privs_4 ++ (lw_privs_5 ++ (lw_privs_6)))))
def lw_tbl : List Cond := k2_sels lw_privs ++ tables_1
theorem lw_privs_ok : ∀ q ∈ lw_privs, lw_okq q := by
  show ∀ q ∈ lw_privs_1 ++ (lw_privs_2 ++ (lw_privs_3 ++ (lw_privs_4 ++ (lw_privs_5 ++ (lw_privs_6))))), lw_okq q
  exact List.forall_mem_append.mpr ⟨lw_r1, List.forall_mem_append.mpr ⟨lw_r2, List.forall_mem_append.mpr ⟨lw_r3, List.forall_mem_append.mpr ⟨lw_r4, List.forall_mem_append.mpr ⟨lw_r5, lw_r6⟩⟩⟩⟩⟩
end
section
def RX0 : String := "TruceWall$Acts"
def TX0 : u_T := fun k => match k with
  | _ => ("", "", "", false)
def tyX0 : Nat → FieldType := fun k => match k with
  | _ => .int
abbrev wsX00 : List Cond := u_ws RX0 TX0 0
theorem nmX0 : ∀ a, a < 0 → ∀ b, b < 0 → a ≠ b → (TX0 a).2.1 ≠ (TX0 b).2.1 := by decide +kernel
theorem tyX0_ok : ∀ k, k < 0 → parseFieldDescriptor (TX0 k).2.2.1 = some (tyX0 k) := by decide +kernel
abbrev cX0_ofStone : ByteArray := prog_2_method_2_code
def yX0_ofStone : MethodName := ⟨RX0, "ofStone", "(III)I"⟩
abbrev cX0_ofGate : ByteArray := prog_2_method_3_code
def yX0_ofGate : MethodName := ⟨RX0, "ofGate", "(I)I"⟩
abbrev cX0_isGate : ByteArray := prog_2_method_4_code
def yX0_isGate : MethodName := ⟨RX0, "isGate", "(I)Z"⟩
abbrev cX0_stoneOf : ByteArray := prog_2_method_5_code
def yX0_stoneOf : MethodName := ⟨RX0, "stoneOf", "(I)I"⟩
abbrev cX0_columnOf : ByteArray := prog_2_method_6_code
def yX0_columnOf : MethodName := ⟨RX0, "columnOf", "(I)I"⟩
abbrev cX0_wideOf : ByteArray := prog_2_method_7_code
def yX0_wideOf : MethodName := ⟨RX0, "wideOf", "(I)I"⟩
def RX1 : String := "TruceWall$Mark"
def TX1 : u_T := fun k => match k with
  | 0 => ("TruceWall$Mark", "truce", "LTruceWall$Truce;", false)
  | 1 => ("TruceWall$Mark", "acts", "[I", true)
  | _ => ("TruceWall$Mark", "done", "I", false)
def tyX1 : Nat → FieldType := fun k => match k with
  | 0 => .object "TruceWall$Truce"
  | 1 => .array .int
  | _ => .int
abbrev wsX10 : List Cond := u_ws RX1 TX1 3
theorem nmX1 : ∀ a, a < 3 → ∀ b, b < 3 → a ≠ b → (TX1 a).2.1 ≠ (TX1 b).2.1 := by decide +kernel
theorem tyX1_ok : ∀ k, k < 3 → parseFieldDescriptor (TX1 k).2.2.1 = some (tyX1 k) := by decide +kernel
abbrev cX1_init : ByteArray := prog_3_method_1_code
def yX1_init : MethodName := ⟨RX1, "<init>", "()V"⟩
abbrev cX1_lay : ByteArray := prog_3_method_2_code
def yX1_lay : MethodName := ⟨RX1, "lay", "(LTruceWall$Truce;LTruceWall$Site;)V"⟩
def RX2 : String := "TruceWall$Play"
def TX2 : u_T := fun k => match k with
  | 0 => ("TruceWall$Play", "known", "[I", true)
  | 1 => ("TruceWall$Play", "truce", "LTruceWall$Truce;", false)
  | 2 => ("TruceWall$Play", "mason", "I", false)
  | _ => ("TruceWall$Play", "rule", "I", false)
def tyX2 : Nat → FieldType := fun k => match k with
  | 0 => .array .int
  | 1 => .object "TruceWall$Truce"
  | 2 => .int
  | _ => .int
abbrev wsX20 : List Cond := u_ws RX2 TX2 4
theorem nmX2 : ∀ a, a < 4 → ∀ b, b < 4 → a ≠ b → (TX2 a).2.1 ≠ (TX2 b).2.1 := by decide +kernel
theorem tyX2_ok : ∀ k, k < 4 → parseFieldDescriptor (TX2 k).2.2.1 = some (tyX2 k) := by decide +kernel
abbrev cX2_init : ByteArray := prog_4_method_1_code
def yX2_init : MethodName := ⟨RX2, "<init>", "()V"⟩
abbrev cX2_payerIn : ByteArray := prog_4_method_2_code
def yX2_payerIn : MethodName := ⟨RX2, "payerIn", "(I)I"⟩
abbrev cX2_daysIn : ByteArray := prog_4_method_3_code
def yX2_daysIn : MethodName := ⟨RX2, "daysIn", "(I)I"⟩
abbrev cX2_later : ByteArray := prog_4_method_4_code
def yX2_later : MethodName := ⟨RX2, "later", "(I)I"⟩
abbrev cX2_score : ByteArray := prog_4_method_5_code
def yX2_score : MethodName := ⟨RX2, "score", "(II)I"⟩
abbrev cX2_prepare : ByteArray := prog_4_method_6_code
def yX2_prepare : MethodName := ⟨RX2, "prepare", "(LTruceWall$Truce;II)V"⟩
abbrev cX2_outcome : ByteArray := prog_4_method_7_code
def yX2_outcome : MethodName := ⟨RX2, "outcome", "(JII)I"⟩
abbrev cX2_outcomeByChoice : ByteArray := prog_4_method_8_code
def yX2_outcomeByChoice : MethodName := ⟨RX2, "outcomeByChoice", "(JII)I"⟩
abbrev cX2_outcomeByRule : ByteArray := prog_4_method_9_code
def yX2_outcomeByRule : MethodName := ⟨RX2, "outcomeByRule", "(JII)I"⟩
abbrev cX2_actByRule : ByteArray := prog_4_method_10_code
def yX2_actByRule : MethodName := ⟨RX2, "actByRule", "(JI)I"⟩
def RX3 : String := "TruceWall$Reader"
def TX3 : u_T := fun k => match k with
  | 0 => ("TruceWall$Reader", "columns", "I", false)
  | 1 => ("TruceWall$Reader", "high", "I", false)
  | 2 => ("TruceWall$Reader", "gates", "I", false)
  | 3 => ("TruceWall$Reader", "stones", "I", false)
  | 4 => ("TruceWall$Reader", "kinds", "[I", true)
  | 5 => ("TruceWall$Reader", "wides", "[I", true)
  | 6 => ("TruceWall$Reader", "names", "[J", true)
  | 7 => ("TruceWall$Reader", "code", "[I", true)
  | 8 => ("TruceWall$Reader", "codeLength", "I", false)
  | 9 => ("TruceWall$Reader", "gatesTold", "Z", false)
  | 10 => ("TruceWall$Reader", "fineTold", "Z", false)
  | 11 => ("TruceWall$Reader", "text", "[C", false)
  | 12 => ("TruceWall$Reader", "length", "I", false)
  | 13 => ("TruceWall$Reader", "fault", "I", false)
  | 14 => ("TruceWall$Reader", "place", "I", false)
  | 15 => ("TruceWall$Reader", "behind", "I", false)
  | 16 => ("TruceWall$Reader", "token", "I", false)
  | 17 => ("TruceWall$Reader", "number", "I", false)
  | _ => ("TruceWall$Reader", "name", "J", false)
def tyX3 : Nat → FieldType := fun k => match k with
  | 0 => .int
  | 1 => .int
  | 2 => .int
  | 3 => .int
  | 4 => .array .int
  | 5 => .array .int
  | 6 => .array .long
  | 7 => .array .int
  | 8 => .int
  | 9 => .boolean
  | 10 => .boolean
  | 11 => .array .char
  | 12 => .int
  | 13 => .int
  | 14 => .int
  | 15 => .int
  | 16 => .int
  | 17 => .int
  | _ => .long
abbrev wsX30 : List Cond := u_ws RX3 TX3 19
theorem nmX3 : ∀ a, a < 19 → ∀ b, b < 19 → a ≠ b → (TX3 a).2.1 ≠ (TX3 b).2.1 := by decide +kernel
theorem tyX3_ok : ∀ k, k < 19 → parseFieldDescriptor (TX3 k).2.2.1 = some (tyX3 k) := by decide +kernel
abbrev cX3_init : ByteArray := prog_5_method_1_code
def yX3_init : MethodName := ⟨RX3, "<init>", "()V"⟩
abbrev cX3_written : ByteArray := prog_5_method_2_code
def yX3_written : MethodName := ⟨RX3, "written", "()LTruceWall$Truce;"⟩
abbrev cX3_fineCode : ByteArray := prog_5_method_3_code
def yX3_fineCode : MethodName := ⟨RX3, "fineCode", "()[I"⟩
abbrev cX3_readTruce : ByteArray := prog_5_method_4_code
def yX3_readTruce : MethodName := ⟨RX3, "readTruce", "([CI)I"⟩
abbrev cX3_wallLine : ByteArray := prog_5_method_5_code
def yX3_wallLine : MethodName := ⟨RX3, "wallLine", "()V"⟩
abbrev cX3_stoneLine : ByteArray := prog_5_method_6_code
def yX3_stoneLine : MethodName := ⟨RX3, "stoneLine", "()V"⟩
abbrev cX3_gatesLine : ByteArray := prog_5_method_7_code
def yX3_gatesLine : MethodName := ⟨RX3, "gatesLine", "()V"⟩
abbrev cX3_fineLine : ByteArray := prog_5_method_8_code
def yX3_fineLine : MethodName := ⟨RX3, "fineLine", "()V"⟩
abbrev cX3_readE : ByteArray := prog_5_method_9_code
def yX3_readE : MethodName := ⟨RX3, "readE", "(I)V"⟩
abbrev cX3_readTest : ByteArray := prog_5_method_10_code
def yX3_readTest : MethodName := ⟨RX3, "readTest", "(I)V"⟩
abbrev cX3_readSum : ByteArray := prog_5_method_11_code
def yX3_readSum : MethodName := ⟨RX3, "readSum", "(I)V"⟩
abbrev cX3_readProduct : ByteArray := prog_5_method_12_code
def yX3_readProduct : MethodName := ⟨RX3, "readProduct", "(I)V"⟩
abbrev cX3_readPart : ByteArray := prog_5_method_13_code
def yX3_readPart : MethodName := ⟨RX3, "readPart", "(I)V"⟩
abbrev cX3_emit : ByteArray := prog_5_method_14_code
def yX3_emit : MethodName := ⟨RX3, "emit", "(I)V"⟩
abbrev cX3_wrong : ByteArray := prog_5_method_15_code
def yX3_wrong : MethodName := ⟨RX3, "wrong", "(I)V"⟩
abbrev cX3_expect : ByteArray := prog_5_method_16_code
def yX3_expect : MethodName := ⟨RX3, "expect", "(I)V"⟩
abbrev cX3_expectNumber : ByteArray := prog_5_method_17_code
def yX3_expectNumber : MethodName := ⟨RX3, "expectNumber", "(II)I"⟩
abbrev cX3_expectKind : ByteArray := prog_5_method_18_code
def yX3_expectKind : MethodName := ⟨RX3, "expectKind", "()I"⟩
abbrev cX3_expectName : ByteArray := prog_5_method_19_code
def yX3_expectName : MethodName := ⟨RX3, "expectName", "()J"⟩
abbrev cX3_step : ByteArray := prog_5_method_20_code
def yX3_step : MethodName := ⟨RX3, "step", "()V"⟩
abbrev cX3_stepWord : ByteArray := prog_5_method_21_code
def yX3_stepWord : MethodName := ⟨RX3, "stepWord", "()V"⟩
abbrev cX3_knownWord : ByteArray := prog_5_method_22_code
def yX3_knownWord : MethodName := ⟨RX3, "knownWord", "(I)I"⟩
abbrev cX3_stepNumber : ByteArray := prog_5_method_23_code
def yX3_stepNumber : MethodName := ⟨RX3, "stepNumber", "()V"⟩
abbrev cX3_isLetter : ByteArray := prog_5_method_24_code
def yX3_isLetter : MethodName := ⟨RX3, "isLetter", "(C)Z"⟩
abbrev cX3_isDigit : ByteArray := prog_5_method_25_code
def yX3_isDigit : MethodName := ⟨RX3, "isDigit", "(C)Z"⟩
abbrev cX3_isSign : ByteArray := prog_5_method_26_code
def yX3_isSign : MethodName := ⟨RX3, "isSign", "(C)Z"⟩
def RX4 : String := "TruceWall$Reckoner"
def TX4 : u_T := fun k => match k with
  | 0 => ("TruceWall$Reckoner", "waiting", "[I", true)
  | _ => ("TruceWall$Reckoner", "top", "I", false)
def tyX4 : Nat → FieldType := fun k => match k with
  | 0 => .array .int
  | _ => .int
abbrev wsX40 : List Cond := u_ws RX4 TX4 2
theorem nmX4 : ∀ a, a < 2 → ∀ b, b < 2 → a ≠ b → (TX4 a).2.1 ≠ (TX4 b).2.1 := by decide +kernel
theorem tyX4_ok : ∀ k, k < 2 → parseFieldDescriptor (TX4 k).2.2.1 = some (tyX4 k) := by decide +kernel
abbrev cX4_init : ByteArray := prog_6_method_1_code
def yX4_init : MethodName := ⟨RX4, "<init>", "()V"⟩
abbrev cX4_worth : ByteArray := prog_6_method_2_code
def yX4_worth : MethodName := ⟨RX4, "worth", "([IIIII)I"⟩
abbrev cX4_joined : ByteArray := prog_6_method_3_code
def yX4_joined : MethodName := ⟨RX4, "joined", "(III)I"⟩
abbrev cX4_push : ByteArray := prog_6_method_4_code
def yX4_push : MethodName := ⟨RX4, "push", "(I)V"⟩
abbrev cX4_pop : ByteArray := prog_6_method_5_code
def yX4_pop : MethodName := ⟨RX4, "pop", "()I"⟩
def RX5 : String := "TruceWall$Site"
def TX5 : u_T := fun k => match k with
  | 0 => ("TruceWall$Site", "acts", "[I", true)
  | 1 => ("TruceWall$Site", "done", "I", false)
  | 2 => ("TruceWall$Site", "wall", "J", false)
  | 3 => ("TruceWall$Site", "bill", "I", false)
  | 4 => ("TruceWall$Site", "holesOf", "[I", true)
  | 5 => ("TruceWall$Site", "holesIn", "[I", true)
  | 6 => ("TruceWall$Site", "owners", "[I", true)
  | _ => ("TruceWall$Site", "reckoner", "LTruceWall$Reckoner;", true)
def tyX5 : Nat → FieldType := fun k => match k with
  | 0 => .array .int
  | 1 => .int
  | 2 => .long
  | 3 => .int
  | 4 => .array .int
  | 5 => .array .int
  | 6 => .array .int
  | _ => .object "TruceWall$Reckoner"
abbrev wsX50 : List Cond := u_ws RX5 TX5 8
theorem nmX5 : ∀ a, a < 8 → ∀ b, b < 8 → a ≠ b → (TX5 a).2.1 ≠ (TX5 b).2.1 := by decide +kernel
theorem tyX5_ok : ∀ k, k < 8 → parseFieldDescriptor (TX5 k).2.2.1 = some (tyX5 k) := by decide +kernel
abbrev cX5_init : ByteArray := prog_7_method_1_code
def yX5_init : MethodName := ⟨RX5, "<init>", "()V"⟩
abbrev cX5_town : ByteArray := prog_7_method_2_code
def yX5_town : MethodName := ⟨RX5, "town", "()I"⟩
abbrev cX5_clear : ByteArray := prog_7_method_3_code
def yX5_clear : MethodName := ⟨RX5, "clear", "()V"⟩
abbrev cX5_take : ByteArray := prog_7_method_4_code
def yX5_take : MethodName := ⟨RX5, "take", "([I)V"⟩
abbrev cX5_replay : ByteArray := prog_7_method_5_code
def yX5_replay : MethodName := ⟨RX5, "replay", "(LTruceWall$Truce;I)V"⟩
abbrev cX5_perform : ByteArray := prog_7_method_6_code
def yX5_perform : MethodName := ⟨RX5, "perform", "(LTruceWall$Truce;I)V"⟩
abbrev cX5_lodge : ByteArray := prog_7_method_7_code
def yX5_lodge : MethodName := ⟨RX5, "lodge", "(LTruceWall$Truce;I)V"⟩
def RX6 : String := "TruceWall$Truce"
def TX6 : u_T := fun k => match k with
  | 0 => ("TruceWall$Truce", "columns", "I", true)
  | 1 => ("TruceWall$Truce", "high", "I", true)
  | 2 => ("TruceWall$Truce", "gates", "I", true)
  | 3 => ("TruceWall$Truce", "stones", "I", true)
  | 4 => ("TruceWall$Truce", "kinds", "[I", true)
  | 5 => ("TruceWall$Truce", "wides", "[I", true)
  | 6 => ("TruceWall$Truce", "fine", "[I", true)
  | 7 => ("TruceWall$Truce", "isSmall", "Z", true)
  | _ => ("TruceWall$Truce", "candidates", "[I", true)
def tyX6 : Nat → FieldType := fun k => match k with
  | 0 => .int
  | 1 => .int
  | 2 => .int
  | 3 => .int
  | 4 => .array .int
  | 5 => .array .int
  | 6 => .array .int
  | 7 => .boolean
  | _ => .array .int
abbrev wsX60 : List Cond := u_ws RX6 TX6 9
theorem nmX6 : ∀ a, a < 9 → ∀ b, b < 9 → a ≠ b → (TX6 a).2.1 ≠ (TX6 b).2.1 := by decide +kernel
theorem tyX6_ok : ∀ k, k < 9 → parseFieldDescriptor (TX6 k).2.2.1 = some (tyX6 k) := by decide +kernel
abbrev cX6_init : ByteArray := prog_8_method_1_code
def yX6_init : MethodName := ⟨RX6, "<init>", "(LTruceWall$Reader;)V"⟩
abbrev cX6_heightAt : ByteArray := prog_8_method_2_code
def yX6_heightAt : MethodName := ⟨RX6, "heightAt", "(JI)I"⟩
abbrev cX6_gateAt : ByteArray := prog_8_method_3_code
def yX6_gateAt : MethodName := ⟨RX6, "gateAt", "(JI)I"⟩
abbrev cX6_withPlace : ByteArray := prog_8_method_4_code
def yX6_withPlace : MethodName := ⟨RX6, "withPlace", "(JII)J"⟩
abbrev cX6_power : ByteArray := prog_8_method_5_code
def yX6_power : MethodName := ⟨RX6, "power", "(II)I"⟩
abbrev cX6_allCandidates : ByteArray := prog_8_method_6_code
def yX6_allCandidates : MethodName := ⟨RX6, "allCandidates", "()[I"⟩
abbrev cX6_isAsTold : ByteArray := prog_8_method_7_code
def yX6_isAsTold : MethodName := ⟨RX6, "isAsTold", "(III)Z"⟩
abbrev cX6_twinOf : ByteArray := prog_8_method_8_code
def yX6_twinOf : MethodName := ⟨RX6, "twinOf", "(I)I"⟩
abbrev cX6_stoneHindrance : ByteArray := prog_8_method_9_code
def yX6_stoneHindrance : MethodName := ⟨RX6, "stoneHindrance", "(JIII)I"⟩
abbrev cX6_twinHindrance : ByteArray := prog_8_method_10_code
def yX6_twinHindrance : MethodName := ⟨RX6, "twinHindrance", "(JI)I"⟩
abbrev cX6_roundStands : ByteArray := prog_8_method_11_code
def yX6_roundStands : MethodName := ⟨RX6, "roundStands", "(JII)Z"⟩
abbrev cX6_bridgeStands : ByteArray := prog_8_method_12_code
def yX6_bridgeStands : MethodName := ⟨RX6, "bridgeStands", "(III)Z"⟩
abbrev cX6_gateHindrance : ByteArray := prog_8_method_13_code
def yX6_gateHindrance : MethodName := ⟨RX6, "gateHindrance", "(JII)I"⟩
abbrev cX6_gatesLeft : ByteArray := prog_8_method_14_code
def yX6_gatesLeft : MethodName := ⟨RX6, "gatesLeft", "(JI)I"⟩
abbrev cX6_withGate : ByteArray := prog_8_method_15_code
def yX6_withGate : MethodName := ⟨RX6, "withGate", "(JII)J"⟩
abbrev cX6_canDo : ByteArray := prog_8_method_16_code
def yX6_canDo : MethodName := ⟨RX6, "canDo", "(JII)Z"⟩
abbrev cX6_gather : ByteArray := prog_8_method_17_code
def yX6_gather : MethodName := ⟨RX6, "gather", "(JI[I)I"⟩
abbrev cX6_after : ByteArray := prog_8_method_18_code
def yX6_after : MethodName := ⟨RX6, "after", "(JII)J"⟩
abbrev cX6_isClosed : ByteArray := prog_8_method_19_code
def yX6_isClosed : MethodName := ⟨RX6, "isClosed", "(J)Z"⟩
abbrev cX6_payer : ByteArray := prog_8_method_20_code
def yX6_payer : MethodName := ⟨RX6, "payer", "(JI)I"⟩
abbrev cX6_numberOf : ByteArray := prog_8_method_21_code
def yX6_numberOf : MethodName := ⟨RX6, "numberOf", "(J)I"⟩
abbrev cX6_numberOfLooks : ByteArray := prog_8_method_22_code
def yX6_numberOfLooks : MethodName := ⟨RX6, "numberOfLooks", "(J)I"⟩
abbrev cX6_wallOf : ByteArray := prog_8_method_23_code
def yX6_wallOf : MethodName := ⟨RX6, "wallOf", "(I)J"⟩
abbrev cX6_manyNumbers : ByteArray := prog_8_method_24_code
def yX6_manyNumbers : MethodName := ⟨RX6, "manyNumbers", "()I"⟩
def RX7 : String := "TruceWall$Ways"
def TX7 : u_T := fun k => match k with
  | _ => ("TruceWall$Ways", "many", "[I", true)
def tyX7 : Nat → FieldType := fun k => match k with
  | _ => .array .int
abbrev wsX70 : List Cond := u_ws RX7 TX7 1
theorem nmX7 : ∀ a, a < 1 → ∀ b, b < 1 → a ≠ b → (TX7 a).2.1 ≠ (TX7 b).2.1 := by decide +kernel
theorem tyX7_ok : ∀ k, k < 1 → parseFieldDescriptor (TX7 k).2.2.1 = some (tyX7 k) := by decide +kernel
abbrev cX7_init : ByteArray := prog_9_method_1_code
def yX7_init : MethodName := ⟨RX7, "<init>", "()V"⟩
abbrev cX7_spread : ByteArray := prog_9_method_2_code
def yX7_spread : MethodName := ⟨RX7, "spread", "(LTruceWall$Truce;JIIZ)V"⟩
abbrev cX7_spreadDay : ByteArray := prog_9_method_3_code
def yX7_spreadDay : MethodName := ⟨RX7, "spreadDay", "(LTruceWall$Truce;IZ)Z"⟩
abbrev cX7_spreadWall : ByteArray := prog_9_method_4_code
def yX7_spreadWall : MethodName := ⟨RX7, "spreadWall", "(LTruceWall$Truce;JIIZ)V"⟩
abbrev cX7_unlikeWalls : ByteArray := prog_9_method_5_code
def yX7_unlikeWalls : MethodName := ⟨RX7, "unlikeWalls", "(LTruceWall$Truce;)I"⟩
abbrev cX7_waysTo : ByteArray := prog_9_method_6_code
def yX7_waysTo : MethodName := ⟨RX7, "waysTo", "(LTruceWall$Truce;J)I"⟩
def RX8 : String := "TruceWall"
def TX8 : u_T := fun k => match k with
  | 0 => ("TruceWall", "tape", "[C", true)
  | 1 => ("TruceWall", "signs", "I", false)
  | 2 => ("TruceWall", "reader", "LTruceWall$Reader;", true)
  | 3 => ("TruceWall", "truce", "LTruceWall$Truce;", false)
  | 4 => ("TruceWall", "site", "LTruceWall$Site;", true)
  | 5 => ("TruceWall", "marks", "[LTruceWall$Mark;", true)
  | 6 => ("TruceWall", "bestPlay", "LTruceWall$Play;", true)
  | 7 => ("TruceWall", "masonPlay", "LTruceWall$Play;", true)
  | 8 => ("TruceWall", "ways", "LTruceWall$Ways;", true)
  | 9 => ("TruceWall", "doable", "[I", true)
  | 10 => ("TruceWall", "choices", "I", false)
  | _ => ("TruceWall", "drawable", "[I", true)
def tyX8 : Nat → FieldType := fun k => match k with
  | 0 => .array .char
  | 1 => .int
  | 2 => .object "TruceWall$Reader"
  | 3 => .object "TruceWall$Truce"
  | 4 => .object "TruceWall$Site"
  | 5 => .array (.object "TruceWall$Mark")
  | 6 => .object "TruceWall$Play"
  | 7 => .object "TruceWall$Play"
  | 8 => .object "TruceWall$Ways"
  | 9 => .array .int
  | 10 => .int
  | _ => .array .int
abbrev wsX80 : List Cond := u_ws RX8 TX8 12
theorem nmX8 : ∀ a, a < 12 → ∀ b, b < 12 → a ≠ b → (TX8 a).2.1 ≠ (TX8 b).2.1 := by decide +kernel
theorem tyX8_ok : ∀ k, k < 12 → parseFieldDescriptor (TX8 k).2.2.1 = some (tyX8 k) := by decide +kernel
abbrev cX8_init : ByteArray := prog_1_method_1_code
def yX8_init : MethodName := ⟨RX8, "<init>", "()V"⟩
abbrev cX8_feed : ByteArray := prog_1_method_2_code
def yX8_feed : MethodName := ⟨RX8, "feed", "(JJJ)I"⟩
abbrev cX8_truce : ByteArray := prog_1_method_3_code
def yX8_truce : MethodName := ⟨RX8, "truce", "()I"⟩
abbrev cX8_stone : ByteArray := prog_1_method_4_code
def yX8_stone : MethodName := ⟨RX8, "stone", "(II)I"⟩
abbrev cX8_set : ByteArray := prog_1_method_5_code
def yX8_set : MethodName := ⟨RX8, "set", "(III)I"⟩
abbrev cX8_leave : ByteArray := prog_1_method_6_code
def yX8_leave : MethodName := ⟨RX8, "leave", "(I)I"⟩
abbrev cX8_fits : ByteArray := prog_1_method_7_code
def yX8_fits : MethodName := ⟨RX8, "fits", "(III)I"⟩
abbrev cX8_undo : ByteArray := prog_1_method_8_code
def yX8_undo : MethodName := ⟨RX8, "undo", "()Z"⟩
abbrev cX8_column : ByteArray := prog_1_method_9_code
def yX8_column : MethodName := ⟨RX8, "column", "(II)I"⟩
abbrev cX8_state : ByteArray := prog_1_method_10_code
def yX8_state : MethodName := ⟨RX8, "state", "(I)I"⟩
abbrev cX8_act : ByteArray := prog_1_method_11_code
def yX8_act : MethodName := ⟨RX8, "act", "(II)I"⟩
abbrev cX8_pays : ByteArray := prog_1_method_12_code
def yX8_pays : MethodName := ⟨RX8, "pays", "()I"⟩
abbrev cX8_days : ByteArray := prog_1_method_13_code
def yX8_days : MethodName := ⟨RX8, "days", "()I"⟩
abbrev cX8_best : ByteArray := prog_1_method_14_code
def yX8_best : MethodName := ⟨RX8, "best", "()I"⟩
abbrev cX8_holds : ByteArray := prog_1_method_15_code
def yX8_holds : MethodName := ⟨RX8, "holds", "(I)I"⟩
abbrev cX8_mason : ByteArray := prog_1_method_16_code
def yX8_mason : MethodName := ⟨RX8, "mason", "(II)I"⟩
abbrev cX8_reached : ByteArray := prog_1_method_17_code
def yX8_reached : MethodName := ⟨RX8, "reached", "(I)I"⟩
abbrev cX8_histories : ByteArray := prog_1_method_18_code
def yX8_histories : MethodName := ⟨RX8, "histories", "(I)I"⟩
abbrev cX8_lots : ByteArray := prog_1_method_19_code
def yX8_lots : MethodName := ⟨RX8, "lots", "(III)I"⟩
abbrev cX8_mark : ByteArray := prog_1_method_20_code
def yX8_mark : MethodName := ⟨RX8, "mark", "(IZ)Z"⟩
abbrev cX8_count : ByteArray := prog_1_method_21_code
def yX8_count : MethodName := ⟨RX8, "count", "(I)I"⟩
abbrev cX8_takeSigns : ByteArray := prog_1_method_22_code
def yX8_takeSigns : MethodName := ⟨RX8, "takeSigns", "(J)V"⟩
abbrev cX8_lookRound : ByteArray := prog_1_method_23_code
def yX8_lookRound : MethodName := ⟨RX8, "lookRound", "()V"⟩
abbrev cX8_isOver : ByteArray := prog_1_method_24_code
def yX8_isOver : MethodName := ⟨RX8, "isOver", "()Z"⟩
abbrev cX8_gateRefused : ByteArray := prog_1_method_25_code
def yX8_gateRefused : MethodName := ⟨RX8, "gateRefused", "(I)I"⟩
abbrev cX8_outcomeNow : ByteArray := prog_1_method_26_code
def yX8_outcomeNow : MethodName := ⟨RX8, "outcomeNow", "()I"⟩
abbrev cX8_outcomeBehind : ByteArray := prog_1_method_27_code
def yX8_outcomeBehind : MethodName := ⟨RX8, "outcomeBehind", "(I)I"⟩
def RX9 : String := "TruceWallModel"
def TX9 : u_T := fun k => match k with
  | 0 => ("TruceWallModel", "thrown", "I", false)
  | 1 => ("TruceWallModel", "taped", "I", false)
  | 2 => ("TruceWallModel", "tape", "[I", true)
  | 3 => ("TruceWallModel", "size", "I", false)
  | 4 => ("TruceWallModel", "place", "I", false)
  | 5 => ("TruceWallModel", "begin", "I", false)
  | 6 => ("TruceWallModel", "token", "I", false)
  | 7 => ("TruceWallModel", "word", "J", false)
  | 8 => ("TruceWallModel", "told", "I", false)
  | 9 => ("TruceWallModel", "wrong", "I", false)
  | 10 => ("TruceWallModel", "wide", "[I", true)
  | 11 => ("TruceWallModel", "high", "[I", true)
  | 12 => ("TruceWallModel", "stones", "[I", true)
  | 13 => ("TruceWallModel", "gates", "[I", true)
  | 14 => ("TruceWallModel", "kind", "[I", true)
  | 15 => ("TruceWallModel", "broad", "[I", true)
  | 16 => ("TruceWallModel", "names", "[J", true)
  | 17 => ("TruceWallModel", "lineFrom", "[I", true)
  | 18 => ("TruceWallModel", "lineTo", "[I", true)
  | 19 => ("TruceWallModel", "codes", "[I", true)
  | 20 => ("TruceWallModel", "code", "I", false)
  | 21 => ("TruceWallModel", "isGatesTold", "Z", false)
  | 22 => ("TruceWallModel", "isFineTold", "Z", false)
  | 23 => ("TruceWallModel", "opened", "[I", true)
  | 24 => ("TruceWallModel", "compared", "[Z", true)
  | 25 => ("TruceWallModel", "kept", "[I", true)
  | 26 => ("TruceWallModel", "keptBy", "[I", true)
  | 27 => ("TruceWallModel", "ahead", "[I", true)
  | 28 => ("TruceWallModel", "against", "[I", true)
  | 29 => ("TruceWallModel", "sum", "[I", true)
  | 30 => ("TruceWallModel", "sumBy", "[I", true)
  | 31 => ("TruceWallModel", "term", "[I", true)
  | 32 => ("TruceWallModel", "termBy", "[I", true)
  | 33 => ("TruceWallModel", "byNot", "[I", true)
  | 34 => ("TruceWallModel", "valueOf", "[I", true)
  | 35 => ("TruceWallModel", "given", "I", false)
  | 36 => ("TruceWallModel", "s", "[I", true)
  | 37 => ("TruceWallModel", "before", "[I", true)
  | 38 => ("TruceWallModel", "done", "I", false)
  | 39 => ("TruceWallModel", "actStone", "I", false)
  | 40 => ("TruceWallModel", "actColumn", "I", false)
  | 41 => ("TruceWallModel", "actWide", "I", false)
  | 42 => ("TruceWallModel", "payer", "[B", true)
  | 43 => ("TruceWallModel", "daysOf", "[B", true)
  | 44 => ("TruceWallModel", "isKnown", "Z", false)
  | 45 => ("TruceWallModel", "masonPays", "[B", true)
  | 46 => ("TruceWallModel", "ways", "[I", true)
  | 47 => ("TruceWallModel", "waysThen", "[I", true)
  | 48 => ("TruceWallModel", "g", "J", false)
  | 49 => ("TruceWallModel", "isLaid", "[Z", true)
  | 50 => ("TruceWallModel", "marked", "[I", true)
  | _ => ("TruceWallModel", "markDone", "[I", true)
def tyX9 : Nat → FieldType := fun k => match k with
  | 0 => .int
  | 1 => .int
  | 2 => .array .int
  | 3 => .int
  | 4 => .int
  | 5 => .int
  | 6 => .int
  | 7 => .long
  | 8 => .int
  | 9 => .int
  | 10 => .array .int
  | 11 => .array .int
  | 12 => .array .int
  | 13 => .array .int
  | 14 => .array .int
  | 15 => .array .int
  | 16 => .array .long
  | 17 => .array .int
  | 18 => .array .int
  | 19 => .array .int
  | 20 => .int
  | 21 => .boolean
  | 22 => .boolean
  | 23 => .array .int
  | 24 => .array .boolean
  | 25 => .array .int
  | 26 => .array .int
  | 27 => .array .int
  | 28 => .array .int
  | 29 => .array .int
  | 30 => .array .int
  | 31 => .array .int
  | 32 => .array .int
  | 33 => .array .int
  | 34 => .array .int
  | 35 => .int
  | 36 => .array .int
  | 37 => .array .int
  | 38 => .int
  | 39 => .int
  | 40 => .int
  | 41 => .int
  | 42 => .array .byte
  | 43 => .array .byte
  | 44 => .boolean
  | 45 => .array .byte
  | 46 => .array .int
  | 47 => .array .int
  | 48 => .long
  | 49 => .array .boolean
  | 50 => .array .int
  | _ => .array .int
abbrev wsX90 : List Cond := u_ws RX9 TX9 52
theorem nmX9 : ∀ a, a < 52 → ∀ b, b < 52 → a ≠ b → (TX9 a).2.1 ≠ (TX9 b).2.1 := by decide +kernel
theorem tyX9_ok : ∀ k, k < 52 → parseFieldDescriptor (TX9 k).2.2.1 = some (tyX9 k) := by decide +kernel
abbrev cX9_init : ByteArray := prog_11_method_1_code
def yX9_init : MethodName := ⟨RX9, "<init>", "()V"⟩
abbrev cX9_thrown : ByteArray := prog_11_method_2_code
def yX9_thrown : MethodName := ⟨RX9, "thrown", "()I"⟩
abbrev cX9_within : ByteArray := prog_11_method_3_code
def yX9_within : MethodName := ⟨RX9, "within", "(III)Z"⟩
abbrev cX9_feed : ByteArray := prog_11_method_4_code
def yX9_feed : MethodName := ⟨RX9, "feed", "(JJJ)I"⟩
abbrev cX9_signAt : ByteArray := prog_11_method_5_code
def yX9_signAt : MethodName := ⟨RX9, "signAt", "(I)I"⟩
abbrev cX9_nextToken : ByteArray := prog_11_method_6_code
def yX9_nextToken : MethodName := ⟨RX9, "nextToken", "()V"⟩
abbrev cX9_isWord : ByteArray := prog_11_method_7_code
def yX9_isWord : MethodName := ⟨RX9, "isWord", "(J)Z"⟩
abbrev cX9_isSign : ByteArray := prog_11_method_8_code
def yX9_isSign : MethodName := ⟨RX9, "isSign", "(I)Z"⟩
abbrev cX9_fails : ByteArray := prog_11_method_9_code
def yX9_fails : MethodName := ⟨RX9, "fails", "(I)Z"⟩
abbrev cX9_puts : ByteArray := prog_11_method_10_code
def yX9_puts : MethodName := ⟨RX9, "puts", "(I)V"⟩
abbrev cX9_fact : ByteArray := prog_11_method_11_code
def yX9_fact : MethodName := ⟨RX9, "fact", "()I"⟩
abbrev cX9_reads : ByteArray := prog_11_method_12_code
def yX9_reads : MethodName := ⟨RX9, "reads", "()Z"⟩
abbrev cX9_opens : ByteArray := prog_11_method_13_code
def yX9_opens : MethodName := ⟨RX9, "opens", "(I)V"⟩
abbrev cX9_sums : ByteArray := prog_11_method_14_code
def yX9_sums : MethodName := ⟨RX9, "sums", "(I)V"⟩
abbrev cX9_tests : ByteArray := prog_11_method_15_code
def yX9_tests : MethodName := ⟨RX9, "tests", "(I)V"⟩
abbrev cX9_worked : ByteArray := prog_11_method_16_code
def yX9_worked : MethodName := ⟨RX9, "worked", "(I)I"⟩
abbrev cX9_isKept : ByteArray := prog_11_method_17_code
def yX9_isKept : MethodName := ⟨RX9, "isKept", "()Z"⟩
abbrev cX9_needsNumber : ByteArray := prog_11_method_18_code
def yX9_needsNumber : MethodName := ⟨RX9, "needsNumber", "(II)Z"⟩
abbrev cX9_ends : ByteArray := prog_11_method_19_code
def yX9_ends : MethodName := ⟨RX9, "ends", "()Z"⟩
abbrev cX9_kindAt : ByteArray := prog_11_method_20_code
def yX9_kindAt : MethodName := ⟨RX9, "kindAt", "()I"⟩
abbrev cX9_readsStone : ByteArray := prog_11_method_21_code
def yX9_readsStone : MethodName := ⟨RX9, "readsStone", "()Z"⟩
abbrev cX9_readsGates : ByteArray := prog_11_method_22_code
def yX9_readsGates : MethodName := ⟨RX9, "readsGates", "()Z"⟩
abbrev cX9_readsFine : ByteArray := prog_11_method_23_code
def yX9_readsFine : MethodName := ⟨RX9, "readsFine", "()Z"⟩
abbrev cX9_readsAll : ByteArray := prog_11_method_24_code
def yX9_readsAll : MethodName := ⟨RX9, "readsAll", "()Z"⟩
abbrev cX9_moves : ByteArray := prog_11_method_25_code
def yX9_moves : MethodName := ⟨RX9, "moves", "([IIII)V"⟩
abbrev cX9_lays : ByteArray := prog_11_method_26_code
def yX9_lays : MethodName := ⟨RX9, "lays", "(II)V"⟩
abbrev cX9_truce : ByteArray := prog_11_method_27_code
def yX9_truce : MethodName := ⟨RX9, "truce", "()I"⟩
abbrev cX9_begins : ByteArray := prog_11_method_28_code
def yX9_begins : MethodName := ⟨RX9, "begins", "()V"⟩
abbrev cX9_nothing : ByteArray := prog_11_method_29_code
def yX9_nothing : MethodName := ⟨RX9, "nothing", "(I)V"⟩
abbrev cX9_isClosed : ByteArray := prog_11_method_30_code
def yX9_isClosed : MethodName := ⟨RX9, "isClosed", "(I)Z"⟩
abbrev cX9_looks : ByteArray := prog_11_method_31_code
def yX9_looks : MethodName := ⟨RX9, "looks", "(I)V"⟩
abbrev cX9_isColumn : ByteArray := prog_11_method_32_code
def yX9_isColumn : MethodName := ⟨RX9, "isColumn", "(I)Z"⟩
abbrev cX9_otherOf : ByteArray := prog_11_method_33_code
def yX9_otherOf : MethodName := ⟨RX9, "otherOf", "(I)I"⟩
abbrev cX9_isWide : ByteArray := prog_11_method_34_code
def yX9_isWide : MethodName := ⟨RX9, "isWide", "(II)Z"⟩
abbrev cX9_stands : ByteArray := prog_11_method_35_code
def yX9_stands : MethodName := ⟨RX9, "stands", "(IIII)Z"⟩
abbrev cX9_why : ByteArray := prog_11_method_36_code
def yX9_why : MethodName := ⟨RX9, "why", "(IIIIZ)I"⟩
abbrev cX9_whyGate : ByteArray := prog_11_method_37_code
def yX9_whyGate : MethodName := ⟨RX9, "whyGate", "(IIZ)I"⟩
abbrev cX9_nextAct : ByteArray := prog_11_method_38_code
def yX9_nextAct : MethodName := ⟨RX9, "nextAct", "(II)I"⟩
abbrev cX9_hasAct : ByteArray := prog_11_method_39_code
def yX9_hasAct : MethodName := ⟨RX9, "hasAct", "(I)Z"⟩
abbrev cX9_acts : ByteArray := prog_11_method_40_code
def yX9_acts : MethodName := ⟨RX9, "acts", "(I)I"⟩
abbrev cX9_finds : ByteArray := prog_11_method_41_code
def yX9_finds : MethodName := ⟨RX9, "finds", "(II)Z"⟩
abbrev cX9_sets : ByteArray := prog_11_method_42_code
def yX9_sets : MethodName := ⟨RX9, "sets", "(IIII)V"⟩
abbrev cX9_does : ByteArray := prog_11_method_43_code
def yX9_does : MethodName := ⟨RX9, "does", "(IIII)V"⟩
abbrev cX9_keeps : ByteArray := prog_11_method_44_code
def yX9_keeps : MethodName := ⟨RX9, "keeps", "()V"⟩
abbrev cX9_stone : ByteArray := prog_11_method_45_code
def yX9_stone : MethodName := ⟨RX9, "stone", "(II)I"⟩
abbrev cX9_set : ByteArray := prog_11_method_46_code
def yX9_set : MethodName := ⟨RX9, "set", "(III)I"⟩
abbrev cX9_leave : ByteArray := prog_11_method_47_code
def yX9_leave : MethodName := ⟨RX9, "leave", "(I)I"⟩
abbrev cX9_fits : ByteArray := prog_11_method_48_code
def yX9_fits : MethodName := ⟨RX9, "fits", "(III)I"⟩
abbrev cX9_undo : ByteArray := prog_11_method_49_code
def yX9_undo : MethodName := ⟨RX9, "undo", "()Z"⟩
abbrev cX9_column : ByteArray := prog_11_method_50_code
def yX9_column : MethodName := ⟨RX9, "column", "(II)I"⟩
abbrev cX9_actsNow : ByteArray := prog_11_method_51_code
def yX9_actsNow : MethodName := ⟨RX9, "actsNow", "()I"⟩
abbrev cX9_state : ByteArray := prog_11_method_52_code
def yX9_state : MethodName := ⟨RX9, "state", "(I)I"⟩
abbrev cX9_act : ByteArray := prog_11_method_53_code
def yX9_act : MethodName := ⟨RX9, "act", "(II)I"⟩
abbrev cX9_isSmall : ByteArray := prog_11_method_54_code
def yX9_isSmall : MethodName := ⟨RX9, "isSmall", "()Z"⟩
abbrev cX9_wallOf : ByteArray := prog_11_method_55_code
def yX9_wallOf : MethodName := ⟨RX9, "wallOf", "(I)I"⟩
abbrev cX9_numberOf : ByteArray := prog_11_method_56_code
def yX9_numberOf : MethodName := ⟨RX9, "numberOf", "(I)I"⟩
abbrev cX9_laysOut : ByteArray := prog_11_method_57_code
def yX9_laysOut : MethodName := ⟨RX9, "laysOut", "(II)V"⟩
abbrev cX9_copies : ByteArray := prog_11_method_58_code
def yX9_copies : MethodName := ⟨RX9, "copies", "(II)V"⟩
abbrev cX9_knows : ByteArray := prog_11_method_59_code
def yX9_knows : MethodName := ⟨RX9, "knows", "()V"⟩
abbrev cX9_isBetter : ByteArray := prog_11_method_60_code
def yX9_isBetter : MethodName := ⟨RX9, "isBetter", "(IIIII)Z"⟩
abbrev cX9_solves : ByteArray := prog_11_method_61_code
def yX9_solves : MethodName := ⟨RX9, "solves", "(I)I"⟩
abbrev cX9_now : ByteArray := prog_11_method_62_code
def yX9_now : MethodName := ⟨RX9, "now", "()I"⟩
abbrev cX9_pays : ByteArray := prog_11_method_63_code
def yX9_pays : MethodName := ⟨RX9, "pays", "()I"⟩
abbrev cX9_days : ByteArray := prog_11_method_64_code
def yX9_days : MethodName := ⟨RX9, "days", "()I"⟩
abbrev cX9_behind : ByteArray := prog_11_method_65_code
def yX9_behind : MethodName := ⟨RX9, "behind", "(I)I"⟩
abbrev cX9_best : ByteArray := prog_11_method_66_code
def yX9_best : MethodName := ⟨RX9, "best", "()I"⟩
abbrev cX9_holds : ByteArray := prog_11_method_67_code
def yX9_holds : MethodName := ⟨RX9, "holds", "(I)I"⟩
abbrev cX9_ruled : ByteArray := prog_11_method_68_code
def yX9_ruled : MethodName := ⟨RX9, "ruled", "(II)I"⟩
abbrev cX9_masons : ByteArray := prog_11_method_69_code
def yX9_masons : MethodName := ⟨RX9, "masons", "(III)I"⟩
abbrev cX9_mason : ByteArray := prog_11_method_70_code
def yX9_mason : MethodName := ⟨RX9, "mason", "(II)I"⟩
abbrev cX9_goesOn : ByteArray := prog_11_method_71_code
def yX9_goesOn : MethodName := ⟨RX9, "goesOn", "(Z)V"⟩
abbrev cX9_reached : ByteArray := prog_11_method_72_code
def yX9_reached : MethodName := ⟨RX9, "reached", "(I)I"⟩
abbrev cX9_histories : ByteArray := prog_11_method_73_code
def yX9_histories : MethodName := ⟨RX9, "histories", "(I)I"⟩
abbrev cX9_draws : ByteArray := prog_11_method_74_code
def yX9_draws : MethodName := ⟨RX9, "draws", "(I)I"⟩
abbrev cX9_lots : ByteArray := prog_11_method_75_code
def yX9_lots : MethodName := ⟨RX9, "lots", "(III)I"⟩
abbrev cX9_mark : ByteArray := prog_11_method_76_code
def yX9_mark : MethodName := ⟨RX9, "mark", "(IZ)Z"⟩
abbrev cX9_count : ByteArray := prog_11_method_77_code
def yX9_count : MethodName := ⟨RX9, "count", "(I)I"⟩
def RJ0 : String := "java/lang/String"
abbrev cJ0_charAt_5068e : ByteArray := prog_19_method_56_code
def yJ0_charAt_5068e : MethodName := ⟨RJ0, "charAt", "(I)C"⟩
abbrev cJ0_isLatin1_aae02 : ByteArray := prog_19_method_154_code
def yJ0_isLatin1_aae02 : MethodName := ⟨RJ0, "isLatin1", "()Z"⟩
abbrev cJ0_checkIndex_df160 : ByteArray := prog_19_method_155_code
def yJ0_checkIndex_df160 : MethodName := ⟨RJ0, "checkIndex", "(II)V"⟩
def RJ1 : String := "java/lang/StringLatin1"
abbrev cJ1_charAt_3b067 : ByteArray := prog_20_method_2_code
def yJ1_charAt_3b067 : MethodName := ⟨RJ1, "charAt", "([BI)C"⟩
def RJ3 : String := "jdk/internal/util/Preconditions"
abbrev cJ3_checkIndex_8e157 : ByteArray := prog_27_method_11_code
def yJ3_checkIndex_8e157 : MethodName := ⟨RJ3, "checkIndex", "(IILjava/util/function/BiFunction;)I"⟩
def RL : String := "TruceWallLaw"
abbrev cL_state : ByteArray := method_3_code
def yL_state : MethodName := ⟨RL, "state", "(LTruceWall;I[J)I"⟩
abbrev cL_law : ByteArray := code
def yL_law : MethodName := ⟨RL, "law", "([I)Z"⟩
abbrev vwCl : List vw_C := [(RX1, TX1, 3), (RX2, TX2, 4), (RX3, TX3, 19), (RX4, TX4, 2), (RX5, TX5, 8), (RX6, TX6, 9), (RX7, TX7, 1), (RX8, TX8, 12), (RX9, TX9, 52)]
end
section
/-! THE ABSTRACT STATE: cells numbered from 1 in the order of their making; of each cell its ints, longs and references by slot (a reference: 0 is null, else a cell's number), its kind (a class's number, or 100 and the type of an array) and its length -/
abbrev St : Type := (Nat → Nat → Int32) × (Nat → Nat → Int64) × (Nat → Nat → Nat) × (Nat → Nat × Nat) × Nat × Nat
def gI (S : St) (a k : Nat) : Int32 := S.1 a k
def gL (S : St) (a k : Nat) : Int64 := S.2.1 a k
def gR (S : St) (a k : Nat) : Nat := S.2.2.1 a k
def gK (S : St) (a : Nat) : Nat := (S.2.2.2.1 a).1
def gN (S : St) (a : Nat) : Nat := (S.2.2.2.1 a).2
def gZ (S : St) : Nat := S.2.2.2.2.1
def gU (S : St) : Nat := S.2.2.2.2.2
def u2 {α : Type} (f : Nat → Nat → α) (a k : Nat) (v : α) : Nat → Nat → α := fun b j => if b = a ∧ j = k then v else f b j
def pI (S : St) (a k : Nat) (v : Int32) : St := (u2 S.1 a k v, S.2)
def pL (S : St) (a k : Nat) (v : Int64) : St := (S.1, u2 S.2.1 a k v, S.2.2)
def pR (S : St) (a k : Nat) (v : Nat) : St := (S.1, S.2.1, u2 S.2.2.1 a k v, S.2.2.2)
def z1 {α : Type} (f : Nat → Nat → α) (z : Nat) (v : α) : Nat → Nat → α := fun b j => if b = z then v else f b j
def nw (S : St) (c n : Nat) : St := (z1 S.1 (gZ S + 1) 0, z1 S.2.1 (gZ S + 1) 0, z1 S.2.2.1 (gZ S + 1) 0, (fun b => if b = gZ S + 1 then (c, n) else S.2.2.2.1 b), gZ S + 1, gU S + n)
/-- n ints of cell a from sp on, copied to cell b from dp on -/
def cpI (S : St) (a b sp dp n : Nat) : St := ((fun x j => if x = b ∧ dp ≤ j ∧ j < dp + n then S.1 a (sp + (j - dp)) else S.1 x j), S.2)
/-- a new int array that holds what cell a holds -/
def clI (S : St) (a : Nat) : St := ((fun b j => if b = gZ S + 1 then S.1 a j else S.1 b j), z1 S.2.1 (gZ S + 1) 0, z1 S.2.2.1 (gZ S + 1) 0, (fun b => if b = gZ S + 1 then (100, gN S a) else S.2.2.2.1 b), gZ S + 1, gU S + gN S a)
theorem gI_pI (S : St) (a k : Nat) (v : Int32) (b j : Nat) : gI (pI S a k v) b j = if b = a ∧ j = k then v else gI S b j := rfl
theorem gL_pL (S : St) (a k : Nat) (v : Int64) (b j : Nat) : gL (pL S a k v) b j = if b = a ∧ j = k then v else gL S b j := rfl
theorem gR_pR (S : St) (a k : Nat) (v : Nat) (b j : Nat) : gR (pR S a k v) b j = if b = a ∧ j = k then v else gR S b j := rfl
theorem gL_pI (S : St) (a k : Nat) (v : Int32) (b j : Nat) : gL (pI S a k v) b j = gL S b j := rfl
theorem gR_pI (S : St) (a k : Nat) (v : Int32) (b j : Nat) : gR (pI S a k v) b j = gR S b j := rfl
theorem gK_pI (S : St) (a k : Nat) (v : Int32) (b : Nat) : gK (pI S a k v) b = gK S b := rfl
theorem gN_pI (S : St) (a k : Nat) (v : Int32) (b : Nat) : gN (pI S a k v) b = gN S b := rfl
theorem gZ_pI (S : St) (a k : Nat) (v : Int32) : gZ (pI S a k v) = gZ S := rfl
theorem gU_pI (S : St) (a k : Nat) (v : Int32) : gU (pI S a k v) = gU S := rfl
theorem gI_pL (S : St) (a k : Nat) (v : Int64) (b j : Nat) : gI (pL S a k v) b j = gI S b j := rfl
theorem gR_pL (S : St) (a k : Nat) (v : Int64) (b j : Nat) : gR (pL S a k v) b j = gR S b j := rfl
theorem gK_pL (S : St) (a k : Nat) (v : Int64) (b : Nat) : gK (pL S a k v) b = gK S b := rfl
theorem gN_pL (S : St) (a k : Nat) (v : Int64) (b : Nat) : gN (pL S a k v) b = gN S b := rfl
theorem gZ_pL (S : St) (a k : Nat) (v : Int64) : gZ (pL S a k v) = gZ S := rfl
theorem gU_pL (S : St) (a k : Nat) (v : Int64) : gU (pL S a k v) = gU S := rfl
theorem gI_pR (S : St) (a k : Nat) (v : Nat) (b j : Nat) : gI (pR S a k v) b j = gI S b j := rfl
theorem gL_pR (S : St) (a k : Nat) (v : Nat) (b j : Nat) : gL (pR S a k v) b j = gL S b j := rfl
theorem gK_pR (S : St) (a k : Nat) (v : Nat) (b : Nat) : gK (pR S a k v) b = gK S b := rfl
theorem gN_pR (S : St) (a k : Nat) (v : Nat) (b : Nat) : gN (pR S a k v) b = gN S b := rfl
theorem gZ_pR (S : St) (a k : Nat) (v : Nat) : gZ (pR S a k v) = gZ S := rfl
theorem gU_pR (S : St) (a k : Nat) (v : Nat) : gU (pR S a k v) = gU S := rfl
theorem gI_nw (S : St) (c n b j : Nat) : gI (nw S c n) b j = if b = gZ S + 1 then 0 else gI S b j := rfl
theorem gL_nw (S : St) (c n b j : Nat) : gL (nw S c n) b j = if b = gZ S + 1 then 0 else gL S b j := rfl
theorem gR_nw (S : St) (c n b j : Nat) : gR (nw S c n) b j = if b = gZ S + 1 then 0 else gR S b j := rfl
theorem gK_nw (S : St) (c n b : Nat) : gK (nw S c n) b = if b = gZ S + 1 then c else gK S b := by
  unfold gK nw; dsimp only; split <;> rfl
theorem gN_nw (S : St) (c n b : Nat) : gN (nw S c n) b = if b = gZ S + 1 then n else gN S b := by
  unfold gN nw; dsimp only; split <;> rfl
theorem gZ_nw (S : St) (c n : Nat) : gZ (nw S c n) = gZ S + 1 := rfl
theorem gU_nw (S : St) (c n : Nat) : gU (nw S c n) = gU S + n := rfl
theorem gI_cpI (S : St) (a b sp dp n x j : Nat) : gI (cpI S a b sp dp n) x j = if x = b ∧ dp ≤ j ∧ j < dp + n then gI S a (sp + (j - dp)) else gI S x j := rfl
theorem gL_cpI (S : St) (a b sp dp n x j : Nat) : gL (cpI S a b sp dp n) x j = gL S x j := rfl
theorem gR_cpI (S : St) (a b sp dp n x j : Nat) : gR (cpI S a b sp dp n) x j = gR S x j := rfl
theorem gK_cpI (S : St) (a b sp dp n x : Nat) : gK (cpI S a b sp dp n) x = gK S x := rfl
theorem gN_cpI (S : St) (a b sp dp n x : Nat) : gN (cpI S a b sp dp n) x = gN S x := rfl
theorem gZ_cpI (S : St) (a b sp dp n : Nat) : gZ (cpI S a b sp dp n) = gZ S := rfl
theorem gU_cpI (S : St) (a b sp dp n : Nat) : gU (cpI S a b sp dp n) = gU S := rfl
theorem gI_clI (S : St) (a b j : Nat) : gI (clI S a) b j = if b = gZ S + 1 then gI S a j else gI S b j := rfl
theorem gL_clI (S : St) (a b j : Nat) : gL (clI S a) b j = if b = gZ S + 1 then 0 else gL S b j := rfl
theorem gR_clI (S : St) (a b j : Nat) : gR (clI S a) b j = if b = gZ S + 1 then 0 else gR S b j := rfl
theorem gK_clI (S : St) (a b : Nat) : gK (clI S a) b = if b = gZ S + 1 then 100 else gK S b := by
  unfold gK clI; dsimp only; split <;> rfl
theorem gN_clI (S : St) (a b : Nat) : gN (clI S a) b = if b = gZ S + 1 then gN S a else gN S b := by
  unfold gN clI; dsimp only; split <;> rfl
theorem gZ_clI (S : St) (a : Nat) : gZ (clI S a) = gZ S + 1 := rfl
theorem gU_clI (S : St) (a : Nat) : gU (clI S a) = gU S + gN S a := rfl
/-! ITS PICTURE in the machine: cell a lies at base + a -/
def ro (base r : Nat) : Option Nat := match r with
  | 0 => none
  | k + 1 => some (base + (k + 1))
def rv (base r : Nat) : Value := match r with
  | 0 => .null
  | k + 1 => .ref (base + (k + 1))
theorem rv_ro (base r : Nat) : va_rf (ro base r) = rv base r := by cases r <;> rfl
theorem rv_pos {base r : Nat} (h : 0 < r) : rv base r = .ref (base + r) := by cases r with
  | zero => omega
  | succ k => rfl
def tyC (c : Nat) : Nat → FieldType := match c with
  | 0 => tyX1
  | 1 => tyX2
  | 2 => tyX3
  | 3 => tyX4
  | 4 => tyX5
  | 5 => tyX6
  | 6 => tyX7
  | 7 => tyX8
  | _ => tyX9
def nC (c : Nat) : Nat := match c with
  | 0 => 3
  | 1 => 4
  | 2 => 19
  | 3 => 2
  | 4 => 8
  | 5 => 9
  | 6 => 1
  | 7 => 12
  | _ => 52
def tyK (t : Nat) : FieldType := match t with
  | 0 => .int
  | 1 => .long
  | 2 => .char
  | 3 => .byte
  | 4 => .boolean
  | _ => .object "TruceWall$Mark"
def fv (base : Nat) (S : St) (a : Nat) (ty : FieldType) (k : Nat) : Value := match ty with
  | .long => .long (gL S a k)
  | .object _ => rv base (gR S a k)
  | .array _ => rv base (gR S a k)
  | _ => .int (gI S a k)
def fl (base : Nat) (S : St) (a c : Nat) : List Value := (List.range (nC c)).map (fun k => fv base S a (tyC c k) k)
def af (base : Nat) (S : St) (a t : Nat) : (Nat → Int32) ⊕ (Nat → Int64) ⊕ (Nat → UInt32) ⊕ (Nat → UInt64) ⊕ (Nat → Option Nat) :=
  if t = 1 then .inr (.inl (gL S a)) else if t = 5 then .inr (.inr (.inr (.inr (fun k => ro base (gR S a k))))) else .inl (gI S a)
def ce (base : Nat) (ck : Nat → ClassId) (S : St) (a : Nat) : va_E :=
  if gK S a < 100 then .inr (gK S a, fl base S a (gK S a)) else .inl (ck (gK S a - 100), (gN S a, af base S a (gK S a - 100)))
def wl (base : Nat) (ck : Nat → ClassId) (S : St) : va_W := (List.range (gZ S)).map (fun p => (base + (p + 1), ce base ck S (p + 1)))
theorem wl_get {base : Nat} {ck : Nat → ClassId} {S : St} {a : Nat} (h0 : 0 < a) (h : a ≤ gZ S) : (wl base ck S)[a - 1]? = some (base + a, ce base ck S a) := by
  unfold wl
  rw [List.getElem?_map, List.getElem?_range (by omega)]
  have : a - 1 + 1 = a := by omega
  simp [this]
theorem wl_len (base : Nat) (ck : Nat → ClassId) (S : St) : (wl base ck S).length = gZ S := by simp [wl]
theorem wl_at {base : Nat} {ck : Nat → ClassId} {S : St} {k : Nat} {q : Nat × va_E} (h : (wl base ck S)[k]? = some q) : k < gZ S ∧ q = (base + (k + 1), ce base ck S (k + 1)) := by
  have hk : k < gZ S := by
    have := (List.getElem?_eq_some_iff.mp h).1
    rwa [wl_len] at this
  have h2 := wl_get (base := base) (ck := ck) (S := S) (a := k + 1) (by omega) (by omega)
  rw [Nat.add_sub_cancel, h] at h2
  exact ⟨hk, Option.some.inj h2⟩
theorem wl_set {base : Nat} {ck : Nat → ClassId} {S S' : St} {a : Nat} {x : va_E} (hz : gZ S' = gZ S) (h0 : 0 < a) (h : a ≤ gZ S) (ho : ∀ b, b ≠ a → ce base ck S' b = ce base ck S b) (hx : x = ce base ck S' a) : (wl base ck S).set (a - 1) (base + a, x) = wl base ck S' := by
  apply List.ext_getElem?
  intro k
  by_cases hk : k < gZ S
  · rw [List.getElem?_set]
    have h1 := wl_get (base := base) (ck := ck) (S := S) (a := k + 1) (by omega) (by omega)
    have h2 := wl_get (base := base) (ck := ck) (S := S') (a := k + 1) (by omega) (by omega)
    rw [Nat.add_sub_cancel] at h1 h2
    by_cases e : a - 1 = k
    · have ea : a = k + 1 := by omega
      subst ea
      rw [if_pos e, if_pos (by rw [wl_len]; omega), h2, hx]
    · rw [if_neg e, h1, h2, ho (k + 1) (by omega)]
  · rw [List.getElem?_eq_none (by rw [List.length_set, wl_len]; omega), List.getElem?_eq_none (by rw [wl_len]; omega)]
theorem wl_push {base : Nat} {ck : Nat → ClassId} {S S' : St} {x : va_E} (hz : gZ S' = gZ S + 1) (ho : ∀ b, b ≤ gZ S → ce base ck S' b = ce base ck S b) (hx : x = ce base ck S' (gZ S + 1)) : wl base ck S ++ [(base + (gZ S + 1), x)] = wl base ck S' := by
  unfold wl
  rw [hz, List.range_succ, List.map_append]
  congr 1
  · apply List.map_congr_left
    intro p hp
    rw [ho (p + 1) (by have := List.mem_range.mp hp; omega)]
  · simp [hx]
theorem wl_D (base : Nat) (ck : Nat → ClassId) (S : St) : va_D (fun q => base + 1 ≤ q) (wl base ck S) := by
  refine ⟨fun i j p q hi hj e => ?_, fun k q hk => ?_⟩
  · obtain ⟨-, rfl⟩ := wl_at hi
    obtain ⟨-, rfl⟩ := wl_at hj
    dsimp only at e
    omega
  · obtain ⟨-, rfl⟩ := wl_at hk
    dsimp only
    omega
def tysC (ck : Nat → ClassId) : List (ClassId × FieldType) := [(ck 0, tyK 0), (ck 1, tyK 1), (ck 2, tyK 2), (ck 3, tyK 3), (ck 4, tyK 4), (ck 5, tyK 5)]
/-- the heap holds the state -/
def HR (base : Nat) (D : va_G) (ck : Nat → ClassId) (S : St) (H : Heap) : Prop := va_P D vwCl (wl base ck S) H ∧ ∀ a, a = 0 ∨ gZ S < a → gK S a = 9999
theorem HR.live {base : Nat} {D : va_G} {ck : Nat → ClassId} {S : St} {H : Heap} (h : HR base D ck S H) {a c : Nat} (hk : gK S a = c) (hc : c ≠ 9999) : 0 < a ∧ a ≤ gZ S := by
  have := h.2 a
  refine ⟨Nat.pos_of_ne_zero fun e => hc ?_, Nat.not_lt.mp fun e => hc ?_⟩
  · rw [← hk]; exact this (Or.inl e)
  · rw [← hk]; exact this (Or.inr e)
theorem HR.top {base : Nat} {D : va_G} {ck : Nat → ClassId} {S : St} {H : Heap} (h : HR base D ck S H) {a : Nat} (h0 : 0 < a) (ha : a ≤ gZ S) : base + a < H.size := (h.1 _ _ (wl_get h0 ha)).lt
end
section
/-! THE ABSTRACT MACHINE: a block of a method's code is a function of locals, operand stack and state; it ends with a jump to a block, or with the method's answer. Values: .ref 0 is null, .ref a the cell a, .retAddr k a constant text (or the law's script); .null in the locals: unset. -/
abbrev Rs : Type := (Nat × List Value × List Value × St) ⊕ (Option Value × St)
abbrev K : Type := List Value → List Value → St → Option Rs
abbrev Orc : Type := Nat → List Value → St → Option (Option Value × St)
def nth : List Value → Nat → Value
  | [], _ => .null
  | v :: _, 0 => v
  | _ :: vs, i + 1 => nth vs i
def isL (v : Value) : Bool := match v with
  | .long _ => true
  | .double _ => true
  | _ => false
/-- a store of one slot: a long that ends there is gone -/
def stL : List Value → Nat → Value → List Value
  | [], _, _ => []
  | _ :: vs, 0, v => v :: vs
  | w :: vs, i + 1, v => (if isL w && i == 0 then .null else w) :: stL vs i v
/-- a store of a long: two slots -/
def stLL : List Value → Nat → Value → List Value
  | [], _, _ => []
  | _ :: vs, 0, v => v :: stL vs 0 .null
  | w :: vs, i + 1, v => (if isL w && i == 0 then .null else w) :: stLL vs i v
def tI (st : List Value) (f : Int32 → List Value → Option Rs) : Option Rs := match st with
  | .int x :: st => f x st
  | _ => none
def tL (st : List Value) (f : Int64 → List Value → Option Rs) : Option Rs := match st with
  | .long x :: st => f x st
  | _ => none
def tR (st : List Value) (f : Nat → List Value → Option Rs) : Option Rs := match st with
  | .ref x :: st => f x st
  | _ => none
def tS (st : List Value) (f : Nat → List Value → Option Rs) : Option Rs := match st with
  | .retAddr x :: st => f x st
  | _ => none
def t1 (st : List Value) (f : Value → List Value → Option Rs) : Option Rs := match st with
  | .int x :: st => f (.int x) st
  | .ref x :: st => f (.ref x) st
  | _ => none
def cat1 (v : Value) : Nat := match v with
  | .long _ => 2
  | .double _ => 2
  | _ => 1
def catS : List Value → Nat
  | [] => 0
  | v :: vs => cat1 v + catS vs
def ck8 (st : List Value) (x : Option Rs) : Option Rs := cond (Nat.ble (catS st) 8) x none
/-- n arguments are there, and not too much below them -/
def ckn (n : Nat) (st : List Value) (x : Option Rs) : Option Rs := cond (Nat.ble n st.length && Nat.ble (catS (st.drop n)) 8) x none
def vI (v : Value) (f : Int32 → Option Rs) : Option Rs := match v with
  | .int x => f x
  | _ => none
def vL (v : Value) (f : Int64 → Option Rs) : Option Rs := match v with
  | .long x => f x
  | _ => none
def vR (v : Value) (f : Nat → Option Rs) : Option Rs := match v with
  | .ref x => f x
  | _ => none
def vS (v : Value) (f : Nat → Option Rs) : Option Rs := match v with
  | .retAddr x => f x
  | _ => none
abbrev inB (j : Int32) (n : Nat) : Prop := 0 ≤ j.toInt ∧ j.toInt < (n : Int)
abbrev o_jmp (b : Nat) : K := fun ls st S => some (.inl (b, ls, st, S))
abbrev o_iconst (v : Int32) (k : K) : K := fun ls st S => k ls (.int v :: st) S
abbrev o_lconst (v : Int64) (k : K) : K := fun ls st S => k ls (.long v :: st) S
abbrev o_null (k : K) : K := fun ls st S => k ls (.ref 0 :: st) S
abbrev o_str (i : Nat) (k : K) : K := fun ls st S => k ls (.retAddr i :: st) S
abbrev o_iload (i : Nat) (k : K) : K := fun ls st S => vI (nth ls i) fun x => k ls (.int x :: st) S
abbrev o_lload (i : Nat) (k : K) : K := fun ls st S => vL (nth ls i) fun x => k ls (.long x :: st) S
abbrev o_aload (i : Nat) (k : K) : K := fun ls st S => vR (nth ls i) fun x => k ls (.ref x :: st) S
abbrev o_sload (i : Nat) (k : K) : K := fun ls st S => vS (nth ls i) fun x => k ls (.retAddr x :: st) S
abbrev o_istore (i : Nat) (k : K) : K := fun ls st S => tI st fun x st => k (stL ls i (.int x)) st S
abbrev o_lstore (i : Nat) (k : K) : K := fun ls st S => tL st fun x st => k (stLL ls i (.long x)) st S
abbrev o_astore (i : Nat) (k : K) : K := fun ls st S => tR st fun x st => k (stL ls i (.ref x)) st S
abbrev o_iinc (i : Nat) (n : Int32) (k : K) : K := fun ls st S => vI (nth ls i) fun x => k (stL ls i (.int (x + n))) st S
abbrev o_i2 (f : Int32 → Int32 → Int32) (k : K) : K := fun ls st S => tI st fun y st => tI st fun x st => k ls (.int (f x y) :: st) S
abbrev o_i2z (f : Int32 → Int32 → Int32) (k : K) : K := fun ls st S => tI st fun y st => tI st fun x st => if y = 0 then none else k ls (.int (f x y) :: st) S
abbrev o_l2 (f : Int64 → Int64 → Int64) (k : K) : K := fun ls st S => tL st fun y st => tL st fun x st => k ls (.long (f x y) :: st) S
abbrev o_l2z (f : Int64 → Int64 → Int64) (k : K) : K := fun ls st S => tL st fun y st => tL st fun x st => if y = 0 then none else k ls (.long (f x y) :: st) S
abbrev o_lsh (f : Int64 → Int32 → Int64) (k : K) : K := fun ls st S => tI st fun y st => tL st fun x st => k ls (.long (f x y) :: st) S
abbrev o_i1 (f : Int32 → Int32) (k : K) : K := fun ls st S => tI st fun x st => k ls (.int (f x) :: st) S
abbrev o_i2l (k : K) : K := fun ls st S => tI st fun x st => k ls (.long x.toInt64 :: st) S
abbrev o_l2i (k : K) : K := fun ls st S => tL st fun x st => k ls (.int x.toInt32 :: st) S
abbrev o_lcmp (k : K) : K := fun ls st S => tL st fun y st => tL st fun x st => k ls (.int (lg_cmp x y) :: st) S
abbrev o_dup (k : K) : K := fun ls st S => t1 st fun v st => k ls (v :: v :: st) S
abbrev o_dup2 (k : K) : K := fun ls st S => t1 st fun v st => t1 st fun w st => k ls (v :: w :: v :: w :: st) S
abbrev o_pop (k : K) : K := fun ls st S => t1 st fun _ st => k ls st S
/-- x = 0 -/
abbrev o_if0 (kt kf : K) : K := fun ls st S => tI st fun x st => if x = 0 then kt ls st S else kf ls st S
/-- x < 0 -/
abbrev o_ifn (kt kf : K) : K := fun ls st S => tI st fun x st => if x < 0 then kt ls st S else kf ls st S
/-- 0 < x -/
abbrev o_ifp (kt kf : K) : K := fun ls st S => tI st fun x st => if 0 < x then kt ls st S else kf ls st S
abbrev o_ieq (kt kf : K) : K := fun ls st S => tI st fun y st => tI st fun x st => if x = y then kt ls st S else kf ls st S
abbrev o_ilt (kt kf : K) : K := fun ls st S => tI st fun y st => tI st fun x st => if x < y then kt ls st S else kf ls st S
abbrev o_igt (kt kf : K) : K := fun ls st S => tI st fun y st => tI st fun x st => if y < x then kt ls st S else kf ls st S
abbrev o_ifnull (kt kf : K) : K := fun ls st S => tR st fun x st => if x = 0 then kt ls st S else kf ls st S
abbrev o_aeq (kt kf : K) : K := fun ls st S => tR st fun y st => tR st fun x st => if x = y then kt ls st S else kf ls st S
/-- a switch: the first case that is x, else the rest -/
def swc (x : Int32) (ls st : List Value) (S : St) : List (Int32 × K) → K → Option Rs
  | [], kd => kd ls st S
  | (v, k) :: cs, kd => if x = v then k ls st S else swc x ls st S cs kd
abbrev o_sw (cs : List (Int32 × K)) (kd : K) : K := fun ls st S => tI st fun x st => swc x ls st S cs kd
abbrev o_getI (c f : Nat) (k : K) : K := fun ls st S => tR st fun a st => if gK S a = c then k ls (.int (gI S a f) :: st) S else none
abbrev o_getL (c f : Nat) (k : K) : K := fun ls st S => tR st fun a st => if gK S a = c then k ls (.long (gL S a f) :: st) S else none
abbrev o_getR (c f : Nat) (k : K) : K := fun ls st S => tR st fun a st => if gK S a = c then k ls (.ref (gR S a f) :: st) S else none
abbrev o_putI (c f : Nat) (k : K) : K := fun ls st S => tI st fun v st => tR st fun a st => if gK S a = c then k ls st (pI S a f v) else none
abbrev o_putZ (c f : Nat) (k : K) : K := fun ls st S => tI st fun v st => tR st fun a st => if gK S a = c ∧ (v = 0 ∨ v = 1) then k ls st (pI S a f v) else none
abbrev o_putL (c f : Nat) (k : K) : K := fun ls st S => tL st fun v st => tR st fun a st => if gK S a = c then k ls st (pL S a f v) else none
abbrev o_putR (c f : Nat) (k : K) : K := fun ls st S => tR st fun v st => tR st fun a st => if gK S a = c then k ls st (pR S a f v) else none
/-- arrays of ints (0), chars (2), bytes (3), booleans (4) -/
abbrev o_iald (t : Nat) (k : K) : K := fun ls st S => tI st fun j st => tR st fun a st => if gK S a = 100 + t ∧ inB j (gN S a) then k ls (.int (gI S a j.toNatClampNeg) :: st) S else none
abbrev o_iast (t : Nat) (g : Int32 → Int32) (k : K) : K := fun ls st S => tI st fun v st => tI st fun j st => tR st fun a st => if gK S a = 100 + t ∧ inB j (gN S a) then k ls st (pI S a j.toNatClampNeg (g v)) else none
abbrev o_lald (k : K) : K := fun ls st S => tI st fun j st => tR st fun a st => if gK S a = 101 ∧ inB j (gN S a) then k ls (.long (gL S a j.toNatClampNeg) :: st) S else none
abbrev o_last (k : K) : K := fun ls st S => tL st fun v st => tI st fun j st => tR st fun a st => if gK S a = 101 ∧ inB j (gN S a) then k ls st (pL S a j.toNatClampNeg v) else none
abbrev o_aald (k : K) : K := fun ls st S => tI st fun j st => tR st fun a st => if gK S a = 105 ∧ inB j (gN S a) then k ls (.ref (gR S a j.toNatClampNeg) :: st) S else none
abbrev o_aast (k : K) : K := fun ls st S => tR st fun v st => tI st fun j st => tR st fun a st => if gK S a = 105 ∧ inB j (gN S a) ∧ gK S v = 0 then k ls st (pR S a j.toNatClampNeg v) else none
abbrev o_alen (k : K) : K := fun ls st S => tR st fun a st => if 100 ≤ gK S a ∧ gK S a < 106 then k ls (.int (Int32.ofNat (gN S a)) :: st) S else none
abbrev o_new (c : Nat) (k : K) : K := fun ls st S => k ls (.ref (gZ S + 1) :: st) (nw S c (nC c))
abbrev o_newa (t : Nat) (k : K) : K := fun ls st S => tI st fun n st => if 0 ≤ n.toInt ∧ n.toInt ≤ 70000 then k ls (.ref (gZ S + 1) :: st) (nw S (100 + t) n.toNatClampNeg) else none
abbrev o_clone (k : K) : K := fun ls st S => tR st fun a st => ck8 st (if gK S a = 100 then k ls (.ref (gZ S + 1) :: st) (clI S a) else none)
abbrev o_castA (k : K) : K := fun ls st S => tR st fun a st => if gK S a = 100 then k ls (.ref a :: st) S else none
abbrev o_copy (k : K) : K := fun ls st S => tI st fun n st => tI st fun dp st => tR st fun b st => tI st fun sp st => tR st fun a st => ck8 st (if gK S a = 100 ∧ gK S b = 100 ∧ 0 ≤ sp.toInt ∧ 0 ≤ dp.toInt ∧ 0 ≤ n.toInt ∧ sp.toInt + n.toInt ≤ gN S a ∧ dp.toInt + n.toInt ≤ gN S b then k ls st (cpI S a b sp.toNatClampNeg dp.toNatClampNeg n.toNatClampNeg) else none)
abbrev o_min (k : K) : K := fun ls st S => tI st fun y st => tI st fun x st => ck8 st (k ls (.int (if y < x then y else x) :: st) S)
/-- Object's constructor -/
abbrev o_obj (k : K) : K := fun ls st S => tR st fun a st => if a = 0 then none else ck8 st (k ls st S)
def eI (x : Option (Option Value × St)) (f : Int32 → St → Option Rs) : Option Rs := match x with
  | some (some (.int v), S) => f v S
  | _ => none
def eL (x : Option (Option Value × St)) (f : Int64 → St → Option Rs) : Option Rs := match x with
  | some (some (.long v), S) => f v S
  | _ => none
def eR (x : Option (Option Value × St)) (f : Nat → St → Option Rs) : Option Rs := match x with
  | some (some (.ref v), S) => f v S
  | _ => none
def eV (x : Option (Option Value × St)) (f : St → Option Rs) : Option Rs := match x with
  | some (none, S) => f S
  | _ => none
/-- a call of method i with n arguments (the receiver counted): static (s), of a constructor (n), of an object of class c (v) -/
def hdR (as : List Value) (f : Nat → Option Rs) : Option Rs := match as with
  | .ref a :: _ => f a
  | _ => none
abbrev o_sI (orc : Orc) (i n : Nat) (k : K) : K := fun ls st S => ckn n st (eI (orc i (st.take n).reverse S) fun v S => k ls (.int v :: st.drop n) S)
abbrev o_vI (orc : Orc) (i n c : Nat) (k : K) : K := fun ls st S => hdR (st.take n).reverse fun a => if gK S a = c then ckn n st (eI (orc i (st.take n).reverse S) fun v S => k ls (.int v :: st.drop n) S) else none
abbrev o_sL (orc : Orc) (i n : Nat) (k : K) : K := fun ls st S => ckn n st (eL (orc i (st.take n).reverse S) fun v S => k ls (.long v :: st.drop n) S)
abbrev o_vL (orc : Orc) (i n c : Nat) (k : K) : K := fun ls st S => hdR (st.take n).reverse fun a => if gK S a = c then ckn n st (eL (orc i (st.take n).reverse S) fun v S => k ls (.long v :: st.drop n) S) else none
abbrev o_sR (orc : Orc) (i n : Nat) (k : K) : K := fun ls st S => ckn n st (eR (orc i (st.take n).reverse S) fun v S => k ls (.ref v :: st.drop n) S)
abbrev o_vR (orc : Orc) (i n c : Nat) (k : K) : K := fun ls st S => hdR (st.take n).reverse fun a => if gK S a = c then ckn n st (eR (orc i (st.take n).reverse S) fun v S => k ls (.ref v :: st.drop n) S) else none
abbrev o_sV (orc : Orc) (i n : Nat) (k : K) : K := fun ls st S => ckn n st (eV (orc i (st.take n).reverse S) fun S => k ls (st.drop n) S)
abbrev o_vV (orc : Orc) (i n c : Nat) (k : K) : K := fun ls st S => hdR (st.take n).reverse fun a => if gK S a = c then ckn n st (eV (orc i (st.take n).reverse S) fun S => k ls (st.drop n) S) else none
abbrev o_nV (orc : Orc) (i n : Nat) (k : K) : K := fun ls st S => hdR (st.take n).reverse fun a => if a = 0 then none else ckn n st (eV (orc i (st.take n).reverse S) fun S => k ls (st.drop n) S)
def rI (st : List Value) (f : Int32 → Option Rs) : Option Rs := match st with
  | [.int v] => f v
  | _ => none
def rL (st : List Value) (f : Int64 → Option Rs) : Option Rs := match st with
  | [.long v] => f v
  | _ => none
def rR (st : List Value) (f : Nat → Option Rs) : Option Rs := match st with
  | [.ref v] => f v
  | _ => none
def rV (st : List Value) (x : Option Rs) : Option Rs := match st with
  | [] => x
  | _ => none
abbrev o_iret : K := fun _ st S => rI st fun v => some (.inr (some (.int v), S))
abbrev o_zret : K := fun _ st S => rI st fun v => if v = 0 ∨ v = 1 then some (.inr (some (.int v), S)) else none
abbrev o_lret : K := fun _ st S => rL st fun v => some (.inr (some (.long v), S))
abbrev o_aret : K := fun _ st S => rR st fun v => some (.inr (some (.ref v), S))
abbrev o_vret : K := fun _ st S => rV st (some (.inr (none, S)))
end
section
/-! WHERE A WALK STANDS: the machine's context as one tuple -/
abbrev Cx : Type := (Program × Launch × Env × Room × State × MethodId × Array Value × List Frame × Method × Code) × ((State → Prop) × Nat × Heap × va_G × (Nat → ClassId) × (Nat → Option Nat)) × (ByteArray × Nat × String × St × Option Value × St)
abbrev xp (X : Cx) : Program := X.1.1
abbrev xl (X : Cx) : Launch := X.1.2.1
abbrev xe (X : Cx) : Env := X.1.2.2.1
abbrev xR (X : Cx) : Room := X.1.2.2.2.1
abbrev xs (X : Cx) : State := X.1.2.2.2.2.1
abbrev xm (X : Cx) : MethodId := X.1.2.2.2.2.2.1
abbrev xa (X : Cx) : Array Value := X.1.2.2.2.2.2.2.1
abbrev xw (X : Cx) : List Frame := X.1.2.2.2.2.2.2.2.1
abbrev xh (X : Cx) : Method := X.1.2.2.2.2.2.2.2.2.1
abbrev xc (X : Cx) : Code := X.1.2.2.2.2.2.2.2.2.2
abbrev xQ (X : Cx) : State → Prop := X.2.1.1
abbrev xb (X : Cx) : Nat := X.2.1.2.1
abbrev xH (X : Cx) : Heap := X.2.1.2.2.1
abbrev xD (X : Cx) : va_G := X.2.1.2.2.2.1
abbrev xk (X : Cx) : Nat → ClassId := X.2.1.2.2.2.2.1
abbrev xS (X : Cx) : Nat → Option Nat := X.2.1.2.2.2.2.2
abbrev xy (X : Cx) : ByteArray := X.2.2.1
abbrev xn (X : Cx) : Nat := X.2.2.2.1
abbrev xo (X : Cx) : String := X.2.2.2.2.1
abbrev x0 (X : Cx) : St := X.2.2.2.2.2.1
abbrev xr (X : Cx) : Option Value := X.2.2.2.2.2.2.1
abbrev xf (X : Cx) : St := X.2.2.2.2.2.2.2
def cv (base : Nat) (ad : Nat → Option Nat) (v : Value) : Value := match v with
  | .ref k => rv base k
  | .retAddr k => va_rf (ad k)
  | v => v
abbrev xv (X : Cx) : Value → Value := cv (xb X) (xS X)
/-- the words that every method may use -/
def T0 : List Cond := lw_tbl.filter goodWord
theorem in_T0 {w : Cond} (i : Nat) (h : lw_tbl[i]? = some w) (hg : goodWord w = true) : w ∈ T0 := List.mem_filter.mpr ⟨List.mem_of_getElem? h, hg⟩
def nwl : List Cond := [.methodLinkNest "TruceWall" 19 ⟨"TruceWall$Reader", "<init>", "()V"⟩ "TruceWall", .methodLinkNest "TruceWall" 26 ⟨"TruceWall$Site", "<init>", "()V"⟩ "TruceWall", .methodLinkNest "TruceWall$Site" 39 ⟨"TruceWall$Reckoner", "<init>", "()V"⟩ "TruceWall", .methodLinkNest "TruceWall" 39 ⟨"TruceWall$Play", "<init>", "()V"⟩ "TruceWall", .methodLinkNest "TruceWall" 49 ⟨"TruceWall$Ways", "<init>", "()V"⟩ "TruceWall", .methodLinkNest "TruceWall" 77 ⟨"TruceWall$Mark", "<init>", "()V"⟩ "TruceWall", .methodLinkNest "TruceWall" 220 ⟨"TruceWall$Play", "outcome", "(JII)I"⟩ "TruceWall", .castable "[I" "java/lang/Cloneable"]
/-- the constant texts: where they lie, and what they hold -/
def vkB0 : List Int32 := "wall  stone gates fine  plain bridgeround twin  lent  cut   wide  level holes day   not   and   or    ".toList.map (fun c => Int32.ofNat c.toNat)
def vkB1 : List Int32 := "no such state".toList.map (fun c => Int32.ofNat c.toNat)
abbrev vk_fmt : String := "Ljava/util/function/BiFunction;"
abbrev vk_pre : String := "jdk/internal/util/Preconditions"
abbrev vk_words : String := "wall  stone gates fine  plain bridgeround twin  lent  cut   wide  level holes day   not   and   or    "
/-- constant texts and statics of the JDK that nobody writes -/
def SX (ad : Nat → Option Nat) (A : Nat → Prop) (U : State) (H : Heap) : Prop :=
  (∃ q qv : Nat, ad 0 = some q ∧ ad 10 = some qv ∧ vk_R "TruceWall$Reader" 157 vk_words q U ∧ va_O "java/lang/String" q A U H ∧ va_OF "java/lang/String" "coder" "B" (.int 0) q A U H ∧ va_OF "java/lang/String" "value" "[B" (.ref qv) q A U H ∧ va_T .byte qv 102 (fun j => .int (vkB0.getD j 0)) A U H) ∧ va_Z "java/lang/String" "COMPACT_STRINGS" "Z" (.int 1) A U H ∧ va_Z vk_pre "SIOOBE_FORMATTER" vk_fmt (va_rf (ad 20)) A U H
def TB (base : Nat) (Hb : Heap) (D : va_G) (ck : Nat → ClassId) (ad : Nat → Option Nat) (U : State) : Prop :=
  va_K D vwCl (tysC ck) U ∧ (∀ w ∈ nwl, va_Nw w U) ∧ va_AO "TruceWall$Mark" U ∧ SX ad (fun q => base + 1 ≤ q) U U.heap
def XO (X : Cx) : Prop :=
  (xp X).tables.exec = Jvm.exec ∧ (xc X).code = xy X ∧ (xc X).maxLocals = xn X ∧ (xs X).vm.findClass (xo X) = some (xm X).cls ∧ (∀ w ∈ T0, w.before (xa X) (xs X) = true) ∧ (xh X).locks = false ∧ TB (xb X) (xH X) (xD X) (xk X) (xS X) (xs X) ∧ (gZ (xf X) - gZ (x0 X) ≤ (xR X).cells ∧ gU (xf X) - gU (x0 X) ≤ (xR X).slots) ∧ ((xs X).heap.size = xb X + 1 + gZ (x0 X) ∧ ∀ q : Nat, q ≤ xb X → (xs X).heap[q]? = (xH X)[q]?) ∧ 1 ≤ (xR X).frames ∧ 64 ≤ (xR X).locals
theorem XO.ex {X : Cx} (h : XO X) : (xp X).tables.exec = Jvm.exec := h.1
theorem XO.by {X : Cx} (h : XO X) : (xc X).code = xy X := h.2.1
theorem XO.ml {X : Cx} (h : XO X) : (xc X).maxLocals = xn X := h.2.2.1
theorem XO.ow {X : Cx} (h : XO X) : (xs X).vm.findClass (xo X) = some (xm X).cls := h.2.2.2.1
theorem XO.ts {X : Cx} (h : XO X) : ∀ w ∈ T0, w.before (xa X) (xs X) = true := h.2.2.2.2.1
theorem XO.lk {X : Cx} (h : XO X) : (xh X).locks = false := h.2.2.2.2.2.1
theorem XO.tb {X : Cx} (h : XO X) : TB (xb X) (xH X) (xD X) (xk X) (xS X) (xs X) := h.2.2.2.2.2.2.1
theorem XO.rm {X : Cx} (h : XO X) : gZ (xf X) - gZ (x0 X) ≤ (xR X).cells ∧ gU (xf X) - gU (x0 X) ≤ (xR X).slots := h.2.2.2.2.2.2.2.1
theorem XO.sz {X : Cx} (h : XO X) : (xs X).heap.size = xb X + 1 + gZ (x0 X) := h.2.2.2.2.2.2.2.2.1.1
theorem XO.lo {X : Cx} (h : XO X) : ∀ q : Nat, q ≤ xb X → (xs X).heap[q]? = (xH X)[q]? := h.2.2.2.2.2.2.2.2.1.2
theorem XO.rf {X : Cx} (h : XO X) : 1 ≤ (xR X).frames ∧ 64 ≤ (xR X).locals := h.2.2.2.2.2.2.2.2.2
/-- the context of a method's body: its bytes, its class -/
def XM (X : Cx) (cc : ByteArray) (own : String) : Prop := XO X ∧ xy X = cc ∧ xo X = own
theorem XM.by {X : Cx} {cc : ByteArray} {own : String} (h : XM X cc own) : (xc X).code = cc := h.1.by.trans h.2.1
theorem XM.ow {X : Cx} {cc : ByteArray} {own : String} (h : XM X cc own) : (xs X).vm.findClass own = some (xm X).cls := by rw [← h.2.2]; exact h.1.ow
abbrev xA (X : Cx) : Nat → Prop := fun q => xb X + 1 ≤ q
/-- the machine's locals hold the abstract ones -/
def lh (base : Nat) (ad : Nat → Option Nat) (lm : Array Slot) (n : Nat) (ls : List Value) : Prop := lm.size = n ∧ lv_wf lm ∧ ls.length = n ∧ ∀ i, nth ls i ≠ .null → lm[i]? = some (.val (cv base ad (nth ls i)))
def WI (X : Cx) (pc : Nat) (ls st : List Value) (S : St) : Prop :=
  ∀ (H : Heap) (locs : List Loc) (lm : Array Slot), HR (xb X) (xD X) (xk X) S H → va_S (xA X) (xs X).heap H locs → lh (xb X) (xS X) lm (xn X) ls → gZ (x0 X) ≤ gZ S → gU (x0 X) ≤ gU S →
    W (xp X) (xl X) (xe X) (xR X) (xs X) (xm X) (xa X) (xw X) (xh X) (xc X) H locs (gZ S - gZ (x0 X)) (gU S - gU (x0 X)) (xQ X) (F0 (xm X) pc lm (st.map (xv X)))
def MW (X : Cx) (pc : Nat) (ls st : List Value) (S : St) : Prop := (gZ S ≤ gZ (xf X) ∧ gU S ≤ gU (xf X)) ∧ WI X pc ls st S
def RW (X : Cx) (pcs : Nat → Nat) (x : Option Rs) : Prop := match x with
  | some (.inl c) => MW X (pcs c.1) c.2.1 c.2.2.1 c.2.2.2
  | some (.inr q) => q = (xr X, xf X)
  | none => False
def GK (X : Cx) (pcs : Nat → Nat) (pc : Nat) (k : K) : Prop := ∀ (ls st : List Value) (S : St), RW X pcs (k ls st S) → MW X pc ls st S
section GKS
variable {X : Cx} {ps : Nat → Nat} {pc : Nat} {k kt kf : K}
theorem tI_el {st : List Value} {f : Int32 → List Value → Option Rs} (h : RW X ps (tI st f)) : ∃ x st', st = .int x :: st' ∧ RW X ps (f x st') := by
  unfold tI at h
  split at h
  · exact ⟨_, _, rfl, h⟩
  · exact h.elim
theorem tL_el {st : List Value} {f : Int64 → List Value → Option Rs} (h : RW X ps (tL st f)) : ∃ x st', st = .long x :: st' ∧ RW X ps (f x st') := by
  unfold tL at h
  split at h
  · exact ⟨_, _, rfl, h⟩
  · exact h.elim
theorem tR_el {st : List Value} {f : Nat → List Value → Option Rs} (h : RW X ps (tR st f)) : ∃ x st', st = .ref x :: st' ∧ RW X ps (f x st') := by
  unfold tR at h
  split at h
  · exact ⟨_, _, rfl, h⟩
  · exact h.elim
theorem tS_el {st : List Value} {f : Nat → List Value → Option Rs} (h : RW X ps (tS st f)) : ∃ x st', st = .retAddr x :: st' ∧ RW X ps (f x st') := by
  unfold tS at h
  split at h
  · exact ⟨_, _, rfl, h⟩
  · exact h.elim
theorem t1_el {st : List Value} {f : Value → List Value → Option Rs} (h : RW X ps (t1 st f)) : ∃ v st', st = v :: st' ∧ (xv X v).category = 1 ∧ RW X ps (f v st') := by
  unfold t1 at h
  split at h
  · exact ⟨_, _, rfl, rfl, h⟩
  · refine ⟨_, _, rfl, ?_, h⟩
    rename_i x _
    cases x <;> rfl
  · exact h.elim
theorem vI_el {v : Value} {f : Int32 → Option Rs} (h : RW X ps (vI v f)) : ∃ x, v = .int x ∧ RW X ps (f x) := by
  unfold vI at h
  split at h
  · exact ⟨_, rfl, h⟩
  · exact h.elim
theorem vL_el {v : Value} {f : Int64 → Option Rs} (h : RW X ps (vL v f)) : ∃ x, v = .long x ∧ RW X ps (f x) := by
  unfold vL at h
  split at h
  · exact ⟨_, rfl, h⟩
  · exact h.elim
theorem vR_el {v : Value} {f : Nat → Option Rs} (h : RW X ps (vR v f)) : ∃ x, v = .ref x ∧ RW X ps (f x) := by
  unfold vR at h
  split at h
  · exact ⟨_, rfl, h⟩
  · exact h.elim
theorem vS_el {v : Value} {f : Nat → Option Rs} (h : RW X ps (vS v f)) : ∃ x, v = .retAddr x ∧ RW X ps (f x) := by
  unfold vS at h
  split at h
  · exact ⟨_, rfl, h⟩
  · exact h.elim
theorem if_el {c : Prop} [Decidable c] {x : Option Rs} (h : RW X ps (if c then x else none)) : c ∧ RW X ps x := by
  by_cases hc : c
  · rw [if_pos hc] at h; exact ⟨hc, h⟩
  · rw [if_neg hc] at h; exact h.elim
theorem fi_el {c : Prop} [Decidable c] {x : Option Rs} (h : RW X ps (if c then none else x)) : ¬ c ∧ RW X ps x := by
  by_cases hc : c
  · rw [if_pos hc] at h; exact h.elim
  · rw [if_neg hc] at h; exact ⟨hc, h⟩
theorem c8_el {st : List Value} {x : Option Rs} (h : RW X ps (ck8 st x)) : catS st ≤ 8 ∧ RW X ps x := by
  unfold ck8 at h
  cases hc : Nat.ble (catS st) 8 with
  | true => rw [hc] at h; exact ⟨Nat.le_of_ble_eq_true hc, h⟩
  | false => rw [hc] at h; exact h.elim
theorem gk_jmp (b : Nat) (h : ps b = pc) : GK X ps pc (o_jmp b) := fun ls st S hr => by
  rw [← h]; exact hr
theorem gk_eq {pc' : Nat} (h : pc' = pc) (hk : GK X ps pc' k) : GK X ps pc k := h ▸ hk
end GKS
end
section
/-! ONE ROW AN INSTRUCTION: what the abstract machine does, the machine does -/
theorem nth_len {ls : List Value} {i : Nat} (h : nth ls i ≠ .null) : i < ls.length := by
  induction ls generalizing i with
  | nil => exact absurd rfl h
  | cons v vs ih =>
    cases i with
    | zero => simp
    | succ i => simp only [List.length_cons]; have := ih (i := i) h; omega
theorem stL_len (ls : List Value) (i : Nat) (v : Value) : (stL ls i v).length = ls.length := by
  induction ls generalizing i with
  | nil => rfl
  | cons w vs ih => cases i with
    | zero => rfl
    | succ i => simp [stL, ih]
theorem nth_stL (ls : List Value) (i : Nat) (v : Value) (j : Nat) (hi : i < ls.length) : nth (stL ls i v) j = if j = i then v else if j + 1 = i ∧ isL (nth ls j) = true then .null else nth ls j := by
  induction ls generalizing i j with
  | nil => simp at hi
  | cons w vs ih =>
    cases i with
    | zero =>
      cases j with
      | zero => simp [stL, nth]
      | succ j => simp [stL, nth]
    | succ i =>
      simp only [List.length_cons] at hi
      cases j with
      | zero =>
        by_cases hi0 : i = 0
        · subst hi0
          cases hw : isL w <;> simp [stL, nth, hw]
        · have : (i == 0) = false := by simpa using hi0
          simp [stL, nth, this]
          intro e
          omega
      | succ j =>
        simp only [stL, nth]
        rw [ih i j (by omega)]
        simp
theorem stLL_len (ls : List Value) (i : Nat) (v : Value) : (stLL ls i v).length = ls.length := by
  induction ls generalizing i with
  | nil => rfl
  | cons w vs ih => cases i with
    | zero => simp [stLL, stL_len]
    | succ i => simp [stLL, ih]
theorem nth_stLL (ls : List Value) (i : Nat) (v : Value) (j : Nat) (hi : i + 1 < ls.length) : nth (stLL ls i v) j = if j = i then v else if j = i + 1 then .null else if j + 1 = i ∧ isL (nth ls j) = true then .null else nth ls j := by
  induction ls generalizing i j with
  | nil => simp at hi
  | cons w vs ih =>
    simp only [List.length_cons] at hi
    cases i with
    | zero =>
      cases j with
      | zero => simp [stLL, nth]
      | succ j =>
        simp only [stLL, nth]
        rw [nth_stL vs 0 .null j (by omega)]
        by_cases hj : j = 0
        · subst hj; simp
        · simp [hj]
    | succ i =>
      cases j with
      | zero =>
        by_cases hi0 : i = 0
        · subst hi0
          cases hw : isL w <;> simp [stLL, nth, hw]
        · have : (i == 0) = false := by simpa using hi0
          simp [stLL, nth, this]
          intro e
          omega
      | succ j =>
        simp only [stLL, nth]
        rw [ih i j (by omega)]
        simp
theorem cv_isL (base : Nat) (ad : Nat → Option Nat) (v : Value) : ((cv base ad v).category = 2) ↔ isL v = true := by
  cases v with
  | ref a => cases a <;> simp [cv, rv, Value.category, isL]
  | retAddr k =>
    cases h : ad k <;> simp [cv, h, va_rf, Value.category, isL]
  | _ => simp [cv, Value.category, isL]
/-- the listed locals -/
def lvl (base : Nat) (ad : Nat → Option Nat) (ls : List Value) : List (Nat × Value) := (List.range ls.length).filterMap (fun j => if nth ls j = .null then none else some (j, cv base ad (nth ls j)))
theorem lvl_mem {base : Nat} {ad : Nat → Option Nat} {ls : List Value} {j : Nat} (h : nth ls j ≠ .null) : (j, cv base ad (nth ls j)) ∈ lvl base ad ls := by
  refine List.mem_filterMap.mpr ⟨j, List.mem_range.mpr (nth_len h), ?_⟩
  rw [if_neg h]
theorem lh_has {base : Nat} {ad : Nat → Option Nat} {lm : Array Slot} {n : Nat} {ls : List Value} (h : lh base ad lm n ls) : lv_has lm n (lvl base ad ls) := by
  refine ⟨h.1, h.2.1, fun q hq => ?_⟩
  obtain ⟨j, -, hj⟩ := List.mem_filterMap.mp hq
  by_cases e : nth ls j = .null
  · rw [if_pos e] at hj; cases hj
  · rw [if_neg e] at hj; cases hj; exact h.2.2.2 j e
theorem lh_st {base : Nat} {ad : Nat → Option Nat} {lm lm' : Array Slot} {n : Nat} {ls : List Value} {i : Nat} {v : Value} (h : lh base ad lm n ls) (hi : i < n) (h2 : lv_has lm' n ((i, cv base ad v) :: (lvl base ad ls).filter (fun q => !(q.1 == i) && !(q.1 + 1 == i && q.2.category == 2)))) : lh base ad lm' n (stL ls i v) := by
  refine ⟨h2.1, h2.2.1, by rw [stL_len]; exact h.2.2.1, fun j hj => ?_⟩
  have hil : i < ls.length := by rw [h.2.2.1]; exact hi
  rw [nth_stL ls i v j hil] at hj ⊢
  by_cases e : j = i
  · subst e
    rw [if_pos rfl]
    exact h2.2.2 _ List.mem_cons_self
  · rw [if_neg e] at hj ⊢
    by_cases e2 : j + 1 = i ∧ isL (nth ls j) = true
    · rw [if_pos e2] at hj; exact absurd rfl hj
    · rw [if_neg e2] at hj ⊢
      refine h2.2.2 (j, cv base ad (nth ls j)) (List.mem_cons_of_mem _ (List.mem_filter.mpr ⟨lvl_mem hj, ?_⟩))
      have := cv_isL base ad (nth ls j)
      by_cases e3 : j + 1 = i
      · have h4 : ¬ (cv base ad (nth ls j)).category = 2 := fun z => e2 ⟨e3, this.mp z⟩
        simp [e, h4]
      · simp [e, e3]
theorem lh_stL {base : Nat} {ad : Nat → Option Nat} {lm lm' : Array Slot} {n : Nat} {ls : List Value} {i : Nat} {v : Value} (h : lh base ad lm n ls) (hi : i + 1 < n) (h2 : lv_has lm' n ((i, cv base ad v) :: (lvl base ad ls).filter (fun q => !(q.1 == i) && (!(q.1 == i + 1) && !(q.1 + 1 == i && q.2.category == 2))))) : lh base ad lm' n (stLL ls i v) := by
  refine ⟨h2.1, h2.2.1, by rw [stLL_len]; exact h.2.2.1, fun j hj => ?_⟩
  have hil : i + 1 < ls.length := by rw [h.2.2.1]; exact hi
  rw [nth_stLL ls i v j hil] at hj ⊢
  by_cases e : j = i
  · subst e
    rw [if_pos rfl]
    exact h2.2.2 _ List.mem_cons_self
  · rw [if_neg e] at hj ⊢
    by_cases e1 : j = i + 1
    · rw [if_pos e1] at hj; exact absurd rfl hj
    · rw [if_neg e1] at hj ⊢
      by_cases e2 : j + 1 = i ∧ isL (nth ls j) = true
      · rw [if_pos e2] at hj; exact absurd rfl hj
      · rw [if_neg e2] at hj ⊢
        refine h2.2.2 (j, cv base ad (nth ls j)) (List.mem_cons_of_mem _ (List.mem_filter.mpr ⟨lvl_mem hj, ?_⟩))
        have := cv_isL base ad (nth ls j)
        by_cases e3 : j + 1 = i
        · have h4 : ¬ (cv base ad (nth ls j)).category = 2 := fun z => e2 ⟨e3, this.mp z⟩
          simp [e, e1, h4]
        · simp [e, e1, e3]
theorem lh_at {base : Nat} {ad : Nat → Option Nat} {lm : Array Slot} {n : Nat} {ls : List Value} {i : Nat} {v : Value} (h : lh base ad lm n ls) (he : nth ls i = v) (hv : v ≠ .null) : lm[i]? = some (.val (cv base ad v)) := by
  have := h.2.2.2 i (by rw [he]; exact hv)
  rwa [he] at this
section GKO
variable {X : Cx} {ps : Nat → Nat} {pc : Nat} {k kt kf : K} {cc : ByteArray} {own : String}
theorem gk_iconst {n : Int} {v : Int32} (h : XM X cc own) (hd : decode cc pc = .ok (.iconst n, 1)) (hv : Int32.ofInt n = v) (hk : GK X ps (pc + 1) k) : GK X ps pc (o_iconst v k) := fun ls st S hr => by
  obtain ⟨hm, hw⟩ := hk _ _ _ hr
  exact ⟨hm, fun H locs lm a1 a2 a3 a4 a5 => lv_iconst h.1.ex h.by hd hv (hw H locs lm a1 a2 a3 a4 a5)⟩
theorem gk_bipush {n : Int} {v : Int32} (h : XM X cc own) (hd : decode cc pc = .ok (.bipush n, 2)) (hv : (Int8.ofInt n).toInt32 = v) (hk : GK X ps (pc + 2) k) : GK X ps pc (o_iconst v k) := fun ls st S hr => by
  obtain ⟨hm, hw⟩ := hk _ _ _ hr
  exact ⟨hm, fun H locs lm a1 a2 a3 a4 a5 => lv_bipush h.1.ex h.by hd hv (hw H locs lm a1 a2 a3 a4 a5)⟩
theorem gk_sipush {n : Int} {v : Int32} (h : XM X cc own) (hd : decode cc pc = .ok (.sipush n, 3)) (hv : (Int16.ofInt n).toInt32 = v) (hk : GK X ps (pc + 3) k) : GK X ps pc (o_iconst v k) := fun ls st S hr => by
  obtain ⟨hm, hw⟩ := hk _ _ _ hr
  exact ⟨hm, fun H locs lm a1 a2 a3 a4 a5 => lv_sipush h.1.ex h.by hd hv (hw H locs lm a1 a2 a3 a4 a5)⟩
theorem gk_lconst {n : Fin 2} {v : Int64} (h : XM X cc own) (hd : decode cc pc = .ok (.lconst n, 1)) (hv : Int64.ofNat (n : Nat) = v) (hk : GK X ps (pc + 1) k) : GK X ps pc (o_lconst v k) := fun ls st S hr => by
  obtain ⟨hm, hw⟩ := hk _ _ _ hr
  exact ⟨hm, fun H locs lm a1 a2 a3 a4 a5 => lv_lconst h.1.ex h.by hd hv (hw H locs lm a1 a2 a3 a4 a5)⟩
theorem gk_ldc {i : Nat} {v : Int32} (h : XM X cc own) (hd : decode cc pc = .ok (.ldc i, 2)) (hc : Cond.constant own i v ∈ T0) (hk : GK X ps (pc + 2) k) : GK X ps pc (o_iconst v k) := fun ls st S hr => by
  obtain ⟨hm, hw⟩ := hk _ _ _ hr
  exact ⟨hm, fun H locs lm a1 a2 a3 a4 a5 => lv_ldc h.1.ex h.by h.ow (h.1.ts _ hc) hd (hw H locs lm a1 a2 a3 a4 a5)⟩
theorem gk_ldc2 {i : Nat} {v : Int64} (h : XM X cc own) (hd : decode cc pc = .ok (.ldc2_w i, 3)) (hc : Cond.constantLong own i v ∈ T0) (hk : GK X ps (pc + 3) k) : GK X ps pc (o_lconst v k) := fun ls st S hr => by
  obtain ⟨hm, hw⟩ := hk _ _ _ hr
  exact ⟨hm, fun H locs lm a1 a2 a3 a4 a5 => lv_ldc2 h.1.ex h.by h.ow (h.1.ts _ hc) hd (hw H locs lm a1 a2 a3 a4 a5)⟩
theorem gk_null (h : XM X cc own) (hd : decode cc pc = .ok (.aconst_null, 1)) (hk : GK X ps (pc + 1) k) : GK X ps pc (o_null k) := fun ls st S hr => by
  obtain ⟨hm, hw⟩ := hk _ _ _ hr
  exact ⟨hm, fun H locs lm a1 a2 a3 a4 a5 => lv_null h.1.ex h.by hd (hw H locs lm a1 a2 a3 a4 a5)⟩
theorem gk_iload_n {j : Fin 4} {i : Nat} (h : XM X cc own) (hd : decode cc pc = .ok (.iload_n j, 1)) (hi : (j : Nat) = i) (hk : GK X ps (pc + 1) k) : GK X ps pc (o_iload i k) := fun ls st S hr => by
  obtain ⟨x, hx, r1⟩ := vI_el hr
  obtain ⟨hm, hw⟩ := hk _ _ _ r1
  exact ⟨hm, fun H locs lm a1 a2 a3 a4 a5 => lv_iload_n h.1.ex h.by hd hi (lh_at a3 hx (by simp)) (hw H locs lm a1 a2 a3 a4 a5)⟩
theorem gk_iload {i : Nat} (h : XM X cc own) (hd : decode cc pc = .ok (.iload i, 2)) (hk : GK X ps (pc + 2) k) : GK X ps pc (o_iload i k) := fun ls st S hr => by
  obtain ⟨x, hx, r1⟩ := vI_el hr
  obtain ⟨hm, hw⟩ := hk _ _ _ r1
  exact ⟨hm, fun H locs lm a1 a2 a3 a4 a5 => lv_iload h.1.ex h.by hd (lh_at a3 hx (by simp)) (hw H locs lm a1 a2 a3 a4 a5)⟩
theorem gk_lload_n {j : Fin 4} {i : Nat} (h : XM X cc own) (hd : decode cc pc = .ok (.lload_n j, 1)) (hi : (j : Nat) = i) (hk : GK X ps (pc + 1) k) : GK X ps pc (o_lload i k) := fun ls st S hr => by
  obtain ⟨x, hx, r1⟩ := vL_el hr
  obtain ⟨hm, hw⟩ := hk _ _ _ r1
  exact ⟨hm, fun H locs lm a1 a2 a3 a4 a5 => lv_lload_n h.1.ex h.by hd hi (lh_at a3 hx (by simp)) (hw H locs lm a1 a2 a3 a4 a5)⟩
theorem gk_lload {i : Nat} (h : XM X cc own) (hd : decode cc pc = .ok (.lload i, 2)) (hk : GK X ps (pc + 2) k) : GK X ps pc (o_lload i k) := fun ls st S hr => by
  obtain ⟨x, hx, r1⟩ := vL_el hr
  obtain ⟨hm, hw⟩ := hk _ _ _ r1
  exact ⟨hm, fun H locs lm a1 a2 a3 a4 a5 => lv_lload h.1.ex h.by hd (lh_at a3 hx (by simp)) (hw H locs lm a1 a2 a3 a4 a5)⟩
theorem gk_aload_n {j : Fin 4} {i : Nat} (h : XM X cc own) (hd : decode cc pc = .ok (.aload_n j, 1)) (hi : (j : Nat) = i) (hk : GK X ps (pc + 1) k) : GK X ps pc (o_aload i k) := fun ls st S hr => by
  obtain ⟨x, hx, r1⟩ := vR_el hr
  obtain ⟨hm, hw⟩ := hk _ _ _ r1
  refine ⟨hm, fun H locs lm a1 a2 a3 a4 a5 => ?_⟩
  have hl := lh_at a3 hx (by simp)
  have hw := (hw H locs lm a1 a2 a3 a4 a5)
  cases x with
  | zero => exact lv_aload_nN h.1.ex h.by hd hi hl hw
  | succ x => exact lv_aload_n h.1.ex h.by hd hi hl hw
theorem gk_sload_n {j : Fin 4} {i : Nat} (h : XM X cc own) (hd : decode cc pc = .ok (.aload_n j, 1)) (hi : (j : Nat) = i) (hk : GK X ps (pc + 1) k) : GK X ps pc (o_sload i k) := fun ls st S hr => by
  obtain ⟨x, hx, r1⟩ := vS_el hr
  obtain ⟨hm, hw⟩ := hk _ _ _ r1
  refine ⟨hm, fun H locs lm a1 a2 a3 a4 a5 => ?_⟩
  have hl := lh_at a3 hx (by simp)
  have hw := hw H locs lm a1 a2 a3 a4 a5
  rw [List.map_cons] at hw
  cases h9 : xS X x with
  | none =>
    have e : cv (xb X) (xS X) (.retAddr x) = .null := by show va_rf (xS X x) = _; rw [h9]; rfl
    rw [e] at hl
    rw [show xv X (.retAddr x) = .null from e] at hw
    exact lv_aload_nN h.1.ex h.by hd hi hl hw
  | some q =>
    have e : cv (xb X) (xS X) (.retAddr x) = .ref q := by show va_rf (xS X x) = _; rw [h9]; rfl
    rw [e] at hl
    rw [show xv X (.retAddr x) = .ref q from e] at hw
    exact lv_aload_n h.1.ex h.by hd hi hl hw
theorem gk_aload {i : Nat} (h : XM X cc own) (hd : decode cc pc = .ok (.aload i, 2)) (hk : GK X ps (pc + 2) k) : GK X ps pc (o_aload i k) := fun ls st S hr => by
  obtain ⟨x, hx, r1⟩ := vR_el hr
  obtain ⟨hm, hw⟩ := hk _ _ _ r1
  refine ⟨hm, fun H locs lm a1 a2 a3 a4 a5 => ?_⟩
  have hl := lh_at a3 hx (by simp)
  have hw := (hw H locs lm a1 a2 a3 a4 a5)
  cases x with
  | zero => exact lv_aloadN h.1.ex h.by hd hl hw
  | succ x => exact lv_aload h.1.ex h.by hd hl hw
theorem gk_sload {i : Nat} (h : XM X cc own) (hd : decode cc pc = .ok (.aload i, 2)) (hk : GK X ps (pc + 2) k) : GK X ps pc (o_sload i k) := fun ls st S hr => by
  obtain ⟨x, hx, r1⟩ := vS_el hr
  obtain ⟨hm, hw⟩ := hk _ _ _ r1
  refine ⟨hm, fun H locs lm a1 a2 a3 a4 a5 => ?_⟩
  have hl := lh_at a3 hx (by simp)
  have hw := hw H locs lm a1 a2 a3 a4 a5
  rw [List.map_cons] at hw
  cases h9 : xS X x with
  | none =>
    have e : cv (xb X) (xS X) (.retAddr x) = .null := by show va_rf (xS X x) = _; rw [h9]; rfl
    rw [e] at hl
    rw [show xv X (.retAddr x) = .null from e] at hw
    exact lv_aloadN h.1.ex h.by hd hl hw
  | some q =>
    have e : cv (xb X) (xS X) (.retAddr x) = .ref q := by show va_rf (xS X x) = _; rw [h9]; rfl
    rw [e] at hl
    rw [show xv X (.retAddr x) = .ref q from e] at hw
    exact lv_aload h.1.ex h.by hd hl hw
theorem gk_istore_n {j : Fin 4} {i n : Nat} (h : XM X cc own) (hd : decode cc pc = .ok (.istore_n j, 1)) (hi : (j : Nat) = i) (hn : xn X = n) (hb : i < n) (hk : GK X ps (pc + 1) k) : GK X ps pc (o_istore i k) := fun ls st S hr => by
  obtain ⟨x, st, rfl, r1⟩ := tI_el hr
  obtain ⟨hm, hw⟩ := hk _ _ _ r1
  rw [← hn] at hb
  exact ⟨hm, fun H locs lm a1 a2 a3 a4 a5 => lv_istore_n h.1.ex h.by hd hi (lh_has a3) hb rfl fun lm' hl => hw H locs lm' a1 a2 (lh_st (v := .int x) a3 hb hl) a4 a5⟩
theorem gk_istore {i n : Nat} (h : XM X cc own) (hd : decode cc pc = .ok (.istore i, 2)) (hn : xn X = n) (hb : i < n) (hk : GK X ps (pc + 2) k) : GK X ps pc (o_istore i k) := fun ls st S hr => by
  obtain ⟨x, st, rfl, r1⟩ := tI_el hr
  obtain ⟨hm, hw⟩ := hk _ _ _ r1
  rw [← hn] at hb
  exact ⟨hm, fun H locs lm a1 a2 a3 a4 a5 => lv_istore h.1.ex h.by hd (lh_has a3) hb rfl fun lm' hl => hw H locs lm' a1 a2 (lh_st (v := .int x) a3 hb hl) a4 a5⟩
theorem gk_lstore_n {j : Fin 4} {i n : Nat} (h : XM X cc own) (hd : decode cc pc = .ok (.lstore_n j, 1)) (hi : (j : Nat) = i) (hn : xn X = n) (hb : i + 1 < n) (hk : GK X ps (pc + 1) k) : GK X ps pc (o_lstore i k) := fun ls st S hr => by
  obtain ⟨x, st, rfl, r1⟩ := tL_el hr
  obtain ⟨hm, hw⟩ := hk _ _ _ r1
  rw [← hn] at hb
  exact ⟨hm, fun H locs lm a1 a2 a3 a4 a5 => lv_lstore_n h.1.ex h.by hd hi (lh_has a3) hb rfl fun lm' hl => hw H locs lm' a1 a2 (lh_stL (v := .long x) a3 hb hl) a4 a5⟩
theorem gk_lstore {i n : Nat} (h : XM X cc own) (hd : decode cc pc = .ok (.lstore i, 2)) (hn : xn X = n) (hb : i + 1 < n) (hk : GK X ps (pc + 2) k) : GK X ps pc (o_lstore i k) := fun ls st S hr => by
  obtain ⟨x, st, rfl, r1⟩ := tL_el hr
  obtain ⟨hm, hw⟩ := hk _ _ _ r1
  rw [← hn] at hb
  exact ⟨hm, fun H locs lm a1 a2 a3 a4 a5 => lv_lstore h.1.ex h.by hd (lh_has a3) hb rfl fun lm' hl => hw H locs lm' a1 a2 (lh_stL (v := .long x) a3 hb hl) a4 a5⟩
theorem gk_astore_n {j : Fin 4} {i n : Nat} (h : XM X cc own) (hd : decode cc pc = .ok (.astore_n j, 1)) (hi : (j : Nat) = i) (hn : xn X = n) (hb : i < n) (hk : GK X ps (pc + 1) k) : GK X ps pc (o_astore i k) := fun ls st S hr => by
  obtain ⟨x, st, rfl, r1⟩ := tR_el hr
  obtain ⟨hm, hw⟩ := hk _ _ _ r1
  rw [← hn] at hb
  refine ⟨hm, fun H locs lm a1 a2 a3 a4 a5 => ?_⟩
  cases x with
  | zero => exact lv_astore_nN h.1.ex h.by hd hi (lh_has a3) hb rfl fun lm' hl => hw H locs lm' a1 a2 (lh_st (v := .ref 0) a3 hb hl) a4 a5
  | succ x => exact lv_astore_n h.1.ex h.by hd hi (lh_has a3) hb rfl fun lm' hl => hw H locs lm' a1 a2 (lh_st (v := .ref (x + 1)) a3 hb hl) a4 a5
theorem gk_astore {i n : Nat} (h : XM X cc own) (hd : decode cc pc = .ok (.astore i, 2)) (hn : xn X = n) (hb : i < n) (hk : GK X ps (pc + 2) k) : GK X ps pc (o_astore i k) := fun ls st S hr => by
  obtain ⟨x, st, rfl, r1⟩ := tR_el hr
  obtain ⟨hm, hw⟩ := hk _ _ _ r1
  rw [← hn] at hb
  refine ⟨hm, fun H locs lm a1 a2 a3 a4 a5 => ?_⟩
  cases x with
  | zero => exact lv_astoreN h.1.ex h.by hd (lh_has a3) hb rfl fun lm' hl => hw H locs lm' a1 a2 (lh_st (v := .ref 0) a3 hb hl) a4 a5
  | succ x => exact lv_astore h.1.ex h.by hd (lh_has a3) hb rfl fun lm' hl => hw H locs lm' a1 a2 (lh_st (v := .ref (x + 1)) a3 hb hl) a4 a5
theorem gk_iinc {i n : Nat} {z : Int} {v : Int32} (h : XM X cc own) (hd : decode cc pc = .ok (.iinc i z, 3)) (hv : Int32.ofInt z = v) (hn : xn X = n) (hb : i < n) (hk : GK X ps (pc + 3) k) : GK X ps pc (o_iinc i v k) := fun ls st S hr => by
  obtain ⟨x, hx, r1⟩ := vI_el hr
  obtain ⟨hm, hw⟩ := hk _ _ _ r1
  rw [← hn] at hb
  have hne : nth ls i ≠ .null := by rw [hx]; simp
  obtain ⟨q, hq⟩ := List.getElem?_of_mem (lvl_mem (base := xb X) (ad := xS X) hne)
  rw [hx] at hq
  exact ⟨hm, fun H locs lm a1 a2 a3 a4 a5 => lv_iinc h.1.ex h.by hd (lh_has a3) (k := q) hq (by rw [hv]) hb rfl fun lm' hl => hw H locs lm' a1 a2 (lh_st (v := .int (x + v)) a3 hb hl) a4 a5⟩
theorem gk_iadd (h : XM X cc own) (hd : decode cc pc = .ok (.iadd, 1)) (hk : GK X ps (pc + 1) k) : GK X ps pc (o_i2 (fun x y => x + y) k) := by
  intro ls st S hr
  obtain ⟨y, st, rfl, r1⟩ := tI_el hr
  obtain ⟨x, st, rfl, r2⟩ := tI_el r1
  obtain ⟨hm, hw⟩ := hk _ _ _ r2
  exact ⟨hm, fun H locs lm a1 a2 a3 a4 a5 => lv_iadd h.1.ex h.by hd (hw H locs lm a1 a2 a3 a4 a5)⟩
theorem gk_isub (h : XM X cc own) (hd : decode cc pc = .ok (.isub, 1)) (hk : GK X ps (pc + 1) k) : GK X ps pc (o_i2 (fun x y => x - y) k) := by
  intro ls st S hr
  obtain ⟨y, st, rfl, r1⟩ := tI_el hr
  obtain ⟨x, st, rfl, r2⟩ := tI_el r1
  obtain ⟨hm, hw⟩ := hk _ _ _ r2
  exact ⟨hm, fun H locs lm a1 a2 a3 a4 a5 => lv_isub h.1.ex h.by hd (hw H locs lm a1 a2 a3 a4 a5)⟩
theorem gk_imul (h : XM X cc own) (hd : decode cc pc = .ok (.imul, 1)) (hk : GK X ps (pc + 1) k) : GK X ps pc (o_i2 (fun x y => x * y) k) := by
  intro ls st S hr
  obtain ⟨y, st, rfl, r1⟩ := tI_el hr
  obtain ⟨x, st, rfl, r2⟩ := tI_el r1
  obtain ⟨hm, hw⟩ := hk _ _ _ r2
  exact ⟨hm, fun H locs lm a1 a2 a3 a4 a5 => lv_imul h.1.ex h.by hd (hw H locs lm a1 a2 a3 a4 a5)⟩
theorem gk_iand (h : XM X cc own) (hd : decode cc pc = .ok (.iand, 1)) (hk : GK X ps (pc + 1) k) : GK X ps pc (o_i2 (fun x y => x &&& y) k) := by
  intro ls st S hr
  obtain ⟨y, st, rfl, r1⟩ := tI_el hr
  obtain ⟨x, st, rfl, r2⟩ := tI_el r1
  obtain ⟨hm, hw⟩ := hk _ _ _ r2
  exact ⟨hm, fun H locs lm a1 a2 a3 a4 a5 => lv_iand h.1.ex h.by hd (hw H locs lm a1 a2 a3 a4 a5)⟩
theorem gk_ior (h : XM X cc own) (hd : decode cc pc = .ok (.ior, 1)) (hk : GK X ps (pc + 1) k) : GK X ps pc (o_i2 (fun x y => x ||| y) k) := by
  intro ls st S hr
  obtain ⟨y, st, rfl, r1⟩ := tI_el hr
  obtain ⟨x, st, rfl, r2⟩ := tI_el r1
  obtain ⟨hm, hw⟩ := hk _ _ _ r2
  exact ⟨hm, fun H locs lm a1 a2 a3 a4 a5 => lv_ior h.1.ex h.by hd (hw H locs lm a1 a2 a3 a4 a5)⟩
theorem gk_ishl (h : XM X cc own) (hd : decode cc pc = .ok (.ishl, 1)) (hk : GK X ps (pc + 1) k) : GK X ps pc (o_i2 (fun x y => x <<< (y &&& 31)) k) := by
  intro ls st S hr
  obtain ⟨y, st, rfl, r1⟩ := tI_el hr
  obtain ⟨x, st, rfl, r2⟩ := tI_el r1
  obtain ⟨hm, hw⟩ := hk _ _ _ r2
  exact ⟨hm, fun H locs lm a1 a2 a3 a4 a5 => lv_ishl h.1.ex h.by hd (hw H locs lm a1 a2 a3 a4 a5)⟩
theorem gk_ishr (h : XM X cc own) (hd : decode cc pc = .ok (.ishr, 1)) (hk : GK X ps (pc + 1) k) : GK X ps pc (o_i2 (fun x y => x >>> (y &&& 31)) k) := by
  intro ls st S hr
  obtain ⟨y, st, rfl, r1⟩ := tI_el hr
  obtain ⟨x, st, rfl, r2⟩ := tI_el r1
  obtain ⟨hm, hw⟩ := hk _ _ _ r2
  exact ⟨hm, fun H locs lm a1 a2 a3 a4 a5 => lv_ishr h.1.ex h.by hd (hw H locs lm a1 a2 a3 a4 a5)⟩
theorem gk_ladd (h : XM X cc own) (hd : decode cc pc = .ok (.ladd, 1)) (hk : GK X ps (pc + 1) k) : GK X ps pc (o_l2 (fun x y => x + y) k) := by
  intro ls st S hr
  obtain ⟨y, st, rfl, r1⟩ := tL_el hr
  obtain ⟨x, st, rfl, r2⟩ := tL_el r1
  obtain ⟨hm, hw⟩ := hk _ _ _ r2
  exact ⟨hm, fun H locs lm a1 a2 a3 a4 a5 => lv_ladd h.1.ex h.by hd (hw H locs lm a1 a2 a3 a4 a5)⟩
theorem gk_lsub (h : XM X cc own) (hd : decode cc pc = .ok (.lsub, 1)) (hk : GK X ps (pc + 1) k) : GK X ps pc (o_l2 (fun x y => x - y) k) := by
  intro ls st S hr
  obtain ⟨y, st, rfl, r1⟩ := tL_el hr
  obtain ⟨x, st, rfl, r2⟩ := tL_el r1
  obtain ⟨hm, hw⟩ := hk _ _ _ r2
  exact ⟨hm, fun H locs lm a1 a2 a3 a4 a5 => lv_lsub h.1.ex h.by hd (hw H locs lm a1 a2 a3 a4 a5)⟩
theorem gk_lmul (h : XM X cc own) (hd : decode cc pc = .ok (.lmul, 1)) (hk : GK X ps (pc + 1) k) : GK X ps pc (o_l2 (fun x y => x * y) k) := by
  intro ls st S hr
  obtain ⟨y, st, rfl, r1⟩ := tL_el hr
  obtain ⟨x, st, rfl, r2⟩ := tL_el r1
  obtain ⟨hm, hw⟩ := hk _ _ _ r2
  exact ⟨hm, fun H locs lm a1 a2 a3 a4 a5 => lv_lmul h.1.ex h.by hd (hw H locs lm a1 a2 a3 a4 a5)⟩
theorem gk_land (h : XM X cc own) (hd : decode cc pc = .ok (.land, 1)) (hk : GK X ps (pc + 1) k) : GK X ps pc (o_l2 (fun x y => x &&& y) k) := by
  intro ls st S hr
  obtain ⟨y, st, rfl, r1⟩ := tL_el hr
  obtain ⟨x, st, rfl, r2⟩ := tL_el r1
  obtain ⟨hm, hw⟩ := hk _ _ _ r2
  exact ⟨hm, fun H locs lm a1 a2 a3 a4 a5 => lv_land h.1.ex h.by hd (hw H locs lm a1 a2 a3 a4 a5)⟩
theorem gk_lor (h : XM X cc own) (hd : decode cc pc = .ok (.lor, 1)) (hk : GK X ps (pc + 1) k) : GK X ps pc (o_l2 (fun x y => x ||| y) k) := by
  intro ls st S hr
  obtain ⟨y, st, rfl, r1⟩ := tL_el hr
  obtain ⟨x, st, rfl, r2⟩ := tL_el r1
  obtain ⟨hm, hw⟩ := hk _ _ _ r2
  exact ⟨hm, fun H locs lm a1 a2 a3 a4 a5 => lv_lor h.1.ex h.by hd (hw H locs lm a1 a2 a3 a4 a5)⟩
theorem gk_lxor (h : XM X cc own) (hd : decode cc pc = .ok (.lxor, 1)) (hk : GK X ps (pc + 1) k) : GK X ps pc (o_l2 (fun x y => x ^^^ y) k) := by
  intro ls st S hr
  obtain ⟨y, st, rfl, r1⟩ := tL_el hr
  obtain ⟨x, st, rfl, r2⟩ := tL_el r1
  obtain ⟨hm, hw⟩ := hk _ _ _ r2
  exact ⟨hm, fun H locs lm a1 a2 a3 a4 a5 => lv_lxor h.1.ex h.by hd (hw H locs lm a1 a2 a3 a4 a5)⟩
theorem gk_idiv (h : XM X cc own) (hd : decode cc pc = .ok (.idiv, 1)) (hk : GK X ps (pc + 1) k) : GK X ps pc (o_i2z (fun x y => x / y) k) := by
  intro ls st S hr
  obtain ⟨y, st, rfl, r1⟩ := tI_el hr
  obtain ⟨x, st, rfl, r2⟩ := tI_el r1
  obtain ⟨hne, r3⟩ := fi_el r2
  obtain ⟨hm, hw⟩ := hk _ _ _ r3
  exact ⟨hm, fun H locs lm a1 a2 a3 a4 a5 => lv_idiv h.1.ex h.by hd hne (hw H locs lm a1 a2 a3 a4 a5)⟩
theorem gk_irem (h : XM X cc own) (hd : decode cc pc = .ok (.irem, 1)) (hk : GK X ps (pc + 1) k) : GK X ps pc (o_i2z (fun x y => x - x / y * y) k) := by
  intro ls st S hr
  obtain ⟨y, st, rfl, r1⟩ := tI_el hr
  obtain ⟨x, st, rfl, r2⟩ := tI_el r1
  obtain ⟨hne, r3⟩ := fi_el r2
  obtain ⟨hm, hw⟩ := hk _ _ _ r3
  exact ⟨hm, fun H locs lm a1 a2 a3 a4 a5 => lv_irem h.1.ex h.by hd hne (hw H locs lm a1 a2 a3 a4 a5)⟩
theorem gk_ldiv (h : XM X cc own) (hd : decode cc pc = .ok (.ldiv, 1)) (hk : GK X ps (pc + 1) k) : GK X ps pc (o_l2z (fun x y => x / y) k) := by
  intro ls st S hr
  obtain ⟨y, st, rfl, r1⟩ := tL_el hr
  obtain ⟨x, st, rfl, r2⟩ := tL_el r1
  obtain ⟨hne, r3⟩ := fi_el r2
  obtain ⟨hm, hw⟩ := hk _ _ _ r3
  exact ⟨hm, fun H locs lm a1 a2 a3 a4 a5 => lv_ldiv h.1.ex h.by hd hne (hw H locs lm a1 a2 a3 a4 a5)⟩
theorem gk_lrem (h : XM X cc own) (hd : decode cc pc = .ok (.lrem, 1)) (hk : GK X ps (pc + 1) k) : GK X ps pc (o_l2z (fun x y => x - x / y * y) k) := by
  intro ls st S hr
  obtain ⟨y, st, rfl, r1⟩ := tL_el hr
  obtain ⟨x, st, rfl, r2⟩ := tL_el r1
  obtain ⟨hne, r3⟩ := fi_el r2
  obtain ⟨hm, hw⟩ := hk _ _ _ r3
  exact ⟨hm, fun H locs lm a1 a2 a3 a4 a5 => lv_lrem h.1.ex h.by hd hne (hw H locs lm a1 a2 a3 a4 a5)⟩
theorem gk_lushr (h : XM X cc own) (hd : decode cc pc = .ok (.lushr, 1)) (hk : GK X ps (pc + 1) k) : GK X ps pc (o_lsh (fun x y => (x.toUInt64 >>> (y.toInt64.toUInt64 &&& Int64.toUInt64 63)).toInt64) k) := by
  intro ls st S hr
  obtain ⟨y, st, rfl, r1⟩ := tI_el hr
  obtain ⟨x, st, rfl, r2⟩ := tL_el r1
  obtain ⟨hm, hw⟩ := hk _ _ _ r2
  exact ⟨hm, fun H locs lm a1 a2 a3 a4 a5 => lv_lushr h.1.ex h.by hd rfl (hw H locs lm a1 a2 a3 a4 a5)⟩
theorem gk_lshl (h : XM X cc own) (hd : decode cc pc = .ok (.lshl, 1)) (hk : GK X ps (pc + 1) k) : GK X ps pc (o_lsh (fun x y => x <<< (y.toInt64 &&& 63)) k) := by
  intro ls st S hr
  obtain ⟨y, st, rfl, r1⟩ := tI_el hr
  obtain ⟨x, st, rfl, r2⟩ := tL_el r1
  obtain ⟨hm, hw⟩ := hk _ _ _ r2
  exact ⟨hm, fun H locs lm a1 a2 a3 a4 a5 => lv_lshl h.1.ex h.by hd rfl (hw H locs lm a1 a2 a3 a4 a5)⟩
theorem gk_ineg (h : XM X cc own) (hd : decode cc pc = .ok (.ineg, 1)) (hk : GK X ps (pc + 1) k) : GK X ps pc (o_i1 (fun x => -x) k) := by
  intro ls st S hr
  obtain ⟨x, st, rfl, r1⟩ := tI_el hr
  obtain ⟨hm, hw⟩ := hk _ _ _ r1
  exact ⟨hm, fun H locs lm a1 a2 a3 a4 a5 => lv_ineg h.1.ex h.by hd (hw H locs lm a1 a2 a3 a4 a5)⟩
theorem gk_i2b (h : XM X cc own) (hd : decode cc pc = .ok (.i2b, 1)) (hk : GK X ps (pc + 1) k) : GK X ps pc (o_i1 (fun x => x.toInt8.toInt32) k) := by
  intro ls st S hr
  obtain ⟨x, st, rfl, r1⟩ := tI_el hr
  obtain ⟨hm, hw⟩ := hk _ _ _ r1
  exact ⟨hm, fun H locs lm a1 a2 a3 a4 a5 => lv_i2b h.1.ex h.by hd rfl (hw H locs lm a1 a2 a3 a4 a5)⟩
theorem gk_i2c (h : XM X cc own) (hd : decode cc pc = .ok (.i2c, 1)) (hk : GK X ps (pc + 1) k) : GK X ps pc (o_i1 (fun x => (x.toUInt32 % 65536).toInt32) k) := by
  intro ls st S hr
  obtain ⟨x, st, rfl, r1⟩ := tI_el hr
  obtain ⟨hm, hw⟩ := hk _ _ _ r1
  exact ⟨hm, fun H locs lm a1 a2 a3 a4 a5 => lv_i2c h.1.ex h.by hd rfl (hw H locs lm a1 a2 a3 a4 a5)⟩
theorem gk_i2l (h : XM X cc own) (hd : decode cc pc = .ok (.i2l, 1)) (hk : GK X ps (pc + 1) k) : GK X ps pc (o_i2l k) := by
  intro ls st S hr
  obtain ⟨x, st, rfl, r1⟩ := tI_el hr
  obtain ⟨hm, hw⟩ := hk _ _ _ r1
  exact ⟨hm, fun H locs lm a1 a2 a3 a4 a5 => lv_i2l h.1.ex h.by hd rfl (hw H locs lm a1 a2 a3 a4 a5)⟩
theorem gk_l2i (h : XM X cc own) (hd : decode cc pc = .ok (.l2i, 1)) (hk : GK X ps (pc + 1) k) : GK X ps pc (o_l2i k) := by
  intro ls st S hr
  obtain ⟨x, st, rfl, r1⟩ := tL_el hr
  obtain ⟨hm, hw⟩ := hk _ _ _ r1
  exact ⟨hm, fun H locs lm a1 a2 a3 a4 a5 => lv_l2i h.1.ex h.by hd rfl (hw H locs lm a1 a2 a3 a4 a5)⟩
theorem gk_lcmp (h : XM X cc own) (hd : decode cc pc = .ok (.lcmp, 1)) (hk : GK X ps (pc + 1) k) : GK X ps pc (o_lcmp k) := by
  intro ls st S hr
  obtain ⟨y, st, rfl, r1⟩ := tL_el hr
  obtain ⟨x, st, rfl, r2⟩ := tL_el r1
  obtain ⟨hm, hw⟩ := hk _ _ _ r2
  exact ⟨hm, fun H locs lm a1 a2 a3 a4 a5 => W.lcmp h.1.ex h.by hd (hw H locs lm a1 a2 a3 a4 a5)⟩
theorem gk_dup (h : XM X cc own) (hd : decode cc pc = .ok (.dup, 1)) (hk : GK X ps (pc + 1) k) : GK X ps pc (o_dup k) := by
  intro ls st S hr
  obtain ⟨v, st, rfl, hc, r1⟩ := t1_el hr
  obtain ⟨hm, hw⟩ := hk _ _ _ r1
  exact ⟨hm, fun H locs lm a1 a2 a3 a4 a5 => lv_dup h.1.ex h.by hd hc (hw H locs lm a1 a2 a3 a4 a5)⟩
theorem gk_dup2 (h : XM X cc own) (hd : decode cc pc = .ok (.dup2, 1)) (hk : GK X ps (pc + 1) k) : GK X ps pc (o_dup2 k) := by
  intro ls st S hr
  obtain ⟨v, st, rfl, hc, r1⟩ := t1_el hr
  obtain ⟨w, st, rfl, hc2, r2⟩ := t1_el r1
  obtain ⟨hm, hw⟩ := hk _ _ _ r2
  exact ⟨hm, fun H locs lm a1 a2 a3 a4 a5 => lv_dup2_11 h.1.ex h.by hd hc hc2 (hw H locs lm a1 a2 a3 a4 a5)⟩
theorem gk_pop (h : XM X cc own) (hd : decode cc pc = .ok (.pop, 1)) (hk : GK X ps (pc + 1) k) : GK X ps pc (o_pop k) := by
  intro ls st S hr
  obtain ⟨v, st, rfl, hc, r1⟩ := t1_el hr
  obtain ⟨hm, hw⟩ := hk _ _ _ r1
  exact ⟨hm, fun H locs lm a1 a2 a3 a4 a5 => lv_pop h.1.ex h.by hd hc (hw H locs lm a1 a2 a3 a4 a5)⟩
theorem gk_goto {off : Int} {tgt : Nat} (h : XM X cc own) (hd : decode cc pc = .ok (.goto off, 3)) (ht : (pc : Int) + off = (tgt : Int)) (hk : GK X ps tgt k) : GK X ps pc k := fun ls st S hr => by
  obtain ⟨hm, hw⟩ := hk _ _ _ hr
  exact ⟨hm, fun H locs lm a1 a2 a3 a4 a5 => lv_goto h.1.ex h.by hd ht (hw H locs lm a1 a2 a3 a4 a5)⟩
theorem gk_ifeq {off : Int} {tgt : Nat} (h : XM X cc own) (hd : decode cc pc = .ok (.ifCond .eq off, 3)) (ht : (pc : Int) + off = (tgt : Int)) (hkt : GK X ps tgt kt) (hkf : GK X ps (pc + 3) kf) : GK X ps pc (o_if0 kt kf) := by
  intro ls st S hr
  obtain ⟨x, st, rfl, r1⟩ := tI_el hr
  by_cases hc : x = 0
  · have r9 := r1
    rw [if_pos hc] at r9
    obtain ⟨hm, hw⟩ := hkt _ _ _ r9
    exact ⟨hm, fun H locs lm a1 a2 a3 a4 a5 => lv_if_eq h.1.ex h.by hd ht (fun q => (hw H locs lm a1 a2 a3 a4 a5)) (fun q => absurd hc (q))⟩
  · have r9 := r1
    rw [if_neg hc] at r9
    obtain ⟨hm, hw⟩ := hkf _ _ _ r9
    exact ⟨hm, fun H locs lm a1 a2 a3 a4 a5 => lv_if_eq h.1.ex h.by hd ht (fun q => absurd (q) hc) (fun q => (hw H locs lm a1 a2 a3 a4 a5))⟩
theorem gk_ifne {off : Int} {tgt : Nat} (h : XM X cc own) (hd : decode cc pc = .ok (.ifCond .ne off, 3)) (ht : (pc : Int) + off = (tgt : Int)) (hkt : GK X ps tgt kt) (hkf : GK X ps (pc + 3) kf) : GK X ps pc (o_if0 kf kt) := by
  intro ls st S hr
  obtain ⟨x, st, rfl, r1⟩ := tI_el hr
  by_cases hc : x = 0
  · have r9 := r1
    rw [if_pos hc] at r9
    obtain ⟨hm, hw⟩ := hkf _ _ _ r9
    exact ⟨hm, fun H locs lm a1 a2 a3 a4 a5 => lv_if_ne h.1.ex h.by hd ht (fun q => absurd hc (q)) (fun q => (hw H locs lm a1 a2 a3 a4 a5))⟩
  · have r9 := r1
    rw [if_neg hc] at r9
    obtain ⟨hm, hw⟩ := hkt _ _ _ r9
    exact ⟨hm, fun H locs lm a1 a2 a3 a4 a5 => lv_if_ne h.1.ex h.by hd ht (fun q => (hw H locs lm a1 a2 a3 a4 a5)) (fun q => absurd (q) hc)⟩
theorem gk_iflt {off : Int} {tgt : Nat} (h : XM X cc own) (hd : decode cc pc = .ok (.ifCond .lt off, 3)) (ht : (pc : Int) + off = (tgt : Int)) (hkt : GK X ps tgt kt) (hkf : GK X ps (pc + 3) kf) : GK X ps pc (o_ifn kt kf) := by
  intro ls st S hr
  obtain ⟨x, st, rfl, r1⟩ := tI_el hr
  by_cases hc : x < 0
  · have r9 := r1
    rw [if_pos hc] at r9
    obtain ⟨hm, hw⟩ := hkt _ _ _ r9
    exact ⟨hm, fun H locs lm a1 a2 a3 a4 a5 => lv_if_lt h.1.ex h.by hd ht (fun q => (hw H locs lm a1 a2 a3 a4 a5)) (fun q => absurd hc (q))⟩
  · have r9 := r1
    rw [if_neg hc] at r9
    obtain ⟨hm, hw⟩ := hkf _ _ _ r9
    exact ⟨hm, fun H locs lm a1 a2 a3 a4 a5 => lv_if_lt h.1.ex h.by hd ht (fun q => absurd (q) hc) (fun q => (hw H locs lm a1 a2 a3 a4 a5))⟩
theorem gk_ifge {off : Int} {tgt : Nat} (h : XM X cc own) (hd : decode cc pc = .ok (.ifCond .ge off, 3)) (ht : (pc : Int) + off = (tgt : Int)) (hkt : GK X ps tgt kt) (hkf : GK X ps (pc + 3) kf) : GK X ps pc (o_ifn kf kt) := by
  intro ls st S hr
  obtain ⟨x, st, rfl, r1⟩ := tI_el hr
  by_cases hc : x < 0
  · have r9 := r1
    rw [if_pos hc] at r9
    obtain ⟨hm, hw⟩ := hkf _ _ _ r9
    exact ⟨hm, fun H locs lm a1 a2 a3 a4 a5 => lv_if_ge h.1.ex h.by hd ht (fun q => absurd hc (Int32.not_lt.mpr q)) (fun q => (hw H locs lm a1 a2 a3 a4 a5))⟩
  · have r9 := r1
    rw [if_neg hc] at r9
    obtain ⟨hm, hw⟩ := hkt _ _ _ r9
    exact ⟨hm, fun H locs lm a1 a2 a3 a4 a5 => lv_if_ge h.1.ex h.by hd ht (fun q => (hw H locs lm a1 a2 a3 a4 a5)) (fun q => absurd (Int32.not_le.mp q) hc)⟩
theorem gk_ifgt {off : Int} {tgt : Nat} (h : XM X cc own) (hd : decode cc pc = .ok (.ifCond .gt off, 3)) (ht : (pc : Int) + off = (tgt : Int)) (hkt : GK X ps tgt kt) (hkf : GK X ps (pc + 3) kf) : GK X ps pc (o_ifp kt kf) := by
  intro ls st S hr
  obtain ⟨x, st, rfl, r1⟩ := tI_el hr
  by_cases hc : 0 < x
  · have r9 := r1
    rw [if_pos hc] at r9
    obtain ⟨hm, hw⟩ := hkt _ _ _ r9
    exact ⟨hm, fun H locs lm a1 a2 a3 a4 a5 => lv_if_gt h.1.ex h.by hd ht (fun q => (hw H locs lm a1 a2 a3 a4 a5)) (fun q => absurd hc (q))⟩
  · have r9 := r1
    rw [if_neg hc] at r9
    obtain ⟨hm, hw⟩ := hkf _ _ _ r9
    exact ⟨hm, fun H locs lm a1 a2 a3 a4 a5 => lv_if_gt h.1.ex h.by hd ht (fun q => absurd (q) hc) (fun q => (hw H locs lm a1 a2 a3 a4 a5))⟩
theorem gk_ifle {off : Int} {tgt : Nat} (h : XM X cc own) (hd : decode cc pc = .ok (.ifCond .le off, 3)) (ht : (pc : Int) + off = (tgt : Int)) (hkt : GK X ps tgt kt) (hkf : GK X ps (pc + 3) kf) : GK X ps pc (o_ifp kf kt) := by
  intro ls st S hr
  obtain ⟨x, st, rfl, r1⟩ := tI_el hr
  by_cases hc : 0 < x
  · have r9 := r1
    rw [if_pos hc] at r9
    obtain ⟨hm, hw⟩ := hkf _ _ _ r9
    exact ⟨hm, fun H locs lm a1 a2 a3 a4 a5 => lv_if_le h.1.ex h.by hd ht (fun q => absurd hc (Int32.not_lt.mpr q)) (fun q => (hw H locs lm a1 a2 a3 a4 a5))⟩
  · have r9 := r1
    rw [if_neg hc] at r9
    obtain ⟨hm, hw⟩ := hkt _ _ _ r9
    exact ⟨hm, fun H locs lm a1 a2 a3 a4 a5 => lv_if_le h.1.ex h.by hd ht (fun q => (hw H locs lm a1 a2 a3 a4 a5)) (fun q => absurd (Int32.not_le.mp q) hc)⟩
theorem gk_icmpeq {off : Int} {tgt : Nat} (h : XM X cc own) (hd : decode cc pc = .ok (.if_icmp .eq off, 3)) (ht : (pc : Int) + off = (tgt : Int)) (hkt : GK X ps tgt kt) (hkf : GK X ps (pc + 3) kf) : GK X ps pc (o_ieq kt kf) := by
  intro ls st S hr
  obtain ⟨y, st, rfl, r1⟩ := tI_el hr
  obtain ⟨x, st, rfl, r2⟩ := tI_el r1
  by_cases hc : x = y
  · have r9 := r2
    rw [if_pos hc] at r9
    obtain ⟨hm, hw⟩ := hkt _ _ _ r9
    exact ⟨hm, fun H locs lm a1 a2 a3 a4 a5 => lv_icmp_eq h.1.ex h.by hd ht (fun q => (hw H locs lm a1 a2 a3 a4 a5)) (fun q => absurd hc (q))⟩
  · have r9 := r2
    rw [if_neg hc] at r9
    obtain ⟨hm, hw⟩ := hkf _ _ _ r9
    exact ⟨hm, fun H locs lm a1 a2 a3 a4 a5 => lv_icmp_eq h.1.ex h.by hd ht (fun q => absurd (q) hc) (fun q => (hw H locs lm a1 a2 a3 a4 a5))⟩
theorem gk_icmpne {off : Int} {tgt : Nat} (h : XM X cc own) (hd : decode cc pc = .ok (.if_icmp .ne off, 3)) (ht : (pc : Int) + off = (tgt : Int)) (hkt : GK X ps tgt kt) (hkf : GK X ps (pc + 3) kf) : GK X ps pc (o_ieq kf kt) := by
  intro ls st S hr
  obtain ⟨y, st, rfl, r1⟩ := tI_el hr
  obtain ⟨x, st, rfl, r2⟩ := tI_el r1
  by_cases hc : x = y
  · have r9 := r2
    rw [if_pos hc] at r9
    obtain ⟨hm, hw⟩ := hkf _ _ _ r9
    exact ⟨hm, fun H locs lm a1 a2 a3 a4 a5 => lv_icmp_ne h.1.ex h.by hd ht (fun q => absurd hc (q)) (fun q => (hw H locs lm a1 a2 a3 a4 a5))⟩
  · have r9 := r2
    rw [if_neg hc] at r9
    obtain ⟨hm, hw⟩ := hkt _ _ _ r9
    exact ⟨hm, fun H locs lm a1 a2 a3 a4 a5 => lv_icmp_ne h.1.ex h.by hd ht (fun q => (hw H locs lm a1 a2 a3 a4 a5)) (fun q => absurd (q) hc)⟩
theorem gk_icmplt {off : Int} {tgt : Nat} (h : XM X cc own) (hd : decode cc pc = .ok (.if_icmp .lt off, 3)) (ht : (pc : Int) + off = (tgt : Int)) (hkt : GK X ps tgt kt) (hkf : GK X ps (pc + 3) kf) : GK X ps pc (o_ilt kt kf) := by
  intro ls st S hr
  obtain ⟨y, st, rfl, r1⟩ := tI_el hr
  obtain ⟨x, st, rfl, r2⟩ := tI_el r1
  by_cases hc : x < y
  · have r9 := r2
    rw [if_pos hc] at r9
    obtain ⟨hm, hw⟩ := hkt _ _ _ r9
    exact ⟨hm, fun H locs lm a1 a2 a3 a4 a5 => lv_icmp_lt h.1.ex h.by hd ht (fun q => (hw H locs lm a1 a2 a3 a4 a5)) (fun q => absurd hc (q))⟩
  · have r9 := r2
    rw [if_neg hc] at r9
    obtain ⟨hm, hw⟩ := hkf _ _ _ r9
    exact ⟨hm, fun H locs lm a1 a2 a3 a4 a5 => lv_icmp_lt h.1.ex h.by hd ht (fun q => absurd (q) hc) (fun q => (hw H locs lm a1 a2 a3 a4 a5))⟩
theorem gk_icmpge {off : Int} {tgt : Nat} (h : XM X cc own) (hd : decode cc pc = .ok (.if_icmp .ge off, 3)) (ht : (pc : Int) + off = (tgt : Int)) (hkt : GK X ps tgt kt) (hkf : GK X ps (pc + 3) kf) : GK X ps pc (o_ilt kf kt) := by
  intro ls st S hr
  obtain ⟨y, st, rfl, r1⟩ := tI_el hr
  obtain ⟨x, st, rfl, r2⟩ := tI_el r1
  by_cases hc : x < y
  · have r9 := r2
    rw [if_pos hc] at r9
    obtain ⟨hm, hw⟩ := hkf _ _ _ r9
    exact ⟨hm, fun H locs lm a1 a2 a3 a4 a5 => lv_icmp_ge h.1.ex h.by hd ht (fun q => absurd hc (Int32.not_lt.mpr q)) (fun q => (hw H locs lm a1 a2 a3 a4 a5))⟩
  · have r9 := r2
    rw [if_neg hc] at r9
    obtain ⟨hm, hw⟩ := hkt _ _ _ r9
    exact ⟨hm, fun H locs lm a1 a2 a3 a4 a5 => lv_icmp_ge h.1.ex h.by hd ht (fun q => (hw H locs lm a1 a2 a3 a4 a5)) (fun q => absurd (Int32.not_le.mp q) hc)⟩
theorem gk_icmpgt {off : Int} {tgt : Nat} (h : XM X cc own) (hd : decode cc pc = .ok (.if_icmp .gt off, 3)) (ht : (pc : Int) + off = (tgt : Int)) (hkt : GK X ps tgt kt) (hkf : GK X ps (pc + 3) kf) : GK X ps pc (o_igt kt kf) := by
  intro ls st S hr
  obtain ⟨y, st, rfl, r1⟩ := tI_el hr
  obtain ⟨x, st, rfl, r2⟩ := tI_el r1
  by_cases hc : y < x
  · have r9 := r2
    rw [if_pos hc] at r9
    obtain ⟨hm, hw⟩ := hkt _ _ _ r9
    exact ⟨hm, fun H locs lm a1 a2 a3 a4 a5 => lv_icmp_gt h.1.ex h.by hd ht (fun q => (hw H locs lm a1 a2 a3 a4 a5)) (fun q => absurd hc (q))⟩
  · have r9 := r2
    rw [if_neg hc] at r9
    obtain ⟨hm, hw⟩ := hkf _ _ _ r9
    exact ⟨hm, fun H locs lm a1 a2 a3 a4 a5 => lv_icmp_gt h.1.ex h.by hd ht (fun q => absurd (q) hc) (fun q => (hw H locs lm a1 a2 a3 a4 a5))⟩
theorem gk_icmple {off : Int} {tgt : Nat} (h : XM X cc own) (hd : decode cc pc = .ok (.if_icmp .le off, 3)) (ht : (pc : Int) + off = (tgt : Int)) (hkt : GK X ps tgt kt) (hkf : GK X ps (pc + 3) kf) : GK X ps pc (o_igt kf kt) := by
  intro ls st S hr
  obtain ⟨y, st, rfl, r1⟩ := tI_el hr
  obtain ⟨x, st, rfl, r2⟩ := tI_el r1
  by_cases hc : y < x
  · have r9 := r2
    rw [if_pos hc] at r9
    obtain ⟨hm, hw⟩ := hkf _ _ _ r9
    exact ⟨hm, fun H locs lm a1 a2 a3 a4 a5 => lv_icmp_le h.1.ex h.by hd ht (fun q => absurd hc (Int32.not_lt.mpr q)) (fun q => (hw H locs lm a1 a2 a3 a4 a5))⟩
  · have r9 := r2
    rw [if_neg hc] at r9
    obtain ⟨hm, hw⟩ := hkt _ _ _ r9
    exact ⟨hm, fun H locs lm a1 a2 a3 a4 a5 => lv_icmp_le h.1.ex h.by hd ht (fun q => (hw H locs lm a1 a2 a3 a4 a5)) (fun q => absurd (Int32.not_le.mp q) hc)⟩
end GKO
end
section
/-! the rows of the heap -/
theorem W_sz {p : Program} {l : Launch} {e : Env} {R : Room} {s : State} {m : MethodId} {args : Array Value} {below : List Frame} {meth : Method} {c : Code} {H : Heap} {locs : List Loc} {cells slots : Nat} {Q : State → Prop} {g : JFrame} (k : H.size ≤ s.heap.size + cells → W p l e R s m args below meth c H locs cells slots Q g) : W p l e R s m args below meth c H locs cells slots Q g :=
  fun T hT X => k (hT ▸ X.heapSize) T hT X
/-- a class by its number: its fields as the tables have them -/
def CK (c : Nat) (C : String) (T : u_T) : Prop := vwCl[c]? = some (C, T, nC c) ∧ c < 100 ∧ (∀ w ∈ u_ws C T (nC c), w ∈ T0) ∧ (∀ k, k < nC c → parseFieldDescriptor (T k).2.2.1 = some (tyC c k)) ∧ (∀ a, a < nC c → ∀ b, b < nC c → a ≠ b → (T a).2.1 ≠ (T b).2.1)
theorem ce_obj {base : Nat} {ck : Nat → ClassId} {S : St} {a c : Nat} (hk : gK S a = c) (hc : c < 100) : ce base ck S a = .inr (c, fl base S a c) := by
  unfold ce; rw [hk, if_pos hc]
theorem ce_arr {base : Nat} {ck : Nat → ClassId} {S : St} {a t : Nat} (hk : gK S a = 100 + t) : ce base ck S a = .inl (ck t, (gN S a, af base S a t)) := by
  unfold ce; rw [hk, if_neg (by omega), Nat.add_sub_cancel_left]
theorem fl_get {base : Nat} {S : St} {a c f : Nat} (hf : f < nC c) : (fl base S a c)[f]? = some (fv base S a (tyC c f) f) := by
  unfold fl; rw [List.getElem?_map, List.getElem?_range hf]; rfl
theorem fl_len (base : Nat) (S : St) (a c : Nat) : (fl base S a c).length = nC c := by simp [fl]
theorem ce_cong {base : Nat} {ck : Nat → ClassId} {S S' : St} {b : Nat} (h1 : gK S' b = gK S b) (h2 : gN S' b = gN S b) (h3 : ∀ j, gI S' b j = gI S b j) (h4 : ∀ j, gL S' b j = gL S b j) (h5 : ∀ j, gR S' b j = gR S b j) : ce base ck S' b = ce base ck S b := by
  have e3 : gI S' b = gI S b := funext h3
  have e4 : gL S' b = gL S b := funext h4
  unfold ce
  rw [h1, h2]
  unfold fl af
  simp only [e3, e4, h5]
  have : ∀ ty k, fv base S' b ty k = fv base S b ty k := by
    intro ty k
    unfold fv
    simp only [h3, h4, h5]
  simp only [this]
theorem fl_set {base : Nat} {S S' : St} {a c f : Nat} {v : Value} (hv : fv base S' a (tyC c f) f = v) (h3 : ∀ j, j ≠ f → gI S' a j = gI S a j) (h4 : ∀ j, j ≠ f → gL S' a j = gL S a j) (h5 : ∀ j, j ≠ f → gR S' a j = gR S a j) : (fl base S a c).set f v = fl base S' a c := by
  apply List.ext_getElem?
  intro j
  rw [List.getElem?_set]
  by_cases hj : f = j
  · subst hj
    rw [if_pos rfl]
    by_cases hl : f < nC c
    · rw [if_pos (by rw [fl_len]; exact hl), fl_get hl, hv]
    · rw [if_neg (by rw [fl_len]; exact hl), List.getElem?_eq_none (by rw [fl_len]; omega)]
  · rw [if_neg hj]
    by_cases hl : j < nC c
    · rw [fl_get hl, fl_get hl]
      have e : j ≠ f := fun z => hj z.symm
      unfold fv
      simp only [h3 j e, h4 j e, h5 j e]
    · rw [List.getElem?_eq_none (by rw [fl_len]; omega), List.getElem?_eq_none (by rw [fl_len]; omega)]
section GKH
variable {X : Cx} {ps : Nat → Nat} {pc : Nat} {k kt kf : K} {cc : ByteArray} {own : String}
theorem xv_ref {a : Nat} (h : 0 < a) : xv X (.ref a) = .ref (xb X + a) := rv_pos h
theorem vp_inB {j : Int32} {n : Nat} (h : inB j n) : vp_in j n := vp_in_iff.mpr h
theorem gk_getI {c f i : Nat} {C : String} {T : u_T} (h : XM X cc own) (hc : CK c C T) (hf : f < nC c) (hv : ∀ base S a, fv base S a (tyC c f) f = .int (gI S a f)) (hd : decode cc pc = .ok (.getfield i, 3)) (hl : Cond.fieldLink own i (T f).1 (T f).2.1 (T f).2.2.1 ∈ T0) (hk : GK X ps (pc + 3) k) : GK X ps pc (o_getI c f k) := by
  intro ls st S hr
  obtain ⟨a, st, rfl, r1⟩ := tR_el hr
  obtain ⟨hka, r2⟩ := if_el r1
  obtain ⟨hm, hw⟩ := hk _ _ _ r2
  refine ⟨hm, fun H locs lm a1 a2 a3 a4 a5 => ?_⟩
  obtain ⟨p0, p1⟩ := a1.live hka (by have := hc.2.1; omega)
  have hw := hw H locs lm a1 a2 a3 a4 a5
  rw [List.map_cons, xv_ref p0]
  have he := wl_get (base := xb X) (ck := xk X) p0 p1
  rw [ce_obj hka hc.2.1] at he
  exact va_get h.1.ex h.by h.1.ts hc.2.2.1 h.ow h.1.tb.1 a1.1 (a - 1) he hc.1 f hf (h.1.ts _ hl) (fun _ z => z) (by rw [fl_get hf, hv]; rfl) hd hw
theorem gk_getL {c f i : Nat} {C : String} {T : u_T} (h : XM X cc own) (hc : CK c C T) (hf : f < nC c) (hv : ∀ base S a, fv base S a (tyC c f) f = .long (gL S a f)) (hd : decode cc pc = .ok (.getfield i, 3)) (hl : Cond.fieldLink own i (T f).1 (T f).2.1 (T f).2.2.1 ∈ T0) (hk : GK X ps (pc + 3) k) : GK X ps pc (o_getL c f k) := by
  intro ls st S hr
  obtain ⟨a, st, rfl, r1⟩ := tR_el hr
  obtain ⟨hka, r2⟩ := if_el r1
  obtain ⟨hm, hw⟩ := hk _ _ _ r2
  refine ⟨hm, fun H locs lm a1 a2 a3 a4 a5 => ?_⟩
  obtain ⟨p0, p1⟩ := a1.live hka (by have := hc.2.1; omega)
  have hw := hw H locs lm a1 a2 a3 a4 a5
  rw [List.map_cons, xv_ref p0]
  have he := wl_get (base := xb X) (ck := xk X) p0 p1
  rw [ce_obj hka hc.2.1] at he
  exact va_get h.1.ex h.by h.1.ts hc.2.2.1 h.ow h.1.tb.1 a1.1 (a - 1) he hc.1 f hf (h.1.ts _ hl) (fun _ z => z) (by rw [fl_get hf, hv]; rfl) hd hw
theorem gk_getR {c f i : Nat} {C : String} {T : u_T} (h : XM X cc own) (hc : CK c C T) (hf : f < nC c) (hv : ∀ base S a, fv base S a (tyC c f) f = rv base (gR S a f)) (hd : decode cc pc = .ok (.getfield i, 3)) (hl : Cond.fieldLink own i (T f).1 (T f).2.1 (T f).2.2.1 ∈ T0) (hk : GK X ps (pc + 3) k) : GK X ps pc (o_getR c f k) := by
  intro ls st S hr
  obtain ⟨a, st, rfl, r1⟩ := tR_el hr
  obtain ⟨hka, r2⟩ := if_el r1
  obtain ⟨hm, hw⟩ := hk _ _ _ r2
  refine ⟨hm, fun H locs lm a1 a2 a3 a4 a5 => ?_⟩
  obtain ⟨p0, p1⟩ := a1.live hka (by have := hc.2.1; omega)
  have hw := hw H locs lm a1 a2 a3 a4 a5
  rw [List.map_cons, xv_ref p0]
  have he := wl_get (base := xb X) (ck := xk X) p0 p1
  rw [ce_obj hka hc.2.1] at he
  exact va_get h.1.ex h.by h.1.ts hc.2.2.1 h.ow h.1.tb.1 a1.1 (a - 1) he hc.1 f hf (h.1.ts _ hl) (fun _ z => z) (by rw [fl_get hf, hv]; rfl) hd hw
/-- one slot of the cell a is new: the picture -/
theorem HR_set {base : Nat} {D : va_G} {ck : Nat → ClassId} {S S' : St} {H H1 : Heap} {a : Nat} {x : va_E} (h : HR base D ck S H) (h0 : 0 < a) (ha : a ≤ gZ S) (hz : gZ S' = gZ S) (hK : ∀ b, gK S' b = gK S b) (hN : ∀ b, gN S' b = gN S b) (h3 : ∀ b j, b ≠ a → gI S' b j = gI S b j) (h4 : ∀ b j, b ≠ a → gL S' b j = gL S b j) (h5 : ∀ b j, b ≠ a → gR S' b j = gR S b j) (hx : x = ce base ck S' a) (hP : va_P D vwCl ((wl base ck S).set (a - 1) (base + a, x)) H1) : HR base D ck S' H1 := by
  rw [wl_set (S' := S') hz h0 ha (fun b hb => ce_cong (hK b) (hN b) (fun j => h3 b j hb) (fun j => h4 b j hb) (fun j => h5 b j hb)) hx] at hP
  exact ⟨hP, fun b hb => by rw [hK]; exact h.2 b (by rwa [hz] at hb)⟩
theorem put_W {c f i : Nat} {C : String} {T : u_T} (h : XM X cc own) (hc : CK c C T) (hf : f < nC c) (hfin : (T f).2.2.2 = false ∨ ((T f).2.2.2 = true ∧ (xh X).name = "<init>" ∧ (T f).1 = own)) (hd : decode cc pc = .ok (.putfield i, 3)) (hl : Cond.fieldLink own i (T f).1 (T f).2.1 (T f).2.2.1 ∈ T0)
    {S S' : St} {a : Nat} {v : Value} (hka : gK S a = c) (hn : narrow (tyC c f) v = v) (hfit : fits (tyC c f) v = true) (hfv : fv (xb X) S' a (tyC c f) f = v) (hz : gZ S' = gZ S) (hK : ∀ b, gK S' b = gK S b) (hN : ∀ b, gN S' b = gN S b) (h3 : ∀ b j, (b ≠ a ∨ j ≠ f) → gI S' b j = gI S b j) (h4 : ∀ b j, (b ≠ a ∨ j ≠ f) → gL S' b j = gL S b j) (h5 : ∀ b j, (b ≠ a ∨ j ≠ f) → gR S' b j = gR S b j)
    {H : Heap} {locs : List Loc} {lm : Array Slot} {cells slots : Nat} {rest : List Value} (a1 : HR (xb X) (xD X) (xk X) S H) (a2 : va_S (xA X) (xs X).heap H locs)
    (hw : ∀ (H1 : Heap) (locs1 : List Loc), HR (xb X) (xD X) (xk X) S' H1 → va_S (xA X) (xs X).heap H1 locs1 → W (xp X) (xl X) (xe X) (xR X) (xs X) (xm X) (xa X) (xw X) (xh X) (xc X) H1 locs1 cells slots (xQ X) (F0 (xm X) (pc + 3) lm rest)) :
    W (xp X) (xl X) (xe X) (xR X) (xs X) (xm X) (xa X) (xw X) (xh X) (xc X) H locs cells slots (xQ X) (F0 (xm X) pc lm (v :: .ref (xb X + a) :: rest)) := by
  obtain ⟨p0, p1⟩ := a1.live hka (by have := hc.2.1; omega)
  have he := wl_get (base := xb X) (ck := xk X) p0 p1
  rw [ce_obj hka hc.2.1] at he
  have hx : (Sum.inr (c, (fl (xb X) S a c).set f v) : va_E) = ce (xb X) (xk X) S' a := by
    rw [ce_obj (c := c) (by rw [hK]; exact hka) hc.2.1, fl_set hfv (fun j hj => h3 a j (Or.inr hj)) (fun j hj => h4 a j (Or.inr hj)) (fun j hj => h5 a j (Or.inr hj))]
  have hHR : ∀ H1, va_P (xD X) vwCl ((wl (xb X) (xk X) S).set (a - 1) (xb X + a, .inr (c, (fl (xb X) S a c).set f v))) H1 → HR (xb X) (xD X) (xk X) S' H1 := fun H1 hP => HR_set a1 p0 p1 hz hK hN (fun b j hb => h3 b j (Or.inl hb)) (fun b j hb => h4 b j (Or.inl hb)) (fun b j hb => h5 b j (Or.inl hb)) hx hP
  rcases hfin with hfin | ⟨hfin, hin2, hdecl⟩
  · exact va_put h.1.ex h.by h.1.ts hc.2.2.1 (tyC c) hc.2.2.2.1 hc.2.2.2.2 h.ow h.1.tb.1 a1.1 (wl_D _ _ _) a2 (a - 1) he hc.1 f hf (h.1.ts _ hl) (fun _ z => z) hfin (hc.2.2.2.1 f hf) hn hfit (by rw [fl_len]; exact hf) hd (fun H1 locs1 hP _ hS => hw H1 locs1 (hHR H1 hP) hS)
  · exact va_putF h.1.ex h.by h.1.ts hc.2.2.1 (tyC c) hc.2.2.2.1 hc.2.2.2.2 h.ow h.1.tb.1 a1.1 (wl_D _ _ _) a2 (a - 1) he hc.1 f hf (h.1.ts _ hl) (fun _ z => z) hfin hin2 hdecl (hc.2.2.2.1 f hf) hn hfit (by rw [fl_len]; exact hf) hd (fun H1 locs1 hP _ hS => hw H1 locs1 (hHR H1 hP) hS)
abbrev Fin_ok (X : Cx) (own : String) (T : u_T) (f : Nat) : Prop := (T f).2.2.2 = false ∨ ((T f).2.2.2 = true ∧ (xh X).name = "<init>" ∧ (T f).1 = own)
theorem u2_ne {α : Type} {f : Nat → Nat → α} {a k : Nat} {v : α} {b j : Nat} (h : b ≠ a ∨ j ≠ k) : u2 f a k v b j = f b j := by
  unfold u2
  rw [if_neg]
  rintro ⟨h1, h2⟩
  rcases h with h | h
  · exact h h1
  · exact h h2
theorem u2_eq {α : Type} {f : Nat → Nat → α} {a k : Nat} {v : α} : u2 f a k v a k = v := by
  unfold u2; rw [if_pos ⟨rfl, rfl⟩]
theorem gk_putI {c f i : Nat} {C : String} {T : u_T} (h : XM X cc own) (hc : CK c C T) (hf : f < nC c) (hty : tyC c f = .int) (hfin : Fin_ok X own T f) (hd : decode cc pc = .ok (.putfield i, 3)) (hl : Cond.fieldLink own i (T f).1 (T f).2.1 (T f).2.2.1 ∈ T0) (hk : GK X ps (pc + 3) k) : GK X ps pc (o_putI c f k) := by
  intro ls st S hr
  obtain ⟨v, st, rfl, r1⟩ := tI_el hr
  obtain ⟨a, st, rfl, r2⟩ := tR_el r1
  obtain ⟨hka, r3⟩ := if_el r2
  obtain ⟨hm, hw⟩ := hk _ _ _ r3
  refine ⟨hm, fun H locs lm a1 a2 a3 a4 a5 => ?_⟩
  rw [List.map_cons, List.map_cons, xv_ref (a1.live hka (by have := hc.2.1; omega)).1]
  exact put_W h hc hf hfin hd hl (S' := pI S a f v) hka (by rw [hty]; rfl) (by rw [hty]; rfl) (by rw [hty]; show Value.int (u2 S.1 a f v a f) = _; rw [u2_eq]; rfl) rfl (fun _ => rfl) (fun _ => rfl) (fun b j hb => u2_ne hb) (fun _ _ _ => rfl) (fun _ _ _ => rfl) a1 a2 (fun H1 locs1 b1 b2 => hw H1 locs1 lm b1 b2 a3 a4 a5)
theorem gk_putZ {c f i : Nat} {C : String} {T : u_T} (h : XM X cc own) (hc : CK c C T) (hf : f < nC c) (hty : tyC c f = .boolean) (hfin : Fin_ok X own T f) (hd : decode cc pc = .ok (.putfield i, 3)) (hl : Cond.fieldLink own i (T f).1 (T f).2.1 (T f).2.2.1 ∈ T0) (hk : GK X ps (pc + 3) k) : GK X ps pc (o_putZ c f k) := by
  intro ls st S hr
  obtain ⟨v, st, rfl, r1⟩ := tI_el hr
  obtain ⟨a, st, rfl, r2⟩ := tR_el r1
  obtain ⟨⟨hka, hv⟩, r3⟩ := if_el r2
  obtain ⟨hm, hw⟩ := hk _ _ _ r3
  refine ⟨hm, fun H locs lm a1 a2 a3 a4 a5 => ?_⟩
  rw [List.map_cons, List.map_cons, xv_ref (a1.live hka (by have := hc.2.1; omega)).1]
  exact put_W h hc hf hfin hd hl (S' := pI S a f v) (v := .int v) hka (by rw [hty]; rcases hv with rfl | rfl <;> decide) (by rw [hty]; rcases hv with rfl | rfl <;> decide) (by rw [hty]; show Value.int (u2 S.1 a f v a f) = _; rw [u2_eq]) rfl (fun _ => rfl) (fun _ => rfl) (fun b j hb => u2_ne hb) (fun _ _ _ => rfl) (fun _ _ _ => rfl) a1 a2 (fun H1 locs1 b1 b2 => hw H1 locs1 lm b1 b2 a3 a4 a5)
theorem gk_putL {c f i : Nat} {C : String} {T : u_T} (h : XM X cc own) (hc : CK c C T) (hf : f < nC c) (hty : tyC c f = .long) (hfin : Fin_ok X own T f) (hd : decode cc pc = .ok (.putfield i, 3)) (hl : Cond.fieldLink own i (T f).1 (T f).2.1 (T f).2.2.1 ∈ T0) (hk : GK X ps (pc + 3) k) : GK X ps pc (o_putL c f k) := by
  intro ls st S hr
  obtain ⟨v, st, rfl, r1⟩ := tL_el hr
  obtain ⟨a, st, rfl, r2⟩ := tR_el r1
  obtain ⟨hka, r3⟩ := if_el r2
  obtain ⟨hm, hw⟩ := hk _ _ _ r3
  refine ⟨hm, fun H locs lm a1 a2 a3 a4 a5 => ?_⟩
  rw [List.map_cons, List.map_cons, xv_ref (a1.live hka (by have := hc.2.1; omega)).1]
  exact put_W h hc hf hfin hd hl (S' := pL S a f v) hka (by rw [hty]; rfl) (by rw [hty]; rfl) (by rw [hty]; show Value.long (u2 S.2.1 a f v a f) = _; rw [u2_eq]; rfl) rfl (fun _ => rfl) (fun _ => rfl) (fun _ _ _ => rfl) (fun b j hb => u2_ne hb) (fun _ _ _ => rfl) a1 a2 (fun H1 locs1 b1 b2 => hw H1 locs1 lm b1 b2 a3 a4 a5)
theorem gk_putR {c f i : Nat} {C : String} {T : u_T} (h : XM X cc own) (hc : CK c C T) (hf : f < nC c) (hty : (∃ n, tyC c f = .object n) ∨ ∃ t, tyC c f = .array t) (hfin : Fin_ok X own T f) (hd : decode cc pc = .ok (.putfield i, 3)) (hl : Cond.fieldLink own i (T f).1 (T f).2.1 (T f).2.2.1 ∈ T0) (hk : GK X ps (pc + 3) k) : GK X ps pc (o_putR c f k) := by
  intro ls st S hr
  obtain ⟨v, st, rfl, r1⟩ := tR_el hr
  obtain ⟨a, st, rfl, r2⟩ := tR_el r1
  obtain ⟨hka, r3⟩ := if_el r2
  obtain ⟨hm, hw⟩ := hk _ _ _ r3
  refine ⟨hm, fun H locs lm a1 a2 a3 a4 a5 => ?_⟩
  rw [List.map_cons, List.map_cons, xv_ref (a1.live hka (by have := hc.2.1; omega)).1]
  refine put_W h hc hf hfin hd hl (S' := pR S a f v) hka ?_ ?_ ?_ rfl (fun _ => rfl) (fun _ => rfl) (fun _ _ _ => rfl) (fun _ _ _ => rfl) (fun b j hb => u2_ne hb) a1 a2 (fun H1 locs1 b1 b2 => hw H1 locs1 lm b1 b2 a3 a4 a5)
  · rcases hty with ⟨n, e⟩ | ⟨t, e⟩ <;> rw [e] <;> cases v <;> rfl
  · rcases hty with ⟨n, e⟩ | ⟨t, e⟩ <;> rw [e] <;> cases v <;> rfl
  · rcases hty with ⟨n, e⟩ | ⟨t, e⟩ <;> rw [e] <;> show rv (xb X) (u2 S.2.2.1 a f v a f) = _ <;> rw [u2_eq] <;> rfl
end GKH
end
section
/-! the rows of arrays, of what is made, and of the end -/
section GKA
variable {X : Cx} {ps : Nat → Nat} {pc : Nat} {k kt kf : K} {cc : ByteArray} {own : String}
theorem tys_at (ck : Nat → ClassId) (t : Nat) (ht : t < 6) : (tysC ck)[t]? = some (ck t, tyK t) := by
  rcases (show t = 0 ∨ t = 1 ∨ t = 2 ∨ t = 3 ∨ t = 4 ∨ t = 5 by omega) with rfl | rfl | rfl | rfl | rfl | rfl <;> rfl
theorem arr_at {S : St} {H : Heap} {a t : Nat} (a1 : HR (xb X) (xD X) (xk X) S H) (hka : gK S a = 100 + t) (ht : t < 6) : 0 < a ∧ a ≤ gZ S ∧ (wl (xb X) (xk X) S)[a - 1]? = some (xb X + a, .inl (xk X t, (gN S a, af (xb X) S a t))) := by
  obtain ⟨p0, p1⟩ := a1.live hka (by omega)
  have he := wl_get (base := xb X) (ck := xk X) p0 p1
  rw [ce_arr hka] at he
  exact ⟨p0, p1, he⟩
theorem af_i {base : Nat} {S : St} {a t : Nat} (h1 : t ≠ 1) (h5 : t ≠ 5) : af base S a t = .inl (gI S a) := by
  unfold af; rw [if_neg h1, if_neg h5]
theorem gk_ald0 (h : XM X cc own) (hd : decode cc pc = .ok (.iaload, 1)) (hk : GK X ps (pc + 1) k) : GK X ps pc (o_iald 0 k) := by
  intro ls st S hr
  obtain ⟨j, st, rfl, r1⟩ := tI_el hr
  obtain ⟨a, st, rfl, r2⟩ := tR_el r1
  obtain ⟨⟨hka, hj⟩, r3⟩ := if_el r2
  obtain ⟨hm, hw⟩ := hk _ _ _ r3
  refine ⟨hm, fun H locs lm a1 a2 a3 a4 a5 => ?_⟩
  obtain ⟨p0, p1, he⟩ := arr_at a1 hka (by omega)
  rw [af_i (by omega) (by omega)] at he
  rw [List.map_cons, List.map_cons, xv_ref p0]
  exact va_iald h.1.ex h.by h.1.tb.1 a1.1 (a - 1) 0 he (tys_at _ 0 (by omega)) (vp_inB hj) hd (hw H locs lm a1 a2 a3 a4 a5)
theorem gk_ast0 (h : XM X cc own) (hd : decode cc pc = .ok (.iastore, 1)) (hk : GK X ps (pc + 1) k) : GK X ps pc (o_iast 0 (fun x => x) k) := by
  intro ls st S hr
  obtain ⟨v, st, rfl, r1⟩ := tI_el hr
  obtain ⟨j, st, rfl, r2⟩ := tI_el r1
  obtain ⟨a, st, rfl, r3⟩ := tR_el r2
  obtain ⟨⟨hka, hj⟩, r4⟩ := if_el r3
  obtain ⟨hm, hw⟩ := hk _ _ _ r4
  refine ⟨hm, fun H locs lm a1 a2 a3 a4 a5 => ?_⟩
  obtain ⟨p0, p1, he⟩ := arr_at a1 hka (by omega)
  rw [af_i (by omega) (by omega)] at he
  rw [List.map_cons, List.map_cons, List.map_cons, xv_ref p0]
  refine va_iast h.1.ex h.by h.1.tb.1 a1.1 (wl_D _ _ _) a2 (a - 1) 0 he (tys_at _ 0 (by omega)) (vp_inB hj) hd (fun H1 locs1 hP _ hS => hw H1 locs1 lm ?_ hS a3 a4 a5)
  refine HR_set a1 p0 p1 rfl (fun _ => rfl) (fun _ => rfl) (fun b i hb => u2_ne (Or.inl hb)) (fun _ _ _ => rfl) (fun _ _ _ => rfl) ?_ hP
  refine Eq.trans ?_ (ce_arr (S := pI S a j.toNatClampNeg _) (t := 0) (by exact hka)).symm
  rw [af_i (by omega) (by omega)]
  show (Sum.inl (xk X 0, gN S a, Sum.inl _) : va_E) = Sum.inl (xk X 0, gN S a, Sum.inl _)
  congr 4
  funext q
  show upd (gI S a) j.toNatClampNeg _ q = u2 S.1 a j.toNatClampNeg _ a q
  unfold upd u2 gI
  by_cases e : q = j.toNatClampNeg
  · rw [if_pos e, if_pos ⟨rfl, e⟩]
  · rw [if_neg e, if_neg (fun z => e z.2)]
theorem gk_ald2 (h : XM X cc own) (hd : decode cc pc = .ok (.caload, 1)) (hk : GK X ps (pc + 1) k) : GK X ps pc (o_iald 2 k) := by
  intro ls st S hr
  obtain ⟨j, st, rfl, r1⟩ := tI_el hr
  obtain ⟨a, st, rfl, r2⟩ := tR_el r1
  obtain ⟨⟨hka, hj⟩, r3⟩ := if_el r2
  obtain ⟨hm, hw⟩ := hk _ _ _ r3
  refine ⟨hm, fun H locs lm a1 a2 a3 a4 a5 => ?_⟩
  obtain ⟨p0, p1, he⟩ := arr_at a1 hka (by omega)
  rw [af_i (by omega) (by omega)] at he
  rw [List.map_cons, List.map_cons, xv_ref p0]
  exact va_cald h.1.ex h.by h.1.tb.1 a1.1 (a - 1) 2 he (tys_at _ 2 (by omega)) (vp_inB hj) hd (hw H locs lm a1 a2 a3 a4 a5)
theorem gk_ast2 (h : XM X cc own) (hd : decode cc pc = .ok (.castore, 1)) (hk : GK X ps (pc + 1) k) : GK X ps pc (o_iast 2 (fun x => vp_nar .char x) k) := by
  intro ls st S hr
  obtain ⟨v, st, rfl, r1⟩ := tI_el hr
  obtain ⟨j, st, rfl, r2⟩ := tI_el r1
  obtain ⟨a, st, rfl, r3⟩ := tR_el r2
  obtain ⟨⟨hka, hj⟩, r4⟩ := if_el r3
  obtain ⟨hm, hw⟩ := hk _ _ _ r4
  refine ⟨hm, fun H locs lm a1 a2 a3 a4 a5 => ?_⟩
  obtain ⟨p0, p1, he⟩ := arr_at a1 hka (by omega)
  rw [af_i (by omega) (by omega)] at he
  rw [List.map_cons, List.map_cons, List.map_cons, xv_ref p0]
  refine va_cast h.1.ex h.by h.1.tb.1 a1.1 (wl_D _ _ _) a2 (a - 1) 2 he (tys_at _ 2 (by omega)) (vp_inB hj) hd (fun H1 locs1 hP _ hS => hw H1 locs1 lm ?_ hS a3 a4 a5)
  refine HR_set a1 p0 p1 rfl (fun _ => rfl) (fun _ => rfl) (fun b i hb => u2_ne (Or.inl hb)) (fun _ _ _ => rfl) (fun _ _ _ => rfl) ?_ hP
  refine Eq.trans ?_ (ce_arr (S := pI S a j.toNatClampNeg _) (t := 2) (by exact hka)).symm
  rw [af_i (by omega) (by omega)]
  show (Sum.inl (xk X 2, gN S a, Sum.inl _) : va_E) = Sum.inl (xk X 2, gN S a, Sum.inl _)
  congr 4
  funext q
  show upd (gI S a) j.toNatClampNeg _ q = u2 S.1 a j.toNatClampNeg _ a q
  unfold upd u2 gI
  by_cases e : q = j.toNatClampNeg
  · rw [if_pos e, if_pos ⟨rfl, e⟩]
  · rw [if_neg e, if_neg (fun z => e z.2)]
theorem gk_ald3 (h : XM X cc own) (hd : decode cc pc = .ok (.baload, 1)) (hk : GK X ps (pc + 1) k) : GK X ps pc (o_iald 3 k) := by
  intro ls st S hr
  obtain ⟨j, st, rfl, r1⟩ := tI_el hr
  obtain ⟨a, st, rfl, r2⟩ := tR_el r1
  obtain ⟨⟨hka, hj⟩, r3⟩ := if_el r2
  obtain ⟨hm, hw⟩ := hk _ _ _ r3
  refine ⟨hm, fun H locs lm a1 a2 a3 a4 a5 => ?_⟩
  obtain ⟨p0, p1, he⟩ := arr_at a1 hka (by omega)
  rw [af_i (by omega) (by omega)] at he
  rw [List.map_cons, List.map_cons, xv_ref p0]
  exact va_bald h.1.ex h.by h.1.tb.1 a1.1 (a - 1) 3 he (tys_at _ 3 (by omega)) (vp_inB hj) hd (hw H locs lm a1 a2 a3 a4 a5)
theorem gk_ast3 (h : XM X cc own) (hd : decode cc pc = .ok (.bastore, 1)) (hk : GK X ps (pc + 1) k) : GK X ps pc (o_iast 3 (fun x => vp_nar .byte x) k) := by
  intro ls st S hr
  obtain ⟨v, st, rfl, r1⟩ := tI_el hr
  obtain ⟨j, st, rfl, r2⟩ := tI_el r1
  obtain ⟨a, st, rfl, r3⟩ := tR_el r2
  obtain ⟨⟨hka, hj⟩, r4⟩ := if_el r3
  obtain ⟨hm, hw⟩ := hk _ _ _ r4
  refine ⟨hm, fun H locs lm a1 a2 a3 a4 a5 => ?_⟩
  obtain ⟨p0, p1, he⟩ := arr_at a1 hka (by omega)
  rw [af_i (by omega) (by omega)] at he
  rw [List.map_cons, List.map_cons, List.map_cons, xv_ref p0]
  refine va_bast h.1.ex h.by h.1.tb.1 a1.1 (wl_D _ _ _) a2 (a - 1) 3 he (tys_at _ 3 (by omega)) (vp_inB hj) hd (fun H1 locs1 hP _ hS => hw H1 locs1 lm ?_ hS a3 a4 a5)
  refine HR_set a1 p0 p1 rfl (fun _ => rfl) (fun _ => rfl) (fun b i hb => u2_ne (Or.inl hb)) (fun _ _ _ => rfl) (fun _ _ _ => rfl) ?_ hP
  refine Eq.trans ?_ (ce_arr (S := pI S a j.toNatClampNeg _) (t := 3) (by exact hka)).symm
  rw [af_i (by omega) (by omega)]
  show (Sum.inl (xk X 3, gN S a, Sum.inl _) : va_E) = Sum.inl (xk X 3, gN S a, Sum.inl _)
  congr 4
  funext q
  show upd (gI S a) j.toNatClampNeg _ q = u2 S.1 a j.toNatClampNeg _ a q
  unfold upd u2 gI
  by_cases e : q = j.toNatClampNeg
  · rw [if_pos e, if_pos ⟨rfl, e⟩]
  · rw [if_neg e, if_neg (fun z => e z.2)]
theorem gk_ald4 (h : XM X cc own) (hd : decode cc pc = .ok (.baload, 1)) (hk : GK X ps (pc + 1) k) : GK X ps pc (o_iald 4 k) := by
  intro ls st S hr
  obtain ⟨j, st, rfl, r1⟩ := tI_el hr
  obtain ⟨a, st, rfl, r2⟩ := tR_el r1
  obtain ⟨⟨hka, hj⟩, r3⟩ := if_el r2
  obtain ⟨hm, hw⟩ := hk _ _ _ r3
  refine ⟨hm, fun H locs lm a1 a2 a3 a4 a5 => ?_⟩
  obtain ⟨p0, p1, he⟩ := arr_at a1 hka (by omega)
  rw [af_i (by omega) (by omega)] at he
  rw [List.map_cons, List.map_cons, xv_ref p0]
  exact va_zald h.1.ex h.by h.1.tb.1 a1.1 (a - 1) 4 he (tys_at _ 4 (by omega)) (vp_inB hj) hd (hw H locs lm a1 a2 a3 a4 a5)
theorem gk_ast4 (h : XM X cc own) (hd : decode cc pc = .ok (.bastore, 1)) (hk : GK X ps (pc + 1) k) : GK X ps pc (o_iast 4 (fun x => vp_nar .boolean x) k) := by
  intro ls st S hr
  obtain ⟨v, st, rfl, r1⟩ := tI_el hr
  obtain ⟨j, st, rfl, r2⟩ := tI_el r1
  obtain ⟨a, st, rfl, r3⟩ := tR_el r2
  obtain ⟨⟨hka, hj⟩, r4⟩ := if_el r3
  obtain ⟨hm, hw⟩ := hk _ _ _ r4
  refine ⟨hm, fun H locs lm a1 a2 a3 a4 a5 => ?_⟩
  obtain ⟨p0, p1, he⟩ := arr_at a1 hka (by omega)
  rw [af_i (by omega) (by omega)] at he
  rw [List.map_cons, List.map_cons, List.map_cons, xv_ref p0]
  refine va_zast h.1.ex h.by h.1.tb.1 a1.1 (wl_D _ _ _) a2 (a - 1) 4 he (tys_at _ 4 (by omega)) (vp_inB hj) hd (fun H1 locs1 hP _ hS => hw H1 locs1 lm ?_ hS a3 a4 a5)
  refine HR_set a1 p0 p1 rfl (fun _ => rfl) (fun _ => rfl) (fun b i hb => u2_ne (Or.inl hb)) (fun _ _ _ => rfl) (fun _ _ _ => rfl) ?_ hP
  refine Eq.trans ?_ (ce_arr (S := pI S a j.toNatClampNeg _) (t := 4) (by exact hka)).symm
  rw [af_i (by omega) (by omega)]
  show (Sum.inl (xk X 4, gN S a, Sum.inl _) : va_E) = Sum.inl (xk X 4, gN S a, Sum.inl _)
  congr 4
  funext q
  show upd (gI S a) j.toNatClampNeg _ q = u2 S.1 a j.toNatClampNeg _ a q
  unfold upd u2 gI
  by_cases e : q = j.toNatClampNeg
  · rw [if_pos e, if_pos ⟨rfl, e⟩]
  · rw [if_neg e, if_neg (fun z => e z.2)]
theorem gk_lald (h : XM X cc own) (hd : decode cc pc = .ok (.laload, 1)) (hk : GK X ps (pc + 1) k) : GK X ps pc (o_lald k) := by
  intro ls st S hr
  obtain ⟨j, st, rfl, r1⟩ := tI_el hr
  obtain ⟨a, st, rfl, r2⟩ := tR_el r1
  obtain ⟨⟨hka, hj⟩, r3⟩ := if_el r2
  obtain ⟨hm, hw⟩ := hk _ _ _ r3
  refine ⟨hm, fun H locs lm a1 a2 a3 a4 a5 => ?_⟩
  obtain ⟨p0, p1, he⟩ := arr_at (t := 1) a1 hka (by omega)
  rw [List.map_cons, List.map_cons, xv_ref p0]
  exact va_lald (f := gL S a) h.1.ex h.by h.1.tb.1 a1.1 (a - 1) 1 he (tys_at _ 1 (by omega)) (vp_inB hj) hd (hw H locs lm a1 a2 a3 a4 a5)
theorem gk_last (h : XM X cc own) (hd : decode cc pc = .ok (.lastore, 1)) (hk : GK X ps (pc + 1) k) : GK X ps pc (o_last k) := by
  intro ls st S hr
  obtain ⟨v, st, rfl, r1⟩ := tL_el hr
  obtain ⟨j, st, rfl, r2⟩ := tI_el r1
  obtain ⟨a, st, rfl, r3⟩ := tR_el r2
  obtain ⟨⟨hka, hj⟩, r4⟩ := if_el r3
  obtain ⟨hm, hw⟩ := hk _ _ _ r4
  refine ⟨hm, fun H locs lm a1 a2 a3 a4 a5 => ?_⟩
  obtain ⟨p0, p1, he⟩ := arr_at (t := 1) a1 hka (by omega)
  rw [List.map_cons, List.map_cons, List.map_cons, xv_ref p0]
  refine va_last (f := gL S a) h.1.ex h.by h.1.tb.1 a1.1 (wl_D _ _ _) a2 (a - 1) 1 he (tys_at _ 1 (by omega)) (vp_inB hj) hd (fun H1 locs1 hP _ hS => hw H1 locs1 lm ?_ hS a3 a4 a5)
  refine HR_set a1 p0 p1 rfl (fun _ => rfl) (fun _ => rfl) (fun _ _ _ => rfl) (fun b i hb => u2_ne (Or.inl hb)) (fun _ _ _ => rfl) ?_ hP
  refine Eq.trans ?_ (ce_arr (S := pL S a j.toNatClampNeg _) (t := 1) (by exact hka)).symm
  show (Sum.inl (xk X 1, gN S a, Sum.inr (Sum.inl _)) : va_E) = Sum.inl (xk X 1, gN S a, Sum.inr (Sum.inl _))
  congr 5
  funext q
  show vp_updL (gL S a) j.toNatClampNeg _ q = u2 S.2.1 a j.toNatClampNeg _ a q
  unfold vp_updL u2 gL
  by_cases e : q = j.toNatClampNeg
  · rw [if_pos e, if_pos ⟨rfl, e⟩]
  · rw [if_neg e, if_neg (fun z => e z.2)]
theorem gk_aald (h : XM X cc own) (hd : decode cc pc = .ok (.aaload, 1)) (hk : GK X ps (pc + 1) k) : GK X ps pc (o_aald k) := by
  intro ls st S hr
  obtain ⟨j, st, rfl, r1⟩ := tI_el hr
  obtain ⟨a, st, rfl, r2⟩ := tR_el r1
  obtain ⟨⟨hka, hj⟩, r3⟩ := if_el r2
  obtain ⟨hm, hw⟩ := hk _ _ _ r3
  refine ⟨hm, fun H locs lm a1 a2 a3 a4 a5 => ?_⟩
  obtain ⟨p0, p1, he⟩ := arr_at (t := 5) a1 hka (by omega)
  rw [List.map_cons, List.map_cons, xv_ref p0]
  have hw := hw H locs lm a1 a2 a3 a4 a5
  rw [List.map_cons, show xv X (.ref (gR S a j.toNatClampNeg)) = va_rf (ro (xb X) (gR S a j.toNatClampNeg)) from (rv_ro _ _).symm] at hw
  exact va_aldq (f := fun q => ro (xb X) (gR S a q)) h.1.ex h.by h.1.tb.1 a1.1 (a - 1) 5 he (tys_at _ 5 (by omega)) (vp_inB hj) hd hw
theorem gk_aast (h : XM X cc own) (hd : decode cc pc = .ok (.aastore, 1)) (hk : GK X ps (pc + 1) k) : GK X ps pc (o_aast k) := by
  intro ls st S hr
  obtain ⟨v, st, rfl, r1⟩ := tR_el hr
  obtain ⟨j, st, rfl, r2⟩ := tI_el r1
  obtain ⟨a, st, rfl, r3⟩ := tR_el r2
  obtain ⟨⟨hka, hj, hkv⟩, r4⟩ := if_el r3
  obtain ⟨hm, hw⟩ := hk _ _ _ r4
  refine ⟨hm, fun H locs lm a1 a2 a3 a4 a5 => ?_⟩
  obtain ⟨p0, p1, he⟩ := arr_at (t := 5) a1 hka (by omega)
  obtain ⟨v0, v1⟩ := a1.live hkv (by omega)
  have hv := wl_get (base := xb X) (ck := xk X) v0 v1
  rw [ce_obj hkv (by omega)] at hv
  rw [List.map_cons, List.map_cons, List.map_cons, xv_ref p0, xv_ref v0]
  refine va_astq (f := fun q => ro (xb X) (gR S a q)) (r := (RX1, TX1, 3)) h.1.ex h.by h.1.tb.1 a1.1 (wl_D _ _ _) a2 (a - 1) 5 (v - 1) 0 he (tys_at _ 5 (by omega)) hv rfl (vp_inB hj) hd (fun H1 locs1 hP _ hS => hw H1 locs1 lm ?_ hS a3 a4 a5)
  refine HR_set a1 p0 p1 rfl (fun _ => rfl) (fun _ => rfl) (fun _ _ _ => rfl) (fun _ _ _ => rfl) (fun b i hb => u2_ne (Or.inl hb)) ?_ hP
  refine Eq.trans ?_ (ce_arr (S := pR S a j.toNatClampNeg _) (t := 5) (by exact hka)).symm
  show (Sum.inl (xk X 5, gN S a, Sum.inr (Sum.inr (Sum.inr (Sum.inr _)))) : va_E) = Sum.inl (xk X 5, gN S a, Sum.inr (Sum.inr (Sum.inr (Sum.inr _))))
  congr 7
  funext q
  show va_up (fun q => ro (xb X) (gR S a q)) j.toNatClampNeg (some (xb X + v)) q = ro (xb X) (u2 S.2.2.1 a j.toNatClampNeg v a q)
  unfold va_up u2 gR
  by_cases e : q = j.toNatClampNeg
  · rw [if_pos e, if_pos ⟨rfl, e⟩]
    cases v with
    | zero => exact absurd v0 (Nat.lt_irrefl 0)
    | succ v => rfl
  · rw [if_neg e, if_neg (fun z => e z.2)]
theorem gk_alen (h : XM X cc own) (hd : decode cc pc = .ok (.arraylength, 1)) (hk : GK X ps (pc + 1) k) : GK X ps pc (o_alen k) := by
  intro ls st S hr
  obtain ⟨a, st, rfl, r1⟩ := tR_el hr
  obtain ⟨⟨hka, hkb⟩, r2⟩ := if_el r1
  obtain ⟨hm, hw⟩ := hk _ _ _ r2
  refine ⟨hm, fun H locs lm a1 a2 a3 a4 a5 => ?_⟩
  obtain ⟨t, ht⟩ : ∃ t, gK S a = 100 + t := ⟨gK S a - 100, by omega⟩
  obtain ⟨p0, p1, he⟩ := arr_at a1 ht (by omega)
  rw [List.map_cons, xv_ref p0]
  exact va_alen h.1.ex h.by h.1.tb.1 a1.1 (a - 1) t he (tys_at _ t (by omega)) rfl hd (hw H locs lm a1 a2 a3 a4 a5)
/-- what is new: the picture -/
theorem HR_new {base : Nat} {D : va_G} {ck : Nat → ClassId} {S S' : St} {H1 : Heap} {c : Nat} {x : va_E} {H : Heap} (h : HR base D ck S H) (hz : gZ S' = gZ S + 1) (hK : ∀ b, gK S' b = if b = gZ S + 1 then c else gK S b) (hN : ∀ b, b ≠ gZ S + 1 → gN S' b = gN S b) (h3 : ∀ b j, b ≠ gZ S + 1 → gI S' b j = gI S b j) (h4 : ∀ b j, b ≠ gZ S + 1 → gL S' b j = gL S b j) (h5 : ∀ b j, b ≠ gZ S + 1 → gR S' b j = gR S b j) (hx : x = ce base ck S' (gZ S + 1)) (hP : va_P D vwCl (wl base ck S ++ [(base + (gZ S + 1), x)]) H1) : HR base D ck S' H1 := by
  rw [wl_push (S' := S') hz (fun b hb => by
    have e : b ≠ gZ S + 1 := by omega
    exact ce_cong (by rw [hK, if_neg e]) (hN b e) (fun j => h3 b j e) (fun j => h4 b j e) (fun j => h5 b j e)) hx] at hP
  refine ⟨hP, fun b hb => ?_⟩
  rw [hz] at hb
  rw [hK, if_neg (by omega)]
  exact h.2 b (by omega)
/-- the place of a new cell: the next one -/
theorem new_at {S : St} {H H1 : Heap} {q : Nat} {x : va_E} (h : XO X) (a1 : HR (xb X) (xD X) (xk X) S H) (a4 : gZ (x0 X) ≤ gZ S) (hP : va_P (xD X) vwCl (wl (xb X) (xk X) S ++ [(q, x)]) H1) (hD : va_D (xA X) (wl (xb X) (xk X) S ++ [(q, x)])) (hs : H1.size ≤ (xs X).heap.size + (gZ S - gZ (x0 X) + 1)) : q = xb X + (gZ S + 1) := by
  have hsz := h.sz
  have hlast : (wl (xb X) (xk X) S ++ [(q, x)])[gZ S]? = some (q, x) := by
    rw [List.getElem?_append_right (by rw [wl_len]; exact Nat.le_refl _), wl_len, Nat.sub_self]; rfl
  have hlt : q < H1.size := (hP _ _ hlast).lt
  have hA : xb X + 1 ≤ q := hD.2 _ _ hlast
  have hq : q ≤ xb X + 1 + gZ S := by omega
  by_cases e : q = xb X + (gZ S + 1)
  · exact e
  · exfalso
    have h1 : 0 < q - xb X := by omega
    have h2 : q - xb X ≤ gZ S := by omega
    have hg := wl_get (base := xb X) (ck := xk X) h1 h2
    have hg2 : (wl (xb X) (xk X) S ++ [(q, x)])[q - xb X - 1]? = some (xb X + (q - xb X), ce (xb X) (xk X) S (q - xb X)) := by
      rw [List.getElem?_append_left (by rw [wl_len]; omega)]; exact hg
    have := hD.1 _ _ _ _ hg2 hlast (by show xb X + (q - xb X) = q; omega)
    omega
theorem A_new (h : XO X) : ∀ q, (xs X).heap.size ≤ q → xA X q := fun q hq => by
  have := h.sz
  show xb X + 1 ≤ q
  omega
theorem gk_new {c i : Nat} {C : String} {T : u_T} (h : XM X cc own) (hc : CK c C T) (hd : decode cc pc = .ok (.new i, 3)) (h1 : Cond.classLink own i C ∈ T0) (h2 : Cond.instantiable C (nC c) ∈ T0) (h3 : Cond.initialized C ∈ T0) (hdf : ∀ base j, j < nC c → defaultValue (tyC c j) = fv base (nw (fun _ _ => 0, fun _ _ => 0, fun _ _ => 0, fun _ => (0, 0), 0, 0) c (nC c)) 1 (tyC c j) j) (hk : GK X ps (pc + 3) k) : GK X ps pc (o_new c k) := by
  intro ls st S hr
  obtain ⟨hm, hw⟩ := hk _ _ _ hr
  have hm' : gZ S + 1 ≤ gZ (xf X) ∧ gU S + nC c ≤ gU (xf X) := hm
  refine ⟨⟨by omega, by omega⟩, fun H locs lm a1 a2 a3 a4 a5 => ?_⟩
  have hrm := h.1.rm
  have hz0 : ∀ j, j < nC c → defaultValue (tyC c j) = fv (xb X) (nw S c (nC c)) (gZ S + 1) (tyC c j) j := fun j hj => by
    rw [hdf (xb X) j hj]
    unfold fv
    simp only [gI_nw, gL_nw, gR_nw, if_pos rfl]
    rfl
  refine va_new h.1.ex h.by h.1.ts hc.2.2.1 (tyC c) hc.2.2.2.1 h.ow (h.1.ts _ h1) (h.1.ts _ h2) (h.1.ts _ h3) h.1.tb.1 a1.1 (wl_D _ _ _) a2 (A_new h.1) hc.1 (fs := fl (xb X) (nw S c (nC c)) (gZ S + 1) c) (fun j hj => ?_) (by omega) (by omega) hd (fun q H1 hP hD hS => W_sz fun hs => ?_)
  · rw [hz0 j hj]
    show _ = (fl (xb X) (nw S c (nC c)) (gZ S + 1) c).getD j .null
    rw [List.getD_eq_getElem?_getD, fl_get hj]
    rfl
  · have hq := new_at h.1 a1 a4 hP hD (by omega)
    subst hq
    have hk1 : gK (nw S c (nC c)) (gZ S + 1) = c := by rw [gK_nw, if_pos rfl]
    have hh := HR_new (S' := nw S c (nC c)) a1 rfl (fun b => gK_nw S c (nC c) b) (fun b hb => by rw [gN_nw, if_neg hb]) (fun b j hb => by rw [gI_nw, if_neg hb]) (fun b j hb => by rw [gL_nw, if_neg hb]) (fun b j hb => by rw [gR_nw, if_neg hb]) (by rw [ce_obj hk1 hc.2.1]) hP
    have hw := hw H1 locs lm hh hS a3 (by rw [gZ_nw]; omega) (by rw [gU_nw]; omega)
    rw [gZ_nw, gU_nw, List.map_cons, xv_ref (by omega)] at hw
    have e1 : gZ S + 1 - gZ (x0 X) = gZ S - gZ (x0 X) + 1 := by omega
    have e2 : gU S + nC c - gU (x0 X) = gU S - gU (x0 X) + nC c := by omega
    rw [e1, e2] at hw
    exact hw
theorem gk_newa {t : Nat} {aty : ArrayType} (h : XM X cc own) (ht : t < 5) (hd : decode cc pc = .ok (.newarray aty, 2)) (hty : newarray.typeOf aty = tyK t) (h1 : Cond.arrayClass (newarray.typeOf aty) ∈ T0) (hk : GK X ps (pc + 2) k) : GK X ps pc (o_newa t k) := by
  intro ls st S hr
  obtain ⟨n, st, rfl, r1⟩ := tI_el hr
  obtain ⟨⟨hn0, hn1⟩, r2⟩ := if_el r1
  obtain ⟨hm, hw⟩ := hk _ _ _ r2
  have hm' : gZ S + 1 ≤ gZ (xf X) ∧ gU S + n.toNatClampNeg ≤ gU (xf X) := hm
  refine ⟨⟨by omega, by omega⟩, fun H locs lm a1 a2 a3 a4 a5 => ?_⟩
  have hrm := h.1.rm
  have hcl : n.toNatClampNeg = n.toInt.toNat := rfl
  have hnn : ¬ n < 0 := by rw [Int32.lt_iff_toInt_lt, Int32.toInt_zero]; omega
  have hb : n.toNatClampNeg * componentBytes (tyK t) ≤ 536870912 := by
    have : componentBytes (tyK t) ≤ 8 := by
      rcases (show t = 0 ∨ t = 1 ∨ t = 2 ∨ t = 3 ∨ t = 4 by omega) with rfl | rfl | rfl | rfl | rfl <;> decide
    calc n.toNatClampNeg * componentBytes (tyK t) ≤ 70000 * 8 := Nat.mul_le_mul (by omega) this
      _ ≤ 536870912 := by decide
  refine va_newa h.1.ex h.by (h.1.ts _ h1) hty h.1.tb.1 a1.1 (wl_D _ _ _) a2 (A_new h.1) (a0 := (n.toNatClampNeg, af (xb X) (nw S (100 + t) n.toNatClampNeg) (gZ S + 1) t)) (fun cA => ?_) hnn rfl hb (by omega) (by omega) hd (fun q cA H1 hKK hP hD hS => W_sz fun hs => ?_)
  · by_cases e1 : t = 1
    · subst e1
      show arrV cA _ (fun j => Value.long (gL (nw S 101 n.toNatClampNeg) (gZ S + 1) j)) = _
      congr 1
      funext j
      rw [gL_nw, if_pos rfl]
      rfl
    · rw [af_i e1 (by omega)]
      show arrV cA _ (fun j => Value.int (gI (nw S (100 + t) n.toNatClampNeg) (gZ S + 1) j)) = _
      congr 1
      funext j
      rw [gI_nw, if_pos rfl]
      rcases (show t = 0 ∨ t = 2 ∨ t = 3 ∨ t = 4 by omega) with rfl | rfl | rfl | rfl <;> rfl
  · have hq := new_at h.1 a1 a4 hP hD (by omega)
    subst hq
    have hcA : cA = xk X t := by
      have g1 := (hKK.2 6 (cA, tyK t) rfl).2
      have g2 := (h.1.tb.1.2 t _ (tys_at _ t (by omega))).2
      rcases (show t = 0 ∨ t = 1 ∨ t = 2 ∨ t = 3 ∨ t = 4 by omega) with rfl | rfl | rfl | rfl | rfl <;> exact Option.some.inj ((g1 : (xs X).vm.findClass _ = some cA).symm.trans g2)
    subst hcA
    have hk1 : gK (nw S (100 + t) n.toNatClampNeg) (gZ S + 1) = 100 + t := by rw [gK_nw, if_pos rfl]
    have hn1 : gN (nw S (100 + t) n.toNatClampNeg) (gZ S + 1) = n.toNatClampNeg := by rw [gN_nw, if_pos rfl]
    have hh := HR_new (S' := nw S (100 + t) n.toNatClampNeg) a1 rfl (fun b => gK_nw S _ _ b) (fun b hb => by rw [gN_nw, if_neg hb]) (fun b j hb => by rw [gI_nw, if_neg hb]) (fun b j hb => by rw [gL_nw, if_neg hb]) (fun b j hb => by rw [gR_nw, if_neg hb]) (by rw [ce_arr hk1, hn1]) hP
    have hw := hw H1 locs lm hh hS a3 (by rw [gZ_nw]; omega) (by rw [gU_nw]; omega)
    rw [gZ_nw, gU_nw, List.map_cons, xv_ref (by omega)] at hw
    have e1 : gZ S + 1 - gZ (x0 X) = gZ S - gZ (x0 X) + 1 := by omega
    have e2 : gU S + n.toNatClampNeg - gU (x0 X) = gU S - gU (x0 X) + n.toNatClampNeg := by omega
    rw [e1, e2] at hw
    exact hw
end GKA
end
section
/-! copies, natives, switches, ends of methods, calls -/
theorem catS_map (base : Nat) (ad : Nat → Option Nat) (st : List Value) : ((st.map (cv base ad)).map fun v => v.category).sum = catS st := by
  induction st with
  | nil => rfl
  | cons v vs ih =>
    simp only [List.map_cons, List.sum_cons, catS, ih]
    congr 1
    cases v with
    | ref a => cases a <;> rfl
    | retAddr k =>
      show (va_rf (ad k)).category = 1
      cases ad k <;> rfl
    | _ => rfl
theorem SX.moved {ad : Nat → Option Nat} {A : Nat → Prop} {u U : State} {H H1 : Heap} (hvm : u.vm.Alike U.vm) (hR : ∀ q, vk_R "TruceWall$Reader" 157 vk_words q u → vk_R "TruceWall$Reader" 157 vk_words q U) (hq : ∀ a : Nat, a < H.size → ¬ A a → H1[a]? = H[a]?) (h : SX ad A u H) : SX ad A U H1 := by
  obtain ⟨⟨q, qv, e1, e2, h1, h2, h3, h4, h5⟩, h6, h7⟩ := h
  exact ⟨⟨q, qv, e1, e2, hR q h1, (h2.moved hvm).kept hq, (h3.moved hvm).kept hq, (h4.moved hvm).kept hq, (h5.moved hvm).kept hq⟩, (h6.moved hvm).kept hq, (h7.moved hvm).kept hq⟩
theorem TB.same {base : Nat} {Hb : Heap} {D : va_G} {ck : Nat → ClassId} {ad : Nat → Option Nat} {u U : State} (hvm : u.vm = U.vm) (hh : U.heap = u.heap) (h : TB base Hb D ck ad u) : TB base Hb D ck ad U := by
  refine ⟨va_K.moved (by rw [hvm]; exact Vm.Alike.refl _) h.1, fun w hw => ?_, va_AO.moved (by rw [hvm]; exact Vm.Alike.refl _) h.2.2.1, SX.moved (by rw [hvm]; exact Vm.Alike.refl _) (fun q hq => vk_R.same hvm.symm hq) (fun a _ _ => by rw [hh]) h.2.2.2⟩
  have hz := h.2.1 w hw
  have : w.onTables = true := by
    revert hz hw
    simp only [nwl, List.mem_cons, List.mem_nil_iff, or_false]
    rintro (rfl | rfl | rfl | rfl | rfl | rfl | rfl | rfl) <;> intro _ <;> rfl
  exact va_Nw.same this hvm hz
theorem TB.warm {base : Nat} {Hb : Heap} {D : va_G} {ck : Nat → ClassId} {ad : Nat → Option Nat} {s U : State} (hW : s.WarmedH U.vm) (hq : ∀ a : Nat, a < s.heap.size → ¬ base + 1 ≤ a → U.heap[a]? = s.heap[a]?) (h : TB base Hb D ck ad s) : TB base Hb D ck ad U := by
  refine ⟨va_K.moved hW.alike h.1, fun w hw => ?_, va_AO.moved hW.alike h.2.2.1, SX.moved hW.alike (fun q hq => vk_R.warm hW hq) hq h.2.2.2⟩
  have hz := h.2.1 w hw
  revert hz hw
  simp only [nwl, List.mem_cons, List.mem_nil_iff, or_false]
  rintro (rfl | rfl | rfl | rfl | rfl | rfl | rfl | rfl) <;> intro hz
  · exact va_Nw.warmM hW hz
  · exact va_Nw.warmM hW hz
  · exact va_Nw.warmM hW hz
  · exact va_Nw.warmM hW hz
  · exact va_Nw.warmM hW hz
  · exact va_Nw.warmM hW hz
  · exact va_Nw.warmM hW hz
  · exact va_Nw.warmC hW hz
def PRE (base : Nat) (Hb : Heap) (D : va_G) (ck : Nat → ClassId) (ad : Nat → Option Nat) (S : St) (U : State) : Prop := U.heap.size = base + 1 + gZ S ∧ (∀ q : Nat, q ≤ base → U.heap[q]? = Hb[q]?) ∧ HR base D ck S U.heap ∧ TB base Hb D ck ad U
def QC (base : Nat) (D : va_G) (ck : Nat → ClassId) (ad : Nat → Option Nat) (r : Option Value) (S : St) : Array Value → State → Outcome → State → Prop := fun _ st oc t => oc = .returned (r.map (cv base ad)) ∧ HR base D ck S t.heap ∧ va_F (fun q => base + 1 ≤ q) st t
abbrev rmD (d a b : Nat) : Room := { frames := d + 1, cells := a, slots := b, locals := 64 * (d + 1) }
def MT (l : Launch) (base : Nat) (Hb : Heap) (D : va_G) (ck : Nat → ClassId) (ad : Nat → Option Nat) (d : Nat) (y : MethodName) (bytes : ByteArray) (maxL : Nat) (ret : Option FieldType) (as : List Value) (S : St) (r : Option Value) (S' : St) : Prop :=
  Met l y (.code y bytes maxL ret :: T0) (rmD d (gZ S' - gZ S) (gU S' - gU S)) (va_Pc (as.map (cv base ad)) (PRE base Hb D ck ad S)) (QC base D ck ad r S') (gZ S' - gZ S) (gU S' - gU S) (fun q => base + 1 ≤ q)
abbrev Mtab : Type := List (MethodName × ByteArray × Nat × Option FieldType)
/-- the calls that an oracle answers are what the machine does, with d frames at most below them -/
def OS (tab : Mtab) (l : Launch) (base : Nat) (Hb : Heap) (D : va_G) (ck : Nat → ClassId) (ad : Nat → Option Nat) (orc : Orc) (d : Nat) : Prop :=
  ∀ (i : Nat) (y : MethodName) (bytes : ByteArray) (maxL : Nat) (ret : Option FieldType), tab[i]? = some (y, bytes, maxL, ret) → ∀ (as : List Value) (S : St) (r : Option Value) (S' : St), orc i as S = some (r, S') → (gZ S ≤ gZ S' ∧ gU S ≤ gU S') ∧ MT l base Hb D ck ad d y bytes maxL ret as S r S'
abbrev xOS (tab : Mtab) (X : Cx) (orc : Orc) (d : Nat) : Prop := OS tab (xl X) (xb X) (xH X) (xD X) (xk X) (xS X) orc d
/-- how a method of the table ends -/
def XR (X : Cx) (ret : Option FieldType) : Prop := xQ X = MQ (xw X) (QC (xb X) (xD X) (xk X) (xS X) (xr X) (xf X)) (xa X) (xs X) (gZ (xf X) - gZ (x0 X)) (gU (xf X) - gU (x0 X)) (xA X) ∧ (xh X).sig.returnType = ret
section GKE
variable {X : Cx} {ps : Nat → Nat} {pc : Nat} {k kt kf : K} {cc : ByteArray} {own : String}
theorem rI_el {st : List Value} {f : Int32 → Option Rs} (h : RW X ps (rI st f)) : ∃ v, st = [.int v] ∧ RW X ps (f v) := by
  unfold rI at h
  split at h
  · exact ⟨_, rfl, h⟩
  · exact h.elim
theorem rL_el {st : List Value} {f : Int64 → Option Rs} (h : RW X ps (rL st f)) : ∃ v, st = [.long v] ∧ RW X ps (f v) := by
  unfold rL at h
  split at h
  · exact ⟨_, rfl, h⟩
  · exact h.elim
theorem rR_el {st : List Value} {f : Nat → Option Rs} (h : RW X ps (rR st f)) : ∃ v, st = [.ref v] ∧ RW X ps (f v) := by
  unfold rR at h
  split at h
  · exact ⟨_, rfl, h⟩
  · exact h.elim
theorem rV_el {st : List Value} {x : Option Rs} (h : RW X ps (rV st x)) : st = [] ∧ RW X ps x := by
  unfold rV at h
  split at h
  · exact ⟨rfl, h⟩
  · exact h.elim
theorem gk_iret (h : XM X cc own) (hR : XR X (some .int)) (hd : decode cc pc = .ok (.ireturn, 1)) : GK X ps pc o_iret := by
  intro ls st S hr
  obtain ⟨v, rfl, r1⟩ := rI_el hr
  obtain ⟨e1, e2⟩ := Prod.mk.inj (show (some (Value.int v), S) = (xr X, xf X) from r1)
  subst e2
  refine ⟨⟨Nat.le_refl _, Nat.le_refl _⟩, fun H locs lm a1 a2 a3 a4 a5 => ?_⟩
  rw [hR.1]
  exact W.iret (v := v) h.1.ex h.by hR.2 (fun t ht hW => ⟨by rw [← e1]; rfl, by rw [ht]; exact a1, a2.F ht⟩) a2.2.2 hd h.1.lk
theorem gk_zret (h : XM X cc own) (hR : XR X (some .boolean)) (hd : decode cc pc = .ok (.ireturn, 1)) : GK X ps pc o_zret := by
  intro ls st S hr
  obtain ⟨v, rfl, r0⟩ := rI_el hr
  obtain ⟨hv, r1⟩ := if_el r0
  obtain ⟨e1, e2⟩ := Prod.mk.inj (show (some (Value.int v), S) = (xr X, xf X) from r1)
  subst e2
  refine ⟨⟨Nat.le_refl _, Nat.le_refl _⟩, fun H locs lm a1 a2 a3 a4 a5 => ?_⟩
  rw [hR.1]
  exact W.zret (v := v) h.1.ex h.by hR.2 (by rcases hv with rfl | rfl <;> decide) (fun t ht hW => ⟨by rw [← e1]; rfl, by rw [ht]; exact a1, a2.F ht⟩) a2.2.2 hd h.1.lk
theorem gk_lret (h : XM X cc own) (hR : XR X (some .long)) (hd : decode cc pc = .ok (.lreturn, 1)) : GK X ps pc o_lret := by
  intro ls st S hr
  obtain ⟨v, rfl, r1⟩ := rL_el hr
  obtain ⟨e1, e2⟩ := Prod.mk.inj (show (some (Value.long v), S) = (xr X, xf X) from r1)
  subst e2
  refine ⟨⟨Nat.le_refl _, Nat.le_refl _⟩, fun H locs lm a1 a2 a3 a4 a5 => ?_⟩
  rw [hR.1]
  exact W.lret (v := v) h.1.ex h.by hR.2 (fun t ht hW => ⟨by rw [← e1]; rfl, by rw [ht]; exact a1, a2.F ht⟩) a2.2.2 hd h.1.lk
theorem gk_aret {rt : FieldType} (h : XM X cc own) (hR : XR X (some rt)) (hrt : (∃ n, rt = .object n) ∨ ∃ t, rt = .array t) (hd : decode cc pc = .ok (.areturn, 1)) : GK X ps pc o_aret := by
  intro ls st S hr
  obtain ⟨v, rfl, r1⟩ := rR_el hr
  obtain ⟨e1, e2⟩ := Prod.mk.inj (show (some (Value.ref v), S) = (xr X, xf X) from r1)
  subst e2
  refine ⟨⟨Nat.le_refl _, Nat.le_refl _⟩, fun H locs lm a1 a2 a3 a4 a5 => ?_⟩
  rw [hR.1]
  exact W.aret (v := xv X (.ref v)) h.1.ex h.by hR.2 hrt (by cases v with
    | zero => exact Or.inl rfl
    | succ v => exact Or.inr ⟨_, rfl⟩) (fun t ht hW => ⟨by rw [← e1]; rfl, by rw [ht]; exact a1, a2.F ht⟩) a2.2.2 hd h.1.lk
theorem gk_vret (h : XM X cc own) (hR : XR X none) (hd : decode cc pc = .ok (.return_, 1)) : GK X ps pc o_vret := by
  intro ls st S hr
  obtain ⟨rfl, r1⟩ := rV_el hr
  obtain ⟨e1, e2⟩ := Prod.mk.inj (show ((none : Option Value), S) = (xr X, xf X) from r1)
  subst e2
  refine ⟨⟨Nat.le_refl _, Nat.le_refl _⟩, fun H locs lm a1 a2 a3 a4 a5 => ?_⟩
  rw [hR.1]
  exact W.vret h.1.ex h.by hR.2 (fun t ht hW => ⟨by rw [← e1]; rfl, by rw [ht]; exact a1, a2.F ht⟩) a2.2.2 hd h.1.lk
theorem gk_ifnull {off : Int} {tgt : Nat} (h : XM X cc own) (hd : decode cc pc = .ok (.ifnull off, 3)) (ht : (pc : Int) + off = (tgt : Int)) (hkt : GK X ps tgt kt) (hkf : GK X ps (pc + 3) kf) : GK X ps pc (o_ifnull kt kf) := by
  intro ls st S hr
  obtain ⟨x, st, rfl, r1⟩ := tR_el hr
  cases x with
  | zero =>
    have r9 := r1
    rw [if_pos rfl] at r9
    obtain ⟨hm, hw⟩ := hkt _ _ _ r9
    exact ⟨hm, fun H locs lm a1 a2 a3 a4 a5 => lv_ifnullN h.1.ex h.by hd ht (hw H locs lm a1 a2 a3 a4 a5)⟩
  | succ x =>
    have r9 := r1
    rw [if_neg (by omega)] at r9
    obtain ⟨hm, hw⟩ := hkf _ _ _ r9
    exact ⟨hm, fun H locs lm a1 a2 a3 a4 a5 => lv_ifnull h.1.ex h.by hd (hw H locs lm a1 a2 a3 a4 a5)⟩
theorem gk_ifnonnull {off : Int} {tgt : Nat} (h : XM X cc own) (hd : decode cc pc = .ok (.ifnonnull off, 3)) (ht : (pc : Int) + off = (tgt : Int)) (hkt : GK X ps tgt kt) (hkf : GK X ps (pc + 3) kf) : GK X ps pc (o_ifnull kf kt) := by
  intro ls st S hr
  obtain ⟨x, st, rfl, r1⟩ := tR_el hr
  cases x with
  | zero =>
    have r9 := r1
    rw [if_pos rfl] at r9
    obtain ⟨hm, hw⟩ := hkf _ _ _ r9
    exact ⟨hm, fun H locs lm a1 a2 a3 a4 a5 => lv_ifnonnullN h.1.ex h.by hd (hw H locs lm a1 a2 a3 a4 a5)⟩
  | succ x =>
    have r9 := r1
    rw [if_neg (by omega)] at r9
    obtain ⟨hm, hw⟩ := hkt _ _ _ r9
    exact ⟨hm, fun H locs lm a1 a2 a3 a4 a5 => lv_ifnonnull h.1.ex h.by hd ht (hw H locs lm a1 a2 a3 a4 a5)⟩
theorem ro_inj {base x y : Nat} : ro base x = ro base y ↔ x = y := by
  cases x <;> cases y <;> simp [ro]
theorem gk_acmpne {off : Int} {tgt : Nat} (h : XM X cc own) (hd : decode cc pc = .ok (.if_acmp .ne off, 3)) (ht : (pc : Int) + off = (tgt : Int)) (hkt : GK X ps tgt kt) (hkf : GK X ps (pc + 3) kf) : GK X ps pc (o_aeq kf kt) := by
  intro ls st S hr
  obtain ⟨y, st, rfl, r1⟩ := tR_el hr
  obtain ⟨x, st, rfl, r2⟩ := tR_el r1
  have e : ∀ z : Nat, xv X (.ref z) = va_rf (ro (xb X) z) := fun z => (rv_ro _ _).symm
  by_cases hc : x = y
  · have r9 := r2
    rw [if_pos hc] at r9
    obtain ⟨hm, hw⟩ := hkf _ _ _ r9
    refine ⟨hm, fun H locs lm a1 a2 a3 a4 a5 => ?_⟩
    rw [List.map_cons, List.map_cons, e, e]
    exact lv_acmp_ne h.1.ex h.by hd ht (fun q => absurd (ro_inj.mpr hc) q) (fun q => hw H locs lm a1 a2 a3 a4 a5)
  · have r9 := r2
    rw [if_neg hc] at r9
    obtain ⟨hm, hw⟩ := hkt _ _ _ r9
    refine ⟨hm, fun H locs lm a1 a2 a3 a4 a5 => ?_⟩
    rw [List.map_cons, List.map_cons, e, e]
    exact lv_acmp_ne h.1.ex h.by hd ht (fun q => hw H locs lm a1 a2 a3 a4 a5) (fun q => absurd (ro_inj.mp q) hc)
/-- a table of cases from lo on, by its offsets; the rest goes on at the default -/
theorem gk_tsw {dflt lo hi : Int} {offs : Array Int} {len td : Nat} {kd : K} {cs : List (Int32 × K)} (h : XM X cc own) (hd : decode cc pc = .ok (.tableswitch dflt lo hi offs, len)) (htd : (pc : Int) + dflt = (td : Int)) (hkd : GK X ps td kd)
    (hcs : ∀ q ∈ cs, ∃ (tgt : Nat) (off : Int), ¬ q.1.toInt < lo ∧ ¬ hi < q.1.toInt ∧ offs[(q.1.toInt - lo).toNat]? = some off ∧ (pc : Int) + off = (tgt : Int) ∧ GK X ps tgt q.2) (hout : ∀ x : Int32, (∀ q ∈ cs, x ≠ q.1) → x.toInt < lo ∨ hi < x.toInt) : GK X ps pc (o_sw cs kd) := by
  intro ls st S hr
  obtain ⟨x, st, rfl, r1⟩ := tI_el hr
  by_cases hx : ∃ q ∈ cs, x = q.1
  · have key : ∀ cs : List (Int32 × K), (∃ q ∈ cs, x = q.1) → ∃ q ∈ cs, x = q.1 ∧ swc x ls st S cs kd = q.2 ls st S := by
      intro cs
      induction cs with
      | nil => rintro ⟨q, hq, -⟩; cases hq
      | cons c cs ih =>
        rintro ⟨q, hq, e⟩
        by_cases e2 : x = c.1
        · refine ⟨c, List.mem_cons_self, e2, ?_⟩
          obtain ⟨v, kk⟩ := c
          simp only [swc]
          rw [if_pos e2]
        · rcases List.mem_cons.mp hq with rfl | hq
          · exact absurd e e2
          · obtain ⟨q', h1, h2, h3⟩ := ih ⟨q, hq, e⟩
            refine ⟨q', List.mem_cons_of_mem _ h1, h2, ?_⟩
            obtain ⟨v, kk⟩ := c
            simp only [swc]
            rw [if_neg e2, h3]
    obtain ⟨q, hq, e, hs⟩ := key cs hx
    obtain ⟨tgt, off, g1, g2, g3, g4, g5⟩ := hcs q hq
    rw [hs] at r1
    obtain ⟨hm, hw⟩ := g5 _ _ _ r1
    rw [← e] at g1 g2 g3
    exact ⟨hm, fun H locs lm a1 a2 a3 a4 a5 => lv_tableIn h.1.ex h.by hd g1 g2 g3 g4 (hw H locs lm a1 a2 a3 a4 a5)⟩
  · have hn : ∀ q ∈ cs, x ≠ q.1 := fun q hq e => hx ⟨q, hq, e⟩
    have key : ∀ cs : List (Int32 × K), (∀ q ∈ cs, x ≠ q.1) → swc x ls st S cs kd = kd ls st S := by
      intro cs
      induction cs with
      | nil => intro _; rfl
      | cons c cs ih =>
        intro hh
        obtain ⟨v, kk⟩ := c
        simp only [swc]
        rw [if_neg (hh (v, kk) List.mem_cons_self), ih (fun q hq => hh q (List.mem_cons_of_mem _ hq))]
    rw [key cs hn] at r1
    obtain ⟨hm, hw⟩ := hkd _ _ _ r1
    exact ⟨hm, fun H locs lm a1 a2 a3 a4 a5 => lv_tableOut h.1.ex h.by hd (hout x hn) htd (hw H locs lm a1 a2 a3 a4 a5)⟩
theorem gk_obj {i : Nat} (h : XM X cc own) (hd : decode cc pc = .ok (.invokespecial i, 3)) (h1 : Cond.methodLink own i objectInit ∈ T0) (h2 : Cond.instanceMethod objectInit ∈ T0) (h3 : Cond.code objectInit ⟨#[0xb1]⟩ 1 none ∈ T0) (hk : GK X ps (pc + 3) k) : GK X ps pc (o_obj k) := by
  intro ls st S hr
  obtain ⟨a, st, rfl, r1⟩ := tR_el hr
  obtain ⟨ha, r2⟩ := fi_el r1
  obtain ⟨h8, r3⟩ := c8_el r2
  obtain ⟨hm, hw⟩ := hk _ _ _ r3
  refine ⟨hm, fun H locs lm a1 a2 a3 a4 a5 => ?_⟩
  have hrf := h.1.rf
  rw [List.map_cons, xv_ref (Nat.pos_of_ne_zero ha)]
  refine W.objInit h.1.ex h.by h.ow (h.1.ts _ h1) (h.1.ts _ h2) (h.1.ts _ h3) rfl (by rw [h.1.ml]; exact a3.1) rfl hd hrf.1 ?_ (hw H locs lm a1 a2 a3 a4 a5)
  have := catS_map (xb X) (xS X) st
  show 2 * 0 + _ + 12 ≤ _
  rw [this]
  omega
theorem gk_min {i : Nat} (h : XM X cc own) (hd : decode cc pc = .ok (.invokestatic i, 3)) (h1 : Cond.methodLink own i Lib.Math.min.name ∈ T0) (h2 : Cond.static Lib.Math.min.name ∈ T0) (h3 : Cond.initialized "java/lang/Math" ∈ T0) (h4 : Cond.code Lib.Math.min.name Lib.Math.min.code 2 (some .int) ∈ T0) (hk : GK X ps (pc + 3) k) : GK X ps pc (o_min k) := by
  intro ls st S hr
  obtain ⟨y, st, rfl, r1⟩ := tI_el hr
  obtain ⟨x, st, rfl, r2⟩ := tI_el r1
  obtain ⟨h8, r3⟩ := c8_el r2
  obtain ⟨hm, hw⟩ := hk _ _ _ r3
  refine ⟨hm, fun H locs lm a1 a2 a3 a4 a5 => ?_⟩
  have hrf := h.1.rf
  have hrm := h.1.rm
  have := catS_map (xb X) (xS X) st
  exact va_mmin h.1.ex h.by (by rw [h.1.ml]; exact a3.1.symm) h.ow (h.1.ts _ h1) (h.1.ts _ h2) (h.1.ts _ h3) (h.1.ts _ h4) hrf.1 (by rw [this]; omega) (by omega) (by omega) hd (hw H locs lm a1 a2 a3 a4 a5)
end GKE
end
section
/-! copies, what is made of references, and calls -/
section GKC
variable {X : Cx} {ps : Nat → Nat} {pc : Nat} {k kt kf : K} {cc : ByteArray} {own : String}
theorem tw_clamp {n : Int32} : n.toNatClampNeg = n.toInt.toNat := rfl
theorem gk_copy {i : Nat} (h : XM X cc own) (hd : decode cc pc = .ok (.invokestatic i, 3)) (h1 : Cond.methodLink own i arraycopyName ∈ T0) (h2 : Cond.native arraycopyName ∈ T0) (h3 : Cond.static arraycopyName ∈ T0) (h4 : Cond.initialized "java/lang/System" ∈ T0) (hk : GK X ps (pc + 3) k) : GK X ps pc (o_copy k) := by
  intro ls st S hr
  obtain ⟨n, st, rfl, r1⟩ := tI_el hr
  obtain ⟨dp, st, rfl, r2⟩ := tI_el r1
  obtain ⟨b, st, rfl, r3⟩ := tR_el r2
  obtain ⟨sp, st, rfl, r4⟩ := tI_el r3
  obtain ⟨a, st, rfl, r5⟩ := tR_el r4
  obtain ⟨h8, r6⟩ := c8_el r5
  obtain ⟨⟨hka, hkb, c1, c2, c3, c4, c5⟩, r7⟩ := if_el r6
  obtain ⟨hm, hw⟩ := hk _ _ _ r7
  refine ⟨hm, fun H locs lm a1 a2 a3 a4 a5 => ?_⟩
  obtain ⟨p0, p1, he⟩ := arr_at (t := 0) a1 hka (by omega)
  obtain ⟨q0, q1, hf⟩ := arr_at (t := 0) a1 hkb (by omega)
  rw [af_i (by omega) (by omega)] at he hf
  have hrf := h.1.rf
  have := catS_map (xb X) (xS X) st
  rw [List.map_cons, List.map_cons, List.map_cons, List.map_cons, List.map_cons, xv_ref p0, xv_ref q0]
  refine va_copyi h.1.ex h.by (by rw [h.1.ml]; exact a3.1.symm) h.ow (h.1.ts _ h1) (h.1.ts _ h2) (h.1.ts _ h3) (h.1.ts _ h4) h.1.tb.1 a1.1 (wl_D _ _ _) a2 (a - 1) (b - 1) 0 0 he hf (tys_at _ 0 (by omega)) (tys_at _ 0 (by omega)) rfl
    (by rw [Int32.lt_iff_toInt_lt, Int32.toInt_zero]; omega) (by rw [Int32.lt_iff_toInt_lt, Int32.toInt_zero]; omega) (by rw [Int32.lt_iff_toInt_lt, Int32.toInt_zero]; omega) (by rw [tw_clamp, tw_clamp]; omega) (by rw [tw_clamp, tw_clamp]; omega) (fun _ _ => rfl) hrf.1 (by
      rw [this]
      have : nativeFrameWords "java/lang/System" "arraycopy" 5 = 7 := by decide
      rw [this]; omega) hd (fun H1 locs1 hP _ hS => hw H1 locs1 lm ?_ hS a3 a4 a5)
  refine HR_set a1 q0 q1 rfl (fun _ => rfl) (fun _ => rfl) (fun x j hx => ?_) (fun _ _ _ => rfl) (fun _ _ _ => rfl) ?_ hP
  · rw [gI_cpI, if_neg (fun z => hx z.1)]
  · refine Eq.trans ?_ (ce_arr (S := cpI S a b _ _ _) (t := 0) (by exact hkb)).symm
    rw [af_i (by omega) (by omega)]
    show (Sum.inl (xk X 0, gN S b, Sum.inl _) : va_E) = Sum.inl (xk X 0, gN S b, Sum.inl _)
    congr 4
    funext q
    rw [gI_cpI]
    show va_cpy (gI S a) (gI S b) _ _ _ q = _
    unfold va_cpy
    by_cases e : dp.toNatClampNeg ≤ q ∧ q < dp.toNatClampNeg + n.toNatClampNeg
    · rw [if_pos e, if_pos ⟨rfl, e⟩]
    · rw [if_neg e, if_neg (fun z => e z.2)]
theorem gk_castA {i : Nat} (h : XM X cc own) (hd : decode cc pc = .ok (.checkcast i, 3)) (h1 : Cond.classLink own i "[I" ∈ T0) (hk : GK X ps (pc + 3) k) : GK X ps pc (o_castA k) := by
  intro ls st S hr
  obtain ⟨a, st, rfl, r1⟩ := tR_el hr
  obtain ⟨hka, r2⟩ := if_el r1
  obtain ⟨hm, hw⟩ := hk _ _ _ r2
  refine ⟨hm, fun H locs lm a1 a2 a3 a4 a5 => ?_⟩
  obtain ⟨p0, p1, he⟩ := arr_at (t := 0) a1 hka (by omega)
  have hw := hw H locs lm a1 a2 a3 a4 a5
  rw [List.map_cons, xv_ref p0] at hw ⊢
  exact va_castA h.1.ex h.by h.ow (h.1.ts _ h1) a1.1 (a - 1) he (h.1.tb.1.2 0 _ (tys_at _ 0 (by omega))).2 hd hw
theorem gk_clone {i : Nat} (h : XM X cc own) (hd : decode cc pc = .ok (.invokevirtual i, 3)) (h1 : Cond.methodLink own i ⟨"[I", "clone", "()Ljava/lang/Object;"⟩ ∈ T0) (h2 : Cond.sameMethod "[I" "java/lang/Object" "clone" "()Ljava/lang/Object;" ∈ T0) (h3 : Cond.native ⟨"java/lang/Object", "clone", "()Ljava/lang/Object;"⟩ ∈ T0) (h4 : Cond.instanceMethod ⟨"java/lang/Object", "clone", "()Ljava/lang/Object;"⟩ ∈ T0) (h5 : Cond.selects "[I" ⟨"[I", "clone", "()Ljava/lang/Object;"⟩ ⟨"java/lang/Object", "clone", "()Ljava/lang/Object;"⟩ ∈ T0) (hk : GK X ps (pc + 3) k) : GK X ps pc (o_clone k) := by
  intro ls st S hr
  obtain ⟨a, st, rfl, r1⟩ := tR_el hr
  obtain ⟨h8, r2⟩ := c8_el r1
  obtain ⟨hka, r3⟩ := if_el r2
  obtain ⟨hm, hw⟩ := hk _ _ _ r3
  have hm' : gZ S + 1 ≤ gZ (xf X) ∧ gU S + gN S a ≤ gU (xf X) := hm
  refine ⟨⟨by omega, by omega⟩, fun H locs lm a1 a2 a3 a4 a5 => ?_⟩
  obtain ⟨p0, p1, he⟩ := arr_at (t := 0) a1 hka (by omega)
  rw [af_i (by omega) (by omega)] at he
  have hrf := h.1.rf
  have hrm := h.1.rm
  have := catS_map (xb X) (xS X) st
  rw [List.map_cons, xv_ref p0]
  refine va_clone h.1.ex h.by (by rw [h.1.ml]; exact a3.1.symm) h.ow (h.1.ts _ h1) (h.1.ts _ h2) (h.1.ts _ h3) (h.1.ts _ h4) (h.1.ts _ h5) (h.1.tb.2.1 _ (by simp [nwl])) h.1.tb.1 a1.1 (wl_D _ _ _) a2 (A_new h.1) (a - 1) 0 he (tys_at _ 0 (by omega)) (h.1.tb.1.2 0 _ (tys_at _ 0 (by omega))).2 (fun q v hv => ?_) hrf.1 (by rw [this]; omega) (by omega) (by show _ + gN S a ≤ _; omega) hd (fun q H1 hKK hP hD hS => W_sz fun hs => ?_)
  · rw [vp_cell_i] at hv
    by_cases e : q < gN S a
    · rw [arrV_read _ _ e] at hv
      cases hv
      rfl
    · rw [Array.getElem?_eq_none (by rw [arrV_size]; omega)] at hv
      cases hv
  · have hq := new_at h.1 a1 a4 hP hD (by omega)
    subst hq
    have hk1 : gK (clI S a) (gZ S + 1) = 100 + 0 := by rw [gK_clI, if_pos rfl]
    have hn1 : gN (clI S a) (gZ S + 1) = gN S a := by rw [gN_clI, if_pos rfl]
    have hh := HR_new (S' := clI S a) (c := 100) a1 rfl (fun b => gK_clI S a b) (fun b hb => by rw [gN_clI, if_neg hb]) (fun b j hb => by rw [gI_clI, if_neg hb]) (fun b j hb => by rw [gL_clI, if_neg hb]) (fun b j hb => by rw [gR_clI, if_neg hb]) (by
      rw [ce_arr hk1, hn1, af_i (by omega) (by omega)]
      congr 3
      congr 1
      funext j
      rw [gI_clI, if_pos rfl]) hP
    have hw := hw H1 locs lm hh hS a3 (by rw [gZ_clI]; omega) (by rw [gU_clI]; omega)
    rw [gZ_clI, gU_clI, List.map_cons, xv_ref (by omega)] at hw
    have e1 : gZ S + 1 - gZ (x0 X) = gZ S - gZ (x0 X) + 1 := by omega
    have e2 : gU S + gN S a - gU (x0 X) = gU S - gU (x0 X) + gN S a := by omega
    rw [e1, e2] at hw
    exact hw
theorem gk_anew {i : Nat} (h : XM X cc own) (hd : decode cc pc = .ok (.anewarray i, 3)) (h1 : Cond.classLink own i "TruceWall$Mark" ∈ T0) (hk : GK X ps (pc + 3) k) : GK X ps pc (o_newa 5 k) := by
  intro ls st S hr
  obtain ⟨n, st, rfl, r1⟩ := tI_el hr
  obtain ⟨⟨hn0, hn1⟩, r2⟩ := if_el r1
  obtain ⟨hm, hw⟩ := hk _ _ _ r2
  have hm' : gZ S + 1 ≤ gZ (xf X) ∧ gU S + n.toNatClampNeg ≤ gU (xf X) := hm
  refine ⟨⟨by omega, by omega⟩, fun H locs lm a1 a2 a3 a4 a5 => ?_⟩
  have hrm := h.1.rm
  have hcl : n.toNatClampNeg = n.toInt.toNat := rfl
  have hnn : ¬ n < 0 := by rw [Int32.lt_iff_toInt_lt, Int32.toInt_zero]; omega
  refine va_newq h.1.ex h.by h.ow (h.1.ts _ h1) h.1.tb.2.2.1 h.1.tb.1 a1.1 (wl_D _ _ _) a2 (A_new h.1) hnn rfl (by omega) (by omega) (by omega) hd (fun q cA H1 hKK hP hD hS => W_sz fun hs => ?_)
  have hq := new_at h.1 a1 a4 hP hD (by omega)
  subst hq
  have hcA : cA = xk X 5 := by
    obtain ⟨_, _, _, _, _, g1⟩ := (hKK.2 6 (cA, .object "TruceWall$Mark") rfl).2
    obtain ⟨_, _, _, _, _, g2⟩ := (h.1.tb.1.2 5 _ (tys_at _ 5 (by omega))).2
    exact Option.some.inj (g1.symm.trans g2)
  subst hcA
  have hk1 : gK (nw S 105 n.toNatClampNeg) (gZ S + 1) = 100 + 5 := by rw [gK_nw, if_pos rfl]
  have hn1 : gN (nw S 105 n.toNatClampNeg) (gZ S + 1) = n.toNatClampNeg := by rw [gN_nw, if_pos rfl]
  have hh := HR_new (S' := nw S 105 n.toNatClampNeg) a1 rfl (fun b => gK_nw S _ _ b) (fun b hb => by rw [gN_nw, if_neg hb]) (fun b j hb => by rw [gI_nw, if_neg hb]) (fun b j hb => by rw [gL_nw, if_neg hb]) (fun b j hb => by rw [gR_nw, if_neg hb]) (by
    rw [ce_arr hk1, hn1]
    show (Sum.inl (xk X 5, _, Sum.inr (Sum.inr (Sum.inr (Sum.inr _)))) : va_E) = Sum.inl (xk X 5, _, Sum.inr (Sum.inr (Sum.inr (Sum.inr _))))
    congr 6
    congr 1
    funext j
    rw [gR_nw, if_pos rfl]
    rfl) hP
  have hw := hw H1 locs lm hh hS a3 (by rw [gZ_nw]; omega) (by rw [gU_nw]; omega)
  rw [gZ_nw, gU_nw, List.map_cons, xv_ref (by omega)] at hw
  have e1 : gZ S + 1 - gZ (x0 X) = gZ S - gZ (x0 X) + 1 := by omega
  have e2 : gU S + n.toNatClampNeg - gU (x0 X) = gU S - gU (x0 X) + n.toNatClampNeg := by omega
  rw [e1, e2] at hw
  exact hw
/-- a case switch by its pairs -/
theorem gk_lsw {dflt : Int} {pr : Array (Int × Int)} {len td : Nat} {kd : K} {cs : List (Int32 × K)} (h : XM X cc own) (hd : decode cc pc = .ok (.lookupswitch dflt pr, len)) (hp : (pr.toList.zip (pr.toList.drop 1)).all (fun (a, next) => a.1 < next.1) = true) (htd : (pc : Int) + dflt = (td : Int)) (hkd : GK X ps td kd)
    (hcs : ∀ q ∈ cs, ∃ (tgt : Nat) (off : Int), Op.lookupswitch.offset pr.toList dflt q.1.toInt = off ∧ (pc : Int) + off = (tgt : Int) ∧ GK X ps tgt q.2) (hout : ∀ x : Int32, (∀ q ∈ cs, x ≠ q.1) → Op.lookupswitch.offset pr.toList dflt x.toInt = dflt) : GK X ps pc (o_sw cs kd) := by
  intro ls st S hr
  obtain ⟨x, st, rfl, r1⟩ := tI_el hr
  by_cases hx : ∃ q ∈ cs, x = q.1
  · have key : ∀ cs : List (Int32 × K), (∃ q ∈ cs, x = q.1) → ∃ q ∈ cs, x = q.1 ∧ swc x ls st S cs kd = q.2 ls st S := by
      intro cs
      induction cs with
      | nil => rintro ⟨q, hq, -⟩; cases hq
      | cons c cs ih =>
        rintro ⟨q, hq, e⟩
        by_cases e2 : x = c.1
        · refine ⟨c, List.mem_cons_self, e2, ?_⟩
          obtain ⟨v, kk⟩ := c
          simp only [swc]
          rw [if_pos e2]
        · rcases List.mem_cons.mp hq with rfl | hq
          · exact absurd e e2
          · obtain ⟨q', h1, h2, h3⟩ := ih ⟨q, hq, e⟩
            refine ⟨q', List.mem_cons_of_mem _ h1, h2, ?_⟩
            obtain ⟨v, kk⟩ := c
            simp only [swc]
            rw [if_neg e2, h3]
    obtain ⟨q, hq, e, hs⟩ := key cs hx
    obtain ⟨tgt, off, g3, g4, g5⟩ := hcs q hq
    rw [hs] at r1
    obtain ⟨hm, hw⟩ := g5 _ _ _ r1
    rw [← e] at g3
    exact ⟨hm, fun H locs lm a1 a2 a3 a4 a5 => lv_lookup h.1.ex h.by hd hp g3 g4 (hw H locs lm a1 a2 a3 a4 a5)⟩
  · have hn : ∀ q ∈ cs, x ≠ q.1 := fun q hq e => hx ⟨q, hq, e⟩
    have key : ∀ cs : List (Int32 × K), (∀ q ∈ cs, x ≠ q.1) → swc x ls st S cs kd = kd ls st S := by
      intro cs
      induction cs with
      | nil => intro _; rfl
      | cons c cs ih =>
        intro hh
        obtain ⟨v, kk⟩ := c
        simp only [swc]
        rw [if_neg (hh (v, kk) List.mem_cons_self), ih (fun q hq => hh q (List.mem_cons_of_mem _ hq))]
    rw [key cs hn] at r1
    obtain ⟨hm, hw⟩ := hkd _ _ _ r1
    exact ⟨hm, fun H locs lm a1 a2 a3 a4 a5 => lv_lookup h.1.ex h.by hd hp (hout x hn) htd (hw H locs lm a1 a2 a3 a4 a5)⟩
theorem eI_el {x : Option (Option Value × St)} {f : Int32 → St → Option Rs} (h : RW X ps (eI x f)) : ∃ v S, x = some (some (.int v), S) ∧ RW X ps (f v S) := by
  unfold eI at h
  split at h
  · exact ⟨_, _, rfl, h⟩
  · exact h.elim
theorem eL_el {x : Option (Option Value × St)} {f : Int64 → St → Option Rs} (h : RW X ps (eL x f)) : ∃ v S, x = some (some (.long v), S) ∧ RW X ps (f v S) := by
  unfold eL at h
  split at h
  · exact ⟨_, _, rfl, h⟩
  · exact h.elim
theorem eR_el {x : Option (Option Value × St)} {f : Nat → St → Option Rs} (h : RW X ps (eR x f)) : ∃ v S, x = some (some (.ref v), S) ∧ RW X ps (f v S) := by
  unfold eR at h
  split at h
  · exact ⟨_, _, rfl, h⟩
  · exact h.elim
theorem eV_el {x : Option (Option Value × St)} {f : St → Option Rs} (h : RW X ps (eV x f)) : ∃ S, x = some (none, S) ∧ RW X ps (f S) := by
  unfold eV at h
  split at h
  · exact ⟨_, rfl, h⟩
  · exact h.elim
theorem cn_el {n : Nat} {st : List Value} {x : Option Rs} (h : RW X ps (ckn n st x)) : n ≤ st.length ∧ catS (st.drop n) ≤ 8 ∧ RW X ps x := by
  unfold ckn at h
  cases h1 : Nat.ble n st.length with
  | false => rw [h1] at h; exact h.elim
  | true =>
    cases h2 : Nat.ble (catS (st.drop n)) 8 with
    | false => rw [h1, h2] at h; exact h.elim
    | true => rw [h1, h2] at h; exact ⟨Nat.le_of_ble_eq_true h1, Nat.le_of_ble_eq_true h2, h⟩
theorem hdR_el {as : List Value} {f : Nat → Option Rs} (h : RW X ps (hdR as f)) : ∃ a as', as = .ref a :: as' ∧ RW X ps (f a) := by
  unfold hdR at h
  split at h
  · exact ⟨_, _, rfl, h⟩
  · exact h.elim
theorem PRE_blind {base : Nat} {Hb : Heap} {D : va_G} {ck : Nat → ClassId} {ad : Nat → Option Nat} {S : St} {av : List Value} : FrameBlind (va_Pc av (PRE base Hb D ck ad S)) := fun a U g mk q => by
  obtain ⟨q0, q1, q2, q3, q4⟩ := q
  exact ⟨q0, q1, q2, q3, TB.same (u := U) (U := U.calling g mk a) rfl rfl q4⟩
theorem goodT0 {y : MethodName} {bytes : ByteArray} {maxL : Nat} {ret : Option FieldType} (h : Cond.code y bytes maxL ret ∈ T0) : GoodIn T0 (.code y bytes maxL ret :: T0) := fun w hw => by
  have : w ∈ T0 := by
    rcases List.mem_cons.mp hw with rfl | hw
    · exact h
    · exact hw
  exact ⟨this, good_of_word (List.mem_filter.mp this).2⟩
/-- behind a call -/
theorem call_W {H : Heap} {locs : List Loc} {lm : Array Slot} {cells slots mc ms : Nat} {st0 rest : List Value} {r : Option Value} {S' : St} {a : Array Value} (hr : va_Run (xp X) (xl X) (xe X) (xR X) (xs X) (xm X) (xa X) (xw X) (xh X) (xc X) H locs cells slots mc ms (F0 (xm X) pc lm st0) rest (QC (xb X) (xD X) (xk X) (xS X) r S' a) (xA X)) (a2 : va_S (xA X) (xs X).heap H locs)
    (kk : ∀ (H1 : Heap) (locs1 : List Loc), HR (xb X) (xD X) (xk X) S' H1 → va_S (xA X) (xs X).heap H1 locs1 → W (xp X) (xl X) (xe X) (xR X) (xs X) (xm X) (xa X) (xw X) (xh X) (xc X) H1 locs1 (cells + mc) (slots + ms) (xQ X) (F0 (xm X) (pc + 3) lm ((r.map (xv X)).toList ++ rest))) :
    W (xp X) (xl X) (xe X) (xR X) (xs X) (xm X) (xa X) (xw X) (xh X) (xc X) H locs cells slots (xQ X) (F0 (xm X) pc lm st0) := by
  intro T hT Xs
  obtain ⟨v, st₀, t, T', L, h0, X', hL, e1, e2, ⟨hv, hp, hz, hk⟩, st⟩ := hr T hT Xs
  cases hv
  rw [h0] at hz hk
  obtain ⟨t2, b1, b2⟩ := kk T'.heap (locs ++ L) (by rw [e1]; exact hp)
    ⟨Nat.le_trans a2.1 (by rw [e1]; exact hz), fun q h1 h2 => by rw [e1, hk q (Nat.lt_of_lt_of_le h1 a2.1) h2]; exact a2.2.1 q h1 h2, fun q hq => by
      rcases List.mem_append.mp hq with h | h
      · exact a2.2.2 q h
      · exact hL q h⟩ T' rfl X'
  exact ⟨t2, st t2 b1, b2⟩
theorem pre_at {S : St} {H : Heap} {locs : List Loc} {cells : Nat} (h : XO X) (a1 : HR (xb X) (xD X) (xk X) S H) (a2 : va_S (xA X) (xs X).heap H locs) (a4 : gZ (x0 X) ≤ gZ S) (hs : H.size ≤ (xs X).heap.size + (gZ S - gZ (x0 X))) : ∀ U : State, U.heap = H → (xs X).WarmedH U.vm → PRE (xb X) (xH X) (xD X) (xk X) (xS X) S U := by
  intro U hU hW
  have hsz := h.sz
  refine ⟨?_, fun q hq => ?_, by rw [hU]; exact a1, TB.warm hW (fun a h1 h2 => by rw [hU]; exact a2.2.1 a h1 h2) h.tb⟩
  · rw [hU]
    have h2 := a2.1
    by_cases e : gZ S = gZ (x0 X)
    · omega
    · have := a1.top (a := gZ S) (by omega) (Nat.le_refl _)
      omega
  · rw [hU, a2.2.1 q (by omega) (by show ¬ xb X + 1 ≤ q; omega)]
    exact h.lo q hq
end GKC
end
section
/-! calls -/
section GKI
variable {X : Cx} {ps : Nat → Nat} {pc : Nat} {k kt kf : K} {cc : ByteArray} {own : String}
/-- what a call gives: the callee's answer and state, nothing else moved -/
def CAW (X : Cx) (pc n : Nat) (st : List Value) (S : St) (r : Option Value) (S' : St) : Prop :=
  (gZ S ≤ gZ S' ∧ gU S ≤ gU S') ∧ ((gZ S' ≤ gZ (xf X) ∧ gU S' ≤ gU (xf X)) → ∀ (H : Heap) (locs : List Loc) (lm : Array Slot), HR (xb X) (xD X) (xk X) S H → va_S (xA X) (xs X).heap H locs → lm.size = xn X → gZ (x0 X) ≤ gZ S → gU (x0 X) ≤ gU S →
    (∀ (H1 : Heap) (locs1 : List Loc), HR (xb X) (xD X) (xk X) S' H1 → va_S (xA X) (xs X).heap H1 locs1 → W (xp X) (xl X) (xe X) (xR X) (xs X) (xm X) (xa X) (xw X) (xh X) (xc X) H1 locs1 (gZ S' - gZ (x0 X)) (gU S' - gU (x0 X)) (xQ X) (F0 (xm X) (pc + 3) lm ((r.map (xv X)).toList ++ (st.drop n).map (xv X)))) →
    W (xp X) (xl X) (xe X) (xR X) (xs X) (xm X) (xa X) (xw X) (xh X) (xc X) H locs (gZ S - gZ (x0 X)) (gU S - gU (x0 X)) (xQ X) (F0 (xm X) pc lm (st.map (xv X))))
def CAs (X : Cx) (orc : Orc) (i n pc : Nat) : Prop := ∀ (st : List Value) (S : St) (r : Option Value) (S' : St), n ≤ st.length → catS (st.drop n) ≤ 8 → orc i (st.take n).reverse S = some (r, S') → CAW X pc n st S r S'
def CAv (X : Cx) (orc : Orc) (i n c pc : Nat) : Prop := ∀ (st : List Value) (S : St) (r : Option Value) (S' : St) (a : Nat) (as : List Value), n ≤ st.length → catS (st.drop n) ≤ 8 → (st.take n).reverse = .ref a :: as → gK S a = c → orc i (st.take n).reverse S = some (r, S') → CAW X pc n st S r S'
def CAn (X : Cx) (orc : Orc) (i n pc : Nat) : Prop := ∀ (st : List Value) (S : St) (r : Option Value) (S' : St) (a : Nat) (as : List Value), n ≤ st.length → catS (st.drop n) ≤ 8 → (st.take n).reverse = .ref a :: as → a ≠ 0 → orc i (st.take n).reverse S = some (r, S') → CAW X pc n st S r S'
theorem goodL {ws : List Cond} (l : List Cond) (hl : ∀ w ∈ l, w ∈ T0) (hw : GoodIn T0 ws) : GoodIn T0 (l ++ ws) := fun w h => by
  rcases List.mem_append.mp h with h | h
  · exact ⟨hl w h, good_of_word (List.mem_filter.mp (hl w h)).2⟩
  · exact hw w h
theorem take_rev {st : List Value} {n : Nat} : (((st.take n).reverse).map (xv X)).reverse ++ (st.drop n).map (xv X) = st.map (xv X) := by
  rw [← List.map_reverse, List.reverse_reverse, ← List.map_append, List.take_append_drop]
theorem take_rev1 {st as : List Value} {n a : Nat} (h : (st.take n).reverse = .ref a :: as) : (as.map (xv X)).reverse ++ xv X (.ref a) :: (st.drop n).map (xv X) = st.map (xv X) := by
  have : as.reverse ++ [Value.ref a] = st.take n := by rw [← List.reverse_cons, ← h, List.reverse_reverse]
  calc (as.map (xv X)).reverse ++ xv X (.ref a) :: (st.drop n).map (xv X) = (as.reverse ++ [Value.ref a]).map (xv X) ++ (st.drop n).map (xv X) := by
        rw [List.map_append, List.map_reverse, List.append_assoc]; rfl
    _ = st.map (xv X) := by rw [this, ← List.map_append, List.take_append_drop]
abbrev Yd (y : MethodName) (n : Nat) : Prop := y.cls ≠ "java/lang/invoke/MethodHandle" ∧ y.cls ≠ "java/lang/invoke/VarHandle" ∧ (parseMethodDescriptor y.desc).map (fun d => d.parameters.length) = some n
abbrev Rd (X : Cx) (d maxL : Nat) : Prop := d + 2 ≤ (xR X).frames ∧ 8 + (maxL + 11) + 64 * (d + 1) ≤ (xR X).locals
theorem ca_s {tab : Mtab} {orc : Orc} {d i n idx maxL : Nat} {y : MethodName} {bytes : ByteArray} {ret : Option FieldType} (h : XM X cc own) (ho : xOS tab X orc d) (hi : tab[i]? = some (y, bytes, maxL, ret)) (hR : Rd X d maxL) (hd : decode cc pc = .ok (.invokestatic idx, 3)) (hl : Cond.methodLink own idx y ∈ T0) (hst : Cond.static y ∈ T0) (hin : Cond.initialized y.cls ∈ T0) (hcd : Cond.code y bytes maxL ret ∈ T0) (hy : Yd y n) : CAs X orc i n pc := by
  intro st S r S'  hn h8  he
  obtain ⟨⟨m1, m2⟩, hMT⟩ := ho i y bytes maxL ret hi _ _ _ _ he
  refine ⟨⟨m1, m2⟩, fun hm H locs lm a1 a2 a3 a4 a5 kk => W_sz fun hs => ?_⟩
  have hrm := h.1.rm
  have hcs := catS_map (xb X) (xS X) (st.drop n)
  refine call_W (r := r) (S' := S') (rest := (st.drop n).map (xv X)) (va_runS (As := ((st.take n).reverse).map (xv X)) ⟨h.1.ex, h.by, h.1.ml, h.ow, h.1.ts⟩ hMT (va_cwS n h.1.ts (goodL _ (fun w hw => by
      rcases List.mem_cons.mp hw with rfl | hw
      · exact hl
      · rcases List.mem_cons.mp hw with rfl | hw
        · exact hst
        · rw [List.mem_singleton.mp hw]; exact hin) (goodT0 hcd)) rfl rfl rfl hy ⟨by show d + 1 + 1 ≤ _; omega, by show _ + 64 * (d + 1) ≤ _; exact hR.2⟩) ⟨PRE_blind, fun U hU hW => ⟨rfl, pre_at (cells := 0) h.1 a1 a2 a4 hs U hU hW⟩⟩ rfl (by simp; omega) a3 (by rw [take_rev]) (by show 2 * 0 + _ ≤ 8; rw [hcs]; omega) hd ⟨by omega, by omega⟩) a2 (fun H1 locs1 b1 b2 => ?_)
  have e1 : gZ S - gZ (x0 X) + (gZ S' - gZ S) = gZ S' - gZ (x0 X) := by omega
  have e2 : gU S - gU (x0 X) + (gU S' - gU S) = gU S' - gU (x0 X) := by omega
  rw [e1, e2]
  exact kk H1 locs1 b1 b2
theorem ca_v {tab : Mtab} {orc : Orc} {d i n c idx maxL : Nat} {C : String} {T : u_T} {y : MethodName} {bytes : ByteArray} {ret : Option FieldType} (h : XM X cc own) (ho : xOS tab X orc d) (hi : tab[i]? = some (y, bytes, maxL, ret)) (hR : Rd X d maxL) (hC : CK c C T) (hd : decode cc pc = .ok (.invokevirtual idx, 3)) (hl : Cond.methodLink own idx y ∈ T0) (hins : Cond.instanceMethod y ∈ T0) (hse : Cond.selects C y y ∈ T0) (hin : Cond.initialized C ∈ T0) (hcd : Cond.code y bytes maxL ret ∈ T0) (hyc : y.cls = C) (hy : Yd y (n - 1)) (hn1 : 0 < n) : CAv X orc i n c pc := by
  intro st S r S' a as hn h8 has hka he
  obtain ⟨⟨m1, m2⟩, hMT⟩ := ho i y bytes maxL ret hi _ _ _ _ he
  refine ⟨⟨m1, m2⟩, fun hm H locs lm a1 a2 a3 a4 a5 kk => W_sz fun hs => ?_⟩
  have hrm := h.1.rm
  have hcs := catS_map (xb X) (xS X) (st.drop n)
  obtain ⟨p0, p1⟩ := a1.live hka (by have := hC.2.1; omega)
  have hw := wl_get (base := xb X) (ck := xk X) p0 p1
  rw [ce_obj hka hC.2.1] at hw
  rw [has] at hMT
  have hlen : as.length = n - 1 := by
    have := congrArg List.length has
    simp at this
    omega
  refine call_W (r := r) (S' := S') (rest := (st.drop n).map (xv X)) (va_runV (C := C) (b := xb X + a) (As := as.map (xv X)) ⟨h.1.ex, h.by, h.1.ml, h.ow, h.1.ts⟩ hMT (cwV (n - 1) h.1.ts (goodL _ (fun w hw => by
      rcases List.mem_cons.mp hw with rfl | hw
      · exact hl
      · rcases List.mem_cons.mp hw with rfl | hw
        · exact hins
        · rcases List.mem_cons.mp hw with rfl | hw
          · exact hse
          · rw [List.mem_singleton.mp hw]; exact hin) (goodT0 hcd)) rfl rfl rfl ⟨hyc, hy⟩ ⟨by show d + 1 + 1 ≤ _; omega, by show _ + 64 * (d + 1) ≤ _; exact hR.2⟩) ⟨PRE_blind, va_recv h.1.tb.1 a1.1 hC.1 hw, fun U hU hW => ⟨by rw [List.map_cons, show cv (xb X) (xS X) (.ref a) = .ref (xb X + a) from xv_ref p0], pre_at (cells := 0) h.1 a1 a2 a4 hs U hU hW⟩⟩ rfl (by simp; omega) a3 (by rw [← xv_ref (X := X) p0, take_rev1 has]) (by show 2 * 0 + _ ≤ 8; rw [hcs]; omega) hd ⟨by omega, by omega⟩) a2 (fun H1 locs1 b1 b2 => ?_)
  have e1 : gZ S - gZ (x0 X) + (gZ S' - gZ S) = gZ S' - gZ (x0 X) := by omega
  have e2 : gU S - gU (x0 X) + (gU S' - gU S) = gU S' - gU (x0 X) := by omega
  rw [e1, e2]
  exact kk H1 locs1 b1 b2
theorem ca_vN {tab : Mtab} {orc : Orc} {d i n c idx maxL : Nat} {C : String} {T : u_T} {y : MethodName} {bytes : ByteArray} {ret : Option FieldType} (h : XM X cc own) (ho : xOS tab X orc d) (hi : tab[i]? = some (y, bytes, maxL, ret)) (hR : Rd X d maxL) (hC : CK c C T) (hd : decode cc pc = .ok (.invokevirtual idx, 3)) (hl : Cond.methodLinkNest own idx y "TruceWall" ∈ nwl) (hins : Cond.instanceMethod y ∈ T0) (hse : Cond.selects C y y ∈ T0) (hin : Cond.initialized C ∈ T0) (hcd : Cond.code y bytes maxL ret ∈ T0) (hyc : y.cls = C) (hy : Yd y (n - 1)) (hn1 : 0 < n) : CAv X orc i n c pc := by
  intro st S r S' a as hn h8 has hka he
  obtain ⟨⟨m1, m2⟩, hMT⟩ := ho i y bytes maxL ret hi _ _ _ _ he
  refine ⟨⟨m1, m2⟩, fun hm H locs lm a1 a2 a3 a4 a5 kk => W_sz fun hs => ?_⟩
  have hrm := h.1.rm
  have hcs := catS_map (xb X) (xS X) (st.drop n)
  obtain ⟨p0, p1⟩ := a1.live hka (by have := hC.2.1; omega)
  have hw := wl_get (base := xb X) (ck := xk X) p0 p1
  rw [ce_obj hka hC.2.1] at hw
  rw [has] at hMT
  have hlen : as.length = n - 1 := by
    have := congrArg List.length has
    simp at this
    omega
  refine call_W (r := r) (S' := S') (rest := (st.drop n).map (xv X)) (va_runVN (C := C) (b := xb X + a) (As := as.map (xv X)) ⟨h.1.ex, h.by, h.1.ml, h.ow, h.1.ts⟩ hMT (⟨va_cnB (host := "TruceWall") (n - 1) h.1.ts (goodT0 hcd) rfl rfl rfl (h.1.tb.2.1 _ hl) (h.1.ts _ (by rw [hyc]; exact hin)) hy ⟨by show d + 1 + 1 ≤ _; omega, by show _ + 64 * (d + 1) ≤ _; exact hR.2⟩, h.1.ts _ hins, h.1.ts _ hse⟩) ⟨PRE_blind, va_recv h.1.tb.1 a1.1 hC.1 hw, fun U hU hW => ⟨by rw [List.map_cons, show cv (xb X) (xS X) (.ref a) = .ref (xb X + a) from xv_ref p0], pre_at (cells := 0) h.1 a1 a2 a4 hs U hU hW⟩⟩ rfl (by simp; omega) a3 (by rw [← xv_ref (X := X) p0, take_rev1 has]) (by show 2 * 0 + _ ≤ 8; rw [hcs]; omega) hd ⟨by omega, by omega⟩) a2 (fun H1 locs1 b1 b2 => ?_)
  have e1 : gZ S - gZ (x0 X) + (gZ S' - gZ S) = gZ S' - gZ (x0 X) := by omega
  have e2 : gU S - gU (x0 X) + (gU S' - gU S) = gU S' - gU (x0 X) := by omega
  rw [e1, e2]
  exact kk H1 locs1 b1 b2
theorem ca_n {tab : Mtab} {orc : Orc} {d i n idx maxL : Nat} {y : MethodName} {bytes : ByteArray} (h : XM X cc own) (ho : xOS tab X orc d) (hi : tab[i]? = some (y, bytes, maxL, none)) (hR : Rd X d maxL) (hd : decode cc pc = .ok (.invokespecial idx, 3)) (hl : Cond.methodLink own idx y ∈ T0) (hins : Cond.instanceMethod y ∈ T0) (hin : Cond.initialized y.cls ∈ T0) (hcd : Cond.code y bytes maxL none ∈ T0) (hyn : y.name = "<init>") (hy : Yd y (n - 1)) (hn1 : 0 < n) : CAn X orc i n pc := by
  intro st S r S' a as hn h8 has ha0 he
  obtain ⟨⟨m1, m2⟩, hMT⟩ := ho i y bytes maxL none hi _ _ _ _ he
  refine ⟨⟨m1, m2⟩, fun hm H locs lm a1 a2 a3 a4 a5 kk => W_sz fun hs => ?_⟩
  have hrm := h.1.rm
  have hcs := catS_map (xb X) (xS X) (st.drop n)
  have p0 : 0 < a := Nat.pos_of_ne_zero ha0
  rw [has] at hMT
  have hlen : as.length = n - 1 := by
    have := congrArg List.length has
    simp at this
    omega
  refine call_W (r := r) (S' := S') (rest := (st.drop n).map (xv X)) (va_runI (b := xb X + a) (As := as.map (xv X)) ⟨h.1.ex, h.by, h.1.ml, h.ow, h.1.ts⟩ hMT (cwI (n - 1) h.1.ts (goodT0 hcd) rfl rfl rfl (h.1.ts _ hin) (h.1.ts _ hl) (h.1.ts _ hins) hyn hy ⟨by show d + 1 + 1 ≤ _; omega, by show _ + 64 * (d + 1) ≤ _; exact hR.2⟩) ⟨PRE_blind, fun U hU hW => ⟨by rw [List.map_cons, show cv (xb X) (xS X) (.ref a) = .ref (xb X + a) from xv_ref p0], pre_at (cells := 0) h.1 a1 a2 a4 hs U hU hW⟩⟩ rfl (by simp; omega) a3 (by rw [← xv_ref (X := X) p0, take_rev1 has]) (by show 2 * 0 + _ ≤ 8; rw [hcs]; omega) hd ⟨by omega, by omega⟩) a2 (fun H1 locs1 b1 b2 => ?_)
  have e1 : gZ S - gZ (x0 X) + (gZ S' - gZ S) = gZ S' - gZ (x0 X) := by omega
  have e2 : gU S - gU (x0 X) + (gU S' - gU S) = gU S' - gU (x0 X) := by omega
  rw [e1, e2]
  exact kk H1 locs1 b1 b2
theorem ca_nN {tab : Mtab} {orc : Orc} {d i n idx maxL : Nat} {y : MethodName} {bytes : ByteArray} (h : XM X cc own) (ho : xOS tab X orc d) (hi : tab[i]? = some (y, bytes, maxL, none)) (hR : Rd X d maxL) (hd : decode cc pc = .ok (.invokespecial idx, 3)) (hl : Cond.methodLinkNest own idx y "TruceWall" ∈ nwl) (hins : Cond.instanceMethod y ∈ T0) (hin : Cond.initialized y.cls ∈ T0) (hcd : Cond.code y bytes maxL none ∈ T0) (hyn : y.name = "<init>") (hy : Yd y (n - 1)) (hn1 : 0 < n) : CAn X orc i n pc := by
  intro st S r S' a as hn h8 has ha0 he
  obtain ⟨⟨m1, m2⟩, hMT⟩ := ho i y bytes maxL none hi _ _ _ _ he
  refine ⟨⟨m1, m2⟩, fun hm H locs lm a1 a2 a3 a4 a5 kk => W_sz fun hs => ?_⟩
  have hrm := h.1.rm
  have hcs := catS_map (xb X) (xS X) (st.drop n)
  have p0 : 0 < a := Nat.pos_of_ne_zero ha0
  rw [has] at hMT
  have hlen : as.length = n - 1 := by
    have := congrArg List.length has
    simp at this
    omega
  refine call_W (r := r) (S' := S') (rest := (st.drop n).map (xv X)) (va_runIN (b := xb X + a) (As := as.map (xv X)) ⟨h.1.ex, h.by, h.1.ml, h.ow, h.1.ts⟩ hMT (⟨va_cnB (host := "TruceWall") (n - 1) h.1.ts (goodT0 hcd) rfl rfl rfl (h.1.tb.2.1 _ hl) (h.1.ts _ hin) hy ⟨by show d + 1 + 1 ≤ _; omega, by show _ + 64 * (d + 1) ≤ _; exact hR.2⟩, hyn, h.1.ts _ hins⟩) ⟨PRE_blind, fun U hU hW => ⟨by rw [List.map_cons, show cv (xb X) (xS X) (.ref a) = .ref (xb X + a) from xv_ref p0], pre_at (cells := 0) h.1 a1 a2 a4 hs U hU hW⟩⟩ rfl (by simp; omega) a3 (by rw [← xv_ref (X := X) p0, take_rev1 has]) (by show 2 * 0 + _ ≤ 8; rw [hcs]; omega) hd ⟨by omega, by omega⟩) a2 (fun H1 locs1 b1 b2 => ?_)
  have e1 : gZ S - gZ (x0 X) + (gZ S' - gZ S) = gZ S' - gZ (x0 X) := by omega
  have e2 : gU S - gU (x0 X) + (gU S' - gU S) = gU S' - gU (x0 X) := by omega
  rw [e1, e2]
  exact kk H1 locs1 b1 b2
theorem gk_sI {orc : Orc} {i n : Nat} (hc : CAs X orc i n pc) (hk : GK X ps (pc + 3) k) : GK X ps pc (o_sI orc i n k) := by
  intro ls st S hr
  obtain ⟨hn, h8, r1⟩ := cn_el hr
  obtain ⟨v, S1, he, r2⟩ := eI_el r1
  obtain ⟨hm, hw⟩ := hk _ _ _ r2
  obtain ⟨hm1, hw1⟩ := hc st S _ S1 hn h8 he
  exact ⟨⟨by omega, by omega⟩, fun H locs lm a1 a2 a3 a4 a5 => hw1 hm H locs lm a1 a2 a3.1 a4 a5 (fun H1 locs1 b1 b2 => hw H1 locs1 lm b1 b2 a3 (by omega) (by omega))⟩
theorem gk_vI {orc : Orc} {i n c : Nat} (hc : CAv X orc i n c pc) (hk : GK X ps (pc + 3) k) : GK X ps pc (o_vI orc i n c k) := by
  intro ls st S hr
  obtain ⟨a, as, has, r0⟩ := hdR_el hr
  obtain ⟨hka, r00⟩ := if_el r0
  obtain ⟨hn, h8, r1⟩ := cn_el r00
  obtain ⟨v, S1, he, r2⟩ := eI_el r1
  obtain ⟨hm, hw⟩ := hk _ _ _ r2
  obtain ⟨hm1, hw1⟩ := hc st S _ S1 a as hn h8 has hka he
  exact ⟨⟨by omega, by omega⟩, fun H locs lm a1 a2 a3 a4 a5 => hw1 hm H locs lm a1 a2 a3.1 a4 a5 (fun H1 locs1 b1 b2 => hw H1 locs1 lm b1 b2 a3 (by omega) (by omega))⟩
theorem gk_sL {orc : Orc} {i n : Nat} (hc : CAs X orc i n pc) (hk : GK X ps (pc + 3) k) : GK X ps pc (o_sL orc i n k) := by
  intro ls st S hr
  obtain ⟨hn, h8, r1⟩ := cn_el hr
  obtain ⟨v, S1, he, r2⟩ := eL_el r1
  obtain ⟨hm, hw⟩ := hk _ _ _ r2
  obtain ⟨hm1, hw1⟩ := hc st S _ S1 hn h8 he
  exact ⟨⟨by omega, by omega⟩, fun H locs lm a1 a2 a3 a4 a5 => hw1 hm H locs lm a1 a2 a3.1 a4 a5 (fun H1 locs1 b1 b2 => hw H1 locs1 lm b1 b2 a3 (by omega) (by omega))⟩
theorem gk_vL {orc : Orc} {i n c : Nat} (hc : CAv X orc i n c pc) (hk : GK X ps (pc + 3) k) : GK X ps pc (o_vL orc i n c k) := by
  intro ls st S hr
  obtain ⟨a, as, has, r0⟩ := hdR_el hr
  obtain ⟨hka, r00⟩ := if_el r0
  obtain ⟨hn, h8, r1⟩ := cn_el r00
  obtain ⟨v, S1, he, r2⟩ := eL_el r1
  obtain ⟨hm, hw⟩ := hk _ _ _ r2
  obtain ⟨hm1, hw1⟩ := hc st S _ S1 a as hn h8 has hka he
  exact ⟨⟨by omega, by omega⟩, fun H locs lm a1 a2 a3 a4 a5 => hw1 hm H locs lm a1 a2 a3.1 a4 a5 (fun H1 locs1 b1 b2 => hw H1 locs1 lm b1 b2 a3 (by omega) (by omega))⟩
theorem gk_sR {orc : Orc} {i n : Nat} (hc : CAs X orc i n pc) (hk : GK X ps (pc + 3) k) : GK X ps pc (o_sR orc i n k) := by
  intro ls st S hr
  obtain ⟨hn, h8, r1⟩ := cn_el hr
  obtain ⟨v, S1, he, r2⟩ := eR_el r1
  obtain ⟨hm, hw⟩ := hk _ _ _ r2
  obtain ⟨hm1, hw1⟩ := hc st S _ S1 hn h8 he
  exact ⟨⟨by omega, by omega⟩, fun H locs lm a1 a2 a3 a4 a5 => hw1 hm H locs lm a1 a2 a3.1 a4 a5 (fun H1 locs1 b1 b2 => hw H1 locs1 lm b1 b2 a3 (by omega) (by omega))⟩
theorem gk_vR {orc : Orc} {i n c : Nat} (hc : CAv X orc i n c pc) (hk : GK X ps (pc + 3) k) : GK X ps pc (o_vR orc i n c k) := by
  intro ls st S hr
  obtain ⟨a, as, has, r0⟩ := hdR_el hr
  obtain ⟨hka, r00⟩ := if_el r0
  obtain ⟨hn, h8, r1⟩ := cn_el r00
  obtain ⟨v, S1, he, r2⟩ := eR_el r1
  obtain ⟨hm, hw⟩ := hk _ _ _ r2
  obtain ⟨hm1, hw1⟩ := hc st S _ S1 a as hn h8 has hka he
  exact ⟨⟨by omega, by omega⟩, fun H locs lm a1 a2 a3 a4 a5 => hw1 hm H locs lm a1 a2 a3.1 a4 a5 (fun H1 locs1 b1 b2 => hw H1 locs1 lm b1 b2 a3 (by omega) (by omega))⟩
theorem gk_sV {orc : Orc} {i n : Nat} (hc : CAs X orc i n pc) (hk : GK X ps (pc + 3) k) : GK X ps pc (o_sV orc i n k) := by
  intro ls st S hr
  obtain ⟨hn, h8, r1⟩ := cn_el hr
  obtain ⟨S1, he, r2⟩ := eV_el r1
  obtain ⟨hm, hw⟩ := hk _ _ _ r2
  obtain ⟨hm1, hw1⟩ := hc st S _ S1 hn h8 he
  exact ⟨⟨by omega, by omega⟩, fun H locs lm a1 a2 a3 a4 a5 => hw1 hm H locs lm a1 a2 a3.1 a4 a5 (fun H1 locs1 b1 b2 => hw H1 locs1 lm b1 b2 a3 (by omega) (by omega))⟩
theorem gk_vV {orc : Orc} {i n c : Nat} (hc : CAv X orc i n c pc) (hk : GK X ps (pc + 3) k) : GK X ps pc (o_vV orc i n c k) := by
  intro ls st S hr
  obtain ⟨a, as, has, r0⟩ := hdR_el hr
  obtain ⟨hka, r00⟩ := if_el r0
  obtain ⟨hn, h8, r1⟩ := cn_el r00
  obtain ⟨S1, he, r2⟩ := eV_el r1
  obtain ⟨hm, hw⟩ := hk _ _ _ r2
  obtain ⟨hm1, hw1⟩ := hc st S _ S1 a as hn h8 has hka he
  exact ⟨⟨by omega, by omega⟩, fun H locs lm a1 a2 a3 a4 a5 => hw1 hm H locs lm a1 a2 a3.1 a4 a5 (fun H1 locs1 b1 b2 => hw H1 locs1 lm b1 b2 a3 (by omega) (by omega))⟩
theorem gk_nV {orc : Orc} {i n : Nat} (hc : CAn X orc i n pc) (hk : GK X ps (pc + 3) k) : GK X ps pc (o_nV orc i n k) := by
  intro ls st S hr
  obtain ⟨a, as, has, r0⟩ := hdR_el hr
  obtain ⟨ha0, r00⟩ := fi_el r0
  obtain ⟨hn, h8, r1⟩ := cn_el r00
  obtain ⟨S1, he, r2⟩ := eV_el r1
  obtain ⟨hm, hw⟩ := hk _ _ _ r2
  obtain ⟨hm1, hw1⟩ := hc st S _ S1 a as hn h8 has ha0 he
  exact ⟨⟨by omega, by omega⟩, fun H locs lm a1 a2 a3 a4 a5 => hw1 hm H locs lm a1 a2 a3.1 a4 a5 (fun H1 locs1 b1 b2 => hw H1 locs1 lm b1 b2 a3 (by omega) (by omega))⟩
end GKI
end
section
/-! A METHOD'S RUN: block after block -/
abbrev Cf : Type := Nat × List Value × List Value × St
def exN (md : Nat → K) : Nat → Cf → Option (Option Value × St)
  | 0, _ => none
  | n + 1, c => match md c.1 c.2.1 c.2.2.1 c.2.2.2 with
    | none => none
    | some (.inl c') => exN md n c'
    | some (.inr r) => some r
theorem exN_s (md : Nat → K) (n : Nat) (c : Cf) : exN md (n + 1) c = match md c.1 c.2.1 c.2.2.1 c.2.2.2 with
    | none => none
    | some (.inl c') => exN md n c'
    | some (.inr r) => some r := rfl
theorem exN_up {md : Nat → K} : ∀ {n : Nat} {c : Cf} {r : Option Value × St}, exN md n c = some r → exN md (n + 1) c = some r
  | 0, c, r, h => by cases h
  | n + 1, c, r, h => by
    rw [exN_s] at h ⊢
    cases he : md c.1 c.2.1 c.2.2.1 c.2.2.2 with
    | none => rw [he] at h; cases h
    | some q =>
      rw [he] at h
      cases q with
      | inl c' => exact exN_up h
      | inr r' => exact h
theorem exN_le {md : Nat → K} {n m : Nat} {c : Cf} {r : Option Value × St} (h : exN md n c = some r) (hm : n ≤ m) : exN md m c = some r := by
  induction hm with
  | refl => exact h
  | step _ ih => exact exN_up ih
def Ev (md : Nat → K) (c : Cf) (r : Option Value × St) : Prop := ∃ n, exN md n c = some r
theorem Ev.det {md : Nat → K} {c : Cf} {r r' : Option Value × St} (h : Ev md c r) (h' : Ev md c r') : r = r' := by
  obtain ⟨n, hn⟩ := h
  obtain ⟨m, hm⟩ := h'
  exact Option.some.inj ((exN_le hn (Nat.le_max_left n m)).symm.trans (exN_le hm (Nat.le_max_right n m)))
theorem Ev.step {md : Nat → K} {b : Nat} {ls st : List Value} {S : St} {c' : Cf} {r : Option Value × St} (h : md b ls st S = some (.inl c')) (h' : Ev md c' r) : Ev md (b, ls, st, S) r := by
  obtain ⟨n, hn⟩ := h'
  refine ⟨n + 1, ?_⟩
  unfold exN
  simp only [h]
  exact hn
theorem Ev.done {md : Nat → K} {b : Nat} {ls st : List Value} {S : St} {r : Option Value × St} (h : md b ls st S = some (.inr r)) : Ev md (b, ls, st, S) r := by
  refine ⟨1, ?_⟩
  unfold exN
  simp only [h]
/-- the arguments as locals -/
def xL : List Value → List Value
  | [] => []
  | v :: vs => if isL v then v :: .null :: xL vs else v :: xL vs
def en (n : Nat) (as : List Value) : List Value := xL as ++ List.replicate (n - (xL as).length) .null
/-- what a run must come to: no cell is lost; and the arguments are not too many -/
def Evm (prog : Nat → Orc → Nat → K) (mx : Nat → Nat) (orc : Orc) (i : Nat) (as : List Value) (S : St) (r : Option Value × St) : Prop := Ev (prog i orc) (0, en (mx i) as, [], S) r ∧ (gZ S ≤ gZ r.2 ∧ gU S ≤ gU r.2) ∧ Nat.ble (xL as).length (mx i) = true
noncomputable def cF (prog : Nat → Orc → Nat → K) (mx : Nat → Nat) : Nat → Orc
  | 0 => fun _ _ _ => none
  | d + 1 => fun i as S => @dite _ (∃ r, Evm prog mx (cF prog mx d) i as S r) (Classical.propDecidable _) (fun h => some (Classical.choose h)) (fun _ => none)
theorem cF_of {prog : Nat → Orc → Nat → K} {mx : Nat → Nat} {d i : Nat} {as : List Value} {S : St} {r : Option Value × St} (h : Evm prog mx (cF prog mx d) i as S r) : cF prog mx (d + 1) i as S = some r := by
  have hx : ∃ r, Evm prog mx (cF prog mx d) i as S r := ⟨r, h⟩
  unfold cF
  simp only [dif_pos hx]
  rw [(Classical.choose_spec hx).1.det h.1]
theorem cF_ev {prog : Nat → Orc → Nat → K} {mx : Nat → Nat} {d i : Nat} {as : List Value} {S : St} {r : Option Value × St} (h : cF prog mx (d + 1) i as S = some r) : Evm prog mx (cF prog mx d) i as S r := by
  by_cases hx : ∃ r, Evm prog mx (cF prog mx d) i as S r
  · unfold cF at h
    simp only [dif_pos hx] at h
    rw [← Option.some.inj h]
    exact Classical.choose_spec hx
  · unfold cF at h
    simp only [dif_neg hx] at h
    cases h
theorem run_MW {X : Cx} {ps : Nat → Nat} {md : Nat → K} (hg : ∀ b, GK X ps (ps b) (md b)) : ∀ (n : Nat) (c : Cf), exN md n c = some (xr X, xf X) → MW X (ps c.1) c.2.1 c.2.2.1 c.2.2.2
  | 0, c, h => by cases h
  | n + 1, c, h => by
    refine hg c.1 _ _ _ ?_
    unfold exN at h
    split at h
    · cases h
    · rename_i c' he
      rw [he]
      exact run_MW hg n c' h
    · rename_i r' he
      rw [he]
      exact Option.some.inj h
theorem xL_nth {base : Nat} {ad : Nat → Option Nat} : ∀ (as : List Value) (i : Nat), nth (xL as) i ≠ .null → (lg_sl (as.map (cv base ad)))[i]? = some (.val (cv base ad (nth (xL as) i)))
  | [], i, h => absurd rfl h
  | v :: vs, i, h => by
    unfold xL at h ⊢
    have hc := cv_isL base ad v
    by_cases e : isL v = true
    · rw [if_pos e] at h ⊢
      have : lg_sl ((v :: vs).map (cv base ad)) = .val (cv base ad v) :: .second :: lg_sl (vs.map (cv base ad)) := by
        simp [lg_sl, hc.mpr e]
      rw [this]
      match i, h with
      | 0, h => rfl
      | 1, h => exact absurd rfl h
      | i + 2, h => exact xL_nth vs i h
    · rw [if_neg e] at h ⊢
      have : lg_sl ((v :: vs).map (cv base ad)) = .val (cv base ad v) :: lg_sl (vs.map (cv base ad)) := by
        have h2 : ¬ (cv base ad v).category = 2 := fun z => e (hc.mp z)
        simp [lg_sl, h2]
      rw [this]
      match i, h with
      | 0, h => rfl
      | i + 1, h => exact xL_nth vs i h
theorem xL_len {base : Nat} {ad : Nat → Option Nat} : ∀ (as : List Value), (lg_sl (as.map (cv base ad))).length = (xL as).length
  | [] => rfl
  | v :: vs => by
    have hc := cv_isL base ad v
    have ih := xL_len (base := base) (ad := ad) vs
    unfold xL
    by_cases e : isL v = true
    · rw [if_pos e]
      have : lg_sl ((v :: vs).map (cv base ad)) = .val (cv base ad v) :: .second :: lg_sl (vs.map (cv base ad)) := by
        simp [lg_sl, hc.mpr e]
      rw [this]
      simp [ih]
    · rw [if_neg e]
      have : lg_sl ((v :: vs).map (cv base ad)) = .val (cv base ad v) :: lg_sl (vs.map (cv base ad)) := by
        have h2 : ¬ (cv base ad v).category = 2 := fun z => e (hc.mp z)
        simp [lg_sl, h2]
      rw [this]
      simp [ih]
theorem nth_app (l : List Value) (n i : Nat) (h : nth (l ++ List.replicate n .null) i ≠ .null) : nth l i = nth (l ++ List.replicate n .null) i ∧ i < l.length := by
  induction l generalizing i with
  | nil =>
    exfalso
    apply h
    clear h
    induction n generalizing i with
    | zero => rfl
    | succ n ih => cases i with
      | zero => rfl
      | succ i => exact ih i
  | cons v vs ih =>
    cases i with
    | zero => exact ⟨rfl, by simp⟩
    | succ i =>
      have := ih i h
      exact ⟨this.1, by simp; exact this.2⟩
theorem en_lh {base : Nat} {ad : Nat → Option Nat} {as : List Value} {n : Nat} (h : (xL as).length ≤ n) : lh base ad ((lg_sl (as.map (cv base ad)) ++ List.replicate (n - (lg_sl (as.map (cv base ad))).length) Slot.unset).toArray) n (en n as) := by
  have h1 := lv_entry (as.map (cv base ad)) (n := n) (by rw [xL_len]; exact h)
  refine ⟨h1.1, h1.2.1, by simp [en]; omega, fun i hi => ?_⟩
  obtain ⟨e1, e2⟩ := nth_app _ _ i hi
  have hx := xL_nth (base := base) (ad := ad) as i (by rw [e1]; exact hi)
  rw [List.getElem?_toArray, List.getElem?_append_left (by rw [xL_len]; exact e2), hx, e1]
  rfl
/-- a method of the table: its blocks do what its code does -/
def MS (tab : Mtab) (y : MethodName) (bytes : ByteArray) (maxL : Nat) (ret : Option FieldType) (ps : Nat → Nat) (md : Orc → Nat → K) : Prop :=
  ∀ (X : Cx) (orc : Orc) (d : Nat), XM X bytes y.cls → XR X ret → (xh X).name = y.name → xn X = maxL → xOS tab X orc d → Rd X d 45 → ∀ b, GK X ps (ps b) (md orc b)
theorem MT_of {tab : Mtab} {l : Launch} {base : Nat} {Hb : Heap} {D : va_G} {ck : Nat → ClassId} {ad : Nat → Option Nat} {y : MethodName} {bytes : ByteArray} {maxL : Nat} {ret : Option FieldType} {ps : Nat → Nat} {md : Orc → Nat → K} (hy : plainName y.cls = true) (hp0 : ps 0 = 0) (hM : MS tab y bytes maxL ret ps md) {orc : Orc} {d : Nat} (ho : OS tab l base Hb D ck ad orc d) {as : List Value} {S : St} {r : Option Value} {S' : St} (hl : (xL as).length ≤ maxL) (hr : Ev (md orc) (0, en maxL as, [], S) (r, S')) : MT l base Hb D ck ad (d + 1) y bytes maxL ret as S r S' := by
  obtain ⟨n, hn⟩ := hr
  refine Met.ofW (cc := bytes) (maxL := maxL) (ret := ret) hy rfl ?_
  intro p e s m args below meth c s₁ B hml hv
  obtain ⟨rfl, hsz, hlo, hHR, hTB⟩ := hv
  have hts := atoms_spec (ws := .code y bytes maxL ret :: T0) B.pre
  let X : Cx := ((p, l, e, rmD (d + 1) (gZ S' - gZ S) (gU S' - gU S), s, m, (as.map (cv base ad)).toArray, below, meth, c), (MQ below (QC base D ck ad r S') (as.map (cv base ad)).toArray s (gZ S' - gZ S) (gU S' - gU S) (fun q => base + 1 ≤ q), base, Hb, D, ck, ad), (bytes, maxL, y.cls, S, r, S'))
  have hXO : XO X := ⟨B.exec, B.bytes, hml, findClass_of_methodNamed B.named, fun w hw => hts w (List.mem_cons_of_mem _ hw), B.notSynchronized, hTB, ⟨Nat.le_refl _, Nat.le_refl _⟩, ⟨hsz, hlo⟩, by show 1 ≤ d + 1 + 1 ∧ 64 ≤ 64 * (d + 1 + 1); omega⟩
  have hMW := run_MW (hM X orc d ⟨hXO, rfl, rfl⟩ ⟨rfl, B.returns⟩ (name_of_methodNamed B.named B.method).1 rfl ho (by show d + 2 ≤ d + 1 + 1 ∧ 8 + (45 + 11) + 64 * (d + 1) ≤ 64 * (d + 1 + 1); omega)) n (0, en maxL as, [], S) hn
  rw [hp0] at hMW
  rw [lg_entry_eq]
  have hw := hMW.2 s.heap [] _ hHR va_S.rf (en_lh hl) (Nat.le_refl _) (Nat.le_refl _)
  rw [show gZ S - gZ (x0 X) = 0 from Nat.sub_self _, show gU S - gU (x0 X) = 0 from Nat.sub_self _] at hw
  exact hw
/-- every method's blocks do what its code does: then so do all calls, as deep as they go -/
theorem OS_cF {tab : Mtab} {l : Launch} {base : Nat} {Hb : Heap} {D : va_G} {ck : Nat → ClassId} {ad : Nat → Option Nat} {prog : Nat → Orc → Nat → K} {mx : Nat → Nat} (hall : ∀ (i : Nat) (y : MethodName) (bytes : ByteArray) (maxL : Nat) (ret : Option FieldType), tab[i]? = some (y, bytes, maxL, ret) → plainName y.cls = true ∧ mx i = maxL ∧ ∃ ps : Nat → Nat, ps 0 = 0 ∧ MS tab y bytes maxL ret ps (prog i)) : ∀ d, OS tab l base Hb D ck ad (cF prog mx d) d
  | 0 => fun i y bytes maxL ret _ as S r S' h => by cases h
  | d + 1 => fun i y bytes maxL ret hi as S r S' h => by
    obtain ⟨h1, h2, h3⟩ := cF_ev h
    obtain ⟨hy, hm, ps, hp, hM⟩ := hall i y bytes maxL ret hi
    rw [hm] at h1 h3
    exact ⟨h2, MT_of hy hp hM (OS_cF hall d) (Nat.le_of_ble_eq_true h3) h1⟩
end
section
/-! the constant text: its class's own methods, as far as charAt goes -/
abbrev o_bad : K := fun _ _ _ => none
abbrev o_scod (k : K) : K := fun ls st S => tS st fun q st => if q = 0 then k ls (.int 0 :: st) S else none
abbrev o_sval (k : K) : K := fun ls st S => tS st fun q st => if q = 0 then k ls (.retAddr 10 :: st) S else none
abbrev o_slen (k : K) : K := fun ls st S => tS st fun q st => if q = 10 then k ls (.int 102 :: st) S else none
abbrev o_sbald (k : K) : K := fun ls st S => tI st fun j st => tS st fun q st => if q = 10 ∧ inB j 102 then k ls (.int (vkB0.getD j.toNatClampNeg 0) :: st) S else none
abbrev o_cret : K := fun _ st S => rI st fun v => if 0 ≤ v.toInt ∧ v.toInt < 65536 then some (.inr (some (.int v), S)) else none
def hdS (as : List Value) (f : Nat → Option Rs) : Option Rs := match as with
  | .retAddr a :: _ => f a
  | _ => none
abbrev o_wI (orc : Orc) (i n : Nat) (k : K) : K := fun ls st S => hdS (st.take n).reverse fun a => if a = 0 then ckn n st (eI (orc i (st.take n).reverse S) fun v S => k ls (.int v :: st.drop n) S) else none
section GKS2
variable {X : Cx} {ps : Nat → Nat} {pc : Nat} {k : K} {cc : ByteArray} {own : String}
theorem gk_bad : GK X ps pc o_bad := fun _ _ _ hr => hr.elim
theorem hdS_el {as : List Value} {f : Nat → Option Rs} (h : RW X ps (hdS as f)) : ∃ a as', as = .retAddr a :: as' ∧ RW X ps (f a) := by
  unfold hdS at h
  split at h
  · exact ⟨_, _, rfl, h⟩
  · exact h.elim
theorem gk_ldcS (h : XM X cc own) (ho : own = "TruceWall$Reader") (hd : decode cc pc = .ok (.ldc 157, 2)) (hk : GK X ps (pc + 2) k) : GK X ps pc (o_str 0 k) := by
  intro ls st S hr
  obtain ⟨hm, hw⟩ := hk _ _ _ hr
  refine ⟨hm, fun H locs lm a1 a2 a3 a4 a5 => ?_⟩
  obtain ⟨⟨q, qv, e1, e2, h1, h2, h3, h4, h5⟩, h6, h7⟩ := h.1.tb.2.2.2
  have hw := hw H locs lm a1 a2 a3 a4 a5
  rw [List.map_cons, show xv X (.retAddr 0) = .ref q by show va_rf (xS X 0) = _; rw [e1]; rfl] at hw
  exact va_ldcS h.1.ex h.by (by rw [← ho]; exact h.ow) h1 hd hw
theorem gk_gcomp {i : Nat} (h : XM X cc own) (hd : decode cc pc = .ok (.getstatic i, 3)) (hl : Cond.fieldLink own i "java/lang/String" "COMPACT_STRINGS" "Z" ∈ T0) (hk : GK X ps (pc + 3) k) : GK X ps pc (o_iconst 1 k) := by
  intro ls st S hr
  obtain ⟨hm, hw⟩ := hk _ _ _ hr
  refine ⟨hm, fun H locs lm a1 a2 a3 a4 a5 => ?_⟩
  exact va_gets h.1.ex h.by h.1.tb.2.2.2.2.1 a2 h.ow (h.1.ts _ hl) (fun _ z => z) hd (hw H locs lm a1 a2 a3 a4 a5)
theorem gk_gfmt {i : Nat} (h : XM X cc own) (hd : decode cc pc = .ok (.getstatic i, 3)) (hl : Cond.fieldLink own i vk_pre "SIOOBE_FORMATTER" vk_fmt ∈ T0) (hk : GK X ps (pc + 3) k) : GK X ps pc (o_str 20 k) := by
  intro ls st S hr
  obtain ⟨hm, hw⟩ := hk _ _ _ hr
  refine ⟨hm, fun H locs lm a1 a2 a3 a4 a5 => ?_⟩
  exact va_gets h.1.ex h.by h.1.tb.2.2.2.2.2 a2 h.ow (h.1.ts _ hl) (fun _ z => z) hd (hw H locs lm a1 a2 a3 a4 a5)
theorem gk_scod {i : Nat} (h : XM X cc own) (hd : decode cc pc = .ok (.getfield i, 3)) (hl : Cond.fieldLink own i "java/lang/String" "coder" "B" ∈ T0) (hk : GK X ps (pc + 3) k) : GK X ps pc (o_scod k) := by
  intro ls st S hr
  obtain ⟨z, st, rfl, r1⟩ := tS_el hr
  obtain ⟨rfl, r2⟩ := if_el r1
  obtain ⟨hm, hw⟩ := hk _ _ _ r2
  refine ⟨hm, fun H locs lm a1 a2 a3 a4 a5 => ?_⟩
  obtain ⟨⟨q, qv, e1, e2, h1, h2, h3, h4, h5⟩, h6, h7⟩ := h.1.tb.2.2.2
  rw [List.map_cons, show xv X (.retAddr 0) = .ref q by show va_rf (xS X 0) = _; rw [e1]; rfl]
  exact vk_getf h.1.ex h.by h3 a2 h.ow (h.1.ts _ hl) (fun _ z => z) hd (hw H locs lm a1 a2 a3 a4 a5)
theorem gk_sval {i : Nat} (h : XM X cc own) (hd : decode cc pc = .ok (.getfield i, 3)) (hl : Cond.fieldLink own i "java/lang/String" "value" "[B" ∈ T0) (hk : GK X ps (pc + 3) k) : GK X ps pc (o_sval k) := by
  intro ls st S hr
  obtain ⟨z, st, rfl, r1⟩ := tS_el hr
  obtain ⟨rfl, r2⟩ := if_el r1
  obtain ⟨hm, hw⟩ := hk _ _ _ r2
  refine ⟨hm, fun H locs lm a1 a2 a3 a4 a5 => ?_⟩
  obtain ⟨⟨q, qv, e1, e2, h1, h2, h3, h4, h5⟩, h6, h7⟩ := h.1.tb.2.2.2
  have hw := hw H locs lm a1 a2 a3 a4 a5
  rw [List.map_cons, show xv X (.retAddr 10) = .ref qv by show va_rf (xS X 10) = _; rw [e2]; rfl] at hw
  rw [List.map_cons, show xv X (.retAddr 0) = .ref q by show va_rf (xS X 0) = _; rw [e1]; rfl]
  exact vk_getf h.1.ex h.by h4 a2 h.ow (h.1.ts _ hl) (fun _ z => z) hd hw
theorem gk_slen (h : XM X cc own) (hd : decode cc pc = .ok (.arraylength, 1)) (hk : GK X ps (pc + 1) k) : GK X ps pc (o_slen k) := by
  intro ls st S hr
  obtain ⟨z, st, rfl, r1⟩ := tS_el hr
  obtain ⟨rfl, r2⟩ := if_el r1
  obtain ⟨hm, hw⟩ := hk _ _ _ r2
  refine ⟨hm, fun H locs lm a1 a2 a3 a4 a5 => ?_⟩
  obtain ⟨⟨q, qv, e1, e2, h1, h2, h3, h4, h5⟩, h6, h7⟩ := h.1.tb.2.2.2
  rw [List.map_cons, show xv X (.retAddr 10) = .ref qv by show va_rf (xS X 10) = _; rw [e2]; rfl]
  exact va_tlen h.1.ex h.by h5 a2 rfl hd (hw H locs lm a1 a2 a3 a4 a5)
theorem gk_sbald (h : XM X cc own) (hd : decode cc pc = .ok (.baload, 1)) (hk : GK X ps (pc + 1) k) : GK X ps pc (o_sbald k) := by
  intro ls st S hr
  obtain ⟨j, st, rfl, r0⟩ := tI_el hr
  obtain ⟨z, st, rfl, r1⟩ := tS_el r0
  obtain ⟨⟨rfl, hj⟩, r2⟩ := if_el r1
  obtain ⟨hm, hw⟩ := hk _ _ _ r2
  refine ⟨hm, fun H locs lm a1 a2 a3 a4 a5 => ?_⟩
  obtain ⟨⟨q, qv, e1, e2, h1, h2, h3, h4, h5⟩, h6, h7⟩ := h.1.tb.2.2.2
  rw [List.map_cons, List.map_cons, show xv X (.retAddr 10) = .ref qv by show va_rf (xS X 10) = _; rw [e2]; rfl]
  exact va_tb h.1.ex h.by h5 a2 (vp_inB hj) rfl hd (hw H locs lm a1 a2 a3 a4 a5)
theorem gk_cret (h : XM X cc own) (hR : XR X (some .char)) (hd : decode cc pc = .ok (.ireturn, 1)) : GK X ps pc o_cret := by
  intro ls st S hr
  obtain ⟨v, rfl, r0⟩ := rI_el hr
  obtain ⟨hv, r1⟩ := if_el r0
  obtain ⟨e1, e2⟩ := Prod.mk.inj (show (some (Value.int v), S) = (xr X, xf X) from r1)
  subst e2
  refine ⟨⟨Nat.le_refl _, Nat.le_refl _⟩, fun H locs lm a1 a2 a3 a4 a5 => ?_⟩
  rw [hR.1]
  have hn : narrow .char (.int v) = .int v := by
    obtain ⟨j, hj, rfl⟩ := nI_of (x := v) (by rw [Int32.lt_iff_toInt_lt, Int32.toInt_zero]; omega)
    rw [nI_toInt hj] at hv
    exact (pk_charN (q := j) (by omega)).1
  exact W.zret (v := v) h.1.ex h.by hR.2 hn (fun t ht hW => ⟨by rw [← e1]; rfl, by rw [ht]; exact a1, a2.F ht⟩) a2.2.2 hd h.1.lk
def CAw (X : Cx) (orc : Orc) (i n pc : Nat) : Prop := ∀ (st : List Value) (S : St) (r : Option Value) (S' : St) (as : List Value), n ≤ st.length → catS (st.drop n) ≤ 8 → (st.take n).reverse = .retAddr 0 :: as → orc i (st.take n).reverse S = some (r, S') → CAW X pc n st S r S'
theorem take_revS {st as : List Value} {n a : Nat} (h : (st.take n).reverse = .retAddr a :: as) : (as.map (xv X)).reverse ++ xv X (.retAddr a) :: (st.drop n).map (xv X) = st.map (xv X) := by
  have : as.reverse ++ [Value.retAddr a] = st.take n := by rw [← List.reverse_cons, ← h, List.reverse_reverse]
  calc (as.map (xv X)).reverse ++ xv X (.retAddr a) :: (st.drop n).map (xv X) = (as.reverse ++ [Value.retAddr a]).map (xv X) ++ (st.drop n).map (xv X) := by
        rw [List.map_append, List.map_reverse, List.append_assoc]; rfl
    _ = st.map (xv X) := by rw [this, ← List.map_append, List.take_append_drop]
theorem ca_w {tab : Mtab} {orc : Orc} {d i n idx maxL : Nat} {y : MethodName} {bytes : ByteArray} {ret : Option FieldType} (h : XM X cc own) (ho : xOS tab X orc d) (hi : tab[i]? = some (y, bytes, maxL, ret)) (hR : Rd X d maxL) (hd : decode cc pc = .ok (.invokevirtual idx, 3)) (hl : Cond.methodLink own idx y ∈ T0) (hins : Cond.instanceMethod y ∈ T0) (hse : Cond.selects "java/lang/String" y y ∈ T0) (hin : Cond.initialized "java/lang/String" ∈ T0) (hcd : Cond.code y bytes maxL ret ∈ T0) (hyc : y.cls = "java/lang/String") (hy : Yd y (n - 1)) (hn1 : 0 < n) : CAw X orc i n pc := by
  intro st S r S' as hn h8 has he
  obtain ⟨⟨m1, m2⟩, hMT⟩ := ho i y bytes maxL ret hi _ _ _ _ he
  refine ⟨⟨m1, m2⟩, fun hm H locs lm a1 a2 a3 a4 a5 kk => W_sz fun hs => ?_⟩
  have hrm := h.1.rm
  have hcs := catS_map (xb X) (xS X) (st.drop n)
  obtain ⟨⟨q, qv, e1, e2, h1, h2, h3, h4, h5⟩, h6, h7⟩ := h.1.tb.2.2.2
  have hxv : xv X (.retAddr 0) = .ref q := by show va_rf (xS X 0) = _; rw [e1]; rfl
  rw [has] at hMT
  have hlen : as.length = n - 1 := by
    have := congrArg List.length has
    simp at this
    omega
  refine call_W (r := r) (S' := S') (rest := (st.drop n).map (xv X)) (va_runV (C := "java/lang/String") (b := q) (As := as.map (xv X)) ⟨h.1.ex, h.by, h.1.ml, h.ow, h.1.ts⟩ hMT (cwV (n - 1) h.1.ts (goodL _ (fun w hw => by
      rcases List.mem_cons.mp hw with rfl | hw
      · exact hl
      · rcases List.mem_cons.mp hw with rfl | hw
        · exact hins
        · rcases List.mem_cons.mp hw with rfl | hw
          · exact hse
          · rw [List.mem_singleton.mp hw]; exact hin) (goodT0 hcd)) rfl rfl rfl ⟨hyc, hy⟩ ⟨by show d + 1 + 1 ≤ _; omega, by show _ + 64 * (d + 1) ≤ _; exact hR.2⟩) ⟨PRE_blind, va_Orecv h2 a2, fun U hU hW => ⟨by rw [List.map_cons, show cv (xb X) (xS X) (.retAddr 0) = .ref q from hxv], pre_at (cells := 0) h.1 a1 a2 a4 hs U hU hW⟩⟩ rfl (by simp; omega) a3 (by rw [← hxv, take_revS has]) (by show 2 * 0 + _ ≤ 8; rw [hcs]; omega) hd ⟨by omega, by omega⟩) a2 (fun H1 locs1 b1 b2 => ?_)
  have e1 : gZ S - gZ (x0 X) + (gZ S' - gZ S) = gZ S' - gZ (x0 X) := by omega
  have e2 : gU S - gU (x0 X) + (gU S' - gU S) = gU S' - gU (x0 X) := by omega
  rw [e1, e2]
  exact kk H1 locs1 b1 b2
theorem gk_wI {orc : Orc} {i n : Nat} (hc : CAw X orc i n pc) (hk : GK X ps (pc + 3) k) : GK X ps pc (o_wI orc i n k) := by
  intro ls st S hr
  obtain ⟨a, as, has, r0⟩ := hdS_el hr
  obtain ⟨rfl, r00⟩ := if_el r0
  obtain ⟨hn, h8, r1⟩ := cn_el r00
  obtain ⟨v, S1, he, r2⟩ := eI_el r1
  obtain ⟨hm, hw⟩ := hk _ _ _ r2
  obtain ⟨hm1, hw1⟩ := hc st S _ S1 as hn h8 has he
  exact ⟨⟨by omega, by omega⟩, fun H locs lm a1 a2 a3 a4 a5 => hw1 hm H locs lm a1 a2 a3.1 a4 a5 (fun H1 locs1 b1 b2 => hw H1 locs1 lm b1 b2 a3 (by omega) (by omega))⟩
end GKS2
end
section
-- the table of methods: name, code, locals, answer
def mtab : Mtab := [(yX0_ofStone, cX0_ofStone, 3, (some .int)), (yX0_ofGate, cX0_ofGate, 1, (some .int)), (yX0_isGate, cX0_isGate, 1, (some .boolean)), (yX0_stoneOf, cX0_stoneOf, 1, (some .int)), (yX0_columnOf, cX0_columnOf, 1, (some .int)), (yX0_wideOf, cX0_wideOf, 1, (some .int)), (yX1_init, cX1_init, 1, none), (yX1_lay, cX1_lay, 3, none), (yX2_init, cX2_init, 1, none), (yX2_payerIn, cX2_payerIn, 1, (some .int)), (yX2_daysIn, cX2_daysIn, 1, (some .int)), (yX2_later, cX2_later, 1, (some .int)), (yX2_score, cX2_score, 3, (some .int)), (yX2_prepare, cX2_prepare, 5, none), (yX2_outcome, cX2_outcome, 6, (some .int)), (yX2_outcomeByChoice, cX2_outcomeByChoice, 9, (some .int)), (yX2_outcomeByRule, cX2_outcomeByRule, 6, (some .int)), (yX2_actByRule, cX2_actByRule, 9, (some .int)), (yX3_init, cX3_init, 1, none), (yX3_written, cX3_written, 1, (some (.object "TruceWall$Truce"))), (yX3_fineCode, cX3_fineCode, 2, (some (.array .int))), (yX3_readTruce, cX3_readTruce, 4, (some .int)), (yX3_wallLine, cX3_wallLine, 1, none), (yX3_stoneLine, cX3_stoneLine, 4, none), (yX3_gatesLine, cX3_gatesLine, 1, none), (yX3_fineLine, cX3_fineLine, 1, none), (yX3_readE, cX3_readE, 4, none), (yX3_readTest, cX3_readTest, 3, none), (yX3_readSum, cX3_readSum, 4, none), (yX3_readProduct, cX3_readProduct, 3, none), (yX3_readPart, cX3_readPart, 3, none), (yX3_emit, cX3_emit, 2, none), (yX3_wrong, cX3_wrong, 2, none), (yX3_expect, cX3_expect, 2, none), (yX3_expectNumber, cX3_expectNumber, 4, (some .int)), (yX3_expectKind, cX3_expectKind, 2, (some .int)), (yX3_expectName, cX3_expectName, 3, (some .long)), (yX3_step, cX3_step, 2, none), (yX3_stepWord, cX3_stepWord, 3, none), (yX3_knownWord, cX3_knownWord, 6, (some .int)), (yX3_stepNumber, cX3_stepNumber, 2, none), (yX3_isLetter, cX3_isLetter, 1, (some .boolean)), (yX3_isDigit, cX3_isDigit, 1, (some .boolean)), (yX3_isSign, cX3_isSign, 1, (some .boolean)), (yX4_init, cX4_init, 1, none), (yX4_worth, cX4_worth, 9, (some .int)), (yX4_joined, cX4_joined, 3, (some .int)), (yX4_push, cX4_push, 2, none), (yX4_pop, cX4_pop, 1, (some .int)), (yX5_init, cX5_init, 1, none), (yX5_town, cX5_town, 1, (some .int)), (yX5_clear, cX5_clear, 2, none), (yX5_take, cX5_take, 2, none), (yX5_replay, cX5_replay, 4, none), (yX5_perform, cX5_perform, 3, none), (yX5_lodge, cX5_lodge, 11, none), (yX6_init, cX6_init, 2, none), (yX6_heightAt, cX6_heightAt, 4, (some .int)), (yX6_gateAt, cX6_gateAt, 4, (some .int)), (yX6_withPlace, cX6_withPlace, 5, (some .long)), (yX6_power, cX6_power, 4, (some .int)), (yX6_allCandidates, cX6_allCandidates, 7, (some (.array .int))), (yX6_isAsTold, cX6_isAsTold, 5, (some .boolean)), (yX6_twinOf, cX6_twinOf, 2, (some .int)), (yX6_stoneHindrance, cX6_stoneHindrance, 11, (some .int)), (yX6_twinHindrance, cX6_twinHindrance, 5, (some .int)), (yX6_roundStands, cX6_roundStands, 7, (some .boolean)), (yX6_bridgeStands, cX6_bridgeStands, 4, (some .boolean)), (yX6_gateHindrance, cX6_gateHindrance, 5, (some .int)), (yX6_gatesLeft, cX6_gatesLeft, 4, (some .int)), (yX6_withGate, cX6_withGate, 4, (some .long)), (yX6_canDo, cX6_canDo, 6, (some .boolean)), (yX6_gather, cX6_gather, 7, (some .int)), (yX6_after, cX6_after, 10, (some .long)), (yX6_isClosed, cX6_isClosed, 4, (some .boolean)), (yX6_payer, cX6_payer, 4, (some .int)), (yX6_numberOf, cX6_numberOf, 6, (some .int)), (yX6_numberOfLooks, cX6_numberOfLooks, 6, (some .int)), (yX6_wallOf, cX6_wallOf, 8, (some .long)), (yX6_manyNumbers, cX6_manyNumbers, 1, (some .int)), (yX7_init, cX7_init, 1, none), (yX7_spread, cX7_spread, 10, none), (yX7_spreadDay, cX7_spreadDay, 7, (some .boolean)), (yX7_spreadWall, cX7_spreadWall, 10, none), (yX7_unlikeWalls, cX7_unlikeWalls, 5, (some .int)), (yX7_waysTo, cX7_waysTo, 8, (some .int)), (yX8_init, cX8_init, 2, none), (yX8_feed, cX8_feed, 7, (some .int)), (yX8_truce, cX8_truce, 2, (some .int)), (yX8_stone, cX8_stone, 3, (some .int)), (yX8_set, cX8_set, 5, (some .int)), (yX8_leave, cX8_leave, 3, (some .int)), (yX8_fits, cX8_fits, 4, (some .int)), (yX8_undo, cX8_undo, 1, (some .boolean)), (yX8_column, cX8_column, 3, (some .int)), (yX8_act, cX8_act, 4, (some .int)), (yX8_pays, cX8_pays, 1, (some .int)), (yX8_days, cX8_days, 1, (some .int)), (yX8_best, cX8_best, 5, (some .int)), (yX8_holds, cX8_holds, 2, (some .int)), (yX8_mason, cX8_mason, 3, (some .int)), (yX8_reached, cX8_reached, 2, (some .int)), (yX8_histories, cX8_histories, 2, (some .int)), (yX8_lots, cX8_lots, 14, (some .int)), (yX8_mark, cX8_mark, 4, (some .boolean)), (yX8_count, cX8_count, 2, (some .int)), (yX8_takeSigns, cX8_takeSigns, 6, none), (yX8_lookRound, cX8_lookRound, 1, none), (yX8_isOver, cX8_isOver, 1, (some .boolean)), (yX8_gateRefused, cX8_gateRefused, 2, (some .int)), (yX8_outcomeNow, cX8_outcomeNow, 1, (some .int)), (yX8_outcomeBehind, cX8_outcomeBehind, 4, (some .int)), (yX9_init, cX9_init, 1, none), (yX9_thrown, cX9_thrown, 1, (some .int)), (yX9_within, cX9_within, 3, (some .boolean)), (yX9_feed, cX9_feed, 11, (some .int)), (yX9_signAt, cX9_signAt, 2, (some .int)), (yX9_nextToken, cX9_nextToken, 2, none), (yX9_isWord, cX9_isWord, 3, (some .boolean)), (yX9_isSign, cX9_isSign, 2, (some .boolean)), (yX9_fails, cX9_fails, 2, (some .boolean)), (yX9_puts, cX9_puts, 2, none), (yX9_fact, cX9_fact, 1, (some .int)), (yX9_reads, cX9_reads, 6, (some .boolean)), (yX9_opens, cX9_opens, 2, none), (yX9_sums, cX9_sums, 2, none), (yX9_tests, cX9_tests, 3, none), (yX9_worked, cX9_worked, 6, (some .int)), (yX9_isKept, cX9_isKept, 1, (some .boolean)), (yX9_needsNumber, cX9_needsNumber, 3, (some .boolean)), (yX9_ends, cX9_ends, 1, (some .boolean)), (yX9_kindAt, cX9_kindAt, 1, (some .int)), (yX9_readsStone, cX9_readsStone, 3, (some .boolean)), (yX9_readsGates, cX9_readsGates, 1, (some .boolean)), (yX9_readsFine, cX9_readsFine, 1, (some .boolean)), (yX9_readsAll, cX9_readsAll, 2, (some .boolean)), (yX9_moves, cX9_moves, 5, none), (yX9_lays, cX9_lays, 3, none), (yX9_truce, cX9_truce, 1, (some .int)), (yX9_begins, cX9_begins, 1, none), (yX9_nothing, cX9_nothing, 3, none), (yX9_isClosed, cX9_isClosed, 3, (some .boolean)), (yX9_looks, cX9_looks, 3, none), (yX9_isColumn, cX9_isColumn, 2, (some .boolean)), (yX9_otherOf, cX9_otherOf, 2, (some .int)), (yX9_isWide, cX9_isWide, 3, (some .boolean)), (yX9_stands, cX9_stands, 9, (some .boolean)), (yX9_why, cX9_why, 7, (some .int)), (yX9_whyGate, cX9_whyGate, 4, (some .int)), (yX9_nextAct, cX9_nextAct, 5, (some .int)), (yX9_hasAct, cX9_hasAct, 2, (some .boolean)), (yX9_acts, cX9_acts, 4, (some .int)), (yX9_finds, cX9_finds, 5, (some .boolean)), (yX9_sets, cX9_sets, 10, none), (yX9_does, cX9_does, 6, none), (yX9_keeps, cX9_keeps, 2, none), (yX9_stone, cX9_stone, 3, (some .int)), (yX9_set, cX9_set, 5, (some .int)), (yX9_leave, cX9_leave, 3, (some .int)), (yX9_fits, cX9_fits, 4, (some .int)), (yX9_undo, cX9_undo, 2, (some .boolean)), (yX9_column, cX9_column, 3, (some .int)), (yX9_actsNow, cX9_actsNow, 1, (some .int)), (yX9_state, cX9_state, 2, (some .int)), (yX9_act, cX9_act, 3, (some .int)), (yX9_isSmall, cX9_isSmall, 3, (some .boolean)), (yX9_wallOf, cX9_wallOf, 5, (some .int)), (yX9_numberOf, cX9_numberOf, 2, (some .int)), (yX9_laysOut, cX9_laysOut, 6, none), (yX9_copies, cX9_copies, 4, none), (yX9_knows, cX9_knows, 2, none), (yX9_isBetter, cX9_isBetter, 5, (some .boolean)), (yX9_solves, cX9_solves, 9, (some .int)), (yX9_now, cX9_now, 1, (some .int)), (yX9_pays, cX9_pays, 1, (some .int)), (yX9_days, cX9_days, 1, (some .int)), (yX9_behind, cX9_behind, 2, (some .int)), (yX9_best, cX9_best, 4, (some .int)), (yX9_holds, cX9_holds, 3, (some .int)), (yX9_ruled, cX9_ruled, 7, (some .int)), (yX9_masons, cX9_masons, 11, (some .int)), (yX9_mason, cX9_mason, 4, (some .int)), (yX9_goesOn, cX9_goesOn, 5, none), (yX9_reached, cX9_reached, 6, (some .int)), (yX9_histories, cX9_histories, 5, (some .int)), (yX9_draws, cX9_draws, 2, (some .int)), (yX9_lots, cX9_lots, 7, (some .int)), (yX9_mark, cX9_mark, 5, (some .boolean)), (yX9_count, cX9_count, 2, (some .int)), (yJ0_charAt_5068e, cJ0_charAt_5068e, 2, (some .char)), (yJ0_isLatin1_aae02, cJ0_isLatin1_aae02, 1, (some .boolean)), (yJ1_charAt_3b067, cJ1_charAt_3b067, 2, (some .char)), (yJ0_checkIndex_df160, cJ0_checkIndex_df160, 2, none), (yJ3_checkIndex_8e157, cJ3_checkIndex_8e157, 3, (some .int))]
theorem hm_0 : mtab[0]? = some (yX0_ofStone, cX0_ofStone, 3, (some .int)) := rfl
theorem hm_1 : mtab[1]? = some (yX0_ofGate, cX0_ofGate, 1, (some .int)) := rfl
theorem hm_2 : mtab[2]? = some (yX0_isGate, cX0_isGate, 1, (some .boolean)) := rfl
theorem hm_3 : mtab[3]? = some (yX0_stoneOf, cX0_stoneOf, 1, (some .int)) := rfl
theorem hm_4 : mtab[4]? = some (yX0_columnOf, cX0_columnOf, 1, (some .int)) := rfl
theorem hm_5 : mtab[5]? = some (yX0_wideOf, cX0_wideOf, 1, (some .int)) := rfl
theorem hm_6 : mtab[6]? = some (yX1_init, cX1_init, 1, none) := rfl
theorem hm_7 : mtab[7]? = some (yX1_lay, cX1_lay, 3, none) := rfl
theorem hm_8 : mtab[8]? = some (yX2_init, cX2_init, 1, none) := rfl
theorem hm_9 : mtab[9]? = some (yX2_payerIn, cX2_payerIn, 1, (some .int)) := rfl
theorem hm_10 : mtab[10]? = some (yX2_daysIn, cX2_daysIn, 1, (some .int)) := rfl
theorem hm_11 : mtab[11]? = some (yX2_later, cX2_later, 1, (some .int)) := rfl
theorem hm_12 : mtab[12]? = some (yX2_score, cX2_score, 3, (some .int)) := rfl
theorem hm_13 : mtab[13]? = some (yX2_prepare, cX2_prepare, 5, none) := rfl
theorem hm_14 : mtab[14]? = some (yX2_outcome, cX2_outcome, 6, (some .int)) := rfl
theorem hm_15 : mtab[15]? = some (yX2_outcomeByChoice, cX2_outcomeByChoice, 9, (some .int)) := rfl
theorem hm_16 : mtab[16]? = some (yX2_outcomeByRule, cX2_outcomeByRule, 6, (some .int)) := rfl
theorem hm_17 : mtab[17]? = some (yX2_actByRule, cX2_actByRule, 9, (some .int)) := rfl
theorem hm_18 : mtab[18]? = some (yX3_init, cX3_init, 1, none) := rfl
theorem hm_19 : mtab[19]? = some (yX3_written, cX3_written, 1, (some (.object "TruceWall$Truce"))) := rfl
theorem hm_20 : mtab[20]? = some (yX3_fineCode, cX3_fineCode, 2, (some (.array .int))) := rfl
theorem hm_21 : mtab[21]? = some (yX3_readTruce, cX3_readTruce, 4, (some .int)) := rfl
theorem hm_22 : mtab[22]? = some (yX3_wallLine, cX3_wallLine, 1, none) := rfl
theorem hm_23 : mtab[23]? = some (yX3_stoneLine, cX3_stoneLine, 4, none) := rfl
theorem hm_24 : mtab[24]? = some (yX3_gatesLine, cX3_gatesLine, 1, none) := rfl
theorem hm_25 : mtab[25]? = some (yX3_fineLine, cX3_fineLine, 1, none) := rfl
theorem hm_26 : mtab[26]? = some (yX3_readE, cX3_readE, 4, none) := rfl
theorem hm_27 : mtab[27]? = some (yX3_readTest, cX3_readTest, 3, none) := rfl
theorem hm_28 : mtab[28]? = some (yX3_readSum, cX3_readSum, 4, none) := rfl
theorem hm_29 : mtab[29]? = some (yX3_readProduct, cX3_readProduct, 3, none) := rfl
theorem hm_30 : mtab[30]? = some (yX3_readPart, cX3_readPart, 3, none) := rfl
theorem hm_31 : mtab[31]? = some (yX3_emit, cX3_emit, 2, none) := rfl
theorem hm_32 : mtab[32]? = some (yX3_wrong, cX3_wrong, 2, none) := rfl
theorem hm_33 : mtab[33]? = some (yX3_expect, cX3_expect, 2, none) := rfl
theorem hm_34 : mtab[34]? = some (yX3_expectNumber, cX3_expectNumber, 4, (some .int)) := rfl
theorem hm_35 : mtab[35]? = some (yX3_expectKind, cX3_expectKind, 2, (some .int)) := rfl
theorem hm_36 : mtab[36]? = some (yX3_expectName, cX3_expectName, 3, (some .long)) := rfl
theorem hm_37 : mtab[37]? = some (yX3_step, cX3_step, 2, none) := rfl
theorem hm_38 : mtab[38]? = some (yX3_stepWord, cX3_stepWord, 3, none) := rfl
theorem hm_39 : mtab[39]? = some (yX3_knownWord, cX3_knownWord, 6, (some .int)) := rfl
theorem hm_40 : mtab[40]? = some (yX3_stepNumber, cX3_stepNumber, 2, none) := rfl
theorem hm_41 : mtab[41]? = some (yX3_isLetter, cX3_isLetter, 1, (some .boolean)) := rfl
theorem hm_42 : mtab[42]? = some (yX3_isDigit, cX3_isDigit, 1, (some .boolean)) := rfl
theorem hm_43 : mtab[43]? = some (yX3_isSign, cX3_isSign, 1, (some .boolean)) := rfl
theorem hm_44 : mtab[44]? = some (yX4_init, cX4_init, 1, none) := rfl
theorem hm_45 : mtab[45]? = some (yX4_worth, cX4_worth, 9, (some .int)) := rfl
theorem hm_46 : mtab[46]? = some (yX4_joined, cX4_joined, 3, (some .int)) := rfl
theorem hm_47 : mtab[47]? = some (yX4_push, cX4_push, 2, none) := rfl
theorem hm_48 : mtab[48]? = some (yX4_pop, cX4_pop, 1, (some .int)) := rfl
theorem hm_49 : mtab[49]? = some (yX5_init, cX5_init, 1, none) := rfl
theorem hm_50 : mtab[50]? = some (yX5_town, cX5_town, 1, (some .int)) := rfl
theorem hm_51 : mtab[51]? = some (yX5_clear, cX5_clear, 2, none) := rfl
theorem hm_52 : mtab[52]? = some (yX5_take, cX5_take, 2, none) := rfl
theorem hm_53 : mtab[53]? = some (yX5_replay, cX5_replay, 4, none) := rfl
theorem hm_54 : mtab[54]? = some (yX5_perform, cX5_perform, 3, none) := rfl
theorem hm_55 : mtab[55]? = some (yX5_lodge, cX5_lodge, 11, none) := rfl
theorem hm_56 : mtab[56]? = some (yX6_init, cX6_init, 2, none) := rfl
theorem hm_57 : mtab[57]? = some (yX6_heightAt, cX6_heightAt, 4, (some .int)) := rfl
theorem hm_58 : mtab[58]? = some (yX6_gateAt, cX6_gateAt, 4, (some .int)) := rfl
theorem hm_59 : mtab[59]? = some (yX6_withPlace, cX6_withPlace, 5, (some .long)) := rfl
theorem hm_60 : mtab[60]? = some (yX6_power, cX6_power, 4, (some .int)) := rfl
theorem hm_61 : mtab[61]? = some (yX6_allCandidates, cX6_allCandidates, 7, (some (.array .int))) := rfl
theorem hm_62 : mtab[62]? = some (yX6_isAsTold, cX6_isAsTold, 5, (some .boolean)) := rfl
theorem hm_63 : mtab[63]? = some (yX6_twinOf, cX6_twinOf, 2, (some .int)) := rfl
theorem hm_64 : mtab[64]? = some (yX6_stoneHindrance, cX6_stoneHindrance, 11, (some .int)) := rfl
theorem hm_65 : mtab[65]? = some (yX6_twinHindrance, cX6_twinHindrance, 5, (some .int)) := rfl
theorem hm_66 : mtab[66]? = some (yX6_roundStands, cX6_roundStands, 7, (some .boolean)) := rfl
theorem hm_67 : mtab[67]? = some (yX6_bridgeStands, cX6_bridgeStands, 4, (some .boolean)) := rfl
theorem hm_68 : mtab[68]? = some (yX6_gateHindrance, cX6_gateHindrance, 5, (some .int)) := rfl
theorem hm_69 : mtab[69]? = some (yX6_gatesLeft, cX6_gatesLeft, 4, (some .int)) := rfl
theorem hm_70 : mtab[70]? = some (yX6_withGate, cX6_withGate, 4, (some .long)) := rfl
theorem hm_71 : mtab[71]? = some (yX6_canDo, cX6_canDo, 6, (some .boolean)) := rfl
theorem hm_72 : mtab[72]? = some (yX6_gather, cX6_gather, 7, (some .int)) := rfl
theorem hm_73 : mtab[73]? = some (yX6_after, cX6_after, 10, (some .long)) := rfl
theorem hm_74 : mtab[74]? = some (yX6_isClosed, cX6_isClosed, 4, (some .boolean)) := rfl
theorem hm_75 : mtab[75]? = some (yX6_payer, cX6_payer, 4, (some .int)) := rfl
theorem hm_76 : mtab[76]? = some (yX6_numberOf, cX6_numberOf, 6, (some .int)) := rfl
theorem hm_77 : mtab[77]? = some (yX6_numberOfLooks, cX6_numberOfLooks, 6, (some .int)) := rfl
theorem hm_78 : mtab[78]? = some (yX6_wallOf, cX6_wallOf, 8, (some .long)) := rfl
theorem hm_79 : mtab[79]? = some (yX6_manyNumbers, cX6_manyNumbers, 1, (some .int)) := rfl
theorem hm_80 : mtab[80]? = some (yX7_init, cX7_init, 1, none) := rfl
theorem hm_81 : mtab[81]? = some (yX7_spread, cX7_spread, 10, none) := rfl
theorem hm_82 : mtab[82]? = some (yX7_spreadDay, cX7_spreadDay, 7, (some .boolean)) := rfl
theorem hm_83 : mtab[83]? = some (yX7_spreadWall, cX7_spreadWall, 10, none) := rfl
theorem hm_84 : mtab[84]? = some (yX7_unlikeWalls, cX7_unlikeWalls, 5, (some .int)) := rfl
theorem hm_85 : mtab[85]? = some (yX7_waysTo, cX7_waysTo, 8, (some .int)) := rfl
theorem hm_86 : mtab[86]? = some (yX8_init, cX8_init, 2, none) := rfl
theorem hm_87 : mtab[87]? = some (yX8_feed, cX8_feed, 7, (some .int)) := rfl
theorem hm_88 : mtab[88]? = some (yX8_truce, cX8_truce, 2, (some .int)) := rfl
theorem hm_89 : mtab[89]? = some (yX8_stone, cX8_stone, 3, (some .int)) := rfl
theorem hm_90 : mtab[90]? = some (yX8_set, cX8_set, 5, (some .int)) := rfl
theorem hm_91 : mtab[91]? = some (yX8_leave, cX8_leave, 3, (some .int)) := rfl
theorem hm_92 : mtab[92]? = some (yX8_fits, cX8_fits, 4, (some .int)) := rfl
theorem hm_93 : mtab[93]? = some (yX8_undo, cX8_undo, 1, (some .boolean)) := rfl
theorem hm_94 : mtab[94]? = some (yX8_column, cX8_column, 3, (some .int)) := rfl
theorem hm_95 : mtab[95]? = some (yX8_act, cX8_act, 4, (some .int)) := rfl
theorem hm_96 : mtab[96]? = some (yX8_pays, cX8_pays, 1, (some .int)) := rfl
theorem hm_97 : mtab[97]? = some (yX8_days, cX8_days, 1, (some .int)) := rfl
theorem hm_98 : mtab[98]? = some (yX8_best, cX8_best, 5, (some .int)) := rfl
theorem hm_99 : mtab[99]? = some (yX8_holds, cX8_holds, 2, (some .int)) := rfl
theorem hm_100 : mtab[100]? = some (yX8_mason, cX8_mason, 3, (some .int)) := rfl
theorem hm_101 : mtab[101]? = some (yX8_reached, cX8_reached, 2, (some .int)) := rfl
theorem hm_102 : mtab[102]? = some (yX8_histories, cX8_histories, 2, (some .int)) := rfl
theorem hm_103 : mtab[103]? = some (yX8_lots, cX8_lots, 14, (some .int)) := rfl
theorem hm_104 : mtab[104]? = some (yX8_mark, cX8_mark, 4, (some .boolean)) := rfl
theorem hm_105 : mtab[105]? = some (yX8_count, cX8_count, 2, (some .int)) := rfl
theorem hm_106 : mtab[106]? = some (yX8_takeSigns, cX8_takeSigns, 6, none) := rfl
theorem hm_107 : mtab[107]? = some (yX8_lookRound, cX8_lookRound, 1, none) := rfl
theorem hm_108 : mtab[108]? = some (yX8_isOver, cX8_isOver, 1, (some .boolean)) := rfl
theorem hm_109 : mtab[109]? = some (yX8_gateRefused, cX8_gateRefused, 2, (some .int)) := rfl
theorem hm_110 : mtab[110]? = some (yX8_outcomeNow, cX8_outcomeNow, 1, (some .int)) := rfl
theorem hm_111 : mtab[111]? = some (yX8_outcomeBehind, cX8_outcomeBehind, 4, (some .int)) := rfl
theorem hm_112 : mtab[112]? = some (yX9_init, cX9_init, 1, none) := rfl
theorem hm_113 : mtab[113]? = some (yX9_thrown, cX9_thrown, 1, (some .int)) := rfl
theorem hm_114 : mtab[114]? = some (yX9_within, cX9_within, 3, (some .boolean)) := rfl
theorem hm_115 : mtab[115]? = some (yX9_feed, cX9_feed, 11, (some .int)) := rfl
theorem hm_116 : mtab[116]? = some (yX9_signAt, cX9_signAt, 2, (some .int)) := rfl
theorem hm_117 : mtab[117]? = some (yX9_nextToken, cX9_nextToken, 2, none) := rfl
theorem hm_118 : mtab[118]? = some (yX9_isWord, cX9_isWord, 3, (some .boolean)) := rfl
theorem hm_119 : mtab[119]? = some (yX9_isSign, cX9_isSign, 2, (some .boolean)) := rfl
theorem hm_120 : mtab[120]? = some (yX9_fails, cX9_fails, 2, (some .boolean)) := rfl
theorem hm_121 : mtab[121]? = some (yX9_puts, cX9_puts, 2, none) := rfl
theorem hm_122 : mtab[122]? = some (yX9_fact, cX9_fact, 1, (some .int)) := rfl
theorem hm_123 : mtab[123]? = some (yX9_reads, cX9_reads, 6, (some .boolean)) := rfl
theorem hm_124 : mtab[124]? = some (yX9_opens, cX9_opens, 2, none) := rfl
theorem hm_125 : mtab[125]? = some (yX9_sums, cX9_sums, 2, none) := rfl
theorem hm_126 : mtab[126]? = some (yX9_tests, cX9_tests, 3, none) := rfl
theorem hm_127 : mtab[127]? = some (yX9_worked, cX9_worked, 6, (some .int)) := rfl
theorem hm_128 : mtab[128]? = some (yX9_isKept, cX9_isKept, 1, (some .boolean)) := rfl
theorem hm_129 : mtab[129]? = some (yX9_needsNumber, cX9_needsNumber, 3, (some .boolean)) := rfl
theorem hm_130 : mtab[130]? = some (yX9_ends, cX9_ends, 1, (some .boolean)) := rfl
theorem hm_131 : mtab[131]? = some (yX9_kindAt, cX9_kindAt, 1, (some .int)) := rfl
theorem hm_132 : mtab[132]? = some (yX9_readsStone, cX9_readsStone, 3, (some .boolean)) := rfl
theorem hm_133 : mtab[133]? = some (yX9_readsGates, cX9_readsGates, 1, (some .boolean)) := rfl
theorem hm_134 : mtab[134]? = some (yX9_readsFine, cX9_readsFine, 1, (some .boolean)) := rfl
theorem hm_135 : mtab[135]? = some (yX9_readsAll, cX9_readsAll, 2, (some .boolean)) := rfl
theorem hm_136 : mtab[136]? = some (yX9_moves, cX9_moves, 5, none) := rfl
theorem hm_137 : mtab[137]? = some (yX9_lays, cX9_lays, 3, none) := rfl
theorem hm_138 : mtab[138]? = some (yX9_truce, cX9_truce, 1, (some .int)) := rfl
theorem hm_139 : mtab[139]? = some (yX9_begins, cX9_begins, 1, none) := rfl
theorem hm_140 : mtab[140]? = some (yX9_nothing, cX9_nothing, 3, none) := rfl
theorem hm_141 : mtab[141]? = some (yX9_isClosed, cX9_isClosed, 3, (some .boolean)) := rfl
theorem hm_142 : mtab[142]? = some (yX9_looks, cX9_looks, 3, none) := rfl
theorem hm_143 : mtab[143]? = some (yX9_isColumn, cX9_isColumn, 2, (some .boolean)) := rfl
theorem hm_144 : mtab[144]? = some (yX9_otherOf, cX9_otherOf, 2, (some .int)) := rfl
theorem hm_145 : mtab[145]? = some (yX9_isWide, cX9_isWide, 3, (some .boolean)) := rfl
theorem hm_146 : mtab[146]? = some (yX9_stands, cX9_stands, 9, (some .boolean)) := rfl
theorem hm_147 : mtab[147]? = some (yX9_why, cX9_why, 7, (some .int)) := rfl
theorem hm_148 : mtab[148]? = some (yX9_whyGate, cX9_whyGate, 4, (some .int)) := rfl
theorem hm_149 : mtab[149]? = some (yX9_nextAct, cX9_nextAct, 5, (some .int)) := rfl
theorem hm_150 : mtab[150]? = some (yX9_hasAct, cX9_hasAct, 2, (some .boolean)) := rfl
theorem hm_151 : mtab[151]? = some (yX9_acts, cX9_acts, 4, (some .int)) := rfl
theorem hm_152 : mtab[152]? = some (yX9_finds, cX9_finds, 5, (some .boolean)) := rfl
theorem hm_153 : mtab[153]? = some (yX9_sets, cX9_sets, 10, none) := rfl
theorem hm_154 : mtab[154]? = some (yX9_does, cX9_does, 6, none) := rfl
theorem hm_155 : mtab[155]? = some (yX9_keeps, cX9_keeps, 2, none) := rfl
theorem hm_156 : mtab[156]? = some (yX9_stone, cX9_stone, 3, (some .int)) := rfl
theorem hm_157 : mtab[157]? = some (yX9_set, cX9_set, 5, (some .int)) := rfl
theorem hm_158 : mtab[158]? = some (yX9_leave, cX9_leave, 3, (some .int)) := rfl
theorem hm_159 : mtab[159]? = some (yX9_fits, cX9_fits, 4, (some .int)) := rfl
theorem hm_160 : mtab[160]? = some (yX9_undo, cX9_undo, 2, (some .boolean)) := rfl
theorem hm_161 : mtab[161]? = some (yX9_column, cX9_column, 3, (some .int)) := rfl
theorem hm_162 : mtab[162]? = some (yX9_actsNow, cX9_actsNow, 1, (some .int)) := rfl
theorem hm_163 : mtab[163]? = some (yX9_state, cX9_state, 2, (some .int)) := rfl
theorem hm_164 : mtab[164]? = some (yX9_act, cX9_act, 3, (some .int)) := rfl
theorem hm_165 : mtab[165]? = some (yX9_isSmall, cX9_isSmall, 3, (some .boolean)) := rfl
theorem hm_166 : mtab[166]? = some (yX9_wallOf, cX9_wallOf, 5, (some .int)) := rfl
theorem hm_167 : mtab[167]? = some (yX9_numberOf, cX9_numberOf, 2, (some .int)) := rfl
theorem hm_168 : mtab[168]? = some (yX9_laysOut, cX9_laysOut, 6, none) := rfl
theorem hm_169 : mtab[169]? = some (yX9_copies, cX9_copies, 4, none) := rfl
theorem hm_170 : mtab[170]? = some (yX9_knows, cX9_knows, 2, none) := rfl
theorem hm_171 : mtab[171]? = some (yX9_isBetter, cX9_isBetter, 5, (some .boolean)) := rfl
theorem hm_172 : mtab[172]? = some (yX9_solves, cX9_solves, 9, (some .int)) := rfl
theorem hm_173 : mtab[173]? = some (yX9_now, cX9_now, 1, (some .int)) := rfl
theorem hm_174 : mtab[174]? = some (yX9_pays, cX9_pays, 1, (some .int)) := rfl
theorem hm_175 : mtab[175]? = some (yX9_days, cX9_days, 1, (some .int)) := rfl
theorem hm_176 : mtab[176]? = some (yX9_behind, cX9_behind, 2, (some .int)) := rfl
theorem hm_177 : mtab[177]? = some (yX9_best, cX9_best, 4, (some .int)) := rfl
theorem hm_178 : mtab[178]? = some (yX9_holds, cX9_holds, 3, (some .int)) := rfl
theorem hm_179 : mtab[179]? = some (yX9_ruled, cX9_ruled, 7, (some .int)) := rfl
theorem hm_180 : mtab[180]? = some (yX9_masons, cX9_masons, 11, (some .int)) := rfl
theorem hm_181 : mtab[181]? = some (yX9_mason, cX9_mason, 4, (some .int)) := rfl
theorem hm_182 : mtab[182]? = some (yX9_goesOn, cX9_goesOn, 5, none) := rfl
theorem hm_183 : mtab[183]? = some (yX9_reached, cX9_reached, 6, (some .int)) := rfl
theorem hm_184 : mtab[184]? = some (yX9_histories, cX9_histories, 5, (some .int)) := rfl
theorem hm_185 : mtab[185]? = some (yX9_draws, cX9_draws, 2, (some .int)) := rfl
theorem hm_186 : mtab[186]? = some (yX9_lots, cX9_lots, 7, (some .int)) := rfl
theorem hm_187 : mtab[187]? = some (yX9_mark, cX9_mark, 5, (some .boolean)) := rfl
theorem hm_188 : mtab[188]? = some (yX9_count, cX9_count, 2, (some .int)) := rfl
theorem hm_189 : mtab[189]? = some (yJ0_charAt_5068e, cJ0_charAt_5068e, 2, (some .char)) := rfl
theorem hm_190 : mtab[190]? = some (yJ0_isLatin1_aae02, cJ0_isLatin1_aae02, 1, (some .boolean)) := rfl
theorem hm_191 : mtab[191]? = some (yJ1_charAt_3b067, cJ1_charAt_3b067, 2, (some .char)) := rfl
theorem hm_192 : mtab[192]? = some (yJ0_checkIndex_df160, cJ0_checkIndex_df160, 2, none) := rfl
theorem hm_193 : mtab[193]? = some (yJ3_checkIndex_8e157, cJ3_checkIndex_8e157, 3, (some .int)) := rfl
/-- X0_ofStone -/
abbrev i_X0_ofStone : Nat := 0
/-- X0_ofGate -/
abbrev i_X0_ofGate : Nat := 1
/-- X0_isGate -/
abbrev i_X0_isGate : Nat := 2
/-- X0_stoneOf -/
abbrev i_X0_stoneOf : Nat := 3
/-- X0_columnOf -/
abbrev i_X0_columnOf : Nat := 4
/-- X0_wideOf -/
abbrev i_X0_wideOf : Nat := 5
/-- X1_init -/
abbrev i_X1_init : Nat := 6
/-- X1_lay -/
abbrev i_X1_lay : Nat := 7
/-- X2_init -/
abbrev i_X2_init : Nat := 8
/-- X2_payerIn -/
abbrev i_X2_payerIn : Nat := 9
/-- X2_daysIn -/
abbrev i_X2_daysIn : Nat := 10
/-- X2_later -/
abbrev i_X2_later : Nat := 11
/-- X2_score -/
abbrev i_X2_score : Nat := 12
/-- X2_prepare -/
abbrev i_X2_prepare : Nat := 13
/-- X2_outcome -/
abbrev i_X2_outcome : Nat := 14
/-- X2_outcomeByChoice -/
abbrev i_X2_outcomeByChoice : Nat := 15
/-- X2_outcomeByRule -/
abbrev i_X2_outcomeByRule : Nat := 16
/-- X2_actByRule -/
abbrev i_X2_actByRule : Nat := 17
/-- X3_init -/
abbrev i_X3_init : Nat := 18
/-- X3_written -/
abbrev i_X3_written : Nat := 19
/-- X3_fineCode -/
abbrev i_X3_fineCode : Nat := 20
/-- X3_readTruce -/
abbrev i_X3_readTruce : Nat := 21
/-- X3_wallLine -/
abbrev i_X3_wallLine : Nat := 22
/-- X3_stoneLine -/
abbrev i_X3_stoneLine : Nat := 23
/-- X3_gatesLine -/
abbrev i_X3_gatesLine : Nat := 24
/-- X3_fineLine -/
abbrev i_X3_fineLine : Nat := 25
/-- X3_readE -/
abbrev i_X3_readE : Nat := 26
/-- X3_readTest -/
abbrev i_X3_readTest : Nat := 27
/-- X3_readSum -/
abbrev i_X3_readSum : Nat := 28
/-- X3_readProduct -/
abbrev i_X3_readProduct : Nat := 29
/-- X3_readPart -/
abbrev i_X3_readPart : Nat := 30
/-- X3_emit -/
abbrev i_X3_emit : Nat := 31
/-- X3_wrong -/
abbrev i_X3_wrong : Nat := 32
/-- X3_expect -/
abbrev i_X3_expect : Nat := 33
/-- X3_expectNumber -/
abbrev i_X3_expectNumber : Nat := 34
/-- X3_expectKind -/
abbrev i_X3_expectKind : Nat := 35
/-- X3_expectName -/
abbrev i_X3_expectName : Nat := 36
/-- X3_step -/
abbrev i_X3_step : Nat := 37
/-- X3_stepWord -/
abbrev i_X3_stepWord : Nat := 38
/-- X3_knownWord -/
abbrev i_X3_knownWord : Nat := 39
/-- X3_stepNumber -/
abbrev i_X3_stepNumber : Nat := 40
/-- X3_isLetter -/
abbrev i_X3_isLetter : Nat := 41
/-- X3_isDigit -/
abbrev i_X3_isDigit : Nat := 42
/-- X3_isSign -/
abbrev i_X3_isSign : Nat := 43
/-- X4_init -/
abbrev i_X4_init : Nat := 44
/-- X4_worth -/
abbrev i_X4_worth : Nat := 45
/-- X4_joined -/
abbrev i_X4_joined : Nat := 46
/-- X4_push -/
abbrev i_X4_push : Nat := 47
/-- X4_pop -/
abbrev i_X4_pop : Nat := 48
/-- X5_init -/
abbrev i_X5_init : Nat := 49
/-- X5_town -/
abbrev i_X5_town : Nat := 50
/-- X5_clear -/
abbrev i_X5_clear : Nat := 51
/-- X5_take -/
abbrev i_X5_take : Nat := 52
/-- X5_replay -/
abbrev i_X5_replay : Nat := 53
/-- X5_perform -/
abbrev i_X5_perform : Nat := 54
/-- X5_lodge -/
abbrev i_X5_lodge : Nat := 55
/-- X6_init -/
abbrev i_X6_init : Nat := 56
/-- X6_heightAt -/
abbrev i_X6_heightAt : Nat := 57
/-- X6_gateAt -/
abbrev i_X6_gateAt : Nat := 58
/-- X6_withPlace -/
abbrev i_X6_withPlace : Nat := 59
/-- X6_power -/
abbrev i_X6_power : Nat := 60
/-- X6_allCandidates -/
abbrev i_X6_allCandidates : Nat := 61
/-- X6_isAsTold -/
abbrev i_X6_isAsTold : Nat := 62
/-- X6_twinOf -/
abbrev i_X6_twinOf : Nat := 63
/-- X6_stoneHindrance -/
abbrev i_X6_stoneHindrance : Nat := 64
/-- X6_twinHindrance -/
abbrev i_X6_twinHindrance : Nat := 65
/-- X6_roundStands -/
abbrev i_X6_roundStands : Nat := 66
/-- X6_bridgeStands -/
abbrev i_X6_bridgeStands : Nat := 67
/-- X6_gateHindrance -/
abbrev i_X6_gateHindrance : Nat := 68
/-- X6_gatesLeft -/
abbrev i_X6_gatesLeft : Nat := 69
/-- X6_withGate -/
abbrev i_X6_withGate : Nat := 70
/-- X6_canDo -/
abbrev i_X6_canDo : Nat := 71
/-- X6_gather -/
abbrev i_X6_gather : Nat := 72
/-- X6_after -/
abbrev i_X6_after : Nat := 73
/-- X6_isClosed -/
abbrev i_X6_isClosed : Nat := 74
/-- X6_payer -/
abbrev i_X6_payer : Nat := 75
/-- X6_numberOf -/
abbrev i_X6_numberOf : Nat := 76
/-- X6_numberOfLooks -/
abbrev i_X6_numberOfLooks : Nat := 77
/-- X6_wallOf -/
abbrev i_X6_wallOf : Nat := 78
/-- X6_manyNumbers -/
abbrev i_X6_manyNumbers : Nat := 79
/-- X7_init -/
abbrev i_X7_init : Nat := 80
/-- X7_spread -/
abbrev i_X7_spread : Nat := 81
/-- X7_spreadDay -/
abbrev i_X7_spreadDay : Nat := 82
/-- X7_spreadWall -/
abbrev i_X7_spreadWall : Nat := 83
/-- X7_unlikeWalls -/
abbrev i_X7_unlikeWalls : Nat := 84
/-- X7_waysTo -/
abbrev i_X7_waysTo : Nat := 85
/-- X8_init -/
abbrev i_X8_init : Nat := 86
/-- X8_feed -/
abbrev i_X8_feed : Nat := 87
/-- X8_truce -/
abbrev i_X8_truce : Nat := 88
/-- X8_stone -/
abbrev i_X8_stone : Nat := 89
/-- X8_set -/
abbrev i_X8_set : Nat := 90
/-- X8_leave -/
abbrev i_X8_leave : Nat := 91
/-- X8_fits -/
abbrev i_X8_fits : Nat := 92
/-- X8_undo -/
abbrev i_X8_undo : Nat := 93
/-- X8_column -/
abbrev i_X8_column : Nat := 94
/-- X8_act -/
abbrev i_X8_act : Nat := 95
/-- X8_pays -/
abbrev i_X8_pays : Nat := 96
/-- X8_days -/
abbrev i_X8_days : Nat := 97
/-- X8_best -/
abbrev i_X8_best : Nat := 98
/-- X8_holds -/
abbrev i_X8_holds : Nat := 99
/-- X8_mason -/
abbrev i_X8_mason : Nat := 100
/-- X8_reached -/
abbrev i_X8_reached : Nat := 101
/-- X8_histories -/
abbrev i_X8_histories : Nat := 102
/-- X8_lots -/
abbrev i_X8_lots : Nat := 103
/-- X8_mark -/
abbrev i_X8_mark : Nat := 104
/-- X8_count -/
abbrev i_X8_count : Nat := 105
/-- X8_takeSigns -/
abbrev i_X8_takeSigns : Nat := 106
/-- X8_lookRound -/
abbrev i_X8_lookRound : Nat := 107
/-- X8_isOver -/
abbrev i_X8_isOver : Nat := 108
/-- X8_gateRefused -/
abbrev i_X8_gateRefused : Nat := 109
/-- X8_outcomeNow -/
abbrev i_X8_outcomeNow : Nat := 110
/-- X8_outcomeBehind -/
abbrev i_X8_outcomeBehind : Nat := 111
/-- X9_init -/
abbrev i_X9_init : Nat := 112
/-- X9_thrown -/
abbrev i_X9_thrown : Nat := 113
/-- X9_within -/
abbrev i_X9_within : Nat := 114
/-- X9_feed -/
abbrev i_X9_feed : Nat := 115
/-- X9_signAt -/
abbrev i_X9_signAt : Nat := 116
/-- X9_nextToken -/
abbrev i_X9_nextToken : Nat := 117
/-- X9_isWord -/
abbrev i_X9_isWord : Nat := 118
/-- X9_isSign -/
abbrev i_X9_isSign : Nat := 119
/-- X9_fails -/
abbrev i_X9_fails : Nat := 120
/-- X9_puts -/
abbrev i_X9_puts : Nat := 121
/-- X9_fact -/
abbrev i_X9_fact : Nat := 122
/-- X9_reads -/
abbrev i_X9_reads : Nat := 123
/-- X9_opens -/
abbrev i_X9_opens : Nat := 124
/-- X9_sums -/
abbrev i_X9_sums : Nat := 125
/-- X9_tests -/
abbrev i_X9_tests : Nat := 126
/-- X9_worked -/
abbrev i_X9_worked : Nat := 127
/-- X9_isKept -/
abbrev i_X9_isKept : Nat := 128
/-- X9_needsNumber -/
abbrev i_X9_needsNumber : Nat := 129
/-- X9_ends -/
abbrev i_X9_ends : Nat := 130
/-- X9_kindAt -/
abbrev i_X9_kindAt : Nat := 131
/-- X9_readsStone -/
abbrev i_X9_readsStone : Nat := 132
/-- X9_readsGates -/
abbrev i_X9_readsGates : Nat := 133
/-- X9_readsFine -/
abbrev i_X9_readsFine : Nat := 134
/-- X9_readsAll -/
abbrev i_X9_readsAll : Nat := 135
/-- X9_moves -/
abbrev i_X9_moves : Nat := 136
/-- X9_lays -/
abbrev i_X9_lays : Nat := 137
/-- X9_truce -/
abbrev i_X9_truce : Nat := 138
/-- X9_begins -/
abbrev i_X9_begins : Nat := 139
/-- X9_nothing -/
abbrev i_X9_nothing : Nat := 140
/-- X9_isClosed -/
abbrev i_X9_isClosed : Nat := 141
/-- X9_looks -/
abbrev i_X9_looks : Nat := 142
/-- X9_isColumn -/
abbrev i_X9_isColumn : Nat := 143
/-- X9_otherOf -/
abbrev i_X9_otherOf : Nat := 144
/-- X9_isWide -/
abbrev i_X9_isWide : Nat := 145
/-- X9_stands -/
abbrev i_X9_stands : Nat := 146
/-- X9_why -/
abbrev i_X9_why : Nat := 147
/-- X9_whyGate -/
abbrev i_X9_whyGate : Nat := 148
/-- X9_nextAct -/
abbrev i_X9_nextAct : Nat := 149
/-- X9_hasAct -/
abbrev i_X9_hasAct : Nat := 150
/-- X9_acts -/
abbrev i_X9_acts : Nat := 151
/-- X9_finds -/
abbrev i_X9_finds : Nat := 152
/-- X9_sets -/
abbrev i_X9_sets : Nat := 153
/-- X9_does -/
abbrev i_X9_does : Nat := 154
/-- X9_keeps -/
abbrev i_X9_keeps : Nat := 155
/-- X9_stone -/
abbrev i_X9_stone : Nat := 156
/-- X9_set -/
abbrev i_X9_set : Nat := 157
/-- X9_leave -/
abbrev i_X9_leave : Nat := 158
/-- X9_fits -/
abbrev i_X9_fits : Nat := 159
/-- X9_undo -/
abbrev i_X9_undo : Nat := 160
/-- X9_column -/
abbrev i_X9_column : Nat := 161
/-- X9_actsNow -/
abbrev i_X9_actsNow : Nat := 162
/-- X9_state -/
abbrev i_X9_state : Nat := 163
/-- X9_act -/
abbrev i_X9_act : Nat := 164
/-- X9_isSmall -/
abbrev i_X9_isSmall : Nat := 165
/-- X9_wallOf -/
abbrev i_X9_wallOf : Nat := 166
/-- X9_numberOf -/
abbrev i_X9_numberOf : Nat := 167
/-- X9_laysOut -/
abbrev i_X9_laysOut : Nat := 168
/-- X9_copies -/
abbrev i_X9_copies : Nat := 169
/-- X9_knows -/
abbrev i_X9_knows : Nat := 170
/-- X9_isBetter -/
abbrev i_X9_isBetter : Nat := 171
/-- X9_solves -/
abbrev i_X9_solves : Nat := 172
/-- X9_now -/
abbrev i_X9_now : Nat := 173
/-- X9_pays -/
abbrev i_X9_pays : Nat := 174
/-- X9_days -/
abbrev i_X9_days : Nat := 175
/-- X9_behind -/
abbrev i_X9_behind : Nat := 176
/-- X9_best -/
abbrev i_X9_best : Nat := 177
/-- X9_holds -/
abbrev i_X9_holds : Nat := 178
/-- X9_ruled -/
abbrev i_X9_ruled : Nat := 179
/-- X9_masons -/
abbrev i_X9_masons : Nat := 180
/-- X9_mason -/
abbrev i_X9_mason : Nat := 181
/-- X9_goesOn -/
abbrev i_X9_goesOn : Nat := 182
/-- X9_reached -/
abbrev i_X9_reached : Nat := 183
/-- X9_histories -/
abbrev i_X9_histories : Nat := 184
/-- X9_draws -/
abbrev i_X9_draws : Nat := 185
/-- X9_lots -/
abbrev i_X9_lots : Nat := 186
/-- X9_mark -/
abbrev i_X9_mark : Nat := 187
/-- X9_count -/
abbrev i_X9_count : Nat := 188
/-- J0_charAt_5068e -/
abbrev i_J0_charAt_5068e : Nat := 189
/-- J0_isLatin1_aae02 -/
abbrev i_J0_isLatin1_aae02 : Nat := 190
/-- J1_charAt_3b067 -/
abbrev i_J1_charAt_3b067 : Nat := 191
/-- J0_checkIndex_df160 -/
abbrev i_J0_checkIndex_df160 : Nat := 192
/-- J3_checkIndex_8e157 -/
abbrev i_J3_checkIndex_8e157 : Nat := 193
theorem rd_le {X : Cx} {d m : Nat} (h : Rd X d 45) (hm : m ≤ 45) : Rd X d m := ⟨h.1, by have := h.2; omega⟩
theorem ck_0 : CK 0 RX1 TX1 := ⟨rfl, by decide, fun w hw => List.mem_filter.mpr ⟨(by decide +kernel : ∀ w ∈ u_ws RX1 TX1 (nC 0), w ∈ lw_tbl) w hw, (by decide +kernel : ∀ w ∈ u_ws RX1 TX1 (nC 0), goodWord w = true) w hw⟩, tyX1_ok, nmX1⟩
theorem nd_0 : ∀ (base j : Nat), j < nC 0 → defaultValue (tyC 0 j) = fv base (nw (fun _ _ => 0, fun _ _ => 0, fun _ _ => 0, fun _ => (0, 0), 0, 0) 0 (nC 0)) 1 (tyC 0 j) j := by
  intro base j hj
  have hj : j < 3 := hj
  match j, hj with
  | 0, _ => exact rfl
  | 1, _ => exact rfl
  | 2, _ => exact rfl
  | j + 3, hj => exact absurd hj (by omega)
theorem ck_1 : CK 1 RX2 TX2 := ⟨rfl, by decide, fun w hw => List.mem_filter.mpr ⟨(by decide +kernel : ∀ w ∈ u_ws RX2 TX2 (nC 1), w ∈ lw_tbl) w hw, (by decide +kernel : ∀ w ∈ u_ws RX2 TX2 (nC 1), goodWord w = true) w hw⟩, tyX2_ok, nmX2⟩
theorem nd_1 : ∀ (base j : Nat), j < nC 1 → defaultValue (tyC 1 j) = fv base (nw (fun _ _ => 0, fun _ _ => 0, fun _ _ => 0, fun _ => (0, 0), 0, 0) 1 (nC 1)) 1 (tyC 1 j) j := by
  intro base j hj
  have hj : j < 4 := hj
  match j, hj with
  | 0, _ => exact rfl
  | 1, _ => exact rfl
  | 2, _ => exact rfl
  | 3, _ => exact rfl
  | j + 4, hj => exact absurd hj (by omega)
theorem ck_2 : CK 2 RX3 TX3 := ⟨rfl, by decide, fun w hw => List.mem_filter.mpr ⟨(by decide +kernel : ∀ w ∈ u_ws RX3 TX3 (nC 2), w ∈ lw_tbl) w hw, (by decide +kernel : ∀ w ∈ u_ws RX3 TX3 (nC 2), goodWord w = true) w hw⟩, tyX3_ok, nmX3⟩
theorem nd_2 : ∀ (base j : Nat), j < nC 2 → defaultValue (tyC 2 j) = fv base (nw (fun _ _ => 0, fun _ _ => 0, fun _ _ => 0, fun _ => (0, 0), 0, 0) 2 (nC 2)) 1 (tyC 2 j) j := by
  intro base j hj
  have hj : j < 19 := hj
  match j, hj with
  | 0, _ => exact rfl
  | 1, _ => exact rfl
  | 2, _ => exact rfl
  | 3, _ => exact rfl
  | 4, _ => exact rfl
  | 5, _ => exact rfl
  | 6, _ => exact rfl
  | 7, _ => exact rfl
  | 8, _ => exact rfl
  | 9, _ => exact rfl
  | 10, _ => exact rfl
  | 11, _ => exact rfl
  | 12, _ => exact rfl
  | 13, _ => exact rfl
  | 14, _ => exact rfl
  | 15, _ => exact rfl
  | 16, _ => exact rfl
  | 17, _ => exact rfl
  | 18, _ => exact rfl
  | j + 19, hj => exact absurd hj (by omega)
theorem ck_3 : CK 3 RX4 TX4 := ⟨rfl, by decide, fun w hw => List.mem_filter.mpr ⟨(by decide +kernel : ∀ w ∈ u_ws RX4 TX4 (nC 3), w ∈ lw_tbl) w hw, (by decide +kernel : ∀ w ∈ u_ws RX4 TX4 (nC 3), goodWord w = true) w hw⟩, tyX4_ok, nmX4⟩
theorem nd_3 : ∀ (base j : Nat), j < nC 3 → defaultValue (tyC 3 j) = fv base (nw (fun _ _ => 0, fun _ _ => 0, fun _ _ => 0, fun _ => (0, 0), 0, 0) 3 (nC 3)) 1 (tyC 3 j) j := by
  intro base j hj
  have hj : j < 2 := hj
  match j, hj with
  | 0, _ => exact rfl
  | 1, _ => exact rfl
  | j + 2, hj => exact absurd hj (by omega)
theorem ck_4 : CK 4 RX5 TX5 := ⟨rfl, by decide, fun w hw => List.mem_filter.mpr ⟨(by decide +kernel : ∀ w ∈ u_ws RX5 TX5 (nC 4), w ∈ lw_tbl) w hw, (by decide +kernel : ∀ w ∈ u_ws RX5 TX5 (nC 4), goodWord w = true) w hw⟩, tyX5_ok, nmX5⟩
theorem nd_4 : ∀ (base j : Nat), j < nC 4 → defaultValue (tyC 4 j) = fv base (nw (fun _ _ => 0, fun _ _ => 0, fun _ _ => 0, fun _ => (0, 0), 0, 0) 4 (nC 4)) 1 (tyC 4 j) j := by
  intro base j hj
  have hj : j < 8 := hj
  match j, hj with
  | 0, _ => exact rfl
  | 1, _ => exact rfl
  | 2, _ => exact rfl
  | 3, _ => exact rfl
  | 4, _ => exact rfl
  | 5, _ => exact rfl
  | 6, _ => exact rfl
  | 7, _ => exact rfl
  | j + 8, hj => exact absurd hj (by omega)
theorem ck_5 : CK 5 RX6 TX6 := ⟨rfl, by decide, fun w hw => List.mem_filter.mpr ⟨(by decide +kernel : ∀ w ∈ u_ws RX6 TX6 (nC 5), w ∈ lw_tbl) w hw, (by decide +kernel : ∀ w ∈ u_ws RX6 TX6 (nC 5), goodWord w = true) w hw⟩, tyX6_ok, nmX6⟩
theorem nd_5 : ∀ (base j : Nat), j < nC 5 → defaultValue (tyC 5 j) = fv base (nw (fun _ _ => 0, fun _ _ => 0, fun _ _ => 0, fun _ => (0, 0), 0, 0) 5 (nC 5)) 1 (tyC 5 j) j := by
  intro base j hj
  have hj : j < 9 := hj
  match j, hj with
  | 0, _ => exact rfl
  | 1, _ => exact rfl
  | 2, _ => exact rfl
  | 3, _ => exact rfl
  | 4, _ => exact rfl
  | 5, _ => exact rfl
  | 6, _ => exact rfl
  | 7, _ => exact rfl
  | 8, _ => exact rfl
  | j + 9, hj => exact absurd hj (by omega)
theorem ck_6 : CK 6 RX7 TX7 := ⟨rfl, by decide, fun w hw => List.mem_filter.mpr ⟨(by decide +kernel : ∀ w ∈ u_ws RX7 TX7 (nC 6), w ∈ lw_tbl) w hw, (by decide +kernel : ∀ w ∈ u_ws RX7 TX7 (nC 6), goodWord w = true) w hw⟩, tyX7_ok, nmX7⟩
theorem nd_6 : ∀ (base j : Nat), j < nC 6 → defaultValue (tyC 6 j) = fv base (nw (fun _ _ => 0, fun _ _ => 0, fun _ _ => 0, fun _ => (0, 0), 0, 0) 6 (nC 6)) 1 (tyC 6 j) j := by
  intro base j hj
  have hj : j < 1 := hj
  match j, hj with
  | 0, _ => exact rfl
  | j + 1, hj => exact absurd hj (by omega)
theorem ck_7 : CK 7 RX8 TX8 := ⟨rfl, by decide, fun w hw => List.mem_filter.mpr ⟨(by decide +kernel : ∀ w ∈ u_ws RX8 TX8 (nC 7), w ∈ lw_tbl) w hw, (by decide +kernel : ∀ w ∈ u_ws RX8 TX8 (nC 7), goodWord w = true) w hw⟩, tyX8_ok, nmX8⟩
theorem nd_7 : ∀ (base j : Nat), j < nC 7 → defaultValue (tyC 7 j) = fv base (nw (fun _ _ => 0, fun _ _ => 0, fun _ _ => 0, fun _ => (0, 0), 0, 0) 7 (nC 7)) 1 (tyC 7 j) j := by
  intro base j hj
  have hj : j < 12 := hj
  match j, hj with
  | 0, _ => exact rfl
  | 1, _ => exact rfl
  | 2, _ => exact rfl
  | 3, _ => exact rfl
  | 4, _ => exact rfl
  | 5, _ => exact rfl
  | 6, _ => exact rfl
  | 7, _ => exact rfl
  | 8, _ => exact rfl
  | 9, _ => exact rfl
  | 10, _ => exact rfl
  | 11, _ => exact rfl
  | j + 12, hj => exact absurd hj (by omega)
theorem ck_8 : CK 8 RX9 TX9 := ⟨rfl, by decide, fun w hw => List.mem_filter.mpr ⟨(by decide +kernel : ∀ w ∈ u_ws RX9 TX9 (nC 8), w ∈ lw_tbl) w hw, (by decide +kernel : ∀ w ∈ u_ws RX9 TX9 (nC 8), goodWord w = true) w hw⟩, tyX9_ok, nmX9⟩
theorem nd_8 : ∀ (base j : Nat), j < nC 8 → defaultValue (tyC 8 j) = fv base (nw (fun _ _ => 0, fun _ _ => 0, fun _ _ => 0, fun _ => (0, 0), 0, 0) 8 (nC 8)) 1 (tyC 8 j) j := by
  intro base j hj
  have hj : j < 52 := hj
  match j, hj with
  | 0, _ => exact rfl
  | 1, _ => exact rfl
  | 2, _ => exact rfl
  | 3, _ => exact rfl
  | 4, _ => exact rfl
  | 5, _ => exact rfl
  | 6, _ => exact rfl
  | 7, _ => exact rfl
  | 8, _ => exact rfl
  | 9, _ => exact rfl
  | 10, _ => exact rfl
  | 11, _ => exact rfl
  | 12, _ => exact rfl
  | 13, _ => exact rfl
  | 14, _ => exact rfl
  | 15, _ => exact rfl
  | 16, _ => exact rfl
  | 17, _ => exact rfl
  | 18, _ => exact rfl
  | 19, _ => exact rfl
  | 20, _ => exact rfl
  | 21, _ => exact rfl
  | 22, _ => exact rfl
  | 23, _ => exact rfl
  | 24, _ => exact rfl
  | 25, _ => exact rfl
  | 26, _ => exact rfl
  | 27, _ => exact rfl
  | 28, _ => exact rfl
  | 29, _ => exact rfl
  | 30, _ => exact rfl
  | 31, _ => exact rfl
  | 32, _ => exact rfl
  | 33, _ => exact rfl
  | 34, _ => exact rfl
  | 35, _ => exact rfl
  | 36, _ => exact rfl
  | 37, _ => exact rfl
  | 38, _ => exact rfl
  | 39, _ => exact rfl
  | 40, _ => exact rfl
  | 41, _ => exact rfl
  | 42, _ => exact rfl
  | 43, _ => exact rfl
  | 44, _ => exact rfl
  | 45, _ => exact rfl
  | 46, _ => exact rfl
  | 47, _ => exact rfl
  | 48, _ => exact rfl
  | 49, _ => exact rfl
  | 50, _ => exact rfl
  | 51, _ => exact rfl
  | j + 52, hj => exact absurd hj (by omega)
end
section
-- words of the tables, by their places
theorem in_T0t {w : Cond} (h : w ∈ tables_1) (hg : goodWord w = true) : w ∈ T0 := List.mem_filter.mpr ⟨List.mem_append_right _ h, hg⟩
theorem in_T0_1 {w : Cond} (i : Nat) (hi : tables_1_1[i]? = some w) (hg : goodWord w = true) : w ∈ T0 := in_T0t (have h : w ∈ tables_1_1 := List.mem_of_getElem? hi; List.mem_append_left _ h) hg
theorem in_T0_2 {w : Cond} (i : Nat) (hi : tables_1_2[i]? = some w) (hg : goodWord w = true) : w ∈ T0 := in_T0t (have h : w ∈ tables_1_2 := List.mem_of_getElem? hi; List.mem_append_right _ (List.mem_append_left _ h)) hg
theorem in_T0_3 {w : Cond} (i : Nat) (hi : tables_1_3[i]? = some w) (hg : goodWord w = true) : w ∈ T0 := in_T0t (have h : w ∈ tables_1_3 := List.mem_of_getElem? hi; List.mem_append_right _ (List.mem_append_right _ (List.mem_append_left _ h))) hg
theorem in_T0_4 {w : Cond} (i : Nat) (hi : tables_1_4[i]? = some w) (hg : goodWord w = true) : w ∈ T0 := in_T0t (have h : w ∈ tables_1_4 := List.mem_of_getElem? hi; List.mem_append_right _ (List.mem_append_right _ (List.mem_append_right _ (List.mem_append_left _ h)))) hg
theorem in_T0_5 {w : Cond} (i : Nat) (hi : tables_1_5[i]? = some w) (hg : goodWord w = true) : w ∈ T0 := in_T0t (have h : w ∈ tables_1_5 := List.mem_of_getElem? hi; List.mem_append_right _ (List.mem_append_right _ (List.mem_append_right _ (List.mem_append_right _ (List.mem_append_left _ h))))) hg
theorem in_T0_6 {w : Cond} (i : Nat) (hi : tables_1_6[i]? = some w) (hg : goodWord w = true) : w ∈ T0 := in_T0t (have h : w ∈ tables_1_6 := List.mem_of_getElem? hi; List.mem_append_right _ (List.mem_append_right _ (List.mem_append_right _ (List.mem_append_right _ (List.mem_append_right _ (h)))))) hg
theorem kw_0 : Cond.selects RX6 yX6_allCandidates yX6_allCandidates ∈ T0 := in_T0 0 (by decide +kernel) (by decide +kernel)
theorem kw_1 : Cond.selects RX8 yX8_lookRound yX8_lookRound ∈ T0 := in_T0 1 (by decide +kernel) (by decide +kernel)
theorem kw_2 : Cond.selects RX6 yX6_twinHindrance yX6_twinHindrance ∈ T0 := in_T0 2 (by decide +kernel) (by decide +kernel)
theorem kw_3 : Cond.selects RX6 yX6_roundStands yX6_roundStands ∈ T0 := in_T0 3 (by decide +kernel) (by decide +kernel)
theorem kw_4 : Cond.selects RX8 yX8_takeSigns yX8_takeSigns ∈ T0 := in_T0 4 (by decide +kernel) (by decide +kernel)
theorem kw_5 : Cond.selects RX3 yX3_step yX3_step ∈ T0 := in_T0 5 (by decide +kernel) (by decide +kernel)
theorem kw_6 : Cond.selects RX3 yX3_stepWord yX3_stepWord ∈ T0 := in_T0 6 (by decide +kernel) (by decide +kernel)
theorem kw_7 : Cond.selects RX3 yX3_knownWord yX3_knownWord ∈ T0 := in_T0 7 (by decide +kernel) (by decide +kernel)
theorem kw_8 : Cond.selects RX3 yX3_stepNumber yX3_stepNumber ∈ T0 := in_T0 8 (by decide +kernel) (by decide +kernel)
theorem kw_9 : Cond.selects RX3 yX3_wallLine yX3_wallLine ∈ T0 := in_T0 9 (by decide +kernel) (by decide +kernel)
theorem kw_10 : Cond.selects RX3 yX3_expect yX3_expect ∈ T0 := in_T0 10 (by decide +kernel) (by decide +kernel)
theorem kw_11 : Cond.selects RX3 yX3_wrong yX3_wrong ∈ T0 := in_T0 11 (by decide +kernel) (by decide +kernel)
theorem kw_12 : Cond.selects RX3 yX3_expectNumber yX3_expectNumber ∈ T0 := in_T0 12 (by decide +kernel) (by decide +kernel)
theorem kw_13 : Cond.selects RX3 yX3_stoneLine yX3_stoneLine ∈ T0 := in_T0 13 (by decide +kernel) (by decide +kernel)
theorem kw_14 : Cond.selects RX3 yX3_expectName yX3_expectName ∈ T0 := in_T0 14 (by decide +kernel) (by decide +kernel)
theorem kw_15 : Cond.selects RX3 yX3_expectKind yX3_expectKind ∈ T0 := in_T0 15 (by decide +kernel) (by decide +kernel)
theorem kw_16 : Cond.selects RX3 yX3_gatesLine yX3_gatesLine ∈ T0 := in_T0 16 (by decide +kernel) (by decide +kernel)
theorem kw_17 : Cond.selects RX3 yX3_fineLine yX3_fineLine ∈ T0 := in_T0 17 (by decide +kernel) (by decide +kernel)
theorem kw_18 : Cond.selects RX3 yX3_readE yX3_readE ∈ T0 := in_T0 18 (by decide +kernel) (by decide +kernel)
theorem kw_19 : Cond.selects RX3 yX3_readTest yX3_readTest ∈ T0 := in_T0 19 (by decide +kernel) (by decide +kernel)
theorem kw_20 : Cond.selects RX3 yX3_readSum yX3_readSum ∈ T0 := in_T0 20 (by decide +kernel) (by decide +kernel)
theorem kw_21 : Cond.selects RX3 yX3_readProduct yX3_readProduct ∈ T0 := in_T0 21 (by decide +kernel) (by decide +kernel)
theorem kw_22 : Cond.selects RX3 yX3_readPart yX3_readPart ∈ T0 := in_T0 22 (by decide +kernel) (by decide +kernel)
theorem kw_23 : Cond.selects RX3 yX3_emit yX3_emit ∈ T0 := in_T0 23 (by decide +kernel) (by decide +kernel)
theorem kw_24 : Cond.selects RX8 yX8_isOver yX8_isOver ∈ T0 := in_T0 24 (by decide +kernel) (by decide +kernel)
theorem kw_25 : Cond.selects RX5 yX5_lodge yX5_lodge ∈ T0 := in_T0 25 (by decide +kernel) (by decide +kernel)
theorem kw_26 : Cond.selects RX4 yX4_push yX4_push ∈ T0 := in_T0 26 (by decide +kernel) (by decide +kernel)
theorem kw_27 : Cond.selects RX4 yX4_pop yX4_pop ∈ T0 := in_T0 27 (by decide +kernel) (by decide +kernel)
theorem kw_28 : Cond.selects RX8 yX8_gateRefused yX8_gateRefused ∈ T0 := in_T0 28 (by decide +kernel) (by decide +kernel)
theorem kw_29 : Cond.selects RX8 yX8_outcomeNow yX8_outcomeNow ∈ T0 := in_T0 29 (by decide +kernel) (by decide +kernel)
theorem kw_30 : Cond.selects RX2 yX2_outcome yX2_outcome ∈ T0 := in_T0 30 (by decide +kernel) (by decide +kernel)
theorem kw_31 : Cond.selects RX2 yX2_outcomeByRule yX2_outcomeByRule ∈ T0 := in_T0 31 (by decide +kernel) (by decide +kernel)
theorem kw_32 : Cond.selects RX2 yX2_actByRule yX2_actByRule ∈ T0 := in_T0 32 (by decide +kernel) (by decide +kernel)
theorem kw_33 : Cond.selects RX2 yX2_outcomeByChoice yX2_outcomeByChoice ∈ T0 := in_T0 33 (by decide +kernel) (by decide +kernel)
theorem kw_34 : Cond.selects RX8 yX8_outcomeBehind yX8_outcomeBehind ∈ T0 := in_T0 34 (by decide +kernel) (by decide +kernel)
theorem kw_35 : Cond.selects RX7 yX7_spreadDay yX7_spreadDay ∈ T0 := in_T0 35 (by decide +kernel) (by decide +kernel)
theorem kw_36 : Cond.selects RX7 yX7_spreadWall yX7_spreadWall ∈ T0 := in_T0 36 (by decide +kernel) (by decide +kernel)
theorem kw_38 : Cond.selects RX9 yX9_begins yX9_begins ∈ T0 := in_T0 38 (by decide +kernel) (by decide +kernel)
theorem kw_39 : Cond.selects RX9 yX9_nothing yX9_nothing ∈ T0 := in_T0 39 (by decide +kernel) (by decide +kernel)
theorem kw_40 : Cond.selects RX9 yX9_looks yX9_looks ∈ T0 := in_T0 40 (by decide +kernel) (by decide +kernel)
theorem kw_41 : Cond.selects RX9 yX9_isClosed yX9_isClosed ∈ T0 := in_T0 41 (by decide +kernel) (by decide +kernel)
theorem kw_42 : Cond.selects RX9 yX9_hasAct yX9_hasAct ∈ T0 := in_T0 42 (by decide +kernel) (by decide +kernel)
theorem kw_43 : Cond.selects RX9 yX9_nextAct yX9_nextAct ∈ T0 := in_T0 43 (by decide +kernel) (by decide +kernel)
theorem kw_44 : Cond.selects RX9 yX9_why yX9_why ∈ T0 := in_T0 44 (by decide +kernel) (by decide +kernel)
theorem kw_45 : Cond.selects RX9 yX9_isColumn yX9_isColumn ∈ T0 := in_T0 45 (by decide +kernel) (by decide +kernel)
theorem kw_46 : Cond.selects RX9 yX9_isWide yX9_isWide ∈ T0 := in_T0 46 (by decide +kernel) (by decide +kernel)
theorem kw_47 : Cond.selects RX9 yX9_otherOf yX9_otherOf ∈ T0 := in_T0 47 (by decide +kernel) (by decide +kernel)
theorem kw_48 : Cond.selects RX9 yX9_stands yX9_stands ∈ T0 := in_T0 48 (by decide +kernel) (by decide +kernel)
theorem kw_49 : Cond.selects RX9 yX9_whyGate yX9_whyGate ∈ T0 := in_T0 49 (by decide +kernel) (by decide +kernel)
theorem kw_50 : Cond.selects RX9 yX9_readsAll yX9_readsAll ∈ T0 := in_T0 50 (by decide +kernel) (by decide +kernel)
theorem kw_51 : Cond.selects RX9 yX9_nextToken yX9_nextToken ∈ T0 := in_T0 51 (by decide +kernel) (by decide +kernel)
theorem kw_52 : Cond.selects RX9 yX9_signAt yX9_signAt ∈ T0 := in_T0 52 (by decide +kernel) (by decide +kernel)
theorem kw_53 : Cond.selects RX9 yX9_isWord yX9_isWord ∈ T0 := in_T0 53 (by decide +kernel) (by decide +kernel)
theorem kw_54 : Cond.selects RX9 yX9_fails yX9_fails ∈ T0 := in_T0 54 (by decide +kernel) (by decide +kernel)
theorem kw_55 : Cond.selects RX9 yX9_needsNumber yX9_needsNumber ∈ T0 := in_T0 55 (by decide +kernel) (by decide +kernel)
theorem kw_56 : Cond.selects RX9 yX9_ends yX9_ends ∈ T0 := in_T0 56 (by decide +kernel) (by decide +kernel)
theorem kw_57 : Cond.selects RX9 yX9_isSign yX9_isSign ∈ T0 := in_T0 57 (by decide +kernel) (by decide +kernel)
theorem kw_58 : Cond.selects RX9 yX9_readsStone yX9_readsStone ∈ T0 := in_T0 58 (by decide +kernel) (by decide +kernel)
theorem kw_59 : Cond.selects RX9 yX9_isKept yX9_isKept ∈ T0 := in_T0 59 (by decide +kernel) (by decide +kernel)
theorem kw_60 : Cond.selects RX9 yX9_kindAt yX9_kindAt ∈ T0 := in_T0 60 (by decide +kernel) (by decide +kernel)
theorem kw_61 : Cond.selects RX9 yX9_readsGates yX9_readsGates ∈ T0 := in_T0 61 (by decide +kernel) (by decide +kernel)
theorem kw_62 : Cond.selects RX9 yX9_readsFine yX9_readsFine ∈ T0 := in_T0 62 (by decide +kernel) (by decide +kernel)
theorem kw_63 : Cond.selects RX9 yX9_reads yX9_reads ∈ T0 := in_T0 63 (by decide +kernel) (by decide +kernel)
theorem kw_64 : Cond.selects RX9 yX9_fact yX9_fact ∈ T0 := in_T0 64 (by decide +kernel) (by decide +kernel)
theorem kw_65 : Cond.selects RX9 yX9_puts yX9_puts ∈ T0 := in_T0 65 (by decide +kernel) (by decide +kernel)
theorem kw_66 : Cond.selects RX9 yX9_lays yX9_lays ∈ T0 := in_T0 66 (by decide +kernel) (by decide +kernel)
theorem kw_67 : Cond.selects RX9 yX9_keeps yX9_keeps ∈ T0 := in_T0 67 (by decide +kernel) (by decide +kernel)
theorem kw_68 : Cond.selects RX9 yX9_does yX9_does ∈ T0 := in_T0 68 (by decide +kernel) (by decide +kernel)
theorem kw_69 : Cond.selects RX9 yX9_sets yX9_sets ∈ T0 := in_T0 69 (by decide +kernel) (by decide +kernel)
theorem kw_70 : Cond.selects RX9 yX9_worked yX9_worked ∈ T0 := in_T0 70 (by decide +kernel) (by decide +kernel)
theorem kw_71 : Cond.selects RX9 yX9_opens yX9_opens ∈ T0 := in_T0 71 (by decide +kernel) (by decide +kernel)
theorem kw_72 : Cond.selects RX9 yX9_sums yX9_sums ∈ T0 := in_T0 72 (by decide +kernel) (by decide +kernel)
theorem kw_73 : Cond.selects RX9 yX9_tests yX9_tests ∈ T0 := in_T0 73 (by decide +kernel) (by decide +kernel)
theorem kw_74 : Cond.selects RX9 yX9_actsNow yX9_actsNow ∈ T0 := in_T0 74 (by decide +kernel) (by decide +kernel)
theorem kw_75 : Cond.selects RX9 yX9_acts yX9_acts ∈ T0 := in_T0 75 (by decide +kernel) (by decide +kernel)
theorem kw_76 : Cond.selects RX9 yX9_finds yX9_finds ∈ T0 := in_T0 76 (by decide +kernel) (by decide +kernel)
theorem kw_77 : Cond.selects RX9 yX9_isSmall yX9_isSmall ∈ T0 := in_T0 77 (by decide +kernel) (by decide +kernel)
theorem kw_78 : Cond.selects RX9 yX9_now yX9_now ∈ T0 := in_T0 78 (by decide +kernel) (by decide +kernel)
theorem kw_79 : Cond.selects RX9 yX9_knows yX9_knows ∈ T0 := in_T0 79 (by decide +kernel) (by decide +kernel)
theorem kw_80 : Cond.selects RX9 yX9_copies yX9_copies ∈ T0 := in_T0 80 (by decide +kernel) (by decide +kernel)
theorem kw_81 : Cond.selects RX9 yX9_solves yX9_solves ∈ T0 := in_T0 81 (by decide +kernel) (by decide +kernel)
theorem kw_82 : Cond.selects RX9 yX9_numberOf yX9_numberOf ∈ T0 := in_T0 82 (by decide +kernel) (by decide +kernel)
theorem kw_83 : Cond.selects RX9 yX9_wallOf yX9_wallOf ∈ T0 := in_T0 83 (by decide +kernel) (by decide +kernel)
theorem kw_84 : Cond.selects RX9 yX9_behind yX9_behind ∈ T0 := in_T0 84 (by decide +kernel) (by decide +kernel)
theorem kw_85 : Cond.selects RX9 yX9_masons yX9_masons ∈ T0 := in_T0 85 (by decide +kernel) (by decide +kernel)
theorem kw_86 : Cond.selects RX9 yX9_ruled yX9_ruled ∈ T0 := in_T0 86 (by decide +kernel) (by decide +kernel)
theorem kw_87 : Cond.selects RX9 yX9_goesOn yX9_goesOn ∈ T0 := in_T0 87 (by decide +kernel) (by decide +kernel)
theorem kw_88 : Cond.selects RX9 yX9_laysOut yX9_laysOut ∈ T0 := in_T0 88 (by decide +kernel) (by decide +kernel)
theorem kw_89 : Cond.selects RX9 yX9_draws yX9_draws ∈ T0 := in_T0 89 (by decide +kernel) (by decide +kernel)
theorem kw_91 : Cond.initialized RX8 ∈ T0 := in_T0_1 1 (by decide +kernel) rfl
theorem kw_92 : Cond.initialized RX3 ∈ T0 := in_T0_1 2 (by decide +kernel) rfl
theorem kw_93 : Cond.initialized RX5 ∈ T0 := in_T0_1 3 (by decide +kernel) rfl
theorem kw_94 : Cond.initialized RX4 ∈ T0 := in_T0_1 4 (by decide +kernel) rfl
theorem kw_95 : Cond.initialized RX2 ∈ T0 := in_T0_1 5 (by decide +kernel) rfl
theorem kw_96 : Cond.initialized RX7 ∈ T0 := in_T0_1 6 (by decide +kernel) rfl
theorem kw_97 : Cond.initialized RX6 ∈ T0 := in_T0_1 7 (by decide +kernel) rfl
theorem kw_98 : Cond.initialized "java/lang/System" ∈ T0 := in_T0_1 8 (by decide +kernel) rfl
theorem kw_99 : Cond.initialized RX0 ∈ T0 := in_T0_1 9 (by decide +kernel) rfl
theorem kw_100 : Cond.initialized RX1 ∈ T0 := in_T0_1 10 (by decide +kernel) rfl
theorem kw_101 : Cond.initialized RX9 ∈ T0 := in_T0_1 11 (by decide +kernel) rfl
theorem kw_102 : Cond.initialized RJ0 ∈ T0 := in_T0_1 12 (by decide +kernel) rfl
theorem kw_103 : Cond.initialized RJ1 ∈ T0 := in_T0_1 13 (by decide +kernel) rfl
theorem kw_104 : Cond.initialized RJ3 ∈ T0 := in_T0_1 14 (by decide +kernel) rfl
theorem kw_110 : Cond.initialized "java/lang/Math" ∈ T0 := in_T0_1 20 (by decide +kernel) rfl
theorem kw_116 : Cond.methodLink RX8 1 objectInit ∈ T0 := in_T0_1 26 (by decide +kernel) rfl
theorem kw_117 : Cond.instanceMethod objectInit ∈ T0 := in_T0_1 27 (by decide +kernel) rfl
theorem kw_118 : Cond.code objectInit ⟨#[0xb1]⟩ 1 none ∈ T0 := in_T0_1 28 (by decide +kernel) rfl
theorem kw_119 : Cond.classLink RX8 17 RX3 ∈ T0 := in_T0_1 29 (by decide +kernel) rfl
theorem kw_120 : Cond.instantiable RX3 (nC 2) ∈ T0 := in_T0_1 30 (by decide +kernel) rfl
theorem kw_122 : Cond.instanceMethod yX3_init ∈ T0 := in_T0_1 32 (by decide +kernel) rfl
theorem kw_123 : Cond.code yX3_init cX3_init 1 none ∈ T0 := in_T0_1 33 (by decide +kernel) rfl
theorem kw_124 : Cond.methodLink RX3 3 objectInit ∈ T0 := in_T0_1 34 (by decide +kernel) rfl
theorem kw_125 : Cond.fieldLink RX3 9 (TX3 0).1 (TX3 0).2.1 (TX3 0).2.2.1 ∈ T0 := in_T0_1 35 (by decide +kernel) rfl
theorem kw_126 : Cond.fieldLink RX6 9 (TX3 0).1 (TX3 0).2.1 (TX3 0).2.2.1 ∈ T0 := in_T0_1 36 (by decide +kernel) rfl
theorem kw_127 : Cond.fieldLink RX3 15 (TX3 1).1 (TX3 1).2.1 (TX3 1).2.2.1 ∈ T0 := in_T0_1 37 (by decide +kernel) rfl
theorem kw_128 : Cond.fieldLink RX6 18 (TX3 1).1 (TX3 1).2.1 (TX3 1).2.2.1 ∈ T0 := in_T0_1 38 (by decide +kernel) rfl
theorem kw_129 : Cond.fieldLink RX3 18 (TX3 2).1 (TX3 2).2.1 (TX3 2).2.2.1 ∈ T0 := in_T0_1 39 (by decide +kernel) rfl
theorem kw_130 : Cond.fieldLink RX6 22 (TX3 2).1 (TX3 2).2.1 (TX3 2).2.2.1 ∈ T0 := in_T0_1 40 (by decide +kernel) rfl
theorem kw_131 : Cond.fieldLink RX3 21 (TX3 3).1 (TX3 3).2.1 (TX3 3).2.2.1 ∈ T0 := in_T0_1 41 (by decide +kernel) rfl
theorem kw_132 : Cond.fieldLink RX6 26 (TX3 3).1 (TX3 3).2.1 (TX3 3).2.2.1 ∈ T0 := in_T0_1 42 (by decide +kernel) rfl
theorem kw_133 : Cond.fieldLink RX3 24 (TX3 4).1 (TX3 4).2.1 (TX3 4).2.2.1 ∈ T0 := in_T0_1 43 (by decide +kernel) rfl
theorem kw_134 : Cond.fieldLink RX6 30 (TX3 4).1 (TX3 4).2.1 (TX3 4).2.2.1 ∈ T0 := in_T0_1 44 (by decide +kernel) rfl
theorem kw_135 : Cond.fieldLink RX3 28 (TX3 5).1 (TX3 5).2.1 (TX3 5).2.2.1 ∈ T0 := in_T0_1 45 (by decide +kernel) rfl
theorem kw_136 : Cond.fieldLink RX6 40 (TX3 5).1 (TX3 5).2.1 (TX3 5).2.2.1 ∈ T0 := in_T0_1 46 (by decide +kernel) rfl
theorem kw_137 : Cond.fieldLink RX3 31 (TX3 6).1 (TX3 6).2.1 (TX3 6).2.2.1 ∈ T0 := in_T0_1 47 (by decide +kernel) rfl
theorem kw_138 : Cond.fieldLink RX3 35 (TX3 7).1 (TX3 7).2.1 (TX3 7).2.2.1 ∈ T0 := in_T0_1 48 (by decide +kernel) rfl
theorem kw_139 : Cond.fieldLink RX3 38 (TX3 8).1 (TX3 8).2.1 (TX3 8).2.2.1 ∈ T0 := in_T0_1 49 (by decide +kernel) rfl
theorem kw_140 : Cond.fieldLink RX3 41 (TX3 9).1 (TX3 9).2.1 (TX3 9).2.2.1 ∈ T0 := in_T0_1 50 (by decide +kernel) rfl
theorem kw_141 : Cond.fieldLink RX3 45 (TX3 10).1 (TX3 10).2.1 (TX3 10).2.2.1 ∈ T0 := in_T0_1 51 (by decide +kernel) rfl
theorem kw_142 : Cond.fieldLink RX3 48 (TX3 11).1 (TX3 11).2.1 (TX3 11).2.2.1 ∈ T0 := in_T0_1 52 (by decide +kernel) rfl
theorem kw_143 : Cond.fieldLink RX3 52 (TX3 12).1 (TX3 12).2.1 (TX3 12).2.2.1 ∈ T0 := in_T0_1 53 (by decide +kernel) rfl
theorem kw_144 : Cond.fieldLink RX3 55 (TX3 13).1 (TX3 13).2.1 (TX3 13).2.2.1 ∈ T0 := in_T0_1 54 (by decide +kernel) rfl
theorem kw_145 : Cond.fieldLink RX3 58 (TX3 14).1 (TX3 14).2.1 (TX3 14).2.2.1 ∈ T0 := in_T0_1 55 (by decide +kernel) rfl
theorem kw_146 : Cond.fieldLink RX3 61 (TX3 15).1 (TX3 15).2.1 (TX3 15).2.2.1 ∈ T0 := in_T0_1 56 (by decide +kernel) rfl
theorem kw_147 : Cond.fieldLink RX3 64 (TX3 16).1 (TX3 16).2.1 (TX3 16).2.2.1 ∈ T0 := in_T0_1 57 (by decide +kernel) rfl
theorem kw_148 : Cond.fieldLink RX3 67 (TX3 17).1 (TX3 17).2.1 (TX3 17).2.2.1 ∈ T0 := in_T0_1 58 (by decide +kernel) rfl
theorem kw_149 : Cond.fieldLink RX3 70 (TX3 18).1 (TX3 18).2.1 (TX3 18).2.2.1 ∈ T0 := in_T0_1 59 (by decide +kernel) rfl
theorem kw_189 : Cond.arrayClass (newarray.typeOf .char) ∈ T0 := in_T0_1 99 (by decide +kernel) rfl
theorem kw_190 : Cond.arrayClass (newarray.typeOf .int) ∈ T0 := in_T0_1 100 (by decide +kernel) rfl
theorem kw_191 : Cond.arrayClass (newarray.typeOf .long) ∈ T0 := in_T0_1 101 (by decide +kernel) rfl
theorem kw_192 : Cond.classLink RX8 24 RX5 ∈ T0 := in_T0_1 102 (by decide +kernel) rfl
theorem kw_193 : Cond.instantiable RX5 (nC 4) ∈ T0 := in_T0_1 103 (by decide +kernel) rfl
theorem kw_195 : Cond.instanceMethod yX5_init ∈ T0 := in_T0_1 105 (by decide +kernel) rfl
theorem kw_196 : Cond.code yX5_init cX5_init 1 none ∈ T0 := in_T0_1 106 (by decide +kernel) rfl
theorem kw_197 : Cond.methodLink RX5 3 objectInit ∈ T0 := in_T0_1 107 (by decide +kernel) rfl
theorem kw_198 : Cond.classLink RX5 37 RX4 ∈ T0 := in_T0_1 108 (by decide +kernel) rfl
theorem kw_199 : Cond.instantiable RX4 (nC 3) ∈ T0 := in_T0_1 109 (by decide +kernel) rfl
theorem kw_201 : Cond.instanceMethod yX4_init ∈ T0 := in_T0_1 111 (by decide +kernel) rfl
theorem kw_202 : Cond.code yX4_init cX4_init 1 none ∈ T0 := in_T0_1 112 (by decide +kernel) rfl
theorem kw_203 : Cond.methodLink RX4 1 objectInit ∈ T0 := in_T0_1 113 (by decide +kernel) rfl
theorem kw_204 : Cond.fieldLink RX4 7 (TX4 0).1 (TX4 0).2.1 (TX4 0).2.2.1 ∈ T0 := in_T0_1 114 (by decide +kernel) rfl
theorem kw_205 : Cond.fieldLink RX4 13 (TX4 1).1 (TX4 1).2.1 (TX4 1).2.2.1 ∈ T0 := in_T0_1 115 (by decide +kernel) rfl
theorem kw_211 : Cond.fieldLink RX5 9 (TX5 0).1 (TX5 0).2.1 (TX5 0).2.2.1 ∈ T0 := in_T0_1 121 (by decide +kernel) rfl
theorem kw_212 : Cond.fieldLink RX1 23 (TX5 0).1 (TX5 0).2.1 (TX5 0).2.2.1 ∈ T0 := in_T0_1 122 (by decide +kernel) rfl
theorem kw_213 : Cond.fieldLink RX5 15 (TX5 1).1 (TX5 1).2.1 (TX5 1).2.2.1 ∈ T0 := in_T0_1 123 (by decide +kernel) rfl
theorem kw_214 : Cond.fieldLink RX1 32 (TX5 1).1 (TX5 1).2.1 (TX5 1).2.2.1 ∈ T0 := in_T0_1 124 (by decide +kernel) rfl
theorem kw_215 : Cond.fieldLink RX8 134 (TX5 1).1 (TX5 1).2.1 (TX5 1).2.2.1 ∈ T0 := in_T0_1 125 (by decide +kernel) rfl
theorem kw_216 : Cond.fieldLink RX5 21 (TX5 2).1 (TX5 2).2.1 (TX5 2).2.2.1 ∈ T0 := in_T0_1 126 (by decide +kernel) rfl
theorem kw_217 : Cond.fieldLink RX8 126 (TX5 2).1 (TX5 2).2.1 (TX5 2).2.2.1 ∈ T0 := in_T0_1 127 (by decide +kernel) rfl
theorem kw_218 : Cond.fieldLink RX5 25 (TX5 3).1 (TX5 3).2.1 (TX5 3).2.2.1 ∈ T0 := in_T0_1 128 (by decide +kernel) rfl
theorem kw_220 : Cond.fieldLink RX5 28 (TX5 4).1 (TX5 4).2.1 (TX5 4).2.2.1 ∈ T0 := in_T0_1 130 (by decide +kernel) rfl
theorem kw_222 : Cond.fieldLink RX5 31 (TX5 5).1 (TX5 5).2.1 (TX5 5).2.2.1 ∈ T0 := in_T0_1 132 (by decide +kernel) rfl
theorem kw_223 : Cond.fieldLink RX8 150 (TX5 5).1 (TX5 5).2.1 (TX5 5).2.2.1 ∈ T0 := in_T0_1 133 (by decide +kernel) rfl
theorem kw_224 : Cond.fieldLink RX5 34 (TX5 6).1 (TX5 6).2.1 (TX5 6).2.2.1 ∈ T0 := in_T0_1 134 (by decide +kernel) rfl
theorem kw_225 : Cond.fieldLink RX8 153 (TX5 6).1 (TX5 6).2.1 (TX5 6).2.2.1 ∈ T0 := in_T0_1 135 (by decide +kernel) rfl
theorem kw_226 : Cond.fieldLink RX5 40 (TX5 7).1 (TX5 7).2.1 (TX5 7).2.2.1 ∈ T0 := in_T0_1 136 (by decide +kernel) rfl
theorem kw_244 : Cond.classLink RX8 31 RX1 ∈ T0 := in_T0_1 154 (by decide +kernel) rfl
theorem kw_246 : Cond.classLink RX8 37 RX2 ∈ T0 := in_T0_1 156 (by decide +kernel) rfl
theorem kw_247 : Cond.instantiable RX2 (nC 1) ∈ T0 := in_T0_1 157 (by decide +kernel) rfl
theorem kw_249 : Cond.instanceMethod yX2_init ∈ T0 := in_T0_1 159 (by decide +kernel) rfl
theorem kw_250 : Cond.code yX2_init cX2_init 1 none ∈ T0 := in_T0_1 160 (by decide +kernel) rfl
theorem kw_251 : Cond.methodLink RX2 3 objectInit ∈ T0 := in_T0_1 161 (by decide +kernel) rfl
theorem kw_252 : Cond.fieldLink RX2 9 (TX2 0).1 (TX2 0).2.1 (TX2 0).2.2.1 ∈ T0 := in_T0_1 162 (by decide +kernel) rfl
theorem kw_253 : Cond.fieldLink RX2 15 (TX2 1).1 (TX2 1).2.1 (TX2 1).2.2.1 ∈ T0 := in_T0_1 163 (by decide +kernel) rfl
theorem kw_254 : Cond.fieldLink RX2 19 (TX2 2).1 (TX2 2).2.1 (TX2 2).2.2.1 ∈ T0 := in_T0_1 164 (by decide +kernel) rfl
theorem kw_255 : Cond.fieldLink RX2 23 (TX2 3).1 (TX2 3).2.1 (TX2 3).2.2.1 ∈ T0 := in_T0_1 165 (by decide +kernel) rfl
theorem kw_265 : Cond.classLink RX8 47 RX7 ∈ T0 := in_T0_1 175 (by decide +kernel) rfl
theorem kw_266 : Cond.instantiable RX7 (nC 6) ∈ T0 := in_T0_1 176 (by decide +kernel) rfl
theorem kw_268 : Cond.instanceMethod yX7_init ∈ T0 := in_T0_1 178 (by decide +kernel) rfl
theorem kw_269 : Cond.code yX7_init cX7_init 1 none ∈ T0 := in_T0_1 179 (by decide +kernel) rfl
theorem kw_270 : Cond.methodLink RX7 3 objectInit ∈ T0 := in_T0_1 180 (by decide +kernel) rfl
theorem kw_271 : Cond.fieldLink RX7 9 (TX7 0).1 (TX7 0).2.1 (TX7 0).2.2.1 ∈ T0 := in_T0_1 181 (by decide +kernel) rfl
theorem kw_275 : Cond.methodLink RX8 66 yX3_written ∈ T0 := in_T0_1 185 (by decide +kernel) rfl
theorem kw_276 : Cond.instanceMethod yX3_written ∈ T0 := in_T0_1 186 (by decide +kernel) rfl
theorem kw_277 : Cond.selects RX3 yX3_written yX3_written ∈ T0 := in_T0_1 187 (by decide +kernel) rfl
theorem kw_278 : Cond.code yX3_written cX3_written 1 (some (.object "TruceWall$Truce")) ∈ T0 := in_T0_1 188 (by decide +kernel) rfl
theorem kw_279 : Cond.classLink RX3 74 RX6 ∈ T0 := in_T0_1 189 (by decide +kernel) rfl
theorem kw_280 : Cond.instantiable RX6 (nC 5) ∈ T0 := in_T0_1 190 (by decide +kernel) rfl
theorem kw_281 : Cond.methodLink RX3 76 yX6_init ∈ T0 := in_T0_1 191 (by decide +kernel) rfl
theorem kw_282 : Cond.instanceMethod yX6_init ∈ T0 := in_T0_1 192 (by decide +kernel) rfl
theorem kw_283 : Cond.code yX6_init cX6_init 2 none ∈ T0 := in_T0_1 193 (by decide +kernel) rfl
theorem kw_284 : Cond.methodLink RX6 3 objectInit ∈ T0 := in_T0_1 194 (by decide +kernel) rfl
theorem kw_285 : Cond.methodLink RX6 34 ⟨"[I", "clone", "()Ljava/lang/Object;"⟩ ∈ T0 := in_T0_1 195 (by decide +kernel) rfl
theorem kw_286 : Cond.sameMethod "[I" "java/lang/Object" "clone" "()Ljava/lang/Object;" ∈ T0 := in_T0_1 196 (by decide +kernel) rfl
theorem kw_287 : Cond.native ⟨"java/lang/Object", "clone", "()Ljava/lang/Object;"⟩ ∈ T0 := in_T0_1 197 (by decide +kernel) rfl
theorem kw_288 : Cond.instanceMethod ⟨"java/lang/Object", "clone", "()Ljava/lang/Object;"⟩ ∈ T0 := in_T0_1 198 (by decide +kernel) rfl
theorem kw_289 : Cond.selects "[I" ⟨"[I", "clone", "()Ljava/lang/Object;"⟩ ⟨"java/lang/Object", "clone", "()Ljava/lang/Object;"⟩ ∈ T0 := in_T0_1 199 (by decide +kernel) rfl
theorem kw_291 : Cond.classLink RX6 35 "[I" ∈ T0 := in_T0_1 201 (by decide +kernel) rfl
theorem kw_292 : Cond.methodLink RX6 44 yX3_fineCode ∈ T0 := in_T0_1 202 (by decide +kernel) rfl
theorem kw_293 : Cond.instanceMethod yX3_fineCode ∈ T0 := in_T0_1 203 (by decide +kernel) rfl
theorem kw_294 : Cond.selects RX3 yX3_fineCode yX3_fineCode ∈ T0 := in_T0_1 204 (by decide +kernel) rfl
theorem kw_295 : Cond.code yX3_fineCode cX3_fineCode 2 (some (.array .int)) ∈ T0 := in_T0_1 205 (by decide +kernel) rfl
theorem kw_296 : Cond.methodLink RX3 79 arraycopyName ∈ T0 := in_T0_1 206 (by decide +kernel) rfl
theorem kw_297 : Cond.static arraycopyName ∈ T0 := in_T0_1 207 (by decide +kernel) rfl
theorem kw_298 : Cond.native arraycopyName ∈ T0 := in_T0_1 208 (by decide +kernel) rfl
theorem kw_299 : Cond.methodLink RX6 51 yX6_power ∈ T0 := in_T0_1 209 (by decide +kernel) rfl
theorem kw_300 : Cond.static yX6_power ∈ T0 := in_T0_1 210 (by decide +kernel) rfl
theorem kw_301 : Cond.code yX6_power cX6_power 4 (some .int) ∈ T0 := in_T0_1 211 (by decide +kernel) rfl
theorem kw_302 : Cond.methodLink RX6 59 yX6_allCandidates ∈ T0 := in_T0_1 212 (by decide +kernel) rfl
theorem kw_304 : Cond.instanceMethod yX6_allCandidates ∈ T0 := in_T0_1 214 (by decide +kernel) rfl
theorem kw_305 : Cond.code yX6_allCandidates cX6_allCandidates 7 (some (.array .int)) ∈ T0 := in_T0_1 215 (by decide +kernel) rfl
theorem kw_306 : Cond.methodLink RX6 71 yX6_isAsTold ∈ T0 := in_T0_1 216 (by decide +kernel) rfl
theorem kw_307 : Cond.instanceMethod yX6_isAsTold ∈ T0 := in_T0_1 217 (by decide +kernel) rfl
theorem kw_308 : Cond.selects RX6 yX6_isAsTold yX6_isAsTold ∈ T0 := in_T0_1 218 (by decide +kernel) rfl
theorem kw_309 : Cond.code yX6_isAsTold cX6_isAsTold 5 (some .boolean) ∈ T0 := in_T0_1 219 (by decide +kernel) rfl
theorem kw_310 : Cond.methodLink RX6 89 yX6_twinOf ∈ T0 := in_T0_1 220 (by decide +kernel) rfl
theorem kw_311 : Cond.instanceMethod yX6_twinOf ∈ T0 := in_T0_1 221 (by decide +kernel) rfl
theorem kw_312 : Cond.selects RX6 yX6_twinOf yX6_twinOf ∈ T0 := in_T0_1 222 (by decide +kernel) rfl
theorem kw_313 : Cond.code yX6_twinOf cX6_twinOf 2 (some .int) ∈ T0 := in_T0_1 223 (by decide +kernel) rfl
theorem kw_314 : Cond.methodLink RX6 75 yX0_ofStone ∈ T0 := in_T0_1 224 (by decide +kernel) rfl
theorem kw_315 : Cond.static yX0_ofStone ∈ T0 := in_T0_1 225 (by decide +kernel) rfl
theorem kw_316 : Cond.code yX0_ofStone cX0_ofStone 3 (some .int) ∈ T0 := in_T0_1 226 (by decide +kernel) rfl
theorem kw_317 : Cond.methodLink RX6 79 yX0_ofGate ∈ T0 := in_T0_1 227 (by decide +kernel) rfl
theorem kw_318 : Cond.static yX0_ofGate ∈ T0 := in_T0_1 228 (by decide +kernel) rfl
theorem kw_319 : Cond.code yX0_ofGate cX0_ofGate 1 (some .int) ∈ T0 := in_T0_1 229 (by decide +kernel) rfl
theorem kw_320 : Cond.methodLink RX6 83 arraycopyName ∈ T0 := in_T0_1 230 (by decide +kernel) rfl
theorem kw_321 : Cond.fieldLink RX6 15 (TX6 0).1 (TX6 0).2.1 (TX6 0).2.2.1 ∈ T0 := in_T0_1 231 (by decide +kernel) rfl
theorem kw_322 : Cond.fieldLink RX8 140 (TX6 0).1 (TX6 0).2.1 (TX6 0).2.2.1 ∈ T0 := in_T0_1 232 (by decide +kernel) rfl
theorem kw_323 : Cond.fieldLink RX6 21 (TX6 1).1 (TX6 1).2.1 (TX6 1).2.2.1 ∈ T0 := in_T0_1 233 (by decide +kernel) rfl
theorem kw_324 : Cond.fieldLink RX8 265 (TX6 1).1 (TX6 1).2.1 (TX6 1).2.2.1 ∈ T0 := in_T0_1 234 (by decide +kernel) rfl
theorem kw_325 : Cond.fieldLink RX6 25 (TX6 2).1 (TX6 2).2.1 (TX6 2).2.2.1 ∈ T0 := in_T0_1 235 (by decide +kernel) rfl
theorem kw_326 : Cond.fieldLink RX6 29 (TX6 3).1 (TX6 3).2.1 (TX6 3).2.2.1 ∈ T0 := in_T0_1 236 (by decide +kernel) rfl
theorem kw_327 : Cond.fieldLink RX8 89 (TX6 3).1 (TX6 3).2.1 (TX6 3).2.2.1 ∈ T0 := in_T0_1 237 (by decide +kernel) rfl
theorem kw_328 : Cond.fieldLink RX6 39 (TX6 4).1 (TX6 4).2.1 (TX6 4).2.2.1 ∈ T0 := in_T0_1 238 (by decide +kernel) rfl
theorem kw_329 : Cond.fieldLink RX8 94 (TX6 4).1 (TX6 4).2.1 (TX6 4).2.2.1 ∈ T0 := in_T0_1 239 (by decide +kernel) rfl
theorem kw_330 : Cond.fieldLink RX5 74 (TX6 4).1 (TX6 4).2.1 (TX6 4).2.2.1 ∈ T0 := in_T0_2 0 (by decide +kernel) rfl
theorem kw_331 : Cond.fieldLink RX6 43 (TX6 5).1 (TX6 5).2.1 (TX6 5).2.2.1 ∈ T0 := in_T0_2 1 (by decide +kernel) rfl
theorem kw_332 : Cond.fieldLink RX8 97 (TX6 5).1 (TX6 5).2.1 (TX6 5).2.2.1 ∈ T0 := in_T0_2 2 (by decide +kernel) rfl
theorem kw_333 : Cond.fieldLink RX6 48 (TX6 6).1 (TX6 6).2.1 (TX6 6).2.2.1 ∈ T0 := in_T0_2 3 (by decide +kernel) rfl
theorem kw_334 : Cond.fieldLink RX5 94 (TX6 6).1 (TX6 6).2.1 (TX6 6).2.2.1 ∈ T0 := in_T0_2 4 (by decide +kernel) rfl
theorem kw_335 : Cond.fieldLink RX6 55 (TX6 7).1 (TX6 7).2.1 (TX6 7).2.2.1 ∈ T0 := in_T0_2 5 (by decide +kernel) rfl
theorem kw_336 : Cond.fieldLink RX8 196 (TX6 7).1 (TX6 7).2.1 (TX6 7).2.2.1 ∈ T0 := in_T0_2 6 (by decide +kernel) rfl
theorem kw_337 : Cond.fieldLink RX6 62 (TX6 8).1 (TX6 8).2.1 (TX6 8).2.2.1 ∈ T0 := in_T0_2 7 (by decide +kernel) rfl
theorem kw_338 : Cond.fieldLink RX7 43 (TX6 8).1 (TX6 8).2.1 (TX6 8).2.2.1 ∈ T0 := in_T0_2 8 (by decide +kernel) rfl
theorem kw_339 : Cond.fieldLink RX2 46 (TX6 8).1 (TX6 8).2.1 (TX6 8).2.2.1 ∈ T0 := in_T0_2 9 (by decide +kernel) rfl
theorem kw_359 : Cond.methodLink RX8 74 yX5_clear ∈ T0 := in_T0_2 29 (by decide +kernel) rfl
theorem kw_360 : Cond.instanceMethod yX5_clear ∈ T0 := in_T0_2 30 (by decide +kernel) rfl
theorem kw_361 : Cond.selects RX5 yX5_clear yX5_clear ∈ T0 := in_T0_2 31 (by decide +kernel) rfl
theorem kw_362 : Cond.code yX5_clear cX5_clear 2 none ∈ T0 := in_T0_2 32 (by decide +kernel) rfl
theorem kw_363 : Cond.instantiable RX1 (nC 0) ∈ T0 := in_T0_2 33 (by decide +kernel) rfl
theorem kw_365 : Cond.instanceMethod yX1_init ∈ T0 := in_T0_2 35 (by decide +kernel) rfl
theorem kw_366 : Cond.code yX1_init cX1_init 1 none ∈ T0 := in_T0_2 36 (by decide +kernel) rfl
theorem kw_367 : Cond.methodLink RX1 3 objectInit ∈ T0 := in_T0_2 37 (by decide +kernel) rfl
theorem kw_368 : Cond.fieldLink RX1 9 (TX1 0).1 (TX1 0).2.1 (TX1 0).2.2.1 ∈ T0 := in_T0_2 38 (by decide +kernel) rfl
theorem kw_369 : Cond.fieldLink RX8 256 (TX1 0).1 (TX1 0).2.1 (TX1 0).2.2.1 ∈ T0 := in_T0_2 39 (by decide +kernel) rfl
theorem kw_370 : Cond.fieldLink RX1 15 (TX1 1).1 (TX1 1).2.1 (TX1 1).2.2.1 ∈ T0 := in_T0_2 40 (by decide +kernel) rfl
theorem kw_371 : Cond.fieldLink RX8 257 (TX1 1).1 (TX1 1).2.1 (TX1 1).2.2.1 ∈ T0 := in_T0_2 41 (by decide +kernel) rfl
theorem kw_372 : Cond.fieldLink RX1 19 (TX1 2).1 (TX1 2).2.1 (TX1 2).2.2.1 ∈ T0 := in_T0_2 42 (by decide +kernel) rfl
theorem kw_373 : Cond.fieldLink RX8 264 (TX1 2).1 (TX1 2).2.1 (TX1 2).2.2.1 ∈ T0 := in_T0_2 43 (by decide +kernel) rfl
theorem kw_381 : Cond.methodLink RX8 78 yX8_lookRound ∈ T0 := in_T0_2 51 (by decide +kernel) rfl
theorem kw_383 : Cond.instanceMethod yX8_lookRound ∈ T0 := in_T0_2 53 (by decide +kernel) rfl
theorem kw_384 : Cond.code yX8_lookRound cX8_lookRound 1 none ∈ T0 := in_T0_2 54 (by decide +kernel) rfl
theorem kw_385 : Cond.methodLink RX8 156 yX5_town ∈ T0 := in_T0_2 55 (by decide +kernel) rfl
theorem kw_386 : Cond.instanceMethod yX5_town ∈ T0 := in_T0_2 56 (by decide +kernel) rfl
theorem kw_387 : Cond.selects RX5 yX5_town yX5_town ∈ T0 := in_T0_2 57 (by decide +kernel) rfl
theorem kw_388 : Cond.code yX5_town cX5_town 1 (some .int) ∈ T0 := in_T0_2 58 (by decide +kernel) rfl
theorem kw_389 : Cond.methodLink RX8 236 yX6_gather ∈ T0 := in_T0_2 59 (by decide +kernel) rfl
theorem kw_390 : Cond.instanceMethod yX6_gather ∈ T0 := in_T0_2 60 (by decide +kernel) rfl
theorem kw_391 : Cond.selects RX6 yX6_gather yX6_gather ∈ T0 := in_T0_2 61 (by decide +kernel) rfl
theorem kw_392 : Cond.code yX6_gather cX6_gather 7 (some .int) ∈ T0 := in_T0_2 62 (by decide +kernel) rfl
theorem kw_393 : Cond.methodLink RX6 138 yX6_canDo ∈ T0 := in_T0_2 63 (by decide +kernel) rfl
theorem kw_394 : Cond.instanceMethod yX6_canDo ∈ T0 := in_T0_2 64 (by decide +kernel) rfl
theorem kw_395 : Cond.selects RX6 yX6_canDo yX6_canDo ∈ T0 := in_T0_2 65 (by decide +kernel) rfl
theorem kw_396 : Cond.code yX6_canDo cX6_canDo 6 (some .boolean) ∈ T0 := in_T0_2 66 (by decide +kernel) rfl
theorem kw_397 : Cond.methodLink RX6 117 yX0_columnOf ∈ T0 := in_T0_2 67 (by decide +kernel) rfl
theorem kw_398 : Cond.static yX0_columnOf ∈ T0 := in_T0_2 68 (by decide +kernel) rfl
theorem kw_399 : Cond.code yX0_columnOf cX0_columnOf 1 (some .int) ∈ T0 := in_T0_2 69 (by decide +kernel) rfl
theorem kw_400 : Cond.methodLink RX6 120 yX0_isGate ∈ T0 := in_T0_2 70 (by decide +kernel) rfl
theorem kw_401 : Cond.static yX0_isGate ∈ T0 := in_T0_2 71 (by decide +kernel) rfl
theorem kw_402 : Cond.code yX0_isGate cX0_isGate 1 (some .boolean) ∈ T0 := in_T0_2 72 (by decide +kernel) rfl
theorem kw_403 : Cond.methodLink RX0 11 yX0_stoneOf ∈ T0 := in_T0_2 73 (by decide +kernel) rfl
theorem kw_404 : Cond.static yX0_stoneOf ∈ T0 := in_T0_2 74 (by decide +kernel) rfl
theorem kw_405 : Cond.code yX0_stoneOf cX0_stoneOf 1 (some .int) ∈ T0 := in_T0_2 75 (by decide +kernel) rfl
theorem kw_406 : Cond.methodLink RX6 124 yX6_gateHindrance ∈ T0 := in_T0_2 76 (by decide +kernel) rfl
theorem kw_407 : Cond.instanceMethod yX6_gateHindrance ∈ T0 := in_T0_2 77 (by decide +kernel) rfl
theorem kw_408 : Cond.selects RX6 yX6_gateHindrance yX6_gateHindrance ∈ T0 := in_T0_2 78 (by decide +kernel) rfl
theorem kw_409 : Cond.code yX6_gateHindrance cX6_gateHindrance 5 (some .int) ∈ T0 := in_T0_2 79 (by decide +kernel) rfl
theorem kw_410 : Cond.methodLink RX6 110 yX6_gatesLeft ∈ T0 := in_T0_2 80 (by decide +kernel) rfl
theorem kw_411 : Cond.instanceMethod yX6_gatesLeft ∈ T0 := in_T0_2 81 (by decide +kernel) rfl
theorem kw_412 : Cond.selects RX6 yX6_gatesLeft yX6_gatesLeft ∈ T0 := in_T0_2 82 (by decide +kernel) rfl
theorem kw_413 : Cond.code yX6_gatesLeft cX6_gatesLeft 4 (some .int) ∈ T0 := in_T0_2 83 (by decide +kernel) rfl
theorem kw_414 : Cond.methodLink RX6 104 yX6_gateAt ∈ T0 := in_T0_2 84 (by decide +kernel) rfl
theorem kw_415 : Cond.static yX6_gateAt ∈ T0 := in_T0_2 85 (by decide +kernel) rfl
theorem kw_416 : Cond.code yX6_gateAt cX6_gateAt 4 (some .int) ∈ T0 := in_T0_2 86 (by decide +kernel) rfl
theorem kw_417 : Cond.methodLink RX6 107 yX6_heightAt ∈ T0 := in_T0_2 87 (by decide +kernel) rfl
theorem kw_418 : Cond.static yX6_heightAt ∈ T0 := in_T0_2 88 (by decide +kernel) rfl
theorem kw_419 : Cond.code yX6_heightAt cX6_heightAt 4 (some .int) ∈ T0 := in_T0_2 89 (by decide +kernel) rfl
theorem kw_420 : Cond.methodLink RX6 128 yX0_stoneOf ∈ T0 := in_T0_2 90 (by decide +kernel) rfl
theorem kw_421 : Cond.methodLink RX6 131 yX0_wideOf ∈ T0 := in_T0_2 91 (by decide +kernel) rfl
theorem kw_422 : Cond.static yX0_wideOf ∈ T0 := in_T0_2 92 (by decide +kernel) rfl
theorem kw_423 : Cond.code yX0_wideOf cX0_wideOf 1 (some .int) ∈ T0 := in_T0_2 93 (by decide +kernel) rfl
theorem kw_424 : Cond.methodLink RX6 134 yX6_stoneHindrance ∈ T0 := in_T0_2 94 (by decide +kernel) rfl
theorem kw_425 : Cond.instanceMethod yX6_stoneHindrance ∈ T0 := in_T0_2 95 (by decide +kernel) rfl
theorem kw_426 : Cond.selects RX6 yX6_stoneHindrance yX6_stoneHindrance ∈ T0 := in_T0_2 96 (by decide +kernel) rfl
theorem kw_427 : Cond.code yX6_stoneHindrance cX6_stoneHindrance 11 (some .int) ∈ T0 := in_T0_2 97 (by decide +kernel) rfl
theorem kw_428 : Cond.methodLink RX6 92 yX6_twinHindrance ∈ T0 := in_T0_2 98 (by decide +kernel) rfl
theorem kw_430 : Cond.instanceMethod yX6_twinHindrance ∈ T0 := in_T0_2 100 (by decide +kernel) rfl
theorem kw_431 : Cond.code yX6_twinHindrance cX6_twinHindrance 5 (some .int) ∈ T0 := in_T0_2 101 (by decide +kernel) rfl
theorem kw_432 : Cond.constant RX6 96 (34952) ∈ T0 := in_T0_2 102 (by decide +kernel) rfl
theorem kw_433 : Cond.methodLink RX6 97 yX6_roundStands ∈ T0 := in_T0_2 103 (by decide +kernel) rfl
theorem kw_435 : Cond.instanceMethod yX6_roundStands ∈ T0 := in_T0_2 105 (by decide +kernel) rfl
theorem kw_436 : Cond.code yX6_roundStands cX6_roundStands 7 (some .boolean) ∈ T0 := in_T0_2 106 (by decide +kernel) rfl
theorem kw_437 : Cond.methodLink RX6 101 yX6_bridgeStands ∈ T0 := in_T0_2 107 (by decide +kernel) rfl
theorem kw_438 : Cond.static yX6_bridgeStands ∈ T0 := in_T0_2 108 (by decide +kernel) rfl
theorem kw_439 : Cond.code yX6_bridgeStands cX6_bridgeStands 4 (some .boolean) ∈ T0 := in_T0_2 109 (by decide +kernel) rfl
theorem kw_440 : Cond.fieldLink RX8 9 (TX8 0).1 (TX8 0).2.1 (TX8 0).2.2.1 ∈ T0 := in_T0_2 110 (by decide +kernel) rfl
theorem kw_441 : Cond.fieldLink RX8 13 (TX8 1).1 (TX8 1).2.1 (TX8 1).2.2.1 ∈ T0 := in_T0_2 111 (by decide +kernel) rfl
theorem kw_442 : Cond.fieldLink RX8 20 (TX8 2).1 (TX8 2).2.1 (TX8 2).2.2.1 ∈ T0 := in_T0_2 112 (by decide +kernel) rfl
theorem kw_443 : Cond.fieldLink RX8 70 (TX8 3).1 (TX8 3).2.1 (TX8 3).2.2.1 ∈ T0 := in_T0_2 113 (by decide +kernel) rfl
theorem kw_444 : Cond.fieldLink RX8 27 (TX8 4).1 (TX8 4).2.1 (TX8 4).2.2.1 ∈ T0 := in_T0_2 114 (by decide +kernel) rfl
theorem kw_445 : Cond.fieldLink RX8 33 (TX8 5).1 (TX8 5).2.1 (TX8 5).2.2.1 ∈ T0 := in_T0_2 115 (by decide +kernel) rfl
theorem kw_446 : Cond.fieldLink RX8 40 (TX8 6).1 (TX8 6).2.1 (TX8 6).2.2.1 ∈ T0 := in_T0_2 116 (by decide +kernel) rfl
theorem kw_447 : Cond.fieldLink RX8 44 (TX8 7).1 (TX8 7).2.1 (TX8 7).2.2.1 ∈ T0 := in_T0_2 117 (by decide +kernel) rfl
theorem kw_448 : Cond.fieldLink RX8 50 (TX8 8).1 (TX8 8).2.1 (TX8 8).2.2.1 ∈ T0 := in_T0_2 118 (by decide +kernel) rfl
theorem kw_449 : Cond.fieldLink RX8 56 (TX8 9).1 (TX8 9).2.1 (TX8 9).2.2.1 ∈ T0 := in_T0_2 119 (by decide +kernel) rfl
theorem kw_450 : Cond.fieldLink RX8 60 (TX8 10).1 (TX8 10).2.1 (TX8 10).2.2.1 ∈ T0 := in_T0_2 120 (by decide +kernel) rfl
theorem kw_451 : Cond.fieldLink RX8 63 (TX8 11).1 (TX8 11).2.1 (TX8 11).2.2.1 ∈ T0 := in_T0_2 121 (by decide +kernel) rfl
theorem kw_481 : Cond.methodLink RX8 81 yX8_takeSigns ∈ T0 := in_T0_2 151 (by decide +kernel) rfl
theorem kw_483 : Cond.instanceMethod yX8_takeSigns ∈ T0 := in_T0_2 153 (by decide +kernel) rfl
theorem kw_484 : Cond.code yX8_takeSigns cX8_takeSigns 6 none ∈ T0 := in_T0_2 154 (by decide +kernel) rfl
theorem kw_489 : Cond.methodLink RX8 85 yX3_readTruce ∈ T0 := in_T0_2 159 (by decide +kernel) rfl
theorem kw_490 : Cond.instanceMethod yX3_readTruce ∈ T0 := in_T0_2 160 (by decide +kernel) rfl
theorem kw_491 : Cond.selects RX3 yX3_readTruce yX3_readTruce ∈ T0 := in_T0_2 161 (by decide +kernel) rfl
theorem kw_492 : Cond.code yX3_readTruce cX3_readTruce 4 (some .int) ∈ T0 := in_T0_2 162 (by decide +kernel) rfl
theorem kw_493 : Cond.methodLink RX3 85 yX3_step ∈ T0 := in_T0_2 163 (by decide +kernel) rfl
theorem kw_495 : Cond.instanceMethod yX3_step ∈ T0 := in_T0_2 165 (by decide +kernel) rfl
theorem kw_496 : Cond.code yX3_step cX3_step 2 none ∈ T0 := in_T0_2 166 (by decide +kernel) rfl
theorem kw_497 : Cond.methodLink RX3 137 yX3_isLetter ∈ T0 := in_T0_2 167 (by decide +kernel) rfl
theorem kw_498 : Cond.static yX3_isLetter ∈ T0 := in_T0_2 168 (by decide +kernel) rfl
theorem kw_499 : Cond.code yX3_isLetter cX3_isLetter 1 (some .boolean) ∈ T0 := in_T0_2 169 (by decide +kernel) rfl
theorem kw_500 : Cond.methodLink RX3 141 yX3_stepWord ∈ T0 := in_T0_2 170 (by decide +kernel) rfl
theorem kw_502 : Cond.instanceMethod yX3_stepWord ∈ T0 := in_T0_2 172 (by decide +kernel) rfl
theorem kw_503 : Cond.code yX3_stepWord cX3_stepWord 3 none ∈ T0 := in_T0_2 173 (by decide +kernel) rfl
theorem kw_504 : Cond.methodLink RX3 153 yX3_knownWord ∈ T0 := in_T0_2 174 (by decide +kernel) rfl
theorem kw_506 : Cond.instanceMethod yX3_knownWord ∈ T0 := in_T0_2 176 (by decide +kernel) rfl
theorem kw_507 : Cond.code yX3_knownWord cX3_knownWord 6 (some .int) ∈ T0 := in_T0_2 177 (by decide +kernel) rfl
theorem kw_509 : Cond.methodLink RX3 159 yJ0_charAt_5068e ∈ T0 := in_T0_2 179 (by decide +kernel) rfl
theorem kw_510 : Cond.instanceMethod yJ0_charAt_5068e ∈ T0 := in_T0_2 180 (by decide +kernel) rfl
theorem kw_511 : Cond.selects RJ0 yJ0_charAt_5068e yJ0_charAt_5068e ∈ T0 := in_T0_2 181 (by decide +kernel) rfl
theorem kw_512 : Cond.code yJ0_charAt_5068e cJ0_charAt_5068e 2 (some .char) ∈ T0 := in_T0_2 182 (by decide +kernel) rfl
theorem kw_513 : Cond.methodLink RJ0 492 yJ0_isLatin1_aae02 ∈ T0 := in_T0_2 183 (by decide +kernel) rfl
theorem kw_514 : Cond.instanceMethod yJ0_isLatin1_aae02 ∈ T0 := in_T0_2 184 (by decide +kernel) rfl
theorem kw_515 : Cond.selects RJ0 yJ0_isLatin1_aae02 yJ0_isLatin1_aae02 ∈ T0 := in_T0_2 185 (by decide +kernel) rfl
theorem kw_516 : Cond.code yJ0_isLatin1_aae02 cJ0_isLatin1_aae02 1 (some .boolean) ∈ T0 := in_T0_2 186 (by decide +kernel) rfl
theorem kw_517 : Cond.fieldLink RJ0 38 "java/lang/String" "COMPACT_STRINGS" "Z" ∈ T0 := in_T0_2 187 (by decide +kernel) rfl
theorem kw_519 : Cond.methodLink RJ0 495 yJ1_charAt_3b067 ∈ T0 := in_T0_2 189 (by decide +kernel) rfl
theorem kw_520 : Cond.static yJ1_charAt_3b067 ∈ T0 := in_T0_2 190 (by decide +kernel) rfl
theorem kw_521 : Cond.code yJ1_charAt_3b067 cJ1_charAt_3b067 2 (some .char) ∈ T0 := in_T0_2 191 (by decide +kernel) rfl
theorem kw_522 : Cond.methodLink RJ1 9 yJ0_checkIndex_df160 ∈ T0 := in_T0_2 192 (by decide +kernel) rfl
theorem kw_523 : Cond.static yJ0_checkIndex_df160 ∈ T0 := in_T0_2 193 (by decide +kernel) rfl
theorem kw_524 : Cond.code yJ0_checkIndex_df160 cJ0_checkIndex_df160 2 none ∈ T0 := in_T0_2 194 (by decide +kernel) rfl
theorem kw_525 : Cond.fieldLink RJ0 1053 "jdk/internal/util/Preconditions" "SIOOBE_FORMATTER" "Ljava/util/function/BiFunction;" ∈ T0 := in_T0_2 195 (by decide +kernel) rfl
theorem kw_527 : Cond.methodLink RJ0 1059 yJ3_checkIndex_8e157 ∈ T0 := in_T0_2 197 (by decide +kernel) rfl
theorem kw_528 : Cond.static yJ3_checkIndex_8e157 ∈ T0 := in_T0_2 198 (by decide +kernel) rfl
theorem kw_529 : Cond.code yJ3_checkIndex_8e157 cJ3_checkIndex_8e157 3 (some .int) ∈ T0 := in_T0_2 199 (by decide +kernel) rfl
theorem kw_549 : Cond.methodLink RX3 144 yX3_isDigit ∈ T0 := in_T0_2 219 (by decide +kernel) rfl
theorem kw_550 : Cond.static yX3_isDigit ∈ T0 := in_T0_2 220 (by decide +kernel) rfl
theorem kw_551 : Cond.code yX3_isDigit cX3_isDigit 1 (some .boolean) ∈ T0 := in_T0_2 221 (by decide +kernel) rfl
theorem kw_552 : Cond.methodLink RX3 147 yX3_stepNumber ∈ T0 := in_T0_2 222 (by decide +kernel) rfl
theorem kw_554 : Cond.instanceMethod yX3_stepNumber ∈ T0 := in_T0_2 224 (by decide +kernel) rfl
theorem kw_555 : Cond.code yX3_stepNumber cX3_stepNumber 2 none ∈ T0 := in_T0_2 225 (by decide +kernel) rfl
theorem kw_556 : Cond.methodLink RX3 150 yX3_isSign ∈ T0 := in_T0_2 226 (by decide +kernel) rfl
theorem kw_557 : Cond.static yX3_isSign ∈ T0 := in_T0_2 227 (by decide +kernel) rfl
theorem kw_558 : Cond.code yX3_isSign cX3_isSign 1 (some .boolean) ∈ T0 := in_T0_2 228 (by decide +kernel) rfl
theorem kw_559 : Cond.methodLink RX3 88 yX3_wallLine ∈ T0 := in_T0_2 229 (by decide +kernel) rfl
theorem kw_561 : Cond.instanceMethod yX3_wallLine ∈ T0 := in_T0_2 231 (by decide +kernel) rfl
theorem kw_562 : Cond.code yX3_wallLine cX3_wallLine 1 none ∈ T0 := in_T0_2 232 (by decide +kernel) rfl
theorem kw_563 : Cond.methodLink RX3 104 yX3_expect ∈ T0 := in_T0_2 233 (by decide +kernel) rfl
theorem kw_565 : Cond.instanceMethod yX3_expect ∈ T0 := in_T0_2 235 (by decide +kernel) rfl
theorem kw_566 : Cond.code yX3_expect cX3_expect 2 none ∈ T0 := in_T0_2 236 (by decide +kernel) rfl
theorem kw_567 : Cond.methodLink RX3 100 yX3_wrong ∈ T0 := in_T0_2 237 (by decide +kernel) rfl
theorem kw_569 : Cond.instanceMethod yX3_wrong ∈ T0 := in_T0_2 239 (by decide +kernel) rfl
theorem kw_570 : Cond.code yX3_wrong cX3_wrong 2 none ∈ T0 := in_T0_3 0 (by decide +kernel) rfl
theorem kw_571 : Cond.methodLink RX3 107 yX3_expectNumber ∈ T0 := in_T0_3 1 (by decide +kernel) rfl
theorem kw_573 : Cond.instanceMethod yX3_expectNumber ∈ T0 := in_T0_3 3 (by decide +kernel) rfl
theorem kw_574 : Cond.code yX3_expectNumber cX3_expectNumber 4 (some .int) ∈ T0 := in_T0_3 4 (by decide +kernel) rfl
theorem kw_575 : Cond.methodLink RX3 91 yX3_stoneLine ∈ T0 := in_T0_3 5 (by decide +kernel) rfl
theorem kw_577 : Cond.instanceMethod yX3_stoneLine ∈ T0 := in_T0_3 7 (by decide +kernel) rfl
theorem kw_578 : Cond.code yX3_stoneLine cX3_stoneLine 4 none ∈ T0 := in_T0_3 8 (by decide +kernel) rfl
theorem kw_579 : Cond.methodLink RX3 111 yX3_expectName ∈ T0 := in_T0_3 9 (by decide +kernel) rfl
theorem kw_581 : Cond.instanceMethod yX3_expectName ∈ T0 := in_T0_3 11 (by decide +kernel) rfl
theorem kw_582 : Cond.code yX3_expectName cX3_expectName 3 (some .long) ∈ T0 := in_T0_3 12 (by decide +kernel) rfl
theorem kw_583 : Cond.methodLink RX3 115 yX3_expectKind ∈ T0 := in_T0_3 13 (by decide +kernel) rfl
theorem kw_585 : Cond.instanceMethod yX3_expectKind ∈ T0 := in_T0_3 15 (by decide +kernel) rfl
theorem kw_586 : Cond.code yX3_expectKind cX3_expectKind 2 (some .int) ∈ T0 := in_T0_3 16 (by decide +kernel) rfl
theorem kw_587 : Cond.methodLink RX3 94 yX3_gatesLine ∈ T0 := in_T0_3 17 (by decide +kernel) rfl
theorem kw_589 : Cond.instanceMethod yX3_gatesLine ∈ T0 := in_T0_3 19 (by decide +kernel) rfl
theorem kw_590 : Cond.code yX3_gatesLine cX3_gatesLine 1 none ∈ T0 := in_T0_3 20 (by decide +kernel) rfl
theorem kw_591 : Cond.methodLink RX3 97 yX3_fineLine ∈ T0 := in_T0_3 21 (by decide +kernel) rfl
theorem kw_593 : Cond.instanceMethod yX3_fineLine ∈ T0 := in_T0_3 23 (by decide +kernel) rfl
theorem kw_594 : Cond.code yX3_fineLine cX3_fineLine 1 none ∈ T0 := in_T0_3 24 (by decide +kernel) rfl
theorem kw_595 : Cond.methodLink RX3 119 yX3_readE ∈ T0 := in_T0_3 25 (by decide +kernel) rfl
theorem kw_597 : Cond.instanceMethod yX3_readE ∈ T0 := in_T0_3 27 (by decide +kernel) rfl
theorem kw_598 : Cond.code yX3_readE cX3_readE 4 none ∈ T0 := in_T0_3 28 (by decide +kernel) rfl
theorem kw_599 : Cond.methodLink RX3 122 yX3_readTest ∈ T0 := in_T0_3 29 (by decide +kernel) rfl
theorem kw_601 : Cond.instanceMethod yX3_readTest ∈ T0 := in_T0_3 31 (by decide +kernel) rfl
theorem kw_602 : Cond.code yX3_readTest cX3_readTest 3 none ∈ T0 := in_T0_3 32 (by decide +kernel) rfl
theorem kw_603 : Cond.methodLink RX3 128 yX3_readSum ∈ T0 := in_T0_3 33 (by decide +kernel) rfl
theorem kw_605 : Cond.instanceMethod yX3_readSum ∈ T0 := in_T0_3 35 (by decide +kernel) rfl
theorem kw_606 : Cond.code yX3_readSum cX3_readSum 4 none ∈ T0 := in_T0_3 36 (by decide +kernel) rfl
theorem kw_607 : Cond.methodLink RX3 131 yX3_readProduct ∈ T0 := in_T0_3 37 (by decide +kernel) rfl
theorem kw_609 : Cond.instanceMethod yX3_readProduct ∈ T0 := in_T0_3 39 (by decide +kernel) rfl
theorem kw_610 : Cond.code yX3_readProduct cX3_readProduct 3 none ∈ T0 := in_T0_3 40 (by decide +kernel) rfl
theorem kw_611 : Cond.methodLink RX3 134 yX3_readPart ∈ T0 := in_T0_3 41 (by decide +kernel) rfl
theorem kw_613 : Cond.instanceMethod yX3_readPart ∈ T0 := in_T0_3 43 (by decide +kernel) rfl
theorem kw_614 : Cond.code yX3_readPart cX3_readPart 3 none ∈ T0 := in_T0_3 44 (by decide +kernel) rfl
theorem kw_615 : Cond.methodLink RX3 125 yX3_emit ∈ T0 := in_T0_3 45 (by decide +kernel) rfl
theorem kw_617 : Cond.instanceMethod yX3_emit ∈ T0 := in_T0_3 47 (by decide +kernel) rfl
theorem kw_618 : Cond.code yX3_emit cX3_emit 2 none ∈ T0 := in_T0_3 48 (by decide +kernel) rfl
theorem kw_619 : Cond.arrayClass (newarray.typeOf .byte) ∈ T0 := in_T0_3 49 (by decide +kernel) rfl
theorem kw_628 : Cond.methodLink RX8 100 yX8_fits ∈ T0 := in_T0_3 58 (by decide +kernel) rfl
theorem kw_629 : Cond.instanceMethod yX8_fits ∈ T0 := in_T0_3 59 (by decide +kernel) rfl
theorem kw_630 : Cond.selects RX8 yX8_fits yX8_fits ∈ T0 := in_T0_3 60 (by decide +kernel) rfl
theorem kw_631 : Cond.code yX8_fits cX8_fits 4 (some .int) ∈ T0 := in_T0_3 61 (by decide +kernel) rfl
theorem kw_632 : Cond.methodLink RX8 118 yX6_isAsTold ∈ T0 := in_T0_3 62 (by decide +kernel) rfl
theorem kw_633 : Cond.methodLink RX8 122 yX8_isOver ∈ T0 := in_T0_3 63 (by decide +kernel) rfl
theorem kw_635 : Cond.instanceMethod yX8_isOver ∈ T0 := in_T0_3 65 (by decide +kernel) rfl
theorem kw_636 : Cond.code yX8_isOver cX8_isOver 1 (some .boolean) ∈ T0 := in_T0_3 66 (by decide +kernel) rfl
theorem kw_637 : Cond.methodLink RX8 130 yX6_stoneHindrance ∈ T0 := in_T0_3 67 (by decide +kernel) rfl
theorem kw_638 : Cond.methodLink RX8 104 yX0_ofStone ∈ T0 := in_T0_3 68 (by decide +kernel) rfl
theorem kw_639 : Cond.methodLink RX8 107 yX5_perform ∈ T0 := in_T0_3 69 (by decide +kernel) rfl
theorem kw_640 : Cond.instanceMethod yX5_perform ∈ T0 := in_T0_3 70 (by decide +kernel) rfl
theorem kw_641 : Cond.selects RX5 yX5_perform yX5_perform ∈ T0 := in_T0_3 71 (by decide +kernel) rfl
theorem kw_642 : Cond.code yX5_perform cX5_perform 3 none ∈ T0 := in_T0_3 72 (by decide +kernel) rfl
theorem kw_643 : Cond.methodLink RX5 57 yX0_isGate ∈ T0 := in_T0_3 73 (by decide +kernel) rfl
theorem kw_644 : Cond.methodLink RX5 63 yX5_lodge ∈ T0 := in_T0_3 74 (by decide +kernel) rfl
theorem kw_646 : Cond.instanceMethod yX5_lodge ∈ T0 := in_T0_3 76 (by decide +kernel) rfl
theorem kw_647 : Cond.code yX5_lodge cX5_lodge 11 none ∈ T0 := in_T0_3 77 (by decide +kernel) rfl
theorem kw_648 : Cond.methodLink RX5 77 yX0_stoneOf ∈ T0 := in_T0_3 78 (by decide +kernel) rfl
theorem kw_649 : Cond.methodLink RX5 81 yX0_columnOf ∈ T0 := in_T0_3 79 (by decide +kernel) rfl
theorem kw_650 : Cond.methodLink RX5 84 yX0_wideOf ∈ T0 := in_T0_3 80 (by decide +kernel) rfl
theorem kw_651 : Cond.methodLink RX5 87 yX6_heightAt ∈ T0 := in_T0_3 81 (by decide +kernel) rfl
theorem kw_652 : Cond.methodLink RX5 66 yX5_town ∈ T0 := in_T0_3 82 (by decide +kernel) rfl
theorem kw_653 : Cond.methodLink RX5 91 yX6_twinOf ∈ T0 := in_T0_3 83 (by decide +kernel) rfl
theorem kw_654 : Cond.methodLink RX5 97 yX4_worth ∈ T0 := in_T0_3 84 (by decide +kernel) rfl
theorem kw_655 : Cond.instanceMethod yX4_worth ∈ T0 := in_T0_3 85 (by decide +kernel) rfl
theorem kw_656 : Cond.selects RX4 yX4_worth yX4_worth ∈ T0 := in_T0_3 86 (by decide +kernel) rfl
theorem kw_657 : Cond.code yX4_worth cX4_worth 9 (some .int) ∈ T0 := in_T0_3 87 (by decide +kernel) rfl
theorem kw_658 : Cond.methodLink RX4 17 yX4_push ∈ T0 := in_T0_3 88 (by decide +kernel) rfl
theorem kw_660 : Cond.instanceMethod yX4_push ∈ T0 := in_T0_3 90 (by decide +kernel) rfl
theorem kw_661 : Cond.code yX4_push cX4_push 2 none ∈ T0 := in_T0_3 91 (by decide +kernel) rfl
theorem kw_662 : Cond.methodLink RX4 21 yX4_pop ∈ T0 := in_T0_3 92 (by decide +kernel) rfl
theorem kw_664 : Cond.instanceMethod yX4_pop ∈ T0 := in_T0_3 94 (by decide +kernel) rfl
theorem kw_665 : Cond.code yX4_pop cX4_pop 1 (some .int) ∈ T0 := in_T0_3 95 (by decide +kernel) rfl
theorem kw_666 : Cond.methodLink RX4 25 yX4_joined ∈ T0 := in_T0_3 96 (by decide +kernel) rfl
theorem kw_667 : Cond.static yX4_joined ∈ T0 := in_T0_3 97 (by decide +kernel) rfl
theorem kw_668 : Cond.code yX4_joined cX4_joined 3 (some .int) ∈ T0 := in_T0_3 98 (by decide +kernel) rfl
theorem kw_669 : Cond.methodLink RX5 70 yX6_after ∈ T0 := in_T0_3 99 (by decide +kernel) rfl
theorem kw_670 : Cond.instanceMethod yX6_after ∈ T0 := in_T0_3 100 (by decide +kernel) rfl
theorem kw_671 : Cond.selects RX6 yX6_after yX6_after ∈ T0 := in_T0_3 101 (by decide +kernel) rfl
theorem kw_672 : Cond.code yX6_after cX6_after 10 (some .long) ∈ T0 := in_T0_3 102 (by decide +kernel) rfl
theorem kw_673 : Cond.methodLink RX6 141 yX6_withGate ∈ T0 := in_T0_3 103 (by decide +kernel) rfl
theorem kw_674 : Cond.static yX6_withGate ∈ T0 := in_T0_3 104 (by decide +kernel) rfl
theorem kw_675 : Cond.code yX6_withGate cX6_withGate 4 (some .long) ∈ T0 := in_T0_3 105 (by decide +kernel) rfl
theorem kw_676 : Cond.methodLink RX6 113 yX6_withPlace ∈ T0 := in_T0_3 106 (by decide +kernel) rfl
theorem kw_677 : Cond.static yX6_withPlace ∈ T0 := in_T0_3 107 (by decide +kernel) rfl
theorem kw_678 : Cond.code yX6_withPlace cX6_withPlace 5 (some .long) ∈ T0 := in_T0_3 108 (by decide +kernel) rfl
theorem kw_679 : Cond.constantLong RX6 65 (15) ∈ T0 := in_T0_3 109 (by decide +kernel) rfl
theorem kw_680 : Cond.constantLong RX6 67 (-1) ∈ T0 := in_T0_3 110 (by decide +kernel) rfl
theorem kw_685 : Cond.methodLink RX8 111 yX8_gateRefused ∈ T0 := in_T0_3 115 (by decide +kernel) rfl
theorem kw_687 : Cond.instanceMethod yX8_gateRefused ∈ T0 := in_T0_3 117 (by decide +kernel) rfl
theorem kw_688 : Cond.code yX8_gateRefused cX8_gateRefused 2 (some .int) ∈ T0 := in_T0_3 118 (by decide +kernel) rfl
theorem kw_689 : Cond.methodLink RX8 268 yX6_gateHindrance ∈ T0 := in_T0_3 119 (by decide +kernel) rfl
theorem kw_690 : Cond.methodLink RX8 115 yX0_ofGate ∈ T0 := in_T0_3 120 (by decide +kernel) rfl
theorem kw_696 : Cond.methodLink RX8 137 yX5_replay ∈ T0 := in_T0_3 126 (by decide +kernel) rfl
theorem kw_697 : Cond.instanceMethod yX5_replay ∈ T0 := in_T0_3 127 (by decide +kernel) rfl
theorem kw_698 : Cond.selects RX5 yX5_replay yX5_replay ∈ T0 := in_T0_3 128 (by decide +kernel) rfl
theorem kw_699 : Cond.code yX5_replay cX5_replay 4 none ∈ T0 := in_T0_3 129 (by decide +kernel) rfl
theorem kw_700 : Cond.methodLink RX5 50 yX5_clear ∈ T0 := in_T0_3 130 (by decide +kernel) rfl
theorem kw_701 : Cond.methodLink RX5 53 yX5_perform ∈ T0 := in_T0_3 131 (by decide +kernel) rfl
theorem kw_706 : Cond.methodLink RX8 143 yX6_heightAt ∈ T0 := in_T0_3 136 (by decide +kernel) rfl
theorem kw_707 : Cond.methodLink RX8 147 yX6_gateAt ∈ T0 := in_T0_3 137 (by decide +kernel) rfl
theorem kw_712 : Cond.methodLink RX8 183 yX0_isGate ∈ T0 := in_T0_3 142 (by decide +kernel) rfl
theorem kw_713 : Cond.methodLink RX8 187 yX0_stoneOf ∈ T0 := in_T0_3 143 (by decide +kernel) rfl
theorem kw_714 : Cond.methodLink RX8 190 yX0_columnOf ∈ T0 := in_T0_3 144 (by decide +kernel) rfl
theorem kw_715 : Cond.methodLink RX8 193 yX0_wideOf ∈ T0 := in_T0_3 145 (by decide +kernel) rfl
theorem kw_720 : Cond.methodLink RX8 200 yX8_outcomeNow ∈ T0 := in_T0_3 150 (by decide +kernel) rfl
theorem kw_722 : Cond.instanceMethod yX8_outcomeNow ∈ T0 := in_T0_3 152 (by decide +kernel) rfl
theorem kw_723 : Cond.code yX8_outcomeNow cX8_outcomeNow 1 (some .int) ∈ T0 := in_T0_3 153 (by decide +kernel) rfl
theorem kw_724 : Cond.methodLink RX8 216 yX2_prepare ∈ T0 := in_T0_3 154 (by decide +kernel) rfl
theorem kw_725 : Cond.instanceMethod yX2_prepare ∈ T0 := in_T0_3 155 (by decide +kernel) rfl
theorem kw_726 : Cond.selects RX2 yX2_prepare yX2_prepare ∈ T0 := in_T0_3 156 (by decide +kernel) rfl
theorem kw_727 : Cond.code yX2_prepare cX2_prepare 5 none ∈ T0 := in_T0_3 157 (by decide +kernel) rfl
theorem kw_730 : Cond.instanceMethod yX2_outcome ∈ T0 := in_T0_3 160 (by decide +kernel) rfl
theorem kw_731 : Cond.code yX2_outcome cX2_outcome 6 (some .int) ∈ T0 := in_T0_3 161 (by decide +kernel) rfl
theorem kw_732 : Cond.methodLink RX2 33 yX6_numberOf ∈ T0 := in_T0_3 162 (by decide +kernel) rfl
theorem kw_733 : Cond.instanceMethod yX6_numberOf ∈ T0 := in_T0_3 163 (by decide +kernel) rfl
theorem kw_734 : Cond.selects RX6 yX6_numberOf yX6_numberOf ∈ T0 := in_T0_3 164 (by decide +kernel) rfl
theorem kw_735 : Cond.code yX6_numberOf cX6_numberOf 6 (some .int) ∈ T0 := in_T0_3 165 (by decide +kernel) rfl
theorem kw_736 : Cond.methodLink RX2 39 yX2_outcomeByRule ∈ T0 := in_T0_3 166 (by decide +kernel) rfl
theorem kw_738 : Cond.instanceMethod yX2_outcomeByRule ∈ T0 := in_T0_3 168 (by decide +kernel) rfl
theorem kw_739 : Cond.code yX2_outcomeByRule cX2_outcomeByRule 6 (some .int) ∈ T0 := in_T0_3 169 (by decide +kernel) rfl
theorem kw_740 : Cond.methodLink RX2 71 yX2_actByRule ∈ T0 := in_T0_3 170 (by decide +kernel) rfl
theorem kw_742 : Cond.instanceMethod yX2_actByRule ∈ T0 := in_T0_3 172 (by decide +kernel) rfl
theorem kw_743 : Cond.code yX2_actByRule cX2_actByRule 9 (some .int) ∈ T0 := in_T0_3 173 (by decide +kernel) rfl
theorem kw_744 : Cond.methodLink RX2 49 yX6_canDo ∈ T0 := in_T0_3 174 (by decide +kernel) rfl
theorem kw_745 : Cond.methodLink RX2 74 yX0_columnOf ∈ T0 := in_T0_3 175 (by decide +kernel) rfl
theorem kw_746 : Cond.methodLink RX2 79 yX6_heightAt ∈ T0 := in_T0_3 176 (by decide +kernel) rfl
theorem kw_747 : Cond.methodLink RX2 67 yX6_payer ∈ T0 := in_T0_3 177 (by decide +kernel) rfl
theorem kw_748 : Cond.instanceMethod yX6_payer ∈ T0 := in_T0_3 178 (by decide +kernel) rfl
theorem kw_749 : Cond.selects RX6 yX6_payer yX6_payer ∈ T0 := in_T0_3 179 (by decide +kernel) rfl
theorem kw_750 : Cond.code yX6_payer cX6_payer 4 (some .int) ∈ T0 := in_T0_3 180 (by decide +kernel) rfl
theorem kw_751 : Cond.methodLink RX6 144 yX6_isClosed ∈ T0 := in_T0_3 181 (by decide +kernel) rfl
theorem kw_752 : Cond.instanceMethod yX6_isClosed ∈ T0 := in_T0_3 182 (by decide +kernel) rfl
theorem kw_753 : Cond.selects RX6 yX6_isClosed yX6_isClosed ∈ T0 := in_T0_3 183 (by decide +kernel) rfl
theorem kw_754 : Cond.code yX6_isClosed cX6_isClosed 4 (some .boolean) ∈ T0 := in_T0_3 184 (by decide +kernel) rfl
theorem kw_755 : Cond.methodLink RX2 53 yX6_after ∈ T0 := in_T0_3 185 (by decide +kernel) rfl
theorem kw_756 : Cond.methodLink RX2 57 yX2_outcome ∈ T0 := in_T0_3 186 (by decide +kernel) rfl
theorem kw_757 : Cond.methodLink RX2 60 yX2_later ∈ T0 := in_T0_3 187 (by decide +kernel) rfl
theorem kw_758 : Cond.static yX2_later ∈ T0 := in_T0_3 188 (by decide +kernel) rfl
theorem kw_759 : Cond.code yX2_later cX2_later 1 (some .int) ∈ T0 := in_T0_3 189 (by decide +kernel) rfl
theorem kw_760 : Cond.methodLink RX2 43 yX2_outcomeByChoice ∈ T0 := in_T0_3 190 (by decide +kernel) rfl
theorem kw_762 : Cond.instanceMethod yX2_outcomeByChoice ∈ T0 := in_T0_3 192 (by decide +kernel) rfl
theorem kw_763 : Cond.code yX2_outcomeByChoice cX2_outcomeByChoice 9 (some .int) ∈ T0 := in_T0_3 193 (by decide +kernel) rfl
theorem kw_764 : Cond.methodLink RX2 63 yX2_score ∈ T0 := in_T0_3 194 (by decide +kernel) rfl
theorem kw_765 : Cond.static yX2_score ∈ T0 := in_T0_3 195 (by decide +kernel) rfl
theorem kw_766 : Cond.code yX2_score cX2_score 3 (some .int) ∈ T0 := in_T0_3 196 (by decide +kernel) rfl
theorem kw_767 : Cond.methodLink RX2 26 yX2_daysIn ∈ T0 := in_T0_3 197 (by decide +kernel) rfl
theorem kw_768 : Cond.static yX2_daysIn ∈ T0 := in_T0_3 198 (by decide +kernel) rfl
theorem kw_769 : Cond.code yX2_daysIn cX2_daysIn 1 (some .int) ∈ T0 := in_T0_3 199 (by decide +kernel) rfl
theorem kw_770 : Cond.methodLink RX2 30 yX2_payerIn ∈ T0 := in_T0_3 200 (by decide +kernel) rfl
theorem kw_771 : Cond.static yX2_payerIn ∈ T0 := in_T0_3 201 (by decide +kernel) rfl
theorem kw_772 : Cond.code yX2_payerIn cX2_payerIn 1 (some .int) ∈ T0 := in_T0_3 202 (by decide +kernel) rfl
theorem kw_773 : Cond.methodLink RX8 203 yX2_payerIn ∈ T0 := in_T0_3 203 (by decide +kernel) rfl
theorem kw_778 : Cond.methodLink RX8 206 yX2_daysIn ∈ T0 := in_T0_3 208 (by decide +kernel) rfl
theorem kw_783 : Cond.methodLink RX8 209 yX8_outcomeBehind ∈ T0 := in_T0_3 213 (by decide +kernel) rfl
theorem kw_785 : Cond.instanceMethod yX8_outcomeBehind ∈ T0 := in_T0_3 215 (by decide +kernel) rfl
theorem kw_786 : Cond.code yX8_outcomeBehind cX8_outcomeBehind 4 (some .int) ∈ T0 := in_T0_3 216 (by decide +kernel) rfl
theorem kw_787 : Cond.methodLink RX8 248 yX6_after ∈ T0 := in_T0_3 217 (by decide +kernel) rfl
theorem kw_788 : Cond.methodLink RX8 271 yX2_later ∈ T0 := in_T0_3 218 (by decide +kernel) rfl
theorem kw_789 : Cond.methodLink RX8 212 yX2_score ∈ T0 := in_T0_3 219 (by decide +kernel) rfl
theorem kw_802 : Cond.methodLink RX8 224 yX7_spread ∈ T0 := in_T0_3 232 (by decide +kernel) rfl
theorem kw_803 : Cond.instanceMethod yX7_spread ∈ T0 := in_T0_3 233 (by decide +kernel) rfl
theorem kw_804 : Cond.selects RX7 yX7_spread yX7_spread ∈ T0 := in_T0_3 234 (by decide +kernel) rfl
theorem kw_805 : Cond.code yX7_spread cX7_spread 10 none ∈ T0 := in_T0_3 235 (by decide +kernel) rfl
theorem kw_806 : Cond.methodLink RX7 15 yX6_numberOf ∈ T0 := in_T0_3 236 (by decide +kernel) rfl
theorem kw_807 : Cond.methodLink RX7 21 yX7_spreadDay ∈ T0 := in_T0_3 237 (by decide +kernel) rfl
theorem kw_809 : Cond.instanceMethod yX7_spreadDay ∈ T0 := in_T0_3 239 (by decide +kernel) rfl
theorem kw_810 : Cond.code yX7_spreadDay cX7_spreadDay 7 (some .boolean) ∈ T0 := in_T0_4 0 (by decide +kernel) rfl
theorem kw_811 : Cond.methodLink RX7 25 yX6_manyNumbers ∈ T0 := in_T0_4 1 (by decide +kernel) rfl
theorem kw_812 : Cond.instanceMethod yX6_manyNumbers ∈ T0 := in_T0_4 2 (by decide +kernel) rfl
theorem kw_813 : Cond.selects RX6 yX6_manyNumbers yX6_manyNumbers ∈ T0 := in_T0_4 3 (by decide +kernel) rfl
theorem kw_814 : Cond.code yX6_manyNumbers cX6_manyNumbers 1 (some .int) ∈ T0 := in_T0_4 4 (by decide +kernel) rfl
theorem kw_815 : Cond.methodLink RX7 29 Lib.Math.min.name ∈ T0 := in_T0_4 5 (by decide +kernel) rfl
theorem kw_816 : Cond.static Lib.Math.min.name ∈ T0 := in_T0_4 6 (by decide +kernel) rfl
theorem kw_817 : Cond.code Lib.Math.min.name Lib.Math.min.code 2 (some .int) ∈ T0 := in_T0_4 7 (by decide +kernel) rfl
theorem kw_818 : Cond.methodLink RX7 35 yX6_wallOf ∈ T0 := in_T0_4 8 (by decide +kernel) rfl
theorem kw_819 : Cond.instanceMethod yX6_wallOf ∈ T0 := in_T0_4 9 (by decide +kernel) rfl
theorem kw_820 : Cond.selects RX6 yX6_wallOf yX6_wallOf ∈ T0 := in_T0_4 10 (by decide +kernel) rfl
theorem kw_821 : Cond.code yX6_wallOf cX6_wallOf 8 (some .long) ∈ T0 := in_T0_4 11 (by decide +kernel) rfl
theorem kw_822 : Cond.methodLink RX7 39 yX7_spreadWall ∈ T0 := in_T0_4 12 (by decide +kernel) rfl
theorem kw_824 : Cond.instanceMethod yX7_spreadWall ∈ T0 := in_T0_4 14 (by decide +kernel) rfl
theorem kw_825 : Cond.code yX7_spreadWall cX7_spreadWall 10 none ∈ T0 := in_T0_4 15 (by decide +kernel) rfl
theorem kw_826 : Cond.methodLink RX7 46 yX6_canDo ∈ T0 := in_T0_4 16 (by decide +kernel) rfl
theorem kw_827 : Cond.methodLink RX7 50 yX6_after ∈ T0 := in_T0_4 17 (by decide +kernel) rfl
theorem kw_828 : Cond.constantLong RX7 54 (1000000007) ∈ T0 := in_T0_4 18 (by decide +kernel) rfl
theorem kw_829 : Cond.methodLink RX8 228 yX7_unlikeWalls ∈ T0 := in_T0_4 19 (by decide +kernel) rfl
theorem kw_830 : Cond.instanceMethod yX7_unlikeWalls ∈ T0 := in_T0_4 20 (by decide +kernel) rfl
theorem kw_831 : Cond.selects RX7 yX7_unlikeWalls yX7_unlikeWalls ∈ T0 := in_T0_4 21 (by decide +kernel) rfl
theorem kw_832 : Cond.code yX7_unlikeWalls cX7_unlikeWalls 5 (some .int) ∈ T0 := in_T0_4 22 (by decide +kernel) rfl
theorem kw_833 : Cond.methodLink RX7 56 yX6_numberOfLooks ∈ T0 := in_T0_4 23 (by decide +kernel) rfl
theorem kw_834 : Cond.instanceMethod yX6_numberOfLooks ∈ T0 := in_T0_4 24 (by decide +kernel) rfl
theorem kw_835 : Cond.selects RX6 yX6_numberOfLooks yX6_numberOfLooks ∈ T0 := in_T0_4 25 (by decide +kernel) rfl
theorem kw_836 : Cond.code yX6_numberOfLooks cX6_numberOfLooks 6 (some .int) ∈ T0 := in_T0_4 26 (by decide +kernel) rfl
theorem kw_841 : Cond.methodLink RX8 232 yX7_waysTo ∈ T0 := in_T0_4 31 (by decide +kernel) rfl
theorem kw_842 : Cond.instanceMethod yX7_waysTo ∈ T0 := in_T0_4 32 (by decide +kernel) rfl
theorem kw_843 : Cond.selects RX7 yX7_waysTo yX7_waysTo ∈ T0 := in_T0_4 33 (by decide +kernel) rfl
theorem kw_844 : Cond.code yX7_waysTo cX7_waysTo 8 (some .int) ∈ T0 := in_T0_4 34 (by decide +kernel) rfl
theorem kw_849 : Cond.constantLong RX8 240 (1103515245) ∈ T0 := in_T0_4 39 (by decide +kernel) rfl
theorem kw_850 : Cond.constantLong RX8 242 (12345) ∈ T0 := in_T0_4 40 (by decide +kernel) rfl
theorem kw_851 : Cond.constantLong RX8 244 (2147483648) ∈ T0 := in_T0_4 41 (by decide +kernel) rfl
theorem kw_852 : Cond.constantLong RX8 246 (65536) ∈ T0 := in_T0_4 42 (by decide +kernel) rfl
theorem kw_853 : Cond.methodLink RX8 164 yX6_payer ∈ T0 := in_T0_4 43 (by decide +kernel) rfl
theorem kw_858 : Cond.methodLink RX8 252 yX1_lay ∈ T0 := in_T0_4 48 (by decide +kernel) rfl
theorem kw_859 : Cond.instanceMethod yX1_lay ∈ T0 := in_T0_4 49 (by decide +kernel) rfl
theorem kw_860 : Cond.selects RX1 yX1_lay yX1_lay ∈ T0 := in_T0_4 50 (by decide +kernel) rfl
theorem kw_861 : Cond.code yX1_lay cX1_lay 3 none ∈ T0 := in_T0_4 51 (by decide +kernel) rfl
theorem kw_862 : Cond.methodLink RX1 26 arraycopyName ∈ T0 := in_T0_4 52 (by decide +kernel) rfl
theorem kw_863 : Cond.methodLink RX8 260 yX5_take ∈ T0 := in_T0_4 53 (by decide +kernel) rfl
theorem kw_864 : Cond.instanceMethod yX5_take ∈ T0 := in_T0_4 54 (by decide +kernel) rfl
theorem kw_865 : Cond.selects RX5 yX5_take yX5_take ∈ T0 := in_T0_4 55 (by decide +kernel) rfl
theorem kw_866 : Cond.code yX5_take cX5_take 2 none ∈ T0 := in_T0_4 56 (by decide +kernel) rfl
theorem kw_867 : Cond.methodLink RX5 44 arraycopyName ∈ T0 := in_T0_4 57 (by decide +kernel) rfl
theorem kw_952 : Cond.methodLink RX9 1 objectInit ∈ T0 := in_T0_4 142 (by decide +kernel) rfl
theorem kw_953 : Cond.constant RX9 87 (65536) ∈ T0 := in_T0_4 143 (by decide +kernel) rfl
theorem kw_954 : Cond.methodLink RX9 113 yX9_begins ∈ T0 := in_T0_4 144 (by decide +kernel) rfl
theorem kw_956 : Cond.instanceMethod yX9_begins ∈ T0 := in_T0_4 146 (by decide +kernel) rfl
theorem kw_957 : Cond.code yX9_begins cX9_begins 1 none ∈ T0 := in_T0_4 147 (by decide +kernel) rfl
theorem kw_958 : Cond.methodLink RX9 280 yX9_nothing ∈ T0 := in_T0_4 148 (by decide +kernel) rfl
theorem kw_960 : Cond.instanceMethod yX9_nothing ∈ T0 := in_T0_4 150 (by decide +kernel) rfl
theorem kw_961 : Cond.code yX9_nothing cX9_nothing 3 none ∈ T0 := in_T0_4 151 (by decide +kernel) rfl
theorem kw_962 : Cond.methodLink RX9 283 yX9_looks ∈ T0 := in_T0_4 152 (by decide +kernel) rfl
theorem kw_964 : Cond.instanceMethod yX9_looks ∈ T0 := in_T0_4 154 (by decide +kernel) rfl
theorem kw_965 : Cond.code yX9_looks cX9_looks 3 none ∈ T0 := in_T0_4 155 (by decide +kernel) rfl
theorem kw_966 : Cond.methodLink RX9 286 yX9_isClosed ∈ T0 := in_T0_4 156 (by decide +kernel) rfl
theorem kw_968 : Cond.instanceMethod yX9_isClosed ∈ T0 := in_T0_4 158 (by decide +kernel) rfl
theorem kw_969 : Cond.code yX9_isClosed cX9_isClosed 3 (some .boolean) ∈ T0 := in_T0_4 159 (by decide +kernel) rfl
theorem kw_970 : Cond.methodLink RX9 289 yX9_hasAct ∈ T0 := in_T0_4 160 (by decide +kernel) rfl
theorem kw_972 : Cond.instanceMethod yX9_hasAct ∈ T0 := in_T0_4 162 (by decide +kernel) rfl
theorem kw_973 : Cond.code yX9_hasAct cX9_hasAct 2 (some .boolean) ∈ T0 := in_T0_4 163 (by decide +kernel) rfl
theorem kw_974 : Cond.methodLink RX9 322 yX9_nextAct ∈ T0 := in_T0_4 164 (by decide +kernel) rfl
theorem kw_976 : Cond.instanceMethod yX9_nextAct ∈ T0 := in_T0_4 166 (by decide +kernel) rfl
theorem kw_977 : Cond.code yX9_nextAct cX9_nextAct 5 (some .int) ∈ T0 := in_T0_4 167 (by decide +kernel) rfl
theorem kw_978 : Cond.methodLink RX9 314 yX9_why ∈ T0 := in_T0_4 168 (by decide +kernel) rfl
theorem kw_980 : Cond.instanceMethod yX9_why ∈ T0 := in_T0_4 170 (by decide +kernel) rfl
theorem kw_981 : Cond.code yX9_why cX9_why 7 (some .int) ∈ T0 := in_T0_4 171 (by decide +kernel) rfl
theorem kw_982 : Cond.methodLink RX9 292 yX9_isColumn ∈ T0 := in_T0_4 172 (by decide +kernel) rfl
theorem kw_984 : Cond.instanceMethod yX9_isColumn ∈ T0 := in_T0_4 174 (by decide +kernel) rfl
theorem kw_985 : Cond.code yX9_isColumn cX9_isColumn 2 (some .boolean) ∈ T0 := in_T0_4 175 (by decide +kernel) rfl
theorem kw_986 : Cond.methodLink RX9 295 yX9_isWide ∈ T0 := in_T0_4 176 (by decide +kernel) rfl
theorem kw_988 : Cond.instanceMethod yX9_isWide ∈ T0 := in_T0_4 178 (by decide +kernel) rfl
theorem kw_989 : Cond.code yX9_isWide cX9_isWide 3 (some .boolean) ∈ T0 := in_T0_4 179 (by decide +kernel) rfl
theorem kw_990 : Cond.methodLink RX9 223 yX9_within ∈ T0 := in_T0_4 180 (by decide +kernel) rfl
theorem kw_991 : Cond.static yX9_within ∈ T0 := in_T0_4 181 (by decide +kernel) rfl
theorem kw_992 : Cond.code yX9_within cX9_within 3 (some .boolean) ∈ T0 := in_T0_4 182 (by decide +kernel) rfl
theorem kw_993 : Cond.methodLink RX9 298 yX9_otherOf ∈ T0 := in_T0_4 183 (by decide +kernel) rfl
theorem kw_995 : Cond.instanceMethod yX9_otherOf ∈ T0 := in_T0_4 185 (by decide +kernel) rfl
theorem kw_996 : Cond.code yX9_otherOf cX9_otherOf 2 (some .int) ∈ T0 := in_T0_4 186 (by decide +kernel) rfl
theorem kw_997 : Cond.methodLink RX9 301 yX9_stands ∈ T0 := in_T0_4 187 (by decide +kernel) rfl
theorem kw_999 : Cond.instanceMethod yX9_stands ∈ T0 := in_T0_4 189 (by decide +kernel) rfl
theorem kw_1000 : Cond.code yX9_stands cX9_stands 9 (some .boolean) ∈ T0 := in_T0_4 190 (by decide +kernel) rfl
theorem kw_1001 : Cond.methodLink RX9 318 yX9_whyGate ∈ T0 := in_T0_4 191 (by decide +kernel) rfl
theorem kw_1003 : Cond.instanceMethod yX9_whyGate ∈ T0 := in_T0_4 193 (by decide +kernel) rfl
theorem kw_1004 : Cond.code yX9_whyGate cX9_whyGate 4 (some .int) ∈ T0 := in_T0_4 194 (by decide +kernel) rfl
theorem kw_1005 : Cond.fieldLink RX9 116 (TX9 0).1 (TX9 0).2.1 (TX9 0).2.2.1 ∈ T0 := in_T0_4 195 (by decide +kernel) rfl
theorem kw_1006 : Cond.fieldLink RX9 122 (TX9 1).1 (TX9 1).2.1 (TX9 1).2.2.1 ∈ T0 := in_T0_4 196 (by decide +kernel) rfl
theorem kw_1007 : Cond.fieldLink RX9 7 (TX9 2).1 (TX9 2).2.1 (TX9 2).2.2.1 ∈ T0 := in_T0_4 197 (by decide +kernel) rfl
theorem kw_1008 : Cond.fieldLink RX9 125 (TX9 3).1 (TX9 3).2.1 (TX9 3).2.2.1 ∈ T0 := in_T0_4 198 (by decide +kernel) rfl
theorem kw_1009 : Cond.fieldLink RX9 128 (TX9 4).1 (TX9 4).2.1 (TX9 4).2.2.1 ∈ T0 := in_T0_4 199 (by decide +kernel) rfl
theorem kw_1010 : Cond.fieldLink RX9 131 (TX9 5).1 (TX9 5).2.1 (TX9 5).2.2.1 ∈ T0 := in_T0_4 200 (by decide +kernel) rfl
theorem kw_1011 : Cond.fieldLink RX9 141 (TX9 6).1 (TX9 6).2.1 (TX9 6).2.2.1 ∈ T0 := in_T0_4 201 (by decide +kernel) rfl
theorem kw_1012 : Cond.fieldLink RX9 134 (TX9 7).1 (TX9 7).2.1 (TX9 7).2.2.1 ∈ T0 := in_T0_4 202 (by decide +kernel) rfl
theorem kw_1013 : Cond.fieldLink RX9 138 (TX9 8).1 (TX9 8).2.1 (TX9 8).2.2.1 ∈ T0 := in_T0_4 203 (by decide +kernel) rfl
theorem kw_1014 : Cond.fieldLink RX9 152 (TX9 9).1 (TX9 9).2.1 (TX9 9).2.2.1 ∈ T0 := in_T0_4 204 (by decide +kernel) rfl
theorem kw_1015 : Cond.fieldLink RX9 13 (TX9 10).1 (TX9 10).2.1 (TX9 10).2.2.1 ∈ T0 := in_T0_4 205 (by decide +kernel) rfl
theorem kw_1016 : Cond.fieldLink RX9 16 (TX9 11).1 (TX9 11).2.1 (TX9 11).2.2.1 ∈ T0 := in_T0_4 206 (by decide +kernel) rfl
theorem kw_1017 : Cond.fieldLink RX9 19 (TX9 12).1 (TX9 12).2.1 (TX9 12).2.2.1 ∈ T0 := in_T0_4 207 (by decide +kernel) rfl
theorem kw_1018 : Cond.fieldLink RX9 22 (TX9 13).1 (TX9 13).2.1 (TX9 13).2.2.1 ∈ T0 := in_T0_4 208 (by decide +kernel) rfl
theorem kw_1019 : Cond.fieldLink RX9 25 (TX9 14).1 (TX9 14).2.1 (TX9 14).2.2.1 ∈ T0 := in_T0_4 209 (by decide +kernel) rfl
theorem kw_1020 : Cond.fieldLink RX9 28 (TX9 15).1 (TX9 15).2.1 (TX9 15).2.2.1 ∈ T0 := in_T0_4 210 (by decide +kernel) rfl
theorem kw_1021 : Cond.fieldLink RX9 31 (TX9 16).1 (TX9 16).2.1 (TX9 16).2.2.1 ∈ T0 := in_T0_4 211 (by decide +kernel) rfl
theorem kw_1022 : Cond.fieldLink RX9 35 (TX9 17).1 (TX9 17).2.1 (TX9 17).2.2.1 ∈ T0 := in_T0_4 212 (by decide +kernel) rfl
theorem kw_1023 : Cond.fieldLink RX9 38 (TX9 18).1 (TX9 18).2.1 (TX9 18).2.2.1 ∈ T0 := in_T0_4 213 (by decide +kernel) rfl
theorem kw_1024 : Cond.fieldLink RX9 41 (TX9 19).1 (TX9 19).2.1 (TX9 19).2.2.1 ∈ T0 := in_T0_4 214 (by decide +kernel) rfl
theorem kw_1025 : Cond.fieldLink RX9 155 (TX9 20).1 (TX9 20).2.1 (TX9 20).2.2.1 ∈ T0 := in_T0_4 215 (by decide +kernel) rfl
theorem kw_1026 : Cond.fieldLink RX9 244 (TX9 21).1 (TX9 21).2.1 (TX9 21).2.2.1 ∈ T0 := in_T0_4 216 (by decide +kernel) rfl
theorem kw_1027 : Cond.fieldLink RX9 248 (TX9 22).1 (TX9 22).2.1 (TX9 22).2.2.1 ∈ T0 := in_T0_4 217 (by decide +kernel) rfl
theorem kw_1028 : Cond.fieldLink RX9 44 (TX9 23).1 (TX9 23).2.1 (TX9 23).2.2.1 ∈ T0 := in_T0_4 218 (by decide +kernel) rfl
theorem kw_1029 : Cond.fieldLink RX9 47 (TX9 24).1 (TX9 24).2.1 (TX9 24).2.2.1 ∈ T0 := in_T0_4 219 (by decide +kernel) rfl
theorem kw_1030 : Cond.fieldLink RX9 51 (TX9 25).1 (TX9 25).2.1 (TX9 25).2.2.1 ∈ T0 := in_T0_4 220 (by decide +kernel) rfl
theorem kw_1031 : Cond.fieldLink RX9 54 (TX9 26).1 (TX9 26).2.1 (TX9 26).2.2.1 ∈ T0 := in_T0_4 221 (by decide +kernel) rfl
theorem kw_1032 : Cond.fieldLink RX9 57 (TX9 27).1 (TX9 27).2.1 (TX9 27).2.2.1 ∈ T0 := in_T0_4 222 (by decide +kernel) rfl
theorem kw_1033 : Cond.fieldLink RX9 60 (TX9 28).1 (TX9 28).2.1 (TX9 28).2.2.1 ∈ T0 := in_T0_4 223 (by decide +kernel) rfl
theorem kw_1034 : Cond.fieldLink RX9 63 (TX9 29).1 (TX9 29).2.1 (TX9 29).2.2.1 ∈ T0 := in_T0_4 224 (by decide +kernel) rfl
theorem kw_1035 : Cond.fieldLink RX9 66 (TX9 30).1 (TX9 30).2.1 (TX9 30).2.2.1 ∈ T0 := in_T0_4 225 (by decide +kernel) rfl
theorem kw_1036 : Cond.fieldLink RX9 69 (TX9 31).1 (TX9 31).2.1 (TX9 31).2.2.1 ∈ T0 := in_T0_4 226 (by decide +kernel) rfl
theorem kw_1037 : Cond.fieldLink RX9 72 (TX9 32).1 (TX9 32).2.1 (TX9 32).2.2.1 ∈ T0 := in_T0_4 227 (by decide +kernel) rfl
theorem kw_1038 : Cond.fieldLink RX9 75 (TX9 33).1 (TX9 33).2.1 (TX9 33).2.2.1 ∈ T0 := in_T0_4 228 (by decide +kernel) rfl
theorem kw_1039 : Cond.fieldLink RX9 78 (TX9 34).1 (TX9 34).2.1 (TX9 34).2.2.1 ∈ T0 := in_T0_4 229 (by decide +kernel) rfl
theorem kw_1040 : Cond.fieldLink RX9 227 (TX9 35).1 (TX9 35).2.1 (TX9 35).2.2.1 ∈ T0 := in_T0_4 230 (by decide +kernel) rfl
theorem kw_1041 : Cond.fieldLink RX9 81 (TX9 36).1 (TX9 36).2.1 (TX9 36).2.2.1 ∈ T0 := in_T0_4 231 (by decide +kernel) rfl
theorem kw_1042 : Cond.fieldLink RX9 84 (TX9 37).1 (TX9 37).2.1 (TX9 37).2.2.1 ∈ T0 := in_T0_4 232 (by decide +kernel) rfl
theorem kw_1043 : Cond.fieldLink RX9 274 (TX9 38).1 (TX9 38).2.1 (TX9 38).2.2.1 ∈ T0 := in_T0_4 233 (by decide +kernel) rfl
theorem kw_1044 : Cond.fieldLink RX9 305 (TX9 39).1 (TX9 39).2.1 (TX9 39).2.2.1 ∈ T0 := in_T0_4 234 (by decide +kernel) rfl
theorem kw_1045 : Cond.fieldLink RX9 308 (TX9 40).1 (TX9 40).2.1 (TX9 40).2.2.1 ∈ T0 := in_T0_4 235 (by decide +kernel) rfl
theorem kw_1046 : Cond.fieldLink RX9 311 (TX9 41).1 (TX9 41).2.1 (TX9 41).2.2.1 ∈ T0 := in_T0_4 236 (by decide +kernel) rfl
theorem kw_1047 : Cond.fieldLink RX9 88 (TX9 42).1 (TX9 42).2.1 (TX9 42).2.2.1 ∈ T0 := in_T0_4 237 (by decide +kernel) rfl
theorem kw_1048 : Cond.fieldLink RX9 92 (TX9 43).1 (TX9 43).2.1 (TX9 43).2.2.1 ∈ T0 := in_T0_4 238 (by decide +kernel) rfl
theorem kw_1049 : Cond.fieldLink RX9 277 (TX9 44).1 (TX9 44).2.1 (TX9 44).2.2.1 ∈ T0 := in_T0_4 239 (by decide +kernel) rfl
theorem kw_1050 : Cond.fieldLink RX9 95 (TX9 45).1 (TX9 45).2.1 (TX9 45).2.2.1 ∈ T0 := in_T0_5 0 (by decide +kernel) rfl
theorem kw_1051 : Cond.fieldLink RX9 98 (TX9 46).1 (TX9 46).2.1 (TX9 46).2.2.1 ∈ T0 := in_T0_5 1 (by decide +kernel) rfl
theorem kw_1052 : Cond.fieldLink RX9 101 (TX9 47).1 (TX9 47).2.1 (TX9 47).2.2.1 ∈ T0 := in_T0_5 2 (by decide +kernel) rfl
theorem kw_1053 : Cond.fieldLink RX9 392 (TX9 48).1 (TX9 48).2.1 (TX9 48).2.2.1 ∈ T0 := in_T0_5 3 (by decide +kernel) rfl
theorem kw_1054 : Cond.fieldLink RX9 104 (TX9 49).1 (TX9 49).2.1 (TX9 49).2.2.1 ∈ T0 := in_T0_5 4 (by decide +kernel) rfl
theorem kw_1055 : Cond.fieldLink RX9 107 (TX9 50).1 (TX9 50).2.1 (TX9 50).2.2.1 ∈ T0 := in_T0_5 5 (by decide +kernel) rfl
theorem kw_1056 : Cond.fieldLink RX9 110 (TX9 51).1 (TX9 51).2.1 (TX9 51).2.2.1 ∈ T0 := in_T0_5 6 (by decide +kernel) rfl
theorem kw_1162 : Cond.arrayClass (newarray.typeOf .boolean) ∈ T0 := in_T0_5 112 (by decide +kernel) rfl
theorem kw_1171 : Cond.constantLong RX9 120 (255) ∈ T0 := in_T0_5 121 (by decide +kernel) rfl
theorem kw_1176 : Cond.methodLink RX9 267 yX9_readsAll ∈ T0 := in_T0_5 126 (by decide +kernel) rfl
theorem kw_1178 : Cond.instanceMethod yX9_readsAll ∈ T0 := in_T0_5 128 (by decide +kernel) rfl
theorem kw_1179 : Cond.code yX9_readsAll cX9_readsAll 2 (some .boolean) ∈ T0 := in_T0_5 129 (by decide +kernel) rfl
theorem kw_1180 : Cond.methodLink RX9 187 yX9_nextToken ∈ T0 := in_T0_5 130 (by decide +kernel) rfl
theorem kw_1182 : Cond.instanceMethod yX9_nextToken ∈ T0 := in_T0_5 132 (by decide +kernel) rfl
theorem kw_1183 : Cond.code yX9_nextToken cX9_nextToken 2 none ∈ T0 := in_T0_5 133 (by decide +kernel) rfl
theorem kw_1184 : Cond.methodLink RX9 144 yX9_signAt ∈ T0 := in_T0_5 134 (by decide +kernel) rfl
theorem kw_1186 : Cond.instanceMethod yX9_signAt ∈ T0 := in_T0_5 136 (by decide +kernel) rfl
theorem kw_1187 : Cond.code yX9_signAt cX9_signAt 2 (some .int) ∈ T0 := in_T0_5 137 (by decide +kernel) rfl
theorem kw_1188 : Cond.constantLong RX9 148 (27) ∈ T0 := in_T0_5 138 (by decide +kernel) rfl
theorem kw_1189 : Cond.constantLong RX9 150 (96) ∈ T0 := in_T0_5 139 (by decide +kernel) rfl
theorem kw_1190 : Cond.constantLong RX9 203 (453774) ∈ T0 := in_T0_5 140 (by decide +kernel) rfl
theorem kw_1191 : Cond.methodLink RX9 172 yX9_isWord ∈ T0 := in_T0_5 141 (by decide +kernel) rfl
theorem kw_1193 : Cond.instanceMethod yX9_isWord ∈ T0 := in_T0_5 143 (by decide +kernel) rfl
theorem kw_1194 : Cond.code yX9_isWord cX9_isWord 3 (some .boolean) ∈ T0 := in_T0_5 144 (by decide +kernel) rfl
theorem kw_1195 : Cond.methodLink RX9 180 yX9_fails ∈ T0 := in_T0_5 145 (by decide +kernel) rfl
theorem kw_1197 : Cond.instanceMethod yX9_fails ∈ T0 := in_T0_5 147 (by decide +kernel) rfl
theorem kw_1198 : Cond.code yX9_fails cX9_fails 2 (some .boolean) ∈ T0 := in_T0_5 148 (by decide +kernel) rfl
theorem kw_1199 : Cond.methodLink RX9 237 yX9_needsNumber ∈ T0 := in_T0_5 149 (by decide +kernel) rfl
theorem kw_1201 : Cond.instanceMethod yX9_needsNumber ∈ T0 := in_T0_5 151 (by decide +kernel) rfl
theorem kw_1202 : Cond.code yX9_needsNumber cX9_needsNumber 3 (some .boolean) ∈ T0 := in_T0_5 152 (by decide +kernel) rfl
theorem kw_1203 : Cond.methodLink RX9 241 yX9_ends ∈ T0 := in_T0_5 153 (by decide +kernel) rfl
theorem kw_1205 : Cond.instanceMethod yX9_ends ∈ T0 := in_T0_5 155 (by decide +kernel) rfl
theorem kw_1206 : Cond.code yX9_ends cX9_ends 1 (some .boolean) ∈ T0 := in_T0_5 156 (by decide +kernel) rfl
theorem kw_1207 : Cond.methodLink RX9 176 yX9_isSign ∈ T0 := in_T0_5 157 (by decide +kernel) rfl
theorem kw_1209 : Cond.instanceMethod yX9_isSign ∈ T0 := in_T0_5 159 (by decide +kernel) rfl
theorem kw_1210 : Cond.code yX9_isSign cX9_isSign 2 (some .boolean) ∈ T0 := in_T0_5 160 (by decide +kernel) rfl
theorem kw_1211 : Cond.constantLong RX9 205 (10502357) ∈ T0 := in_T0_5 161 (by decide +kernel) rfl
theorem kw_1212 : Cond.methodLink RX9 254 yX9_readsStone ∈ T0 := in_T0_5 162 (by decide +kernel) rfl
theorem kw_1214 : Cond.instanceMethod yX9_readsStone ∈ T0 := in_T0_5 164 (by decide +kernel) rfl
theorem kw_1215 : Cond.code yX9_readsStone cX9_readsStone 3 (some .boolean) ∈ T0 := in_T0_5 165 (by decide +kernel) rfl
theorem kw_1216 : Cond.methodLink RX9 230 yX9_isKept ∈ T0 := in_T0_5 166 (by decide +kernel) rfl
theorem kw_1218 : Cond.instanceMethod yX9_isKept ∈ T0 := in_T0_5 168 (by decide +kernel) rfl
theorem kw_1219 : Cond.code yX9_isKept cX9_isKept 1 (some .boolean) ∈ T0 := in_T0_5 169 (by decide +kernel) rfl
theorem kw_1220 : Cond.constantLong RX9 207 (3754504) ∈ T0 := in_T0_5 170 (by decide +kernel) rfl
theorem kw_1221 : Cond.constantLong RX9 209 (125042) ∈ T0 := in_T0_5 171 (by decide +kernel) rfl
theorem kw_1222 : Cond.constantLong RX9 211 (8740238) ∈ T0 := in_T0_5 172 (by decide +kernel) rfl
theorem kw_1223 : Cond.constantLong RX9 213 (38444009) ∈ T0 := in_T0_5 173 (by decide +kernel) rfl
theorem kw_1224 : Cond.constantLong RX9 215 (9876874) ∈ T0 := in_T0_5 174 (by decide +kernel) rfl
theorem kw_1225 : Cond.constantLong RX9 217 (410684) ∈ T0 := in_T0_5 175 (by decide +kernel) rfl
theorem kw_1226 : Cond.constantLong RX9 219 (240239) ∈ T0 := in_T0_5 176 (by decide +kernel) rfl
theorem kw_1227 : Cond.constantLong RX9 221 (2774) ∈ T0 := in_T0_5 177 (by decide +kernel) rfl
theorem kw_1228 : Cond.constantLong RX9 158 (459383) ∈ T0 := in_T0_5 178 (by decide +kernel) rfl
theorem kw_1229 : Cond.constantLong RX9 160 (6491892) ∈ T0 := in_T0_5 179 (by decide +kernel) rfl
theorem kw_1230 : Cond.constantLong RX9 162 (4555675) ∈ T0 := in_T0_5 180 (by decide +kernel) rfl
theorem kw_1231 : Cond.constantLong RX9 164 (2968) ∈ T0 := in_T0_5 181 (by decide +kernel) rfl
theorem kw_1232 : Cond.constantLong RX9 170 (10631) ∈ T0 := in_T0_5 182 (by decide +kernel) rfl
theorem kw_1233 : Cond.constantLong RX9 190 (1111) ∈ T0 := in_T0_5 183 (by decide +kernel) rfl
theorem kw_1234 : Cond.constantLong RX9 192 (423) ∈ T0 := in_T0_5 184 (by decide +kernel) rfl
theorem kw_1235 : Cond.methodLink RX9 234 yX9_kindAt ∈ T0 := in_T0_5 185 (by decide +kernel) rfl
theorem kw_1237 : Cond.instanceMethod yX9_kindAt ∈ T0 := in_T0_5 187 (by decide +kernel) rfl
theorem kw_1238 : Cond.code yX9_kindAt cX9_kindAt 1 (some .int) ∈ T0 := in_T0_5 188 (by decide +kernel) rfl
theorem kw_1239 : Cond.methodLink RX9 257 yX9_readsGates ∈ T0 := in_T0_5 189 (by decide +kernel) rfl
theorem kw_1241 : Cond.instanceMethod yX9_readsGates ∈ T0 := in_T0_5 191 (by decide +kernel) rfl
theorem kw_1242 : Cond.code yX9_readsGates cX9_readsGates 1 (some .boolean) ∈ T0 := in_T0_5 192 (by decide +kernel) rfl
theorem kw_1243 : Cond.methodLink RX9 260 yX9_readsFine ∈ T0 := in_T0_5 193 (by decide +kernel) rfl
theorem kw_1245 : Cond.instanceMethod yX9_readsFine ∈ T0 := in_T0_5 195 (by decide +kernel) rfl
theorem kw_1246 : Cond.code yX9_readsFine cX9_readsFine 1 (some .boolean) ∈ T0 := in_T0_5 196 (by decide +kernel) rfl
theorem kw_1247 : Cond.methodLink RX9 251 yX9_reads ∈ T0 := in_T0_5 197 (by decide +kernel) rfl
theorem kw_1249 : Cond.instanceMethod yX9_reads ∈ T0 := in_T0_5 199 (by decide +kernel) rfl
theorem kw_1250 : Cond.code yX9_reads cX9_reads 6 (some .boolean) ∈ T0 := in_T0_5 200 (by decide +kernel) rfl
theorem kw_1251 : Cond.methodLink RX9 166 yX9_fact ∈ T0 := in_T0_5 201 (by decide +kernel) rfl
theorem kw_1253 : Cond.instanceMethod yX9_fact ∈ T0 := in_T0_5 203 (by decide +kernel) rfl
theorem kw_1254 : Cond.code yX9_fact cX9_fact 1 (some .int) ∈ T0 := in_T0_5 204 (by decide +kernel) rfl
theorem kw_1255 : Cond.methodLink RX9 183 yX9_puts ∈ T0 := in_T0_5 205 (by decide +kernel) rfl
theorem kw_1257 : Cond.instanceMethod yX9_puts ∈ T0 := in_T0_5 207 (by decide +kernel) rfl
theorem kw_1258 : Cond.code yX9_puts cX9_puts 2 none ∈ T0 := in_T0_5 208 (by decide +kernel) rfl
theorem kw_1259 : Cond.methodLink RX9 270 yX9_lays ∈ T0 := in_T0_5 209 (by decide +kernel) rfl
theorem kw_1261 : Cond.instanceMethod yX9_lays ∈ T0 := in_T0_5 211 (by decide +kernel) rfl
theorem kw_1262 : Cond.code yX9_lays cX9_lays 3 none ∈ T0 := in_T0_5 212 (by decide +kernel) rfl
theorem kw_1263 : Cond.methodLink RX9 263 yX9_moves ∈ T0 := in_T0_5 213 (by decide +kernel) rfl
theorem kw_1264 : Cond.static yX9_moves ∈ T0 := in_T0_5 214 (by decide +kernel) rfl
theorem kw_1265 : Cond.code yX9_moves cX9_moves 5 none ∈ T0 := in_T0_5 215 (by decide +kernel) rfl
theorem kw_1274 : Cond.methodLink RX9 333 yX9_keeps ∈ T0 := in_T0_5 224 (by decide +kernel) rfl
theorem kw_1276 : Cond.instanceMethod yX9_keeps ∈ T0 := in_T0_5 226 (by decide +kernel) rfl
theorem kw_1277 : Cond.code yX9_keeps cX9_keeps 2 none ∈ T0 := in_T0_5 227 (by decide +kernel) rfl
theorem kw_1278 : Cond.methodLink RX9 336 yX9_does ∈ T0 := in_T0_5 228 (by decide +kernel) rfl
theorem kw_1280 : Cond.instanceMethod yX9_does ∈ T0 := in_T0_5 230 (by decide +kernel) rfl
theorem kw_1281 : Cond.code yX9_does cX9_does 6 none ∈ T0 := in_T0_5 231 (by decide +kernel) rfl
theorem kw_1282 : Cond.methodLink RX9 329 yX9_sets ∈ T0 := in_T0_5 232 (by decide +kernel) rfl
theorem kw_1284 : Cond.instanceMethod yX9_sets ∈ T0 := in_T0_5 234 (by decide +kernel) rfl
theorem kw_1285 : Cond.code yX9_sets cX9_sets 10 none ∈ T0 := in_T0_5 235 (by decide +kernel) rfl
theorem kw_1286 : Cond.methodLink RX9 326 yX9_worked ∈ T0 := in_T0_5 236 (by decide +kernel) rfl
theorem kw_1288 : Cond.instanceMethod yX9_worked ∈ T0 := in_T0_5 238 (by decide +kernel) rfl
theorem kw_1289 : Cond.code yX9_worked cX9_worked 6 (some .int) ∈ T0 := in_T0_5 239 (by decide +kernel) rfl
theorem kw_1290 : Cond.methodLink RX9 197 yX9_opens ∈ T0 := in_T0_6 0 (by decide +kernel) rfl
theorem kw_1292 : Cond.instanceMethod yX9_opens ∈ T0 := in_T0_6 2 (by decide +kernel) rfl
theorem kw_1293 : Cond.code yX9_opens cX9_opens 2 none ∈ T0 := in_T0_6 3 (by decide +kernel) rfl
theorem kw_1294 : Cond.methodLink RX9 194 yX9_sums ∈ T0 := in_T0_6 4 (by decide +kernel) rfl
theorem kw_1296 : Cond.instanceMethod yX9_sums ∈ T0 := in_T0_6 6 (by decide +kernel) rfl
theorem kw_1297 : Cond.code yX9_sums cX9_sums 2 none ∈ T0 := in_T0_6 7 (by decide +kernel) rfl
theorem kw_1298 : Cond.methodLink RX9 200 yX9_tests ∈ T0 := in_T0_6 8 (by decide +kernel) rfl
theorem kw_1300 : Cond.instanceMethod yX9_tests ∈ T0 := in_T0_6 10 (by decide +kernel) rfl
theorem kw_1301 : Cond.code yX9_tests cX9_tests 3 none ∈ T0 := in_T0_6 11 (by decide +kernel) rfl
theorem kw_1322 : Cond.methodLink RX9 342 yX9_actsNow ∈ T0 := in_T0_6 32 (by decide +kernel) rfl
theorem kw_1324 : Cond.instanceMethod yX9_actsNow ∈ T0 := in_T0_6 34 (by decide +kernel) rfl
theorem kw_1325 : Cond.code yX9_actsNow cX9_actsNow 1 (some .int) ∈ T0 := in_T0_6 35 (by decide +kernel) rfl
theorem kw_1326 : Cond.methodLink RX9 339 yX9_acts ∈ T0 := in_T0_6 36 (by decide +kernel) rfl
theorem kw_1328 : Cond.instanceMethod yX9_acts ∈ T0 := in_T0_6 38 (by decide +kernel) rfl
theorem kw_1329 : Cond.code yX9_acts cX9_acts 4 (some .int) ∈ T0 := in_T0_6 39 (by decide +kernel) rfl
theorem kw_1334 : Cond.methodLink RX9 345 yX9_finds ∈ T0 := in_T0_6 44 (by decide +kernel) rfl
theorem kw_1336 : Cond.instanceMethod yX9_finds ∈ T0 := in_T0_6 46 (by decide +kernel) rfl
theorem kw_1337 : Cond.code yX9_finds cX9_finds 5 (some .boolean) ∈ T0 := in_T0_6 47 (by decide +kernel) rfl
theorem kw_1342 : Cond.methodLink RX9 367 yX9_isSmall ∈ T0 := in_T0_6 52 (by decide +kernel) rfl
theorem kw_1344 : Cond.instanceMethod yX9_isSmall ∈ T0 := in_T0_6 54 (by decide +kernel) rfl
theorem kw_1345 : Cond.code yX9_isSmall cX9_isSmall 3 (some .boolean) ∈ T0 := in_T0_6 55 (by decide +kernel) rfl
theorem kw_1346 : Cond.methodLink RX9 370 yX9_now ∈ T0 := in_T0_6 56 (by decide +kernel) rfl
theorem kw_1348 : Cond.instanceMethod yX9_now ∈ T0 := in_T0_6 58 (by decide +kernel) rfl
theorem kw_1349 : Cond.code yX9_now cX9_now 1 (some .int) ∈ T0 := in_T0_6 59 (by decide +kernel) rfl
theorem kw_1350 : Cond.methodLink RX9 364 yX9_knows ∈ T0 := in_T0_6 60 (by decide +kernel) rfl
theorem kw_1352 : Cond.instanceMethod yX9_knows ∈ T0 := in_T0_6 62 (by decide +kernel) rfl
theorem kw_1353 : Cond.code yX9_knows cX9_knows 2 none ∈ T0 := in_T0_6 63 (by decide +kernel) rfl
theorem kw_1354 : Cond.methodLink RX9 354 yX9_copies ∈ T0 := in_T0_6 64 (by decide +kernel) rfl
theorem kw_1356 : Cond.instanceMethod yX9_copies ∈ T0 := in_T0_6 66 (by decide +kernel) rfl
theorem kw_1357 : Cond.code yX9_copies cX9_copies 4 none ∈ T0 := in_T0_6 67 (by decide +kernel) rfl
theorem kw_1358 : Cond.methodLink RX9 357 yX9_solves ∈ T0 := in_T0_6 68 (by decide +kernel) rfl
theorem kw_1360 : Cond.instanceMethod yX9_solves ∈ T0 := in_T0_6 70 (by decide +kernel) rfl
theorem kw_1361 : Cond.code yX9_solves cX9_solves 9 (some .int) ∈ T0 := in_T0_6 71 (by decide +kernel) rfl
theorem kw_1362 : Cond.methodLink RX9 351 yX9_numberOf ∈ T0 := in_T0_6 72 (by decide +kernel) rfl
theorem kw_1364 : Cond.instanceMethod yX9_numberOf ∈ T0 := in_T0_6 74 (by decide +kernel) rfl
theorem kw_1365 : Cond.code yX9_numberOf cX9_numberOf 2 (some .int) ∈ T0 := in_T0_6 75 (by decide +kernel) rfl
theorem kw_1366 : Cond.methodLink RX9 348 yX9_wallOf ∈ T0 := in_T0_6 76 (by decide +kernel) rfl
theorem kw_1368 : Cond.instanceMethod yX9_wallOf ∈ T0 := in_T0_6 78 (by decide +kernel) rfl
theorem kw_1369 : Cond.code yX9_wallOf cX9_wallOf 5 (some .int) ∈ T0 := in_T0_6 79 (by decide +kernel) rfl
theorem kw_1370 : Cond.methodLink RX9 360 yX9_isBetter ∈ T0 := in_T0_6 80 (by decide +kernel) rfl
theorem kw_1371 : Cond.static yX9_isBetter ∈ T0 := in_T0_6 81 (by decide +kernel) rfl
theorem kw_1372 : Cond.code yX9_isBetter cX9_isBetter 5 (some .boolean) ∈ T0 := in_T0_6 82 (by decide +kernel) rfl
theorem kw_1381 : Cond.methodLink RX9 373 yX9_behind ∈ T0 := in_T0_6 91 (by decide +kernel) rfl
theorem kw_1383 : Cond.instanceMethod yX9_behind ∈ T0 := in_T0_6 93 (by decide +kernel) rfl
theorem kw_1384 : Cond.code yX9_behind cX9_behind 2 (some .int) ∈ T0 := in_T0_6 94 (by decide +kernel) rfl
theorem kw_1393 : Cond.methodLink RX9 379 yX9_masons ∈ T0 := in_T0_6 103 (by decide +kernel) rfl
theorem kw_1395 : Cond.instanceMethod yX9_masons ∈ T0 := in_T0_6 105 (by decide +kernel) rfl
theorem kw_1396 : Cond.code yX9_masons cX9_masons 11 (some .int) ∈ T0 := in_T0_6 106 (by decide +kernel) rfl
theorem kw_1397 : Cond.methodLink RX9 376 yX9_ruled ∈ T0 := in_T0_6 107 (by decide +kernel) rfl
theorem kw_1399 : Cond.instanceMethod yX9_ruled ∈ T0 := in_T0_6 109 (by decide +kernel) rfl
theorem kw_1400 : Cond.code yX9_ruled cX9_ruled 7 (some .int) ∈ T0 := in_T0_6 110 (by decide +kernel) rfl
theorem kw_1405 : Cond.methodLink RX9 388 yX9_goesOn ∈ T0 := in_T0_6 115 (by decide +kernel) rfl
theorem kw_1407 : Cond.instanceMethod yX9_goesOn ∈ T0 := in_T0_6 117 (by decide +kernel) rfl
theorem kw_1408 : Cond.code yX9_goesOn cX9_goesOn 5 none ∈ T0 := in_T0_6 118 (by decide +kernel) rfl
theorem kw_1409 : Cond.methodLink RX9 383 yX9_laysOut ∈ T0 := in_T0_6 119 (by decide +kernel) rfl
theorem kw_1411 : Cond.instanceMethod yX9_laysOut ∈ T0 := in_T0_6 121 (by decide +kernel) rfl
theorem kw_1412 : Cond.code yX9_laysOut cX9_laysOut 6 none ∈ T0 := in_T0_6 122 (by decide +kernel) rfl
theorem kw_1413 : Cond.constantLong RX9 386 (1000000007) ∈ T0 := in_T0_6 123 (by decide +kernel) rfl
theorem kw_1422 : Cond.methodLink RX9 403 yX9_draws ∈ T0 := in_T0_6 132 (by decide +kernel) rfl
theorem kw_1424 : Cond.instanceMethod yX9_draws ∈ T0 := in_T0_6 134 (by decide +kernel) rfl
theorem kw_1425 : Cond.code yX9_draws cX9_draws 2 (some .int) ∈ T0 := in_T0_6 135 (by decide +kernel) rfl
theorem kw_1426 : Cond.constantLong RX9 395 (1103515245) ∈ T0 := in_T0_6 136 (by decide +kernel) rfl
theorem kw_1427 : Cond.constantLong RX9 397 (12345) ∈ T0 := in_T0_6 137 (by decide +kernel) rfl
theorem kw_1428 : Cond.constantLong RX9 399 (2147483648) ∈ T0 := in_T0_6 138 (by decide +kernel) rfl
theorem kw_1429 : Cond.constantLong RX9 401 (65536) ∈ T0 := in_T0_6 139 (by decide +kernel) rfl
theorem kw_1452 : Cond.fieldLink RJ0 15 "java/lang/String" "coder" "B" ∈ T0 := in_T0_6 162 (by decide +kernel) rfl
theorem kw_1453 : Cond.fieldLink RJ0 9 "java/lang/String" "value" "[B" ∈ T0 := in_T0_6 163 (by decide +kernel) rfl
end
section
-- the blocks of every method
/-! 0: TruceWall$Acts.ofStone(III)I -/
def B0_0 (orc : Orc) : K := o_iload 0 (o_iconst 6 (o_i2 (fun x y => x <<< (y &&& 31)) (o_iload 1 (o_iconst 2 (o_i2 (fun x y => x <<< (y &&& 31)) (o_i2 (fun x y => x ||| y) (o_iload 2 (o_iconst 1 (o_i2 (fun x y => x - y) (o_i2 (fun x y => x ||| y) (o_iret)))))))))))
def P0 (orc : Orc) (b : Nat) : K := match b with
  | 0 => B0_0 orc
  | _ => fun _ _ _ => none
def Q0 (b : Nat) : Nat := match b with
  | 0 => 0
  | _ => 0
/-! 1: TruceWall$Acts.ofGate(I)I -/
def B1_0 (orc : Orc) : K := o_iconst 384 (o_iload 0 (o_iconst 2 (o_i2 (fun x y => x <<< (y &&& 31)) (o_i2 (fun x y => x ||| y) (o_iret)))))
def P1 (orc : Orc) (b : Nat) : K := match b with
  | 0 => B1_0 orc
  | _ => fun _ _ _ => none
def Q1 (b : Nat) : Nat := match b with
  | 0 => 0
  | _ => 0
/-! 2: TruceWall$Acts.isGate(I)Z -/
def B2_0 (orc : Orc) : K := o_iload 0 (o_sI orc 3 1 (o_iconst 6 (o_ieq (o_iconst 1 (o_zret)) (o_iconst 0 (o_zret)))))
def P2 (orc : Orc) (b : Nat) : K := match b with
  | 0 => B2_0 orc
  | _ => fun _ _ _ => none
def Q2 (b : Nat) : Nat := match b with
  | 0 => 0
  | _ => 0
/-! 3: TruceWall$Acts.stoneOf(I)I -/
def B3_0 (orc : Orc) : K := o_iload 0 (o_iconst 6 (o_i2 (fun x y => x >>> (y &&& 31)) (o_iret)))
def P3 (orc : Orc) (b : Nat) : K := match b with
  | 0 => B3_0 orc
  | _ => fun _ _ _ => none
def Q3 (b : Nat) : Nat := match b with
  | 0 => 0
  | _ => 0
/-! 4: TruceWall$Acts.columnOf(I)I -/
def B4_0 (orc : Orc) : K := o_iload 0 (o_iconst 2 (o_i2 (fun x y => x >>> (y &&& 31)) (o_iconst 15 (o_i2 (fun x y => x &&& y) (o_iret)))))
def P4 (orc : Orc) (b : Nat) : K := match b with
  | 0 => B4_0 orc
  | _ => fun _ _ _ => none
def Q4 (b : Nat) : Nat := match b with
  | 0 => 0
  | _ => 0
/-! 5: TruceWall$Acts.wideOf(I)I -/
def B5_0 (orc : Orc) : K := o_iload 0 (o_iconst 3 (o_i2 (fun x y => x &&& y) (o_iconst 1 (o_i2 (fun x y => x + y) (o_iret)))))
def P5 (orc : Orc) (b : Nat) : K := match b with
  | 0 => B5_0 orc
  | _ => fun _ _ _ => none
def Q5 (b : Nat) : Nat := match b with
  | 0 => 0
  | _ => 0
/-! 6: TruceWall$Mark.<init>()V -/
def B6_0 (orc : Orc) : K := o_aload 0 (o_obj (o_aload 0 (o_null (o_putR 0 0 (o_aload 0 (o_iconst 60 (o_newa 0 (o_putR 0 1 (o_aload 0 (o_iconst 0 (o_putI 0 2 (o_vret))))))))))))
def P6 (orc : Orc) (b : Nat) : K := match b with
  | 0 => B6_0 orc
  | _ => fun _ _ _ => none
def Q6 (b : Nat) : Nat := match b with
  | 0 => 0
  | _ => 0
/-! 7: TruceWall$Mark.lay(LTruceWall$Truce;LTruceWall$Site;)V -/
def B7_0 (orc : Orc) : K := o_aload 0 (o_aload 1 (o_putR 0 0 (o_aload 2 (o_getR 4 0 (o_iconst 0 (o_aload 0 (o_getR 0 1 (o_iconst 0 (o_iconst 60 (o_copy (o_aload 0 (o_aload 2 (o_getI 4 1 (o_putI 0 2 (o_vret)))))))))))))))
def P7 (orc : Orc) (b : Nat) : K := match b with
  | 0 => B7_0 orc
  | _ => fun _ _ _ => none
def Q7 (b : Nat) : Nat := match b with
  | 0 => 0
  | _ => 0
/-! 8: TruceWall$Play.<init>()V -/
def B8_0 (orc : Orc) : K := o_aload 0 (o_obj (o_aload 0 (o_iconst 6250 (o_newa 0 (o_putR 1 0 (o_aload 0 (o_null (o_putR 1 1 (o_aload 0 (o_iconst (-1) (o_putI 1 2 (o_aload 0 (o_iconst (-1) (o_putI 1 3 (o_vret)))))))))))))))
def P8 (orc : Orc) (b : Nat) : K := match b with
  | 0 => B8_0 orc
  | _ => fun _ _ _ => none
def Q8 (b : Nat) : Nat := match b with
  | 0 => 0
  | _ => 0
/-! 9: TruceWall$Play.payerIn(I)I -/
def B9_0 (orc : Orc) : K := o_iload 0 (o_iconst 1 (o_i2 (fun x y => x &&& y) (o_iret)))
def P9 (orc : Orc) (b : Nat) : K := match b with
  | 0 => B9_0 orc
  | _ => fun _ _ _ => none
def Q9 (b : Nat) : Nat := match b with
  | 0 => 0
  | _ => 0
/-! 10: TruceWall$Play.daysIn(I)I -/
def B10_0 (orc : Orc) : K := o_iload 0 (o_iconst 1 (o_i2 (fun x y => x >>> (y &&& 31)) (o_iret)))
def P10 (orc : Orc) (b : Nat) : K := match b with
  | 0 => B10_0 orc
  | _ => fun _ _ _ => none
def Q10 (b : Nat) : Nat := match b with
  | 0 => 0
  | _ => 0
/-! 11: TruceWall$Play.later(I)I -/
def B11_0 (orc : Orc) : K := o_iload 0 (o_iconst 2 (o_i2 (fun x y => x + y) (o_iret)))
def P11 (orc : Orc) (b : Nat) : K := match b with
  | 0 => B11_0 orc
  | _ => fun _ _ _ => none
def Q11 (b : Nat) : Nat := match b with
  | 0 => 0
  | _ => 0
/-! 12: TruceWall$Play.score(II)I -/
def B12_0 (orc : Orc) : K := o_iload 0 (o_sI orc 10 1 (o_istore 2 (o_iload 0 (o_sI orc 9 1 (o_iload 1 (o_ieq (o_iload 2 (o_iret)) (o_iconst 1000 (o_iload 2 (o_i2 (fun x y => x - y) (o_iret))))))))))
def P12 (orc : Orc) (b : Nat) : K := match b with
  | 0 => B12_0 orc
  | _ => fun _ _ _ => none
def Q12 (b : Nat) : Nat := match b with
  | 0 => 0
  | _ => 0
/-! 13: TruceWall$Play.prepare(LTruceWall$Truce;II)V -/
def B13_0 (orc : Orc) : K := o_aload 0 (o_getR 1 1 (o_aload 1 (o_aeq (o_aload 0 (o_getI 1 2 (o_iload 2 (o_ieq (o_aload 0 (o_getI 1 3 (o_iload 3 (o_ieq (o_vret) (o_jmp 1))))) (o_jmp 1))))) (o_jmp 1))))
def B13_1 (orc : Orc) : K := o_aload 0 (o_aload 1 (o_putR 1 1 (o_aload 0 (o_iload 2 (o_putI 1 2 (o_aload 0 (o_iload 3 (o_putI 1 3 (o_iconst 0 (o_istore 4 (o_jmp 2)))))))))))
def B13_2 (orc : Orc) : K := o_iload 4 (o_aload 0 (o_getR 1 0 (o_alen (o_ilt (o_aload 0 (o_getR 1 0 (o_iload 4 (o_iconst 0 (o_iast 0 (fun x => x) (o_iinc 4 1 (o_jmp 2))))))) (o_vret)))))
def P13 (orc : Orc) (b : Nat) : K := match b with
  | 0 => B13_0 orc
  | 1 => B13_1 orc
  | 2 => B13_2 orc
  | _ => fun _ _ _ => none
def Q13 (b : Nat) : Nat := match b with
  | 0 => 0
  | 1 => 25
  | 2 => 43
  | _ => 0
/-! 14: TruceWall$Play.outcome(JII)I -/
def B14_0 (orc : Orc) : K := o_aload 0 (o_getR 1 1 (o_ifnull (o_iload 3 (o_iret)) (o_iload 4 (o_iconst 20 (o_igt (o_iload 3 (o_iret)) (o_iconst 2 (o_aload 0 (o_getR 1 1 (o_lload 1 (o_vI orc 76 2 5 (o_i2 (fun x y => x * y) (o_iload 3 (o_i2 (fun x y => x + y) (o_istore 5 (o_iload 5 (o_aload 0 (o_getR 1 0 (o_alen (o_ilt (o_aload 0 (o_getR 1 0 (o_iload 5 (o_iald 0 (o_if0 (o_aload 0 (o_getR 1 0 (o_iload 5 (o_iconst 1 (o_iload 3 (o_aload 0 (o_getI 1 2 (o_ieq (o_aload 0 (o_lload 1 (o_iload 3 (o_iload 4 (o_vI orc 16 4 1 (o_jmp 1)))))) (o_aload 0 (o_lload 1 (o_iload 3 (o_iload 4 (o_vI orc 15 4 1 (o_jmp 1)))))))))))))) (o_jmp 2)))))) (o_iload 3 (o_iret)))))))))))))))))))))
def B14_1 (orc : Orc) : K := o_i2 (fun x y => x + y) (o_iast 0 (fun x => x) (o_jmp 2))
def B14_2 (orc : Orc) : K := o_aload 0 (o_getR 1 0 (o_iload 5 (o_iald 0 (o_iconst 1 (o_i2 (fun x y => x - y) (o_iret))))))
def P14 (orc : Orc) (b : Nat) : K := match b with
  | 0 => B14_0 orc
  | 1 => B14_1 orc
  | 2 => B14_2 orc
  | _ => fun _ _ _ => none
def Q14 (b : Nat) : Nat := match b with
  | 0 => 0
  | 1 => 86
  | 2 => 88
  | _ => 0
/-! 15: TruceWall$Play.outcomeByChoice(JII)I -/
def B15_0 (orc : Orc) : K := o_iconst (-1) (o_istore 5 (o_iconst 0 (o_istore 6 (o_jmp 1))))
def B15_1 (orc : Orc) : K := o_iload 6 (o_aload 0 (o_getR 1 1 (o_getR 5 8 (o_alen (o_ilt (o_aload 0 (o_getR 1 1 (o_getR 5 8 (o_iload 6 (o_iald 0 (o_istore 7 (o_aload 0 (o_getR 1 1 (o_lload 1 (o_iload 3 (o_iload 7 (o_vI orc 71 4 5 (o_if0 (o_jmp 3) (o_aload 0 (o_aload 0 (o_getR 1 1 (o_lload 1 (o_iload 3 (o_iload 7 (o_vL orc 73 4 5 (o_iconst 1 (o_iload 3 (o_i2 (fun x y => x - y) (o_iload 4 (o_iconst 1 (o_i2 (fun x y => x + y) (o_vI orc 14 4 1 (o_sI orc 11 1 (o_istore 8 (o_iload 5 (o_iconst (-1) (o_ieq (o_jmp 2) (o_iload 8 (o_iload 3 (o_sI orc 12 2 (o_iload 5 (o_iload 3 (o_sI orc 12 2 (o_igt (o_jmp 2) (o_jmp 3)))))))))))))))))))))))))))))))))))))))) (o_iload 5 (o_iconst (-1) (o_ieq (o_aload 0 (o_getR 1 1 (o_lload 1 (o_iload 3 (o_vI orc 75 3 5 (o_iret)))))) (o_iload 5 (o_iret))))))))))
def B15_2 (orc : Orc) : K := o_iload 8 (o_istore 5 (o_jmp 3))
def B15_3 (orc : Orc) : K := o_iinc 6 1 (o_jmp 1)
def P15 (orc : Orc) (b : Nat) : K := match b with
  | 0 => B15_0 orc
  | 1 => B15_1 orc
  | 2 => B15_2 orc
  | 3 => B15_3 orc
  | _ => fun _ _ _ => none
def Q15 (b : Nat) : Nat := match b with
  | 0 => 0
  | 1 => 6
  | 2 => 93
  | 3 => 97
  | _ => 0
/-! 16: TruceWall$Play.outcomeByRule(JII)I -/
def B16_0 (orc : Orc) : K := o_aload 0 (o_lload 1 (o_iload 3 (o_vI orc 17 3 1 (o_istore 5 (o_iload 5 (o_iconst (-1) (o_ieq (o_aload 0 (o_getR 1 1 (o_lload 1 (o_iload 3 (o_vI orc 75 3 5 (o_iret)))))) (o_aload 0 (o_aload 0 (o_getR 1 1 (o_lload 1 (o_iload 3 (o_iload 5 (o_vL orc 73 4 5 (o_iconst 1 (o_iload 3 (o_i2 (fun x y => x - y) (o_iload 4 (o_iconst 1 (o_i2 (fun x y => x + y) (o_vI orc 14 4 1 (o_sI orc 11 1 (o_iret)))))))))))))))))))))))
def P16 (orc : Orc) (b : Nat) : K := match b with
  | 0 => B16_0 orc
  | _ => fun _ _ _ => none
def Q16 (b : Nat) : Nat := match b with
  | 0 => 0
  | _ => 0
/-! 17: TruceWall$Play.actByRule(JI)I -/
def B17_0 (orc : Orc) : K := o_iconst (-1) (o_istore 4 (o_iconst 0 (o_istore 5 (o_iconst 0 (o_istore 6 (o_jmp 1))))))
def B17_1 (orc : Orc) : K := o_iload 6 (o_aload 0 (o_getR 1 1 (o_getR 5 8 (o_alen (o_ilt (o_aload 0 (o_getR 1 1 (o_getR 5 8 (o_iload 6 (o_iald 0 (o_istore 7 (o_aload 0 (o_getR 1 1 (o_lload 1 (o_iload 3 (o_iload 7 (o_vI orc 71 4 5 (o_if0 (o_jmp 3) (o_lload 1 (o_iload 7 (o_sI orc 4 1 (o_sI orc 57 2 (o_istore 8 (o_iload 4 (o_iconst (-1) (o_ieq (o_jmp 2) (o_aload 0 (o_getI 1 3 (o_iconst 1 (o_ieq (o_jmp 2) (o_aload 0 (o_getI 1 3 (o_iconst 2 (o_ieq (o_iload 8 (o_iload 5 (o_ilt (o_jmp 2) (o_jmp 3)))) (o_jmp 3)))))))))))))))))))))))))))))) (o_iload 4 (o_iret)))))))
def B17_2 (orc : Orc) : K := o_iload 7 (o_istore 4 (o_iload 8 (o_istore 5 (o_jmp 3))))
def B17_3 (orc : Orc) : K := o_iinc 6 1 (o_jmp 1)
def P17 (orc : Orc) (b : Nat) : K := match b with
  | 0 => B17_0 orc
  | 1 => B17_1 orc
  | 2 => B17_2 orc
  | 3 => B17_3 orc
  | _ => fun _ _ _ => none
def Q17 (b : Nat) : Nat := match b with
  | 0 => 0
  | 1 => 9
  | 2 => 88
  | 3 => 96
  | _ => 0
/-! 18: TruceWall$Reader.<init>()V -/
def B18_0 (orc : Orc) : K := o_aload 0 (o_obj (o_aload 0 (o_iconst 2 (o_putI 2 0 (o_aload 0 (o_iconst 1 (o_putI 2 1 (o_aload 0 (o_iconst 0 (o_putI 2 2 (o_aload 0 (o_iconst 0 (o_putI 2 3 (o_aload 0 (o_iconst 6 (o_newa 0 (o_putR 2 4 (o_aload 0 (o_iconst 6 (o_newa 0 (o_putR 2 5 (o_aload 0 (o_iconst 6 (o_newa 1 (o_putR 2 6 (o_aload 0 (o_iconst 1000 (o_newa 0 (o_putR 2 7 (o_aload 0 (o_iconst 0 (o_putI 2 8 (o_aload 0 (o_iconst 0 (o_putZ 2 9 (o_aload 0 (o_iconst 0 (o_putZ 2 10 (o_aload 0 (o_iconst 0 (o_newa 2 (o_putR 2 11 (o_aload 0 (o_iconst 0 (o_putI 2 12 (o_aload 0 (o_iconst 0 (o_putI 2 13 (o_aload 0 (o_iconst 0 (o_putI 2 14 (o_aload 0 (o_iconst 0 (o_putI 2 15 (o_aload 0 (o_iconst 259 (o_putI 2 16 (o_aload 0 (o_iconst 0 (o_putI 2 17 (o_aload 0 (o_lconst 0 (o_putL 2 18 (o_vret))))))))))))))))))))))))))))))))))))))))))))))))))))))))))))))))
def P18 (orc : Orc) (b : Nat) : K := match b with
  | 0 => B18_0 orc
  | _ => fun _ _ _ => none
def Q18 (b : Nat) : Nat := match b with
  | 0 => 0
  | _ => 0
/-! 19: TruceWall$Reader.written()LTruceWall$Truce; -/
def B19_0 (orc : Orc) : K := o_new 5 (o_dup (o_aload 0 (o_nV orc 56 2 (o_aret))))
def P19 (orc : Orc) (b : Nat) : K := match b with
  | 0 => B19_0 orc
  | _ => fun _ _ _ => none
def Q19 (b : Nat) : Nat := match b with
  | 0 => 0
  | _ => 0
/-! 20: TruceWall$Reader.fineCode()[I -/
def B20_0 (orc : Orc) : K := o_aload 0 (o_getI 2 10 (o_if0 (o_iconst 1 (o_jmp 1)) (o_aload 0 (o_getI 2 8 (o_jmp 1)))))
def B20_1 (orc : Orc) : K := o_newa 0 (o_astore 1 (o_aload 0 (o_getI 2 10 (o_if0 (o_aload 1 (o_iconst 0 (o_iconst (-138) (o_iast 0 (fun x => x) (o_aload 1 (o_aret)))))) (o_aload 0 (o_getR 2 7 (o_iconst 0 (o_aload 1 (o_iconst 0 (o_aload 0 (o_getI 2 8 (o_copy (o_aload 1 (o_aret))))))))))))))
def P20 (orc : Orc) (b : Nat) : K := match b with
  | 0 => B20_0 orc
  | 1 => B20_1 orc
  | _ => fun _ _ _ => none
def Q20 (b : Nat) : Nat := match b with
  | 0 => 0
  | 1 => 15
  | _ => 0
/-! 21: TruceWall$Reader.readTruce([CI)I -/
def B21_0 (orc : Orc) : K := o_aload 0 (o_aload 1 (o_putR 2 11 (o_aload 0 (o_iload 2 (o_putI 2 12 (o_aload 0 (o_iconst 0 (o_putI 2 13 (o_aload 0 (o_iconst 0 (o_putI 2 15 (o_aload 0 (o_iconst 0 (o_putI 2 2 (o_aload 0 (o_iconst 0 (o_putI 2 3 (o_aload 0 (o_iconst 0 (o_putI 2 8 (o_aload 0 (o_iconst 0 (o_putZ 2 9 (o_aload 0 (o_iconst 0 (o_putZ 2 10 (o_aload 0 (o_vV orc 37 1 2 (o_aload 0 (o_vV orc 22 1 2 (o_iconst 0 (o_istore 3 (o_jmp 1)))))))))))))))))))))))))))))))))
def B21_1 (orc : Orc) : K := o_iload 3 (o_iconst 1000 (o_ilt (o_aload 0 (o_getI 2 13 (o_if0 (o_aload 0 (o_getI 2 16 (o_iconst 259 (o_ieq (o_jmp 3) (o_aload 0 (o_getI 2 16 (o_sw [(129, o_aload 0 (o_vV orc 23 1 2 (o_jmp 2))), (130, o_aload 0 (o_vV orc 24 1 2 (o_jmp 2))), (131, o_aload 0 (o_vV orc 25 1 2 (o_jmp 2)))] (o_aload 0 (o_iconst 1 (o_vV orc 32 2 2 (o_jmp 2))))))))))) (o_jmp 3)))) (o_jmp 3)))
def B21_2 (orc : Orc) : K := o_iinc 3 1 (o_jmp 1)
def B21_3 (orc : Orc) : K := o_aload 0 (o_getI 2 13 (o_iret))
def P21 (orc : Orc) (b : Nat) : K := match b with
  | 0 => B21_0 orc
  | 1 => B21_1 orc
  | 2 => B21_2 orc
  | 3 => B21_3 orc
  | _ => fun _ _ _ => none
def Q21 (b : Nat) : Nat := match b with
  | 0 => 0
  | 1 => 55
  | 2 => 134
  | 3 => 140
  | _ => 0
/-! 22: TruceWall$Reader.wallLine()V -/
def B22_0 (orc : Orc) : K := o_aload 0 (o_iconst 128 (o_vV orc 33 2 2 (o_aload 0 (o_aload 0 (o_iconst 2 (o_iconst 10 (o_vI orc 34 3 2 (o_putI 2 0 (o_aload 0 (o_aload 0 (o_iconst 1 (o_iconst 6 (o_vI orc 34 3 2 (o_putI 2 1 (o_aload 0 (o_iconst 59 (o_vV orc 33 2 2 (o_vret))))))))))))))))))
def P22 (orc : Orc) (b : Nat) : K := match b with
  | 0 => B22_0 orc
  | _ => fun _ _ _ => none
def Q22 (b : Nat) : Nat := match b with
  | 0 => 0
  | _ => 0
/-! 23: TruceWall$Reader.stoneLine()V -/
def B23_0 (orc : Orc) : K := o_aload 0 (o_getI 2 3 (o_iconst 6 (o_ilt (o_aload 0 (o_vV orc 37 1 2 (o_aload 0 (o_getR 2 6 (o_aload 0 (o_getI 2 3 (o_aload 0 (o_vL orc 36 1 2 (o_last (o_aload 0 (o_vI orc 35 1 2 (o_istore 1 (o_iload 1 (o_iconst 1 (o_ieq (o_iconst 2 (o_jmp 1)) (o_iconst 1 (o_jmp 1))))))))))))))))) (o_aload 0 (o_iconst 5 (o_vV orc 32 2 2 (o_vret)))))))
def B23_1 (orc : Orc) : K := o_istore 2 (o_iload 1 (o_iconst 2 (o_ieq (o_jmp 2) (o_iload 1 (o_iconst 3 (o_ieq (o_jmp 2) (o_iconst 4 (o_jmp 3))))))))
def B23_2 (orc : Orc) : K := o_iconst 1 (o_jmp 3)
def B23_3 (orc : Orc) : K := o_istore 3 (o_aload 0 (o_getR 2 4 (o_aload 0 (o_getI 2 3 (o_iload 1 (o_iast 0 (fun x => x) (o_aload 0 (o_getR 2 5 (o_aload 0 (o_getI 2 3 (o_aload 0 (o_iload 2 (o_iload 3 (o_vI orc 34 3 2 (o_iast 0 (fun x => x) (o_aload 0 (o_iconst 59 (o_vV orc 33 2 2 (o_aload 0 (o_dup (o_getI 2 3 (o_iconst 1 (o_i2 (fun x y => x + y) (o_putI 2 3 (o_vret)))))))))))))))))))))))))
def P23 (orc : Orc) (b : Nat) : K := match b with
  | 0 => B23_0 orc
  | 1 => B23_1 orc
  | 2 => B23_2 orc
  | 3 => B23_3 orc
  | _ => fun _ _ _ => none
def Q23 (b : Nat) : Nat := match b with
  | 0 => 0
  | 1 => 47
  | 2 => 58
  | 3 => 63
  | _ => 0
/-! 24: TruceWall$Reader.gatesLine()V -/
def B24_0 (orc : Orc) : K := o_aload 0 (o_getI 2 9 (o_if0 (o_aload 0 (o_iconst 1 (o_putZ 2 9 (o_aload 0 (o_vV orc 37 1 2 (o_aload 0 (o_aload 0 (o_iconst 0 (o_iconst 1 (o_vI orc 34 3 2 (o_putI 2 2 (o_aload 0 (o_iconst 59 (o_vV orc 33 2 2 (o_vret))))))))))))))) (o_aload 0 (o_iconst 3 (o_vV orc 32 2 2 (o_vret))))))
def P24 (orc : Orc) (b : Nat) : K := match b with
  | 0 => B24_0 orc
  | _ => fun _ _ _ => none
def Q24 (b : Nat) : Nat := match b with
  | 0 => 0
  | _ => 0
/-! 25: TruceWall$Reader.fineLine()V -/
def B25_0 (orc : Orc) : K := o_aload 0 (o_getI 2 10 (o_if0 (o_aload 0 (o_iconst 1 (o_putZ 2 10 (o_aload 0 (o_vV orc 37 1 2 (o_aload 0 (o_iconst 0 (o_vV orc 26 2 2 (o_aload 0 (o_iconst 59 (o_vV orc 33 2 2 (o_vret)))))))))))) (o_aload 0 (o_iconst 3 (o_vV orc 32 2 2 (o_vret))))))
def P25 (orc : Orc) (b : Nat) : K := match b with
  | 0 => B25_0 orc
  | _ => fun _ _ _ => none
def Q25 (b : Nat) : Nat := match b with
  | 0 => 0
  | _ => 0
/-! 26: TruceWall$Reader.readE(I)V -/
def B26_0 (orc : Orc) : K := o_aload 0 (o_iload 1 (o_vV orc 27 2 2 (o_iconst 0 (o_istore 2 (o_jmp 1)))))
def B26_1 (orc : Orc) : K := o_iload 2 (o_iconst 1000 (o_ilt (o_aload 0 (o_getI 2 13 (o_if0 (o_aload 0 (o_getI 2 16 (o_iconst 143 (o_ieq (o_jmp 2) (o_aload 0 (o_getI 2 16 (o_iconst 144 (o_ieq (o_jmp 2) (o_vret))))))))) (o_vret)))) (o_vret)))
def B26_2 (orc : Orc) : K := o_aload 0 (o_getI 2 16 (o_istore 3 (o_aload 0 (o_vV orc 37 1 2 (o_aload 0 (o_iload 1 (o_vV orc 27 2 2 (o_aload 0 (o_iload 3 (o_i1 (fun x => -x) (o_vV orc 31 2 2 (o_iinc 2 1 (o_jmp 1)))))))))))))
def P26 (orc : Orc) (b : Nat) : K := match b with
  | 0 => B26_0 orc
  | 1 => B26_1 orc
  | 2 => B26_2 orc
  | _ => fun _ _ _ => none
def Q26 (b : Nat) : Nat := match b with
  | 0 => 0
  | 1 => 7
  | 2 => 41
  | _ => 0
/-! 27: TruceWall$Reader.readTest(I)V -/
def B27_0 (orc : Orc) : K := o_aload 0 (o_iload 1 (o_vV orc 28 2 2 (o_aload 0 (o_getI 2 13 (o_if0 (o_aload 0 (o_getI 2 16 (o_iconst 60 (o_ieq (o_jmp 1) (o_aload 0 (o_getI 2 16 (o_iconst 61 (o_ieq (o_jmp 1) (o_vret))))))))) (o_vret))))))
def B27_1 (orc : Orc) : K := o_aload 0 (o_getI 2 16 (o_istore 2 (o_aload 0 (o_vV orc 37 1 2 (o_aload 0 (o_iload 1 (o_vV orc 28 2 2 (o_aload 0 (o_iload 2 (o_i1 (fun x => -x) (o_vV orc 31 2 2 (o_vret))))))))))))
def P27 (orc : Orc) (b : Nat) : K := match b with
  | 0 => B27_0 orc
  | 1 => B27_1 orc
  | _ => fun _ _ _ => none
def Q27 (b : Nat) : Nat := match b with
  | 0 => 0
  | 1 => 30
  | _ => 0
/-! 28: TruceWall$Reader.readSum(I)V -/
def B28_0 (orc : Orc) : K := o_aload 0 (o_iload 1 (o_vV orc 29 2 2 (o_iconst 0 (o_istore 2 (o_jmp 1)))))
def B28_1 (orc : Orc) : K := o_iload 2 (o_iconst 1000 (o_ilt (o_aload 0 (o_getI 2 13 (o_if0 (o_aload 0 (o_getI 2 16 (o_iconst 43 (o_ieq (o_jmp 2) (o_aload 0 (o_getI 2 16 (o_iconst 45 (o_ieq (o_jmp 2) (o_vret))))))))) (o_vret)))) (o_vret)))
def B28_2 (orc : Orc) : K := o_aload 0 (o_getI 2 16 (o_istore 3 (o_aload 0 (o_vV orc 37 1 2 (o_aload 0 (o_iload 1 (o_vV orc 29 2 2 (o_aload 0 (o_iload 3 (o_i1 (fun x => -x) (o_vV orc 31 2 2 (o_iinc 2 1 (o_jmp 1)))))))))))))
def P28 (orc : Orc) (b : Nat) : K := match b with
  | 0 => B28_0 orc
  | 1 => B28_1 orc
  | 2 => B28_2 orc
  | _ => fun _ _ _ => none
def Q28 (b : Nat) : Nat := match b with
  | 0 => 0
  | 1 => 7
  | 2 => 39
  | _ => 0
/-! 29: TruceWall$Reader.readProduct(I)V -/
def B29_0 (orc : Orc) : K := o_aload 0 (o_iload 1 (o_vV orc 30 2 2 (o_iconst 0 (o_istore 2 (o_jmp 1)))))
def B29_1 (orc : Orc) : K := o_iload 2 (o_iconst 1000 (o_ilt (o_aload 0 (o_getI 2 13 (o_if0 (o_aload 0 (o_getI 2 16 (o_iconst 42 (o_ieq (o_aload 0 (o_vV orc 37 1 2 (o_aload 0 (o_iload 1 (o_vV orc 30 2 2 (o_aload 0 (o_iconst (-42) (o_vV orc 31 2 2 (o_iinc 2 1 (o_jmp 1)))))))))) (o_vret))))) (o_vret)))) (o_vret)))
def P29 (orc : Orc) (b : Nat) : K := match b with
  | 0 => B29_0 orc
  | 1 => B29_1 orc
  | _ => fun _ _ _ => none
def Q29 (b : Nat) : Nat := match b with
  | 0 => 0
  | 1 => 7
  | _ => 0
/-! 30: TruceWall$Reader.readPart(I)V -/
def B30_0 (orc : Orc) : K := o_aload 0 (o_getI 2 16 (o_iconst 138 (o_ilt (o_jmp 1) (o_aload 0 (o_getI 2 16 (o_iconst 141 (o_igt (o_jmp 1) (o_iconst 1 (o_jmp 2)))))))))
def B30_1 (orc : Orc) : K := o_iconst 0 (o_jmp 2)
def B30_2 (orc : Orc) : K := o_istore 2 (o_iload 2 (o_if0 (o_aload 0 (o_getI 2 16 (o_iconst 257 (o_ieq (o_jmp 3) (o_aload 0 (o_getI 2 16 (o_iconst 142 (o_ieq (o_jmp 3) (o_aload 0 (o_getI 2 16 (o_iconst 40 (o_ieq (o_jmp 3) (o_aload 0 (o_iconst 1 (o_vV orc 32 2 2 (o_vret)))))))))))))))) (o_jmp 3)))
def B30_3 (orc : Orc) : K := o_iload 1 (o_iconst 5 (o_ilt (o_aload 0 (o_getI 2 16 (o_iconst 257 (o_ieq (o_aload 0 (o_aload 0 (o_getI 2 17 (o_vV orc 31 2 2 (o_aload 0 (o_vV orc 37 1 2 (o_vret))))))) (o_iload 2 (o_if0 (o_aload 0 (o_getI 2 16 (o_iconst 142 (o_ieq (o_aload 0 (o_vV orc 37 1 2 (o_aload 0 (o_iload 1 (o_iconst 1 (o_i2 (fun x y => x + y) (o_vV orc 30 2 2 (o_aload 0 (o_iconst (-142) (o_vV orc 31 2 2 (o_vret))))))))))) (o_aload 0 (o_vV orc 37 1 2 (o_aload 0 (o_iload 1 (o_iconst 1 (o_i2 (fun x y => x + y) (o_vV orc 26 2 2 (o_aload 0 (o_iconst 41 (o_vV orc 33 2 2 (o_vret))))))))))))))) (o_aload 0 (o_aload 0 (o_getI 2 16 (o_i1 (fun x => -x) (o_vV orc 31 2 2 (o_aload 0 (o_vV orc 37 1 2 (o_vret)))))))))))))) (o_aload 0 (o_iconst 5 (o_vV orc 32 2 2 (o_vret))))))
def P30 (orc : Orc) (b : Nat) : K := match b with
  | 0 => B30_0 orc
  | 1 => B30_1 orc
  | 2 => B30_2 orc
  | 3 => B30_3 orc
  | _ => fun _ _ _ => none
def Q30 (b : Nat) : Nat := match b with
  | 0 => 0
  | 1 => 24
  | 2 => 25
  | 3 => 67
  | _ => 0
/-! 31: TruceWall$Reader.emit(I)V -/
def B31_0 (orc : Orc) : K := o_aload 0 (o_getI 2 13 (o_if0 (o_aload 0 (o_getI 2 8 (o_aload 0 (o_getR 2 7 (o_alen (o_ilt (o_aload 0 (o_getR 2 7 (o_aload 0 (o_getI 2 8 (o_iload 1 (o_iast 0 (fun x => x) (o_aload 0 (o_dup (o_getI 2 8 (o_iconst 1 (o_i2 (fun x y => x + y) (o_putI 2 8 (o_vret))))))))))))) (o_vret))))))) (o_vret)))
def P31 (orc : Orc) (b : Nat) : K := match b with
  | 0 => B31_0 orc
  | _ => fun _ _ _ => none
def Q31 (b : Nat) : Nat := match b with
  | 0 => 0
  | _ => 0
/-! 32: TruceWall$Reader.wrong(I)V -/
def B32_0 (orc : Orc) : K := o_aload 0 (o_getI 2 13 (o_if0 (o_aload 0 (o_iload 1 (o_iconst 16 (o_aload 0 (o_getI 2 14 (o_i2 (fun x y => x * y) (o_i2 (fun x y => x + y) (o_putI 2 13 (o_vret))))))))) (o_vret)))
def P32 (orc : Orc) (b : Nat) : K := match b with
  | 0 => B32_0 orc
  | _ => fun _ _ _ => none
def Q32 (b : Nat) : Nat := match b with
  | 0 => 0
  | _ => 0
/-! 33: TruceWall$Reader.expect(I)V -/
def B33_0 (orc : Orc) : K := o_aload 0 (o_getI 2 16 (o_iload 1 (o_ieq (o_aload 0 (o_vV orc 37 1 2 (o_vret))) (o_aload 0 (o_iconst 1 (o_vV orc 32 2 2 (o_vret)))))))
def P33 (orc : Orc) (b : Nat) : K := match b with
  | 0 => B33_0 orc
  | _ => fun _ _ _ => none
def Q33 (b : Nat) : Nat := match b with
  | 0 => 0
  | _ => 0
/-! 34: TruceWall$Reader.expectNumber(II)I -/
def B34_0 (orc : Orc) : K := o_aload 0 (o_getI 2 16 (o_iconst 257 (o_ieq (o_aload 0 (o_getI 2 17 (o_iload 1 (o_ilt (o_jmp 1) (o_aload 0 (o_getI 2 17 (o_iload 2 (o_igt (o_jmp 1) (o_aload 0 (o_getI 2 17 (o_istore 3 (o_aload 0 (o_vV orc 37 1 2 (o_iload 3 (o_iret))))))))))))))) (o_aload 0 (o_iconst 1 (o_vV orc 32 2 2 (o_iload 1 (o_iret))))))))
def B34_1 (orc : Orc) : K := o_aload 0 (o_iconst 4 (o_vV orc 32 2 2 (o_iload 1 (o_iret))))
def P34 (orc : Orc) (b : Nat) : K := match b with
  | 0 => B34_0 orc
  | 1 => B34_1 orc
  | _ => fun _ _ _ => none
def Q34 (b : Nat) : Nat := match b with
  | 0 => 0
  | 1 => 33
  | _ => 0
/-! 35: TruceWall$Reader.expectKind()I -/
def B35_0 (orc : Orc) : K := o_aload 0 (o_getI 2 16 (o_iconst 132 (o_ilt (o_jmp 1) (o_aload 0 (o_getI 2 16 (o_iconst 137 (o_igt (o_jmp 1) (o_aload 0 (o_getI 2 16 (o_iconst 132 (o_i2 (fun x y => x - y) (o_istore 1 (o_aload 0 (o_vV orc 37 1 2 (o_iload 1 (o_iret))))))))))))))))
def B35_1 (orc : Orc) : K := o_aload 0 (o_iconst 1 (o_vV orc 32 2 2 (o_iconst 0 (o_iret))))
def P35 (orc : Orc) (b : Nat) : K := match b with
  | 0 => B35_0 orc
  | 1 => B35_1 orc
  | _ => fun _ _ _ => none
def Q35 (b : Nat) : Nat := match b with
  | 0 => 0
  | 1 => 20
  | _ => 0
/-! 36: TruceWall$Reader.expectName()J -/
def B36_0 (orc : Orc) : K := o_aload 0 (o_getI 2 16 (o_iconst 256 (o_ieq (o_iconst 0 (o_istore 1 (o_jmp 1))) (o_aload 0 (o_iconst 1 (o_vV orc 32 2 2 (o_lconst 0 (o_lret))))))))
def B36_1 (orc : Orc) : K := o_iload 1 (o_aload 0 (o_getI 2 3 (o_ilt (o_aload 0 (o_getR 2 6 (o_iload 1 (o_lald (o_aload 0 (o_getL 2 18 (o_lcmp (o_if0 (o_aload 0 (o_iconst 3 (o_vV orc 32 2 2 (o_jmp 2)))) (o_jmp 2))))))))) (o_aload 0 (o_getL 2 18 (o_lstore 1 (o_aload 0 (o_vV orc 37 1 2 (o_lload 1 (o_lret))))))))))
def B36_2 (orc : Orc) : K := o_iinc 1 1 (o_jmp 1)
def P36 (orc : Orc) (b : Nat) : K := match b with
  | 0 => B36_0 orc
  | 1 => B36_1 orc
  | 2 => B36_2 orc
  | _ => fun _ _ _ => none
def Q36 (b : Nat) : Nat := match b with
  | 0 => 0
  | 1 => 19
  | 2 => 46
  | _ => 0
/-! 37: TruceWall$Reader.step()V -/
def B37_0 (orc : Orc) : K := o_aload 0 (o_getI 2 13 (o_if0 (o_aload 0 (o_getI 2 15 (o_istore 1 (o_jmp 1)))) (o_vret)))
def B37_1 (orc : Orc) : K := o_iload 1 (o_aload 0 (o_getI 2 12 (o_ilt (o_aload 0 (o_getR 2 11 (o_iload 1 (o_iald 2 (o_iconst 10 (o_ieq (o_jmp 2) (o_aload 0 (o_getR 2 11 (o_iload 1 (o_iald 2 (o_iconst 32 (o_ieq (o_jmp 2) (o_jmp 3))))))))))))) (o_jmp 3))))
def B37_2 (orc : Orc) : K := o_iinc 1 1 (o_jmp 1)
def B37_3 (orc : Orc) : K := o_aload 0 (o_iload 1 (o_putI 2 14 (o_iload 1 (o_aload 0 (o_getI 2 12 (o_ilt (o_aload 0 (o_getR 2 11 (o_iload 1 (o_iald 2 (o_sI orc 41 1 (o_if0 (o_aload 0 (o_getR 2 11 (o_iload 1 (o_iald 2 (o_sI orc 42 1 (o_if0 (o_aload 0 (o_iload 1 (o_iconst 1 (o_i2 (fun x y => x + y) (o_putI 2 15 (o_aload 0 (o_aload 0 (o_getR 2 11 (o_iload 1 (o_iald 2 (o_sI orc 43 1 (o_if0 (o_iconst 258 (o_jmp 4)) (o_aload 0 (o_getR 2 11 (o_iload 1 (o_iald 2 (o_jmp 4))))))))))))))))) (o_aload 0 (o_vV orc 40 1 2 (o_vret))))))))) (o_aload 0 (o_vV orc 38 1 2 (o_vret))))))))) (o_aload 0 (o_iconst 259 (o_putI 2 16 (o_vret))))))))))
def B37_4 (orc : Orc) : K := o_putI 2 16 (o_vret)
def P37 (orc : Orc) (b : Nat) : K := match b with
  | 0 => B37_0 orc
  | 1 => B37_1 orc
  | 2 => B37_2 orc
  | 3 => B37_3 orc
  | 4 => B37_4 orc
  | _ => fun _ _ _ => none
def Q37 (b : Nat) : Nat := match b with
  | 0 => 0
  | 1 => 13
  | 2 => 43
  | 3 => 49
  | 4 => 142
  | _ => 0
/-! 38: TruceWall$Reader.stepWord()V -/
def B38_0 (orc : Orc) : K := o_aload 0 (o_getI 2 14 (o_istore 1 (o_jmp 1)))
def B38_1 (orc : Orc) : K := o_iload 1 (o_aload 0 (o_getI 2 12 (o_ilt (o_aload 0 (o_getR 2 11 (o_iload 1 (o_iald 2 (o_sI orc 41 1 (o_if0 (o_jmp 2) (o_iinc 1 1 (o_jmp 1)))))))) (o_jmp 2))))
def B38_2 (orc : Orc) : K := o_aload 0 (o_iload 1 (o_putI 2 15 (o_iload 1 (o_aload 0 (o_getI 2 14 (o_i2 (fun x y => x - y) (o_iconst 8 (o_igt (o_aload 0 (o_iconst 258 (o_putI 2 16 (o_vret)))) (o_aload 0 (o_lconst 0 (o_putL 2 18 (o_aload 0 (o_getI 2 14 (o_istore 2 (o_jmp 3)))))))))))))))
def B38_3 (orc : Orc) : K := o_iload 2 (o_iload 1 (o_ilt (o_aload 0 (o_aload 0 (o_getL 2 18 (o_iconst 8 (o_lsh (fun x y => x <<< (y.toInt64 &&& 63)) (o_aload 0 (o_getR 2 11 (o_iload 2 (o_iald 2 (o_i2l (o_l2 (fun x y => x ||| y) (o_putL 2 18 (o_iinc 2 1 (o_jmp 3)))))))))))))) (o_aload 0 (o_aload 0 (o_iload 1 (o_aload 0 (o_getI 2 14 (o_i2 (fun x y => x - y) (o_vI orc 39 2 2 (o_putI 2 16 (o_vret)))))))))))
def P38 (orc : Orc) (b : Nat) : K := match b with
  | 0 => B38_0 orc
  | 1 => B38_1 orc
  | 2 => B38_2 orc
  | 3 => B38_3 orc
  | _ => fun _ _ _ => none
def Q38 (b : Nat) : Nat := match b with
  | 0 => 0
  | 1 => 5
  | 2 => 31
  | 3 => 65
  | _ => 0
/-! 39: TruceWall$Reader.knownWord(I)I -/
def B39_0 (orc : Orc) : K := o_iconst 0 (o_istore 2 (o_jmp 1))
def B39_1 (orc : Orc) : K := o_iload 2 (o_iconst 17 (o_ilt (o_iload 1 (o_iconst 6 (o_igt (o_iconst 256 (o_iret)) (o_iload 2 (o_iconst 6 (o_i2 (fun x y => x * y) (o_istore 3 (o_iconst 0 (o_istore 4 (o_jmp 2)))))))))) (o_iconst 256 (o_iret))))
def B39_2 (orc : Orc) : K := o_iload 4 (o_iload 1 (o_ilt (o_str 0 (o_iload 3 (o_iload 4 (o_i2 (fun x y => x + y) (o_wI orc 189 2 (o_aload 0 (o_getR 2 11 (o_aload 0 (o_getI 2 14 (o_iload 4 (o_i2 (fun x y => x + y) (o_iald 2 (o_ieq (o_iinc 4 1 (o_jmp 2)) (o_jmp 3)))))))))))))) (o_jmp 3)))
def B39_3 (orc : Orc) : K := o_iload 4 (o_iconst 6 (o_ieq (o_jmp 4) (o_str 0 (o_iload 3 (o_iload 4 (o_i2 (fun x y => x + y) (o_wI orc 189 2 (o_iconst 32 (o_ieq (o_jmp 4) (o_iconst 0 (o_jmp 5)))))))))))
def B39_4 (orc : Orc) : K := o_iconst 1 (o_jmp 5)
def B39_5 (orc : Orc) : K := o_istore 5 (o_iload 4 (o_iload 1 (o_ieq (o_iload 5 (o_if0 (o_jmp 6) (o_iconst 128 (o_iload 2 (o_i2 (fun x y => x + y) (o_iret)))))) (o_jmp 6))))
def B39_6 (orc : Orc) : K := o_iinc 2 1 (o_jmp 1)
def P39 (orc : Orc) (b : Nat) : K := match b with
  | 0 => B39_0 orc
  | 1 => B39_1 orc
  | 2 => B39_2 orc
  | 3 => B39_3 orc
  | 4 => B39_4 orc
  | 5 => B39_5 orc
  | 6 => B39_6 orc
  | _ => fun _ _ _ => none
def Q39 (b : Nat) : Nat := match b with
  | 0 => 0
  | 1 => 2
  | 2 => 22
  | 3 => 58
  | 4 => 79
  | 5 => 84
  | 6 => 103
  | _ => 0
/-! 40: TruceWall$Reader.stepNumber()V -/
def B40_0 (orc : Orc) : K := o_aload 0 (o_getI 2 14 (o_istore 1 (o_aload 0 (o_iconst 0 (o_putI 2 17 (o_jmp 1))))))
def B40_1 (orc : Orc) : K := o_iload 1 (o_aload 0 (o_getI 2 12 (o_ilt (o_aload 0 (o_getR 2 11 (o_iload 1 (o_iald 2 (o_sI orc 42 1 (o_if0 (o_jmp 2) (o_aload 0 (o_aload 0 (o_getI 2 17 (o_iconst 10 (o_i2 (fun x y => x * y) (o_aload 0 (o_getR 2 11 (o_iload 1 (o_iald 2 (o_i2 (fun x y => x + y) (o_iconst 48 (o_i2 (fun x y => x - y) (o_putI 2 17 (o_iinc 1 1 (o_jmp 1))))))))))))))))))))) (o_jmp 2))))
def B40_2 (orc : Orc) : K := o_aload 0 (o_iload 1 (o_putI 2 15 (o_aload 0 (o_iload 1 (o_aload 0 (o_getI 2 14 (o_i2 (fun x y => x - y) (o_iconst 4 (o_igt (o_iconst 258 (o_jmp 3)) (o_iconst 257 (o_jmp 3)))))))))))
def B40_3 (orc : Orc) : K := o_putI 2 16 (o_vret)
def P40 (orc : Orc) (b : Nat) : K := match b with
  | 0 => B40_0 orc
  | 1 => B40_1 orc
  | 2 => B40_2 orc
  | 3 => B40_3 orc
  | _ => fun _ _ _ => none
def Q40 (b : Nat) : Nat := match b with
  | 0 => 0
  | 1 => 10
  | 2 => 57
  | 3 => 82
  | _ => 0
/-! 41: TruceWall$Reader.isLetter(C)Z -/
def B41_0 (orc : Orc) : K := o_iload 0 (o_iconst 97 (o_ilt (o_iconst 0 (o_zret)) (o_iload 0 (o_iconst 122 (o_igt (o_iconst 0 (o_zret)) (o_iconst 1 (o_zret)))))))
def P41 (orc : Orc) (b : Nat) : K := match b with
  | 0 => B41_0 orc
  | _ => fun _ _ _ => none
def Q41 (b : Nat) : Nat := match b with
  | 0 => 0
  | _ => 0
/-! 42: TruceWall$Reader.isDigit(C)Z -/
def B42_0 (orc : Orc) : K := o_iload 0 (o_iconst 48 (o_ilt (o_iconst 0 (o_zret)) (o_iload 0 (o_iconst 57 (o_igt (o_iconst 0 (o_zret)) (o_iconst 1 (o_zret)))))))
def P42 (orc : Orc) (b : Nat) : K := match b with
  | 0 => B42_0 orc
  | _ => fun _ _ _ => none
def Q42 (b : Nat) : Nat := match b with
  | 0 => 0
  | _ => 0
/-! 43: TruceWall$Reader.isSign(C)Z -/
def B43_0 (orc : Orc) : K := o_iload 0 (o_iconst 40 (o_ieq (o_jmp 1) (o_iload 0 (o_iconst 41 (o_ieq (o_jmp 1) (o_iload 0 (o_iconst 60 (o_ieq (o_jmp 1) (o_iload 0 (o_iconst 61 (o_ieq (o_jmp 1) (o_iload 0 (o_iconst 43 (o_ieq (o_jmp 1) (o_iload 0 (o_iconst 45 (o_ieq (o_jmp 1) (o_iload 0 (o_iconst 42 (o_ieq (o_jmp 1) (o_iload 0 (o_iconst 59 (o_ieq (o_jmp 1) (o_iconst 0 (o_zret)))))))))))))))))))))))))
def B43_1 (orc : Orc) : K := o_iconst 1 (o_zret)
def P43 (orc : Orc) (b : Nat) : K := match b with
  | 0 => B43_0 orc
  | 1 => B43_1 orc
  | _ => fun _ _ _ => none
def Q43 (b : Nat) : Nat := match b with
  | 0 => 0
  | 1 => 48
  | _ => 0
/-! 44: TruceWall$Reckoner.<init>()V -/
def B44_0 (orc : Orc) : K := o_aload 0 (o_obj (o_aload 0 (o_iconst 32 (o_newa 0 (o_putR 3 0 (o_aload 0 (o_iconst 0 (o_putI 3 1 (o_vret)))))))))
def P44 (orc : Orc) (b : Nat) : K := match b with
  | 0 => B44_0 orc
  | _ => fun _ _ _ => none
def Q44 (b : Nat) : Nat := match b with
  | 0 => 0
  | _ => 0
/-! 45: TruceWall$Reckoner.worth([IIIII)I -/
def B45_0 (orc : Orc) : K := o_aload 0 (o_iconst 0 (o_putI 3 1 (o_iconst 0 (o_istore 6 (o_jmp 1)))))
def B45_1 (orc : Orc) : K := o_iload 6 (o_aload 1 (o_alen (o_ilt (o_aload 1 (o_iload 6 (o_iald 0 (o_istore 7 (o_iload 7 (o_i1 (fun x => -x) (o_sw [(138, o_aload 0 (o_iload 2 (o_vV orc 47 2 3 (o_jmp 3)))), (139, o_aload 0 (o_iload 3 (o_vV orc 47 2 3 (o_jmp 3)))), (140, o_aload 0 (o_iload 4 (o_vV orc 47 2 3 (o_jmp 3)))), (141, o_aload 0 (o_iload 5 (o_vV orc 47 2 3 (o_jmp 3)))), (142, o_aload 0 (o_aload 0 (o_vI orc 48 1 3 (o_if0 (o_iconst 1 (o_jmp 2)) (o_iconst 0 (o_jmp 2))))))] (o_iload 7 (o_ifn (o_aload 0 (o_vI orc 48 1 3 (o_istore 8 (o_aload 0 (o_iload 7 (o_i1 (fun x => -x) (o_aload 0 (o_vI orc 48 1 3 (o_iload 8 (o_sI orc 46 3 (o_vV orc 47 2 3 (o_jmp 3)))))))))))) (o_aload 0 (o_iload 7 (o_vV orc 47 2 3 (o_jmp 3))))))))))))) (o_aload 0 (o_vI orc 48 1 3 (o_iret))))))
def B45_2 (orc : Orc) : K := o_vV orc 47 2 3 (o_jmp 3)
def B45_3 (orc : Orc) : K := o_iinc 6 1 (o_jmp 1)
def P45 (orc : Orc) (b : Nat) : K := match b with
  | 0 => B45_0 orc
  | 1 => B45_1 orc
  | 2 => B45_2 orc
  | 3 => B45_3 orc
  | _ => fun _ _ _ => none
def Q45 (b : Nat) : Nat := match b with
  | 0 => 0
  | 1 => 8
  | 2 => 107
  | 3 => 149
  | _ => 0
/-! 46: TruceWall$Reckoner.joined(III)I -/
def B46_0 (orc : Orc) : K := o_iload 0 (o_sw [(42, o_iload 1 (o_iload 2 (o_i2 (fun x y => x * y) (o_iret)))), (43, o_iload 1 (o_iload 2 (o_i2 (fun x y => x + y) (o_iret)))), (45, o_iload 1 (o_iload 2 (o_i2 (fun x y => x - y) (o_iret)))), (60, o_iload 1 (o_iload 2 (o_ilt (o_iconst 1 (o_iret)) (o_iconst 0 (o_iret))))), (61, o_iload 1 (o_iload 2 (o_ieq (o_iconst 1 (o_iret)) (o_iconst 0 (o_iret))))), (143, o_iload 1 (o_if0 (o_iconst 0 (o_iret)) (o_iload 2 (o_if0 (o_iconst 0 (o_iret)) (o_iconst 1 (o_iret))))))] (o_iload 1 (o_if0 (o_iload 2 (o_if0 (o_iconst 0 (o_iret)) (o_jmp 1))) (o_jmp 1))))
def B46_1 (orc : Orc) : K := o_iconst 1 (o_iret)
def P46 (orc : Orc) (b : Nat) : K := match b with
  | 0 => B46_0 orc
  | 1 => B46_1 orc
  | _ => fun _ _ _ => none
def Q46 (b : Nat) : Nat := match b with
  | 0 => 0
  | 1 => 116
  | _ => 0
/-! 47: TruceWall$Reckoner.push(I)V -/
def B47_0 (orc : Orc) : K := o_aload 0 (o_getI 3 1 (o_aload 0 (o_getR 3 0 (o_alen (o_ilt (o_aload 0 (o_getR 3 0 (o_aload 0 (o_getI 3 1 (o_iload 1 (o_iast 0 (fun x => x) (o_aload 0 (o_dup (o_getI 3 1 (o_iconst 1 (o_i2 (fun x y => x + y) (o_putI 3 1 (o_vret))))))))))))) (o_vret))))))
def P47 (orc : Orc) (b : Nat) : K := match b with
  | 0 => B47_0 orc
  | _ => fun _ _ _ => none
def Q47 (b : Nat) : Nat := match b with
  | 0 => 0
  | _ => 0
/-! 48: TruceWall$Reckoner.pop()I -/
def B48_0 (orc : Orc) : K := o_aload 0 (o_getI 3 1 (o_ifp (o_aload 0 (o_dup (o_getI 3 1 (o_iconst 1 (o_i2 (fun x y => x - y) (o_putI 3 1 (o_jmp 1))))))) (o_jmp 1)))
def B48_1 (orc : Orc) : K := o_aload 0 (o_getR 3 0 (o_aload 0 (o_getI 3 1 (o_iald 0 (o_iret)))))
def P48 (orc : Orc) (b : Nat) : K := match b with
  | 0 => B48_0 orc
  | 1 => B48_1 orc
  | _ => fun _ _ _ => none
def Q48 (b : Nat) : Nat := match b with
  | 0 => 0
  | 1 => 17
  | _ => 0
/-! 49: TruceWall$Site.<init>()V -/
def B49_0 (orc : Orc) : K := o_aload 0 (o_obj (o_aload 0 (o_iconst 60 (o_newa 0 (o_putR 4 0 (o_aload 0 (o_iconst 0 (o_putI 4 1 (o_aload 0 (o_lconst 0 (o_putL 4 2 (o_aload 0 (o_iconst 0 (o_putI 4 3 (o_aload 0 (o_iconst 2 (o_newa 0 (o_putR 4 4 (o_aload 0 (o_iconst 10 (o_newa 0 (o_putR 4 5 (o_aload 0 (o_iconst 10 (o_newa 0 (o_putR 4 6 (o_aload 0 (o_new 3 (o_dup (o_nV orc 44 1 (o_putR 4 7 (o_vret))))))))))))))))))))))))))))))))
def P49 (orc : Orc) (b : Nat) : K := match b with
  | 0 => B49_0 orc
  | _ => fun _ _ _ => none
def Q49 (b : Nat) : Nat := match b with
  | 0 => 0
  | _ => 0
/-! 50: TruceWall$Site.town()I -/
def B50_0 (orc : Orc) : K := o_aload 0 (o_getI 4 1 (o_iconst 1 (o_i2 (fun x y => x &&& y) (o_iret))))
def P50 (orc : Orc) (b : Nat) : K := match b with
  | 0 => B50_0 orc
  | _ => fun _ _ _ => none
def Q50 (b : Nat) : Nat := match b with
  | 0 => 0
  | _ => 0
/-! 51: TruceWall$Site.clear()V -/
def B51_0 (orc : Orc) : K := o_aload 0 (o_iconst 0 (o_putI 4 1 (o_aload 0 (o_lconst 0 (o_putL 4 2 (o_aload 0 (o_iconst 0 (o_putI 4 3 (o_aload 0 (o_getR 4 4 (o_iconst 0 (o_iconst 0 (o_iast 0 (fun x => x) (o_aload 0 (o_getR 4 4 (o_iconst 1 (o_iconst 0 (o_iast 0 (fun x => x) (o_iconst 0 (o_istore 1 (o_jmp 1)))))))))))))))))))))
def B51_1 (orc : Orc) : K := o_iload 1 (o_iconst 10 (o_ilt (o_aload 0 (o_getR 4 5 (o_iload 1 (o_iconst 0 (o_iast 0 (fun x => x) (o_aload 0 (o_getR 4 6 (o_iload 1 (o_iconst (-1) (o_iast 0 (fun x => x) (o_iinc 1 1 (o_jmp 1)))))))))))) (o_vret)))
def P51 (orc : Orc) (b : Nat) : K := match b with
  | 0 => B51_0 orc
  | 1 => B51_1 orc
  | _ => fun _ _ _ => none
def Q51 (b : Nat) : Nat := match b with
  | 0 => 0
  | 1 => 31
  | _ => 0
/-! 52: TruceWall$Site.take([I)V -/
def B52_0 (orc : Orc) : K := o_aload 1 (o_iconst 0 (o_aload 0 (o_getR 4 0 (o_iconst 0 (o_iconst 60 (o_copy (o_vret)))))))
def P52 (orc : Orc) (b : Nat) : K := match b with
  | 0 => B52_0 orc
  | _ => fun _ _ _ => none
def Q52 (b : Nat) : Nat := match b with
  | 0 => 0
  | _ => 0
/-! 53: TruceWall$Site.replay(LTruceWall$Truce;I)V -/
def B53_0 (orc : Orc) : K := o_aload 0 (o_vV orc 51 1 4 (o_iconst 0 (o_istore 3 (o_jmp 1))))
def B53_1 (orc : Orc) : K := o_iload 3 (o_iload 2 (o_ilt (o_iload 3 (o_aload 0 (o_getR 4 0 (o_alen (o_ilt (o_aload 0 (o_aload 1 (o_aload 0 (o_getR 4 0 (o_iload 3 (o_iald 0 (o_vV orc 54 3 4 (o_iinc 3 1 (o_jmp 1))))))))) (o_vret)))))) (o_vret)))
def P53 (orc : Orc) (b : Nat) : K := match b with
  | 0 => B53_0 orc
  | 1 => B53_1 orc
  | _ => fun _ _ _ => none
def Q53 (b : Nat) : Nat := match b with
  | 0 => 0
  | 1 => 6
  | _ => 0
/-! 54: TruceWall$Site.perform(LTruceWall$Truce;I)V -/
def B54_0 (orc : Orc) : K := o_aload 0 (o_getI 4 1 (o_aload 0 (o_getR 4 0 (o_alen (o_ilt (o_iload 2 (o_sI orc 2 1 (o_if0 (o_aload 0 (o_aload 1 (o_iload 2 (o_vV orc 55 3 4 (o_jmp 1))))) (o_jmp 1)))) (o_vret))))))
def B54_1 (orc : Orc) : K := o_aload 0 (o_aload 1 (o_aload 0 (o_getL 4 2 (o_aload 0 (o_vI orc 50 1 4 (o_iload 2 (o_vL orc 73 4 5 (o_putL 4 2 (o_aload 0 (o_getR 4 0 (o_aload 0 (o_getI 4 1 (o_iload 2 (o_iast 0 (fun x => x) (o_aload 0 (o_dup (o_getI 4 1 (o_iconst 1 (o_i2 (fun x y => x + y) (o_putI 4 1 (o_vret)))))))))))))))))))))
def P54 (orc : Orc) (b : Nat) : K := match b with
  | 0 => B54_0 orc
  | 1 => B54_1 orc
  | _ => fun _ _ _ => none
def Q54 (b : Nat) : Nat := match b with
  | 0 => 0
  | 1 => 26
  | _ => 0
/-! 55: TruceWall$Site.lodge(LTruceWall$Truce;I)V -/
def B55_0 (orc : Orc) : K := o_aload 1 (o_getR 5 4 (o_iload 2 (o_sI orc 3 1 (o_iald 0 (o_istore 3 (o_iload 2 (o_sI orc 4 1 (o_istore 4 (o_iload 2 (o_sI orc 5 1 (o_istore 5 (o_aload 0 (o_getL 4 2 (o_iload 4 (o_sI orc 57 2 (o_istore 6 (o_iload 3 (o_iconst 4 (o_ieq (o_iconst 1 (o_aload 0 (o_vI orc 50 1 4 (o_i2 (fun x y => x - y) (o_jmp 1))))) (o_aload 0 (o_vI orc 50 1 4 (o_jmp 1))))))))))))))))))))))
def B55_1 (orc : Orc) : K := o_istore 7 (o_iload 3 (o_iconst 3 (o_ieq (o_aload 0 (o_getR 4 6 (o_iload 4 (o_iload 7 (o_iast 0 (fun x => x) (o_aload 0 (o_getR 4 6 (o_aload 1 (o_iload 4 (o_vI orc 63 2 5 (o_iload 7 (o_iast 0 (fun x => x) (o_aload 0 (o_dup (o_getI 4 3 (o_aload 0 (o_getR 4 7 (o_aload 1 (o_getR 5 6 (o_iconst 2 (o_iload 6 (o_iconst 0 (o_aload 0 (o_getI 4 1 (o_vI orc 45 6 3 (o_i2 (fun x y => x + y) (o_putI 4 3 (o_vret)))))))))))))))))))))))))))) (o_iconst 0 (o_istore 8 (o_iload 4 (o_istore 9 (o_jmp 2))))))))
def B55_2 (orc : Orc) : K := o_iload 9 (o_iload 4 (o_iload 5 (o_i2 (fun x y => x + y) (o_ilt (o_iload 6 (o_aload 0 (o_getL 4 2 (o_iload 9 (o_sI orc 57 2 (o_i2 (fun x y => x - y) (o_istore 10 (o_iload 8 (o_iload 10 (o_i2 (fun x y => x + y) (o_istore 8 (o_aload 0 (o_getR 4 5 (o_iload 9 (o_dup2 (o_iald 0 (o_iload 10 (o_i2 (fun x y => x + y) (o_iast 0 (fun x => x) (o_aload 0 (o_getR 4 6 (o_iload 9 (o_iload 7 (o_iast 0 (fun x => x) (o_iinc 9 1 (o_jmp 2)))))))))))))))))))))))))) (o_aload 0 (o_getR 4 4 (o_iload 7 (o_dup2 (o_iald 0 (o_iload 8 (o_i2 (fun x y => x + y) (o_iast 0 (fun x => x) (o_aload 0 (o_dup (o_getI 4 3 (o_aload 0 (o_getR 4 7 (o_aload 1 (o_getR 5 6 (o_iload 5 (o_iload 6 (o_iload 8 (o_aload 0 (o_getI 4 1 (o_vI orc 45 6 3 (o_i2 (fun x y => x + y) (o_putI 4 3 (o_vret))))))))))))))))))))))))))))
def P55 (orc : Orc) (b : Nat) : K := match b with
  | 0 => B55_0 orc
  | 1 => B55_1 orc
  | 2 => B55_2 orc
  | _ => fun _ _ _ => none
def Q55 (b : Nat) : Nat := match b with
  | 0 => 0
  | 1 => 51
  | 2 => 116
  | _ => 0
/-! 56: TruceWall$Truce.<init>(LTruceWall$Reader;)V -/
def B56_0 (orc : Orc) : K := o_aload 0 (o_obj (o_aload 0 (o_aload 1 (o_getI 2 0 (o_putI 5 0 (o_aload 0 (o_aload 1 (o_getI 2 1 (o_putI 5 1 (o_aload 0 (o_aload 1 (o_getI 2 2 (o_putI 5 2 (o_aload 0 (o_aload 1 (o_getI 2 3 (o_putI 5 3 (o_aload 0 (o_aload 1 (o_getR 2 4 (o_clone (o_castA (o_putR 5 4 (o_aload 0 (o_aload 1 (o_getR 2 5 (o_clone (o_castA (o_putR 5 5 (o_aload 0 (o_aload 1 (o_vR orc 20 1 2 (o_putR 5 6 (o_aload 0 (o_aload 0 (o_getI 5 0 (o_iconst 5 (o_igt (o_jmp 1) (o_aload 0 (o_getI 5 1 (o_iconst 1 (o_i2 (fun x y => x + y) (o_aload 0 (o_getI 5 0 (o_sI orc 60 2 (o_iconst 256 (o_igt (o_jmp 1) (o_iconst 1 (o_jmp 2)))))))))))))))))))))))))))))))))))))))))))))))))
def B56_1 (orc : Orc) : K := o_iconst 0 (o_jmp 2)
def B56_2 (orc : Orc) : K := o_putZ 5 7 (o_aload 0 (o_aload 0 (o_vR orc 61 1 5 (o_putR 5 8 (o_vret)))))
def P56 (orc : Orc) (b : Nat) : K := match b with
  | 0 => B56_0 orc
  | 1 => B56_1 orc
  | 2 => B56_2 orc
  | _ => fun _ _ _ => none
def Q56 (b : Nat) : Nat := match b with
  | 0 => 0
  | 1 => 104
  | 2 => 105
  | _ => 0
/-! 57: TruceWall$Truce.heightAt(JI)I -/
def B57_0 (orc : Orc) : K := o_lload 0 (o_iconst 4 (o_iload 2 (o_i2 (fun x y => x * y) (o_lsh (fun x y => (x.toUInt64 >>> (y.toInt64.toUInt64 &&& Int64.toUInt64 63)).toInt64) (o_l2i (o_iconst 15 (o_i2 (fun x y => x &&& y) (o_istore 3 (o_iload 3 (o_iconst 8 (o_ilt (o_iload 3 (o_iret)) (o_iconst 0 (o_iret)))))))))))))
def P57 (orc : Orc) (b : Nat) : K := match b with
  | 0 => B57_0 orc
  | _ => fun _ _ _ => none
def Q57 (b : Nat) : Nat := match b with
  | 0 => 0
  | _ => 0
/-! 58: TruceWall$Truce.gateAt(JI)I -/
def B58_0 (orc : Orc) : K := o_lload 0 (o_iconst 4 (o_iload 2 (o_i2 (fun x y => x * y) (o_lsh (fun x y => (x.toUInt64 >>> (y.toInt64.toUInt64 &&& Int64.toUInt64 63)).toInt64) (o_l2i (o_iconst 15 (o_i2 (fun x y => x &&& y) (o_istore 3 (o_iload 3 (o_iconst 8 (o_ilt (o_iconst (-1) (o_iret)) (o_iload 3 (o_iconst 8 (o_i2 (fun x y => x - y) (o_iret)))))))))))))))
def P58 (orc : Orc) (b : Nat) : K := match b with
  | 0 => B58_0 orc
  | _ => fun _ _ _ => none
def Q58 (b : Nat) : Nat := match b with
  | 0 => 0
  | _ => 0
/-! 59: TruceWall$Truce.withPlace(JII)J -/
def B59_0 (orc : Orc) : K := o_iconst 4 (o_iload 2 (o_i2 (fun x y => x * y) (o_istore 4 (o_lload 0 (o_lconst 15 (o_iload 4 (o_lsh (fun x y => x <<< (y.toInt64 &&& 63)) (o_lconst (-1) (o_l2 (fun x y => x ^^^ y) (o_l2 (fun x y => x &&& y) (o_iload 3 (o_i2l (o_iload 4 (o_lsh (fun x y => x <<< (y.toInt64 &&& 63)) (o_l2 (fun x y => x ||| y) (o_lret))))))))))))))))
def P59 (orc : Orc) (b : Nat) : K := match b with
  | 0 => B59_0 orc
  | _ => fun _ _ _ => none
def Q59 (b : Nat) : Nat := match b with
  | 0 => 0
  | _ => 0
/-! 60: TruceWall$Truce.power(II)I -/
def B60_0 (orc : Orc) : K := o_iconst 1 (o_istore 2 (o_iconst 0 (o_istore 3 (o_jmp 1))))
def B60_1 (orc : Orc) : K := o_iload 3 (o_iload 1 (o_ilt (o_iload 2 (o_iload 0 (o_i2 (fun x y => x * y) (o_istore 2 (o_iinc 3 1 (o_jmp 1)))))) (o_iload 2 (o_iret))))
def P60 (orc : Orc) (b : Nat) : K := match b with
  | 0 => B60_0 orc
  | 1 => B60_1 orc
  | _ => fun _ _ _ => none
def Q60 (b : Nat) : Nat := match b with
  | 0 => 0
  | 1 => 4
  | _ => 0
/-! 61: TruceWall$Truce.allCandidates()[I -/
def B61_0 (orc : Orc) : K := o_iconst 250 (o_newa 0 (o_astore 1 (o_iconst 0 (o_istore 2 (o_iconst 0 (o_istore 3 (o_jmp 1)))))))
def B61_1 (orc : Orc) : K := o_iload 3 (o_aload 0 (o_getI 5 3 (o_ilt (o_iconst 0 (o_istore 4 (o_jmp 2))) (o_iconst 0 (o_istore 3 (o_jmp 7))))))
def B61_2 (orc : Orc) : K := o_iload 4 (o_aload 0 (o_getI 5 0 (o_ilt (o_iconst 1 (o_istore 5 (o_jmp 3))) (o_iinc 3 1 (o_jmp 1)))))
def B61_3 (orc : Orc) : K := o_iload 5 (o_aload 0 (o_getR 5 5 (o_iload 3 (o_iald 0 (o_igt (o_iinc 4 1 (o_jmp 2)) (o_aload 0 (o_getR 5 4 (o_iload 3 (o_iald 0 (o_iconst 3 (o_ieq (o_jmp 4) (o_iload 4 (o_iload 5 (o_i2 (fun x y => x + y) (o_aload 0 (o_getI 5 0 (o_igt (o_iconst 0 (o_jmp 5)) (o_jmp 4))))))))))))))))))
def B61_4 (orc : Orc) : K := o_iconst 1 (o_jmp 5)
def B61_5 (orc : Orc) : K := o_istore 6 (o_iload 6 (o_if0 (o_jmp 6) (o_aload 0 (o_iload 3 (o_iload 4 (o_iload 5 (o_vI orc 62 4 5 (o_if0 (o_jmp 6) (o_iload 2 (o_aload 1 (o_alen (o_ilt (o_aload 1 (o_iload 2 (o_iload 3 (o_iload 4 (o_iload 5 (o_sI orc 0 3 (o_iast 0 (fun x => x) (o_iinc 2 1 (o_jmp 6))))))))) (o_jmp 6)))))))))))))
def B61_6 (orc : Orc) : K := o_iinc 5 1 (o_jmp 3)
def B61_7 (orc : Orc) : K := o_iload 3 (o_aload 0 (o_getI 5 0 (o_ilt (o_aload 0 (o_getI 5 2 (o_ifp (o_iload 2 (o_aload 1 (o_alen (o_ilt (o_aload 1 (o_iload 2 (o_iload 3 (o_sI orc 1 1 (o_iast 0 (fun x => x) (o_iinc 2 1 (o_iinc 3 1 (o_jmp 7)))))))) (o_jmp 8))))) (o_jmp 8)))) (o_jmp 8))))
def B61_8 (orc : Orc) : K := o_iload 2 (o_newa 0 (o_astore 3 (o_aload 1 (o_iconst 0 (o_aload 3 (o_iconst 0 (o_iload 2 (o_copy (o_aload 3 (o_aret))))))))))
def P61 (orc : Orc) (b : Nat) : K := match b with
  | 0 => B61_0 orc
  | 1 => B61_1 orc
  | 2 => B61_2 orc
  | 3 => B61_3 orc
  | 4 => B61_4 orc
  | 5 => B61_5 orc
  | 6 => B61_6 orc
  | 7 => B61_7 orc
  | 8 => B61_8 orc
  | _ => fun _ _ _ => none
def Q61 (b : Nat) : Nat := match b with
  | 0 => 0
  | 1 => 10
  | 2 => 21
  | 3 => 33
  | 4 => 66
  | 5 => 71
  | 6 => 110
  | 7 => 130
  | 8 => 167
  | _ => 0
/-! 62: TruceWall$Truce.isAsTold(III)Z -/
def B62_0 (orc : Orc) : K := o_iload 1 (o_ifn (o_iconst 0 (o_zret)) (o_iload 1 (o_aload 0 (o_getI 5 3 (o_ilt (o_iload 2 (o_ifn (o_iconst 0 (o_zret)) (o_iload 2 (o_aload 0 (o_getI 5 0 (o_ilt (o_aload 0 (o_getR 5 4 (o_iload 1 (o_iald 0 (o_iconst 5 (o_ieq (o_iload 3 (o_iconst 1 (o_ilt (o_iconst 0 (o_zret)) (o_iload 3 (o_aload 0 (o_getR 5 5 (o_iload 1 (o_iald 0 (o_igt (o_iconst 0 (o_zret)) (o_iconst 1 (o_zret))))))))))) (o_aload 0 (o_getR 5 4 (o_iload 1 (o_iald 0 (o_iconst 3 (o_ieq (o_iload 2 (o_aload 0 (o_iload 2 (o_vI orc 63 2 5 (o_ieq (o_iconst 1 (o_jmp 2)) (o_jmp 1)))))) (o_jmp 1))))))))))))) (o_iconst 0 (o_zret)))))))) (o_iconst 0 (o_zret)))))))
def B62_1 (orc : Orc) : K := o_iconst 0 (o_jmp 2)
def B62_2 (orc : Orc) : K := o_istore 4 (o_iload 3 (o_aload 0 (o_getR 5 5 (o_iload 1 (o_iald 0 (o_ieq (o_iload 4 (o_if0 (o_iconst 1 (o_zret)) (o_iconst 0 (o_zret)))) (o_iconst 0 (o_zret))))))))
def P62 (orc : Orc) (b : Nat) : K := match b with
  | 0 => B62_0 orc
  | 1 => B62_1 orc
  | 2 => B62_2 orc
  | _ => fun _ _ _ => none
def Q62 (b : Nat) : Nat := match b with
  | 0 => 0
  | 1 => 80
  | 2 => 81
  | _ => 0
/-! 63: TruceWall$Truce.twinOf(I)I -/
def B63_0 (orc : Orc) : K := o_aload 0 (o_getI 5 0 (o_iconst 1 (o_i2 (fun x y => x - y) (o_iload 1 (o_i2 (fun x y => x - y) (o_iret))))))
def P63 (orc : Orc) (b : Nat) : K := match b with
  | 0 => B63_0 orc
  | _ => fun _ _ _ => none
def Q63 (b : Nat) : Nat := match b with
  | 0 => 0
  | _ => 0
/-! 64: TruceWall$Truce.stoneHindrance(JIII)I -/
def B64_0 (orc : Orc) : K := o_aload 0 (o_getR 5 4 (o_iload 3 (o_iald 0 (o_istore 6 (o_iload 6 (o_iconst 3 (o_ieq (o_aload 0 (o_lload 1 (o_iload 4 (o_vI orc 65 3 5 (o_iret))))) (o_iload 4 (o_iload 5 (o_i2 (fun x y => x + y) (o_aload 0 (o_getI 5 0 (o_igt (o_iconst 3 (o_iret)) (o_iconst 1 (o_iconst 4 (o_iload 5 (o_i2 (fun x y => x * y) (o_i2 (fun x y => x <<< (y &&& 31)) (o_iconst 1 (o_i2 (fun x y => x - y) (o_istore 7 (o_lload 1 (o_iconst 4 (o_iload 4 (o_i2 (fun x y => x * y) (o_lsh (fun x y => (x.toUInt64 >>> (y.toInt64.toUInt64 &&& Int64.toUInt64 63)).toInt64) (o_l2i (o_iload 7 (o_i2 (fun x y => x &&& y) (o_istore 8 (o_iload 8 (o_iconst 34952 (o_i2 (fun x y => x &&& y) (o_if0 (o_iload 8 (o_iconst 15 (o_i2 (fun x y => x &&& y) (o_istore 9 (o_iload 8 (o_iload 9 (o_iconst 4369 (o_i2 (fun x y => x * y) (o_iload 7 (o_i2 (fun x y => x &&& y) (o_ieq (o_iconst 1 (o_jmp 1)) (o_iconst 0 (o_jmp 1))))))))))))) (o_iconst 4 (o_iret))))))))))))))))))))))))))))))))))))
def B64_1 (orc : Orc) : K := o_istore 10 (o_iload 6 (o_iconst 2 (o_ieq (o_aload 0 (o_lload 1 (o_iload 4 (o_iload 9 (o_vI orc 66 4 5 (o_istore 10 (o_jmp 2))))))) (o_iload 6 (o_iconst 1 (o_ieq (o_iload 8 (o_iload 9 (o_iload 5 (o_sI orc 67 3 (o_istore 10 (o_jmp 2)))))) (o_jmp 2)))))))
def B64_2 (orc : Orc) : K := o_iload 10 (o_if0 (o_iconst 5 (o_iret)) (o_iload 9 (o_aload 0 (o_getI 5 1 (o_ilt (o_iconst 0 (o_iret)) (o_iconst 6 (o_iret)))))))
def P64 (orc : Orc) (b : Nat) : K := match b with
  | 0 => B64_0 orc
  | 1 => B64_1 orc
  | 2 => B64_2 orc
  | _ => fun _ _ _ => none
def Q64 (b : Nat) : Nat := match b with
  | 0 => 0
  | 1 => 94
  | 2 => 133
  | _ => 0
/-! 65: TruceWall$Truce.twinHindrance(JI)I -/
def B65_0 (orc : Orc) : K := o_aload 0 (o_iload 3 (o_vI orc 63 2 5 (o_istore 4 (o_lload 1 (o_iload 3 (o_sI orc 58 2 (o_iconst (-1) (o_ieq (o_lload 1 (o_iload 4 (o_sI orc 58 2 (o_iconst (-1) (o_ieq (o_lload 1 (o_iload 3 (o_sI orc 57 2 (o_aload 0 (o_getI 5 1 (o_ilt (o_lload 1 (o_iload 4 (o_sI orc 57 2 (o_aload 0 (o_getI 5 1 (o_ilt (o_iconst 0 (o_iret)) (o_iconst 6 (o_iret)))))))) (o_iconst 6 (o_iret)))))))) (o_iconst 4 (o_iret))))))) (o_iconst 4 (o_iret))))))))))
def P65 (orc : Orc) (b : Nat) : K := match b with
  | 0 => B65_0 orc
  | _ => fun _ _ _ => none
def Q65 (b : Nat) : Nat := match b with
  | 0 => 0
  | _ => 0
/-! 66: TruceWall$Truce.roundStands(JII)Z -/
def B66_0 (orc : Orc) : K := o_iload 3 (o_iconst 1 (o_i2 (fun x y => x - y) (o_istore 5 (o_jmp 1))))
def B66_1 (orc : Orc) : K := o_iload 5 (o_iload 3 (o_iconst 1 (o_i2 (fun x y => x + y) (o_igt (o_iconst 1 (o_zret)) (o_iload 5 (o_ifn (o_jmp 2) (o_iload 5 (o_aload 0 (o_getI 5 0 (o_ilt (o_lload 1 (o_iload 5 (o_sI orc 58 2 (o_iconst (-1) (o_ieq (o_iconst 1 (o_jmp 3)) (o_jmp 2)))))) (o_jmp 2)))))))))))
def B66_2 (orc : Orc) : K := o_iconst 0 (o_jmp 3)
def B66_3 (orc : Orc) : K := o_istore 6 (o_iload 6 (o_if0 (o_jmp 4) (o_lload 1 (o_iload 5 (o_sI orc 57 2 (o_iload 4 (o_igt (o_jmp 4) (o_iconst 0 (o_zret)))))))))
def B66_4 (orc : Orc) : K := o_iinc 5 2 (o_jmp 1)
def P66 (orc : Orc) (b : Nat) : K := match b with
  | 0 => B66_0 orc
  | 1 => B66_1 orc
  | 2 => B66_2 orc
  | 3 => B66_3 orc
  | 4 => B66_4 orc
  | _ => fun _ _ _ => none
def Q66 (b : Nat) : Nat := match b with
  | 0 => 0
  | 1 => 5
  | 2 => 41
  | 3 => 42
  | 4 => 62
  | _ => 0
/-! 67: TruceWall$Truce.bridgeStands(III)Z -/
def B67_0 (orc : Orc) : K := o_iconst 1 (o_istore 3 (o_jmp 1))
def B67_1 (orc : Orc) : K := o_iload 3 (o_iload 2 (o_iconst 1 (o_i2 (fun x y => x - y) (o_ilt (o_iload 0 (o_iconst 4 (o_iload 3 (o_i2 (fun x y => x * y) (o_i2 (fun x y => x >>> (y &&& 31)) (o_iconst 15 (o_i2 (fun x y => x &&& y) (o_iload 1 (o_igt (o_iconst 0 (o_zret)) (o_iinc 3 1 (o_jmp 1))))))))))) (o_iload 0 (o_iconst 4 (o_iload 2 (o_iconst 1 (o_i2 (fun x y => x - y) (o_i2 (fun x y => x * y) (o_i2 (fun x y => x >>> (y &&& 31)) (o_iload 1 (o_ieq (o_iconst 1 (o_zret)) (o_iconst 0 (o_zret)))))))))))))))
def P67 (orc : Orc) (b : Nat) : K := match b with
  | 0 => B67_0 orc
  | 1 => B67_1 orc
  | _ => fun _ _ _ => none
def Q67 (b : Nat) : Nat := match b with
  | 0 => 0
  | 1 => 2
  | _ => 0
/-! 68: TruceWall$Truce.gateHindrance(JII)I -/
def B68_0 (orc : Orc) : K := o_aload 0 (o_lload 1 (o_iload 3 (o_vI orc 69 3 5 (o_if0 (o_iconst 3 (o_iret)) (o_lload 1 (o_iload 4 (o_sI orc 58 2 (o_iconst (-1) (o_ieq (o_lload 1 (o_iload 4 (o_sI orc 57 2 (o_if0 (o_iconst 0 (o_iret)) (o_iconst 5 (o_iret)))))) (o_iconst 4 (o_iret)))))))))))
def P68 (orc : Orc) (b : Nat) : K := match b with
  | 0 => B68_0 orc
  | _ => fun _ _ _ => none
def Q68 (b : Nat) : Nat := match b with
  | 0 => 0
  | _ => 0
/-! 69: TruceWall$Truce.gatesLeft(JI)I -/
def B69_0 (orc : Orc) : K := o_aload 0 (o_getI 5 2 (o_lload 1 (o_iconst 40 (o_iload 3 (o_i2 (fun x y => x + y) (o_lsh (fun x y => (x.toUInt64 >>> (y.toInt64.toUInt64 &&& Int64.toUInt64 63)).toInt64) (o_l2i (o_iconst 1 (o_i2 (fun x y => x &&& y) (o_i2 (fun x y => x - y) (o_iret)))))))))))
def P69 (orc : Orc) (b : Nat) : K := match b with
  | 0 => B69_0 orc
  | _ => fun _ _ _ => none
def Q69 (b : Nat) : Nat := match b with
  | 0 => 0
  | _ => 0
/-! 70: TruceWall$Truce.withGate(JII)J -/
def B70_0 (orc : Orc) : K := o_lload 0 (o_iload 2 (o_iconst 8 (o_iload 3 (o_i2 (fun x y => x + y) (o_sL orc 59 3 (o_lconst 1 (o_iconst 40 (o_iload 3 (o_i2 (fun x y => x + y) (o_lsh (fun x y => x <<< (y.toInt64 &&& 63)) (o_l2 (fun x y => x ||| y) (o_lret))))))))))))
def P70 (orc : Orc) (b : Nat) : K := match b with
  | 0 => B70_0 orc
  | _ => fun _ _ _ => none
def Q70 (b : Nat) : Nat := match b with
  | 0 => 0
  | _ => 0
/-! 71: TruceWall$Truce.canDo(JII)Z -/
def B71_0 (orc : Orc) : K := o_iload 4 (o_sI orc 4 1 (o_istore 5 (o_iload 4 (o_sI orc 2 1 (o_if0 (o_aload 0 (o_lload 1 (o_iload 4 (o_sI orc 3 1 (o_iload 5 (o_iload 4 (o_sI orc 5 1 (o_vI orc 64 5 5 (o_if0 (o_iconst 1 (o_zret)) (o_iconst 0 (o_zret))))))))))) (o_aload 0 (o_lload 1 (o_iload 3 (o_iload 5 (o_vI orc 68 4 5 (o_if0 (o_iconst 1 (o_zret)) (o_iconst 0 (o_zret)))))))))))))
def P71 (orc : Orc) (b : Nat) : K := match b with
  | 0 => B71_0 orc
  | _ => fun _ _ _ => none
def Q71 (b : Nat) : Nat := match b with
  | 0 => 0
  | _ => 0
/-! 72: TruceWall$Truce.gather(JI[I)I -/
def B72_0 (orc : Orc) : K := o_iconst 0 (o_istore 5 (o_iconst 0 (o_istore 6 (o_jmp 1))))
def B72_1 (orc : Orc) : K := o_iload 6 (o_aload 0 (o_getR 5 8 (o_alen (o_ilt (o_iload 5 (o_aload 4 (o_alen (o_ilt (o_aload 0 (o_lload 1 (o_iload 3 (o_aload 0 (o_getR 5 8 (o_iload 6 (o_iald 0 (o_vI orc 71 4 5 (o_if0 (o_jmp 2) (o_aload 4 (o_iload 5 (o_aload 0 (o_getR 5 8 (o_iload 6 (o_iald 0 (o_iast 0 (fun x => x) (o_iinc 5 1 (o_jmp 2)))))))))))))))))) (o_iload 5 (o_iret)))))) (o_iload 5 (o_iret))))))
def B72_2 (orc : Orc) : K := o_iinc 6 1 (o_jmp 1)
def P72 (orc : Orc) (b : Nat) : K := match b with
  | 0 => B72_0 orc
  | 1 => B72_1 orc
  | 2 => B72_2 orc
  | _ => fun _ _ _ => none
def Q72 (b : Nat) : Nat := match b with
  | 0 => 0
  | 1 => 6
  | 2 => 55
  | _ => 0
/-! 73: TruceWall$Truce.after(JII)J -/
def B73_0 (orc : Orc) : K := o_iload 4 (o_sI orc 4 1 (o_istore 5 (o_iload 4 (o_sI orc 2 1 (o_if0 (o_lload 1 (o_iload 5 (o_sI orc 57 2 (o_iconst 1 (o_i2 (fun x y => x + y) (o_istore 6 (o_aload 0 (o_getR 5 4 (o_iload 4 (o_sI orc 3 1 (o_iald 0 (o_iconst 3 (o_ieq (o_aload 0 (o_iload 5 (o_vI orc 63 2 5 (o_istore 7 (o_lload 1 (o_iload 5 (o_iload 6 (o_sL orc 59 3 (o_iload 7 (o_lload 1 (o_iload 7 (o_sI orc 57 2 (o_iconst 1 (o_i2 (fun x y => x + y) (o_sL orc 59 3 (o_lret)))))))))))))))) (o_lload 1 (o_lstore 7 (o_iload 5 (o_istore 9 (o_jmp 1)))))))))))))))))) (o_lload 1 (o_iload 5 (o_iload 3 (o_sL orc 70 3 (o_lret))))))))))
def B73_1 (orc : Orc) : K := o_iload 9 (o_iload 5 (o_iload 4 (o_sI orc 5 1 (o_i2 (fun x y => x + y) (o_ilt (o_lload 7 (o_iload 9 (o_iload 6 (o_sL orc 59 3 (o_lstore 7 (o_iinc 9 1 (o_jmp 1))))))) (o_lload 7 (o_lret)))))))
def P73 (orc : Orc) (b : Nat) : K := match b with
  | 0 => B73_0 orc
  | 1 => B73_1 orc
  | _ => fun _ _ _ => none
def Q73 (b : Nat) : Nat := match b with
  | 0 => 0
  | 1 => 84
  | _ => 0
/-! 74: TruceWall$Truce.isClosed(J)Z -/
def B74_0 (orc : Orc) : K := o_iconst 0 (o_istore 3 (o_jmp 1))
def B74_1 (orc : Orc) : K := o_iload 3 (o_aload 0 (o_getI 5 0 (o_ilt (o_lload 1 (o_iload 3 (o_sI orc 58 2 (o_iconst (-1) (o_ieq (o_lload 1 (o_iload 3 (o_sI orc 57 2 (o_aload 0 (o_getI 5 1 (o_ilt (o_iconst 0 (o_zret)) (o_jmp 2))))))) (o_jmp 2)))))) (o_iconst 1 (o_zret)))))
def B74_2 (orc : Orc) : K := o_iinc 3 1 (o_jmp 1)
def P74 (orc : Orc) (b : Nat) : K := match b with
  | 0 => B74_0 orc
  | 1 => B74_1 orc
  | 2 => B74_2 orc
  | _ => fun _ _ _ => none
def Q74 (b : Nat) : Nat := match b with
  | 0 => 0
  | 1 => 2
  | 2 => 33
  | _ => 0
/-! 75: TruceWall$Truce.payer(JI)I -/
def B75_0 (orc : Orc) : K := o_aload 0 (o_lload 1 (o_vI orc 74 2 5 (o_if0 (o_iload 3 (o_iret)) (o_iconst 1 (o_iload 3 (o_i2 (fun x y => x - y) (o_iret)))))))
def P75 (orc : Orc) (b : Nat) : K := match b with
  | 0 => B75_0 orc
  | _ => fun _ _ _ => none
def Q75 (b : Nat) : Nat := match b with
  | 0 => 0
  | _ => 0
/-! 76: TruceWall$Truce.numberOf(J)I -/
def B76_0 (orc : Orc) : K := o_iconst 0 (o_istore 3 (o_aload 0 (o_getI 5 0 (o_iconst 1 (o_i2 (fun x y => x - y) (o_istore 4 (o_jmp 1)))))))
def B76_1 (orc : Orc) : K := o_iload 4 (o_ifn (o_iload 3 (o_iret)) (o_lload 1 (o_iload 4 (o_sI orc 58 2 (o_istore 5 (o_iload 3 (o_aload 0 (o_getI 5 1 (o_iconst 3 (o_i2 (fun x y => x + y) (o_i2 (fun x y => x * y) (o_iload 5 (o_iconst (-1) (o_ieq (o_lload 1 (o_iload 4 (o_sI orc 57 2 (o_jmp 2)))) (o_aload 0 (o_getI 5 1 (o_iconst 1 (o_i2 (fun x y => x + y) (o_iload 5 (o_i2 (fun x y => x + y) (o_jmp 2)))))))))))))))))))))
def B76_2 (orc : Orc) : K := o_i2 (fun x y => x + y) (o_istore 3 (o_iinc 4 (-1) (o_jmp 1)))
def P76 (orc : Orc) (b : Nat) : K := match b with
  | 0 => B76_0 orc
  | 1 => B76_1 orc
  | 2 => B76_2 orc
  | _ => fun _ _ _ => none
def Q76 (b : Nat) : Nat := match b with
  | 0 => 0
  | 1 => 10
  | 2 => 55
  | _ => 0
/-! 77: TruceWall$Truce.numberOfLooks(J)I -/
def B77_0 (orc : Orc) : K := o_iconst 0 (o_istore 3 (o_aload 0 (o_getI 5 0 (o_iconst 1 (o_i2 (fun x y => x - y) (o_istore 4 (o_jmp 1)))))))
def B77_1 (orc : Orc) : K := o_iload 4 (o_ifn (o_iload 3 (o_iret)) (o_lload 1 (o_iload 4 (o_sI orc 58 2 (o_iconst (-1) (o_ieq (o_iconst 0 (o_jmp 2)) (o_iconst 1 (o_jmp 2))))))))
def B77_2 (orc : Orc) : K := o_istore 5 (o_iload 3 (o_aload 0 (o_getI 5 1 (o_iconst 3 (o_i2 (fun x y => x + y) (o_i2 (fun x y => x * y) (o_iload 5 (o_if0 (o_lload 1 (o_iload 4 (o_sI orc 57 2 (o_jmp 3)))) (o_aload 0 (o_getI 5 1 (o_iconst 1 (o_i2 (fun x y => x + y) (o_jmp 3)))))))))))))
def B77_3 (orc : Orc) : K := o_i2 (fun x y => x + y) (o_istore 3 (o_iinc 4 (-1) (o_jmp 1)))
def P77 (orc : Orc) (b : Nat) : K := match b with
  | 0 => B77_0 orc
  | 1 => B77_1 orc
  | 2 => B77_2 orc
  | 3 => B77_3 orc
  | _ => fun _ _ _ => none
def Q77 (b : Nat) : Nat := match b with
  | 0 => 0
  | 1 => 10
  | 2 => 30
  | 3 => 60
  | _ => 0
/-! 78: TruceWall$Truce.wallOf(I)J -/
def B78_0 (orc : Orc) : K := o_lconst 0 (o_lstore 2 (o_iload 1 (o_istore 4 (o_iconst 0 (o_istore 5 (o_jmp 1))))))
def B78_1 (orc : Orc) : K := o_iload 5 (o_aload 0 (o_getI 5 0 (o_ilt (o_iload 4 (o_aload 0 (o_getI 5 1 (o_iconst 3 (o_i2 (fun x y => x + y) (o_i2z (fun x y => x - x / y * y) (o_istore 6 (o_iload 4 (o_aload 0 (o_getI 5 1 (o_iconst 3 (o_i2 (fun x y => x + y) (o_i2z (fun x y => x / y) (o_istore 4 (o_iload 6 (o_aload 0 (o_getI 5 1 (o_igt (o_iconst 1 (o_jmp 2)) (o_iconst 0 (o_jmp 2)))))))))))))))))))) (o_lload 2 (o_lret)))))
def B78_2 (orc : Orc) : K := o_istore 7 (o_iload 7 (o_if0 (o_lload 2 (o_iload 5 (o_iload 6 (o_sL orc 59 3 (o_jmp 3))))) (o_lload 2 (o_iload 5 (o_iload 6 (o_aload 0 (o_getI 5 1 (o_i2 (fun x y => x - y) (o_iconst 1 (o_i2 (fun x y => x - y) (o_sL orc 70 3 (o_jmp 3))))))))))))
def B78_3 (orc : Orc) : K := o_lstore 2 (o_iinc 5 1 (o_jmp 1))
def P78 (orc : Orc) (b : Nat) : K := match b with
  | 0 => B78_0 orc
  | 1 => B78_1 orc
  | 2 => B78_2 orc
  | 3 => B78_3 orc
  | _ => fun _ _ _ => none
def Q78 (b : Nat) : Nat := match b with
  | 0 => 0
  | 1 => 8
  | 2 => 53
  | 3 => 86
  | _ => 0
/-! 79: TruceWall$Truce.manyNumbers()I -/
def B79_0 (orc : Orc) : K := o_aload 0 (o_getI 5 1 (o_iconst 3 (o_i2 (fun x y => x + y) (o_aload 0 (o_getI 5 0 (o_sI orc 60 2 (o_iret)))))))
def P79 (orc : Orc) (b : Nat) : K := match b with
  | 0 => B79_0 orc
  | _ => fun _ _ _ => none
def Q79 (b : Nat) : Nat := match b with
  | 0 => 0
  | _ => 0
/-! 80: TruceWall$Ways.<init>()V -/
def B80_0 (orc : Orc) : K := o_aload 0 (o_obj (o_aload 0 (o_iconst 3125 (o_newa 0 (o_putR 6 0 (o_vret))))))
def P80 (orc : Orc) (b : Nat) : K := match b with
  | 0 => B80_0 orc
  | _ => fun _ _ _ => none
def Q80 (b : Nat) : Nat := match b with
  | 0 => 0
  | _ => 0
/-! 81: TruceWall$Ways.spread(LTruceWall$Truce;JIIZ)V -/
def B81_0 (orc : Orc) : K := o_iconst 0 (o_istore 7 (o_jmp 1))
def B81_1 (orc : Orc) : K := o_iload 7 (o_aload 0 (o_getR 6 0 (o_alen (o_ilt (o_aload 0 (o_getR 6 0 (o_iload 7 (o_iconst 0 (o_iast 0 (fun x => x) (o_iinc 7 1 (o_jmp 1))))))) (o_aload 1 (o_lload 2 (o_vI orc 76 2 5 (o_istore 7 (o_iload 7 (o_aload 0 (o_getR 6 0 (o_alen (o_ilt (o_aload 0 (o_getR 6 0 (o_iload 7 (o_iconst 1 (o_iast 0 (fun x => x) (o_iconst 1 (o_istore 8 (o_iconst 0 (o_istore 9 (o_jmp 2)))))))))) (o_vret))))))))))))))
def B81_2 (orc : Orc) : K := o_iload 9 (o_iload 5 (o_ilt (o_iload 8 (o_if0 (o_vret) (o_aload 0 (o_aload 1 (o_iload 4 (o_iload 9 (o_i2 (fun x y => x + y) (o_iconst 1 (o_i2 (fun x y => x &&& y) (o_iload 6 (o_vI orc 82 4 6 (o_istore 8 (o_iinc 9 1 (o_jmp 2)))))))))))))) (o_vret)))
def P81 (orc : Orc) (b : Nat) : K := match b with
  | 0 => B81_0 orc
  | 1 => B81_1 orc
  | 2 => B81_2 orc
  | _ => fun _ _ _ => none
def Q81 (b : Nat) : Nat := match b with
  | 0 => 0
  | 1 => 3
  | 2 => 59
  | _ => 0
/-! 82: TruceWall$Ways.spreadDay(LTruceWall$Truce;IZ)Z -/
def B82_0 (orc : Orc) : K := o_iconst 0 (o_istore 4 (o_aload 0 (o_getR 6 0 (o_alen (o_aload 1 (o_vI orc 79 1 5 (o_min (o_iconst 1 (o_i2 (fun x y => x - y) (o_istore 5 (o_jmp 1)))))))))))
def B82_1 (orc : Orc) : K := o_iload 5 (o_ifn (o_iload 4 (o_zret)) (o_aload 0 (o_getR 6 0 (o_iload 5 (o_iald 0 (o_if0 (o_jmp 2) (o_aload 0 (o_getR 6 0 (o_iload 5 (o_iald 0 (o_istore 6 (o_aload 0 (o_getR 6 0 (o_iload 5 (o_iconst 0 (o_iast 0 (fun x => x) (o_aload 0 (o_aload 1 (o_aload 1 (o_iload 5 (o_vL orc 78 2 5 (o_iload 2 (o_iload 6 (o_iload 3 (o_vV orc 83 6 6 (o_iconst 1 (o_istore 4 (o_jmp 2))))))))))))))))))))))))))))
def B82_2 (orc : Orc) : K := o_iinc 5 (-1) (o_jmp 1)
def P82 (orc : Orc) (b : Nat) : K := match b with
  | 0 => B82_0 orc
  | 1 => B82_1 orc
  | 2 => B82_2 orc
  | _ => fun _ _ _ => none
def Q82 (b : Nat) : Nat := match b with
  | 0 => 0
  | 1 => 19
  | 2 => 69
  | _ => 0
/-! 83: TruceWall$Ways.spreadWall(LTruceWall$Truce;JIIZ)V -/
def B83_0 (orc : Orc) : K := o_iconst 0 (o_istore 7 (o_jmp 1))
def B83_1 (orc : Orc) : K := o_iload 7 (o_aload 1 (o_getR 5 8 (o_alen (o_ilt (o_aload 1 (o_getR 5 8 (o_iload 7 (o_iald 0 (o_istore 8 (o_aload 1 (o_lload 2 (o_iload 4 (o_iload 8 (o_vI orc 71 4 5 (o_if0 (o_jmp 3) (o_aload 1 (o_aload 1 (o_lload 2 (o_iload 4 (o_iload 8 (o_vL orc 73 4 5 (o_vI orc 76 2 5 (o_istore 9 (o_iload 9 (o_aload 0 (o_getR 6 0 (o_alen (o_ilt (o_aload 0 (o_getR 6 0 (o_iload 9 (o_iload 6 (o_if0 (o_iconst 1 (o_jmp 2)) (o_aload 0 (o_getR 6 0 (o_iload 9 (o_iald 0 (o_i2l (o_iload 5 (o_i2l (o_l2 (fun x y => x + y) (o_lconst 1000000007 (o_l2z (fun x y => x - x / y * y) (o_l2i (o_jmp 2))))))))))))))))) (o_jmp 3))))))))))))))))))))))))) (o_vret)))))
def B83_2 (orc : Orc) : K := o_iast 0 (fun x => x) (o_jmp 3)
def B83_3 (orc : Orc) : K := o_iinc 7 1 (o_jmp 1)
def P83 (orc : Orc) (b : Nat) : K := match b with
  | 0 => B83_0 orc
  | 1 => B83_1 orc
  | 2 => B83_2 orc
  | 3 => B83_3 orc
  | _ => fun _ _ _ => none
def Q83 (b : Nat) : Nat := match b with
  | 0 => 0
  | 1 => 3
  | 2 => 91
  | 3 => 92
  | _ => 0
/-! 84: TruceWall$Ways.unlikeWalls(LTruceWall$Truce;)I -/
def B84_0 (orc : Orc) : K := o_iconst 0 (o_istore 2 (o_aload 0 (o_getR 6 0 (o_alen (o_iconst 1 (o_i2 (fun x y => x - y) (o_istore 3 (o_jmp 1))))))))
def B84_1 (orc : Orc) : K := o_iload 3 (o_ifn (o_iload 2 (o_iret)) (o_aload 0 (o_getR 6 0 (o_iload 3 (o_iald 0 (o_if0 (o_jmp 2) (o_aload 1 (o_aload 1 (o_iload 3 (o_vL orc 78 2 5 (o_vI orc 77 2 5 (o_istore 4 (o_iload 4 (o_iload 3 (o_ieq (o_iinc 2 1 (o_jmp 2)) (o_iload 4 (o_aload 0 (o_getR 6 0 (o_alen (o_ilt (o_aload 0 (o_getR 6 0 (o_iload 4 (o_iconst 1 (o_iast 0 (fun x => x) (o_jmp 2)))))) (o_jmp 2)))))))))))))))))))))
def B84_2 (orc : Orc) : K := o_iinc 3 (-1) (o_jmp 1)
def P84 (orc : Orc) (b : Nat) : K := match b with
  | 0 => B84_0 orc
  | 1 => B84_1 orc
  | 2 => B84_2 orc
  | _ => fun _ _ _ => none
def Q84 (b : Nat) : Nat := match b with
  | 0 => 0
  | 1 => 10
  | 2 => 64
  | _ => 0
/-! 85: TruceWall$Ways.waysTo(LTruceWall$Truce;J)I -/
def B85_0 (orc : Orc) : K := o_aload 1 (o_lload 2 (o_vI orc 77 2 5 (o_istore 4 (o_lconst 0 (o_lstore 5 (o_iconst 0 (o_istore 7 (o_jmp 1))))))))
def B85_1 (orc : Orc) : K := o_iload 7 (o_aload 0 (o_getR 6 0 (o_alen (o_ilt (o_aload 0 (o_getR 6 0 (o_iload 7 (o_iald 0 (o_if0 (o_jmp 2) (o_aload 1 (o_aload 1 (o_iload 7 (o_vL orc 78 2 5 (o_vI orc 77 2 5 (o_iload 4 (o_ieq (o_lload 5 (o_aload 0 (o_getR 6 0 (o_iload 7 (o_iald 0 (o_i2l (o_l2 (fun x y => x + y) (o_lstore 5 (o_jmp 2))))))))) (o_jmp 2))))))))))))) (o_lload 5 (o_lconst 1000000007 (o_l2z (fun x y => x - x / y * y) (o_l2i (o_iret)))))))))
def B85_2 (orc : Orc) : K := o_iinc 7 1 (o_jmp 1)
def P85 (orc : Orc) (b : Nat) : K := match b with
  | 0 => B85_0 orc
  | 1 => B85_1 orc
  | 2 => B85_2 orc
  | _ => fun _ _ _ => none
def Q85 (b : Nat) : Nat := match b with
  | 0 => 0
  | 1 => 13
  | 2 => 61
  | _ => 0
/-! 86: TruceWall.<init>()V -/
def B86_0 (orc : Orc) : K := o_aload 0 (o_obj (o_aload 0 (o_iconst 1000 (o_newa 2 (o_putR 7 0 (o_aload 0 (o_iconst 0 (o_putI 7 1 (o_aload 0 (o_new 2 (o_dup (o_nV orc 18 1 (o_putR 7 2 (o_aload 0 (o_new 4 (o_dup (o_nV orc 49 1 (o_putR 7 4 (o_aload 0 (o_iconst 4 (o_newa 5 (o_putR 7 5 (o_aload 0 (o_new 1 (o_dup (o_nV orc 8 1 (o_putR 7 6 (o_aload 0 (o_new 1 (o_dup (o_nV orc 8 1 (o_putR 7 7 (o_aload 0 (o_new 6 (o_dup (o_nV orc 80 1 (o_putR 7 8 (o_aload 0 (o_iconst 250 (o_newa 0 (o_putR 7 9 (o_aload 0 (o_iconst 0 (o_putI 7 10 (o_aload 0 (o_iconst 250 (o_newa 0 (o_putR 7 11 (o_aload 0 (o_aload 0 (o_getR 7 2 (o_vR orc 19 1 2 (o_putR 7 3 (o_aload 0 (o_getR 7 4 (o_vV orc 51 1 4 (o_iconst 0 (o_istore 1 (o_jmp 1)))))))))))))))))))))))))))))))))))))))))))))))))))))))))))
def B86_1 (orc : Orc) : K := o_iload 1 (o_aload 0 (o_getR 7 5 (o_alen (o_ilt (o_aload 0 (o_getR 7 5 (o_iload 1 (o_new 0 (o_dup (o_nV orc 6 1 (o_aast (o_iinc 1 1 (o_jmp 1))))))))) (o_aload 0 (o_vV orc 107 1 7 (o_vret)))))))
def P86 (orc : Orc) (b : Nat) : K := match b with
  | 0 => B86_0 orc
  | 1 => B86_1 orc
  | _ => fun _ _ _ => none
def Q86 (b : Nat) : Nat := match b with
  | 0 => 0
  | 1 => 124
  | _ => 0
/-! 87: TruceWall.feed(JJJ)I -/
def B87_0 (orc : Orc) : K := o_aload 0 (o_lload 1 (o_vV orc 106 2 7 (o_aload 0 (o_lload 3 (o_vV orc 106 2 7 (o_aload 0 (o_lload 5 (o_vV orc 106 2 7 (o_aload 0 (o_getI 7 1 (o_iret)))))))))))
def P87 (orc : Orc) (b : Nat) : K := match b with
  | 0 => B87_0 orc
  | _ => fun _ _ _ => none
def Q87 (b : Nat) : Nat := match b with
  | 0 => 0
  | _ => 0
/-! 88: TruceWall.truce()I -/
def B88_0 (orc : Orc) : K := o_aload 0 (o_getR 7 2 (o_aload 0 (o_getR 7 0 (o_aload 0 (o_getI 7 1 (o_vI orc 21 3 2 (o_istore 1 (o_aload 0 (o_iconst 0 (o_putI 7 1 (o_iload 1 (o_if0 (o_aload 0 (o_aload 0 (o_getR 7 2 (o_vR orc 19 1 2 (o_putR 7 3 (o_aload 0 (o_getR 7 4 (o_vV orc 51 1 4 (o_aload 0 (o_vV orc 107 1 7 (o_iload 1 (o_iret)))))))))))) (o_iload 1 (o_iret))))))))))))))
def P88 (orc : Orc) (b : Nat) : K := match b with
  | 0 => B88_0 orc
  | _ => fun _ _ _ => none
def Q88 (b : Nat) : Nat := match b with
  | 0 => 0
  | _ => 0
/-! 89: TruceWall.stone(II)I -/
def B89_0 (orc : Orc) : K := o_iload 1 (o_ifn (o_iconst (-1) (o_iret)) (o_iload 1 (o_aload 0 (o_getR 7 3 (o_getI 5 3 (o_ilt (o_iload 2 (o_sw [(0, o_aload 0 (o_getR 7 3 (o_getR 5 4 (o_iload 1 (o_iald 0 (o_iret)))))), (1, o_aload 0 (o_getR 7 3 (o_getR 5 5 (o_iload 1 (o_iald 0 (o_iret))))))] (o_iconst (-1) (o_iret)))) (o_iconst (-1) (o_iret))))))))
def P89 (orc : Orc) (b : Nat) : K := match b with
  | 0 => B89_0 orc
  | _ => fun _ _ _ => none
def Q89 (b : Nat) : Nat := match b with
  | 0 => 0
  | _ => 0
/-! 90: TruceWall.set(III)I -/
def B90_0 (orc : Orc) : K := o_aload 0 (o_iload 1 (o_iload 2 (o_iload 3 (o_vI orc 92 4 7 (o_istore 4 (o_iload 4 (o_if0 (o_aload 0 (o_getR 7 4 (o_aload 0 (o_getR 7 3 (o_iload 1 (o_iload 2 (o_iload 3 (o_sI orc 0 3 (o_vV orc 54 3 4 (o_aload 0 (o_vV orc 107 1 7 (o_iload 4 (o_iret))))))))))))) (o_iload 4 (o_iret)))))))))
def P90 (orc : Orc) (b : Nat) : K := match b with
  | 0 => B90_0 orc
  | _ => fun _ _ _ => none
def Q90 (b : Nat) : Nat := match b with
  | 0 => 0
  | _ => 0
/-! 91: TruceWall.leave(I)I -/
def B91_0 (orc : Orc) : K := o_aload 0 (o_iload 1 (o_vI orc 109 2 7 (o_istore 2 (o_iload 2 (o_if0 (o_aload 0 (o_getR 7 4 (o_aload 0 (o_getR 7 3 (o_iload 1 (o_sI orc 1 1 (o_vV orc 54 3 4 (o_aload 0 (o_vV orc 107 1 7 (o_iload 2 (o_iret))))))))))) (o_iload 2 (o_iret)))))))
def P91 (orc : Orc) (b : Nat) : K := match b with
  | 0 => B91_0 orc
  | _ => fun _ _ _ => none
def Q91 (b : Nat) : Nat := match b with
  | 0 => 0
  | _ => 0
/-! 92: TruceWall.fits(III)I -/
def B92_0 (orc : Orc) : K := o_aload 0 (o_getR 7 3 (o_iload 1 (o_iload 2 (o_iload 3 (o_vI orc 62 4 5 (o_if0 (o_iconst 1 (o_iret)) (o_aload 0 (o_vI orc 108 1 7 (o_if0 (o_aload 0 (o_getR 7 3 (o_aload 0 (o_getR 7 4 (o_getL 4 2 (o_iload 1 (o_iload 2 (o_iload 3 (o_vI orc 64 5 5 (o_iret)))))))))) (o_iconst 2 (o_iret)))))))))))
def P92 (orc : Orc) (b : Nat) : K := match b with
  | 0 => B92_0 orc
  | _ => fun _ _ _ => none
def Q92 (b : Nat) : Nat := match b with
  | 0 => 0
  | _ => 0
/-! 93: TruceWall.undo()Z -/
def B93_0 (orc : Orc) : K := o_aload 0 (o_getR 7 4 (o_getI 4 1 (o_if0 (o_iconst 0 (o_zret)) (o_aload 0 (o_getR 7 4 (o_aload 0 (o_getR 7 3 (o_aload 0 (o_getR 7 4 (o_getI 4 1 (o_iconst 1 (o_i2 (fun x y => x - y) (o_vV orc 53 3 4 (o_aload 0 (o_vV orc 107 1 7 (o_iconst 1 (o_zret)))))))))))))))))
def P93 (orc : Orc) (b : Nat) : K := match b with
  | 0 => B93_0 orc
  | _ => fun _ _ _ => none
def Q93 (b : Nat) : Nat := match b with
  | 0 => 0
  | _ => 0
/-! 94: TruceWall.column(II)I -/
def B94_0 (orc : Orc) : K := o_iload 1 (o_ifn (o_iconst (-1) (o_iret)) (o_iload 1 (o_aload 0 (o_getR 7 3 (o_getI 5 0 (o_ilt (o_iload 2 (o_sw [(0, o_aload 0 (o_getR 7 4 (o_getL 4 2 (o_iload 1 (o_sI orc 57 2 (o_iret)))))), (1, o_aload 0 (o_getR 7 4 (o_getL 4 2 (o_iload 1 (o_sI orc 58 2 (o_iret)))))), (2, o_aload 0 (o_getR 7 4 (o_getR 4 5 (o_iload 1 (o_iald 0 (o_iret)))))), (3, o_aload 0 (o_getR 7 4 (o_getR 4 6 (o_iload 1 (o_iald 0 (o_iret))))))] (o_iconst (-1) (o_iret)))) (o_iconst (-1) (o_iret))))))))
def P94 (orc : Orc) (b : Nat) : K := match b with
  | 0 => B94_0 orc
  | _ => fun _ _ _ => none
def Q94 (b : Nat) : Nat := match b with
  | 0 => 0
  | _ => 0
/-! 95: TruceWall.act(II)I -/
def B95_0 (orc : Orc) : K := o_iload 1 (o_ifn (o_iconst (-1) (o_iret)) (o_iload 1 (o_aload 0 (o_getI 7 10 (o_ilt (o_aload 0 (o_getR 7 9 (o_iload 1 (o_iald 0 (o_istore 3 (o_iload 2 (o_sw [(0, o_iload 3 (o_sI orc 2 1 (o_if0 (o_iload 3 (o_sI orc 3 1 (o_iret))) (o_iconst (-2) (o_iret))))), (1, o_iload 3 (o_sI orc 4 1 (o_iret))), (2, o_iload 3 (o_sI orc 2 1 (o_if0 (o_iload 3 (o_sI orc 5 1 (o_iret))) (o_iconst 0 (o_iret)))))] (o_iconst (-1) (o_iret))))))))) (o_iconst (-1) (o_iret)))))))
def P95 (orc : Orc) (b : Nat) : K := match b with
  | 0 => B95_0 orc
  | _ => fun _ _ _ => none
def Q95 (b : Nat) : Nat := match b with
  | 0 => 0
  | _ => 0
/-! 96: TruceWall.pays()I -/
def B96_0 (orc : Orc) : K := o_aload 0 (o_getR 7 3 (o_getI 5 7 (o_if0 (o_iconst (-1) (o_iret)) (o_aload 0 (o_vI orc 110 1 7 (o_sI orc 9 1 (o_iret)))))))
def P96 (orc : Orc) (b : Nat) : K := match b with
  | 0 => B96_0 orc
  | _ => fun _ _ _ => none
def Q96 (b : Nat) : Nat := match b with
  | 0 => 0
  | _ => 0
/-! 97: TruceWall.days()I -/
def B97_0 (orc : Orc) : K := o_aload 0 (o_getR 7 3 (o_getI 5 7 (o_if0 (o_iconst (-1) (o_iret)) (o_aload 0 (o_vI orc 110 1 7 (o_sI orc 10 1 (o_iret)))))))
def P97 (orc : Orc) (b : Nat) : K := match b with
  | 0 => B97_0 orc
  | _ => fun _ _ _ => none
def Q97 (b : Nat) : Nat := match b with
  | 0 => 0
  | _ => 0
/-! 98: TruceWall.best()I -/
def B98_0 (orc : Orc) : K := o_aload 0 (o_getR 7 3 (o_getI 5 7 (o_if0 (o_iconst (-1) (o_iret)) (o_iconst (-1) (o_istore 1 (o_iconst (-1) (o_istore 2 (o_iconst 0 (o_istore 3 (o_jmp 1))))))))))
def B98_1 (orc : Orc) : K := o_iload 3 (o_aload 0 (o_getI 7 10 (o_ilt (o_aload 0 (o_aload 0 (o_getR 7 9 (o_iload 3 (o_iald 0 (o_vI orc 111 2 7 (o_aload 0 (o_getR 7 4 (o_vI orc 50 1 4 (o_sI orc 12 2 (o_istore 4 (o_iload 4 (o_iload 2 (o_igt (o_iload 4 (o_istore 2 (o_iload 3 (o_istore 1 (o_jmp 2))))) (o_jmp 2))))))))))))))) (o_iload 1 (o_iret)))))
def B98_2 (orc : Orc) : K := o_iinc 3 1 (o_jmp 1)
def P98 (orc : Orc) (b : Nat) : K := match b with
  | 0 => B98_0 orc
  | 1 => B98_1 orc
  | 2 => B98_2 orc
  | _ => fun _ _ _ => none
def Q98 (b : Nat) : Nat := match b with
  | 0 => 0
  | 1 => 18
  | 2 => 59
  | _ => 0
/-! 99: TruceWall.holds(I)I -/
def B99_0 (orc : Orc) : K := o_iload 1 (o_ifn (o_iconst (-1) (o_iret)) (o_iload 1 (o_aload 0 (o_getI 7 10 (o_ilt (o_aload 0 (o_getR 7 3 (o_getI 5 7 (o_if0 (o_iconst (-1) (o_iret)) (o_aload 0 (o_aload 0 (o_getR 7 9 (o_iload 1 (o_iald 0 (o_vI orc 111 2 7 (o_sI orc 10 1 (o_iret)))))))))))) (o_iconst (-1) (o_iret)))))))
def P99 (orc : Orc) (b : Nat) : K := match b with
  | 0 => B99_0 orc
  | _ => fun _ _ _ => none
def Q99 (b : Nat) : Nat := match b with
  | 0 => 0
  | _ => 0
/-! 100: TruceWall.mason(II)I -/
def B100_0 (orc : Orc) : K := o_iload 1 (o_ifn (o_iconst (-1) (o_iret)) (o_iload 1 (o_iconst 1 (o_igt (o_iconst (-1) (o_iret)) (o_iload 2 (o_ifn (o_iconst (-1) (o_iret)) (o_iload 2 (o_iconst 2 (o_igt (o_iconst (-1) (o_iret)) (o_aload 0 (o_getR 7 3 (o_getI 5 7 (o_if0 (o_iconst (-1) (o_iret)) (o_aload 0 (o_getR 7 7 (o_aload 0 (o_getR 7 3 (o_iload 1 (o_iload 2 (o_vV orc 13 4 1 (o_aload 0 (o_getR 7 7 (o_aload 0 (o_getR 7 4 (o_getL 4 2 (o_aload 0 (o_getR 7 4 (o_vI orc 50 1 4 (o_iconst 0 (o_vI orc 14 4 1 (o_sI orc 9 1 (o_iret))))))))))))))))))))))))))))))))
def P100 (orc : Orc) (b : Nat) : K := match b with
  | 0 => B100_0 orc
  | _ => fun _ _ _ => none
def Q100 (b : Nat) : Nat := match b with
  | 0 => 0
  | _ => 0
/-! 101: TruceWall.reached(I)I -/
def B101_0 (orc : Orc) : K := o_iload 1 (o_ifn (o_iconst (-1) (o_iret)) (o_iload 1 (o_iconst 30 (o_igt (o_iconst (-1) (o_iret)) (o_aload 0 (o_getR 7 3 (o_getI 5 7 (o_if0 (o_iconst (-1) (o_iret)) (o_aload 0 (o_getR 7 8 (o_aload 0 (o_getR 7 3 (o_aload 0 (o_getR 7 4 (o_getL 4 2 (o_aload 0 (o_getR 7 4 (o_vI orc 50 1 4 (o_iload 1 (o_iconst 0 (o_vV orc 81 6 6 (o_aload 0 (o_getR 7 8 (o_aload 0 (o_getR 7 3 (o_vI orc 84 2 6 (o_iret)))))))))))))))))))))))))))
def P101 (orc : Orc) (b : Nat) : K := match b with
  | 0 => B101_0 orc
  | _ => fun _ _ _ => none
def Q101 (b : Nat) : Nat := match b with
  | 0 => 0
  | _ => 0
/-! 102: TruceWall.histories(I)I -/
def B102_0 (orc : Orc) : K := o_iload 1 (o_ifn (o_iconst (-1) (o_iret)) (o_iload 1 (o_iconst 30 (o_igt (o_iconst (-1) (o_iret)) (o_aload 0 (o_getR 7 3 (o_getI 5 7 (o_if0 (o_iconst (-1) (o_iret)) (o_aload 0 (o_getR 7 8 (o_aload 0 (o_getR 7 3 (o_lconst 0 (o_iconst 0 (o_iload 1 (o_iconst 1 (o_vV orc 81 6 6 (o_aload 0 (o_getR 7 8 (o_aload 0 (o_getR 7 3 (o_aload 0 (o_getR 7 4 (o_getL 4 2 (o_vI orc 85 3 6 (o_iret))))))))))))))))))))))))))
def P102 (orc : Orc) (b : Nat) : K := match b with
  | 0 => B102_0 orc
  | _ => fun _ _ _ => none
def Q102 (b : Nat) : Nat := match b with
  | 0 => 0
  | _ => 0
/-! 103: TruceWall.lots(III)I -/
def B103_0 (orc : Orc) : K := o_iload 1 (o_ifn (o_iconst (-1) (o_iret)) (o_iload 1 (o_iconst 9999 (o_igt (o_iconst (-1) (o_iret)) (o_iload 2 (o_iconst 1 (o_ilt (o_iconst (-1) (o_iret)) (o_iload 2 (o_iconst 100 (o_igt (o_iconst (-1) (o_iret)) (o_iload 3 (o_ifn (o_iconst (-1) (o_iret)) (o_iload 3 (o_iconst 1 (o_igt (o_iconst (-1) (o_iret)) (o_iload 1 (o_i2l (o_lstore 4 (o_iconst 0 (o_istore 6 (o_iconst 0 (o_istore 7 (o_iconst 0 (o_istore 8 (o_jmp 1)))))))))))))))))))))))))
def B103_1 (orc : Orc) : K := o_iload 8 (o_iload 2 (o_ilt (o_aload 0 (o_getR 7 4 (o_getL 4 2 (o_lstore 9 (o_aload 0 (o_getR 7 4 (o_vI orc 50 1 4 (o_istore 11 (o_aload 0 (o_getR 7 3 (o_lload 9 (o_iload 11 (o_aload 0 (o_getR 7 11 (o_vI orc 72 4 5 (o_istore 12 (o_iconst 0 (o_istore 13 (o_jmp 2))))))))))))))))))) (o_iload 3 (o_if0 (o_iload 6 (o_iret)) (o_iload 7 (o_iret))))))
def B103_2 (orc : Orc) : K := o_iload 13 (o_iconst 60 (o_ilt (o_iload 12 (o_ifp (o_lload 4 (o_lconst 1103515245 (o_l2 (fun x y => x * y) (o_lconst 12345 (o_l2 (fun x y => x + y) (o_lconst 2147483648 (o_l2z (fun x y => x - x / y * y) (o_lstore 4 (o_aload 0 (o_getR 7 3 (o_lload 9 (o_iload 11 (o_aload 0 (o_getR 7 11 (o_lload 4 (o_lconst 65536 (o_l2z (fun x y => x / y) (o_iload 12 (o_i2l (o_l2z (fun x y => x - x / y * y) (o_l2i (o_iald 0 (o_vL orc 73 4 5 (o_lstore 9 (o_iconst 1 (o_iload 11 (o_i2 (fun x y => x - y) (o_istore 11 (o_iinc 7 1 (o_aload 0 (o_getR 7 3 (o_lload 9 (o_iload 11 (o_aload 0 (o_getR 7 11 (o_vI orc 72 4 5 (o_istore 12 (o_iinc 13 1 (o_jmp 2))))))))))))))))))))))))))))))))))))))) (o_jmp 3))) (o_jmp 3)))
def B103_3 (orc : Orc) : K := o_iload 6 (o_aload 0 (o_getR 7 3 (o_lload 9 (o_iload 11 (o_vI orc 75 3 5 (o_if0 (o_iconst 1 (o_jmp 4)) (o_iconst 0 (o_jmp 4))))))))
def B103_4 (orc : Orc) : K := o_i2 (fun x y => x + y) (o_istore 6 (o_iinc 8 1 (o_jmp 1)))
def P103 (orc : Orc) (b : Nat) : K := match b with
  | 0 => B103_0 orc
  | 1 => B103_1 orc
  | 2 => B103_2 orc
  | 3 => B103_3 orc
  | 4 => B103_4 orc
  | _ => fun _ _ _ => none
def Q103 (b : Nat) : Nat := match b with
  | 0 => 0
  | 1 => 46
  | 2 => 90
  | 3 => 179
  | 4 => 200
  | _ => 0
/-! 104: TruceWall.mark(IZ)Z -/
def B104_0 (orc : Orc) : K := o_iload 1 (o_ifn (o_iconst 0 (o_zret)) (o_iload 1 (o_aload 0 (o_getR 7 5 (o_alen (o_ilt (o_aload 0 (o_getR 7 5 (o_iload 1 (o_aald (o_astore 3 (o_iload 2 (o_if0 (o_aload 3 (o_aload 0 (o_getR 7 3 (o_aload 0 (o_getR 7 4 (o_vV orc 7 3 0 (o_iconst 1 (o_zret)))))))) (o_aload 3 (o_getR 0 0 (o_ifnull (o_iconst 0 (o_zret)) (o_aload 0 (o_aload 3 (o_getR 0 0 (o_putR 7 3 (o_aload 0 (o_getR 7 4 (o_aload 3 (o_getR 0 1 (o_vV orc 52 2 4 (o_aload 0 (o_getR 7 4 (o_aload 0 (o_getR 7 3 (o_aload 3 (o_getI 0 2 (o_vV orc 53 3 4 (o_aload 0 (o_vV orc 107 1 7 (o_iconst 1 (o_zret)))))))))))))))))))))))))))))) (o_iconst 0 (o_zret))))))))
def P104 (orc : Orc) (b : Nat) : K := match b with
  | 0 => B104_0 orc
  | _ => fun _ _ _ => none
def Q104 (b : Nat) : Nat := match b with
  | 0 => 0
  | _ => 0
/-! 105: TruceWall.count(I)I -/
def B105_0 (orc : Orc) : K := o_iload 1 (o_sw [(0, o_aload 0 (o_getR 7 3 (o_getI 5 0 (o_iret)))), (1, o_aload 0 (o_getR 7 3 (o_getI 5 1 (o_iret)))), (2, o_aload 0 (o_getR 7 3 (o_getI 5 3 (o_iret)))), (3, o_aload 0 (o_getR 7 3 (o_getI 5 7 (o_if0 (o_iconst 0 (o_iret)) (o_iconst 1 (o_iret)))))), (4, o_aload 0 (o_getR 7 4 (o_getI 4 1 (o_iret)))), (5, o_aload 0 (o_getI 7 1 (o_iret)))] (o_iconst (-1) (o_iret)))
def P105 (orc : Orc) (b : Nat) : K := match b with
  | 0 => B105_0 orc
  | _ => fun _ _ _ => none
def Q105 (b : Nat) : Nat := match b with
  | 0 => 0
  | _ => 0
/-! 106: TruceWall.takeSigns(J)V -/
def B106_0 (orc : Orc) : K := o_iconst 56 (o_istore 3 (o_jmp 1))
def B106_1 (orc : Orc) : K := o_iload 3 (o_ifn (o_vret) (o_lload 1 (o_iload 3 (o_lsh (fun x y => (x.toUInt64 >>> (y.toInt64.toUInt64 &&& Int64.toUInt64 63)).toInt64) (o_l2i (o_iconst 255 (o_i2 (fun x y => x &&& y) (o_istore 4 (o_iload 4 (o_iconst 10 (o_ieq (o_jmp 2) (o_iload 4 (o_iconst 32 (o_ilt (o_jmp 3) (o_iload 4 (o_iconst 126 (o_igt (o_jmp 3) (o_jmp 2))))))))))))))))))
def B106_2 (orc : Orc) : K := o_iconst 1 (o_jmp 4)
def B106_3 (orc : Orc) : K := o_iconst 0 (o_jmp 4)
def B106_4 (orc : Orc) : K := o_istore 5 (o_iload 5 (o_if0 (o_jmp 5) (o_aload 0 (o_getI 7 1 (o_aload 0 (o_getR 7 0 (o_alen (o_ilt (o_aload 0 (o_getR 7 0 (o_aload 0 (o_getI 7 1 (o_iload 4 (o_i1 (fun x => (x.toUInt32 % 65536).toInt32) (o_iast 2 (fun x => vp_nar .char x) (o_aload 0 (o_dup (o_getI 7 1 (o_iconst 1 (o_i2 (fun x y => x + y) (o_putI 7 1 (o_jmp 5)))))))))))))) (o_jmp 5)))))))))
def B106_5 (orc : Orc) : K := o_iinc 3 (-8) (o_jmp 1)
def P106 (orc : Orc) (b : Nat) : K := match b with
  | 0 => B106_0 orc
  | 1 => B106_1 orc
  | 2 => B106_2 orc
  | 3 => B106_3 orc
  | 4 => B106_4 orc
  | 5 => B106_5 orc
  | _ => fun _ _ _ => none
def Q106 (b : Nat) : Nat := match b with
  | 0 => 0
  | 1 => 3
  | 2 => 38
  | 3 => 42
  | 4 => 43
  | 5 => 84
  | _ => 0
/-! 107: TruceWall.lookRound()V -/
def B107_0 (orc : Orc) : K := o_aload 0 (o_aload 0 (o_getR 7 3 (o_aload 0 (o_getR 7 4 (o_getL 4 2 (o_aload 0 (o_getR 7 4 (o_vI orc 50 1 4 (o_aload 0 (o_getR 7 9 (o_vI orc 72 4 5 (o_putI 7 10 (o_vret)))))))))))))
def P107 (orc : Orc) (b : Nat) : K := match b with
  | 0 => B107_0 orc
  | _ => fun _ _ _ => none
def Q107 (b : Nat) : Nat := match b with
  | 0 => 0
  | _ => 0
/-! 108: TruceWall.isOver()Z -/
def B108_0 (orc : Orc) : K := o_aload 0 (o_getI 7 10 (o_if0 (o_iconst 1 (o_zret)) (o_iconst 0 (o_zret))))
def P108 (orc : Orc) (b : Nat) : K := match b with
  | 0 => B108_0 orc
  | _ => fun _ _ _ => none
def Q108 (b : Nat) : Nat := match b with
  | 0 => 0
  | _ => 0
/-! 109: TruceWall.gateRefused(I)I -/
def B109_0 (orc : Orc) : K := o_iload 1 (o_ifn (o_iconst 1 (o_iret)) (o_iload 1 (o_aload 0 (o_getR 7 3 (o_getI 5 0 (o_ilt (o_aload 0 (o_vI orc 108 1 7 (o_if0 (o_aload 0 (o_getR 7 3 (o_aload 0 (o_getR 7 4 (o_getL 4 2 (o_aload 0 (o_getR 7 4 (o_vI orc 50 1 4 (o_iload 1 (o_vI orc 68 4 5 (o_iret))))))))))) (o_iconst 2 (o_iret))))) (o_iconst 1 (o_iret))))))))
def P109 (orc : Orc) (b : Nat) : K := match b with
  | 0 => B109_0 orc
  | _ => fun _ _ _ => none
def Q109 (b : Nat) : Nat := match b with
  | 0 => 0
  | _ => 0
/-! 110: TruceWall.outcomeNow()I -/
def B110_0 (orc : Orc) : K := o_aload 0 (o_getR 7 6 (o_aload 0 (o_getR 7 3 (o_iconst (-1) (o_iconst (-1) (o_vV orc 13 4 1 (o_aload 0 (o_getR 7 6 (o_aload 0 (o_getR 7 4 (o_getL 4 2 (o_aload 0 (o_getR 7 4 (o_vI orc 50 1 4 (o_iconst 0 (o_vI orc 14 4 1 (o_iret)))))))))))))))))
def P110 (orc : Orc) (b : Nat) : K := match b with
  | 0 => B110_0 orc
  | _ => fun _ _ _ => none
def Q110 (b : Nat) : Nat := match b with
  | 0 => 0
  | _ => 0
/-! 111: TruceWall.outcomeBehind(I)I -/
def B111_0 (orc : Orc) : K := o_aload 0 (o_getR 7 6 (o_aload 0 (o_getR 7 3 (o_iconst (-1) (o_iconst (-1) (o_vV orc 13 4 1 (o_aload 0 (o_getR 7 3 (o_aload 0 (o_getR 7 4 (o_getL 4 2 (o_aload 0 (o_getR 7 4 (o_vI orc 50 1 4 (o_iload 1 (o_vL orc 73 4 5 (o_lstore 2 (o_aload 0 (o_getR 7 6 (o_lload 2 (o_iconst 1 (o_aload 0 (o_getR 7 4 (o_vI orc 50 1 4 (o_i2 (fun x y => x - y) (o_iconst 1 (o_vI orc 14 4 1 (o_sI orc 11 1 (o_iret)))))))))))))))))))))))))))))
def P111 (orc : Orc) (b : Nat) : K := match b with
  | 0 => B111_0 orc
  | _ => fun _ _ _ => none
def Q111 (b : Nat) : Nat := match b with
  | 0 => 0
  | _ => 0
/-! 112: TruceWallModel.<init>()V -/
def B112_0 (orc : Orc) : K := o_aload 0 (o_obj (o_aload 0 (o_iconst 1000 (o_newa 0 (o_putR 8 2 (o_aload 0 (o_iconst 6 (o_newa 0 (o_putR 8 10 (o_aload 0 (o_iconst 6 (o_newa 0 (o_putR 8 11 (o_aload 0 (o_iconst 6 (o_newa 0 (o_putR 8 12 (o_aload 0 (o_iconst 6 (o_newa 0 (o_putR 8 13 (o_aload 0 (o_iconst 36 (o_newa 0 (o_putR 8 14 (o_aload 0 (o_iconst 36 (o_newa 0 (o_putR 8 15 (o_aload 0 (o_iconst 6 (o_newa 1 (o_putR 8 16 (o_aload 0 (o_iconst 6 (o_newa 0 (o_putR 8 17 (o_aload 0 (o_iconst 6 (o_newa 0 (o_putR 8 18 (o_aload 0 (o_iconst 6000 (o_newa 0 (o_putR 8 19 (o_aload 0 (o_iconst 7 (o_newa 0 (o_putR 8 23 (o_aload 0 (o_iconst 7 (o_newa 4 (o_putR 8 24 (o_aload 0 (o_iconst 7 (o_newa 0 (o_putR 8 25 (o_aload 0 (o_iconst 7 (o_newa 0 (o_putR 8 26 (o_aload 0 (o_iconst 7 (o_newa 0 (o_putR 8 27 (o_aload 0 (o_iconst 7 (o_newa 0 (o_putR 8 28 (o_aload 0 (o_iconst 7 (o_newa 0 (o_putR 8 29 (o_aload 0 (o_iconst 7 (o_newa 0 (o_putR 8 30 (o_aload 0 (o_iconst 7 (o_newa 0 (o_putR 8 31 (o_aload 0 (o_iconst 7 (o_newa 0 (o_putR 8 32 (o_aload 0 (o_iconst 7 (o_newa 0 (o_putR 8 33 (o_aload 0 (o_iconst 20 (o_newa 0 (o_putR 8 34 (o_aload 0 (o_iconst 2560 (o_newa 0 (o_putR 8 36 (o_aload 0 (o_iconst 3840 (o_newa 0 (o_putR 8 37 (o_aload 0 (o_iconst 65536 (o_newa 3 (o_putR 8 42 (o_aload 0 (o_iconst 65536 (o_newa 3 (o_putR 8 43 (o_aload 0 (o_iconst 65536 (o_newa 3 (o_putR 8 45 (o_aload 0 (o_iconst 65536 (o_newa 0 (o_putR 8 46 (o_aload 0 (o_iconst 65536 (o_newa 0 (o_putR 8 47 (o_aload 0 (o_iconst 4 (o_newa 4 (o_putR 8 49 (o_aload 0 (o_iconst 15616 (o_newa 0 (o_putR 8 50 (o_aload 0 (o_iconst 4 (o_newa 0 (o_putR 8 51 (o_aload 0 (o_getR 8 10 (o_iconst 0 (o_iconst 2 (o_iast 0 (fun x => x) (o_aload 0 (o_getR 8 11 (o_iconst 0 (o_iconst 1 (o_iast 0 (fun x => x) (o_aload 0 (o_vV orc 139 1 8 (o_vret))))))))))))))))))))))))))))))))))))))))))))))))))))))))))))))))))))))))))))))))))))))))))))))))))))))))))))))))))))))))))))))))))))))))))))))))))
def P112 (orc : Orc) (b : Nat) : K := match b with
  | 0 => B112_0 orc
  | _ => fun _ _ _ => none
def Q112 (b : Nat) : Nat := match b with
  | 0 => 0
  | _ => 0
/-! 113: TruceWallModel.thrown()I -/
def B113_0 (orc : Orc) : K := o_aload 0 (o_getI 8 0 (o_iret))
def P113 (orc : Orc) (b : Nat) : K := match b with
  | 0 => B113_0 orc
  | _ => fun _ _ _ => none
def Q113 (b : Nat) : Nat := match b with
  | 0 => 0
  | _ => 0
/-! 114: TruceWallModel.within(III)Z -/
def B114_0 (orc : Orc) : K := o_iload 0 (o_iload 1 (o_ilt (o_iconst 0 (o_zret)) (o_iload 0 (o_iload 2 (o_igt (o_iconst 0 (o_zret)) (o_iconst 1 (o_zret)))))))
def P114 (orc : Orc) (b : Nat) : K := match b with
  | 0 => B114_0 orc
  | _ => fun _ _ _ => none
def Q114 (b : Nat) : Nat := match b with
  | 0 => 0
  | _ => 0
/-! 115: TruceWallModel.feed(JJJ)I -/
def B115_0 (orc : Orc) : K := o_aload 0 (o_iconst 0 (o_putI 8 0 (o_iconst 0 (o_istore 7 (o_jmp 1)))))
def B115_1 (orc : Orc) : K := o_iload 7 (o_iconst 24 (o_ilt (o_iload 7 (o_iconst 8 (o_ilt (o_lload 1 (o_jmp 2)) (o_iload 7 (o_iconst 16 (o_ilt (o_lload 3 (o_jmp 2)) (o_lload 5 (o_jmp 2)))))))) (o_aload 0 (o_getI 8 1 (o_iret)))))
def B115_2 (orc : Orc) : K := o_lstore 8 (o_lload 8 (o_iconst 56 (o_iconst 8 (o_iload 7 (o_iconst 7 (o_i2 (fun x y => x &&& y) (o_i2 (fun x y => x * y) (o_i2 (fun x y => x - y) (o_lsh (fun x y => (x.toUInt64 >>> (y.toInt64.toUInt64 &&& Int64.toUInt64 63)).toInt64) (o_lconst 255 (o_l2 (fun x y => x &&& y) (o_l2i (o_istore 10 (o_aload 0 (o_getI 8 1 (o_iconst 1000 (o_ilt (o_iload 10 (o_iconst 10 (o_ieq (o_jmp 3) (o_iload 10 (o_iconst 32 (o_ilt (o_jmp 4) (o_iload 10 (o_iconst 126 (o_igt (o_jmp 4) (o_jmp 3)))))))))) (o_jmp 4))))))))))))))))))
def B115_3 (orc : Orc) : K := o_aload 0 (o_getR 8 2 (o_aload 0 (o_getI 8 1 (o_iload 10 (o_iast 0 (fun x => x) (o_aload 0 (o_dup (o_getI 8 1 (o_iconst 1 (o_i2 (fun x y => x + y) (o_putI 8 1 (o_jmp 4))))))))))))
def B115_4 (orc : Orc) : K := o_iinc 7 1 (o_jmp 1)
def P115 (orc : Orc) (b : Nat) : K := match b with
  | 0 => B115_0 orc
  | 1 => B115_1 orc
  | 2 => B115_2 orc
  | 3 => B115_3 orc
  | 4 => B115_4 orc
  | _ => fun _ _ _ => none
def Q115 (b : Nat) : Nat := match b with
  | 0 => 0
  | 1 => 8
  | 2 => 39
  | 3 => 93
  | 4 => 114
  | _ => 0
/-! 116: TruceWallModel.signAt(I)I -/
def B116_0 (orc : Orc) : K := o_iload 1 (o_aload 0 (o_getI 8 3 (o_ilt (o_aload 0 (o_getR 8 2 (o_iload 1 (o_iald 0 (o_iret))))) (o_iconst 0 (o_iret)))))
def P116 (orc : Orc) (b : Nat) : K := match b with
  | 0 => B116_0 orc
  | _ => fun _ _ _ => none
def Q116 (b : Nat) : Nat := match b with
  | 0 => 0
  | _ => 0
/-! 117: TruceWallModel.nextToken()V -/
def B117_0 (orc : Orc) : K := o_aload 0 (o_getI 8 4 (o_aload 0 (o_getI 8 3 (o_ilt (o_aload 0 (o_getR 8 2 (o_aload 0 (o_getI 8 4 (o_iald 0 (o_iconst 32 (o_ieq (o_jmp 1) (o_aload 0 (o_getR 8 2 (o_aload 0 (o_getI 8 4 (o_iald 0 (o_iconst 10 (o_ieq (o_jmp 1) (o_jmp 2))))))))))))))) (o_jmp 2)))))
def B117_1 (orc : Orc) : K := o_aload 0 (o_dup (o_getI 8 4 (o_iconst 1 (o_i2 (fun x y => x + y) (o_putI 8 4 (o_jmp 0))))))
def B117_2 (orc : Orc) : K := o_aload 0 (o_aload 0 (o_getI 8 4 (o_putI 8 5 (o_aload 0 (o_lconst 0 (o_putL 8 7 (o_aload 0 (o_iconst 0 (o_putI 8 8 (o_aload 0 (o_getI 8 4 (o_aload 0 (o_getI 8 3 (o_ieq (o_aload 0 (o_iconst 0 (o_putI 8 6 (o_vret)))) (o_aload 0 (o_getR 8 2 (o_aload 0 (o_getI 8 4 (o_iald 0 (o_istore 1 (o_iload 1 (o_iconst 97 (o_ilt (o_jmp 7) (o_iload 1 (o_iconst 122 (o_igt (o_jmp 7) (o_jmp 3)))))))))))))))))))))))))))
def B117_3 (orc : Orc) : K := o_aload 0 (o_aload 0 (o_getI 8 4 (o_vI orc 116 2 8 (o_iconst 97 (o_ilt (o_jmp 5) (o_aload 0 (o_aload 0 (o_getI 8 4 (o_vI orc 116 2 8 (o_iconst 122 (o_igt (o_jmp 5) (o_aload 0 (o_getI 8 4 (o_aload 0 (o_getI 8 5 (o_i2 (fun x y => x - y) (o_iconst 8 (o_ilt (o_aload 0 (o_aload 0 (o_getL 8 7 (o_lconst 27 (o_l2 (fun x y => x * y) (o_aload 0 (o_aload 0 (o_getI 8 4 (o_vI orc 116 2 8 (o_i2l (o_l2 (fun x y => x + y) (o_lconst 96 (o_l2 (fun x y => x - y) (o_putL 8 7 (o_jmp 4))))))))))))))) (o_jmp 4)))))))))))))))))))
def B117_4 (orc : Orc) : K := o_aload 0 (o_dup (o_getI 8 4 (o_iconst 1 (o_i2 (fun x y => x + y) (o_putI 8 4 (o_jmp 3))))))
def B117_5 (orc : Orc) : K := o_aload 0 (o_aload 0 (o_getI 8 4 (o_aload 0 (o_getI 8 5 (o_i2 (fun x y => x - y) (o_iconst 8 (o_igt (o_iconst 4 (o_jmp 6)) (o_iconst 1 (o_jmp 6)))))))))
def B117_6 (orc : Orc) : K := o_putI 8 6 (o_vret)
def B117_7 (orc : Orc) : K := o_iload 1 (o_iconst 48 (o_ilt (o_jmp 12) (o_iload 1 (o_iconst 57 (o_igt (o_jmp 12) (o_jmp 8))))))
def B117_8 (orc : Orc) : K := o_aload 0 (o_aload 0 (o_getI 8 4 (o_vI orc 116 2 8 (o_iconst 48 (o_ilt (o_jmp 10) (o_aload 0 (o_aload 0 (o_getI 8 4 (o_vI orc 116 2 8 (o_iconst 57 (o_igt (o_jmp 10) (o_aload 0 (o_getI 8 4 (o_aload 0 (o_getI 8 5 (o_i2 (fun x y => x - y) (o_iconst 4 (o_ilt (o_aload 0 (o_aload 0 (o_getI 8 8 (o_iconst 10 (o_i2 (fun x y => x * y) (o_aload 0 (o_aload 0 (o_getI 8 4 (o_vI orc 116 2 8 (o_i2 (fun x y => x + y) (o_iconst 48 (o_i2 (fun x y => x - y) (o_putI 8 8 (o_jmp 9)))))))))))))) (o_jmp 9)))))))))))))))))))
def B117_9 (orc : Orc) : K := o_aload 0 (o_dup (o_getI 8 4 (o_iconst 1 (o_i2 (fun x y => x + y) (o_putI 8 4 (o_jmp 8))))))
def B117_10 (orc : Orc) : K := o_aload 0 (o_aload 0 (o_getI 8 4 (o_aload 0 (o_getI 8 5 (o_i2 (fun x y => x - y) (o_iconst 4 (o_igt (o_iconst 4 (o_jmp 11)) (o_iconst 2 (o_jmp 11)))))))))
def B117_11 (orc : Orc) : K := o_putI 8 6 (o_vret)
def B117_12 (orc : Orc) : K := o_aload 0 (o_dup (o_getI 8 4 (o_iconst 1 (o_i2 (fun x y => x + y) (o_putI 8 4 (o_aload 0 (o_iload 1 (o_iconst 40 (o_ilt (o_jmp 13) (o_iload 1 (o_iconst 43 (o_igt (o_jmp 13) (o_jmp 14)))))))))))))
def B117_13 (orc : Orc) : K := o_iload 1 (o_iconst 45 (o_ieq (o_jmp 14) (o_iload 1 (o_iconst 59 (o_ilt (o_jmp 15) (o_iload 1 (o_iconst 61 (o_igt (o_jmp 15) (o_jmp 14)))))))))
def B117_14 (orc : Orc) : K := o_iconst 3 (o_jmp 16)
def B117_15 (orc : Orc) : K := o_iconst 4 (o_jmp 16)
def B117_16 (orc : Orc) : K := o_putI 8 6 (o_vret)
def P117 (orc : Orc) (b : Nat) : K := match b with
  | 0 => B117_0 orc
  | 1 => B117_1 orc
  | 2 => B117_2 orc
  | 3 => B117_3 orc
  | 4 => B117_4 orc
  | 5 => B117_5 orc
  | 6 => B117_6 orc
  | 7 => B117_7 orc
  | 8 => B117_8 orc
  | 9 => B117_9 orc
  | 10 => B117_10 orc
  | 11 => B117_11 orc
  | 12 => B117_12 orc
  | 13 => B117_13 orc
  | 14 => B117_14 orc
  | 15 => B117_15 orc
  | 16 => B117_16 orc
  | _ => fun _ _ _ => none
def Q117 (b : Nat) : Nat := match b with
  | 0 => 0
  | 1 => 39
  | 2 => 52
  | 3 => 109
  | 4 => 175
  | 5 => 188
  | 6 => 208
  | 7 => 212
  | 8 => 224
  | 9 => 286
  | 10 => 299
  | 11 => 318
  | 12 => 322
  | 13 => 345
  | 14 => 363
  | 15 => 367
  | 16 => 368
  | _ => 0
/-! 118: TruceWallModel.isWord(J)Z -/
def B118_0 (orc : Orc) : K := o_aload 0 (o_getI 8 6 (o_iconst 1 (o_ieq (o_aload 0 (o_getL 8 7 (o_lload 1 (o_lcmp (o_if0 (o_iconst 1 (o_zret)) (o_iconst 0 (o_zret))))))) (o_iconst 0 (o_zret)))))
def P118 (orc : Orc) (b : Nat) : K := match b with
  | 0 => B118_0 orc
  | _ => fun _ _ _ => none
def Q118 (b : Nat) : Nat := match b with
  | 0 => 0
  | _ => 0
/-! 119: TruceWallModel.isSign(I)Z -/
def B119_0 (orc : Orc) : K := o_aload 0 (o_getI 8 6 (o_iconst 3 (o_ieq (o_aload 0 (o_getR 8 2 (o_aload 0 (o_getI 8 5 (o_iald 0 (o_iload 1 (o_ieq (o_iconst 1 (o_zret)) (o_iconst 0 (o_zret))))))))) (o_iconst 0 (o_zret)))))
def P119 (orc : Orc) (b : Nat) : K := match b with
  | 0 => B119_0 orc
  | _ => fun _ _ _ => none
def Q119 (b : Nat) : Nat := match b with
  | 0 => 0
  | _ => 0
/-! 120: TruceWallModel.fails(I)Z -/
def B120_0 (orc : Orc) : K := o_aload 0 (o_iload 1 (o_iconst 16 (o_aload 0 (o_getI 8 5 (o_i2 (fun x y => x * y) (o_i2 (fun x y => x + y) (o_putI 8 9 (o_iconst 0 (o_zret)))))))))
def P120 (orc : Orc) (b : Nat) : K := match b with
  | 0 => B120_0 orc
  | _ => fun _ _ _ => none
def Q120 (b : Nat) : Nat := match b with
  | 0 => 0
  | _ => 0
/-! 121: TruceWallModel.puts(I)V -/
def B121_0 (orc : Orc) : K := o_aload 0 (o_getR 8 19 (o_aload 0 (o_getI 8 20 (o_iload 1 (o_iast 0 (fun x => x) (o_aload 0 (o_dup (o_getI 8 20 (o_iconst 1 (o_i2 (fun x y => x + y) (o_putI 8 20 (o_vret))))))))))))
def P121 (orc : Orc) (b : Nat) : K := match b with
  | 0 => B121_0 orc
  | _ => fun _ _ _ => none
def Q121 (b : Nat) : Nat := match b with
  | 0 => 0
  | _ => 0
/-! 122: TruceWallModel.fact()I -/
def B122_0 (orc : Orc) : K := o_aload 0 (o_getI 8 6 (o_iconst 1 (o_ieq (o_aload 0 (o_getL 8 7 (o_lconst 459383 (o_lcmp (o_if0 (o_iconst 1 (o_iret)) (o_aload 0 (o_getL 8 7 (o_lconst 6491892 (o_lcmp (o_if0 (o_iconst 2 (o_iret)) (o_aload 0 (o_getL 8 7 (o_lconst 4555675 (o_lcmp (o_if0 (o_iconst 3 (o_iret)) (o_aload 0 (o_getL 8 7 (o_lconst 2968 (o_lcmp (o_if0 (o_iconst 4 (o_iret)) (o_iconst 0 (o_iret)))))))))))))))))))))) (o_iconst 0 (o_iret)))))
def P122 (orc : Orc) (b : Nat) : K := match b with
  | 0 => B122_0 orc
  | _ => fun _ _ _ => none
def Q122 (b : Nat) : Nat := match b with
  | 0 => 0
  | _ => 0
/-! 123: TruceWallModel.reads()Z -/
def B123_0 (orc : Orc) : K := o_iconst 0 (o_istore 1 (o_iconst 1 (o_istore 2 (o_aload 0 (o_getR 8 24 (o_iconst 0 (o_iconst 0 (o_iast 4 (fun x => vp_nar .boolean x) (o_jmp 1)))))))))
def B123_1 (orc : Orc) : K := o_iload 2 (o_if0 (o_aload 0 (o_iconst 43 (o_vI orc 119 2 8 (o_if0 (o_aload 0 (o_iconst 45 (o_vI orc 119 2 8 (o_if0 (o_aload 0 (o_iconst 42 (o_vI orc 119 2 8 (o_if0 (o_aload 0 (o_iconst 60 (o_vI orc 119 2 8 (o_if0 (o_aload 0 (o_iconst 61 (o_vI orc 119 2 8 (o_if0 (o_jmp 13) (o_jmp 11))))) (o_jmp 11))))) (o_jmp 9))))) (o_jmp 9))))) (o_jmp 9))))) (o_aload 0 (o_vI orc 122 1 8 (o_istore 3 (o_aload 0 (o_lconst 10631 (o_vI orc 118 2 8 (o_istore 4 (o_aload 0 (o_iconst 40 (o_vI orc 119 2 8 (o_istore 5 (o_iload 3 (o_if0 (o_iload 4 (o_if0 (o_iload 5 (o_if0 (o_aload 0 (o_getI 8 6 (o_iconst 2 (o_ieq (o_jmp 2) (o_aload 0 (o_iconst 1 (o_vI orc 120 2 8 (o_zret)))))))) (o_jmp 2))) (o_jmp 2))) (o_jmp 2)))))))))))))))
def B123_2 (orc : Orc) : K := o_iload 1 (o_iconst 5 (o_ieq (o_aload 0 (o_iconst 5 (o_vI orc 120 2 8 (o_zret)))) (o_iload 4 (o_if0 (o_iload 5 (o_if0 (o_aload 0 (o_iload 3 (o_ifp (o_iload 3 (o_jmp 6)) (o_iconst 100 (o_aload 0 (o_getI 8 8 (o_i2 (fun x y => x + y) (o_jmp 6)))))))) (o_jmp 3))) (o_jmp 3)))))
def B123_3 (orc : Orc) : K := o_aload 0 (o_iload 4 (o_if0 (o_iconst 28 (o_jmp 4)) (o_iconst 30 (o_jmp 4))))
def B123_4 (orc : Orc) : K := o_vV orc 121 2 8 (o_iinc 1 1 (o_aload 0 (o_getR 8 23 (o_iload 1 (o_iload 4 (o_if0 (o_iconst 2 (o_jmp 5)) (o_iconst 1 (o_jmp 5))))))))
def B123_5 (orc : Orc) : K := o_iast 0 (fun x => x) (o_aload 0 (o_getR 8 24 (o_iload 1 (o_iconst 0 (o_iast 4 (fun x => vp_nar .boolean x) (o_jmp 8))))))
def B123_6 (orc : Orc) : K := o_vV orc 121 2 8 (o_iconst 0 (o_istore 2 (o_jmp 7)))
def B123_7 (orc : Orc) : K := o_iload 1 (o_ifp (o_aload 0 (o_getR 8 23 (o_iload 1 (o_iald 0 (o_iconst 1 (o_ieq (o_iinc 1 (-1) (o_jmp 7)) (o_jmp 8))))))) (o_jmp 8))
def B123_8 (orc : Orc) : K := o_aload 0 (o_vV orc 117 1 8 (o_jmp 1))
def B123_9 (orc : Orc) : K := o_aload 0 (o_aload 0 (o_iconst 43 (o_vI orc 119 2 8 (o_if0 (o_aload 0 (o_iconst 45 (o_vI orc 119 2 8 (o_if0 (o_iconst 22 (o_jmp 10)) (o_iconst 21 (o_jmp 10)))))) (o_iconst 20 (o_jmp 10))))))
def B123_10 (orc : Orc) : K := o_vV orc 121 2 8 (o_iconst 1 (o_istore 2 (o_jmp 19)))
def B123_11 (orc : Orc) : K := o_aload 0 (o_getR 8 24 (o_iload 1 (o_iald 4 (o_if0 (o_aload 0 (o_aload 0 (o_iconst 60 (o_vI orc 119 2 8 (o_if0 (o_iconst 25 (o_jmp 12)) (o_iconst 24 (o_jmp 12))))))) (o_jmp 13)))))
def B123_12 (orc : Orc) : K := o_vV orc 121 2 8 (o_aload 0 (o_getR 8 24 (o_iload 1 (o_iconst 1 (o_iast 4 (fun x => vp_nar .boolean x) (o_iconst 1 (o_istore 2 (o_jmp 19))))))))
def B123_13 (orc : Orc) : K := o_aload 0 (o_lconst 1111 (o_vI orc 118 2 8 (o_if0 (o_aload 0 (o_lconst 423 (o_vI orc 118 2 8 (o_if0 (o_aload 0 (o_iconst 41 (o_vI orc 119 2 8 (o_if0 (o_jmp 17) (o_iload 1 (o_ifp (o_aload 0 (o_iconst 29 (o_vV orc 121 2 8 (o_iinc 1 (-1) (o_jmp 16))))) (o_jmp 17))))))) (o_jmp 14))))) (o_jmp 14))))
def B123_14 (orc : Orc) : K := o_aload 0 (o_aload 0 (o_lconst 1111 (o_vI orc 118 2 8 (o_if0 (o_iconst 27 (o_jmp 15)) (o_iconst 26 (o_jmp 15))))))
def B123_15 (orc : Orc) : K := o_vV orc 121 2 8 (o_aload 0 (o_getR 8 24 (o_iload 1 (o_iconst 0 (o_iast 4 (fun x => vp_nar .boolean x) (o_iconst 1 (o_istore 2 (o_jmp 19))))))))
def B123_16 (orc : Orc) : K := o_iload 1 (o_ifp (o_aload 0 (o_getR 8 23 (o_iload 1 (o_iald 0 (o_iconst 1 (o_ieq (o_iinc 1 (-1) (o_jmp 16)) (o_jmp 19))))))) (o_jmp 19))
def B123_17 (orc : Orc) : K := o_iload 1 (o_if0 (o_aload 0 (o_iconst 59 (o_vI orc 119 2 8 (o_if0 (o_jmp 18) (o_aload 0 (o_vV orc 117 1 8 (o_iconst 1 (o_zret)))))))) (o_jmp 18))
def B123_18 (orc : Orc) : K := o_aload 0 (o_iconst 1 (o_vI orc 120 2 8 (o_zret)))
def B123_19 (orc : Orc) : K := o_aload 0 (o_vV orc 117 1 8 (o_jmp 1))
def P123 (orc : Orc) (b : Nat) : K := match b with
  | 0 => B123_0 orc
  | 1 => B123_1 orc
  | 2 => B123_2 orc
  | 3 => B123_3 orc
  | 4 => B123_4 orc
  | 5 => B123_5 orc
  | 6 => B123_6 orc
  | 7 => B123_7 orc
  | 8 => B123_8 orc
  | 9 => B123_9 orc
  | 10 => B123_10 orc
  | 11 => B123_11 orc
  | 12 => B123_12 orc
  | 13 => B123_13 orc
  | 14 => B123_14 orc
  | 15 => B123_15 orc
  | 16 => B123_16 orc
  | 17 => B123_17 orc
  | 18 => B123_18 orc
  | 19 => B123_19 orc
  | _ => fun _ _ _ => none
def Q123 (b : Nat) : Nat := match b with
  | 0 => 0
  | 1 => 11
  | 2 => 65
  | 3 => 86
  | 4 => 99
  | 5 => 120
  | 6 => 147
  | 7 => 152
  | 8 => 172
  | 9 => 206
  | 10 => 237
  | 11 => 263
  | 12 => 289
  | 13 => 304
  | 14 => 324
  | 15 => 342
  | 16 => 379
  | 17 => 399
  | 18 => 418
  | 19 => 424
  | _ => 0
/-! 124: TruceWallModel.opens(I)V -/
def B124_0 (orc : Orc) : K := o_aload 0 (o_getR 8 26 (o_iload 1 (o_iconst 0 (o_iast 0 (fun x => x) (o_aload 0 (o_getR 8 28 (o_iload 1 (o_iconst 0 (o_iast 0 (fun x => x) (o_aload 0 (o_getR 8 29 (o_iload 1 (o_iconst 0 (o_iast 0 (fun x => x) (o_aload 0 (o_getR 8 30 (o_iload 1 (o_iconst 20 (o_iast 0 (fun x => x) (o_aload 0 (o_getR 8 32 (o_iload 1 (o_iconst 0 (o_iast 0 (fun x => x) (o_vret)))))))))))))))))))))))))
def P124 (orc : Orc) (b : Nat) : K := match b with
  | 0 => B124_0 orc
  | _ => fun _ _ _ => none
def Q124 (b : Nat) : Nat := match b with
  | 0 => 0
  | _ => 0
/-! 125: TruceWallModel.sums(I)V -/
def B125_0 (orc : Orc) : K := o_aload 0 (o_getR 8 29 (o_iload 1 (o_aload 0 (o_getR 8 30 (o_iload 1 (o_iald 0 (o_iconst 21 (o_ieq (o_aload 0 (o_getR 8 29 (o_iload 1 (o_iald 0 (o_aload 0 (o_getR 8 31 (o_iload 1 (o_iald 0 (o_i2 (fun x y => x - y) (o_jmp 1)))))))))) (o_aload 0 (o_getR 8 29 (o_iload 1 (o_iald 0 (o_aload 0 (o_getR 8 31 (o_iload 1 (o_iald 0 (o_i2 (fun x y => x + y) (o_jmp 1))))))))))))))))))
def B125_1 (orc : Orc) : K := o_iast 0 (fun x => x) (o_aload 0 (o_getR 8 32 (o_iload 1 (o_iconst 0 (o_iast 0 (fun x => x) (o_vret))))))
def P125 (orc : Orc) (b : Nat) : K := match b with
  | 0 => B125_0 orc
  | 1 => B125_1 orc
  | _ => fun _ _ _ => none
def Q125 (b : Nat) : Nat := match b with
  | 0 => 0
  | 1 => 45
  | _ => 0
/-! 126: TruceWallModel.tests(I)V -/
def B126_0 (orc : Orc) : K := o_aload 0 (o_iload 1 (o_vV orc 125 2 8 (o_aload 0 (o_getR 8 29 (o_iload 1 (o_iald 0 (o_istore 2 (o_aload 0 (o_getR 8 28 (o_iload 1 (o_iald 0 (o_iconst 24 (o_ieq (o_aload 0 (o_getR 8 27 (o_iload 1 (o_iald 0 (o_aload 0 (o_getR 8 29 (o_iload 1 (o_iald 0 (o_ilt (o_iconst 1 (o_jmp 1)) (o_iconst 0 (o_jmp 1))))))))))) (o_jmp 2))))))))))))))
def B126_1 (orc : Orc) : K := o_istore 2 (o_jmp 2)
def B126_2 (orc : Orc) : K := o_aload 0 (o_getR 8 28 (o_iload 1 (o_iald 0 (o_iconst 25 (o_ieq (o_aload 0 (o_getR 8 27 (o_iload 1 (o_iald 0 (o_aload 0 (o_getR 8 29 (o_iload 1 (o_iald 0 (o_ieq (o_iconst 1 (o_jmp 3)) (o_iconst 0 (o_jmp 3))))))))))) (o_jmp 4))))))
def B126_3 (orc : Orc) : K := o_istore 2 (o_jmp 4)
def B126_4 (orc : Orc) : K := o_aload 0 (o_getR 8 26 (o_iload 1 (o_iald 0 (o_iconst 26 (o_ieq (o_aload 0 (o_getR 8 25 (o_iload 1 (o_iald 0 (o_if0 (o_jmp 5) (o_iload 2 (o_if0 (o_jmp 5) (o_iconst 1 (o_jmp 6))))))))) (o_jmp 7))))))
def B126_5 (orc : Orc) : K := o_iconst 0 (o_jmp 6)
def B126_6 (orc : Orc) : K := o_istore 2 (o_jmp 7)
def B126_7 (orc : Orc) : K := o_aload 0 (o_getR 8 26 (o_iload 1 (o_iald 0 (o_iconst 27 (o_ieq (o_aload 0 (o_getR 8 25 (o_iload 1 (o_iald 0 (o_if0 (o_iload 2 (o_if0 (o_iconst 0 (o_jmp 9)) (o_jmp 8))) (o_jmp 8)))))) (o_jmp 10))))))
def B126_8 (orc : Orc) : K := o_iconst 1 (o_jmp 9)
def B126_9 (orc : Orc) : K := o_istore 2 (o_jmp 10)
def B126_10 (orc : Orc) : K := o_aload 0 (o_getR 8 25 (o_iload 1 (o_iload 2 (o_iast 0 (fun x => x) (o_aload 0 (o_getR 8 28 (o_iload 1 (o_iconst 0 (o_iast 0 (fun x => x) (o_aload 0 (o_getR 8 29 (o_iload 1 (o_iconst 0 (o_iast 0 (fun x => x) (o_aload 0 (o_getR 8 30 (o_iload 1 (o_iconst 20 (o_iast 0 (fun x => x) (o_vret))))))))))))))))))))
def P126 (orc : Orc) (b : Nat) : K := match b with
  | 0 => B126_0 orc
  | 1 => B126_1 orc
  | 2 => B126_2 orc
  | 3 => B126_3 orc
  | 4 => B126_4 orc
  | 5 => B126_5 orc
  | 6 => B126_6 orc
  | 7 => B126_7 orc
  | 8 => B126_8 orc
  | 9 => B126_9 orc
  | 10 => B126_10 orc
  | _ => fun _ _ _ => none
def Q126 (b : Nat) : Nat := match b with
  | 0 => 0
  | 1 => 43
  | 2 => 44
  | 3 => 75
  | 4 => 76
  | 5 => 104
  | 6 => 105
  | 7 => 106
  | 8 => 130
  | 9 => 135
  | 10 => 136
  | _ => 0
/-! 127: TruceWallModel.worked(I)I -/
def B127_0 (orc : Orc) : K := o_iconst 0 (o_istore 2 (o_aload 0 (o_iconst 0 (o_vV orc 124 2 8 (o_aload 0 (o_getR 8 17 (o_iload 1 (o_iald 0 (o_istore 3 (o_jmp 1))))))))))
def B127_1 (orc : Orc) : K := o_iload 3 (o_aload 0 (o_getR 8 18 (o_iload 1 (o_iald 0 (o_ilt (o_aload 0 (o_getR 8 19 (o_iload 3 (o_iald 0 (o_istore 4 (o_iload 4 (o_iconst 28 (o_ieq (o_jmp 2) (o_iload 4 (o_iconst 30 (o_ieq (o_jmp 2) (o_iload 4 (o_iconst 20 (o_ieq (o_jmp 4) (o_iload 4 (o_iconst 21 (o_ieq (o_jmp 4) (o_iload 4 (o_iconst 22 (o_ieq (o_aload 0 (o_getR 8 32 (o_iload 2 (o_iload 4 (o_iast 0 (fun x => x) (o_jmp 12)))))) (o_iload 4 (o_iconst 24 (o_ieq (o_jmp 5) (o_iload 4 (o_iconst 25 (o_ieq (o_jmp 5) (o_iload 4 (o_iconst 26 (o_ieq (o_jmp 6) (o_iload 4 (o_iconst 27 (o_ieq (o_jmp 6) (o_iload 4 (o_iconst 100 (o_ilt (o_iload 4 (o_iconst 20 (o_ilt (o_aload 0 (o_getR 8 34 (o_iload 4 (o_iald 0 (o_jmp 7))))) (o_iconst 0 (o_jmp 7))))) (o_iload 4 (o_iconst 100 (o_i2 (fun x y => x - y) (o_jmp 7))))))))))))))))))))))))))))))))))))))) (o_aload 0 (o_iconst 0 (o_vV orc 126 2 8 (o_aload 0 (o_getR 8 25 (o_iconst 0 (o_iald 0 (o_iret)))))))))))))
def B127_2 (orc : Orc) : K := o_iinc 2 1 (o_aload 0 (o_getR 8 33 (o_iload 2 (o_iload 4 (o_iconst 30 (o_ieq (o_iconst 1 (o_jmp 3)) (o_iconst 0 (o_jmp 3))))))))
def B127_3 (orc : Orc) : K := o_iast 0 (fun x => x) (o_aload 0 (o_iload 2 (o_vV orc 124 2 8 (o_jmp 12))))
def B127_4 (orc : Orc) : K := o_aload 0 (o_iload 2 (o_vV orc 125 2 8 (o_aload 0 (o_getR 8 30 (o_iload 2 (o_iload 4 (o_iast 0 (fun x => x) (o_jmp 12))))))))
def B127_5 (orc : Orc) : K := o_aload 0 (o_iload 2 (o_vV orc 125 2 8 (o_aload 0 (o_getR 8 27 (o_iload 2 (o_aload 0 (o_getR 8 29 (o_iload 2 (o_iald 0 (o_iast 0 (fun x => x) (o_aload 0 (o_getR 8 28 (o_iload 2 (o_iload 4 (o_iast 0 (fun x => x) (o_aload 0 (o_getR 8 29 (o_iload 2 (o_iconst 0 (o_iast 0 (fun x => x) (o_aload 0 (o_getR 8 30 (o_iload 2 (o_iconst 20 (o_iast 0 (fun x => x) (o_jmp 12))))))))))))))))))))))))))
def B127_6 (orc : Orc) : K := o_aload 0 (o_iload 2 (o_vV orc 126 2 8 (o_aload 0 (o_getR 8 26 (o_iload 2 (o_iload 4 (o_iast 0 (fun x => x) (o_jmp 12))))))))
def B127_7 (orc : Orc) : K := o_istore 5 (o_iload 4 (o_iconst 29 (o_ieq (o_aload 0 (o_iload 2 (o_vV orc 126 2 8 (o_aload 0 (o_getR 8 25 (o_iload 2 (o_iald 0 (o_istore 5 (o_iinc 2 (-1) (o_jmp 8)))))))))) (o_jmp 8))))
def B127_8 (orc : Orc) : K := o_iload 2 (o_ifp (o_aload 0 (o_getR 8 33 (o_iload 2 (o_iald 0 (o_iconst 1 (o_ieq (o_iload 5 (o_if0 (o_iconst 1 (o_jmp 9)) (o_iconst 0 (o_jmp 9)))) (o_jmp 10))))))) (o_jmp 10))
def B127_9 (orc : Orc) : K := o_istore 5 (o_iinc 2 (-1) (o_jmp 8))
def B127_10 (orc : Orc) : K := o_aload 0 (o_getR 8 31 (o_iload 2 (o_aload 0 (o_getR 8 32 (o_iload 2 (o_iald 0 (o_if0 (o_iload 5 (o_jmp 11)) (o_aload 0 (o_getR 8 31 (o_iload 2 (o_iald 0 (o_iload 5 (o_i2 (fun x y => x * y) (o_jmp 11))))))))))))))
def B127_11 (orc : Orc) : K := o_iast 0 (fun x => x) (o_jmp 12)
def B127_12 (orc : Orc) : K := o_iinc 3 1 (o_jmp 1)
def P127 (orc : Orc) (b : Nat) : K := match b with
  | 0 => B127_0 orc
  | 1 => B127_1 orc
  | 2 => B127_2 orc
  | 3 => B127_3 orc
  | 4 => B127_4 orc
  | 5 => B127_5 orc
  | 6 => B127_6 orc
  | 7 => B127_7 orc
  | 8 => B127_8 orc
  | 9 => B127_9 orc
  | 10 => B127_10 orc
  | 11 => B127_11 orc
  | 12 => B127_12 orc
  | _ => fun _ _ _ => none
def Q127 (b : Nat) : Nat := match b with
  | 0 => 0
  | 1 => 14
  | 2 => 46
  | 3 => 66
  | 4 => 89
  | 5 => 137
  | 6 => 194
  | 7 => 243
  | 8 => 268
  | 9 => 292
  | 10 => 300
  | 11 => 328
  | 12 => 329
  | _ => 0
/-! 128: TruceWallModel.isKept()Z -/
def B128_0 (orc : Orc) : K := o_aload 0 (o_getI 8 6 (o_iconst 1 (o_ieq (o_aload 0 (o_getL 8 7 (o_lconst 453774 (o_lcmp (o_if0 (o_jmp 1) (o_aload 0 (o_getL 8 7 (o_lconst 10502357 (o_lcmp (o_if0 (o_jmp 1) (o_aload 0 (o_getL 8 7 (o_lconst 3754504 (o_lcmp (o_if0 (o_jmp 1) (o_aload 0 (o_getL 8 7 (o_lconst 125042 (o_lcmp (o_if0 (o_jmp 1) (o_aload 0 (o_getL 8 7 (o_lconst 8740238 (o_lcmp (o_if0 (o_jmp 1) (o_aload 0 (o_getL 8 7 (o_lconst 38444009 (o_lcmp (o_if0 (o_jmp 1) (o_aload 0 (o_getL 8 7 (o_lconst 9876874 (o_lcmp (o_if0 (o_jmp 1) (o_aload 0 (o_getL 8 7 (o_lconst 410684 (o_lcmp (o_if0 (o_jmp 1) (o_aload 0 (o_getL 8 7 (o_lconst 240239 (o_lcmp (o_if0 (o_jmp 1) (o_aload 0 (o_getL 8 7 (o_lconst 2774 (o_lcmp (o_if0 (o_jmp 1) (o_aload 0 (o_getL 8 7 (o_lconst 459383 (o_lcmp (o_if0 (o_jmp 1) (o_aload 0 (o_getL 8 7 (o_lconst 6491892 (o_lcmp (o_if0 (o_jmp 1) (o_aload 0 (o_getL 8 7 (o_lconst 4555675 (o_lcmp (o_if0 (o_jmp 1) (o_aload 0 (o_getL 8 7 (o_lconst 2968 (o_lcmp (o_if0 (o_jmp 1) (o_aload 0 (o_getL 8 7 (o_lconst 10631 (o_lcmp (o_if0 (o_jmp 1) (o_aload 0 (o_getL 8 7 (o_lconst 1111 (o_lcmp (o_if0 (o_jmp 1) (o_aload 0 (o_getL 8 7 (o_lconst 423 (o_lcmp (o_if0 (o_jmp 1) (o_iconst 0 (o_zret))))))))))))))))))))))))))))))))))))))))))))))))))))))))))))))))))))))))))))))))))))))) (o_iconst 1 (o_zret)))))
def B128_1 (orc : Orc) : K := o_iconst 1 (o_zret)
def P128 (orc : Orc) (b : Nat) : K := match b with
  | 0 => B128_0 orc
  | 1 => B128_1 orc
  | _ => fun _ _ _ => none
def Q128 (b : Nat) : Nat := match b with
  | 0 => 0
  | 1 => 197
  | _ => 0
/-! 129: TruceWallModel.needsNumber(II)Z -/
def B129_0 (orc : Orc) : K := o_aload 0 (o_getI 8 6 (o_iconst 2 (o_ieq (o_aload 0 (o_getI 8 8 (o_iload 1 (o_iload 2 (o_sI orc 114 3 (o_if0 (o_aload 0 (o_iconst 4 (o_vI orc 120 2 8 (o_zret)))) (o_aload 0 (o_aload 0 (o_getI 8 8 (o_putI 8 35 (o_aload 0 (o_vV orc 117 1 8 (o_iconst 1 (o_zret)))))))))))))) (o_aload 0 (o_iconst 1 (o_vI orc 120 2 8 (o_zret)))))))
def P129 (orc : Orc) (b : Nat) : K := match b with
  | 0 => B129_0 orc
  | _ => fun _ _ _ => none
def Q129 (b : Nat) : Nat := match b with
  | 0 => 0
  | _ => 0
/-! 130: TruceWallModel.ends()Z -/
def B130_0 (orc : Orc) : K := o_aload 0 (o_iconst 59 (o_vI orc 119 2 8 (o_if0 (o_aload 0 (o_iconst 1 (o_vI orc 120 2 8 (o_zret)))) (o_aload 0 (o_vV orc 117 1 8 (o_iconst 1 (o_zret)))))))
def P130 (orc : Orc) (b : Nat) : K := match b with
  | 0 => B130_0 orc
  | _ => fun _ _ _ => none
def Q130 (b : Nat) : Nat := match b with
  | 0 => 0
  | _ => 0
/-! 131: TruceWallModel.kindAt()I -/
def B131_0 (orc : Orc) : K := o_aload 0 (o_lconst 8740238 (o_vI orc 118 2 8 (o_if0 (o_aload 0 (o_lconst 38444009 (o_vI orc 118 2 8 (o_if0 (o_aload 0 (o_lconst 9876874 (o_vI orc 118 2 8 (o_if0 (o_aload 0 (o_lconst 410684 (o_vI orc 118 2 8 (o_if0 (o_aload 0 (o_lconst 240239 (o_vI orc 118 2 8 (o_if0 (o_aload 0 (o_lconst 2774 (o_vI orc 118 2 8 (o_if0 (o_iconst (-1) (o_iret)) (o_iconst 5 (o_iret)))))) (o_iconst 4 (o_iret)))))) (o_iconst 3 (o_iret)))))) (o_iconst 2 (o_iret)))))) (o_iconst 1 (o_iret)))))) (o_iconst 0 (o_iret)))))
def P131 (orc : Orc) (b : Nat) : K := match b with
  | 0 => B131_0 orc
  | _ => fun _ _ _ => none
def Q131 (b : Nat) : Nat := match b with
  | 0 => 0
  | _ => 0
/-! 132: TruceWallModel.readsStone()Z -/
def B132_0 (orc : Orc) : K := o_aload 0 (o_getR 8 12 (o_iconst 1 (o_iald 0 (o_iconst 6 (o_ieq (o_aload 0 (o_iconst 5 (o_vI orc 120 2 8 (o_zret)))) (o_aload 0 (o_getR 8 12 (o_iconst 1 (o_iald 0 (o_istore 1 (o_aload 0 (o_vV orc 117 1 8 (o_aload 0 (o_vI orc 128 1 8 (o_if0 (o_iconst 0 (o_istore 2 (o_jmp 1))) (o_aload 0 (o_iconst 1 (o_vI orc 120 2 8 (o_zret)))))))))))))))))))
def B132_1 (orc : Orc) : K := o_iload 2 (o_iload 1 (o_ilt (o_aload 0 (o_getR 8 16 (o_iload 2 (o_lald (o_aload 0 (o_getL 8 7 (o_lcmp (o_if0 (o_aload 0 (o_iconst 3 (o_vI orc 120 2 8 (o_zret)))) (o_iinc 2 1 (o_jmp 1)))))))))) (o_aload 0 (o_getR 8 16 (o_iload 1 (o_aload 0 (o_getL 8 7 (o_last (o_aload 0 (o_vV orc 117 1 8 (o_aload 0 (o_vI orc 131 1 8 (o_istore 2 (o_iload 2 (o_ifn (o_aload 0 (o_iconst 1 (o_vI orc 120 2 8 (o_zret)))) (o_aload 0 (o_getR 8 14 (o_iconst 6 (o_iload 1 (o_i2 (fun x y => x + y) (o_iload 2 (o_iast 0 (fun x => x) (o_aload 0 (o_vV orc 117 1 8 (o_aload 0 (o_iload 2 (o_iconst 1 (o_ieq (o_iconst 2 (o_jmp 2)) (o_iconst 1 (o_jmp 2))))))))))))))))))))))))))))))
def B132_2 (orc : Orc) : K := o_iload 2 (o_iconst 2 (o_ieq (o_jmp 3) (o_iload 2 (o_iconst 3 (o_ieq (o_jmp 3) (o_iconst 4 (o_jmp 4)))))))
def B132_3 (orc : Orc) : K := o_iconst 1 (o_jmp 4)
def B132_4 (orc : Orc) : K := o_vI orc 129 3 8 (o_if0 (o_iconst 0 (o_zret)) (o_aload 0 (o_getR 8 15 (o_iconst 6 (o_iload 1 (o_i2 (fun x y => x + y) (o_aload 0 (o_getI 8 35 (o_iast 0 (fun x => x) (o_aload 0 (o_getR 8 12 (o_iconst 1 (o_dup2 (o_iald 0 (o_iconst 1 (o_i2 (fun x y => x + y) (o_iast 0 (fun x => x) (o_aload 0 (o_vI orc 130 1 8 (o_zret))))))))))))))))))))
def P132 (orc : Orc) (b : Nat) : K := match b with
  | 0 => B132_0 orc
  | 1 => B132_1 orc
  | 2 => B132_2 orc
  | 3 => B132_3 orc
  | 4 => B132_4 orc
  | _ => fun _ _ _ => none
def Q132 (b : Nat) : Nat := match b with
  | 0 => 0
  | 1 => 43
  | 2 => 128
  | 3 => 138
  | 4 => 143
  | _ => 0
/-! 133: TruceWallModel.readsGates()Z -/
def B133_0 (orc : Orc) : K := o_aload 0 (o_getI 8 21 (o_if0 (o_aload 0 (o_iconst 1 (o_putZ 8 21 (o_aload 0 (o_vV orc 117 1 8 (o_aload 0 (o_iconst 0 (o_iconst 1 (o_vI orc 129 3 8 (o_if0 (o_iconst 0 (o_zret)) (o_aload 0 (o_getR 8 13 (o_iconst 1 (o_aload 0 (o_getI 8 35 (o_iast 0 (fun x => x) (o_aload 0 (o_vI orc 130 1 8 (o_zret))))))))))))))))))) (o_aload 0 (o_iconst 3 (o_vI orc 120 2 8 (o_zret))))))
def P133 (orc : Orc) (b : Nat) : K := match b with
  | 0 => B133_0 orc
  | _ => fun _ _ _ => none
def Q133 (b : Nat) : Nat := match b with
  | 0 => 0
  | _ => 0
/-! 134: TruceWallModel.readsFine()Z -/
def B134_0 (orc : Orc) : K := o_aload 0 (o_getI 8 22 (o_if0 (o_aload 0 (o_iconst 1 (o_putZ 8 22 (o_aload 0 (o_vV orc 117 1 8 (o_aload 0 (o_vI orc 123 1 8 (o_if0 (o_iconst 0 (o_zret)) (o_aload 0 (o_getR 8 18 (o_iconst 1 (o_aload 0 (o_getI 8 20 (o_iast 0 (fun x => x) (o_iconst 1 (o_zret)))))))))))))))) (o_aload 0 (o_iconst 3 (o_vI orc 120 2 8 (o_zret))))))
def P134 (orc : Orc) (b : Nat) : K := match b with
  | 0 => B134_0 orc
  | _ => fun _ _ _ => none
def Q134 (b : Nat) : Nat := match b with
  | 0 => 0
  | _ => 0
/-! 135: TruceWallModel.readsAll()Z -/
def B135_0 (orc : Orc) : K := o_aload 0 (o_getR 8 12 (o_iconst 1 (o_iconst 0 (o_iast 0 (fun x => x) (o_aload 0 (o_getR 8 13 (o_iconst 1 (o_iconst 0 (o_iast 0 (fun x => x) (o_aload 0 (o_iconst 0 (o_putZ 8 21 (o_aload 0 (o_iconst 0 (o_putZ 8 22 (o_aload 0 (o_iconst 1000 (o_putI 8 20 (o_aload 0 (o_getR 8 17 (o_iconst 1 (o_iconst 1000 (o_iast 0 (fun x => x) (o_aload 0 (o_getR 8 18 (o_iconst 1 (o_iconst 1000 (o_iast 0 (fun x => x) (o_aload 0 (o_aload 0 (o_getI 8 1 (o_putI 8 3 (o_aload 0 (o_iconst 0 (o_putI 8 1 (o_aload 0 (o_iconst 0 (o_putI 8 4 (o_aload 0 (o_vV orc 117 1 8 (o_aload 0 (o_lconst 453774 (o_vI orc 118 2 8 (o_if0 (o_aload 0 (o_iconst 1 (o_vI orc 120 2 8 (o_zret)))) (o_aload 0 (o_vV orc 117 1 8 (o_aload 0 (o_iconst 2 (o_iconst 10 (o_vI orc 129 3 8 (o_if0 (o_iconst 0 (o_zret)) (o_aload 0 (o_getR 8 10 (o_iconst 1 (o_aload 0 (o_getI 8 35 (o_iast 0 (fun x => x) (o_aload 0 (o_iconst 1 (o_iconst 6 (o_vI orc 129 3 8 (o_if0 (o_iconst 0 (o_zret)) (o_aload 0 (o_getR 8 11 (o_iconst 1 (o_aload 0 (o_getI 8 35 (o_iast 0 (fun x => x) (o_aload 0 (o_vI orc 130 1 8 (o_if0 (o_iconst 0 (o_zret)) (o_jmp 1))))))))))))))))))))))))))))))))))))))))))))))))))))))))))))))))))))))))
def B135_1 (orc : Orc) : K := o_aload 0 (o_getI 8 6 (o_if0 (o_iconst 1 (o_zret)) (o_aload 0 (o_lconst 10502357 (o_vI orc 118 2 8 (o_if0 (o_aload 0 (o_lconst 3754504 (o_vI orc 118 2 8 (o_if0 (o_aload 0 (o_lconst 125042 (o_vI orc 118 2 8 (o_if0 (o_aload 0 (o_iconst 1 (o_vI orc 120 2 8 (o_jmp 2)))) (o_aload 0 (o_vI orc 134 1 8 (o_jmp 2))))))) (o_aload 0 (o_vI orc 133 1 8 (o_jmp 2))))))) (o_aload 0 (o_vI orc 132 1 8 (o_jmp 2)))))))))
def B135_2 (orc : Orc) : K := o_istore 1 (o_iload 1 (o_if0 (o_iconst 0 (o_zret)) (o_jmp 1)))
def P135 (orc : Orc) (b : Nat) : K := match b with
  | 0 => B135_0 orc
  | 1 => B135_1 orc
  | 2 => B135_2 orc
  | _ => fun _ _ _ => none
def Q135 (b : Nat) : Nat := match b with
  | 0 => 0
  | 1 => 144
  | 2 => 207
  | _ => 0
/-! 136: TruceWallModel.moves([IIII)V -/
def B136_0 (orc : Orc) : K := o_iconst 0 (o_istore 4 (o_jmp 1))
def B136_1 (orc : Orc) : K := o_iload 4 (o_iload 1 (o_ilt (o_aload 0 (o_iload 1 (o_iload 3 (o_i2 (fun x y => x * y) (o_iload 4 (o_i2 (fun x y => x + y) (o_aload 0 (o_iload 1 (o_iload 2 (o_i2 (fun x y => x * y) (o_iload 4 (o_i2 (fun x y => x + y) (o_iald 0 (o_iast 0 (fun x => x) (o_iinc 4 1 (o_jmp 1)))))))))))))))) (o_vret)))
def P136 (orc : Orc) (b : Nat) : K := match b with
  | 0 => B136_0 orc
  | 1 => B136_1 orc
  | _ => fun _ _ _ => none
def Q136 (b : Nat) : Nat := match b with
  | 0 => 0
  | 1 => 3
  | _ => 0
/-! 137: TruceWallModel.lays(II)V -/
def B137_0 (orc : Orc) : K := o_aload 0 (o_getR 8 10 (o_iconst 1 (o_iload 1 (o_iload 2 (o_sV orc 136 4 (o_aload 0 (o_getR 8 11 (o_iconst 1 (o_iload 1 (o_iload 2 (o_sV orc 136 4 (o_aload 0 (o_getR 8 12 (o_iconst 1 (o_iload 1 (o_iload 2 (o_sV orc 136 4 (o_aload 0 (o_getR 8 13 (o_iconst 1 (o_iload 1 (o_iload 2 (o_sV orc 136 4 (o_aload 0 (o_getR 8 14 (o_iconst 6 (o_iload 1 (o_iload 2 (o_sV orc 136 4 (o_aload 0 (o_getR 8 15 (o_iconst 6 (o_iload 1 (o_iload 2 (o_sV orc 136 4 (o_aload 0 (o_getR 8 19 (o_iconst 1000 (o_iload 1 (o_iload 2 (o_sV orc 136 4 (o_aload 0 (o_getR 8 17 (o_iload 2 (o_iconst 1000 (o_iload 2 (o_i2 (fun x y => x * y) (o_iast 0 (fun x => x) (o_aload 0 (o_getR 8 18 (o_iload 2 (o_iconst 1000 (o_iload 2 (o_i2 (fun x y => x * y) (o_aload 0 (o_getR 8 18 (o_iload 1 (o_iald 0 (o_i2 (fun x y => x + y) (o_aload 0 (o_getR 8 17 (o_iload 1 (o_iald 0 (o_i2 (fun x y => x - y) (o_iast 0 (fun x => x) (o_vret))))))))))))))))))))))))))))))))))))))))))))))))))))))))))))))))))
def P137 (orc : Orc) (b : Nat) : K := match b with
  | 0 => B137_0 orc
  | _ => fun _ _ _ => none
def Q137 (b : Nat) : Nat := match b with
  | 0 => 0
  | _ => 0
/-! 138: TruceWallModel.truce()I -/
def B138_0 (orc : Orc) : K := o_aload 0 (o_iconst 0 (o_putI 8 0 (o_aload 0 (o_vI orc 135 1 8 (o_if0 (o_aload 0 (o_getI 8 9 (o_iret))) (o_aload 0 (o_iconst 1 (o_iconst 0 (o_vV orc 137 3 8 (o_aload 0 (o_vV orc 139 1 8 (o_iconst 0 (o_iret)))))))))))))
def P138 (orc : Orc) (b : Nat) : K := match b with
  | 0 => B138_0 orc
  | _ => fun _ _ _ => none
def Q138 (b : Nat) : Nat := match b with
  | 0 => 0
  | _ => 0
/-! 139: TruceWallModel.begins()V -/
def B139_0 (orc : Orc) : K := o_aload 0 (o_iconst 0 (o_putI 8 38 (o_aload 0 (o_iconst 0 (o_putZ 8 44 (o_aload 0 (o_iconst 0 (o_vV orc 140 2 8 (o_aload 0 (o_iconst 0 (o_vV orc 142 2 8 (o_vret))))))))))))
def P139 (orc : Orc) (b : Nat) : K := match b with
  | 0 => B139_0 orc
  | _ => fun _ _ _ => none
def Q139 (b : Nat) : Nat := match b with
  | 0 => 0
  | _ => 0
/-! 140: TruceWallModel.nothing(I)V -/
def B140_0 (orc : Orc) : K := o_iconst 0 (o_istore 2 (o_jmp 1))
def B140_1 (orc : Orc) : K := o_iload 2 (o_iconst 64 (o_ilt (o_aload 0 (o_getR 8 36 (o_iload 1 (o_iload 2 (o_i2 (fun x y => x + y) (o_iconst 0 (o_iast 0 (fun x => x) (o_iinc 2 1 (o_jmp 1))))))))) (o_aload 0 (o_getR 8 36 (o_iload 1 (o_iconst 40 (o_i2 (fun x y => x + y) (o_aload 0 (o_getR 8 13 (o_iconst 0 (o_iald 0 (o_iast 0 (fun x => x) (o_aload 0 (o_getR 8 36 (o_iload 1 (o_iconst 40 (o_i2 (fun x y => x + y) (o_iconst 1 (o_i2 (fun x y => x + y) (o_aload 0 (o_getR 8 13 (o_iconst 0 (o_iald 0 (o_iast 0 (fun x => x) (o_vret)))))))))))))))))))))))))
def P140 (orc : Orc) (b : Nat) : K := match b with
  | 0 => B140_0 orc
  | 1 => B140_1 orc
  | _ => fun _ _ _ => none
def Q140 (b : Nat) : Nat := match b with
  | 0 => 0
  | 1 => 2
  | _ => 0
/-! 141: TruceWallModel.isClosed(I)Z -/
def B141_0 (orc : Orc) : K := o_iconst 0 (o_istore 2 (o_jmp 1))
def B141_1 (orc : Orc) : K := o_iload 2 (o_aload 0 (o_getR 8 10 (o_iconst 0 (o_iald 0 (o_ilt (o_aload 0 (o_getR 8 36 (o_iload 1 (o_iconst 10 (o_i2 (fun x y => x + y) (o_iload 2 (o_i2 (fun x y => x + y) (o_iald 0 (o_if0 (o_aload 0 (o_getR 8 36 (o_iload 1 (o_iload 2 (o_i2 (fun x y => x + y) (o_iald 0 (o_aload 0 (o_getR 8 11 (o_iconst 0 (o_iald 0 (o_ilt (o_iconst 0 (o_zret)) (o_jmp 2)))))))))))) (o_jmp 2)))))))))) (o_iconst 1 (o_zret)))))))
def B141_2 (orc : Orc) : K := o_iinc 2 1 (o_jmp 1)
def P141 (orc : Orc) (b : Nat) : K := match b with
  | 0 => B141_0 orc
  | 1 => B141_1 orc
  | 2 => B141_2 orc
  | _ => fun _ _ _ => none
def Q141 (b : Nat) : Nat := match b with
  | 0 => 0
  | 1 => 2
  | 2 => 45
  | _ => 0
/-! 142: TruceWallModel.looks(I)V -/
def B142_0 (orc : Orc) : K := o_aload 0 (o_getR 8 36 (o_iload 1 (o_iconst 45 (o_i2 (fun x y => x + y) (o_iald 0 (o_ifp (o_aload 0 (o_iload 1 (o_vI orc 141 2 8 (o_if0 (o_jmp 1) (o_iconst 1 (o_jmp 2)))))) (o_jmp 1)))))))
def B142_1 (orc : Orc) : K := o_iconst 0 (o_jmp 2)
def B142_2 (orc : Orc) : K := o_istore 2 (o_aload 0 (o_getR 8 36 (o_iload 1 (o_iconst 44 (o_i2 (fun x y => x + y) (o_iload 2 (o_if0 (o_iconst 0 (o_jmp 3)) (o_iconst 1 (o_jmp 3)))))))))
def B142_3 (orc : Orc) : K := o_iast 0 (fun x => x) (o_aload 0 (o_getR 8 36 (o_iload 1 (o_iconst 43 (o_i2 (fun x y => x + y) (o_iload 2 (o_if0 (o_aload 0 (o_iload 1 (o_vI orc 150 2 8 (o_if0 (o_iconst 1 (o_aload 0 (o_getR 8 36 (o_iload 1 (o_iconst 42 (o_i2 (fun x y => x + y) (o_iald 0 (o_i2 (fun x y => x + y) (o_jmp 4))))))))) (o_iconst 0 (o_jmp 4)))))) (o_iconst 2 (o_aload 0 (o_getR 8 36 (o_iload 1 (o_iconst 42 (o_i2 (fun x y => x + y) (o_iald 0 (o_i2 (fun x y => x - y) (o_jmp 4))))))))))))))))
def B142_4 (orc : Orc) : K := o_iast 0 (fun x => x) (o_vret)
def P142 (orc : Orc) (b : Nat) : K := match b with
  | 0 => B142_0 orc
  | 1 => B142_1 orc
  | 2 => B142_2 orc
  | 3 => B142_3 orc
  | 4 => B142_4 orc
  | _ => fun _ _ _ => none
def Q142 (b : Nat) : Nat := match b with
  | 0 => 0
  | 1 => 24
  | 2 => 25
  | 3 => 43
  | 4 => 93
  | _ => 0
/-! 143: TruceWallModel.isColumn(I)Z -/
def B143_0 (orc : Orc) : K := o_iload 1 (o_ifn (o_iconst 0 (o_zret)) (o_iload 1 (o_aload 0 (o_getR 8 10 (o_iconst 0 (o_iald 0 (o_ilt (o_iconst 1 (o_zret)) (o_iconst 0 (o_zret)))))))))
def P143 (orc : Orc) (b : Nat) : K := match b with
  | 0 => B143_0 orc
  | _ => fun _ _ _ => none
def Q143 (b : Nat) : Nat := match b with
  | 0 => 0
  | _ => 0
/-! 144: TruceWallModel.otherOf(I)I -/
def B144_0 (orc : Orc) : K := o_aload 0 (o_getR 8 10 (o_iconst 0 (o_iald 0 (o_iconst 1 (o_i2 (fun x y => x - y) (o_iload 1 (o_i2 (fun x y => x - y) (o_iret))))))))
def P144 (orc : Orc) (b : Nat) : K := match b with
  | 0 => B144_0 orc
  | _ => fun _ _ _ => none
def Q144 (b : Nat) : Nat := match b with
  | 0 => 0
  | _ => 0
/-! 145: TruceWallModel.isWide(II)Z -/
def B145_0 (orc : Orc) : K := o_aload 0 (o_getR 8 14 (o_iload 1 (o_iald 0 (o_iconst 5 (o_ieq (o_iload 2 (o_iconst 1 (o_aload 0 (o_getR 8 15 (o_iload 1 (o_iald 0 (o_sI orc 114 3 (o_zret)))))))) (o_iload 2 (o_aload 0 (o_getR 8 15 (o_iload 1 (o_iald 0 (o_ieq (o_iconst 1 (o_zret)) (o_iconst 0 (o_zret)))))))))))))
def P145 (orc : Orc) (b : Nat) : K := match b with
  | 0 => B145_0 orc
  | _ => fun _ _ _ => none
def Q145 (b : Nat) : Nat := match b with
  | 0 => 0
  | _ => 0
/-! 146: TruceWallModel.stands(IIII)Z -/
def B146_0 (orc : Orc) : K := o_aload 0 (o_getR 8 14 (o_iload 2 (o_iald 0 (o_istore 5 (o_aload 0 (o_getR 8 36 (o_iload 1 (o_iload 3 (o_i2 (fun x y => x + y) (o_iald 0 (o_istore 6 (o_iload 5 (o_iconst 3 (o_ieq (o_iconst 1 (o_zret)) (o_iload 5 (o_iconst 2 (o_ieq (o_iload 3 (o_if0 (o_jmp 1) (o_aload 0 (o_getR 8 36 (o_iload 1 (o_iconst 10 (o_i2 (fun x y => x + y) (o_iload 3 (o_i2 (fun x y => x + y) (o_iconst 1 (o_i2 (fun x y => x - y) (o_iald 0 (o_ifp (o_jmp 1) (o_aload 0 (o_getR 8 36 (o_iload 1 (o_iload 3 (o_i2 (fun x y => x + y) (o_iconst 1 (o_i2 (fun x y => x - y) (o_iald 0 (o_iload 6 (o_igt (o_jmp 1) (o_iconst 0 (o_zret))))))))))))))))))))))))) (o_iload 3 (o_iconst 1 (o_i2 (fun x y => x + y) (o_istore 7 (o_jmp 3))))))))))))))))))))))
def B146_1 (orc : Orc) : K := o_iload 3 (o_iconst 1 (o_i2 (fun x y => x + y) (o_aload 0 (o_getR 8 10 (o_iconst 0 (o_iald 0 (o_ieq (o_jmp 2) (o_aload 0 (o_getR 8 36 (o_iload 1 (o_iconst 10 (o_i2 (fun x y => x + y) (o_iload 3 (o_i2 (fun x y => x + y) (o_iconst 1 (o_i2 (fun x y => x + y) (o_iald 0 (o_ifp (o_jmp 2) (o_aload 0 (o_getR 8 36 (o_iload 1 (o_iload 3 (o_i2 (fun x y => x + y) (o_iconst 1 (o_i2 (fun x y => x + y) (o_iald 0 (o_iload 6 (o_igt (o_jmp 2) (o_iconst 0 (o_zret))))))))))))))))))))))))))))))
def B146_2 (orc : Orc) : K := o_iconst 1 (o_zret)
def B146_3 (orc : Orc) : K := o_iload 7 (o_iload 3 (o_iload 4 (o_i2 (fun x y => x + y) (o_ilt (o_aload 0 (o_getR 8 36 (o_iload 1 (o_iload 7 (o_i2 (fun x y => x + y) (o_iald 0 (o_iload 6 (o_ieq (o_iconst 1 (o_jmp 4)) (o_iconst 0 (o_jmp 4)))))))))) (o_iconst 1 (o_zret))))))
def B146_4 (orc : Orc) : K := o_istore 8 (o_iload 5 (o_iconst 1 (o_ieq (o_iload 7 (o_iload 3 (o_iload 4 (o_i2 (fun x y => x + y) (o_iconst 1 (o_i2 (fun x y => x - y) (o_ilt (o_aload 0 (o_getR 8 36 (o_iload 1 (o_iload 7 (o_i2 (fun x y => x + y) (o_iald 0 (o_iload 6 (o_igt (o_iconst 0 (o_zret)) (o_jmp 6))))))))) (o_jmp 5)))))))) (o_jmp 5))))
def B146_5 (orc : Orc) : K := o_iload 8 (o_if0 (o_iconst 0 (o_zret)) (o_jmp 6))
def B146_6 (orc : Orc) : K := o_iinc 7 1 (o_jmp 3)
def P146 (orc : Orc) (b : Nat) : K := match b with
  | 0 => B146_0 orc
  | 1 => B146_1 orc
  | 2 => B146_2 orc
  | 3 => B146_3 orc
  | 4 => B146_4 orc
  | 5 => B146_5 orc
  | 6 => B146_6 orc
  | _ => fun _ _ _ => none
def Q146 (b : Nat) : Nat := match b with
  | 0 => 0
  | 1 => 67
  | 2 => 110
  | 3 => 121
  | 4 => 149
  | 5 => 185
  | 6 => 192
  | _ => 0
/-! 147: TruceWallModel.why(IIIIZ)I -/
def B147_0 (orc : Orc) : K := o_iload 2 (o_ifn (o_iconst 1 (o_iret)) (o_iload 2 (o_aload 0 (o_getR 8 12 (o_iconst 0 (o_iald 0 (o_ilt (o_aload 0 (o_iload 3 (o_vI orc 143 2 8 (o_if0 (o_iconst 1 (o_iret)) (o_aload 0 (o_iload 2 (o_iload 4 (o_vI orc 145 3 8 (o_if0 (o_iconst 1 (o_iret)) (o_aload 0 (o_getR 8 14 (o_iload 2 (o_iald 0 (o_iconst 3 (o_ieq (o_aload 0 (o_iload 3 (o_vI orc 144 2 8 (o_iload 3 (o_ieq (o_iconst 1 (o_iret)) (o_jmp 1)))))) (o_jmp 1)))))))))))))))) (o_iconst 1 (o_iret)))))))))
def B147_1 (orc : Orc) : K := o_iload 5 (o_if0 (o_iload 3 (o_iload 4 (o_i2 (fun x y => x + y) (o_aload 0 (o_getR 8 10 (o_iconst 0 (o_iald 0 (o_igt (o_iconst 3 (o_iret)) (o_iload 3 (o_istore 6 (o_jmp 2))))))))))) (o_iconst 2 (o_iret)))
def B147_2 (orc : Orc) : K := o_iload 6 (o_iload 3 (o_iload 4 (o_i2 (fun x y => x + y) (o_ilt (o_aload 0 (o_getR 8 36 (o_iload 1 (o_iconst 10 (o_i2 (fun x y => x + y) (o_iload 6 (o_i2 (fun x y => x + y) (o_iald 0 (o_ifp (o_iconst 4 (o_iret)) (o_iinc 6 1 (o_jmp 2))))))))))) (o_aload 0 (o_getR 8 14 (o_iload 2 (o_iald 0 (o_iconst 3 (o_ieq (o_aload 0 (o_getR 8 36 (o_iload 1 (o_iconst 10 (o_i2 (fun x y => x + y) (o_aload 0 (o_iload 3 (o_vI orc 144 2 8 (o_i2 (fun x y => x + y) (o_iald 0 (o_ifp (o_iconst 4 (o_iret)) (o_jmp 3)))))))))))) (o_jmp 3)))))))))))
def B147_3 (orc : Orc) : K := o_aload 0 (o_iload 1 (o_iload 2 (o_iload 3 (o_iload 4 (o_vI orc 146 5 8 (o_if0 (o_iconst 5 (o_iret)) (o_aload 0 (o_getR 8 36 (o_iload 1 (o_iload 3 (o_i2 (fun x y => x + y) (o_iald 0 (o_aload 0 (o_getR 8 11 (o_iconst 0 (o_iald 0 (o_ieq (o_jmp 4) (o_aload 0 (o_getR 8 14 (o_iload 2 (o_iald 0 (o_iconst 3 (o_ieq (o_aload 0 (o_getR 8 36 (o_iload 1 (o_aload 0 (o_iload 3 (o_vI orc 144 2 8 (o_i2 (fun x y => x + y) (o_iald 0 (o_aload 0 (o_getR 8 11 (o_iconst 0 (o_iald 0 (o_ieq (o_jmp 4) (o_iconst 0 (o_iret))))))))))))))) (o_iconst 0 (o_iret)))))))))))))))))))))))))
def B147_4 (orc : Orc) : K := o_iconst 6 (o_iret)
def P147 (orc : Orc) (b : Nat) : K := match b with
  | 0 => B147_0 orc
  | 1 => B147_1 orc
  | 2 => B147_2 orc
  | 3 => B147_3 orc
  | 4 => B147_4 orc
  | _ => fun _ _ _ => none
def Q147 (b : Nat) : Nat := match b with
  | 0 => 0
  | 1 => 53
  | 2 => 78
  | 3 => 140
  | 4 => 202
  | _ => 0
/-! 148: TruceWallModel.whyGate(IIZ)I -/
def B148_0 (orc : Orc) : K := o_aload 0 (o_iload 2 (o_vI orc 143 2 8 (o_if0 (o_iconst 1 (o_iret)) (o_iload 3 (o_if0 (o_aload 0 (o_getR 8 36 (o_iload 1 (o_iconst 40 (o_i2 (fun x y => x + y) (o_aload 0 (o_getR 8 36 (o_iload 1 (o_iconst 42 (o_i2 (fun x y => x + y) (o_iald 0 (o_i2 (fun x y => x + y) (o_iald 0 (o_if0 (o_iconst 3 (o_iret)) (o_aload 0 (o_getR 8 36 (o_iload 1 (o_iconst 10 (o_i2 (fun x y => x + y) (o_iload 2 (o_i2 (fun x y => x + y) (o_iald 0 (o_ifp (o_iconst 4 (o_iret)) (o_aload 0 (o_getR 8 36 (o_iload 1 (o_iload 2 (o_i2 (fun x y => x + y) (o_iald 0 (o_ifp (o_iconst 5 (o_iret)) (o_iconst 0 (o_iret)))))))))))))))))))))))))))))))) (o_iconst 2 (o_iret)))))))
def P148 (orc : Orc) (b : Nat) : K := match b with
  | 0 => B148_0 orc
  | _ => fun _ _ _ => none
def Q148 (b : Nat) : Nat := match b with
  | 0 => 0
  | _ => 0
/-! 149: TruceWallModel.nextAct(II)I -/
def B149_0 (orc : Orc) : K := o_iconst 50 (o_aload 0 (o_getR 8 12 (o_iconst 0 (o_iald 0 (o_i2 (fun x y => x * y) (o_istore 3 (o_iload 2 (o_iconst 1 (o_i2 (fun x y => x + y) (o_istore 4 (o_jmp 1)))))))))))
def B149_1 (orc : Orc) : K := o_iload 4 (o_iload 3 (o_iconst 10 (o_i2 (fun x y => x + y) (o_ilt (o_aload 0 (o_iload 4 (o_iload 3 (o_ilt (o_iload 4 (o_iconst 50 (o_i2z (fun x y => x / y) (o_jmp 2)))) (o_iconst (-2) (o_jmp 2)))))) (o_iconst (-1) (o_iret))))))
def B149_2 (orc : Orc) : K := o_putI 8 39 (o_aload 0 (o_iload 4 (o_iload 3 (o_ilt (o_iload 4 (o_iconst 5 (o_i2z (fun x y => x / y) (o_iconst 10 (o_i2z (fun x y => x - x / y * y) (o_jmp 3)))))) (o_iload 4 (o_iload 3 (o_i2 (fun x y => x - y) (o_jmp 3))))))))
def B149_3 (orc : Orc) : K := o_putI 8 40 (o_aload 0 (o_iload 4 (o_iload 3 (o_ilt (o_iload 4 (o_iconst 5 (o_i2z (fun x y => x - x / y * y) (o_jmp 4)))) (o_iconst 0 (o_jmp 4))))))
def B149_4 (orc : Orc) : K := o_putI 8 41 (o_iload 4 (o_iload 3 (o_ilt (o_aload 0 (o_iload 1 (o_aload 0 (o_getI 8 39 (o_aload 0 (o_getI 8 40 (o_aload 0 (o_getI 8 41 (o_iconst 0 (o_vI orc 147 6 8 (o_if0 (o_iload 4 (o_iret)) (o_jmp 5)))))))))))) (o_aload 0 (o_iload 1 (o_aload 0 (o_getI 8 40 (o_iconst 0 (o_vI orc 148 4 8 (o_if0 (o_iload 4 (o_iret)) (o_jmp 5)))))))))))
def B149_5 (orc : Orc) : K := o_iinc 4 1 (o_jmp 1)
def P149 (orc : Orc) (b : Nat) : K := match b with
  | 0 => B149_0 orc
  | 1 => B149_1 orc
  | 2 => B149_2 orc
  | 3 => B149_3 orc
  | 4 => B149_4 orc
  | 5 => B149_5 orc
  | _ => fun _ _ _ => none
def Q149 (b : Nat) : Nat := match b with
  | 0 => 0
  | 1 => 15
  | 2 => 41
  | 3 => 65
  | 4 => 83
  | 5 => 132
  | _ => 0
/-! 150: TruceWallModel.hasAct(I)Z -/
def B150_0 (orc : Orc) : K := o_aload 0 (o_iload 1 (o_iconst (-1) (o_vI orc 149 3 8 (o_ifn (o_iconst 0 (o_zret)) (o_iconst 1 (o_zret))))))
def P150 (orc : Orc) (b : Nat) : K := match b with
  | 0 => B150_0 orc
  | _ => fun _ _ _ => none
def Q150 (b : Nat) : Nat := match b with
  | 0 => 0
  | _ => 0
/-! 151: TruceWallModel.acts(I)I -/
def B151_0 (orc : Orc) : K := o_iconst 0 (o_istore 2 (o_aload 0 (o_iload 1 (o_iconst (-1) (o_vI orc 149 3 8 (o_istore 3 (o_jmp 1)))))))
def B151_1 (orc : Orc) : K := o_iload 3 (o_ifn (o_iload 2 (o_iret)) (o_iinc 2 1 (o_aload 0 (o_iload 1 (o_iload 3 (o_vI orc 149 3 8 (o_istore 3 (o_jmp 1))))))))
def P151 (orc : Orc) (b : Nat) : K := match b with
  | 0 => B151_0 orc
  | 1 => B151_1 orc
  | _ => fun _ _ _ => none
def Q151 (b : Nat) : Nat := match b with
  | 0 => 0
  | 1 => 9
  | _ => 0
/-! 152: TruceWallModel.finds(II)Z -/
def B152_0 (orc : Orc) : K := o_aload 0 (o_iload 1 (o_iconst (-1) (o_vI orc 149 3 8 (o_istore 3 (o_iconst 0 (o_istore 4 (o_jmp 1)))))))
def B152_1 (orc : Orc) : K := o_iload 4 (o_iload 2 (o_ilt (o_iload 3 (o_ifn (o_jmp 2) (o_aload 0 (o_iload 1 (o_iload 3 (o_vI orc 149 3 8 (o_istore 3 (o_iinc 4 1 (o_jmp 1))))))))) (o_jmp 2)))
def B152_2 (orc : Orc) : K := o_iload 2 (o_ifn (o_iconst 0 (o_zret)) (o_iload 3 (o_ifn (o_iconst 0 (o_zret)) (o_iconst 1 (o_zret)))))
def P152 (orc : Orc) (b : Nat) : K := match b with
  | 0 => B152_0 orc
  | 1 => B152_1 orc
  | 2 => B152_2 orc
  | _ => fun _ _ _ => none
def Q152 (b : Nat) : Nat := match b with
  | 0 => 0
  | 1 => 10
  | 2 => 33
  | _ => 0
/-! 153: TruceWallModel.sets(IIII)V -/
def B153_0 (orc : Orc) : K := o_aload 0 (o_getR 8 36 (o_iload 1 (o_iconst 42 (o_i2 (fun x y => x + y) (o_iald 0 (o_istore 5 (o_aload 0 (o_getR 8 14 (o_iload 2 (o_iald 0 (o_istore 6 (o_aload 0 (o_getR 8 36 (o_iload 1 (o_iload 3 (o_i2 (fun x y => x + y) (o_iald 0 (o_istore 7 (o_iconst 0 (o_istore 8 (o_iload 3 (o_istore 9 (o_jmp 1)))))))))))))))))))))))
def B153_1 (orc : Orc) : K := o_iload 9 (o_iload 3 (o_iload 4 (o_i2 (fun x y => x + y) (o_ilt (o_iload 8 (o_iload 7 (o_aload 0 (o_getR 8 36 (o_iload 1 (o_iload 9 (o_i2 (fun x y => x + y) (o_iald 0 (o_i2 (fun x y => x - y) (o_i2 (fun x y => x + y) (o_istore 8 (o_aload 0 (o_getR 8 36 (o_iload 1 (o_iconst 20 (o_i2 (fun x y => x + y) (o_iload 9 (o_i2 (fun x y => x + y) (o_dup2 (o_iald 0 (o_iload 7 (o_aload 0 (o_getR 8 36 (o_iload 1 (o_iload 9 (o_i2 (fun x y => x + y) (o_iald 0 (o_i2 (fun x y => x - y) (o_i2 (fun x y => x + y) (o_iast 0 (fun x => x) (o_aload 0 (o_getR 8 36 (o_iload 1 (o_iload 9 (o_i2 (fun x y => x + y) (o_iload 7 (o_iconst 1 (o_i2 (fun x y => x + y) (o_iast 0 (fun x => x) (o_aload 0 (o_getR 8 36 (o_iload 1 (o_iconst 30 (o_i2 (fun x y => x + y) (o_iload 9 (o_i2 (fun x y => x + y) (o_iload 6 (o_iconst 4 (o_ieq (o_iconst 2 (o_iload 5 (o_i2 (fun x y => x - y) (o_jmp 2)))) (o_iconst 1 (o_iload 5 (o_i2 (fun x y => x + y) (o_jmp 2))))))))))))))))))))))))))))))))))))))))))))))))))))) (o_iload 6 (o_iconst 3 (o_ieq (o_aload 0 (o_getR 8 36 (o_iload 1 (o_aload 0 (o_iload 3 (o_vI orc 144 2 8 (o_i2 (fun x y => x + y) (o_dup2 (o_iald 0 (o_iconst 1 (o_i2 (fun x y => x + y) (o_iast 0 (fun x => x) (o_aload 0 (o_getR 8 36 (o_iload 1 (o_iconst 30 (o_i2 (fun x y => x + y) (o_aload 0 (o_iload 3 (o_vI orc 144 2 8 (o_i2 (fun x y => x + y) (o_iconst 1 (o_iload 5 (o_i2 (fun x y => x + y) (o_iast 0 (fun x => x) (o_jmp 3)))))))))))))))))))))))))) (o_jmp 3))))))))
def B153_2 (orc : Orc) : K := o_iast 0 (fun x => x) (o_iinc 9 1 (o_jmp 1))
def B153_3 (orc : Orc) : K := o_aload 0 (o_getR 8 36 (o_iload 1 (o_iconst 47 (o_i2 (fun x y => x + y) (o_iload 6 (o_iconst 4 (o_ieq (o_iconst 1 (o_iload 5 (o_i2 (fun x y => x - y) (o_jmp 4)))) (o_iload 5 (o_jmp 4)))))))))
def B153_4 (orc : Orc) : K := o_i2 (fun x y => x + y) (o_dup2 (o_iald 0 (o_iload 8 (o_i2 (fun x y => x + y) (o_iast 0 (fun x => x) (o_aload 0 (o_getR 8 34 (o_iconst 1 (o_iload 6 (o_iconst 3 (o_ieq (o_iconst 2 (o_jmp 5)) (o_iload 4 (o_jmp 5)))))))))))))
def B153_5 (orc : Orc) : K := o_iast 0 (fun x => x) (o_aload 0 (o_getR 8 34 (o_iconst 2 (o_iload 7 (o_iast 0 (fun x => x) (o_aload 0 (o_getR 8 34 (o_iconst 3 (o_iload 8 (o_iast 0 (fun x => x) (o_aload 0 (o_getR 8 34 (o_iconst 4 (o_aload 0 (o_getR 8 36 (o_iload 1 (o_iconst 45 (o_i2 (fun x y => x + y) (o_iald 0 (o_iast 0 (fun x => x) (o_aload 0 (o_getR 8 36 (o_iload 1 (o_iconst 46 (o_i2 (fun x y => x + y) (o_dup2 (o_iald 0 (o_aload 0 (o_getR 8 18 (o_iconst 0 (o_iald 0 (o_aload 0 (o_getR 8 17 (o_iconst 0 (o_iald 0 (o_ieq (o_aload 0 (o_getR 8 34 (o_iconst 1 (o_iald 0 (o_jmp 6))))) (o_aload 0 (o_iconst 0 (o_vI orc 127 2 8 (o_jmp 6))))))))))))))))))))))))))))))))))))))))
def B153_6 (orc : Orc) : K := o_i2 (fun x y => x + y) (o_iast 0 (fun x => x) (o_vret))
def P153 (orc : Orc) (b : Nat) : K := match b with
  | 0 => B153_0 orc
  | 1 => B153_1 orc
  | 2 => B153_2 orc
  | 3 => B153_3 orc
  | 4 => B153_4 orc
  | 5 => B153_5 orc
  | 6 => B153_6 orc
  | _ => fun _ _ _ => none
def Q153 (b : Nat) : Nat := match b with
  | 0 => 0
  | 1 => 35
  | 2 => 129
  | 3 => 177
  | 4 => 200
  | 5 => 224
  | 6 => 295
  | _ => 0
/-! 154: TruceWallModel.does(IIII)V -/
def B154_0 (orc : Orc) : K := o_aload 0 (o_getR 8 36 (o_iload 1 (o_iconst 42 (o_i2 (fun x y => x + y) (o_iald 0 (o_istore 5 (o_iload 2 (o_iconst (-2) (o_ieq (o_aload 0 (o_getR 8 36 (o_iload 1 (o_iconst 10 (o_i2 (fun x y => x + y) (o_iload 3 (o_i2 (fun x y => x + y) (o_iconst 1 (o_iload 5 (o_i2 (fun x y => x + y) (o_iast 0 (fun x => x) (o_aload 0 (o_getR 8 36 (o_iload 1 (o_iconst 40 (o_i2 (fun x y => x + y) (o_iload 5 (o_i2 (fun x y => x + y) (o_dup2 (o_iald 0 (o_iconst 1 (o_i2 (fun x y => x - y) (o_iast 0 (fun x => x) (o_jmp 1)))))))))))))))))))))))) (o_aload 0 (o_iload 1 (o_iload 2 (o_iload 3 (o_iload 4 (o_vV orc 153 5 8 (o_jmp 1))))))))))))))))
def B154_1 (orc : Orc) : K := o_aload 0 (o_getR 8 36 (o_iload 1 (o_iconst 45 (o_i2 (fun x y => x + y) (o_dup2 (o_iald 0 (o_iconst 1 (o_i2 (fun x y => x + y) (o_iast 0 (fun x => x) (o_aload 0 (o_getR 8 36 (o_iload 1 (o_iconst 42 (o_i2 (fun x y => x + y) (o_iconst 1 (o_iload 5 (o_i2 (fun x y => x - y) (o_iast 0 (fun x => x) (o_aload 0 (o_iload 1 (o_vV orc 142 2 8 (o_vret))))))))))))))))))))))
def P154 (orc : Orc) (b : Nat) : K := match b with
  | 0 => B154_0 orc
  | 1 => B154_1 orc
  | _ => fun _ _ _ => none
def Q154 (b : Nat) : Nat := match b with
  | 0 => 0
  | 1 => 60
  | _ => 0
/-! 155: TruceWallModel.keeps()V -/
def B155_0 (orc : Orc) : K := o_aload 0 (o_getI 8 38 (o_iconst 60 (o_ieq (o_iconst 0 (o_istore 1 (o_jmp 1))) (o_jmp 2))))
def B155_1 (orc : Orc) : K := o_iload 1 (o_iconst 3776 (o_ilt (o_aload 0 (o_getR 8 37 (o_iload 1 (o_aload 0 (o_getR 8 37 (o_iload 1 (o_iconst 64 (o_i2 (fun x y => x + y) (o_iald 0 (o_iast 0 (fun x => x) (o_iinc 1 1 (o_jmp 1)))))))))))) (o_aload 0 (o_dup (o_getI 8 38 (o_iconst 1 (o_i2 (fun x y => x - y) (o_putI 8 38 (o_jmp 2)))))))))
def B155_2 (orc : Orc) : K := o_iconst 0 (o_istore 1 (o_jmp 3))
def B155_3 (orc : Orc) : K := o_iload 1 (o_iconst 64 (o_ilt (o_aload 0 (o_getR 8 37 (o_iconst 64 (o_aload 0 (o_getI 8 38 (o_i2 (fun x y => x * y) (o_iload 1 (o_i2 (fun x y => x + y) (o_aload 0 (o_getR 8 36 (o_iload 1 (o_iald 0 (o_iast 0 (fun x => x) (o_iinc 1 1 (o_jmp 3))))))))))))))) (o_aload 0 (o_dup (o_getI 8 38 (o_iconst 1 (o_i2 (fun x y => x + y) (o_putI 8 38 (o_vret)))))))))
def P155 (orc : Orc) (b : Nat) : K := match b with
  | 0 => B155_0 orc
  | 1 => B155_1 orc
  | 2 => B155_2 orc
  | 3 => B155_3 orc
  | _ => fun _ _ _ => none
def Q155 (b : Nat) : Nat := match b with
  | 0 => 0
  | 1 => 11
  | 2 => 49
  | 3 => 51
  | _ => 0
/-! 156: TruceWallModel.stone(II)I -/
def B156_0 (orc : Orc) : K := o_aload 0 (o_iconst 0 (o_putI 8 0 (o_iload 1 (o_ifn (o_jmp 1) (o_iload 1 (o_aload 0 (o_getR 8 12 (o_iconst 0 (o_iald 0 (o_ilt (o_iload 2 (o_iconst 0 (o_iconst 1 (o_sI orc 114 3 (o_if0 (o_jmp 1) (o_iload 2 (o_if0 (o_aload 0 (o_getR 8 14 (o_iload 1 (o_iald 0 (o_iret))))) (o_aload 0 (o_getR 8 15 (o_iload 1 (o_iald 0 (o_iret)))))))))))) (o_jmp 1)))))))))))
def B156_1 (orc : Orc) : K := o_iconst (-1) (o_iret)
def P156 (orc : Orc) (b : Nat) : K := match b with
  | 0 => B156_0 orc
  | 1 => B156_1 orc
  | _ => fun _ _ _ => none
def Q156 (b : Nat) : Nat := match b with
  | 0 => 0
  | 1 => 28
  | _ => 0
/-! 157: TruceWallModel.set(III)I -/
def B157_0 (orc : Orc) : K := o_aload 0 (o_iconst 0 (o_putI 8 0 (o_aload 0 (o_iconst 0 (o_iload 1 (o_iload 2 (o_iload 3 (o_aload 0 (o_getR 8 36 (o_iconst 43 (o_iald 0 (o_ifp (o_iconst 1 (o_jmp 1)) (o_iconst 0 (o_jmp 1))))))))))))))
def B157_1 (orc : Orc) : K := o_vI orc 147 6 8 (o_istore 4 (o_iload 4 (o_ifp (o_iload 4 (o_iret)) (o_aload 0 (o_vV orc 155 1 8 (o_aload 0 (o_iconst 0 (o_iload 1 (o_iload 2 (o_iload 3 (o_vV orc 154 5 8 (o_iconst 0 (o_iret)))))))))))))
def P157 (orc : Orc) (b : Nat) : K := match b with
  | 0 => B157_0 orc
  | 1 => B157_1 orc
  | _ => fun _ _ _ => none
def Q157 (b : Nat) : Nat := match b with
  | 0 => 0
  | 1 => 25
  | _ => 0
/-! 158: TruceWallModel.leave(I)I -/
def B158_0 (orc : Orc) : K := o_aload 0 (o_iconst 0 (o_putI 8 0 (o_aload 0 (o_iconst 0 (o_iload 1 (o_aload 0 (o_getR 8 36 (o_iconst 43 (o_iald 0 (o_ifp (o_iconst 1 (o_jmp 1)) (o_iconst 0 (o_jmp 1))))))))))))
def B158_1 (orc : Orc) : K := o_vI orc 148 4 8 (o_istore 2 (o_iload 2 (o_ifp (o_iload 2 (o_iret)) (o_aload 0 (o_vV orc 155 1 8 (o_aload 0 (o_iconst 0 (o_iconst (-2) (o_iload 1 (o_iconst 0 (o_vV orc 154 5 8 (o_iconst 0 (o_iret)))))))))))))
def P158 (orc : Orc) (b : Nat) : K := match b with
  | 0 => B158_0 orc
  | 1 => B158_1 orc
  | _ => fun _ _ _ => none
def Q158 (b : Nat) : Nat := match b with
  | 0 => 0
  | 1 => 23
  | _ => 0
/-! 159: TruceWallModel.fits(III)I -/
def B159_0 (orc : Orc) : K := o_aload 0 (o_iconst 0 (o_putI 8 0 (o_aload 0 (o_iconst 0 (o_iload 1 (o_iload 2 (o_iload 3 (o_aload 0 (o_getR 8 36 (o_iconst 43 (o_iald 0 (o_ifp (o_iconst 1 (o_jmp 1)) (o_iconst 0 (o_jmp 1))))))))))))))
def B159_1 (orc : Orc) : K := o_vI orc 147 6 8 (o_iret)
def P159 (orc : Orc) (b : Nat) : K := match b with
  | 0 => B159_0 orc
  | 1 => B159_1 orc
  | _ => fun _ _ _ => none
def Q159 (b : Nat) : Nat := match b with
  | 0 => 0
  | 1 => 25
  | _ => 0
/-! 160: TruceWallModel.undo()Z -/
def B160_0 (orc : Orc) : K := o_aload 0 (o_iconst 0 (o_putI 8 0 (o_aload 0 (o_getI 8 38 (o_if0 (o_iconst 0 (o_zret)) (o_aload 0 (o_dup (o_getI 8 38 (o_iconst 1 (o_i2 (fun x y => x - y) (o_putI 8 38 (o_iconst 0 (o_istore 1 (o_jmp 1))))))))))))))
def B160_1 (orc : Orc) : K := o_iload 1 (o_iconst 64 (o_ilt (o_aload 0 (o_getR 8 36 (o_iload 1 (o_aload 0 (o_getR 8 37 (o_iconst 64 (o_aload 0 (o_getI 8 38 (o_i2 (fun x y => x * y) (o_iload 1 (o_i2 (fun x y => x + y) (o_iald 0 (o_iast 0 (fun x => x) (o_iinc 1 1 (o_jmp 1))))))))))))))) (o_iconst 1 (o_zret))))
def P160 (orc : Orc) (b : Nat) : K := match b with
  | 0 => B160_0 orc
  | 1 => B160_1 orc
  | _ => fun _ _ _ => none
def Q160 (b : Nat) : Nat := match b with
  | 0 => 0
  | 1 => 26
  | _ => 0
/-! 161: TruceWallModel.column(II)I -/
def B161_0 (orc : Orc) : K := o_aload 0 (o_iconst 0 (o_putI 8 0 (o_aload 0 (o_iload 1 (o_vI orc 143 2 8 (o_if0 (o_iconst (-1) (o_iret)) (o_iload 2 (o_iconst 0 (o_iconst 3 (o_sI orc 114 3 (o_if0 (o_iconst (-1) (o_iret)) (o_iload 2 (o_if0 (o_aload 0 (o_getR 8 36 (o_iload 1 (o_iald 0 (o_iret))))) (o_iload 2 (o_iconst 1 (o_ieq (o_aload 0 (o_getR 8 36 (o_iconst 10 (o_iload 1 (o_i2 (fun x y => x + y) (o_iald 0 (o_iconst 1 (o_i2 (fun x y => x - y) (o_iret))))))))) (o_iload 2 (o_iconst 2 (o_ieq (o_aload 0 (o_getR 8 36 (o_iconst 20 (o_iload 1 (o_i2 (fun x y => x + y) (o_iald 0 (o_iret))))))) (o_aload 0 (o_getR 8 36 (o_iconst 30 (o_iload 1 (o_i2 (fun x y => x + y) (o_iald 0 (o_iconst 1 (o_i2 (fun x y => x - y) (o_iret))))))))))))))))))))))))))))
def P161 (orc : Orc) (b : Nat) : K := match b with
  | 0 => B161_0 orc
  | _ => fun _ _ _ => none
def Q161 (b : Nat) : Nat := match b with
  | 0 => 0
  | _ => 0
/-! 162: TruceWallModel.actsNow()I -/
def B162_0 (orc : Orc) : K := o_aload 0 (o_getR 8 36 (o_iconst 43 (o_iald 0 (o_ifp (o_iconst 0 (o_iret)) (o_aload 0 (o_iconst 0 (o_vI orc 151 2 8 (o_iret))))))))
def P162 (orc : Orc) (b : Nat) : K := match b with
  | 0 => B162_0 orc
  | _ => fun _ _ _ => none
def Q162 (b : Nat) : Nat := match b with
  | 0 => 0
  | _ => 0
/-! 163: TruceWallModel.state(I)I -/
def B163_0 (orc : Orc) : K := o_aload 0 (o_iload 1 (o_iconst 0 (o_iconst 9 (o_sI orc 114 3 (o_if0 (o_iconst 1 (o_jmp 1)) (o_iconst 0 (o_jmp 1)))))))
def B163_1 (orc : Orc) : K := o_putI 8 0 (o_aload 0 (o_getI 8 0 (o_iconst 1 (o_ieq (o_iconst 0 (o_iret)) (o_iload 1 (o_iconst 5 (o_ilt (o_iload 1 (o_if0 (o_aload 0 (o_getR 8 36 (o_iconst 45 (o_iald 0 (o_iret))))) (o_iload 1 (o_iconst 1 (o_ieq (o_aload 0 (o_getR 8 36 (o_iconst 43 (o_iald 0 (o_ifp (o_iconst (-1) (o_iret)) (o_aload 0 (o_getR 8 36 (o_iconst 42 (o_iald 0 (o_iret)))))))))) (o_iload 1 (o_iconst 2 (o_ieq (o_aload 0 (o_getR 8 36 (o_iconst 44 (o_iald 0 (o_iret))))) (o_iload 1 (o_iconst 3 (o_ieq (o_aload 0 (o_getR 8 36 (o_iconst 43 (o_iald 0 (o_iconst 1 (o_i2 (fun x y => x - y) (o_iret))))))) (o_aload 0 (o_getR 8 36 (o_iconst 46 (o_iald 0 (o_iret)))))))))))))))) (o_iload 1 (o_iconst 7 (o_ilt (o_aload 0 (o_getR 8 36 (o_iconst 47 (o_iload 1 (o_i2 (fun x y => x + y) (o_iconst 5 (o_i2 (fun x y => x - y) (o_iald 0 (o_iret))))))))) (o_iload 1 (o_iconst 9 (o_ilt (o_aload 0 (o_getR 8 36 (o_iconst 40 (o_iload 1 (o_i2 (fun x y => x + y) (o_iconst 7 (o_i2 (fun x y => x - y) (o_iald 0 (o_iret))))))))) (o_aload 0 (o_vI orc 162 1 8 (o_iret))))))))))))))))
def P163 (orc : Orc) (b : Nat) : K := match b with
  | 0 => B163_0 orc
  | 1 => B163_1 orc
  | _ => fun _ _ _ => none
def Q163 (b : Nat) : Nat := match b with
  | 0 => 0
  | 1 => 16
  | _ => 0
/-! 164: TruceWallModel.act(II)I -/
def B164_0 (orc : Orc) : K := o_aload 0 (o_iconst 0 (o_putI 8 0 (o_iload 2 (o_iconst 0 (o_iconst 2 (o_sI orc 114 3 (o_if0 (o_iconst (-1) (o_iret)) (o_aload 0 (o_getR 8 36 (o_iconst 43 (o_iald 0 (o_ifp (o_iconst (-1) (o_iret)) (o_aload 0 (o_iconst 0 (o_iload 1 (o_vI orc 152 3 8 (o_if0 (o_iconst (-1) (o_iret)) (o_iload 2 (o_if0 (o_aload 0 (o_getI 8 39 (o_iret))) (o_iload 2 (o_iconst 1 (o_ieq (o_aload 0 (o_getI 8 40 (o_iret))) (o_aload 0 (o_getI 8 41 (o_iret)))))))))))))))))))))))))
def P164 (orc : Orc) (b : Nat) : K := match b with
  | 0 => B164_0 orc
  | _ => fun _ _ _ => none
def Q164 (b : Nat) : Nat := match b with
  | 0 => 0
  | _ => 0
/-! 165: TruceWallModel.isSmall()Z -/
def B165_0 (orc : Orc) : K := o_iconst 1 (o_istore 1 (o_iconst 0 (o_istore 2 (o_jmp 1))))
def B165_1 (orc : Orc) : K := o_iload 2 (o_aload 0 (o_getR 8 10 (o_iconst 0 (o_iald 0 (o_ilt (o_iload 1 (o_iconst 256 (o_igt (o_jmp 2) (o_iload 1 (o_aload 0 (o_getR 8 11 (o_iconst 0 (o_iald 0 (o_iconst 1 (o_i2 (fun x y => x + y) (o_i2 (fun x y => x * y) (o_istore 1 (o_iinc 2 1 (o_jmp 1)))))))))))))) (o_jmp 2))))))
def B165_2 (orc : Orc) : K := o_aload 0 (o_getR 8 10 (o_iconst 0 (o_iald 0 (o_iconst 5 (o_igt (o_iconst 0 (o_zret)) (o_iload 1 (o_iconst 256 (o_igt (o_iconst 0 (o_zret)) (o_iconst 1 (o_zret))))))))))
def P165 (orc : Orc) (b : Nat) : K := match b with
  | 0 => B165_0 orc
  | 1 => B165_1 orc
  | 2 => B165_2 orc
  | _ => fun _ _ _ => none
def Q165 (b : Nat) : Nat := match b with
  | 0 => 0
  | 1 => 4
  | 2 => 38
  | _ => 0
/-! 166: TruceWallModel.wallOf(I)I -/
def B166_0 (orc : Orc) : K := o_iconst 0 (o_istore 2 (o_iconst 0 (o_istore 3 (o_aload 0 (o_getR 8 10 (o_iconst 0 (o_iald 0 (o_iconst 1 (o_i2 (fun x y => x - y) (o_istore 4 (o_jmp 1)))))))))))
def B166_1 (orc : Orc) : K := o_iload 4 (o_ifn (o_iconst 32 (o_iload 2 (o_i2 (fun x y => x * y) (o_iload 3 (o_i2 (fun x y => x + y) (o_iret)))))) (o_iload 2 (o_aload 0 (o_getR 8 11 (o_iconst 0 (o_iald 0 (o_iconst 1 (o_i2 (fun x y => x + y) (o_i2 (fun x y => x * y) (o_aload 0 (o_getR 8 36 (o_iload 1 (o_iload 4 (o_i2 (fun x y => x + y) (o_iald 0 (o_i2 (fun x y => x + y) (o_istore 2 (o_iconst 2 (o_iload 3 (o_i2 (fun x y => x * y) (o_aload 0 (o_getR 8 36 (o_iload 1 (o_iconst 10 (o_i2 (fun x y => x + y) (o_iload 4 (o_i2 (fun x y => x + y) (o_iald 0 (o_ifp (o_iconst 1 (o_jmp 2)) (o_iconst 0 (o_jmp 2)))))))))))))))))))))))))))))))
def B166_2 (orc : Orc) : K := o_i2 (fun x y => x + y) (o_istore 3 (o_iinc 4 (-1) (o_jmp 1)))
def P166 (orc : Orc) (b : Nat) : K := match b with
  | 0 => B166_0 orc
  | 1 => B166_1 orc
  | 2 => B166_2 orc
  | _ => fun _ _ _ => none
def Q166 (b : Nat) : Nat := match b with
  | 0 => 0
  | 1 => 14
  | 2 => 63
  | _ => 0
/-! 167: TruceWallModel.numberOf(I)I -/
def B167_0 (orc : Orc) : K := o_iconst 8 (o_aload 0 (o_iload 1 (o_vI orc 166 2 8 (o_i2 (fun x y => x * y) (o_iconst 4 (o_aload 0 (o_getR 8 36 (o_iload 1 (o_iconst 42 (o_i2 (fun x y => x + y) (o_iald 0 (o_i2 (fun x y => x * y) (o_i2 (fun x y => x + y) (o_iconst 2 (o_aload 0 (o_getR 8 36 (o_iload 1 (o_iconst 40 (o_i2 (fun x y => x + y) (o_iconst 1 (o_i2 (fun x y => x + y) (o_iald 0 (o_i2 (fun x y => x * y) (o_i2 (fun x y => x + y) (o_aload 0 (o_getR 8 36 (o_iload 1 (o_iconst 40 (o_i2 (fun x y => x + y) (o_iald 0 (o_i2 (fun x y => x + y) (o_iret))))))))))))))))))))))))))))))))
def P167 (orc : Orc) (b : Nat) : K := match b with
  | 0 => B167_0 orc
  | _ => fun _ _ _ => none
def Q167 (b : Nat) : Nat := match b with
  | 0 => 0
  | _ => 0
/-! 168: TruceWallModel.laysOut(II)V -/
def B168_0 (orc : Orc) : K := o_iconst 0 (o_istore 3 (o_jmp 1))
def B168_1 (orc : Orc) : K := o_iload 3 (o_iconst 64 (o_ilt (o_aload 0 (o_getR 8 36 (o_iload 1 (o_iload 3 (o_i2 (fun x y => x + y) (o_iconst 0 (o_iast 0 (fun x => x) (o_iinc 3 1 (o_jmp 1))))))))) (o_iload 2 (o_iconst 256 (o_i2z (fun x y => x / y) (o_istore 3 (o_iload 2 (o_iconst 8 (o_i2z (fun x y => x / y) (o_iconst 32 (o_i2z (fun x y => x - x / y * y) (o_istore 4 (o_iconst 0 (o_istore 5 (o_jmp 2)))))))))))))))
def B168_2 (orc : Orc) : K := o_iload 5 (o_aload 0 (o_getR 8 10 (o_iconst 0 (o_iald 0 (o_ilt (o_aload 0 (o_getR 8 36 (o_iload 1 (o_iload 5 (o_i2 (fun x y => x + y) (o_iload 3 (o_aload 0 (o_getR 8 11 (o_iconst 0 (o_iald 0 (o_iconst 1 (o_i2 (fun x y => x + y) (o_i2z (fun x y => x - x / y * y) (o_iast 0 (fun x => x) (o_iload 3 (o_aload 0 (o_getR 8 11 (o_iconst 0 (o_iald 0 (o_iconst 1 (o_i2 (fun x y => x + y) (o_i2z (fun x y => x / y) (o_istore 3 (o_aload 0 (o_getR 8 36 (o_iload 1 (o_iconst 10 (o_i2 (fun x y => x + y) (o_iload 5 (o_i2 (fun x y => x + y) (o_iload 4 (o_iload 5 (o_i2 (fun x y => x >>> (y &&& 31)) (o_iconst 1 (o_i2 (fun x y => x &&& y) (o_iast 0 (fun x => x) (o_iinc 5 1 (o_jmp 2)))))))))))))))))))))))))))))))))))))) (o_aload 0 (o_getR 8 36 (o_iload 1 (o_iconst 42 (o_i2 (fun x y => x + y) (o_iload 2 (o_iconst 4 (o_i2z (fun x y => x / y) (o_iconst 2 (o_i2z (fun x y => x - x / y * y) (o_iast 0 (fun x => x) (o_aload 0 (o_getR 8 36 (o_iload 1 (o_iconst 40 (o_i2 (fun x y => x + y) (o_iconst 1 (o_i2 (fun x y => x + y) (o_iload 2 (o_iconst 2 (o_i2z (fun x y => x / y) (o_iconst 2 (o_i2z (fun x y => x - x / y * y) (o_iast 0 (fun x => x) (o_aload 0 (o_getR 8 36 (o_iload 1 (o_iconst 40 (o_i2 (fun x y => x + y) (o_iload 2 (o_iconst 2 (o_i2z (fun x y => x - x / y * y) (o_iast 0 (fun x => x) (o_aload 0 (o_getR 8 36 (o_iload 1 (o_iconst 45 (o_i2 (fun x y => x + y) (o_aload 0 (o_iload 1 (o_vI orc 166 2 8 (o_if0 (o_iconst 0 (o_jmp 3)) (o_iconst 1 (o_jmp 3)))))))))))))))))))))))))))))))))))))))))))))))))
def B168_3 (orc : Orc) : K := o_iast 0 (fun x => x) (o_aload 0 (o_iload 1 (o_vV orc 142 2 8 (o_vret))))
def P168 (orc : Orc) (b : Nat) : K := match b with
  | 0 => B168_0 orc
  | 1 => B168_1 orc
  | 2 => B168_2 orc
  | 3 => B168_3 orc
  | _ => fun _ _ _ => none
def Q168 (b : Nat) : Nat := match b with
  | 0 => 0
  | 1 => 2
  | 2 => 41
  | 3 => 170
  | _ => 0
/-! 169: TruceWallModel.copies(II)V -/
def B169_0 (orc : Orc) : K := o_iconst 0 (o_istore 3 (o_jmp 1))
def B169_1 (orc : Orc) : K := o_iload 3 (o_iconst 64 (o_ilt (o_aload 0 (o_getR 8 36 (o_iload 2 (o_iload 3 (o_i2 (fun x y => x + y) (o_aload 0 (o_getR 8 36 (o_iload 1 (o_iload 3 (o_i2 (fun x y => x + y) (o_iald 0 (o_iast 0 (fun x => x) (o_iinc 3 1 (o_jmp 1)))))))))))))) (o_vret)))
def P169 (orc : Orc) (b : Nat) : K := match b with
  | 0 => B169_0 orc
  | 1 => B169_1 orc
  | _ => fun _ _ _ => none
def Q169 (b : Nat) : Nat := match b with
  | 0 => 0
  | 1 => 2
  | _ => 0
/-! 170: TruceWallModel.knows()V -/
def B170_0 (orc : Orc) : K := o_aload 0 (o_getI 8 44 (o_if0 (o_aload 0 (o_iconst 1 (o_putZ 8 44 (o_iconst 0 (o_istore 1 (o_jmp 1)))))) (o_vret)))
def B170_1 (orc : Orc) : K := o_iload 1 (o_iconst 65536 (o_ilt (o_aload 0 (o_getR 8 42 (o_iload 1 (o_iconst 0 (o_iast 3 (fun x => vp_nar .byte x) (o_iinc 1 1 (o_jmp 1))))))) (o_vret)))
def P170 (orc : Orc) (b : Nat) : K := match b with
  | 0 => B170_0 orc
  | 1 => B170_1 orc
  | _ => fun _ _ _ => none
def Q170 (b : Nat) : Nat := match b with
  | 0 => 0
  | 1 => 15
  | _ => 0
/-! 171: TruceWallModel.isBetter(IIIII)Z -/
def B171_0 (orc : Orc) : K := o_iload 1 (o_iload 3 (o_ieq (o_iload 1 (o_iconst 1 (o_iload 0 (o_i2 (fun x y => x + y) (o_ieq (o_iload 2 (o_iload 4 (o_igt (o_iconst 1 (o_zret)) (o_iconst 0 (o_zret))))) (o_iload 2 (o_iload 4 (o_ilt (o_iconst 1 (o_zret)) (o_iconst 0 (o_zret)))))))))) (o_iload 3 (o_iconst 1 (o_iload 0 (o_i2 (fun x y => x + y) (o_ieq (o_iconst 1 (o_zret)) (o_iconst 0 (o_zret)))))))))
def P171 (orc : Orc) (b : Nat) : K := match b with
  | 0 => B171_0 orc
  | _ => fun _ _ _ => none
def Q171 (b : Nat) : Nat := match b with
  | 0 => 0
  | _ => 0
/-! 172: TruceWallModel.solves(I)I -/
def B172_0 (orc : Orc) : K := o_aload 0 (o_iload 1 (o_vI orc 167 2 8 (o_istore 2 (o_aload 0 (o_getR 8 42 (o_iload 2 (o_iald 3 (o_ifp (o_iload 2 (o_iret)) (o_aload 0 (o_getR 8 36 (o_iload 1 (o_iconst 43 (o_i2 (fun x y => x + y) (o_iald 0 (o_istore 3 (o_iconst 0 (o_istore 4 (o_iload 3 (o_ifp (o_iconst 1 (o_jmp 1)) (o_iconst 0 (o_jmp 1)))))))))))))))))))))
def B172_1 (orc : Orc) : K := o_istore 5 (o_iload 5 (o_if0 (o_aload 0 (o_iload 1 (o_iconst (-1) (o_vI orc 149 3 8 (o_jmp 2))))) (o_iconst (-1) (o_jmp 2))))
def B172_2 (orc : Orc) : K := o_istore 6 (o_jmp 3)
def B172_3 (orc : Orc) : K := o_iload 6 (o_ifn (o_aload 0 (o_getR 8 42 (o_iload 2 (o_iload 3 (o_i1 (fun x => x.toInt8.toInt32) (o_iast 3 (fun x => vp_nar .byte x) (o_aload 0 (o_getR 8 43 (o_iload 2 (o_iload 4 (o_i1 (fun x => x.toInt8.toInt32) (o_iast 3 (fun x => vp_nar .byte x) (o_iload 2 (o_iret)))))))))))))) (o_iload 1 (o_iconst 64 (o_i2 (fun x y => x + y) (o_istore 7 (o_aload 0 (o_iload 1 (o_iload 7 (o_vV orc 169 3 8 (o_aload 0 (o_iload 7 (o_aload 0 (o_getI 8 39 (o_aload 0 (o_getI 8 40 (o_aload 0 (o_getI 8 41 (o_vV orc 154 5 8 (o_aload 0 (o_iload 7 (o_vI orc 172 2 8 (o_istore 8 (o_iload 5 (o_if0 (o_jmp 4) (o_aload 0 (o_getR 8 36 (o_iload 1 (o_iconst 42 (o_i2 (fun x y => x + y) (o_iald 0 (o_aload 0 (o_getR 8 42 (o_iload 8 (o_iald 3 (o_aload 0 (o_getR 8 43 (o_iload 8 (o_iald 3 (o_iconst 1 (o_i2 (fun x y => x + y) (o_iload 3 (o_iload 4 (o_sI orc 171 5 (o_if0 (o_jmp 5) (o_jmp 4)))))))))))))))))))))))))))))))))))))))))))))
def B172_4 (orc : Orc) : K := o_iconst 1 (o_istore 5 (o_aload 0 (o_getR 8 42 (o_iload 8 (o_iald 3 (o_istore 3 (o_aload 0 (o_getR 8 43 (o_iload 8 (o_iald 3 (o_iconst 1 (o_i2 (fun x y => x + y) (o_istore 4 (o_jmp 5))))))))))))))
def B172_5 (orc : Orc) : K := o_aload 0 (o_iload 1 (o_iload 6 (o_vI orc 149 3 8 (o_istore 6 (o_jmp 3)))))
def P172 (orc : Orc) (b : Nat) : K := match b with
  | 0 => B172_0 orc
  | 1 => B172_1 orc
  | 2 => B172_2 orc
  | 3 => B172_3 orc
  | 4 => B172_4 orc
  | 5 => B172_5 orc
  | _ => fun _ _ _ => none
def Q172 (b : Nat) : Nat := match b with
  | 0 => 0
  | 1 => 39
  | 2 => 56
  | 3 => 58
  | 4 => 144
  | 5 => 166
  | _ => 0
/-! 173: TruceWallModel.now()I -/
def B173_0 (orc : Orc) : K := o_aload 0 (o_vV orc 170 1 8 (o_aload 0 (o_iconst 0 (o_iconst 64 (o_vV orc 169 3 8 (o_aload 0 (o_iconst 64 (o_vI orc 172 2 8 (o_iret)))))))))
def P173 (orc : Orc) (b : Nat) : K := match b with
  | 0 => B173_0 orc
  | _ => fun _ _ _ => none
def Q173 (b : Nat) : Nat := match b with
  | 0 => 0
  | _ => 0
/-! 174: TruceWallModel.pays()I -/
def B174_0 (orc : Orc) : K := o_aload 0 (o_iconst 0 (o_putI 8 0 (o_aload 0 (o_vI orc 165 1 8 (o_if0 (o_iconst (-1) (o_iret)) (o_aload 0 (o_getR 8 42 (o_aload 0 (o_vI orc 173 1 8 (o_iald 3 (o_iconst 1 (o_i2 (fun x y => x - y) (o_iret)))))))))))))
def P174 (orc : Orc) (b : Nat) : K := match b with
  | 0 => B174_0 orc
  | _ => fun _ _ _ => none
def Q174 (b : Nat) : Nat := match b with
  | 0 => 0
  | _ => 0
/-! 175: TruceWallModel.days()I -/
def B175_0 (orc : Orc) : K := o_aload 0 (o_iconst 0 (o_putI 8 0 (o_aload 0 (o_vI orc 165 1 8 (o_if0 (o_iconst (-1) (o_iret)) (o_aload 0 (o_getR 8 43 (o_aload 0 (o_vI orc 173 1 8 (o_iald 3 (o_iret)))))))))))
def P175 (orc : Orc) (b : Nat) : K := match b with
  | 0 => B175_0 orc
  | _ => fun _ _ _ => none
def Q175 (b : Nat) : Nat := match b with
  | 0 => 0
  | _ => 0
/-! 176: TruceWallModel.behind(I)I -/
def B176_0 (orc : Orc) : K := o_aload 0 (o_vV orc 170 1 8 (o_aload 0 (o_getR 8 36 (o_iconst 43 (o_iald 0 (o_ifp (o_iconst (-1) (o_iret)) (o_aload 0 (o_iconst 0 (o_iload 1 (o_vI orc 152 3 8 (o_if0 (o_iconst (-1) (o_iret)) (o_aload 0 (o_iconst 0 (o_iconst 64 (o_vV orc 169 3 8 (o_aload 0 (o_iconst 64 (o_aload 0 (o_getI 8 39 (o_aload 0 (o_getI 8 40 (o_aload 0 (o_getI 8 41 (o_vV orc 154 5 8 (o_aload 0 (o_iconst 64 (o_vI orc 172 2 8 (o_iret))))))))))))))))))))))))))))
def P176 (orc : Orc) (b : Nat) : K := match b with
  | 0 => B176_0 orc
  | _ => fun _ _ _ => none
def Q176 (b : Nat) : Nat := match b with
  | 0 => 0
  | _ => 0
/-! 177: TruceWallModel.best()I -/
def B177_0 (orc : Orc) : K := o_aload 0 (o_iconst 0 (o_putI 8 0 (o_aload 0 (o_vI orc 165 1 8 (o_if0 (o_iconst (-1) (o_iret)) (o_aload 0 (o_getR 8 36 (o_iconst 43 (o_iald 0 (o_ifp (o_iconst (-1) (o_iret)) (o_aload 0 (o_vI orc 173 1 8 (o_istore 1 (o_iconst 0 (o_istore 2 (o_jmp 1))))))))))))))))
def B177_1 (orc : Orc) : K := o_aload 0 (o_iload 2 (o_vI orc 176 2 8 (o_istore 3 (o_aload 0 (o_getR 8 42 (o_iload 3 (o_iald 3 (o_aload 0 (o_getR 8 42 (o_iload 1 (o_iald 3 (o_ieq (o_aload 0 (o_getR 8 43 (o_iload 3 (o_iald 3 (o_iconst 1 (o_i2 (fun x y => x + y) (o_aload 0 (o_getR 8 43 (o_iload 1 (o_iald 3 (o_ieq (o_iload 2 (o_iret)) (o_jmp 2)))))))))))) (o_jmp 2)))))))))))))
def B177_2 (orc : Orc) : K := o_iinc 2 1 (o_jmp 1)
def P177 (orc : Orc) (b : Nat) : K := match b with
  | 0 => B177_0 orc
  | 1 => B177_1 orc
  | 2 => B177_2 orc
  | _ => fun _ _ _ => none
def Q177 (b : Nat) : Nat := match b with
  | 0 => 0
  | 1 => 31
  | 2 => 71
  | _ => 0
/-! 178: TruceWallModel.holds(I)I -/
def B178_0 (orc : Orc) : K := o_aload 0 (o_iconst 0 (o_putI 8 0 (o_aload 0 (o_vI orc 165 1 8 (o_if0 (o_iconst (-1) (o_iret)) (o_aload 0 (o_iload 1 (o_vI orc 176 2 8 (o_istore 2 (o_iload 2 (o_ifn (o_iconst (-1) (o_iret)) (o_aload 0 (o_getR 8 43 (o_iload 2 (o_iald 3 (o_iconst 1 (o_i2 (fun x y => x + y) (o_iret))))))))))))))))))
def P178 (orc : Orc) (b : Nat) : K := match b with
  | 0 => B178_0 orc
  | _ => fun _ _ _ => none
def Q178 (b : Nat) : Nat := match b with
  | 0 => 0
  | _ => 0
/-! 179: TruceWallModel.ruled(II)I -/
def B179_0 (orc : Orc) : K := o_iconst (-1) (o_istore 3 (o_iconst 0 (o_istore 4 (o_aload 0 (o_iload 1 (o_iconst (-1) (o_vI orc 149 3 8 (o_istore 5 (o_jmp 1)))))))))
def B179_1 (orc : Orc) : K := o_iload 5 (o_ifn (o_iload 3 (o_iret)) (o_aload 0 (o_getR 8 36 (o_iload 1 (o_aload 0 (o_getI 8 40 (o_i2 (fun x y => x + y) (o_iald 0 (o_istore 6 (o_iload 3 (o_ifn (o_jmp 2) (o_iload 2 (o_iconst 1 (o_ieq (o_jmp 2) (o_iload 2 (o_if0 (o_jmp 3) (o_iload 6 (o_iload 4 (o_ilt (o_jmp 2) (o_jmp 3))))))))))))))))))))
def B179_2 (orc : Orc) : K := o_iload 5 (o_istore 3 (o_iload 6 (o_istore 4 (o_jmp 3))))
def B179_3 (orc : Orc) : K := o_aload 0 (o_iload 1 (o_iload 5 (o_vI orc 149 3 8 (o_istore 5 (o_jmp 1)))))
def P179 (orc : Orc) (b : Nat) : K := match b with
  | 0 => B179_0 orc
  | 1 => B179_1 orc
  | 2 => B179_2 orc
  | 3 => B179_3 orc
  | _ => fun _ _ _ => none
def Q179 (b : Nat) : Nat := match b with
  | 0 => 0
  | 1 => 13
  | 2 => 54
  | 3 => 61
  | _ => 0
/-! 180: TruceWallModel.masons(III)I -/
def B180_0 (orc : Orc) : K := o_aload 0 (o_iload 1 (o_vI orc 167 2 8 (o_istore 4 (o_aload 0 (o_getR 8 45 (o_iload 4 (o_iald 3 (o_ifp (o_aload 0 (o_getR 8 45 (o_iload 4 (o_iald 3 (o_iret))))) (o_aload 0 (o_getR 8 36 (o_iload 1 (o_iconst 43 (o_i2 (fun x y => x + y) (o_iald 0 (o_istore 5 (o_aload 0 (o_getR 8 36 (o_iload 1 (o_iconst 42 (o_i2 (fun x y => x + y) (o_iald 0 (o_iload 2 (o_ieq (o_iconst 1 (o_jmp 1)) (o_iconst 0 (o_jmp 1)))))))))))))))))))))))))
def B180_1 (orc : Orc) : K := o_istore 6 (o_iload 6 (o_if0 (o_jmp 2) (o_iload 5 (o_if0 (o_aload 0 (o_iload 1 (o_iload 3 (o_vI orc 179 3 8 (o_jmp 3))))) (o_jmp 2)))))
def B180_2 (orc : Orc) : K := o_iconst (-1) (o_jmp 3)
def B180_3 (orc : Orc) : K := o_istore 7 (o_iload 5 (o_ifp (o_iconst (-1) (o_jmp 4)) (o_iload 6 (o_if0 (o_aload 0 (o_iload 1 (o_iconst (-1) (o_vI orc 149 3 8 (o_jmp 4))))) (o_aload 0 (o_iload 1 (o_iload 7 (o_iconst 1 (o_i2 (fun x y => x - y) (o_vI orc 149 3 8 (o_jmp 4)))))))))))
def B180_4 (orc : Orc) : K := o_istore 8 (o_jmp 5)
def B180_5 (orc : Orc) : K := o_iload 8 (o_ifn (o_jmp 7) (o_iload 1 (o_iconst 64 (o_i2 (fun x y => x + y) (o_istore 9 (o_aload 0 (o_iload 1 (o_iload 9 (o_vV orc 169 3 8 (o_aload 0 (o_iload 9 (o_aload 0 (o_getI 8 39 (o_aload 0 (o_getI 8 40 (o_aload 0 (o_getI 8 41 (o_vV orc 154 5 8 (o_aload 0 (o_iload 9 (o_iload 2 (o_iload 3 (o_vI orc 180 4 8 (o_istore 10 (o_iload 5 (o_iconst 1 (o_iload 2 (o_i2 (fun x y => x + y) (o_ieq (o_iload 5 (o_jmp 6)) (o_iload 10 (o_jmp 6)))))))))))))))))))))))))))))))
def B180_6 (orc : Orc) : K := o_istore 5 (o_iload 6 (o_if0 (o_iload 5 (o_iconst 1 (o_iload 2 (o_i2 (fun x y => x + y) (o_ieq (o_jmp 7) (o_aload 0 (o_iload 1 (o_iload 8 (o_vI orc 149 3 8 (o_istore 8 (o_jmp 5))))))))))) (o_jmp 7)))
def B180_7 (orc : Orc) : K := o_aload 0 (o_getR 8 45 (o_iload 4 (o_iload 5 (o_i1 (fun x => x.toInt8.toInt32) (o_iast 3 (fun x => vp_nar .byte x) (o_iload 5 (o_iret)))))))
def P180 (orc : Orc) (b : Nat) : K := match b with
  | 0 => B180_0 orc
  | 1 => B180_1 orc
  | 2 => B180_2 orc
  | 3 => B180_3 orc
  | 4 => B180_4 orc
  | 5 => B180_5 orc
  | 6 => B180_6 orc
  | 7 => B180_7 orc
  | _ => fun _ _ _ => none
def Q180 (b : Nat) : Nat := match b with
  | 0 => 0
  | 1 => 54
  | 2 => 75
  | 3 => 76
  | 4 => 110
  | 5 => 112
  | 6 => 173
  | 7 => 203
  | _ => 0
/-! 181: TruceWallModel.mason(II)I -/
def B181_0 (orc : Orc) : K := o_aload 0 (o_iconst 0 (o_putI 8 0 (o_iload 1 (o_iconst 0 (o_iconst 1 (o_sI orc 114 3 (o_if0 (o_iconst (-1) (o_iret)) (o_iload 2 (o_iconst 0 (o_iconst 2 (o_sI orc 114 3 (o_if0 (o_iconst (-1) (o_iret)) (o_aload 0 (o_vI orc 165 1 8 (o_if0 (o_iconst (-1) (o_iret)) (o_iconst 0 (o_istore 3 (o_jmp 1))))))))))))))))))
def B181_1 (orc : Orc) : K := o_iload 3 (o_iconst 65536 (o_ilt (o_aload 0 (o_getR 8 45 (o_iload 3 (o_iconst 0 (o_iast 3 (fun x => vp_nar .byte x) (o_iinc 3 1 (o_jmp 1))))))) (o_aload 0 (o_iconst 0 (o_iconst 64 (o_vV orc 169 3 8 (o_aload 0 (o_iconst 64 (o_iload 1 (o_iload 2 (o_vI orc 180 4 8 (o_iconst 1 (o_i2 (fun x y => x - y) (o_iret))))))))))))))
def P181 (orc : Orc) (b : Nat) : K := match b with
  | 0 => B181_0 orc
  | 1 => B181_1 orc
  | _ => fun _ _ _ => none
def Q181 (b : Nat) : Nat := match b with
  | 0 => 0
  | 1 => 34
  | _ => 0
/-! 182: TruceWallModel.goesOn(Z)V -/
def B182_0 (orc : Orc) : K := o_iconst 0 (o_istore 2 (o_jmp 1))
def B182_1 (orc : Orc) : K := o_iload 2 (o_iconst 65536 (o_ilt (o_aload 0 (o_getR 8 47 (o_iload 2 (o_iconst 0 (o_iast 0 (fun x => x) (o_iinc 2 1 (o_jmp 1))))))) (o_iconst 0 (o_istore 2 (o_jmp 2)))))
def B182_2 (orc : Orc) : K := o_iload 2 (o_iconst 65536 (o_ilt (o_aload 0 (o_getR 8 46 (o_iload 2 (o_iald 0 (o_if0 (o_jmp 5) (o_aload 0 (o_iconst 64 (o_iload 2 (o_vV orc 168 3 8 (o_aload 0 (o_getR 8 36 (o_iconst 107 (o_iald 0 (o_ifp (o_jmp 5) (o_aload 0 (o_iconst 64 (o_iconst (-1) (o_vI orc 149 3 8 (o_istore 3 (o_jmp 3)))))))))))))))))))) (o_iconst 0 (o_istore 2 (o_jmp 6)))))
def B182_3 (orc : Orc) : K := o_iload 3 (o_ifn (o_jmp 5) (o_aload 0 (o_iconst 64 (o_iconst 128 (o_vV orc 169 3 8 (o_aload 0 (o_iconst 128 (o_aload 0 (o_getI 8 39 (o_aload 0 (o_getI 8 40 (o_aload 0 (o_getI 8 41 (o_vV orc 154 5 8 (o_aload 0 (o_iconst 128 (o_vI orc 167 2 8 (o_istore 4 (o_aload 0 (o_getR 8 47 (o_iload 4 (o_iload 1 (o_if0 (o_iconst 1 (o_jmp 4)) (o_aload 0 (o_getR 8 47 (o_iload 4 (o_iald 0 (o_i2l (o_aload 0 (o_getR 8 46 (o_iload 2 (o_iald 0 (o_i2l (o_l2 (fun x y => x + y) (o_lconst 1000000007 (o_l2z (fun x y => x - x / y * y) (o_l2i (o_jmp 4))))))))))))))))))))))))))))))))))))))
def B182_4 (orc : Orc) : K := o_iast 0 (fun x => x) (o_aload 0 (o_iconst 64 (o_iload 3 (o_vI orc 149 3 8 (o_istore 3 (o_jmp 3))))))
def B182_5 (orc : Orc) : K := o_iinc 2 1 (o_jmp 2)
def B182_6 (orc : Orc) : K := o_iload 2 (o_iconst 65536 (o_ilt (o_aload 0 (o_getR 8 46 (o_iload 2 (o_aload 0 (o_getR 8 47 (o_iload 2 (o_iald 0 (o_iast 0 (fun x => x) (o_iinc 2 1 (o_jmp 6)))))))))) (o_vret)))
def P182 (orc : Orc) (b : Nat) : K := match b with
  | 0 => B182_0 orc
  | 1 => B182_1 orc
  | 2 => B182_2 orc
  | 3 => B182_3 orc
  | 4 => B182_4 orc
  | 5 => B182_5 orc
  | 6 => B182_6 orc
  | _ => fun _ _ _ => none
def Q182 (b : Nat) : Nat := match b with
  | 0 => 0
  | 1 => 2
  | 2 => 23
  | 3 => 69
  | 4 => 145
  | 5 => 157
  | 6 => 165
  | _ => 0
/-! 183: TruceWallModel.reached(I)I -/
def B183_0 (orc : Orc) : K := o_aload 0 (o_iconst 0 (o_putI 8 0 (o_iload 1 (o_iconst 0 (o_iconst 30 (o_sI orc 114 3 (o_if0 (o_iconst (-1) (o_iret)) (o_aload 0 (o_vI orc 165 1 8 (o_if0 (o_iconst (-1) (o_iret)) (o_iconst 0 (o_istore 2 (o_jmp 1)))))))))))))
def B183_1 (orc : Orc) : K := o_iload 2 (o_iconst 65536 (o_ilt (o_aload 0 (o_getR 8 46 (o_iload 2 (o_iconst 0 (o_iast 0 (fun x => x) (o_iinc 2 1 (o_jmp 1))))))) (o_aload 0 (o_getR 8 46 (o_aload 0 (o_iconst 0 (o_vI orc 167 2 8 (o_iconst 1 (o_iast 0 (fun x => x) (o_iconst 0 (o_istore 2 (o_jmp 2))))))))))))
def B183_2 (orc : Orc) : K := o_iload 2 (o_iload 1 (o_ilt (o_aload 0 (o_iconst 0 (o_vV orc 182 2 8 (o_iinc 2 1 (o_jmp 2))))) (o_iconst 0 (o_istore 2 (o_iconst 0 (o_istore 3 (o_jmp 3)))))))
def B183_3 (orc : Orc) : K := o_iload 3 (o_iconst 8192 (o_ilt (o_iconst 0 (o_istore 4 (o_iconst 0 (o_istore 5 (o_jmp 4))))) (o_iload 2 (o_iret))))
def B183_4 (orc : Orc) : K := o_iload 5 (o_iconst 8 (o_ilt (o_iload 4 (o_if0 (o_aload 0 (o_getR 8 46 (o_iconst 8 (o_iload 3 (o_i2 (fun x y => x * y) (o_iload 5 (o_i2 (fun x y => x + y) (o_iald 0 (o_ifp (o_jmp 5) (o_iconst 0 (o_jmp 6))))))))))) (o_jmp 5))) (o_iload 2 (o_iload 4 (o_if0 (o_iconst 0 (o_jmp 7)) (o_iconst 1 (o_jmp 7)))))))
def B183_5 (orc : Orc) : K := o_iconst 1 (o_jmp 6)
def B183_6 (orc : Orc) : K := o_istore 4 (o_iinc 5 1 (o_jmp 4))
def B183_7 (orc : Orc) : K := o_i2 (fun x y => x + y) (o_istore 2 (o_iinc 3 1 (o_jmp 3)))
def P183 (orc : Orc) (b : Nat) : K := match b with
  | 0 => B183_0 orc
  | 1 => B183_1 orc
  | 2 => B183_2 orc
  | 3 => B183_3 orc
  | 4 => B183_4 orc
  | 5 => B183_5 orc
  | 6 => B183_6 orc
  | 7 => B183_7 orc
  | _ => fun _ _ _ => none
def Q183 (b : Nat) : Nat := match b with
  | 0 => 0
  | 1 => 26
  | 2 => 58
  | 3 => 78
  | 4 => 91
  | 5 => 118
  | 6 => 123
  | 7 => 142
  | _ => 0
/-! 184: TruceWallModel.histories(I)I -/
def B184_0 (orc : Orc) : K := o_aload 0 (o_iconst 0 (o_putI 8 0 (o_iload 1 (o_iconst 0 (o_iconst 30 (o_sI orc 114 3 (o_if0 (o_iconst (-1) (o_iret)) (o_aload 0 (o_vI orc 165 1 8 (o_if0 (o_iconst (-1) (o_iret)) (o_iconst 0 (o_istore 2 (o_jmp 1)))))))))))))
def B184_1 (orc : Orc) : K := o_iload 2 (o_iconst 65536 (o_ilt (o_aload 0 (o_getR 8 46 (o_iload 2 (o_iconst 0 (o_iast 0 (fun x => x) (o_iinc 2 1 (o_jmp 1))))))) (o_aload 0 (o_iconst 64 (o_vV orc 140 2 8 (o_aload 0 (o_getR 8 46 (o_aload 0 (o_iconst 64 (o_vI orc 167 2 8 (o_iconst 1 (o_iast 0 (fun x => x) (o_iconst 0 (o_istore 2 (o_jmp 2)))))))))))))))
def B184_2 (orc : Orc) : K := o_iload 2 (o_iload 1 (o_ilt (o_aload 0 (o_iconst 1 (o_vV orc 182 2 8 (o_iinc 2 1 (o_jmp 2))))) (o_lconst 0 (o_lstore 2 (o_iconst 0 (o_istore 4 (o_jmp 3)))))))
def B184_3 (orc : Orc) : K := o_iload 4 (o_iconst 8 (o_ilt (o_lload 2 (o_aload 0 (o_getR 8 46 (o_iconst 8 (o_aload 0 (o_iconst 0 (o_vI orc 166 2 8 (o_i2 (fun x y => x * y) (o_iload 4 (o_i2 (fun x y => x + y) (o_iald 0 (o_i2l (o_l2 (fun x y => x + y) (o_lstore 2 (o_iinc 4 1 (o_jmp 3)))))))))))))))) (o_lload 2 (o_lconst 1000000007 (o_l2z (fun x y => x - x / y * y) (o_l2i (o_iret)))))))
def P184 (orc : Orc) (b : Nat) : K := match b with
  | 0 => B184_0 orc
  | 1 => B184_1 orc
  | 2 => B184_2 orc
  | 3 => B184_3 orc
  | _ => fun _ _ _ => none
def Q184 (b : Nat) : Nat := match b with
  | 0 => 0
  | 1 => 26
  | 2 => 65
  | 3 => 86
  | _ => 0
/-! 185: TruceWallModel.draws(I)I -/
def B185_0 (orc : Orc) : K := o_aload 0 (o_aload 0 (o_getL 8 48 (o_lconst 1103515245 (o_l2 (fun x y => x * y) (o_lconst 12345 (o_l2 (fun x y => x + y) (o_lconst 2147483648 (o_l2z (fun x y => x - x / y * y) (o_putL 8 48 (o_aload 0 (o_getL 8 48 (o_lconst 65536 (o_l2z (fun x y => x / y) (o_iload 1 (o_i2l (o_l2z (fun x y => x - x / y * y) (o_l2i (o_iret))))))))))))))))))
def P185 (orc : Orc) (b : Nat) : K := match b with
  | 0 => B185_0 orc
  | _ => fun _ _ _ => none
def Q185 (b : Nat) : Nat := match b with
  | 0 => 0
  | _ => 0
/-! 186: TruceWallModel.lots(III)I -/
def B186_0 (orc : Orc) : K := o_aload 0 (o_iconst 0 (o_putI 8 0 (o_iload 1 (o_iconst 0 (o_iconst 9999 (o_sI orc 114 3 (o_if0 (o_iconst (-1) (o_iret)) (o_iload 2 (o_iconst 1 (o_iconst 100 (o_sI orc 114 3 (o_if0 (o_iconst (-1) (o_iret)) (o_iload 3 (o_iconst 0 (o_iconst 1 (o_sI orc 114 3 (o_if0 (o_iconst (-1) (o_iret)) (o_aload 0 (o_iload 1 (o_i2l (o_putL 8 48 (o_iconst 0 (o_istore 4 (o_iconst 0 (o_istore 5 (o_iconst 0 (o_istore 6 (o_jmp 1))))))))))))))))))))))))))))
def B186_1 (orc : Orc) : K := o_iload 6 (o_iload 2 (o_ilt (o_aload 0 (o_iconst 0 (o_iconst 64 (o_vV orc 169 3 8 (o_jmp 2))))) (o_iload 3 (o_if0 (o_iload 4 (o_iret)) (o_iload 5 (o_iret))))))
def B186_2 (orc : Orc) : K := o_aload 0 (o_getR 8 36 (o_iconst 107 (o_iald 0 (o_if0 (o_aload 0 (o_iconst 64 (o_aload 0 (o_aload 0 (o_iconst 64 (o_vI orc 151 2 8 (o_vI orc 185 2 8 (o_vI orc 152 3 8 (o_pop (o_aload 0 (o_iconst 64 (o_aload 0 (o_getI 8 39 (o_aload 0 (o_getI 8 40 (o_aload 0 (o_getI 8 41 (o_vV orc 154 5 8 (o_iinc 5 1 (o_jmp 2)))))))))))))))))))) (o_iload 4 (o_aload 0 (o_getR 8 36 (o_iconst 107 (o_iald 0 (o_iconst 1 (o_ieq (o_iconst 1 (o_jmp 3)) (o_iconst 0 (o_jmp 3)))))))))))))
def B186_3 (orc : Orc) : K := o_i2 (fun x y => x + y) (o_istore 4 (o_iinc 6 1 (o_jmp 1)))
def P186 (orc : Orc) (b : Nat) : K := match b with
  | 0 => B186_0 orc
  | 1 => B186_1 orc
  | 2 => B186_2 orc
  | 3 => B186_3 orc
  | _ => fun _ _ _ => none
def Q186 (b : Nat) : Nat := match b with
  | 0 => 0
  | 1 => 52
  | 2 => 65
  | 3 => 134
  | _ => 0
/-! 187: TruceWallModel.mark(IZ)Z -/
def B187_0 (orc : Orc) : K := o_aload 0 (o_iconst 0 (o_putI 8 0 (o_iload 1 (o_iconst 0 (o_iconst 3 (o_sI orc 114 3 (o_if0 (o_iconst 0 (o_zret)) (o_iload 2 (o_if0 (o_jmp 1) (o_aload 0 (o_getR 8 49 (o_iload 1 (o_iald 4 (o_if0 (o_iconst 0 (o_zret)) (o_jmp 1)))))))))))))))
def B187_1 (orc : Orc) : K := o_aload 0 (o_getR 8 49 (o_iload 1 (o_iconst 1 (o_iast 4 (fun x => vp_nar .boolean x) (o_iconst 3904 (o_iload 1 (o_i2 (fun x y => x * y) (o_istore 3 (o_iload 2 (o_if0 (o_aload 0 (o_iconst 0 (o_iconst 2 (o_iload 1 (o_i2 (fun x y => x + y) (o_vV orc 137 3 8 (o_iconst 0 (o_istore 4 (o_jmp 4))))))))) (o_aload 0 (o_iconst 2 (o_iload 1 (o_i2 (fun x y => x + y) (o_iconst 0 (o_vV orc 137 3 8 (o_aload 0 (o_iconst 0 (o_putZ 8 44 (o_iconst 0 (o_istore 4 (o_jmp 2))))))))))))))))))))))
def B187_2 (orc : Orc) : K := o_iload 4 (o_iconst 64 (o_ilt (o_aload 0 (o_getR 8 36 (o_iload 4 (o_aload 0 (o_getR 8 50 (o_iload 3 (o_iload 4 (o_i2 (fun x y => x + y) (o_iald 0 (o_iast 0 (fun x => x) (o_iinc 4 1 (o_jmp 2)))))))))))) (o_iconst 0 (o_istore 4 (o_jmp 3)))))
def B187_3 (orc : Orc) : K := o_iload 4 (o_iconst 3840 (o_ilt (o_aload 0 (o_getR 8 37 (o_iload 4 (o_aload 0 (o_getR 8 50 (o_iload 3 (o_iconst 64 (o_i2 (fun x y => x + y) (o_iload 4 (o_i2 (fun x y => x + y) (o_iald 0 (o_iast 0 (fun x => x) (o_iinc 4 1 (o_jmp 3)))))))))))))) (o_aload 0 (o_aload 0 (o_getR 8 51 (o_iload 1 (o_iald 0 (o_putI 8 38 (o_iconst 1 (o_zret))))))))))
def B187_4 (orc : Orc) : K := o_iload 4 (o_iconst 64 (o_ilt (o_aload 0 (o_getR 8 50 (o_iload 3 (o_iload 4 (o_i2 (fun x y => x + y) (o_aload 0 (o_getR 8 36 (o_iload 4 (o_iald 0 (o_iast 0 (fun x => x) (o_iinc 4 1 (o_jmp 4)))))))))))) (o_iconst 0 (o_istore 4 (o_jmp 5)))))
def B187_5 (orc : Orc) : K := o_iload 4 (o_iconst 3840 (o_ilt (o_aload 0 (o_getR 8 50 (o_iload 3 (o_iconst 64 (o_i2 (fun x y => x + y) (o_iload 4 (o_i2 (fun x y => x + y) (o_aload 0 (o_getR 8 37 (o_iload 4 (o_iald 0 (o_iast 0 (fun x => x) (o_iinc 4 1 (o_jmp 5)))))))))))))) (o_aload 0 (o_getR 8 51 (o_iload 1 (o_aload 0 (o_getI 8 38 (o_iast 0 (fun x => x) (o_iconst 1 (o_zret))))))))))
def P187 (orc : Orc) (b : Nat) : K := match b with
  | 0 => B187_0 orc
  | 1 => B187_1 orc
  | 2 => B187_2 orc
  | 3 => B187_3 orc
  | 4 => B187_4 orc
  | 5 => B187_5 orc
  | _ => fun _ _ _ => none
def Q187 (b : Nat) : Nat := match b with
  | 0 => 0
  | 1 => 29
  | 2 => 62
  | 3 => 94
  | 4 => 150
  | 5 => 182
  | _ => 0
/-! 188: TruceWallModel.count(I)I -/
def B188_0 (orc : Orc) : K := o_aload 0 (o_iconst 0 (o_putI 8 0 (o_iload 1 (o_iconst 0 (o_iconst 5 (o_sI orc 114 3 (o_if0 (o_iconst (-1) (o_iret)) (o_iload 1 (o_if0 (o_aload 0 (o_getR 8 10 (o_iconst 0 (o_iald 0 (o_iret))))) (o_iload 1 (o_iconst 1 (o_ieq (o_aload 0 (o_getR 8 11 (o_iconst 0 (o_iald 0 (o_iret))))) (o_iload 1 (o_iconst 2 (o_ieq (o_aload 0 (o_getR 8 12 (o_iconst 0 (o_iald 0 (o_iret))))) (o_iload 1 (o_iconst 3 (o_ieq (o_aload 0 (o_vI orc 165 1 8 (o_if0 (o_iconst 0 (o_iret)) (o_iconst 1 (o_iret))))) (o_iload 1 (o_iconst 4 (o_ieq (o_aload 0 (o_getI 8 38 (o_iret))) (o_aload 0 (o_getI 8 1 (o_iret))))))))))))))))))))))))
def P188 (orc : Orc) (b : Nat) : K := match b with
  | 0 => B188_0 orc
  | _ => fun _ _ _ => none
def Q188 (b : Nat) : Nat := match b with
  | 0 => 0
  | _ => 0
/-! 189: java/lang/String.charAt(I)C -/
def B189_0 (orc : Orc) : K := o_sload 0 (o_wI orc 190 1 (o_if0 (o_bad) (o_sload 0 (o_sval (o_iload 1 (o_sI orc 191 2 (o_cret)))))))
def P189 (orc : Orc) (b : Nat) : K := match b with
  | 0 => B189_0 orc
  | _ => fun _ _ _ => none
def Q189 (b : Nat) : Nat := match b with
  | 0 => 0
  | _ => 0
/-! 190: java/lang/String.isLatin1()Z -/
def B190_0 (orc : Orc) : K := o_iconst 1 (o_if0 (o_iconst 0 (o_zret)) (o_sload 0 (o_scod (o_if0 (o_iconst 1 (o_zret)) (o_iconst 0 (o_zret))))))
def P190 (orc : Orc) (b : Nat) : K := match b with
  | 0 => B190_0 orc
  | _ => fun _ _ _ => none
def Q190 (b : Nat) : Nat := match b with
  | 0 => 0
  | _ => 0
/-! 191: java/lang/StringLatin1.charAt([BI)C -/
def B191_0 (orc : Orc) : K := o_iload 1 (o_sload 0 (o_slen (o_sV orc 192 2 (o_sload 0 (o_iload 1 (o_sbald (o_iconst 255 (o_i2 (fun x y => x &&& y) (o_i1 (fun x => (x.toUInt32 % 65536).toInt32) (o_cret))))))))))
def P191 (orc : Orc) (b : Nat) : K := match b with
  | 0 => B191_0 orc
  | _ => fun _ _ _ => none
def Q191 (b : Nat) : Nat := match b with
  | 0 => 0
  | _ => 0
/-! 192: java/lang/String.checkIndex(II)V -/
def B192_0 (orc : Orc) : K := o_iload 0 (o_iload 1 (o_str 20 (o_sI orc 193 3 (o_pop (o_vret)))))
def P192 (orc : Orc) (b : Nat) : K := match b with
  | 0 => B192_0 orc
  | _ => fun _ _ _ => none
def Q192 (b : Nat) : Nat := match b with
  | 0 => 0
  | _ => 0
/-! 193: jdk/internal/util/Preconditions.checkIndex(IILjava/util/function/BiFunction;)I -/
def B193_0 (orc : Orc) : K := o_iload 0 (o_ifn (o_jmp 1) (o_iload 0 (o_iload 1 (o_ilt (o_iload 0 (o_iret)) (o_jmp 1)))))
def B193_1 (orc : Orc) : K := o_bad
def P193 (orc : Orc) (b : Nat) : K := match b with
  | 0 => B193_0 orc
  | 1 => B193_1 orc
  | _ => fun _ _ _ => none
def Q193 (b : Nat) : Nat := match b with
  | 0 => 0
  | 1 => 9
  | _ => 0
end
