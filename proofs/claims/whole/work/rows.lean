section
-- ===== PART A: goes FIRST, ahead of the names: the tables' words, and 'selects' of the private methods out of them =====
/-- a private method of a class that the tables say can be made, by its rows of tables_1 -/
def lw_okq (q : MethodName × Nat) : Prop := (q.1.cls ≠ "java/lang/invoke/MethodHandle" ∧ q.1.cls ≠ "java/lang/invoke/VarHandle") ∧ Cond.instantiable q.1.cls q.2 ∈ tables_1 ∧ Cond.privateMethod q.1 ∈ tables_1 ∧ Cond.instanceMethod q.1 ∈ tables_1
theorem lw_p0 : lw_okq (⟨"TruceWall$Truce", "allCandidates", "()[I"⟩, 9) := ⟨⟨by decide +kernel, by decide +kernel⟩, List.mem_of_getElem? (i := 190) (by decide +kernel), List.mem_of_getElem? (i := 213) (by decide +kernel), List.mem_of_getElem? (i := 214) (by decide +kernel)⟩
theorem lw_p1 : lw_okq (⟨"TruceWall", "lookRound", "()V"⟩, 12) := ⟨⟨by decide +kernel, by decide +kernel⟩, List.mem_of_getElem? (i := 22) (by decide +kernel), List.mem_of_getElem? (i := 292) (by decide +kernel), List.mem_of_getElem? (i := 293) (by decide +kernel)⟩
theorem lw_p2 : lw_okq (⟨"TruceWall$Truce", "twinHindrance", "(JI)I"⟩, 9) := ⟨⟨by decide +kernel, by decide +kernel⟩, List.mem_of_getElem? (i := 190) (by decide +kernel), List.mem_of_getElem? (i := 339) (by decide +kernel), List.mem_of_getElem? (i := 340) (by decide +kernel)⟩
theorem lw_p3 : lw_okq (⟨"TruceWall$Truce", "roundStands", "(JII)Z"⟩, 9) := ⟨⟨by decide +kernel, by decide +kernel⟩, List.mem_of_getElem? (i := 190) (by decide +kernel), List.mem_of_getElem? (i := 344) (by decide +kernel), List.mem_of_getElem? (i := 345) (by decide +kernel)⟩
theorem lw_p4 : lw_okq (⟨"TruceWall", "takeSigns", "(J)V"⟩, 12) := ⟨⟨by decide +kernel, by decide +kernel⟩, List.mem_of_getElem? (i := 22) (by decide +kernel), List.mem_of_getElem? (i := 392) (by decide +kernel), List.mem_of_getElem? (i := 393) (by decide +kernel)⟩
theorem lw_p5 : lw_okq (⟨"TruceWall$Reader", "step", "()V"⟩, 19) := ⟨⟨by decide +kernel, by decide +kernel⟩, List.mem_of_getElem? (i := 30) (by decide +kernel), List.mem_of_getElem? (i := 404) (by decide +kernel), List.mem_of_getElem? (i := 405) (by decide +kernel)⟩
theorem lw_p6 : lw_okq (⟨"TruceWall$Reader", "stepWord", "()V"⟩, 19) := ⟨⟨by decide +kernel, by decide +kernel⟩, List.mem_of_getElem? (i := 30) (by decide +kernel), List.mem_of_getElem? (i := 411) (by decide +kernel), List.mem_of_getElem? (i := 412) (by decide +kernel)⟩
theorem lw_p7 : lw_okq (⟨"TruceWall$Reader", "knownWord", "(I)I"⟩, 19) := ⟨⟨by decide +kernel, by decide +kernel⟩, List.mem_of_getElem? (i := 30) (by decide +kernel), List.mem_of_getElem? (i := 415) (by decide +kernel), List.mem_of_getElem? (i := 416) (by decide +kernel)⟩
theorem lw_p8 : lw_okq (⟨"TruceWall$Reader", "stepNumber", "()V"⟩, 19) := ⟨⟨by decide +kernel, by decide +kernel⟩, List.mem_of_getElem? (i := 30) (by decide +kernel), List.mem_of_getElem? (i := 463) (by decide +kernel), List.mem_of_getElem? (i := 464) (by decide +kernel)⟩
theorem lw_p9 : lw_okq (⟨"TruceWall$Reader", "wallLine", "()V"⟩, 19) := ⟨⟨by decide +kernel, by decide +kernel⟩, List.mem_of_getElem? (i := 30) (by decide +kernel), List.mem_of_getElem? (i := 470) (by decide +kernel), List.mem_of_getElem? (i := 471) (by decide +kernel)⟩
theorem lw_p10 : lw_okq (⟨"TruceWall$Reader", "expect", "(I)V"⟩, 19) := ⟨⟨by decide +kernel, by decide +kernel⟩, List.mem_of_getElem? (i := 30) (by decide +kernel), List.mem_of_getElem? (i := 474) (by decide +kernel), List.mem_of_getElem? (i := 475) (by decide +kernel)⟩
theorem lw_p11 : lw_okq (⟨"TruceWall$Reader", "wrong", "(I)V"⟩, 19) := ⟨⟨by decide +kernel, by decide +kernel⟩, List.mem_of_getElem? (i := 30) (by decide +kernel), List.mem_of_getElem? (i := 478) (by decide +kernel), List.mem_of_getElem? (i := 479) (by decide +kernel)⟩
theorem lw_p12 : lw_okq (⟨"TruceWall$Reader", "expectNumber", "(II)I"⟩, 19) := ⟨⟨by decide +kernel, by decide +kernel⟩, List.mem_of_getElem? (i := 30) (by decide +kernel), List.mem_of_getElem? (i := 482) (by decide +kernel), List.mem_of_getElem? (i := 483) (by decide +kernel)⟩
theorem lw_p13 : lw_okq (⟨"TruceWall$Reader", "stoneLine", "()V"⟩, 19) := ⟨⟨by decide +kernel, by decide +kernel⟩, List.mem_of_getElem? (i := 30) (by decide +kernel), List.mem_of_getElem? (i := 486) (by decide +kernel), List.mem_of_getElem? (i := 487) (by decide +kernel)⟩
theorem lw_p14 : lw_okq (⟨"TruceWall$Reader", "expectName", "()J"⟩, 19) := ⟨⟨by decide +kernel, by decide +kernel⟩, List.mem_of_getElem? (i := 30) (by decide +kernel), List.mem_of_getElem? (i := 490) (by decide +kernel), List.mem_of_getElem? (i := 491) (by decide +kernel)⟩
theorem lw_p15 : lw_okq (⟨"TruceWall$Reader", "expectKind", "()I"⟩, 19) := ⟨⟨by decide +kernel, by decide +kernel⟩, List.mem_of_getElem? (i := 30) (by decide +kernel), List.mem_of_getElem? (i := 494) (by decide +kernel), List.mem_of_getElem? (i := 495) (by decide +kernel)⟩
def lw_privs_1 : List (MethodName × Nat) := [(⟨"TruceWall$Truce", "allCandidates", "()[I"⟩, 9), (⟨"TruceWall", "lookRound", "()V"⟩, 12), (⟨"TruceWall$Truce", "twinHindrance", "(JI)I"⟩, 9), (⟨"TruceWall$Truce", "roundStands", "(JII)Z"⟩, 9), (⟨"TruceWall", "takeSigns", "(J)V"⟩, 12), (⟨"TruceWall$Reader", "step", "()V"⟩, 19), (⟨"TruceWall$Reader", "stepWord", "()V"⟩, 19), (⟨"TruceWall$Reader", "knownWord", "(I)I"⟩, 19), (⟨"TruceWall$Reader", "stepNumber", "()V"⟩, 19), (⟨"TruceWall$Reader", "wallLine", "()V"⟩, 19), (⟨"TruceWall$Reader", "expect", "(I)V"⟩, 19), (⟨"TruceWall$Reader", "wrong", "(I)V"⟩, 19), (⟨"TruceWall$Reader", "expectNumber", "(II)I"⟩, 19), (⟨"TruceWall$Reader", "stoneLine", "()V"⟩, 19), (⟨"TruceWall$Reader", "expectName", "()J"⟩, 19), (⟨"TruceWall$Reader", "expectKind", "()I"⟩, 19)]
theorem lw_r1 : ∀ q ∈ lw_privs_1, lw_okq q := List.forall_mem_cons.mpr ⟨lw_p0, List.forall_mem_cons.mpr ⟨lw_p1, List.forall_mem_cons.mpr ⟨lw_p2, List.forall_mem_cons.mpr ⟨lw_p3, List.forall_mem_cons.mpr ⟨lw_p4, List.forall_mem_cons.mpr ⟨lw_p5, List.forall_mem_cons.mpr ⟨lw_p6, List.forall_mem_cons.mpr ⟨lw_p7, List.forall_mem_cons.mpr ⟨lw_p8, List.forall_mem_cons.mpr ⟨lw_p9, List.forall_mem_cons.mpr ⟨lw_p10, List.forall_mem_cons.mpr ⟨lw_p11, List.forall_mem_cons.mpr ⟨lw_p12, List.forall_mem_cons.mpr ⟨lw_p13, List.forall_mem_cons.mpr ⟨lw_p14, List.forall_mem_cons.mpr ⟨lw_p15, fun _ h => absurd h List.not_mem_nil⟩⟩⟩⟩⟩⟩⟩⟩⟩⟩⟩⟩⟩⟩⟩⟩
theorem lw_p16 : lw_okq (⟨"TruceWall$Reader", "gatesLine", "()V"⟩, 19) := ⟨⟨by decide +kernel, by decide +kernel⟩, List.mem_of_getElem? (i := 30) (by decide +kernel), List.mem_of_getElem? (i := 498) (by decide +kernel), List.mem_of_getElem? (i := 499) (by decide +kernel)⟩
theorem lw_p17 : lw_okq (⟨"TruceWall$Reader", "fineLine", "()V"⟩, 19) := ⟨⟨by decide +kernel, by decide +kernel⟩, List.mem_of_getElem? (i := 30) (by decide +kernel), List.mem_of_getElem? (i := 502) (by decide +kernel), List.mem_of_getElem? (i := 503) (by decide +kernel)⟩
theorem lw_p18 : lw_okq (⟨"TruceWall$Reader", "readE", "(I)V"⟩, 19) := ⟨⟨by decide +kernel, by decide +kernel⟩, List.mem_of_getElem? (i := 30) (by decide +kernel), List.mem_of_getElem? (i := 506) (by decide +kernel), List.mem_of_getElem? (i := 507) (by decide +kernel)⟩
theorem lw_p19 : lw_okq (⟨"TruceWall$Reader", "readTest", "(I)V"⟩, 19) := ⟨⟨by decide +kernel, by decide +kernel⟩, List.mem_of_getElem? (i := 30) (by decide +kernel), List.mem_of_getElem? (i := 510) (by decide +kernel), List.mem_of_getElem? (i := 511) (by decide +kernel)⟩
theorem lw_p20 : lw_okq (⟨"TruceWall$Reader", "readSum", "(I)V"⟩, 19) := ⟨⟨by decide +kernel, by decide +kernel⟩, List.mem_of_getElem? (i := 30) (by decide +kernel), List.mem_of_getElem? (i := 514) (by decide +kernel), List.mem_of_getElem? (i := 515) (by decide +kernel)⟩
theorem lw_p21 : lw_okq (⟨"TruceWall$Reader", "readProduct", "(I)V"⟩, 19) := ⟨⟨by decide +kernel, by decide +kernel⟩, List.mem_of_getElem? (i := 30) (by decide +kernel), List.mem_of_getElem? (i := 518) (by decide +kernel), List.mem_of_getElem? (i := 519) (by decide +kernel)⟩
theorem lw_p22 : lw_okq (⟨"TruceWall$Reader", "readPart", "(I)V"⟩, 19) := ⟨⟨by decide +kernel, by decide +kernel⟩, List.mem_of_getElem? (i := 30) (by decide +kernel), List.mem_of_getElem? (i := 522) (by decide +kernel), List.mem_of_getElem? (i := 523) (by decide +kernel)⟩
theorem lw_p23 : lw_okq (⟨"TruceWall$Reader", "emit", "(I)V"⟩, 19) := ⟨⟨by decide +kernel, by decide +kernel⟩, List.mem_of_getElem? (i := 30) (by decide +kernel), List.mem_of_getElem? (i := 526) (by decide +kernel), List.mem_of_getElem? (i := 527) (by decide +kernel)⟩
theorem lw_p24 : lw_okq (⟨"TruceWall", "isOver", "()Z"⟩, 12) := ⟨⟨by decide +kernel, by decide +kernel⟩, List.mem_of_getElem? (i := 22) (by decide +kernel), List.mem_of_getElem? (i := 544) (by decide +kernel), List.mem_of_getElem? (i := 545) (by decide +kernel)⟩
theorem lw_p25 : lw_okq (⟨"TruceWall$Site", "lodge", "(LTruceWall$Truce;I)V"⟩, 8) := ⟨⟨by decide +kernel, by decide +kernel⟩, List.mem_of_getElem? (i := 103) (by decide +kernel), List.mem_of_getElem? (i := 555) (by decide +kernel), List.mem_of_getElem? (i := 556) (by decide +kernel)⟩
theorem lw_p26 : lw_okq (⟨"TruceWall$Reckoner", "push", "(I)V"⟩, 2) := ⟨⟨by decide +kernel, by decide +kernel⟩, List.mem_of_getElem? (i := 109) (by decide +kernel), List.mem_of_getElem? (i := 569) (by decide +kernel), List.mem_of_getElem? (i := 570) (by decide +kernel)⟩
theorem lw_p27 : lw_okq (⟨"TruceWall$Reckoner", "pop", "()I"⟩, 2) := ⟨⟨by decide +kernel, by decide +kernel⟩, List.mem_of_getElem? (i := 109) (by decide +kernel), List.mem_of_getElem? (i := 573) (by decide +kernel), List.mem_of_getElem? (i := 574) (by decide +kernel)⟩
theorem lw_p28 : lw_okq (⟨"TruceWall", "gateRefused", "(I)I"⟩, 12) := ⟨⟨by decide +kernel, by decide +kernel⟩, List.mem_of_getElem? (i := 22) (by decide +kernel), List.mem_of_getElem? (i := 596) (by decide +kernel), List.mem_of_getElem? (i := 597) (by decide +kernel)⟩
theorem lw_p29 : lw_okq (⟨"TruceWall", "outcomeNow", "()I"⟩, 12) := ⟨⟨by decide +kernel, by decide +kernel⟩, List.mem_of_getElem? (i := 22) (by decide +kernel), List.mem_of_getElem? (i := 631) (by decide +kernel), List.mem_of_getElem? (i := 632) (by decide +kernel)⟩
theorem lw_p30 : lw_okq (⟨"TruceWall$Play", "outcome", "(JII)I"⟩, 4) := ⟨⟨by decide +kernel, by decide +kernel⟩, List.mem_of_getElem? (i := 157) (by decide +kernel), List.mem_of_getElem? (i := 639) (by decide +kernel), List.mem_of_getElem? (i := 640) (by decide +kernel)⟩
theorem lw_p31 : lw_okq (⟨"TruceWall$Play", "outcomeByRule", "(JII)I"⟩, 4) := ⟨⟨by decide +kernel, by decide +kernel⟩, List.mem_of_getElem? (i := 157) (by decide +kernel), List.mem_of_getElem? (i := 647) (by decide +kernel), List.mem_of_getElem? (i := 648) (by decide +kernel)⟩
def lw_privs_2 : List (MethodName × Nat) := [(⟨"TruceWall$Reader", "gatesLine", "()V"⟩, 19), (⟨"TruceWall$Reader", "fineLine", "()V"⟩, 19), (⟨"TruceWall$Reader", "readE", "(I)V"⟩, 19), (⟨"TruceWall$Reader", "readTest", "(I)V"⟩, 19), (⟨"TruceWall$Reader", "readSum", "(I)V"⟩, 19), (⟨"TruceWall$Reader", "readProduct", "(I)V"⟩, 19), (⟨"TruceWall$Reader", "readPart", "(I)V"⟩, 19), (⟨"TruceWall$Reader", "emit", "(I)V"⟩, 19), (⟨"TruceWall", "isOver", "()Z"⟩, 12), (⟨"TruceWall$Site", "lodge", "(LTruceWall$Truce;I)V"⟩, 8), (⟨"TruceWall$Reckoner", "push", "(I)V"⟩, 2), (⟨"TruceWall$Reckoner", "pop", "()I"⟩, 2), (⟨"TruceWall", "gateRefused", "(I)I"⟩, 12), (⟨"TruceWall", "outcomeNow", "()I"⟩, 12), (⟨"TruceWall$Play", "outcome", "(JII)I"⟩, 4), (⟨"TruceWall$Play", "outcomeByRule", "(JII)I"⟩, 4)]
theorem lw_r2 : ∀ q ∈ lw_privs_2, lw_okq q := List.forall_mem_cons.mpr ⟨lw_p16, List.forall_mem_cons.mpr ⟨lw_p17, List.forall_mem_cons.mpr ⟨lw_p18, List.forall_mem_cons.mpr ⟨lw_p19, List.forall_mem_cons.mpr ⟨lw_p20, List.forall_mem_cons.mpr ⟨lw_p21, List.forall_mem_cons.mpr ⟨lw_p22, List.forall_mem_cons.mpr ⟨lw_p23, List.forall_mem_cons.mpr ⟨lw_p24, List.forall_mem_cons.mpr ⟨lw_p25, List.forall_mem_cons.mpr ⟨lw_p26, List.forall_mem_cons.mpr ⟨lw_p27, List.forall_mem_cons.mpr ⟨lw_p28, List.forall_mem_cons.mpr ⟨lw_p29, List.forall_mem_cons.mpr ⟨lw_p30, List.forall_mem_cons.mpr ⟨lw_p31, fun _ h => absurd h List.not_mem_nil⟩⟩⟩⟩⟩⟩⟩⟩⟩⟩⟩⟩⟩⟩⟩⟩
theorem lw_p32 : lw_okq (⟨"TruceWall$Play", "actByRule", "(JI)I"⟩, 4) := ⟨⟨by decide +kernel, by decide +kernel⟩, List.mem_of_getElem? (i := 157) (by decide +kernel), List.mem_of_getElem? (i := 651) (by decide +kernel), List.mem_of_getElem? (i := 652) (by decide +kernel)⟩
theorem lw_p33 : lw_okq (⟨"TruceWall$Play", "outcomeByChoice", "(JII)I"⟩, 4) := ⟨⟨by decide +kernel, by decide +kernel⟩, List.mem_of_getElem? (i := 157) (by decide +kernel), List.mem_of_getElem? (i := 671) (by decide +kernel), List.mem_of_getElem? (i := 672) (by decide +kernel)⟩
theorem lw_p34 : lw_okq (⟨"TruceWall", "outcomeBehind", "(I)I"⟩, 12) := ⟨⟨by decide +kernel, by decide +kernel⟩, List.mem_of_getElem? (i := 22) (by decide +kernel), List.mem_of_getElem? (i := 694) (by decide +kernel), List.mem_of_getElem? (i := 695) (by decide +kernel)⟩
theorem lw_p35 : lw_okq (⟨"TruceWall$Ways", "spreadDay", "(LTruceWall$Truce;IZ)Z"⟩, 1) := ⟨⟨by decide +kernel, by decide +kernel⟩, List.mem_of_getElem? (i := 176) (by decide +kernel), List.mem_of_getElem? (i := 718) (by decide +kernel), List.mem_of_getElem? (i := 719) (by decide +kernel)⟩
theorem lw_p36 : lw_okq (⟨"TruceWall$Ways", "spreadWall", "(LTruceWall$Truce;JIIZ)V"⟩, 1) := ⟨⟨by decide +kernel, by decide +kernel⟩, List.mem_of_getElem? (i := 176) (by decide +kernel), List.mem_of_getElem? (i := 733) (by decide +kernel), List.mem_of_getElem? (i := 734) (by decide +kernel)⟩
theorem lw_p37 : lw_okq (⟨"java/lang/Throwable", "fillInStackTrace", "(I)Ljava/lang/Throwable;"⟩, 6) := ⟨⟨by decide +kernel, by decide +kernel⟩, List.mem_of_getElem? (i := 829) (by decide +kernel), List.mem_of_getElem? (i := 827) (by decide +kernel), List.mem_of_getElem? (i := 828) (by decide +kernel)⟩
theorem lw_p38 : lw_okq (⟨"TruceWallModel", "begins", "()V"⟩, 52) := ⟨⟨by decide +kernel, by decide +kernel⟩, List.mem_of_getElem? (i := 858) (by decide +kernel), List.mem_of_getElem? (i := 865) (by decide +kernel), List.mem_of_getElem? (i := 866) (by decide +kernel)⟩
theorem lw_p39 : lw_okq (⟨"TruceWallModel", "nothing", "(I)V"⟩, 52) := ⟨⟨by decide +kernel, by decide +kernel⟩, List.mem_of_getElem? (i := 858) (by decide +kernel), List.mem_of_getElem? (i := 869) (by decide +kernel), List.mem_of_getElem? (i := 870) (by decide +kernel)⟩
theorem lw_p40 : lw_okq (⟨"TruceWallModel", "looks", "(I)V"⟩, 52) := ⟨⟨by decide +kernel, by decide +kernel⟩, List.mem_of_getElem? (i := 858) (by decide +kernel), List.mem_of_getElem? (i := 873) (by decide +kernel), List.mem_of_getElem? (i := 874) (by decide +kernel)⟩
theorem lw_p41 : lw_okq (⟨"TruceWallModel", "isClosed", "(I)Z"⟩, 52) := ⟨⟨by decide +kernel, by decide +kernel⟩, List.mem_of_getElem? (i := 858) (by decide +kernel), List.mem_of_getElem? (i := 877) (by decide +kernel), List.mem_of_getElem? (i := 878) (by decide +kernel)⟩
theorem lw_p42 : lw_okq (⟨"TruceWallModel", "hasAct", "(I)Z"⟩, 52) := ⟨⟨by decide +kernel, by decide +kernel⟩, List.mem_of_getElem? (i := 858) (by decide +kernel), List.mem_of_getElem? (i := 881) (by decide +kernel), List.mem_of_getElem? (i := 882) (by decide +kernel)⟩
theorem lw_p43 : lw_okq (⟨"TruceWallModel", "nextAct", "(II)I"⟩, 52) := ⟨⟨by decide +kernel, by decide +kernel⟩, List.mem_of_getElem? (i := 858) (by decide +kernel), List.mem_of_getElem? (i := 885) (by decide +kernel), List.mem_of_getElem? (i := 886) (by decide +kernel)⟩
theorem lw_p44 : lw_okq (⟨"TruceWallModel", "why", "(IIIIZ)I"⟩, 52) := ⟨⟨by decide +kernel, by decide +kernel⟩, List.mem_of_getElem? (i := 858) (by decide +kernel), List.mem_of_getElem? (i := 889) (by decide +kernel), List.mem_of_getElem? (i := 890) (by decide +kernel)⟩
theorem lw_p45 : lw_okq (⟨"TruceWallModel", "isColumn", "(I)Z"⟩, 52) := ⟨⟨by decide +kernel, by decide +kernel⟩, List.mem_of_getElem? (i := 858) (by decide +kernel), List.mem_of_getElem? (i := 893) (by decide +kernel), List.mem_of_getElem? (i := 894) (by decide +kernel)⟩
theorem lw_p46 : lw_okq (⟨"TruceWallModel", "isWide", "(II)Z"⟩, 52) := ⟨⟨by decide +kernel, by decide +kernel⟩, List.mem_of_getElem? (i := 858) (by decide +kernel), List.mem_of_getElem? (i := 897) (by decide +kernel), List.mem_of_getElem? (i := 898) (by decide +kernel)⟩
theorem lw_p47 : lw_okq (⟨"TruceWallModel", "otherOf", "(I)I"⟩, 52) := ⟨⟨by decide +kernel, by decide +kernel⟩, List.mem_of_getElem? (i := 858) (by decide +kernel), List.mem_of_getElem? (i := 904) (by decide +kernel), List.mem_of_getElem? (i := 905) (by decide +kernel)⟩
def lw_privs_3 : List (MethodName × Nat) := [(⟨"TruceWall$Play", "actByRule", "(JI)I"⟩, 4), (⟨"TruceWall$Play", "outcomeByChoice", "(JII)I"⟩, 4), (⟨"TruceWall", "outcomeBehind", "(I)I"⟩, 12), (⟨"TruceWall$Ways", "spreadDay", "(LTruceWall$Truce;IZ)Z"⟩, 1), (⟨"TruceWall$Ways", "spreadWall", "(LTruceWall$Truce;JIIZ)V"⟩, 1), (⟨"java/lang/Throwable", "fillInStackTrace", "(I)Ljava/lang/Throwable;"⟩, 6), (⟨"TruceWallModel", "begins", "()V"⟩, 52), (⟨"TruceWallModel", "nothing", "(I)V"⟩, 52), (⟨"TruceWallModel", "looks", "(I)V"⟩, 52), (⟨"TruceWallModel", "isClosed", "(I)Z"⟩, 52), (⟨"TruceWallModel", "hasAct", "(I)Z"⟩, 52), (⟨"TruceWallModel", "nextAct", "(II)I"⟩, 52), (⟨"TruceWallModel", "why", "(IIIIZ)I"⟩, 52), (⟨"TruceWallModel", "isColumn", "(I)Z"⟩, 52), (⟨"TruceWallModel", "isWide", "(II)Z"⟩, 52), (⟨"TruceWallModel", "otherOf", "(I)I"⟩, 52)]
theorem lw_r3 : ∀ q ∈ lw_privs_3, lw_okq q := List.forall_mem_cons.mpr ⟨lw_p32, List.forall_mem_cons.mpr ⟨lw_p33, List.forall_mem_cons.mpr ⟨lw_p34, List.forall_mem_cons.mpr ⟨lw_p35, List.forall_mem_cons.mpr ⟨lw_p36, List.forall_mem_cons.mpr ⟨lw_p37, List.forall_mem_cons.mpr ⟨lw_p38, List.forall_mem_cons.mpr ⟨lw_p39, List.forall_mem_cons.mpr ⟨lw_p40, List.forall_mem_cons.mpr ⟨lw_p41, List.forall_mem_cons.mpr ⟨lw_p42, List.forall_mem_cons.mpr ⟨lw_p43, List.forall_mem_cons.mpr ⟨lw_p44, List.forall_mem_cons.mpr ⟨lw_p45, List.forall_mem_cons.mpr ⟨lw_p46, List.forall_mem_cons.mpr ⟨lw_p47, fun _ h => absurd h List.not_mem_nil⟩⟩⟩⟩⟩⟩⟩⟩⟩⟩⟩⟩⟩⟩⟩⟩
theorem lw_p48 : lw_okq (⟨"TruceWallModel", "stands", "(IIII)Z"⟩, 52) := ⟨⟨by decide +kernel, by decide +kernel⟩, List.mem_of_getElem? (i := 858) (by decide +kernel), List.mem_of_getElem? (i := 908) (by decide +kernel), List.mem_of_getElem? (i := 909) (by decide +kernel)⟩
theorem lw_p49 : lw_okq (⟨"TruceWallModel", "whyGate", "(IIZ)I"⟩, 52) := ⟨⟨by decide +kernel, by decide +kernel⟩, List.mem_of_getElem? (i := 858) (by decide +kernel), List.mem_of_getElem? (i := 912) (by decide +kernel), List.mem_of_getElem? (i := 913) (by decide +kernel)⟩
theorem lw_p50 : lw_okq (⟨"TruceWallModel", "readsAll", "()Z"⟩, 52) := ⟨⟨by decide +kernel, by decide +kernel⟩, List.mem_of_getElem? (i := 858) (by decide +kernel), List.mem_of_getElem? (i := 1087) (by decide +kernel), List.mem_of_getElem? (i := 1088) (by decide +kernel)⟩
theorem lw_p51 : lw_okq (⟨"TruceWallModel", "nextToken", "()V"⟩, 52) := ⟨⟨by decide +kernel, by decide +kernel⟩, List.mem_of_getElem? (i := 858) (by decide +kernel), List.mem_of_getElem? (i := 1091) (by decide +kernel), List.mem_of_getElem? (i := 1092) (by decide +kernel)⟩
theorem lw_p52 : lw_okq (⟨"TruceWallModel", "signAt", "(I)I"⟩, 52) := ⟨⟨by decide +kernel, by decide +kernel⟩, List.mem_of_getElem? (i := 858) (by decide +kernel), List.mem_of_getElem? (i := 1095) (by decide +kernel), List.mem_of_getElem? (i := 1096) (by decide +kernel)⟩
theorem lw_p53 : lw_okq (⟨"TruceWallModel", "isWord", "(J)Z"⟩, 52) := ⟨⟨by decide +kernel, by decide +kernel⟩, List.mem_of_getElem? (i := 858) (by decide +kernel), List.mem_of_getElem? (i := 1102) (by decide +kernel), List.mem_of_getElem? (i := 1103) (by decide +kernel)⟩
theorem lw_p54 : lw_okq (⟨"TruceWallModel", "fails", "(I)Z"⟩, 52) := ⟨⟨by decide +kernel, by decide +kernel⟩, List.mem_of_getElem? (i := 858) (by decide +kernel), List.mem_of_getElem? (i := 1106) (by decide +kernel), List.mem_of_getElem? (i := 1107) (by decide +kernel)⟩
theorem lw_p55 : lw_okq (⟨"TruceWallModel", "needsNumber", "(II)Z"⟩, 52) := ⟨⟨by decide +kernel, by decide +kernel⟩, List.mem_of_getElem? (i := 858) (by decide +kernel), List.mem_of_getElem? (i := 1110) (by decide +kernel), List.mem_of_getElem? (i := 1111) (by decide +kernel)⟩
theorem lw_p56 : lw_okq (⟨"TruceWallModel", "ends", "()Z"⟩, 52) := ⟨⟨by decide +kernel, by decide +kernel⟩, List.mem_of_getElem? (i := 858) (by decide +kernel), List.mem_of_getElem? (i := 1114) (by decide +kernel), List.mem_of_getElem? (i := 1115) (by decide +kernel)⟩
theorem lw_p57 : lw_okq (⟨"TruceWallModel", "isSign", "(I)Z"⟩, 52) := ⟨⟨by decide +kernel, by decide +kernel⟩, List.mem_of_getElem? (i := 858) (by decide +kernel), List.mem_of_getElem? (i := 1118) (by decide +kernel), List.mem_of_getElem? (i := 1119) (by decide +kernel)⟩
theorem lw_p58 : lw_okq (⟨"TruceWallModel", "readsStone", "()Z"⟩, 52) := ⟨⟨by decide +kernel, by decide +kernel⟩, List.mem_of_getElem? (i := 858) (by decide +kernel), List.mem_of_getElem? (i := 1123) (by decide +kernel), List.mem_of_getElem? (i := 1124) (by decide +kernel)⟩
theorem lw_p59 : lw_okq (⟨"TruceWallModel", "isKept", "()Z"⟩, 52) := ⟨⟨by decide +kernel, by decide +kernel⟩, List.mem_of_getElem? (i := 858) (by decide +kernel), List.mem_of_getElem? (i := 1127) (by decide +kernel), List.mem_of_getElem? (i := 1128) (by decide +kernel)⟩
theorem lw_p60 : lw_okq (⟨"TruceWallModel", "kindAt", "()I"⟩, 52) := ⟨⟨by decide +kernel, by decide +kernel⟩, List.mem_of_getElem? (i := 858) (by decide +kernel), List.mem_of_getElem? (i := 1146) (by decide +kernel), List.mem_of_getElem? (i := 1147) (by decide +kernel)⟩
theorem lw_p61 : lw_okq (⟨"TruceWallModel", "readsGates", "()Z"⟩, 52) := ⟨⟨by decide +kernel, by decide +kernel⟩, List.mem_of_getElem? (i := 858) (by decide +kernel), List.mem_of_getElem? (i := 1150) (by decide +kernel), List.mem_of_getElem? (i := 1151) (by decide +kernel)⟩
theorem lw_p62 : lw_okq (⟨"TruceWallModel", "readsFine", "()Z"⟩, 52) := ⟨⟨by decide +kernel, by decide +kernel⟩, List.mem_of_getElem? (i := 858) (by decide +kernel), List.mem_of_getElem? (i := 1154) (by decide +kernel), List.mem_of_getElem? (i := 1155) (by decide +kernel)⟩
theorem lw_p63 : lw_okq (⟨"TruceWallModel", "reads", "()Z"⟩, 52) := ⟨⟨by decide +kernel, by decide +kernel⟩, List.mem_of_getElem? (i := 858) (by decide +kernel), List.mem_of_getElem? (i := 1158) (by decide +kernel), List.mem_of_getElem? (i := 1159) (by decide +kernel)⟩
def lw_privs_4 : List (MethodName × Nat) := [(⟨"TruceWallModel", "stands", "(IIII)Z"⟩, 52), (⟨"TruceWallModel", "whyGate", "(IIZ)I"⟩, 52), (⟨"TruceWallModel", "readsAll", "()Z"⟩, 52), (⟨"TruceWallModel", "nextToken", "()V"⟩, 52), (⟨"TruceWallModel", "signAt", "(I)I"⟩, 52), (⟨"TruceWallModel", "isWord", "(J)Z"⟩, 52), (⟨"TruceWallModel", "fails", "(I)Z"⟩, 52), (⟨"TruceWallModel", "needsNumber", "(II)Z"⟩, 52), (⟨"TruceWallModel", "ends", "()Z"⟩, 52), (⟨"TruceWallModel", "isSign", "(I)Z"⟩, 52), (⟨"TruceWallModel", "readsStone", "()Z"⟩, 52), (⟨"TruceWallModel", "isKept", "()Z"⟩, 52), (⟨"TruceWallModel", "kindAt", "()I"⟩, 52), (⟨"TruceWallModel", "readsGates", "()Z"⟩, 52), (⟨"TruceWallModel", "readsFine", "()Z"⟩, 52), (⟨"TruceWallModel", "reads", "()Z"⟩, 52)]
theorem lw_r4 : ∀ q ∈ lw_privs_4, lw_okq q := List.forall_mem_cons.mpr ⟨lw_p48, List.forall_mem_cons.mpr ⟨lw_p49, List.forall_mem_cons.mpr ⟨lw_p50, List.forall_mem_cons.mpr ⟨lw_p51, List.forall_mem_cons.mpr ⟨lw_p52, List.forall_mem_cons.mpr ⟨lw_p53, List.forall_mem_cons.mpr ⟨lw_p54, List.forall_mem_cons.mpr ⟨lw_p55, List.forall_mem_cons.mpr ⟨lw_p56, List.forall_mem_cons.mpr ⟨lw_p57, List.forall_mem_cons.mpr ⟨lw_p58, List.forall_mem_cons.mpr ⟨lw_p59, List.forall_mem_cons.mpr ⟨lw_p60, List.forall_mem_cons.mpr ⟨lw_p61, List.forall_mem_cons.mpr ⟨lw_p62, List.forall_mem_cons.mpr ⟨lw_p63, fun _ h => absurd h List.not_mem_nil⟩⟩⟩⟩⟩⟩⟩⟩⟩⟩⟩⟩⟩⟩⟩⟩
theorem lw_p64 : lw_okq (⟨"TruceWallModel", "fact", "()I"⟩, 52) := ⟨⟨by decide +kernel, by decide +kernel⟩, List.mem_of_getElem? (i := 858) (by decide +kernel), List.mem_of_getElem? (i := 1162) (by decide +kernel), List.mem_of_getElem? (i := 1163) (by decide +kernel)⟩
theorem lw_p65 : lw_okq (⟨"TruceWallModel", "puts", "(I)V"⟩, 52) := ⟨⟨by decide +kernel, by decide +kernel⟩, List.mem_of_getElem? (i := 858) (by decide +kernel), List.mem_of_getElem? (i := 1166) (by decide +kernel), List.mem_of_getElem? (i := 1167) (by decide +kernel)⟩
theorem lw_p66 : lw_okq (⟨"TruceWallModel", "lays", "(II)V"⟩, 52) := ⟨⟨by decide +kernel, by decide +kernel⟩, List.mem_of_getElem? (i := 858) (by decide +kernel), List.mem_of_getElem? (i := 1170) (by decide +kernel), List.mem_of_getElem? (i := 1171) (by decide +kernel)⟩
theorem lw_p67 : lw_okq (⟨"TruceWallModel", "keeps", "()V"⟩, 52) := ⟨⟨by decide +kernel, by decide +kernel⟩, List.mem_of_getElem? (i := 858) (by decide +kernel), List.mem_of_getElem? (i := 1185) (by decide +kernel), List.mem_of_getElem? (i := 1186) (by decide +kernel)⟩
theorem lw_p68 : lw_okq (⟨"TruceWallModel", "does", "(IIII)V"⟩, 52) := ⟨⟨by decide +kernel, by decide +kernel⟩, List.mem_of_getElem? (i := 858) (by decide +kernel), List.mem_of_getElem? (i := 1189) (by decide +kernel), List.mem_of_getElem? (i := 1190) (by decide +kernel)⟩
theorem lw_p69 : lw_okq (⟨"TruceWallModel", "sets", "(IIII)V"⟩, 52) := ⟨⟨by decide +kernel, by decide +kernel⟩, List.mem_of_getElem? (i := 858) (by decide +kernel), List.mem_of_getElem? (i := 1193) (by decide +kernel), List.mem_of_getElem? (i := 1194) (by decide +kernel)⟩
theorem lw_p70 : lw_okq (⟨"TruceWallModel", "worked", "(I)I"⟩, 52) := ⟨⟨by decide +kernel, by decide +kernel⟩, List.mem_of_getElem? (i := 858) (by decide +kernel), List.mem_of_getElem? (i := 1197) (by decide +kernel), List.mem_of_getElem? (i := 1198) (by decide +kernel)⟩
theorem lw_p71 : lw_okq (⟨"TruceWallModel", "opens", "(I)V"⟩, 52) := ⟨⟨by decide +kernel, by decide +kernel⟩, List.mem_of_getElem? (i := 858) (by decide +kernel), List.mem_of_getElem? (i := 1201) (by decide +kernel), List.mem_of_getElem? (i := 1202) (by decide +kernel)⟩
theorem lw_p72 : lw_okq (⟨"TruceWallModel", "sums", "(I)V"⟩, 52) := ⟨⟨by decide +kernel, by decide +kernel⟩, List.mem_of_getElem? (i := 858) (by decide +kernel), List.mem_of_getElem? (i := 1205) (by decide +kernel), List.mem_of_getElem? (i := 1206) (by decide +kernel)⟩
theorem lw_p73 : lw_okq (⟨"TruceWallModel", "tests", "(I)V"⟩, 52) := ⟨⟨by decide +kernel, by decide +kernel⟩, List.mem_of_getElem? (i := 858) (by decide +kernel), List.mem_of_getElem? (i := 1209) (by decide +kernel), List.mem_of_getElem? (i := 1210) (by decide +kernel)⟩
theorem lw_p74 : lw_okq (⟨"TruceWallModel", "actsNow", "()I"⟩, 52) := ⟨⟨by decide +kernel, by decide +kernel⟩, List.mem_of_getElem? (i := 858) (by decide +kernel), List.mem_of_getElem? (i := 1233) (by decide +kernel), List.mem_of_getElem? (i := 1234) (by decide +kernel)⟩
theorem lw_p75 : lw_okq (⟨"TruceWallModel", "acts", "(I)I"⟩, 52) := ⟨⟨by decide +kernel, by decide +kernel⟩, List.mem_of_getElem? (i := 858) (by decide +kernel), List.mem_of_getElem? (i := 1237) (by decide +kernel), List.mem_of_getElem? (i := 1238) (by decide +kernel)⟩
theorem lw_p76 : lw_okq (⟨"TruceWallModel", "finds", "(II)Z"⟩, 52) := ⟨⟨by decide +kernel, by decide +kernel⟩, List.mem_of_getElem? (i := 858) (by decide +kernel), List.mem_of_getElem? (i := 1245) (by decide +kernel), List.mem_of_getElem? (i := 1246) (by decide +kernel)⟩
theorem lw_p77 : lw_okq (⟨"TruceWallModel", "isSmall", "()Z"⟩, 52) := ⟨⟨by decide +kernel, by decide +kernel⟩, List.mem_of_getElem? (i := 858) (by decide +kernel), List.mem_of_getElem? (i := 1253) (by decide +kernel), List.mem_of_getElem? (i := 1254) (by decide +kernel)⟩
theorem lw_p78 : lw_okq (⟨"TruceWallModel", "now", "()I"⟩, 52) := ⟨⟨by decide +kernel, by decide +kernel⟩, List.mem_of_getElem? (i := 858) (by decide +kernel), List.mem_of_getElem? (i := 1257) (by decide +kernel), List.mem_of_getElem? (i := 1258) (by decide +kernel)⟩
theorem lw_p79 : lw_okq (⟨"TruceWallModel", "knows", "()V"⟩, 52) := ⟨⟨by decide +kernel, by decide +kernel⟩, List.mem_of_getElem? (i := 858) (by decide +kernel), List.mem_of_getElem? (i := 1261) (by decide +kernel), List.mem_of_getElem? (i := 1262) (by decide +kernel)⟩
def lw_privs_5 : List (MethodName × Nat) := [(⟨"TruceWallModel", "fact", "()I"⟩, 52), (⟨"TruceWallModel", "puts", "(I)V"⟩, 52), (⟨"TruceWallModel", "lays", "(II)V"⟩, 52), (⟨"TruceWallModel", "keeps", "()V"⟩, 52), (⟨"TruceWallModel", "does", "(IIII)V"⟩, 52), (⟨"TruceWallModel", "sets", "(IIII)V"⟩, 52), (⟨"TruceWallModel", "worked", "(I)I"⟩, 52), (⟨"TruceWallModel", "opens", "(I)V"⟩, 52), (⟨"TruceWallModel", "sums", "(I)V"⟩, 52), (⟨"TruceWallModel", "tests", "(I)V"⟩, 52), (⟨"TruceWallModel", "actsNow", "()I"⟩, 52), (⟨"TruceWallModel", "acts", "(I)I"⟩, 52), (⟨"TruceWallModel", "finds", "(II)Z"⟩, 52), (⟨"TruceWallModel", "isSmall", "()Z"⟩, 52), (⟨"TruceWallModel", "now", "()I"⟩, 52), (⟨"TruceWallModel", "knows", "()V"⟩, 52)]
theorem lw_r5 : ∀ q ∈ lw_privs_5, lw_okq q := List.forall_mem_cons.mpr ⟨lw_p64, List.forall_mem_cons.mpr ⟨lw_p65, List.forall_mem_cons.mpr ⟨lw_p66, List.forall_mem_cons.mpr ⟨lw_p67, List.forall_mem_cons.mpr ⟨lw_p68, List.forall_mem_cons.mpr ⟨lw_p69, List.forall_mem_cons.mpr ⟨lw_p70, List.forall_mem_cons.mpr ⟨lw_p71, List.forall_mem_cons.mpr ⟨lw_p72, List.forall_mem_cons.mpr ⟨lw_p73, List.forall_mem_cons.mpr ⟨lw_p74, List.forall_mem_cons.mpr ⟨lw_p75, List.forall_mem_cons.mpr ⟨lw_p76, List.forall_mem_cons.mpr ⟨lw_p77, List.forall_mem_cons.mpr ⟨lw_p78, List.forall_mem_cons.mpr ⟨lw_p79, fun _ h => absurd h List.not_mem_nil⟩⟩⟩⟩⟩⟩⟩⟩⟩⟩⟩⟩⟩⟩⟩⟩
theorem lw_p80 : lw_okq (⟨"TruceWallModel", "copies", "(II)V"⟩, 52) := ⟨⟨by decide +kernel, by decide +kernel⟩, List.mem_of_getElem? (i := 858) (by decide +kernel), List.mem_of_getElem? (i := 1265) (by decide +kernel), List.mem_of_getElem? (i := 1266) (by decide +kernel)⟩
theorem lw_p81 : lw_okq (⟨"TruceWallModel", "solves", "(I)I"⟩, 52) := ⟨⟨by decide +kernel, by decide +kernel⟩, List.mem_of_getElem? (i := 858) (by decide +kernel), List.mem_of_getElem? (i := 1269) (by decide +kernel), List.mem_of_getElem? (i := 1270) (by decide +kernel)⟩
theorem lw_p82 : lw_okq (⟨"TruceWallModel", "numberOf", "(I)I"⟩, 52) := ⟨⟨by decide +kernel, by decide +kernel⟩, List.mem_of_getElem? (i := 858) (by decide +kernel), List.mem_of_getElem? (i := 1273) (by decide +kernel), List.mem_of_getElem? (i := 1274) (by decide +kernel)⟩
theorem lw_p83 : lw_okq (⟨"TruceWallModel", "wallOf", "(I)I"⟩, 52) := ⟨⟨by decide +kernel, by decide +kernel⟩, List.mem_of_getElem? (i := 858) (by decide +kernel), List.mem_of_getElem? (i := 1277) (by decide +kernel), List.mem_of_getElem? (i := 1278) (by decide +kernel)⟩
theorem lw_p84 : lw_okq (⟨"TruceWallModel", "behind", "(I)I"⟩, 52) := ⟨⟨by decide +kernel, by decide +kernel⟩, List.mem_of_getElem? (i := 858) (by decide +kernel), List.mem_of_getElem? (i := 1292) (by decide +kernel), List.mem_of_getElem? (i := 1293) (by decide +kernel)⟩
theorem lw_p85 : lw_okq (⟨"TruceWallModel", "masons", "(III)I"⟩, 52) := ⟨⟨by decide +kernel, by decide +kernel⟩, List.mem_of_getElem? (i := 858) (by decide +kernel), List.mem_of_getElem? (i := 1304) (by decide +kernel), List.mem_of_getElem? (i := 1305) (by decide +kernel)⟩
theorem lw_p86 : lw_okq (⟨"TruceWallModel", "ruled", "(II)I"⟩, 52) := ⟨⟨by decide +kernel, by decide +kernel⟩, List.mem_of_getElem? (i := 858) (by decide +kernel), List.mem_of_getElem? (i := 1308) (by decide +kernel), List.mem_of_getElem? (i := 1309) (by decide +kernel)⟩
theorem lw_p87 : lw_okq (⟨"TruceWallModel", "goesOn", "(Z)V"⟩, 52) := ⟨⟨by decide +kernel, by decide +kernel⟩, List.mem_of_getElem? (i := 858) (by decide +kernel), List.mem_of_getElem? (i := 1316) (by decide +kernel), List.mem_of_getElem? (i := 1317) (by decide +kernel)⟩
theorem lw_p88 : lw_okq (⟨"TruceWallModel", "laysOut", "(II)V"⟩, 52) := ⟨⟨by decide +kernel, by decide +kernel⟩, List.mem_of_getElem? (i := 858) (by decide +kernel), List.mem_of_getElem? (i := 1320) (by decide +kernel), List.mem_of_getElem? (i := 1321) (by decide +kernel)⟩
theorem lw_p89 : lw_okq (⟨"TruceWallModel", "draws", "(I)I"⟩, 52) := ⟨⟨by decide +kernel, by decide +kernel⟩, List.mem_of_getElem? (i := 858) (by decide +kernel), List.mem_of_getElem? (i := 1333) (by decide +kernel), List.mem_of_getElem? (i := 1334) (by decide +kernel)⟩
def lw_privs_6 : List (MethodName × Nat) := [(⟨"TruceWallModel", "copies", "(II)V"⟩, 52), (⟨"TruceWallModel", "solves", "(I)I"⟩, 52), (⟨"TruceWallModel", "numberOf", "(I)I"⟩, 52), (⟨"TruceWallModel", "wallOf", "(I)I"⟩, 52), (⟨"TruceWallModel", "behind", "(I)I"⟩, 52), (⟨"TruceWallModel", "masons", "(III)I"⟩, 52), (⟨"TruceWallModel", "ruled", "(II)I"⟩, 52), (⟨"TruceWallModel", "goesOn", "(Z)V"⟩, 52), (⟨"TruceWallModel", "laysOut", "(II)V"⟩, 52), (⟨"TruceWallModel", "draws", "(I)I"⟩, 52)]
theorem lw_r6 : ∀ q ∈ lw_privs_6, lw_okq q := List.forall_mem_cons.mpr ⟨lw_p80, List.forall_mem_cons.mpr ⟨lw_p81, List.forall_mem_cons.mpr ⟨lw_p82, List.forall_mem_cons.mpr ⟨lw_p83, List.forall_mem_cons.mpr ⟨lw_p84, List.forall_mem_cons.mpr ⟨lw_p85, List.forall_mem_cons.mpr ⟨lw_p86, List.forall_mem_cons.mpr ⟨lw_p87, List.forall_mem_cons.mpr ⟨lw_p88, List.forall_mem_cons.mpr ⟨lw_p89, fun _ h => absurd h List.not_mem_nil⟩⟩⟩⟩⟩⟩⟩⟩⟩⟩
def lw_privs : List (MethodName × Nat) := lw_privs_1 ++ (lw_privs_2 ++ (lw_privs_3 ++ (lw_privs_4 ++ (lw_privs_5 ++ (lw_privs_6)))))
def lw_tbl : List Cond := k2_sels lw_privs ++ tables_1
theorem lw_privs_ok : ∀ q ∈ lw_privs, lw_okq q := by
  show ∀ q ∈ lw_privs_1 ++ (lw_privs_2 ++ (lw_privs_3 ++ (lw_privs_4 ++ (lw_privs_5 ++ (lw_privs_6))))), lw_okq q
  exact List.forall_mem_append.mpr ⟨lw_r1, List.forall_mem_append.mpr ⟨lw_r2, List.forall_mem_append.mpr ⟨lw_r3, List.forall_mem_append.mpr ⟨lw_r4, List.forall_mem_append.mpr ⟨lw_r5, lw_r6⟩⟩⟩⟩⟩
end
section
def RNS : String := "java/util/NoSuchElementException"
def RX0 : String := "TruceWall$Acts"
def TX0 : u_T := fun k => match k with
  | _ => ("", "", "", false)
def tyX0 : Nat → FieldType := fun k => match k with
  | _ => .int
abbrev wsX00 : List Cond := u_ws RX0 TX0 0
theorem nmX0 : ∀ a, a < 0 → ∀ b, b < 0 → a ≠ b → (TX0 a).2.1 ≠ (TX0 b).2.1 := by decide +kernel
theorem tyX0_ok : ∀ k, k < 0 → parseFieldDescriptor (TX0 k).2.2.1 = some (tyX0 k) := by decide +kernel
abbrev cX0_ofStone : ByteArray := prog_2_method_2_code
def yX0_ofStone : MethodName := ⟨RX0, "ofStone", "(III)I"⟩
abbrev cX0_ofGate : ByteArray := prog_2_method_3_code
def yX0_ofGate : MethodName := ⟨RX0, "ofGate", "(I)I"⟩
abbrev cX0_isGate : ByteArray := prog_2_method_4_code
def yX0_isGate : MethodName := ⟨RX0, "isGate", "(I)Z"⟩
abbrev cX0_stoneOf : ByteArray := prog_2_method_5_code
def yX0_stoneOf : MethodName := ⟨RX0, "stoneOf", "(I)I"⟩
abbrev cX0_columnOf : ByteArray := prog_2_method_6_code
def yX0_columnOf : MethodName := ⟨RX0, "columnOf", "(I)I"⟩
abbrev cX0_wideOf : ByteArray := prog_2_method_7_code
def yX0_wideOf : MethodName := ⟨RX0, "wideOf", "(I)I"⟩
def RX1 : String := "TruceWall$Mark"
def TX1 : u_T := fun k => match k with
  | 0 => ("TruceWall$Mark", "truce", "LTruceWall$Truce;", false)
  | 1 => ("TruceWall$Mark", "acts", "[I", true)
  | _ => ("TruceWall$Mark", "done", "I", false)
def tyX1 : Nat → FieldType := fun k => match k with
  | 0 => .object "TruceWall$Truce"
  | 1 => .array .int
  | _ => .int
abbrev wsX10 : List Cond := u_ws RX1 TX1 3
theorem nmX1 : ∀ a, a < 3 → ∀ b, b < 3 → a ≠ b → (TX1 a).2.1 ≠ (TX1 b).2.1 := by decide +kernel
theorem tyX1_ok : ∀ k, k < 3 → parseFieldDescriptor (TX1 k).2.2.1 = some (tyX1 k) := by decide +kernel
abbrev cX1_init : ByteArray := prog_3_method_1_code
def yX1_init : MethodName := ⟨RX1, "<init>", "()V"⟩
abbrev cX1_lay : ByteArray := prog_3_method_2_code
def yX1_lay : MethodName := ⟨RX1, "lay", "(LTruceWall$Truce;LTruceWall$Site;)V"⟩
def RX2 : String := "TruceWall$Play"
def TX2 : u_T := fun k => match k with
  | 0 => ("TruceWall$Play", "known", "[I", true)
  | 1 => ("TruceWall$Play", "truce", "LTruceWall$Truce;", false)
  | 2 => ("TruceWall$Play", "mason", "I", false)
  | _ => ("TruceWall$Play", "rule", "I", false)
def tyX2 : Nat → FieldType := fun k => match k with
  | 0 => .array .int
  | 1 => .object "TruceWall$Truce"
  | 2 => .int
  | _ => .int
abbrev wsX20 : List Cond := u_ws RX2 TX2 4
theorem nmX2 : ∀ a, a < 4 → ∀ b, b < 4 → a ≠ b → (TX2 a).2.1 ≠ (TX2 b).2.1 := by decide +kernel
theorem tyX2_ok : ∀ k, k < 4 → parseFieldDescriptor (TX2 k).2.2.1 = some (tyX2 k) := by decide +kernel
abbrev cX2_init : ByteArray := prog_4_method_1_code
def yX2_init : MethodName := ⟨RX2, "<init>", "()V"⟩
abbrev cX2_payerIn : ByteArray := prog_4_method_2_code
def yX2_payerIn : MethodName := ⟨RX2, "payerIn", "(I)I"⟩
abbrev cX2_daysIn : ByteArray := prog_4_method_3_code
def yX2_daysIn : MethodName := ⟨RX2, "daysIn", "(I)I"⟩
abbrev cX2_later : ByteArray := prog_4_method_4_code
def yX2_later : MethodName := ⟨RX2, "later", "(I)I"⟩
abbrev cX2_score : ByteArray := prog_4_method_5_code
def yX2_score : MethodName := ⟨RX2, "score", "(II)I"⟩
abbrev cX2_prepare : ByteArray := prog_4_method_6_code
def yX2_prepare : MethodName := ⟨RX2, "prepare", "(LTruceWall$Truce;II)V"⟩
abbrev cX2_outcome : ByteArray := prog_4_method_7_code
def yX2_outcome : MethodName := ⟨RX2, "outcome", "(JII)I"⟩
abbrev cX2_outcomeByChoice : ByteArray := prog_4_method_8_code
def yX2_outcomeByChoice : MethodName := ⟨RX2, "outcomeByChoice", "(JII)I"⟩
abbrev cX2_outcomeByRule : ByteArray := prog_4_method_9_code
def yX2_outcomeByRule : MethodName := ⟨RX2, "outcomeByRule", "(JII)I"⟩
abbrev cX2_actByRule : ByteArray := prog_4_method_10_code
def yX2_actByRule : MethodName := ⟨RX2, "actByRule", "(JI)I"⟩
def RX3 : String := "TruceWall$Reader"
def TX3 : u_T := fun k => match k with
  | 0 => ("TruceWall$Reader", "columns", "I", false)
  | 1 => ("TruceWall$Reader", "high", "I", false)
  | 2 => ("TruceWall$Reader", "gates", "I", false)
  | 3 => ("TruceWall$Reader", "stones", "I", false)
  | 4 => ("TruceWall$Reader", "kinds", "[I", true)
  | 5 => ("TruceWall$Reader", "wides", "[I", true)
  | 6 => ("TruceWall$Reader", "names", "[J", true)
  | 7 => ("TruceWall$Reader", "code", "[I", true)
  | 8 => ("TruceWall$Reader", "codeLength", "I", false)
  | 9 => ("TruceWall$Reader", "gatesTold", "Z", false)
  | 10 => ("TruceWall$Reader", "fineTold", "Z", false)
  | 11 => ("TruceWall$Reader", "text", "[C", false)
  | 12 => ("TruceWall$Reader", "length", "I", false)
  | 13 => ("TruceWall$Reader", "fault", "I", false)
  | 14 => ("TruceWall$Reader", "place", "I", false)
  | 15 => ("TruceWall$Reader", "behind", "I", false)
  | 16 => ("TruceWall$Reader", "token", "I", false)
  | 17 => ("TruceWall$Reader", "number", "I", false)
  | _ => ("TruceWall$Reader", "name", "J", false)
def tyX3 : Nat → FieldType := fun k => match k with
  | 0 => .int
  | 1 => .int
  | 2 => .int
  | 3 => .int
  | 4 => .array .int
  | 5 => .array .int
  | 6 => .array .long
  | 7 => .array .int
  | 8 => .int
  | 9 => .boolean
  | 10 => .boolean
  | 11 => .array .char
  | 12 => .int
  | 13 => .int
  | 14 => .int
  | 15 => .int
  | 16 => .int
  | 17 => .int
  | _ => .long
abbrev wsX30 : List Cond := u_ws RX3 TX3 19
theorem nmX3 : ∀ a, a < 19 → ∀ b, b < 19 → a ≠ b → (TX3 a).2.1 ≠ (TX3 b).2.1 := by decide +kernel
theorem tyX3_ok : ∀ k, k < 19 → parseFieldDescriptor (TX3 k).2.2.1 = some (tyX3 k) := by decide +kernel
abbrev cX3_init : ByteArray := prog_5_method_1_code
def yX3_init : MethodName := ⟨RX3, "<init>", "()V"⟩
abbrev cX3_written : ByteArray := prog_5_method_2_code
def yX3_written : MethodName := ⟨RX3, "written", "()LTruceWall$Truce;"⟩
abbrev cX3_fineCode : ByteArray := prog_5_method_3_code
def yX3_fineCode : MethodName := ⟨RX3, "fineCode", "()[I"⟩
abbrev cX3_readTruce : ByteArray := prog_5_method_4_code
def yX3_readTruce : MethodName := ⟨RX3, "readTruce", "([CI)I"⟩
abbrev cX3_wallLine : ByteArray := prog_5_method_5_code
def yX3_wallLine : MethodName := ⟨RX3, "wallLine", "()V"⟩
abbrev cX3_stoneLine : ByteArray := prog_5_method_6_code
def yX3_stoneLine : MethodName := ⟨RX3, "stoneLine", "()V"⟩
abbrev cX3_gatesLine : ByteArray := prog_5_method_7_code
def yX3_gatesLine : MethodName := ⟨RX3, "gatesLine", "()V"⟩
abbrev cX3_fineLine : ByteArray := prog_5_method_8_code
def yX3_fineLine : MethodName := ⟨RX3, "fineLine", "()V"⟩
abbrev cX3_readE : ByteArray := prog_5_method_9_code
def yX3_readE : MethodName := ⟨RX3, "readE", "(I)V"⟩
abbrev cX3_readTest : ByteArray := prog_5_method_10_code
def yX3_readTest : MethodName := ⟨RX3, "readTest", "(I)V"⟩
abbrev cX3_readSum : ByteArray := prog_5_method_11_code
def yX3_readSum : MethodName := ⟨RX3, "readSum", "(I)V"⟩
abbrev cX3_readProduct : ByteArray := prog_5_method_12_code
def yX3_readProduct : MethodName := ⟨RX3, "readProduct", "(I)V"⟩
abbrev cX3_readPart : ByteArray := prog_5_method_13_code
def yX3_readPart : MethodName := ⟨RX3, "readPart", "(I)V"⟩
abbrev cX3_emit : ByteArray := prog_5_method_14_code
def yX3_emit : MethodName := ⟨RX3, "emit", "(I)V"⟩
abbrev cX3_wrong : ByteArray := prog_5_method_15_code
def yX3_wrong : MethodName := ⟨RX3, "wrong", "(I)V"⟩
abbrev cX3_expect : ByteArray := prog_5_method_16_code
def yX3_expect : MethodName := ⟨RX3, "expect", "(I)V"⟩
abbrev cX3_expectNumber : ByteArray := prog_5_method_17_code
def yX3_expectNumber : MethodName := ⟨RX3, "expectNumber", "(II)I"⟩
abbrev cX3_expectKind : ByteArray := prog_5_method_18_code
def yX3_expectKind : MethodName := ⟨RX3, "expectKind", "()I"⟩
abbrev cX3_expectName : ByteArray := prog_5_method_19_code
def yX3_expectName : MethodName := ⟨RX3, "expectName", "()J"⟩
abbrev cX3_step : ByteArray := prog_5_method_20_code
def yX3_step : MethodName := ⟨RX3, "step", "()V"⟩
abbrev cX3_stepWord : ByteArray := prog_5_method_21_code
def yX3_stepWord : MethodName := ⟨RX3, "stepWord", "()V"⟩
abbrev cX3_knownWord : ByteArray := prog_5_method_22_code
def yX3_knownWord : MethodName := ⟨RX3, "knownWord", "(I)I"⟩
abbrev cX3_stepNumber : ByteArray := prog_5_method_23_code
def yX3_stepNumber : MethodName := ⟨RX3, "stepNumber", "()V"⟩
abbrev cX3_isLetter : ByteArray := prog_5_method_24_code
def yX3_isLetter : MethodName := ⟨RX3, "isLetter", "(C)Z"⟩
abbrev cX3_isDigit : ByteArray := prog_5_method_25_code
def yX3_isDigit : MethodName := ⟨RX3, "isDigit", "(C)Z"⟩
abbrev cX3_isSign : ByteArray := prog_5_method_26_code
def yX3_isSign : MethodName := ⟨RX3, "isSign", "(C)Z"⟩
def RX4 : String := "TruceWall$Reckoner"
def TX4 : u_T := fun k => match k with
  | 0 => ("TruceWall$Reckoner", "waiting", "[I", true)
  | _ => ("TruceWall$Reckoner", "top", "I", false)
def tyX4 : Nat → FieldType := fun k => match k with
  | 0 => .array .int
  | _ => .int
abbrev wsX40 : List Cond := u_ws RX4 TX4 2
theorem nmX4 : ∀ a, a < 2 → ∀ b, b < 2 → a ≠ b → (TX4 a).2.1 ≠ (TX4 b).2.1 := by decide +kernel
theorem tyX4_ok : ∀ k, k < 2 → parseFieldDescriptor (TX4 k).2.2.1 = some (tyX4 k) := by decide +kernel
abbrev cX4_init : ByteArray := prog_6_method_1_code
def yX4_init : MethodName := ⟨RX4, "<init>", "()V"⟩
abbrev cX4_worth : ByteArray := prog_6_method_2_code
def yX4_worth : MethodName := ⟨RX4, "worth", "([IIIII)I"⟩
abbrev cX4_joined : ByteArray := prog_6_method_3_code
def yX4_joined : MethodName := ⟨RX4, "joined", "(III)I"⟩
abbrev cX4_push : ByteArray := prog_6_method_4_code
def yX4_push : MethodName := ⟨RX4, "push", "(I)V"⟩
abbrev cX4_pop : ByteArray := prog_6_method_5_code
def yX4_pop : MethodName := ⟨RX4, "pop", "()I"⟩
def RX5 : String := "TruceWall$Site"
def TX5 : u_T := fun k => match k with
  | 0 => ("TruceWall$Site", "acts", "[I", true)
  | 1 => ("TruceWall$Site", "done", "I", false)
  | 2 => ("TruceWall$Site", "wall", "J", false)
  | 3 => ("TruceWall$Site", "bill", "I", false)
  | 4 => ("TruceWall$Site", "holesOf", "[I", true)
  | 5 => ("TruceWall$Site", "holesIn", "[I", true)
  | 6 => ("TruceWall$Site", "owners", "[I", true)
  | _ => ("TruceWall$Site", "reckoner", "LTruceWall$Reckoner;", true)
def tyX5 : Nat → FieldType := fun k => match k with
  | 0 => .array .int
  | 1 => .int
  | 2 => .long
  | 3 => .int
  | 4 => .array .int
  | 5 => .array .int
  | 6 => .array .int
  | _ => .object "TruceWall$Reckoner"
abbrev wsX50 : List Cond := u_ws RX5 TX5 8
theorem nmX5 : ∀ a, a < 8 → ∀ b, b < 8 → a ≠ b → (TX5 a).2.1 ≠ (TX5 b).2.1 := by decide +kernel
theorem tyX5_ok : ∀ k, k < 8 → parseFieldDescriptor (TX5 k).2.2.1 = some (tyX5 k) := by decide +kernel
abbrev cX5_init : ByteArray := prog_7_method_1_code
def yX5_init : MethodName := ⟨RX5, "<init>", "()V"⟩
abbrev cX5_town : ByteArray := prog_7_method_2_code
def yX5_town : MethodName := ⟨RX5, "town", "()I"⟩
abbrev cX5_clear : ByteArray := prog_7_method_3_code
def yX5_clear : MethodName := ⟨RX5, "clear", "()V"⟩
abbrev cX5_take : ByteArray := prog_7_method_4_code
def yX5_take : MethodName := ⟨RX5, "take", "([I)V"⟩
abbrev cX5_replay : ByteArray := prog_7_method_5_code
def yX5_replay : MethodName := ⟨RX5, "replay", "(LTruceWall$Truce;I)V"⟩
abbrev cX5_perform : ByteArray := prog_7_method_6_code
def yX5_perform : MethodName := ⟨RX5, "perform", "(LTruceWall$Truce;I)V"⟩
abbrev cX5_lodge : ByteArray := prog_7_method_7_code
def yX5_lodge : MethodName := ⟨RX5, "lodge", "(LTruceWall$Truce;I)V"⟩
def RX6 : String := "TruceWall$Truce"
def TX6 : u_T := fun k => match k with
  | 0 => ("TruceWall$Truce", "columns", "I", true)
  | 1 => ("TruceWall$Truce", "high", "I", true)
  | 2 => ("TruceWall$Truce", "gates", "I", true)
  | 3 => ("TruceWall$Truce", "stones", "I", true)
  | 4 => ("TruceWall$Truce", "kinds", "[I", true)
  | 5 => ("TruceWall$Truce", "wides", "[I", true)
  | 6 => ("TruceWall$Truce", "fine", "[I", true)
  | 7 => ("TruceWall$Truce", "isSmall", "Z", true)
  | _ => ("TruceWall$Truce", "candidates", "[I", true)
def tyX6 : Nat → FieldType := fun k => match k with
  | 0 => .int
  | 1 => .int
  | 2 => .int
  | 3 => .int
  | 4 => .array .int
  | 5 => .array .int
  | 6 => .array .int
  | 7 => .boolean
  | _ => .array .int
abbrev wsX60 : List Cond := u_ws RX6 TX6 9
theorem nmX6 : ∀ a, a < 9 → ∀ b, b < 9 → a ≠ b → (TX6 a).2.1 ≠ (TX6 b).2.1 := by decide +kernel
theorem tyX6_ok : ∀ k, k < 9 → parseFieldDescriptor (TX6 k).2.2.1 = some (tyX6 k) := by decide +kernel
abbrev cX6_init : ByteArray := prog_8_method_1_code
def yX6_init : MethodName := ⟨RX6, "<init>", "(LTruceWall$Reader;)V"⟩
abbrev cX6_heightAt : ByteArray := prog_8_method_2_code
def yX6_heightAt : MethodName := ⟨RX6, "heightAt", "(JI)I"⟩
abbrev cX6_gateAt : ByteArray := prog_8_method_3_code
def yX6_gateAt : MethodName := ⟨RX6, "gateAt", "(JI)I"⟩
abbrev cX6_withPlace : ByteArray := prog_8_method_4_code
def yX6_withPlace : MethodName := ⟨RX6, "withPlace", "(JII)J"⟩
abbrev cX6_power : ByteArray := prog_8_method_5_code
def yX6_power : MethodName := ⟨RX6, "power", "(II)I"⟩
abbrev cX6_allCandidates : ByteArray := prog_8_method_6_code
def yX6_allCandidates : MethodName := ⟨RX6, "allCandidates", "()[I"⟩
abbrev cX6_isAsTold : ByteArray := prog_8_method_7_code
def yX6_isAsTold : MethodName := ⟨RX6, "isAsTold", "(III)Z"⟩
abbrev cX6_twinOf : ByteArray := prog_8_method_8_code
def yX6_twinOf : MethodName := ⟨RX6, "twinOf", "(I)I"⟩
abbrev cX6_stoneHindrance : ByteArray := prog_8_method_9_code
def yX6_stoneHindrance : MethodName := ⟨RX6, "stoneHindrance", "(JIII)I"⟩
abbrev cX6_twinHindrance : ByteArray := prog_8_method_10_code
def yX6_twinHindrance : MethodName := ⟨RX6, "twinHindrance", "(JI)I"⟩
abbrev cX6_roundStands : ByteArray := prog_8_method_11_code
def yX6_roundStands : MethodName := ⟨RX6, "roundStands", "(JII)Z"⟩
abbrev cX6_bridgeStands : ByteArray := prog_8_method_12_code
def yX6_bridgeStands : MethodName := ⟨RX6, "bridgeStands", "(III)Z"⟩
abbrev cX6_gateHindrance : ByteArray := prog_8_method_13_code
def yX6_gateHindrance : MethodName := ⟨RX6, "gateHindrance", "(JII)I"⟩
abbrev cX6_gatesLeft : ByteArray := prog_8_method_14_code
def yX6_gatesLeft : MethodName := ⟨RX6, "gatesLeft", "(JI)I"⟩
abbrev cX6_withGate : ByteArray := prog_8_method_15_code
def yX6_withGate : MethodName := ⟨RX6, "withGate", "(JII)J"⟩
abbrev cX6_canDo : ByteArray := prog_8_method_16_code
def yX6_canDo : MethodName := ⟨RX6, "canDo", "(JII)Z"⟩
abbrev cX6_gather : ByteArray := prog_8_method_17_code
def yX6_gather : MethodName := ⟨RX6, "gather", "(JI[I)I"⟩
abbrev cX6_after : ByteArray := prog_8_method_18_code
def yX6_after : MethodName := ⟨RX6, "after", "(JII)J"⟩
abbrev cX6_isClosed : ByteArray := prog_8_method_19_code
def yX6_isClosed : MethodName := ⟨RX6, "isClosed", "(J)Z"⟩
abbrev cX6_payer : ByteArray := prog_8_method_20_code
def yX6_payer : MethodName := ⟨RX6, "payer", "(JI)I"⟩
abbrev cX6_numberOf : ByteArray := prog_8_method_21_code
def yX6_numberOf : MethodName := ⟨RX6, "numberOf", "(J)I"⟩
abbrev cX6_numberOfLooks : ByteArray := prog_8_method_22_code
def yX6_numberOfLooks : MethodName := ⟨RX6, "numberOfLooks", "(J)I"⟩
abbrev cX6_wallOf : ByteArray := prog_8_method_23_code
def yX6_wallOf : MethodName := ⟨RX6, "wallOf", "(I)J"⟩
abbrev cX6_manyNumbers : ByteArray := prog_8_method_24_code
def yX6_manyNumbers : MethodName := ⟨RX6, "manyNumbers", "()I"⟩
def RX7 : String := "TruceWall$Ways"
def TX7 : u_T := fun k => match k with
  | _ => ("TruceWall$Ways", "many", "[I", true)
def tyX7 : Nat → FieldType := fun k => match k with
  | _ => .array .int
abbrev wsX70 : List Cond := u_ws RX7 TX7 1
theorem nmX7 : ∀ a, a < 1 → ∀ b, b < 1 → a ≠ b → (TX7 a).2.1 ≠ (TX7 b).2.1 := by decide +kernel
theorem tyX7_ok : ∀ k, k < 1 → parseFieldDescriptor (TX7 k).2.2.1 = some (tyX7 k) := by decide +kernel
abbrev cX7_init : ByteArray := prog_9_method_1_code
def yX7_init : MethodName := ⟨RX7, "<init>", "()V"⟩
abbrev cX7_spread : ByteArray := prog_9_method_2_code
def yX7_spread : MethodName := ⟨RX7, "spread", "(LTruceWall$Truce;JIIZ)V"⟩
abbrev cX7_spreadDay : ByteArray := prog_9_method_3_code
def yX7_spreadDay : MethodName := ⟨RX7, "spreadDay", "(LTruceWall$Truce;IZ)Z"⟩
abbrev cX7_spreadWall : ByteArray := prog_9_method_4_code
def yX7_spreadWall : MethodName := ⟨RX7, "spreadWall", "(LTruceWall$Truce;JIIZ)V"⟩
abbrev cX7_unlikeWalls : ByteArray := prog_9_method_5_code
def yX7_unlikeWalls : MethodName := ⟨RX7, "unlikeWalls", "(LTruceWall$Truce;)I"⟩
abbrev cX7_waysTo : ByteArray := prog_9_method_6_code
def yX7_waysTo : MethodName := ⟨RX7, "waysTo", "(LTruceWall$Truce;J)I"⟩
def RX8 : String := "TruceWall"
def TX8 : u_T := fun k => match k with
  | 0 => ("TruceWall", "tape", "[C", true)
  | 1 => ("TruceWall", "signs", "I", false)
  | 2 => ("TruceWall", "reader", "LTruceWall$Reader;", true)
  | 3 => ("TruceWall", "truce", "LTruceWall$Truce;", false)
  | 4 => ("TruceWall", "site", "LTruceWall$Site;", true)
  | 5 => ("TruceWall", "marks", "[LTruceWall$Mark;", true)
  | 6 => ("TruceWall", "bestPlay", "LTruceWall$Play;", true)
  | 7 => ("TruceWall", "masonPlay", "LTruceWall$Play;", true)
  | 8 => ("TruceWall", "ways", "LTruceWall$Ways;", true)
  | 9 => ("TruceWall", "doable", "[I", true)
  | 10 => ("TruceWall", "choices", "I", false)
  | _ => ("TruceWall", "drawable", "[I", true)
def tyX8 : Nat → FieldType := fun k => match k with
  | 0 => .array .char
  | 1 => .int
  | 2 => .object "TruceWall$Reader"
  | 3 => .object "TruceWall$Truce"
  | 4 => .object "TruceWall$Site"
  | 5 => .array (.object "TruceWall$Mark")
  | 6 => .object "TruceWall$Play"
  | 7 => .object "TruceWall$Play"
  | 8 => .object "TruceWall$Ways"
  | 9 => .array .int
  | 10 => .int
  | _ => .array .int
abbrev wsX80 : List Cond := u_ws RX8 TX8 12
theorem nmX8 : ∀ a, a < 12 → ∀ b, b < 12 → a ≠ b → (TX8 a).2.1 ≠ (TX8 b).2.1 := by decide +kernel
theorem tyX8_ok : ∀ k, k < 12 → parseFieldDescriptor (TX8 k).2.2.1 = some (tyX8 k) := by decide +kernel
abbrev cX8_init : ByteArray := prog_1_method_1_code
def yX8_init : MethodName := ⟨RX8, "<init>", "()V"⟩
abbrev cX8_feed : ByteArray := prog_1_method_2_code
def yX8_feed : MethodName := ⟨RX8, "feed", "(JJJ)I"⟩
abbrev cX8_truce : ByteArray := prog_1_method_3_code
def yX8_truce : MethodName := ⟨RX8, "truce", "()I"⟩
abbrev cX8_stone : ByteArray := prog_1_method_4_code
def yX8_stone : MethodName := ⟨RX8, "stone", "(II)I"⟩
abbrev cX8_set : ByteArray := prog_1_method_5_code
def yX8_set : MethodName := ⟨RX8, "set", "(III)I"⟩
abbrev cX8_leave : ByteArray := prog_1_method_6_code
def yX8_leave : MethodName := ⟨RX8, "leave", "(I)I"⟩
abbrev cX8_fits : ByteArray := prog_1_method_7_code
def yX8_fits : MethodName := ⟨RX8, "fits", "(III)I"⟩
abbrev cX8_undo : ByteArray := prog_1_method_8_code
def yX8_undo : MethodName := ⟨RX8, "undo", "()Z"⟩
abbrev cX8_column : ByteArray := prog_1_method_9_code
def yX8_column : MethodName := ⟨RX8, "column", "(II)I"⟩
abbrev cX8_state : ByteArray := prog_1_method_10_code
def yX8_state : MethodName := ⟨RX8, "state", "(I)I"⟩
abbrev cX8_act : ByteArray := prog_1_method_11_code
def yX8_act : MethodName := ⟨RX8, "act", "(II)I"⟩
abbrev cX8_pays : ByteArray := prog_1_method_12_code
def yX8_pays : MethodName := ⟨RX8, "pays", "()I"⟩
abbrev cX8_days : ByteArray := prog_1_method_13_code
def yX8_days : MethodName := ⟨RX8, "days", "()I"⟩
abbrev cX8_best : ByteArray := prog_1_method_14_code
def yX8_best : MethodName := ⟨RX8, "best", "()I"⟩
abbrev cX8_holds : ByteArray := prog_1_method_15_code
def yX8_holds : MethodName := ⟨RX8, "holds", "(I)I"⟩
abbrev cX8_mason : ByteArray := prog_1_method_16_code
def yX8_mason : MethodName := ⟨RX8, "mason", "(II)I"⟩
abbrev cX8_reached : ByteArray := prog_1_method_17_code
def yX8_reached : MethodName := ⟨RX8, "reached", "(I)I"⟩
abbrev cX8_histories : ByteArray := prog_1_method_18_code
def yX8_histories : MethodName := ⟨RX8, "histories", "(I)I"⟩
abbrev cX8_lots : ByteArray := prog_1_method_19_code
def yX8_lots : MethodName := ⟨RX8, "lots", "(III)I"⟩
abbrev cX8_mark : ByteArray := prog_1_method_20_code
def yX8_mark : MethodName := ⟨RX8, "mark", "(IZ)Z"⟩
abbrev cX8_count : ByteArray := prog_1_method_21_code
def yX8_count : MethodName := ⟨RX8, "count", "(I)I"⟩
abbrev cX8_takeSigns : ByteArray := prog_1_method_22_code
def yX8_takeSigns : MethodName := ⟨RX8, "takeSigns", "(J)V"⟩
abbrev cX8_lookRound : ByteArray := prog_1_method_23_code
def yX8_lookRound : MethodName := ⟨RX8, "lookRound", "()V"⟩
abbrev cX8_isOver : ByteArray := prog_1_method_24_code
def yX8_isOver : MethodName := ⟨RX8, "isOver", "()Z"⟩
abbrev cX8_gateRefused : ByteArray := prog_1_method_25_code
def yX8_gateRefused : MethodName := ⟨RX8, "gateRefused", "(I)I"⟩
abbrev cX8_outcomeNow : ByteArray := prog_1_method_26_code
def yX8_outcomeNow : MethodName := ⟨RX8, "outcomeNow", "()I"⟩
abbrev cX8_outcomeBehind : ByteArray := prog_1_method_27_code
def yX8_outcomeBehind : MethodName := ⟨RX8, "outcomeBehind", "(I)I"⟩
def RX9 : String := "TruceWallModel"
def TX9 : u_T := fun k => match k with
  | 0 => ("TruceWallModel", "thrown", "I", false)
  | 1 => ("TruceWallModel", "taped", "I", false)
  | 2 => ("TruceWallModel", "tape", "[I", true)
  | 3 => ("TruceWallModel", "size", "I", false)
  | 4 => ("TruceWallModel", "place", "I", false)
  | 5 => ("TruceWallModel", "begin", "I", false)
  | 6 => ("TruceWallModel", "token", "I", false)
  | 7 => ("TruceWallModel", "word", "J", false)
  | 8 => ("TruceWallModel", "told", "I", false)
  | 9 => ("TruceWallModel", "wrong", "I", false)
  | 10 => ("TruceWallModel", "wide", "[I", true)
  | 11 => ("TruceWallModel", "high", "[I", true)
  | 12 => ("TruceWallModel", "stones", "[I", true)
  | 13 => ("TruceWallModel", "gates", "[I", true)
  | 14 => ("TruceWallModel", "kind", "[I", true)
  | 15 => ("TruceWallModel", "broad", "[I", true)
  | 16 => ("TruceWallModel", "names", "[J", true)
  | 17 => ("TruceWallModel", "lineFrom", "[I", true)
  | 18 => ("TruceWallModel", "lineTo", "[I", true)
  | 19 => ("TruceWallModel", "codes", "[I", true)
  | 20 => ("TruceWallModel", "code", "I", false)
  | 21 => ("TruceWallModel", "isGatesTold", "Z", false)
  | 22 => ("TruceWallModel", "isFineTold", "Z", false)
  | 23 => ("TruceWallModel", "opened", "[I", true)
  | 24 => ("TruceWallModel", "compared", "[Z", true)
  | 25 => ("TruceWallModel", "kept", "[I", true)
  | 26 => ("TruceWallModel", "keptBy", "[I", true)
  | 27 => ("TruceWallModel", "ahead", "[I", true)
  | 28 => ("TruceWallModel", "against", "[I", true)
  | 29 => ("TruceWallModel", "sum", "[I", true)
  | 30 => ("TruceWallModel", "sumBy", "[I", true)
  | 31 => ("TruceWallModel", "term", "[I", true)
  | 32 => ("TruceWallModel", "termBy", "[I", true)
  | 33 => ("TruceWallModel", "byNot", "[I", true)
  | 34 => ("TruceWallModel", "valueOf", "[I", true)
  | 35 => ("TruceWallModel", "given", "I", false)
  | 36 => ("TruceWallModel", "s", "[I", true)
  | 37 => ("TruceWallModel", "before", "[I", true)
  | 38 => ("TruceWallModel", "done", "I", false)
  | 39 => ("TruceWallModel", "actStone", "I", false)
  | 40 => ("TruceWallModel", "actColumn", "I", false)
  | 41 => ("TruceWallModel", "actWide", "I", false)
  | 42 => ("TruceWallModel", "payer", "[B", true)
  | 43 => ("TruceWallModel", "daysOf", "[B", true)
  | 44 => ("TruceWallModel", "isKnown", "Z", false)
  | 45 => ("TruceWallModel", "masonPays", "[B", true)
  | 46 => ("TruceWallModel", "ways", "[I", true)
  | 47 => ("TruceWallModel", "waysThen", "[I", true)
  | 48 => ("TruceWallModel", "g", "J", false)
  | 49 => ("TruceWallModel", "isLaid", "[Z", true)
  | 50 => ("TruceWallModel", "marked", "[I", true)
  | _ => ("TruceWallModel", "markDone", "[I", true)
def tyX9 : Nat → FieldType := fun k => match k with
  | 0 => .int
  | 1 => .int
  | 2 => .array .int
  | 3 => .int
  | 4 => .int
  | 5 => .int
  | 6 => .int
  | 7 => .long
  | 8 => .int
  | 9 => .int
  | 10 => .array .int
  | 11 => .array .int
  | 12 => .array .int
  | 13 => .array .int
  | 14 => .array .int
  | 15 => .array .int
  | 16 => .array .long
  | 17 => .array .int
  | 18 => .array .int
  | 19 => .array .int
  | 20 => .int
  | 21 => .boolean
  | 22 => .boolean
  | 23 => .array .int
  | 24 => .array .boolean
  | 25 => .array .int
  | 26 => .array .int
  | 27 => .array .int
  | 28 => .array .int
  | 29 => .array .int
  | 30 => .array .int
  | 31 => .array .int
  | 32 => .array .int
  | 33 => .array .int
  | 34 => .array .int
  | 35 => .int
  | 36 => .array .int
  | 37 => .array .int
  | 38 => .int
  | 39 => .int
  | 40 => .int
  | 41 => .int
  | 42 => .array .byte
  | 43 => .array .byte
  | 44 => .boolean
  | 45 => .array .byte
  | 46 => .array .int
  | 47 => .array .int
  | 48 => .long
  | 49 => .array .boolean
  | 50 => .array .int
  | _ => .array .int
abbrev wsX90 : List Cond := u_ws RX9 TX9 52
theorem nmX9 : ∀ a, a < 52 → ∀ b, b < 52 → a ≠ b → (TX9 a).2.1 ≠ (TX9 b).2.1 := by decide +kernel
theorem tyX9_ok : ∀ k, k < 52 → parseFieldDescriptor (TX9 k).2.2.1 = some (tyX9 k) := by decide +kernel
abbrev cX9_init : ByteArray := prog_11_method_1_code
def yX9_init : MethodName := ⟨RX9, "<init>", "()V"⟩
abbrev cX9_thrown : ByteArray := prog_11_method_2_code
def yX9_thrown : MethodName := ⟨RX9, "thrown", "()I"⟩
abbrev cX9_within : ByteArray := prog_11_method_3_code
def yX9_within : MethodName := ⟨RX9, "within", "(III)Z"⟩
abbrev cX9_feed : ByteArray := prog_11_method_4_code
def yX9_feed : MethodName := ⟨RX9, "feed", "(JJJ)I"⟩
abbrev cX9_signAt : ByteArray := prog_11_method_5_code
def yX9_signAt : MethodName := ⟨RX9, "signAt", "(I)I"⟩
abbrev cX9_nextToken : ByteArray := prog_11_method_6_code
def yX9_nextToken : MethodName := ⟨RX9, "nextToken", "()V"⟩
abbrev cX9_isWord : ByteArray := prog_11_method_7_code
def yX9_isWord : MethodName := ⟨RX9, "isWord", "(J)Z"⟩
abbrev cX9_isSign : ByteArray := prog_11_method_8_code
def yX9_isSign : MethodName := ⟨RX9, "isSign", "(I)Z"⟩
abbrev cX9_fails : ByteArray := prog_11_method_9_code
def yX9_fails : MethodName := ⟨RX9, "fails", "(I)Z"⟩
abbrev cX9_puts : ByteArray := prog_11_method_10_code
def yX9_puts : MethodName := ⟨RX9, "puts", "(I)V"⟩
abbrev cX9_fact : ByteArray := prog_11_method_11_code
def yX9_fact : MethodName := ⟨RX9, "fact", "()I"⟩
abbrev cX9_reads : ByteArray := prog_11_method_12_code
def yX9_reads : MethodName := ⟨RX9, "reads", "()Z"⟩
abbrev cX9_opens : ByteArray := prog_11_method_13_code
def yX9_opens : MethodName := ⟨RX9, "opens", "(I)V"⟩
abbrev cX9_sums : ByteArray := prog_11_method_14_code
def yX9_sums : MethodName := ⟨RX9, "sums", "(I)V"⟩
abbrev cX9_tests : ByteArray := prog_11_method_15_code
def yX9_tests : MethodName := ⟨RX9, "tests", "(I)V"⟩
abbrev cX9_worked : ByteArray := prog_11_method_16_code
def yX9_worked : MethodName := ⟨RX9, "worked", "(I)I"⟩
abbrev cX9_isKept : ByteArray := prog_11_method_17_code
def yX9_isKept : MethodName := ⟨RX9, "isKept", "()Z"⟩
abbrev cX9_needsNumber : ByteArray := prog_11_method_18_code
def yX9_needsNumber : MethodName := ⟨RX9, "needsNumber", "(II)Z"⟩
abbrev cX9_ends : ByteArray := prog_11_method_19_code
def yX9_ends : MethodName := ⟨RX9, "ends", "()Z"⟩
abbrev cX9_kindAt : ByteArray := prog_11_method_20_code
def yX9_kindAt : MethodName := ⟨RX9, "kindAt", "()I"⟩
abbrev cX9_readsStone : ByteArray := prog_11_method_21_code
def yX9_readsStone : MethodName := ⟨RX9, "readsStone", "()Z"⟩
abbrev cX9_readsGates : ByteArray := prog_11_method_22_code
def yX9_readsGates : MethodName := ⟨RX9, "readsGates", "()Z"⟩
abbrev cX9_readsFine : ByteArray := prog_11_method_23_code
def yX9_readsFine : MethodName := ⟨RX9, "readsFine", "()Z"⟩
abbrev cX9_readsAll : ByteArray := prog_11_method_24_code
def yX9_readsAll : MethodName := ⟨RX9, "readsAll", "()Z"⟩
abbrev cX9_moves : ByteArray := prog_11_method_25_code
def yX9_moves : MethodName := ⟨RX9, "moves", "([IIII)V"⟩
abbrev cX9_lays : ByteArray := prog_11_method_26_code
def yX9_lays : MethodName := ⟨RX9, "lays", "(II)V"⟩
abbrev cX9_truce : ByteArray := prog_11_method_27_code
def yX9_truce : MethodName := ⟨RX9, "truce", "()I"⟩
abbrev cX9_begins : ByteArray := prog_11_method_28_code
def yX9_begins : MethodName := ⟨RX9, "begins", "()V"⟩
abbrev cX9_nothing : ByteArray := prog_11_method_29_code
def yX9_nothing : MethodName := ⟨RX9, "nothing", "(I)V"⟩
abbrev cX9_isClosed : ByteArray := prog_11_method_30_code
def yX9_isClosed : MethodName := ⟨RX9, "isClosed", "(I)Z"⟩
abbrev cX9_looks : ByteArray := prog_11_method_31_code
def yX9_looks : MethodName := ⟨RX9, "looks", "(I)V"⟩
abbrev cX9_isColumn : ByteArray := prog_11_method_32_code
def yX9_isColumn : MethodName := ⟨RX9, "isColumn", "(I)Z"⟩
abbrev cX9_otherOf : ByteArray := prog_11_method_33_code
def yX9_otherOf : MethodName := ⟨RX9, "otherOf", "(I)I"⟩
abbrev cX9_isWide : ByteArray := prog_11_method_34_code
def yX9_isWide : MethodName := ⟨RX9, "isWide", "(II)Z"⟩
abbrev cX9_stands : ByteArray := prog_11_method_35_code
def yX9_stands : MethodName := ⟨RX9, "stands", "(IIII)Z"⟩
abbrev cX9_why : ByteArray := prog_11_method_36_code
def yX9_why : MethodName := ⟨RX9, "why", "(IIIIZ)I"⟩
abbrev cX9_whyGate : ByteArray := prog_11_method_37_code
def yX9_whyGate : MethodName := ⟨RX9, "whyGate", "(IIZ)I"⟩
abbrev cX9_nextAct : ByteArray := prog_11_method_38_code
def yX9_nextAct : MethodName := ⟨RX9, "nextAct", "(II)I"⟩
abbrev cX9_hasAct : ByteArray := prog_11_method_39_code
def yX9_hasAct : MethodName := ⟨RX9, "hasAct", "(I)Z"⟩
abbrev cX9_acts : ByteArray := prog_11_method_40_code
def yX9_acts : MethodName := ⟨RX9, "acts", "(I)I"⟩
abbrev cX9_finds : ByteArray := prog_11_method_41_code
def yX9_finds : MethodName := ⟨RX9, "finds", "(II)Z"⟩
abbrev cX9_sets : ByteArray := prog_11_method_42_code
def yX9_sets : MethodName := ⟨RX9, "sets", "(IIII)V"⟩
abbrev cX9_does : ByteArray := prog_11_method_43_code
def yX9_does : MethodName := ⟨RX9, "does", "(IIII)V"⟩
abbrev cX9_keeps : ByteArray := prog_11_method_44_code
def yX9_keeps : MethodName := ⟨RX9, "keeps", "()V"⟩
abbrev cX9_stone : ByteArray := prog_11_method_45_code
def yX9_stone : MethodName := ⟨RX9, "stone", "(II)I"⟩
abbrev cX9_set : ByteArray := prog_11_method_46_code
def yX9_set : MethodName := ⟨RX9, "set", "(III)I"⟩
abbrev cX9_leave : ByteArray := prog_11_method_47_code
def yX9_leave : MethodName := ⟨RX9, "leave", "(I)I"⟩
abbrev cX9_fits : ByteArray := prog_11_method_48_code
def yX9_fits : MethodName := ⟨RX9, "fits", "(III)I"⟩
abbrev cX9_undo : ByteArray := prog_11_method_49_code
def yX9_undo : MethodName := ⟨RX9, "undo", "()Z"⟩
abbrev cX9_column : ByteArray := prog_11_method_50_code
def yX9_column : MethodName := ⟨RX9, "column", "(II)I"⟩
abbrev cX9_actsNow : ByteArray := prog_11_method_51_code
def yX9_actsNow : MethodName := ⟨RX9, "actsNow", "()I"⟩
abbrev cX9_state : ByteArray := prog_11_method_52_code
def yX9_state : MethodName := ⟨RX9, "state", "(I)I"⟩
abbrev cX9_act : ByteArray := prog_11_method_53_code
def yX9_act : MethodName := ⟨RX9, "act", "(II)I"⟩
abbrev cX9_isSmall : ByteArray := prog_11_method_54_code
def yX9_isSmall : MethodName := ⟨RX9, "isSmall", "()Z"⟩
abbrev cX9_wallOf : ByteArray := prog_11_method_55_code
def yX9_wallOf : MethodName := ⟨RX9, "wallOf", "(I)I"⟩
abbrev cX9_numberOf : ByteArray := prog_11_method_56_code
def yX9_numberOf : MethodName := ⟨RX9, "numberOf", "(I)I"⟩
abbrev cX9_laysOut : ByteArray := prog_11_method_57_code
def yX9_laysOut : MethodName := ⟨RX9, "laysOut", "(II)V"⟩
abbrev cX9_copies : ByteArray := prog_11_method_58_code
def yX9_copies : MethodName := ⟨RX9, "copies", "(II)V"⟩
abbrev cX9_knows : ByteArray := prog_11_method_59_code
def yX9_knows : MethodName := ⟨RX9, "knows", "()V"⟩
abbrev cX9_isBetter : ByteArray := prog_11_method_60_code
def yX9_isBetter : MethodName := ⟨RX9, "isBetter", "(IIIII)Z"⟩
abbrev cX9_solves : ByteArray := prog_11_method_61_code
def yX9_solves : MethodName := ⟨RX9, "solves", "(I)I"⟩
abbrev cX9_now : ByteArray := prog_11_method_62_code
def yX9_now : MethodName := ⟨RX9, "now", "()I"⟩
abbrev cX9_pays : ByteArray := prog_11_method_63_code
def yX9_pays : MethodName := ⟨RX9, "pays", "()I"⟩
abbrev cX9_days : ByteArray := prog_11_method_64_code
def yX9_days : MethodName := ⟨RX9, "days", "()I"⟩
abbrev cX9_behind : ByteArray := prog_11_method_65_code
def yX9_behind : MethodName := ⟨RX9, "behind", "(I)I"⟩
abbrev cX9_best : ByteArray := prog_11_method_66_code
def yX9_best : MethodName := ⟨RX9, "best", "()I"⟩
abbrev cX9_holds : ByteArray := prog_11_method_67_code
def yX9_holds : MethodName := ⟨RX9, "holds", "(I)I"⟩
abbrev cX9_ruled : ByteArray := prog_11_method_68_code
def yX9_ruled : MethodName := ⟨RX9, "ruled", "(II)I"⟩
abbrev cX9_masons : ByteArray := prog_11_method_69_code
def yX9_masons : MethodName := ⟨RX9, "masons", "(III)I"⟩
abbrev cX9_mason : ByteArray := prog_11_method_70_code
def yX9_mason : MethodName := ⟨RX9, "mason", "(II)I"⟩
abbrev cX9_goesOn : ByteArray := prog_11_method_71_code
def yX9_goesOn : MethodName := ⟨RX9, "goesOn", "(Z)V"⟩
abbrev cX9_reached : ByteArray := prog_11_method_72_code
def yX9_reached : MethodName := ⟨RX9, "reached", "(I)I"⟩
abbrev cX9_histories : ByteArray := prog_11_method_73_code
def yX9_histories : MethodName := ⟨RX9, "histories", "(I)I"⟩
abbrev cX9_draws : ByteArray := prog_11_method_74_code
def yX9_draws : MethodName := ⟨RX9, "draws", "(I)I"⟩
abbrev cX9_lots : ByteArray := prog_11_method_75_code
def yX9_lots : MethodName := ⟨RX9, "lots", "(III)I"⟩
abbrev cX9_mark : ByteArray := prog_11_method_76_code
def yX9_mark : MethodName := ⟨RX9, "mark", "(IZ)Z"⟩
abbrev cX9_count : ByteArray := prog_11_method_77_code
def yX9_count : MethodName := ⟨RX9, "count", "(I)I"⟩
def RJ0 : String := "java/lang/String"
abbrev cJ0_charAt_5068e : ByteArray := prog_19_method_56_code
def yJ0_charAt_5068e : MethodName := ⟨RJ0, "charAt", "(I)C"⟩
abbrev cJ0_isLatin1_aae02 : ByteArray := prog_19_method_154_code
def yJ0_isLatin1_aae02 : MethodName := ⟨RJ0, "isLatin1", "()Z"⟩
abbrev cJ0_checkIndex_df160 : ByteArray := prog_19_method_155_code
def yJ0_checkIndex_df160 : MethodName := ⟨RJ0, "checkIndex", "(II)V"⟩
def RJ1 : String := "java/lang/StringLatin1"
abbrev cJ1_charAt_3b067 : ByteArray := prog_20_method_2_code
def yJ1_charAt_3b067 : MethodName := ⟨RJ1, "charAt", "([BI)C"⟩
def RJ3 : String := "jdk/internal/util/Preconditions"
abbrev cJ3_checkIndex_8e157 : ByteArray := prog_27_method_11_code
def yJ3_checkIndex_8e157 : MethodName := ⟨RJ3, "checkIndex", "(IILjava/util/function/BiFunction;)I"⟩
def RL : String := "TruceWallLaw"
abbrev cL_state : ByteArray := method_3_code
def yL_state : MethodName := ⟨RL, "state", "(LTruceWall;I[J)I"⟩
abbrev cL_law : ByteArray := code
def yL_law : MethodName := ⟨RL, "law", "([I)Z"⟩
abbrev vwCl : List vw_C := [(RX1, TX1, 3), (RX2, TX2, 4), (RX3, TX3, 19), (RX4, TX4, 2), (RX5, TX5, 8), (RX6, TX6, 9), (RX7, TX7, 1), (RX8, TX8, 12), (RX9, TX9, 52), (RNS, TX0, 0)]
end
section
/-! THE ABSTRACT STATE: cells numbered from 1 in the order of their making; of each cell its ints, longs and references by slot (a reference: 0 is null, else a cell's number), its kind (a class's number, or 100 and the type of an array) and its length -/
abbrev St : Type := (Nat → Nat → Int32) × (Nat → Nat → Int64) × (Nat → Nat → Nat) × (Nat → Nat × Nat) × Nat × Nat
def gI (S : St) (a k : Nat) : Int32 := S.1 a k
def gL (S : St) (a k : Nat) : Int64 := S.2.1 a k
def gR (S : St) (a k : Nat) : Nat := S.2.2.1 a k
def gK (S : St) (a : Nat) : Nat := (S.2.2.2.1 a).1
def gN (S : St) (a : Nat) : Nat := (S.2.2.2.1 a).2
def gZ (S : St) : Nat := S.2.2.2.2.1
def gU (S : St) : Nat := S.2.2.2.2.2
def u2 {α : Type} (f : Nat → Nat → α) (a k : Nat) (v : α) : Nat → Nat → α := fun b j => if b = a ∧ j = k then v else f b j
def pI (S : St) (a k : Nat) (v : Int32) : St := (u2 S.1 a k v, S.2)
def pL (S : St) (a k : Nat) (v : Int64) : St := (S.1, u2 S.2.1 a k v, S.2.2)
def pR (S : St) (a k : Nat) (v : Nat) : St := (S.1, S.2.1, u2 S.2.2.1 a k v, S.2.2.2)
def z1 {α : Type} (f : Nat → Nat → α) (z : Nat) (v : α) : Nat → Nat → α := fun b j => if b = z then v else f b j
def nw (S : St) (c n : Nat) : St := (z1 S.1 (gZ S + 1) 0, z1 S.2.1 (gZ S + 1) 0, z1 S.2.2.1 (gZ S + 1) 0, (fun b => if b = gZ S + 1 then (c, n) else S.2.2.2.1 b), gZ S + 1, gU S + n)
/-- n ints of cell a from sp on, copied to cell b from dp on -/
def cpI (S : St) (a b sp dp n : Nat) : St := ((fun x j => if x = b ∧ dp ≤ j ∧ j < dp + n then S.1 a (sp + (j - dp)) else S.1 x j), S.2)
/-- a new int array that holds what cell a holds -/
def clI (S : St) (a : Nat) : St := ((fun b j => if b = gZ S + 1 then S.1 a j else S.1 b j), z1 S.2.1 (gZ S + 1) 0, z1 S.2.2.1 (gZ S + 1) 0, (fun b => if b = gZ S + 1 then (100, gN S a) else S.2.2.2.1 b), gZ S + 1, gU S + gN S a)
theorem gI_pI (S : St) (a k : Nat) (v : Int32) (b j : Nat) : gI (pI S a k v) b j = if b = a ∧ j = k then v else gI S b j := rfl
theorem gL_pL (S : St) (a k : Nat) (v : Int64) (b j : Nat) : gL (pL S a k v) b j = if b = a ∧ j = k then v else gL S b j := rfl
theorem gR_pR (S : St) (a k : Nat) (v : Nat) (b j : Nat) : gR (pR S a k v) b j = if b = a ∧ j = k then v else gR S b j := rfl
theorem gL_pI (S : St) (a k : Nat) (v : Int32) (b j : Nat) : gL (pI S a k v) b j = gL S b j := rfl
theorem gR_pI (S : St) (a k : Nat) (v : Int32) (b j : Nat) : gR (pI S a k v) b j = gR S b j := rfl
theorem gK_pI (S : St) (a k : Nat) (v : Int32) (b : Nat) : gK (pI S a k v) b = gK S b := rfl
theorem gN_pI (S : St) (a k : Nat) (v : Int32) (b : Nat) : gN (pI S a k v) b = gN S b := rfl
theorem gZ_pI (S : St) (a k : Nat) (v : Int32) : gZ (pI S a k v) = gZ S := rfl
theorem gU_pI (S : St) (a k : Nat) (v : Int32) : gU (pI S a k v) = gU S := rfl
theorem gI_pL (S : St) (a k : Nat) (v : Int64) (b j : Nat) : gI (pL S a k v) b j = gI S b j := rfl
theorem gR_pL (S : St) (a k : Nat) (v : Int64) (b j : Nat) : gR (pL S a k v) b j = gR S b j := rfl
theorem gK_pL (S : St) (a k : Nat) (v : Int64) (b : Nat) : gK (pL S a k v) b = gK S b := rfl
theorem gN_pL (S : St) (a k : Nat) (v : Int64) (b : Nat) : gN (pL S a k v) b = gN S b := rfl
theorem gZ_pL (S : St) (a k : Nat) (v : Int64) : gZ (pL S a k v) = gZ S := rfl
theorem gU_pL (S : St) (a k : Nat) (v : Int64) : gU (pL S a k v) = gU S := rfl
theorem gI_pR (S : St) (a k : Nat) (v : Nat) (b j : Nat) : gI (pR S a k v) b j = gI S b j := rfl
theorem gL_pR (S : St) (a k : Nat) (v : Nat) (b j : Nat) : gL (pR S a k v) b j = gL S b j := rfl
theorem gK_pR (S : St) (a k : Nat) (v : Nat) (b : Nat) : gK (pR S a k v) b = gK S b := rfl
theorem gN_pR (S : St) (a k : Nat) (v : Nat) (b : Nat) : gN (pR S a k v) b = gN S b := rfl
theorem gZ_pR (S : St) (a k : Nat) (v : Nat) : gZ (pR S a k v) = gZ S := rfl
theorem gU_pR (S : St) (a k : Nat) (v : Nat) : gU (pR S a k v) = gU S := rfl
theorem gI_nw (S : St) (c n b j : Nat) : gI (nw S c n) b j = if b = gZ S + 1 then 0 else gI S b j := rfl
theorem gL_nw (S : St) (c n b j : Nat) : gL (nw S c n) b j = if b = gZ S + 1 then 0 else gL S b j := rfl
theorem gR_nw (S : St) (c n b j : Nat) : gR (nw S c n) b j = if b = gZ S + 1 then 0 else gR S b j := rfl
theorem gK_nw (S : St) (c n b : Nat) : gK (nw S c n) b = if b = gZ S + 1 then c else gK S b := by
  unfold gK nw; dsimp only; split <;> rfl
theorem gN_nw (S : St) (c n b : Nat) : gN (nw S c n) b = if b = gZ S + 1 then n else gN S b := by
  unfold gN nw; dsimp only; split <;> rfl
theorem gZ_nw (S : St) (c n : Nat) : gZ (nw S c n) = gZ S + 1 := rfl
theorem gU_nw (S : St) (c n : Nat) : gU (nw S c n) = gU S + n := rfl
theorem gI_cpI (S : St) (a b sp dp n x j : Nat) : gI (cpI S a b sp dp n) x j = if x = b ∧ dp ≤ j ∧ j < dp + n then gI S a (sp + (j - dp)) else gI S x j := rfl
theorem gL_cpI (S : St) (a b sp dp n x j : Nat) : gL (cpI S a b sp dp n) x j = gL S x j := rfl
theorem gR_cpI (S : St) (a b sp dp n x j : Nat) : gR (cpI S a b sp dp n) x j = gR S x j := rfl
theorem gK_cpI (S : St) (a b sp dp n x : Nat) : gK (cpI S a b sp dp n) x = gK S x := rfl
theorem gN_cpI (S : St) (a b sp dp n x : Nat) : gN (cpI S a b sp dp n) x = gN S x := rfl
theorem gZ_cpI (S : St) (a b sp dp n : Nat) : gZ (cpI S a b sp dp n) = gZ S := rfl
theorem gU_cpI (S : St) (a b sp dp n : Nat) : gU (cpI S a b sp dp n) = gU S := rfl
theorem gI_clI (S : St) (a b j : Nat) : gI (clI S a) b j = if b = gZ S + 1 then gI S a j else gI S b j := rfl
theorem gL_clI (S : St) (a b j : Nat) : gL (clI S a) b j = if b = gZ S + 1 then 0 else gL S b j := rfl
theorem gR_clI (S : St) (a b j : Nat) : gR (clI S a) b j = if b = gZ S + 1 then 0 else gR S b j := rfl
theorem gK_clI (S : St) (a b : Nat) : gK (clI S a) b = if b = gZ S + 1 then 100 else gK S b := by
  unfold gK clI; dsimp only; split <;> rfl
theorem gN_clI (S : St) (a b : Nat) : gN (clI S a) b = if b = gZ S + 1 then gN S a else gN S b := by
  unfold gN clI; dsimp only; split <;> rfl
theorem gZ_clI (S : St) (a : Nat) : gZ (clI S a) = gZ S + 1 := rfl
theorem gU_clI (S : St) (a : Nat) : gU (clI S a) = gU S + gN S a := rfl
/-! ITS PICTURE in the machine: cell a lies at base + a -/
def ro (base r : Nat) : Option Nat := match r with
  | 0 => none
  | k + 1 => some (base + (k + 1))
def rv (base r : Nat) : Value := match r with
  | 0 => .null
  | k + 1 => .ref (base + (k + 1))
theorem rv_ro (base r : Nat) : va_rf (ro base r) = rv base r := by cases r <;> rfl
theorem rv_pos {base r : Nat} (h : 0 < r) : rv base r = .ref (base + r) := by cases r with
  | zero => omega
  | succ k => rfl
def tyC (c : Nat) : Nat → FieldType := match c with
  | 0 => tyX1
  | 1 => tyX2
  | 2 => tyX3
  | 3 => tyX4
  | 4 => tyX5
  | 5 => tyX6
  | 6 => tyX7
  | 7 => tyX8
  | 8 => tyX9
  | _ => tyX0
def nC (c : Nat) : Nat := match c with
  | 0 => 3
  | 1 => 4
  | 2 => 19
  | 3 => 2
  | 4 => 8
  | 5 => 9
  | 6 => 1
  | 7 => 12
  | 8 => 52
  | _ => 0
def tyK (t : Nat) : FieldType := match t with
  | 0 => .int
  | 1 => .long
  | 2 => .char
  | 3 => .byte
  | 4 => .boolean
  | _ => .object "TruceWall$Mark"
def fv (base : Nat) (S : St) (a : Nat) (ty : FieldType) (k : Nat) : Value := match ty with
  | .long => .long (gL S a k)
  | .object _ => rv base (gR S a k)
  | .array _ => rv base (gR S a k)
  | _ => .int (gI S a k)
def fl (base : Nat) (S : St) (a c : Nat) : List Value := (List.range (nC c)).map (fun k => fv base S a (tyC c k) k)
def af (base : Nat) (S : St) (a t : Nat) : (Nat → Int32) ⊕ (Nat → Int64) ⊕ (Nat → UInt32) ⊕ (Nat → UInt64) ⊕ (Nat → Option Nat) :=
  if t = 1 then .inr (.inl (gL S a)) else if t = 5 then .inr (.inr (.inr (.inr (fun k => ro base (gR S a k))))) else .inl (gI S a)
def ce (base : Nat) (ck : Nat → ClassId) (S : St) (a : Nat) : va_E :=
  if gK S a < 100 then .inr (gK S a, fl base S a (gK S a)) else .inl (ck (gK S a - 100), (gN S a, af base S a (gK S a - 100)))
def wl (base : Nat) (ck : Nat → ClassId) (S : St) : va_W := (List.range (gZ S)).map (fun p => (base + (p + 1), ce base ck S (p + 1)))
theorem wl_get {base : Nat} {ck : Nat → ClassId} {S : St} {a : Nat} (h0 : 0 < a) (h : a ≤ gZ S) : (wl base ck S)[a - 1]? = some (base + a, ce base ck S a) := by
  unfold wl
  rw [List.getElem?_map, List.getElem?_range (by omega)]
  have : a - 1 + 1 = a := by omega
  simp [this]
theorem wl_len (base : Nat) (ck : Nat → ClassId) (S : St) : (wl base ck S).length = gZ S := by simp [wl]
theorem wl_at {base : Nat} {ck : Nat → ClassId} {S : St} {k : Nat} {q : Nat × va_E} (h : (wl base ck S)[k]? = some q) : k < gZ S ∧ q = (base + (k + 1), ce base ck S (k + 1)) := by
  have hk : k < gZ S := by
    have := (List.getElem?_eq_some_iff.mp h).1
    rwa [wl_len] at this
  have h2 := wl_get (base := base) (ck := ck) (S := S) (a := k + 1) (by omega) (by omega)
  rw [Nat.add_sub_cancel, h] at h2
  exact ⟨hk, Option.some.inj h2⟩
theorem wl_set {base : Nat} {ck : Nat → ClassId} {S S' : St} {a : Nat} {x : va_E} (hz : gZ S' = gZ S) (h0 : 0 < a) (h : a ≤ gZ S) (ho : ∀ b, b ≠ a → ce base ck S' b = ce base ck S b) (hx : x = ce base ck S' a) : (wl base ck S).set (a - 1) (base + a, x) = wl base ck S' := by
  apply List.ext_getElem?
  intro k
  by_cases hk : k < gZ S
  · rw [List.getElem?_set]
    have h1 := wl_get (base := base) (ck := ck) (S := S) (a := k + 1) (by omega) (by omega)
    have h2 := wl_get (base := base) (ck := ck) (S := S') (a := k + 1) (by omega) (by omega)
    rw [Nat.add_sub_cancel] at h1 h2
    by_cases e : a - 1 = k
    · have ea : a = k + 1 := by omega
      subst ea
      rw [if_pos e, if_pos (by rw [wl_len]; omega), h2, hx]
    · rw [if_neg e, h1, h2, ho (k + 1) (by omega)]
  · rw [List.getElem?_eq_none (by rw [List.length_set, wl_len]; omega), List.getElem?_eq_none (by rw [wl_len]; omega)]
theorem wl_push {base : Nat} {ck : Nat → ClassId} {S S' : St} {x : va_E} (hz : gZ S' = gZ S + 1) (ho : ∀ b, b ≤ gZ S → ce base ck S' b = ce base ck S b) (hx : x = ce base ck S' (gZ S + 1)) : wl base ck S ++ [(base + (gZ S + 1), x)] = wl base ck S' := by
  unfold wl
  rw [hz, List.range_succ, List.map_append]
  congr 1
  · apply List.map_congr_left
    intro p hp
    rw [ho (p + 1) (by have := List.mem_range.mp hp; omega)]
  · simp [hx]
theorem wl_D (base : Nat) (ck : Nat → ClassId) (S : St) : va_D (fun q => base + 1 ≤ q) (wl base ck S) := by
  refine ⟨fun i j p q hi hj e => ?_, fun k q hk => ?_⟩
  · obtain ⟨-, rfl⟩ := wl_at hi
    obtain ⟨-, rfl⟩ := wl_at hj
    dsimp only at e
    omega
  · obtain ⟨-, rfl⟩ := wl_at hk
    dsimp only
    omega
def tysC (ck : Nat → ClassId) : List (ClassId × FieldType) := [(ck 0, tyK 0), (ck 1, tyK 1), (ck 2, tyK 2), (ck 3, tyK 3), (ck 4, tyK 4), (ck 5, tyK 5)]
/-- the heap holds the state -/
def HR (base : Nat) (D : va_G) (ck : Nat → ClassId) (S : St) (H : Heap) : Prop := va_P D vwCl (wl base ck S) H ∧ ∀ a, a = 0 ∨ gZ S < a → gK S a = 9999
theorem HR.live {base : Nat} {D : va_G} {ck : Nat → ClassId} {S : St} {H : Heap} (h : HR base D ck S H) {a c : Nat} (hk : gK S a = c) (hc : c ≠ 9999) : 0 < a ∧ a ≤ gZ S := by
  have := h.2 a
  refine ⟨Nat.pos_of_ne_zero fun e => hc ?_, Nat.not_lt.mp fun e => hc ?_⟩
  · rw [← hk]; exact this (Or.inl e)
  · rw [← hk]; exact this (Or.inr e)
theorem HR.top {base : Nat} {D : va_G} {ck : Nat → ClassId} {S : St} {H : Heap} (h : HR base D ck S H) {a : Nat} (h0 : 0 < a) (ha : a ≤ gZ S) : base + a < H.size := (h.1 _ _ (wl_get h0 ha)).lt
end
section
/-! THE ABSTRACT MACHINE: a block of a method's code is a function of locals, operand stack and state; it ends with a jump to a block, or with the method's answer. Values: .ref 0 is null, .ref a the cell a, .retAddr k a constant text (or the law's script); .null in the locals: unset. -/
abbrev Rs : Type := (Nat × List Value × List Value × St) ⊕ (Option Value × St)
abbrev K : Type := List Value → List Value → St → Option Rs
abbrev Orc : Type := Nat → List Value → St → Option (Option Value × St)
def nth : List Value → Nat → Value
  | [], _ => .null
  | v :: _, 0 => v
  | _ :: vs, i + 1 => nth vs i
def isL (v : Value) : Bool := match v with
  | .long _ => true
  | .double _ => true
  | _ => false
/-- a store of one slot: a long that ends there is gone -/
def stL : List Value → Nat → Value → List Value
  | [], _, _ => []
  | _ :: vs, 0, v => v :: vs
  | w :: vs, i + 1, v => (if i == 0 && isL w then .null else w) :: stL vs i v
/-- a store of a long: two slots -/
def stLL : List Value → Nat → Value → List Value
  | [], _, _ => []
  | _ :: vs, 0, v => v :: stL vs 0 .null
  | w :: vs, i + 1, v => (if i == 0 && isL w then .null else w) :: stLL vs i v
def tI (st : List Value) (f : Int32 → List Value → Option Rs) : Option Rs := match st with
  | .int x :: st => f x st
  | _ => none
def tL (st : List Value) (f : Int64 → List Value → Option Rs) : Option Rs := match st with
  | .long x :: st => f x st
  | _ => none
def tR (st : List Value) (f : Nat → List Value → Option Rs) : Option Rs := match st with
  | .ref x :: st => f x st
  | _ => none
def tS (st : List Value) (f : Nat → List Value → Option Rs) : Option Rs := match st with
  | .retAddr x :: st => f x st
  | _ => none
def t1 (st : List Value) (f : Value → List Value → Option Rs) : Option Rs := match st with
  | .int x :: st => f (.int x) st
  | .ref x :: st => f (.ref x) st
  | _ => none
def cat1 (v : Value) : Nat := match v with
  | .long _ => 2
  | .double _ => 2
  | _ => 1
def catS : List Value → Nat
  | [] => 0
  | v :: vs => cat1 v + catS vs
def ck8 (st : List Value) (x : Option Rs) : Option Rs := cond (Nat.ble (catS st) 8) x none
/-- n arguments are there, and not too much below them -/
def ckn (n : Nat) (st : List Value) (x : Option Rs) : Option Rs := cond (Nat.ble n st.length && Nat.ble (catS (st.drop n)) 8) x none
def vI (v : Value) (f : Int32 → Option Rs) : Option Rs := match v with
  | .int x => f x
  | _ => none
def vL (v : Value) (f : Int64 → Option Rs) : Option Rs := match v with
  | .long x => f x
  | _ => none
def vR (v : Value) (f : Nat → Option Rs) : Option Rs := match v with
  | .ref x => f x
  | _ => none
def vS (v : Value) (f : Nat → Option Rs) : Option Rs := match v with
  | .retAddr x => f x
  | _ => none
abbrev inB (j : Int32) (n : Nat) : Prop := 0 ≤ j.toInt ∧ j.toInt < (n : Int)
abbrev o_jmp (b : Nat) : K := fun ls st S => some (.inl (b, ls, st, S))
abbrev o_iconst (v : Int32) (k : K) : K := fun ls st S => k ls (.int v :: st) S
abbrev o_lconst (v : Int64) (k : K) : K := fun ls st S => k ls (.long v :: st) S
abbrev o_null (k : K) : K := fun ls st S => k ls (.ref 0 :: st) S
abbrev o_str (i : Nat) (k : K) : K := fun ls st S => k ls (.retAddr i :: st) S
abbrev o_iload (i : Nat) (k : K) : K := fun ls st S => vI (nth ls i) fun x => k ls (.int x :: st) S
abbrev o_lload (i : Nat) (k : K) : K := fun ls st S => vL (nth ls i) fun x => k ls (.long x :: st) S
abbrev o_aload (i : Nat) (k : K) : K := fun ls st S => vR (nth ls i) fun x => k ls (.ref x :: st) S
abbrev o_sload (i : Nat) (k : K) : K := fun ls st S => vS (nth ls i) fun x => k ls (.retAddr x :: st) S
abbrev o_istore (i : Nat) (k : K) : K := fun ls st S => tI st fun x st => k (stL ls i (.int x)) st S
abbrev o_lstore (i : Nat) (k : K) : K := fun ls st S => tL st fun x st => k (stLL ls i (.long x)) st S
abbrev o_astore (i : Nat) (k : K) : K := fun ls st S => tR st fun x st => k (stL ls i (.ref x)) st S
abbrev o_iinc (i : Nat) (n : Int32) (k : K) : K := fun ls st S => vI (nth ls i) fun x => k (stL ls i (.int (x + n))) st S
abbrev o_i2 (f : Int32 → Int32 → Int32) (k : K) : K := fun ls st S => tI st fun y st => tI st fun x st => k ls (.int (f x y) :: st) S
abbrev o_i2z (f : Int32 → Int32 → Int32) (k : K) : K := fun ls st S => tI st fun y st => tI st fun x st => if y = 0 then none else k ls (.int (f x y) :: st) S
abbrev o_l2 (f : Int64 → Int64 → Int64) (k : K) : K := fun ls st S => tL st fun y st => tL st fun x st => k ls (.long (f x y) :: st) S
abbrev o_l2z (f : Int64 → Int64 → Int64) (k : K) : K := fun ls st S => tL st fun y st => tL st fun x st => if y = 0 then none else k ls (.long (f x y) :: st) S
abbrev o_lsh (f : Int64 → Int32 → Int64) (k : K) : K := fun ls st S => tI st fun y st => tL st fun x st => k ls (.long (f x y) :: st) S
abbrev o_i1 (f : Int32 → Int32) (k : K) : K := fun ls st S => tI st fun x st => k ls (.int (f x) :: st) S
abbrev o_i2l (k : K) : K := fun ls st S => tI st fun x st => k ls (.long x.toInt64 :: st) S
abbrev o_l2i (k : K) : K := fun ls st S => tL st fun x st => k ls (.int x.toInt32 :: st) S
abbrev o_lcmp (k : K) : K := fun ls st S => tL st fun y st => tL st fun x st => k ls (.int (lg_cmp x y) :: st) S
abbrev o_dup (k : K) : K := fun ls st S => t1 st fun v st => k ls (v :: v :: st) S
abbrev o_dup2 (k : K) : K := fun ls st S => t1 st fun v st => t1 st fun w st => k ls (v :: w :: v :: w :: st) S
abbrev o_pop (k : K) : K := fun ls st S => t1 st fun _ st => k ls st S
/-- x = 0 -/
abbrev o_if0 (kt kf : K) : K := fun ls st S => tI st fun x st => if x = 0 then kt ls st S else kf ls st S
/-- x < 0 -/
abbrev o_ifn (kt kf : K) : K := fun ls st S => tI st fun x st => if x < 0 then kt ls st S else kf ls st S
/-- 0 < x -/
abbrev o_ifp (kt kf : K) : K := fun ls st S => tI st fun x st => if 0 < x then kt ls st S else kf ls st S
abbrev o_ieq (kt kf : K) : K := fun ls st S => tI st fun y st => tI st fun x st => if x = y then kt ls st S else kf ls st S
abbrev o_ilt (kt kf : K) : K := fun ls st S => tI st fun y st => tI st fun x st => if x < y then kt ls st S else kf ls st S
abbrev o_igt (kt kf : K) : K := fun ls st S => tI st fun y st => tI st fun x st => if y < x then kt ls st S else kf ls st S
abbrev o_ifnull (kt kf : K) : K := fun ls st S => tR st fun x st => if x = 0 then kt ls st S else kf ls st S
abbrev o_aeq (kt kf : K) : K := fun ls st S => tR st fun y st => tR st fun x st => if x = y then kt ls st S else kf ls st S
/-- a switch: the first case that is x, else the rest -/
def swc (x : Int32) (ls st : List Value) (S : St) : List (Int32 × K) → K → Option Rs
  | [], kd => kd ls st S
  | (v, k) :: cs, kd => if x = v then k ls st S else swc x ls st S cs kd
abbrev o_sw (cs : List (Int32 × K)) (kd : K) : K := fun ls st S => tI st fun x st => swc x ls st S cs kd
abbrev o_getI (c f : Nat) (k : K) : K := fun ls st S => tR st fun a st => if gK S a = c then k ls (.int (gI S a f) :: st) S else none
abbrev o_getL (c f : Nat) (k : K) : K := fun ls st S => tR st fun a st => if gK S a = c then k ls (.long (gL S a f) :: st) S else none
abbrev o_getR (c f : Nat) (k : K) : K := fun ls st S => tR st fun a st => if gK S a = c then k ls (.ref (gR S a f) :: st) S else none
abbrev o_putI (c f : Nat) (k : K) : K := fun ls st S => tI st fun v st => tR st fun a st => if gK S a = c then k ls st (pI S a f v) else none
abbrev o_putZ (c f : Nat) (k : K) : K := fun ls st S => tI st fun v st => tR st fun a st => if gK S a = c ∧ (v = 0 ∨ v = 1) then k ls st (pI S a f v) else none
abbrev o_putL (c f : Nat) (k : K) : K := fun ls st S => tL st fun v st => tR st fun a st => if gK S a = c then k ls st (pL S a f v) else none
abbrev o_putR (c f : Nat) (k : K) : K := fun ls st S => tR st fun v st => tR st fun a st => if gK S a = c then k ls st (pR S a f v) else none
/-- arrays of ints (0), chars (2), bytes (3), booleans (4) -/
abbrev o_iald (t : Nat) (k : K) : K := fun ls st S => tI st fun j st => tR st fun a st => if gK S a = 100 + t ∧ inB j (gN S a) then k ls (.int (gI S a j.toNatClampNeg) :: st) S else none
abbrev o_iast (t : Nat) (g : Int32 → Int32) (k : K) : K := fun ls st S => tI st fun v st => tI st fun j st => tR st fun a st => if gK S a = 100 + t ∧ inB j (gN S a) then k ls st (pI S a j.toNatClampNeg (g v)) else none
abbrev o_lald (k : K) : K := fun ls st S => tI st fun j st => tR st fun a st => if gK S a = 101 ∧ inB j (gN S a) then k ls (.long (gL S a j.toNatClampNeg) :: st) S else none
abbrev o_last (k : K) : K := fun ls st S => tL st fun v st => tI st fun j st => tR st fun a st => if gK S a = 101 ∧ inB j (gN S a) then k ls st (pL S a j.toNatClampNeg v) else none
abbrev o_aald (k : K) : K := fun ls st S => tI st fun j st => tR st fun a st => if gK S a = 105 ∧ inB j (gN S a) then k ls (.ref (gR S a j.toNatClampNeg) :: st) S else none
abbrev o_aast (k : K) : K := fun ls st S => tR st fun v st => tI st fun j st => tR st fun a st => if gK S a = 105 ∧ inB j (gN S a) ∧ gK S v = 0 then k ls st (pR S a j.toNatClampNeg v) else none
abbrev o_alen (k : K) : K := fun ls st S => tR st fun a st => if 100 ≤ gK S a ∧ gK S a < 106 then k ls (.int (Int32.ofNat (gN S a)) :: st) S else none
abbrev o_new (c : Nat) (k : K) : K := fun ls st S => k ls (.ref (gZ S + 1) :: st) (nw S c (nC c))
abbrev o_newa (t : Nat) (k : K) : K := fun ls st S => tI st fun n st => if 0 ≤ n.toInt ∧ n.toInt ≤ 70000 then k ls (.ref (gZ S + 1) :: st) (nw S (100 + t) n.toNatClampNeg) else none
abbrev o_clone (k : K) : K := fun ls st S => tR st fun a st => ck8 st (if gK S a = 100 then k ls (.ref (gZ S + 1) :: st) (clI S a) else none)
abbrev o_castA (k : K) : K := fun ls st S => tR st fun a st => if gK S a = 100 then k ls (.ref a :: st) S else none
abbrev o_copy (k : K) : K := fun ls st S => tI st fun n st => tI st fun dp st => tR st fun b st => tI st fun sp st => tR st fun a st => ck8 st (if gK S a = 100 ∧ gK S b = 100 ∧ 0 ≤ sp.toInt ∧ 0 ≤ dp.toInt ∧ 0 ≤ n.toInt ∧ sp.toInt + n.toInt ≤ gN S a ∧ dp.toInt + n.toInt ≤ gN S b then k ls st (cpI S a b sp.toNatClampNeg dp.toNatClampNeg n.toNatClampNeg) else none)
abbrev o_min (k : K) : K := fun ls st S => tI st fun y st => tI st fun x st => ck8 st (k ls (.int (if y < x then y else x) :: st) S)
/-- Object's constructor -/
abbrev o_obj (k : K) : K := fun ls st S => tR st fun a st => if a = 0 then none else ck8 st (k ls st S)
def eI (x : Option (Option Value × St)) (f : Int32 → St → Option Rs) : Option Rs := match x with
  | some (some (.int v), S) => f v S
  | _ => none
def eL (x : Option (Option Value × St)) (f : Int64 → St → Option Rs) : Option Rs := match x with
  | some (some (.long v), S) => f v S
  | _ => none
def eR (x : Option (Option Value × St)) (f : Nat → St → Option Rs) : Option Rs := match x with
  | some (some (.ref v), S) => f v S
  | _ => none
def eV (x : Option (Option Value × St)) (f : St → Option Rs) : Option Rs := match x with
  | some (none, S) => f S
  | _ => none
/-- a call of method i with n arguments (the receiver counted): static (s), of a constructor (n), of an object of class c (v) -/
def hdR (as : List Value) (f : Nat → Option Rs) : Option Rs := match as with
  | .ref a :: _ => f a
  | _ => none
abbrev o_sI (orc : Orc) (i n : Nat) (k : K) : K := fun ls st S => ckn n st (eI (orc i (st.take n).reverse S) fun v S => k ls (.int v :: st.drop n) S)
abbrev o_vI (orc : Orc) (i n c : Nat) (k : K) : K := fun ls st S => hdR (st.take n).reverse fun a => if gK S a = c then ckn n st (eI (orc i (st.take n).reverse S) fun v S => k ls (.int v :: st.drop n) S) else none
abbrev o_sL (orc : Orc) (i n : Nat) (k : K) : K := fun ls st S => ckn n st (eL (orc i (st.take n).reverse S) fun v S => k ls (.long v :: st.drop n) S)
abbrev o_vL (orc : Orc) (i n c : Nat) (k : K) : K := fun ls st S => hdR (st.take n).reverse fun a => if gK S a = c then ckn n st (eL (orc i (st.take n).reverse S) fun v S => k ls (.long v :: st.drop n) S) else none
abbrev o_sR (orc : Orc) (i n : Nat) (k : K) : K := fun ls st S => ckn n st (eR (orc i (st.take n).reverse S) fun v S => k ls (.ref v :: st.drop n) S)
abbrev o_vR (orc : Orc) (i n c : Nat) (k : K) : K := fun ls st S => hdR (st.take n).reverse fun a => if gK S a = c then ckn n st (eR (orc i (st.take n).reverse S) fun v S => k ls (.ref v :: st.drop n) S) else none
abbrev o_sV (orc : Orc) (i n : Nat) (k : K) : K := fun ls st S => ckn n st (eV (orc i (st.take n).reverse S) fun S => k ls (st.drop n) S)
abbrev o_vV (orc : Orc) (i n c : Nat) (k : K) : K := fun ls st S => hdR (st.take n).reverse fun a => if gK S a = c then ckn n st (eV (orc i (st.take n).reverse S) fun S => k ls (st.drop n) S) else none
abbrev o_nV (orc : Orc) (i n : Nat) (k : K) : K := fun ls st S => hdR (st.take n).reverse fun a => if a = 0 then none else ckn n st (eV (orc i (st.take n).reverse S) fun S => k ls (st.drop n) S)
def rI (st : List Value) (f : Int32 → Option Rs) : Option Rs := match st with
  | [.int v] => f v
  | _ => none
def rL (st : List Value) (f : Int64 → Option Rs) : Option Rs := match st with
  | [.long v] => f v
  | _ => none
def rR (st : List Value) (f : Nat → Option Rs) : Option Rs := match st with
  | [.ref v] => f v
  | _ => none
def rV (st : List Value) (x : Option Rs) : Option Rs := match st with
  | [] => x
  | _ => none
abbrev o_iret : K := fun _ st S => rI st fun v => some (.inr (some (.int v), S))
abbrev o_zret : K := fun _ st S => rI st fun v => if v = 0 ∨ v = 1 then some (.inr (some (.int v), S)) else none
abbrev o_lret : K := fun _ st S => rL st fun v => some (.inr (some (.long v), S))
abbrev o_aret : K := fun _ st S => rR st fun v => some (.inr (some (.ref v), S))
abbrev o_vret : K := fun _ st S => rV st (some (.inr (none, S)))
end
section
/-! WHERE A WALK STANDS: the machine's context as one tuple -/
abbrev Cx : Type := (Program × Launch × Env × Room × State × MethodId × Array Value × List Frame × Method × Code) × ((State → Prop) × Nat × Heap × va_G × (Nat → ClassId) × (Nat → Option Nat)) × (ByteArray × Nat × String × St × Option Value × St)
abbrev xp (X : Cx) : Program := X.1.1
abbrev xl (X : Cx) : Launch := X.1.2.1
abbrev xe (X : Cx) : Env := X.1.2.2.1
abbrev xR (X : Cx) : Room := X.1.2.2.2.1
abbrev xs (X : Cx) : State := X.1.2.2.2.2.1
abbrev xm (X : Cx) : MethodId := X.1.2.2.2.2.2.1
abbrev xa (X : Cx) : Array Value := X.1.2.2.2.2.2.2.1
abbrev xw (X : Cx) : List Frame := X.1.2.2.2.2.2.2.2.1
abbrev xh (X : Cx) : Method := X.1.2.2.2.2.2.2.2.2.1
abbrev xc (X : Cx) : Code := X.1.2.2.2.2.2.2.2.2.2
abbrev xQ (X : Cx) : State → Prop := X.2.1.1
abbrev xb (X : Cx) : Nat := X.2.1.2.1
abbrev xH (X : Cx) : Heap := X.2.1.2.2.1
abbrev xD (X : Cx) : va_G := X.2.1.2.2.2.1
abbrev xk (X : Cx) : Nat → ClassId := X.2.1.2.2.2.2.1
abbrev xS (X : Cx) : Nat → Option Nat := X.2.1.2.2.2.2.2
abbrev xy (X : Cx) : ByteArray := X.2.2.1
abbrev xn (X : Cx) : Nat := X.2.2.2.1
abbrev xo (X : Cx) : String := X.2.2.2.2.1
abbrev x0 (X : Cx) : St := X.2.2.2.2.2.1
abbrev xr (X : Cx) : Option Value := X.2.2.2.2.2.2.1
abbrev xf (X : Cx) : St := X.2.2.2.2.2.2.2
def cv (base : Nat) (ad : Nat → Option Nat) (v : Value) : Value := match v with
  | .ref k => rv base k
  | .retAddr k => va_rf (ad k)
  | v => v
abbrev xv (X : Cx) : Value → Value := cv (xb X) (xS X)
/-- the words that every method may use -/
def T0 : List Cond := lw_tbl.filter goodWord
theorem in_T0 {w : Cond} (i : Nat) (h : lw_tbl[i]? = some w) (hg : goodWord w = true) : w ∈ T0 := List.mem_filter.mpr ⟨List.mem_of_getElem? h, hg⟩
def nwl : List Cond := [.methodLinkNest "TruceWall" 19 ⟨"TruceWall$Reader", "<init>", "()V"⟩ "TruceWall", .methodLinkNest "TruceWall" 26 ⟨"TruceWall$Site", "<init>", "()V"⟩ "TruceWall", .methodLinkNest "TruceWall$Site" 39 ⟨"TruceWall$Reckoner", "<init>", "()V"⟩ "TruceWall", .methodLinkNest "TruceWall" 39 ⟨"TruceWall$Play", "<init>", "()V"⟩ "TruceWall", .methodLinkNest "TruceWall" 49 ⟨"TruceWall$Ways", "<init>", "()V"⟩ "TruceWall", .methodLinkNest "TruceWall" 77 ⟨"TruceWall$Mark", "<init>", "()V"⟩ "TruceWall", .methodLinkNest "TruceWall" 220 ⟨"TruceWall$Play", "outcome", "(JII)I"⟩ "TruceWall", .castable "[I" "java/lang/Cloneable"]
/-- the constant texts: where they lie, and what they hold -/
def vkB0 : List Int32 := "wall  stone gates fine  plain bridgeround twin  lent  cut   wide  level holes day   not   and   or    ".toList.map (fun c => Int32.ofNat c.toNat)
def vkB1 : List Int32 := "no such state".toList.map (fun c => Int32.ofNat c.toNat)
abbrev vk_fmt : String := "Ljava/util/function/BiFunction;"
abbrev vk_pre : String := "jdk/internal/util/Preconditions"
abbrev vk_words : String := "wall  stone gates fine  plain bridgeround twin  lent  cut   wide  level holes day   not   and   or    "
/-- constant texts and statics of the JDK that nobody writes -/
def SX (ad : Nat → Option Nat) (A : Nat → Prop) (U : State) (H : Heap) : Prop :=
  (∃ q qv : Nat, ad 0 = some q ∧ ad 10 = some qv ∧ vk_R "TruceWall$Reader" 157 vk_words q U ∧ va_O "java/lang/String" q A U H ∧ va_OF "java/lang/String" "coder" "B" (.int 0) q A U H ∧ va_OF "java/lang/String" "value" "[B" (.ref qv) q A U H ∧ va_T .byte qv 102 (fun j => .int (vkB0.getD j 0)) A U H) ∧ va_Z "java/lang/String" "COMPACT_STRINGS" "Z" (.int 1) A U H ∧ va_Z vk_pre "SIOOBE_FORMATTER" vk_fmt (va_rf (ad 20)) A U H
def TB (base : Nat) (Hb : Heap) (D : va_G) (ck : Nat → ClassId) (ad : Nat → Option Nat) (U : State) : Prop :=
  va_K D vwCl (tysC ck) U ∧ (∀ w ∈ nwl, va_Nw w U) ∧ va_AO "TruceWall$Mark" U ∧ SX ad (fun q => base + 1 ≤ q) U U.heap
def XO (X : Cx) : Prop :=
  (xp X).tables.exec = Jvm.exec ∧ (xc X).code = xy X ∧ (xc X).maxLocals = xn X ∧ (xs X).vm.findClass (xo X) = some (xm X).cls ∧ (∀ w ∈ T0, w.before (xa X) (xs X) = true) ∧ (xh X).locks = false ∧ TB (xb X) (xH X) (xD X) (xk X) (xS X) (xs X) ∧ (gZ (xf X) - gZ (x0 X) ≤ (xR X).cells ∧ gU (xf X) - gU (x0 X) ≤ (xR X).slots) ∧ ((xs X).heap.size = xb X + 1 + gZ (x0 X) ∧ ∀ q : Nat, q ≤ xb X → (xs X).heap[q]? = (xH X)[q]?) ∧ 1 ≤ (xR X).frames ∧ 64 ≤ (xR X).locals
theorem XO.ex {X : Cx} (h : XO X) : (xp X).tables.exec = Jvm.exec := h.1
theorem XO.by {X : Cx} (h : XO X) : (xc X).code = xy X := h.2.1
theorem XO.ml {X : Cx} (h : XO X) : (xc X).maxLocals = xn X := h.2.2.1
theorem XO.ow {X : Cx} (h : XO X) : (xs X).vm.findClass (xo X) = some (xm X).cls := h.2.2.2.1
theorem XO.ts {X : Cx} (h : XO X) : ∀ w ∈ T0, w.before (xa X) (xs X) = true := h.2.2.2.2.1
theorem XO.lk {X : Cx} (h : XO X) : (xh X).locks = false := h.2.2.2.2.2.1
theorem XO.tb {X : Cx} (h : XO X) : TB (xb X) (xH X) (xD X) (xk X) (xS X) (xs X) := h.2.2.2.2.2.2.1
theorem XO.rm {X : Cx} (h : XO X) : gZ (xf X) - gZ (x0 X) ≤ (xR X).cells ∧ gU (xf X) - gU (x0 X) ≤ (xR X).slots := h.2.2.2.2.2.2.2.1
theorem XO.sz {X : Cx} (h : XO X) : (xs X).heap.size = xb X + 1 + gZ (x0 X) := h.2.2.2.2.2.2.2.2.1.1
theorem XO.lo {X : Cx} (h : XO X) : ∀ q : Nat, q ≤ xb X → (xs X).heap[q]? = (xH X)[q]? := h.2.2.2.2.2.2.2.2.1.2
theorem XO.rf {X : Cx} (h : XO X) : 1 ≤ (xR X).frames ∧ 64 ≤ (xR X).locals := h.2.2.2.2.2.2.2.2.2
/-- the context of a method's body: its bytes, its class -/
def XM (X : Cx) (cc : ByteArray) (own : String) : Prop := XO X ∧ xy X = cc ∧ xo X = own
theorem XM.by {X : Cx} {cc : ByteArray} {own : String} (h : XM X cc own) : (xc X).code = cc := h.1.by.trans h.2.1
theorem XM.ow {X : Cx} {cc : ByteArray} {own : String} (h : XM X cc own) : (xs X).vm.findClass own = some (xm X).cls := by rw [← h.2.2]; exact h.1.ow
abbrev xA (X : Cx) : Nat → Prop := fun q => xb X + 1 ≤ q
/-- the machine's locals hold the abstract ones -/
def lh (base : Nat) (ad : Nat → Option Nat) (lm : Array Slot) (n : Nat) (ls : List Value) : Prop := lm.size = n ∧ lv_wf lm ∧ ls.length = n ∧ ∀ i, nth ls i ≠ .null → lm[i]? = some (.val (cv base ad (nth ls i)))
def WI (X : Cx) (pc : Nat) (ls st : List Value) (S : St) : Prop :=
  ∀ (H : Heap) (locs : List Loc) (lm : Array Slot), HR (xb X) (xD X) (xk X) S H → va_S (xA X) (xs X).heap H locs → lh (xb X) (xS X) lm (xn X) ls → gZ (x0 X) ≤ gZ S → gU (x0 X) ≤ gU S →
    W (xp X) (xl X) (xe X) (xR X) (xs X) (xm X) (xa X) (xw X) (xh X) (xc X) H locs (gZ S - gZ (x0 X)) (gU S - gU (x0 X)) (xQ X) (F0 (xm X) pc lm (st.map (xv X)))
def MW (X : Cx) (pc : Nat) (ls st : List Value) (S : St) : Prop := (gZ S ≤ gZ (xf X) ∧ gU S ≤ gU (xf X)) ∧ WI X pc ls st S
def RW (X : Cx) (pcs : Nat → Nat) (x : Option Rs) : Prop := match x with
  | some (.inl c) => MW X (pcs c.1) c.2.1 c.2.2.1 c.2.2.2
  | some (.inr q) => q = (xr X, xf X)
  | none => False
def GK (X : Cx) (pcs : Nat → Nat) (pc : Nat) (k : K) : Prop := ∀ (ls st : List Value) (S : St), RW X pcs (k ls st S) → MW X pc ls st S
section GKS
variable {X : Cx} {ps : Nat → Nat} {pc : Nat} {k kt kf : K}
theorem tI_el {st : List Value} {f : Int32 → List Value → Option Rs} (h : RW X ps (tI st f)) : ∃ x st', st = .int x :: st' ∧ RW X ps (f x st') := by
  unfold tI at h
  split at h
  · exact ⟨_, _, rfl, h⟩
  · exact h.elim
theorem tL_el {st : List Value} {f : Int64 → List Value → Option Rs} (h : RW X ps (tL st f)) : ∃ x st', st = .long x :: st' ∧ RW X ps (f x st') := by
  unfold tL at h
  split at h
  · exact ⟨_, _, rfl, h⟩
  · exact h.elim
theorem tR_el {st : List Value} {f : Nat → List Value → Option Rs} (h : RW X ps (tR st f)) : ∃ x st', st = .ref x :: st' ∧ RW X ps (f x st') := by
  unfold tR at h
  split at h
  · exact ⟨_, _, rfl, h⟩
  · exact h.elim
theorem tS_el {st : List Value} {f : Nat → List Value → Option Rs} (h : RW X ps (tS st f)) : ∃ x st', st = .retAddr x :: st' ∧ RW X ps (f x st') := by
  unfold tS at h
  split at h
  · exact ⟨_, _, rfl, h⟩
  · exact h.elim
theorem t1_el {st : List Value} {f : Value → List Value → Option Rs} (h : RW X ps (t1 st f)) : ∃ v st', st = v :: st' ∧ (xv X v).category = 1 ∧ RW X ps (f v st') := by
  unfold t1 at h
  split at h
  · exact ⟨_, _, rfl, rfl, h⟩
  · refine ⟨_, _, rfl, ?_, h⟩
    rename_i x _
    cases x <;> rfl
  · exact h.elim
theorem vI_el {v : Value} {f : Int32 → Option Rs} (h : RW X ps (vI v f)) : ∃ x, v = .int x ∧ RW X ps (f x) := by
  unfold vI at h
  split at h
  · exact ⟨_, rfl, h⟩
  · exact h.elim
theorem vL_el {v : Value} {f : Int64 → Option Rs} (h : RW X ps (vL v f)) : ∃ x, v = .long x ∧ RW X ps (f x) := by
  unfold vL at h
  split at h
  · exact ⟨_, rfl, h⟩
  · exact h.elim
theorem vR_el {v : Value} {f : Nat → Option Rs} (h : RW X ps (vR v f)) : ∃ x, v = .ref x ∧ RW X ps (f x) := by
  unfold vR at h
  split at h
  · exact ⟨_, rfl, h⟩
  · exact h.elim
theorem vS_el {v : Value} {f : Nat → Option Rs} (h : RW X ps (vS v f)) : ∃ x, v = .retAddr x ∧ RW X ps (f x) := by
  unfold vS at h
  split at h
  · exact ⟨_, rfl, h⟩
  · exact h.elim
theorem if_el {c : Prop} [Decidable c] {x : Option Rs} (h : RW X ps (if c then x else none)) : c ∧ RW X ps x := by
  by_cases hc : c
  · rw [if_pos hc] at h; exact ⟨hc, h⟩
  · rw [if_neg hc] at h; exact h.elim
theorem fi_el {c : Prop} [Decidable c] {x : Option Rs} (h : RW X ps (if c then none else x)) : ¬ c ∧ RW X ps x := by
  by_cases hc : c
  · rw [if_pos hc] at h; exact h.elim
  · rw [if_neg hc] at h; exact ⟨hc, h⟩
theorem c8_el {st : List Value} {x : Option Rs} (h : RW X ps (ck8 st x)) : catS st ≤ 8 ∧ RW X ps x := by
  unfold ck8 at h
  cases hc : Nat.ble (catS st) 8 with
  | true => rw [hc] at h; exact ⟨Nat.le_of_ble_eq_true hc, h⟩
  | false => rw [hc] at h; exact h.elim
theorem gk_jmp (b : Nat) (h : ps b = pc) : GK X ps pc (o_jmp b) := fun ls st S hr => by
  rw [← h]; exact hr
theorem gk_eq {pc' : Nat} (h : pc' = pc) (hk : GK X ps pc' k) : GK X ps pc k := h ▸ hk
end GKS
end
section
/-! ONE ROW AN INSTRUCTION: what the abstract machine does, the machine does -/
theorem nth_len {ls : List Value} {i : Nat} (h : nth ls i ≠ .null) : i < ls.length := by
  induction ls generalizing i with
  | nil => exact absurd rfl h
  | cons v vs ih =>
    cases i with
    | zero => simp
    | succ i => simp only [List.length_cons]; have := ih (i := i) h; omega
theorem stL_len (ls : List Value) (i : Nat) (v : Value) : (stL ls i v).length = ls.length := by
  induction ls generalizing i with
  | nil => rfl
  | cons w vs ih => cases i with
    | zero => rfl
    | succ i => simp [stL, ih]
theorem nth_stL (ls : List Value) (i : Nat) (v : Value) (j : Nat) (hi : i < ls.length) : nth (stL ls i v) j = if j = i then v else if j + 1 = i ∧ isL (nth ls j) = true then .null else nth ls j := by
  induction ls generalizing i j with
  | nil => simp at hi
  | cons w vs ih =>
    cases i with
    | zero =>
      cases j with
      | zero => simp [stL, nth]
      | succ j => simp [stL, nth]
    | succ i =>
      simp only [List.length_cons] at hi
      cases j with
      | zero =>
        by_cases hi0 : i = 0
        · subst hi0
          cases hw : isL w <;> simp [stL, nth, hw]
        · have : (i == 0) = false := by simpa using hi0
          simp [stL, nth, this]
          intro e
          omega
      | succ j =>
        simp only [stL, nth]
        rw [ih i j (by omega)]
        simp
theorem stLL_len (ls : List Value) (i : Nat) (v : Value) : (stLL ls i v).length = ls.length := by
  induction ls generalizing i with
  | nil => rfl
  | cons w vs ih => cases i with
    | zero => simp [stLL, stL_len]
    | succ i => simp [stLL, ih]
theorem nth_stLL (ls : List Value) (i : Nat) (v : Value) (j : Nat) (hi : i + 1 < ls.length) : nth (stLL ls i v) j = if j = i then v else if j = i + 1 then .null else if j + 1 = i ∧ isL (nth ls j) = true then .null else nth ls j := by
  induction ls generalizing i j with
  | nil => simp at hi
  | cons w vs ih =>
    simp only [List.length_cons] at hi
    cases i with
    | zero =>
      cases j with
      | zero => simp [stLL, nth]
      | succ j =>
        simp only [stLL, nth]
        rw [nth_stL vs 0 .null j (by omega)]
        by_cases hj : j = 0
        · subst hj; simp
        · simp [hj]
    | succ i =>
      cases j with
      | zero =>
        by_cases hi0 : i = 0
        · subst hi0
          cases hw : isL w <;> simp [stLL, nth, hw]
        · have : (i == 0) = false := by simpa using hi0
          simp [stLL, nth, this]
          intro e
          omega
      | succ j =>
        simp only [stLL, nth]
        rw [ih i j (by omega)]
        simp
theorem cv_isL (base : Nat) (ad : Nat → Option Nat) (v : Value) : ((cv base ad v).category = 2) ↔ isL v = true := by
  cases v with
  | ref a => cases a <;> simp [cv, rv, Value.category, isL]
  | retAddr k =>
    cases h : ad k <;> simp [cv, h, va_rf, Value.category, isL]
  | _ => simp [cv, Value.category, isL]
/-- the listed locals -/
def lvl (base : Nat) (ad : Nat → Option Nat) (ls : List Value) : List (Nat × Value) := (List.range ls.length).filterMap (fun j => if nth ls j = .null then none else some (j, cv base ad (nth ls j)))
theorem lvl_mem {base : Nat} {ad : Nat → Option Nat} {ls : List Value} {j : Nat} (h : nth ls j ≠ .null) : (j, cv base ad (nth ls j)) ∈ lvl base ad ls := by
  refine List.mem_filterMap.mpr ⟨j, List.mem_range.mpr (nth_len h), ?_⟩
  rw [if_neg h]
theorem lh_has {base : Nat} {ad : Nat → Option Nat} {lm : Array Slot} {n : Nat} {ls : List Value} (h : lh base ad lm n ls) : lv_has lm n (lvl base ad ls) := by
  refine ⟨h.1, h.2.1, fun q hq => ?_⟩
  obtain ⟨j, -, hj⟩ := List.mem_filterMap.mp hq
  by_cases e : nth ls j = .null
  · rw [if_pos e] at hj; cases hj
  · rw [if_neg e] at hj; cases hj; exact h.2.2.2 j e
theorem lh_st {base : Nat} {ad : Nat → Option Nat} {lm lm' : Array Slot} {n : Nat} {ls : List Value} {i : Nat} {v : Value} (h : lh base ad lm n ls) (hi : i < n) (h2 : lv_has lm' n ((i, cv base ad v) :: (lvl base ad ls).filter (fun q => !(q.1 == i) && !(q.1 + 1 == i && q.2.category == 2)))) : lh base ad lm' n (stL ls i v) := by
  refine ⟨h2.1, h2.2.1, by rw [stL_len]; exact h.2.2.1, fun j hj => ?_⟩
  have hil : i < ls.length := by rw [h.2.2.1]; exact hi
  rw [nth_stL ls i v j hil] at hj ⊢
  by_cases e : j = i
  · subst e
    rw [if_pos rfl]
    exact h2.2.2 _ List.mem_cons_self
  · rw [if_neg e] at hj ⊢
    by_cases e2 : j + 1 = i ∧ isL (nth ls j) = true
    · rw [if_pos e2] at hj; exact absurd rfl hj
    · rw [if_neg e2] at hj ⊢
      refine h2.2.2 (j, cv base ad (nth ls j)) (List.mem_cons_of_mem _ (List.mem_filter.mpr ⟨lvl_mem hj, ?_⟩))
      have := cv_isL base ad (nth ls j)
      by_cases e3 : j + 1 = i
      · have h4 : ¬ (cv base ad (nth ls j)).category = 2 := fun z => e2 ⟨e3, this.mp z⟩
        simp [e, h4]
      · simp [e, e3]
theorem lh_stL {base : Nat} {ad : Nat → Option Nat} {lm lm' : Array Slot} {n : Nat} {ls : List Value} {i : Nat} {v : Value} (h : lh base ad lm n ls) (hi : i + 1 < n) (h2 : lv_has lm' n ((i, cv base ad v) :: (lvl base ad ls).filter (fun q => !(q.1 == i) && (!(q.1 == i + 1) && !(q.1 + 1 == i && q.2.category == 2))))) : lh base ad lm' n (stLL ls i v) := by
  refine ⟨h2.1, h2.2.1, by rw [stLL_len]; exact h.2.2.1, fun j hj => ?_⟩
  have hil : i + 1 < ls.length := by rw [h.2.2.1]; exact hi
  rw [nth_stLL ls i v j hil] at hj ⊢
  by_cases e : j = i
  · subst e
    rw [if_pos rfl]
    exact h2.2.2 _ List.mem_cons_self
  · rw [if_neg e] at hj ⊢
    by_cases e1 : j = i + 1
    · rw [if_pos e1] at hj; exact absurd rfl hj
    · rw [if_neg e1] at hj ⊢
      by_cases e2 : j + 1 = i ∧ isL (nth ls j) = true
      · rw [if_pos e2] at hj; exact absurd rfl hj
      · rw [if_neg e2] at hj ⊢
        refine h2.2.2 (j, cv base ad (nth ls j)) (List.mem_cons_of_mem _ (List.mem_filter.mpr ⟨lvl_mem hj, ?_⟩))
        have := cv_isL base ad (nth ls j)
        by_cases e3 : j + 1 = i
        · have h4 : ¬ (cv base ad (nth ls j)).category = 2 := fun z => e2 ⟨e3, this.mp z⟩
          simp [e, e1, h4]
        · simp [e, e1, e3]
theorem lh_at {base : Nat} {ad : Nat → Option Nat} {lm : Array Slot} {n : Nat} {ls : List Value} {i : Nat} {v : Value} (h : lh base ad lm n ls) (he : nth ls i = v) (hv : v ≠ .null) : lm[i]? = some (.val (cv base ad v)) := by
  have := h.2.2.2 i (by rw [he]; exact hv)
  rwa [he] at this
section GKO
variable {X : Cx} {ps : Nat → Nat} {pc : Nat} {k kt kf : K} {cc : ByteArray} {own : String}
theorem gk_iconst {n : Int} {v : Int32} (h : XM X cc own) (hd : decode cc pc = .ok (.iconst n, 1)) (hv : Int32.ofInt n = v) (hk : GK X ps (pc + 1) k) : GK X ps pc (o_iconst v k) := fun ls st S hr => by
  obtain ⟨hm, hw⟩ := hk _ _ _ hr
  exact ⟨hm, fun H locs lm a1 a2 a3 a4 a5 => lv_iconst h.1.ex h.by hd hv (hw H locs lm a1 a2 a3 a4 a5)⟩
theorem gk_bipush {n : Int} {v : Int32} (h : XM X cc own) (hd : decode cc pc = .ok (.bipush n, 2)) (hv : (Int8.ofInt n).toInt32 = v) (hk : GK X ps (pc + 2) k) : GK X ps pc (o_iconst v k) := fun ls st S hr => by
  obtain ⟨hm, hw⟩ := hk _ _ _ hr
  exact ⟨hm, fun H locs lm a1 a2 a3 a4 a5 => lv_bipush h.1.ex h.by hd hv (hw H locs lm a1 a2 a3 a4 a5)⟩
theorem gk_sipush {n : Int} {v : Int32} (h : XM X cc own) (hd : decode cc pc = .ok (.sipush n, 3)) (hv : (Int16.ofInt n).toInt32 = v) (hk : GK X ps (pc + 3) k) : GK X ps pc (o_iconst v k) := fun ls st S hr => by
  obtain ⟨hm, hw⟩ := hk _ _ _ hr
  exact ⟨hm, fun H locs lm a1 a2 a3 a4 a5 => lv_sipush h.1.ex h.by hd hv (hw H locs lm a1 a2 a3 a4 a5)⟩
theorem gk_lconst {n : Fin 2} {v : Int64} (h : XM X cc own) (hd : decode cc pc = .ok (.lconst n, 1)) (hv : Int64.ofNat (n : Nat) = v) (hk : GK X ps (pc + 1) k) : GK X ps pc (o_lconst v k) := fun ls st S hr => by
  obtain ⟨hm, hw⟩ := hk _ _ _ hr
  exact ⟨hm, fun H locs lm a1 a2 a3 a4 a5 => lv_lconst h.1.ex h.by hd hv (hw H locs lm a1 a2 a3 a4 a5)⟩
theorem gk_ldc {i : Nat} {v : Int32} (h : XM X cc own) (hd : decode cc pc = .ok (.ldc i, 2)) (hc : Cond.constant own i v ∈ T0) (hk : GK X ps (pc + 2) k) : GK X ps pc (o_iconst v k) := fun ls st S hr => by
  obtain ⟨hm, hw⟩ := hk _ _ _ hr
  exact ⟨hm, fun H locs lm a1 a2 a3 a4 a5 => lv_ldc h.1.ex h.by h.ow (h.1.ts _ hc) hd (hw H locs lm a1 a2 a3 a4 a5)⟩
theorem gk_ldc2 {i : Nat} {v : Int64} (h : XM X cc own) (hd : decode cc pc = .ok (.ldc2_w i, 3)) (hc : Cond.constantLong own i v ∈ T0) (hk : GK X ps (pc + 3) k) : GK X ps pc (o_lconst v k) := fun ls st S hr => by
  obtain ⟨hm, hw⟩ := hk _ _ _ hr
  exact ⟨hm, fun H locs lm a1 a2 a3 a4 a5 => lv_ldc2 h.1.ex h.by h.ow (h.1.ts _ hc) hd (hw H locs lm a1 a2 a3 a4 a5)⟩
theorem gk_null (h : XM X cc own) (hd : decode cc pc = .ok (.aconst_null, 1)) (hk : GK X ps (pc + 1) k) : GK X ps pc (o_null k) := fun ls st S hr => by
  obtain ⟨hm, hw⟩ := hk _ _ _ hr
  exact ⟨hm, fun H locs lm a1 a2 a3 a4 a5 => lv_null h.1.ex h.by hd (hw H locs lm a1 a2 a3 a4 a5)⟩
theorem gk_iload_n {j : Fin 4} {i : Nat} (h : XM X cc own) (hd : decode cc pc = .ok (.iload_n j, 1)) (hi : (j : Nat) = i) (hk : GK X ps (pc + 1) k) : GK X ps pc (o_iload i k) := fun ls st S hr => by
  obtain ⟨x, hx, r1⟩ := vI_el hr
  obtain ⟨hm, hw⟩ := hk _ _ _ r1
  exact ⟨hm, fun H locs lm a1 a2 a3 a4 a5 => lv_iload_n h.1.ex h.by hd hi (lh_at a3 hx (by simp)) (hw H locs lm a1 a2 a3 a4 a5)⟩
theorem gk_iload {i : Nat} (h : XM X cc own) (hd : decode cc pc = .ok (.iload i, 2)) (hk : GK X ps (pc + 2) k) : GK X ps pc (o_iload i k) := fun ls st S hr => by
  obtain ⟨x, hx, r1⟩ := vI_el hr
  obtain ⟨hm, hw⟩ := hk _ _ _ r1
  exact ⟨hm, fun H locs lm a1 a2 a3 a4 a5 => lv_iload h.1.ex h.by hd (lh_at a3 hx (by simp)) (hw H locs lm a1 a2 a3 a4 a5)⟩
theorem gk_lload_n {j : Fin 4} {i : Nat} (h : XM X cc own) (hd : decode cc pc = .ok (.lload_n j, 1)) (hi : (j : Nat) = i) (hk : GK X ps (pc + 1) k) : GK X ps pc (o_lload i k) := fun ls st S hr => by
  obtain ⟨x, hx, r1⟩ := vL_el hr
  obtain ⟨hm, hw⟩ := hk _ _ _ r1
  exact ⟨hm, fun H locs lm a1 a2 a3 a4 a5 => lv_lload_n h.1.ex h.by hd hi (lh_at a3 hx (by simp)) (hw H locs lm a1 a2 a3 a4 a5)⟩
theorem gk_lload {i : Nat} (h : XM X cc own) (hd : decode cc pc = .ok (.lload i, 2)) (hk : GK X ps (pc + 2) k) : GK X ps pc (o_lload i k) := fun ls st S hr => by
  obtain ⟨x, hx, r1⟩ := vL_el hr
  obtain ⟨hm, hw⟩ := hk _ _ _ r1
  exact ⟨hm, fun H locs lm a1 a2 a3 a4 a5 => lv_lload h.1.ex h.by hd (lh_at a3 hx (by simp)) (hw H locs lm a1 a2 a3 a4 a5)⟩
theorem gk_aload_n {j : Fin 4} {i : Nat} (h : XM X cc own) (hd : decode cc pc = .ok (.aload_n j, 1)) (hi : (j : Nat) = i) (hk : GK X ps (pc + 1) k) : GK X ps pc (o_aload i k) := fun ls st S hr => by
  obtain ⟨x, hx, r1⟩ := vR_el hr
  obtain ⟨hm, hw⟩ := hk _ _ _ r1
  refine ⟨hm, fun H locs lm a1 a2 a3 a4 a5 => ?_⟩
  have hl := lh_at a3 hx (by simp)
  have hw := (hw H locs lm a1 a2 a3 a4 a5)
  cases x with
  | zero => exact lv_aload_nN h.1.ex h.by hd hi hl hw
  | succ x => exact lv_aload_n h.1.ex h.by hd hi hl hw
theorem gk_sload_n {j : Fin 4} {i : Nat} (h : XM X cc own) (hd : decode cc pc = .ok (.aload_n j, 1)) (hi : (j : Nat) = i) (hk : GK X ps (pc + 1) k) : GK X ps pc (o_sload i k) := fun ls st S hr => by
  obtain ⟨x, hx, r1⟩ := vS_el hr
  obtain ⟨hm, hw⟩ := hk _ _ _ r1
  refine ⟨hm, fun H locs lm a1 a2 a3 a4 a5 => ?_⟩
  have hl := lh_at a3 hx (by simp)
  have hw := hw H locs lm a1 a2 a3 a4 a5
  rw [List.map_cons] at hw
  cases h9 : xS X x with
  | none =>
    have e : cv (xb X) (xS X) (.retAddr x) = .null := by show va_rf (xS X x) = _; rw [h9]; rfl
    rw [e] at hl
    rw [show xv X (.retAddr x) = .null from e] at hw
    exact lv_aload_nN h.1.ex h.by hd hi hl hw
  | some q =>
    have e : cv (xb X) (xS X) (.retAddr x) = .ref q := by show va_rf (xS X x) = _; rw [h9]; rfl
    rw [e] at hl
    rw [show xv X (.retAddr x) = .ref q from e] at hw
    exact lv_aload_n h.1.ex h.by hd hi hl hw
theorem gk_aload {i : Nat} (h : XM X cc own) (hd : decode cc pc = .ok (.aload i, 2)) (hk : GK X ps (pc + 2) k) : GK X ps pc (o_aload i k) := fun ls st S hr => by
  obtain ⟨x, hx, r1⟩ := vR_el hr
  obtain ⟨hm, hw⟩ := hk _ _ _ r1
  refine ⟨hm, fun H locs lm a1 a2 a3 a4 a5 => ?_⟩
  have hl := lh_at a3 hx (by simp)
  have hw := (hw H locs lm a1 a2 a3 a4 a5)
  cases x with
  | zero => exact lv_aloadN h.1.ex h.by hd hl hw
  | succ x => exact lv_aload h.1.ex h.by hd hl hw
theorem gk_sload {i : Nat} (h : XM X cc own) (hd : decode cc pc = .ok (.aload i, 2)) (hk : GK X ps (pc + 2) k) : GK X ps pc (o_sload i k) := fun ls st S hr => by
  obtain ⟨x, hx, r1⟩ := vS_el hr
  obtain ⟨hm, hw⟩ := hk _ _ _ r1
  refine ⟨hm, fun H locs lm a1 a2 a3 a4 a5 => ?_⟩
  have hl := lh_at a3 hx (by simp)
  have hw := hw H locs lm a1 a2 a3 a4 a5
  rw [List.map_cons] at hw
  cases h9 : xS X x with
  | none =>
    have e : cv (xb X) (xS X) (.retAddr x) = .null := by show va_rf (xS X x) = _; rw [h9]; rfl
    rw [e] at hl
    rw [show xv X (.retAddr x) = .null from e] at hw
    exact lv_aloadN h.1.ex h.by hd hl hw
  | some q =>
    have e : cv (xb X) (xS X) (.retAddr x) = .ref q := by show va_rf (xS X x) = _; rw [h9]; rfl
    rw [e] at hl
    rw [show xv X (.retAddr x) = .ref q from e] at hw
    exact lv_aload h.1.ex h.by hd hl hw
theorem gk_istore_n {j : Fin 4} {i n : Nat} (h : XM X cc own) (hd : decode cc pc = .ok (.istore_n j, 1)) (hi : (j : Nat) = i) (hn : xn X = n) (hb : i < n) (hk : GK X ps (pc + 1) k) : GK X ps pc (o_istore i k) := fun ls st S hr => by
  obtain ⟨x, st, rfl, r1⟩ := tI_el hr
  obtain ⟨hm, hw⟩ := hk _ _ _ r1
  rw [← hn] at hb
  exact ⟨hm, fun H locs lm a1 a2 a3 a4 a5 => lv_istore_n h.1.ex h.by hd hi (lh_has a3) hb rfl fun lm' hl => hw H locs lm' a1 a2 (lh_st (v := .int x) a3 hb hl) a4 a5⟩
theorem gk_istore {i n : Nat} (h : XM X cc own) (hd : decode cc pc = .ok (.istore i, 2)) (hn : xn X = n) (hb : i < n) (hk : GK X ps (pc + 2) k) : GK X ps pc (o_istore i k) := fun ls st S hr => by
  obtain ⟨x, st, rfl, r1⟩ := tI_el hr
  obtain ⟨hm, hw⟩ := hk _ _ _ r1
  rw [← hn] at hb
  exact ⟨hm, fun H locs lm a1 a2 a3 a4 a5 => lv_istore h.1.ex h.by hd (lh_has a3) hb rfl fun lm' hl => hw H locs lm' a1 a2 (lh_st (v := .int x) a3 hb hl) a4 a5⟩
theorem gk_lstore_n {j : Fin 4} {i n : Nat} (h : XM X cc own) (hd : decode cc pc = .ok (.lstore_n j, 1)) (hi : (j : Nat) = i) (hn : xn X = n) (hb : i + 1 < n) (hk : GK X ps (pc + 1) k) : GK X ps pc (o_lstore i k) := fun ls st S hr => by
  obtain ⟨x, st, rfl, r1⟩ := tL_el hr
  obtain ⟨hm, hw⟩ := hk _ _ _ r1
  rw [← hn] at hb
  exact ⟨hm, fun H locs lm a1 a2 a3 a4 a5 => lv_lstore_n h.1.ex h.by hd hi (lh_has a3) hb rfl fun lm' hl => hw H locs lm' a1 a2 (lh_stL (v := .long x) a3 hb hl) a4 a5⟩
theorem gk_lstore {i n : Nat} (h : XM X cc own) (hd : decode cc pc = .ok (.lstore i, 2)) (hn : xn X = n) (hb : i + 1 < n) (hk : GK X ps (pc + 2) k) : GK X ps pc (o_lstore i k) := fun ls st S hr => by
  obtain ⟨x, st, rfl, r1⟩ := tL_el hr
  obtain ⟨hm, hw⟩ := hk _ _ _ r1
  rw [← hn] at hb
  exact ⟨hm, fun H locs lm a1 a2 a3 a4 a5 => lv_lstore h.1.ex h.by hd (lh_has a3) hb rfl fun lm' hl => hw H locs lm' a1 a2 (lh_stL (v := .long x) a3 hb hl) a4 a5⟩
theorem gk_astore_n {j : Fin 4} {i n : Nat} (h : XM X cc own) (hd : decode cc pc = .ok (.astore_n j, 1)) (hi : (j : Nat) = i) (hn : xn X = n) (hb : i < n) (hk : GK X ps (pc + 1) k) : GK X ps pc (o_astore i k) := fun ls st S hr => by
  obtain ⟨x, st, rfl, r1⟩ := tR_el hr
  obtain ⟨hm, hw⟩ := hk _ _ _ r1
  rw [← hn] at hb
  refine ⟨hm, fun H locs lm a1 a2 a3 a4 a5 => ?_⟩
  cases x with
  | zero => exact lv_astore_nN h.1.ex h.by hd hi (lh_has a3) hb rfl fun lm' hl => hw H locs lm' a1 a2 (lh_st (v := .ref 0) a3 hb hl) a4 a5
  | succ x => exact lv_astore_n h.1.ex h.by hd hi (lh_has a3) hb rfl fun lm' hl => hw H locs lm' a1 a2 (lh_st (v := .ref (x + 1)) a3 hb hl) a4 a5
theorem gk_astore {i n : Nat} (h : XM X cc own) (hd : decode cc pc = .ok (.astore i, 2)) (hn : xn X = n) (hb : i < n) (hk : GK X ps (pc + 2) k) : GK X ps pc (o_astore i k) := fun ls st S hr => by
  obtain ⟨x, st, rfl, r1⟩ := tR_el hr
  obtain ⟨hm, hw⟩ := hk _ _ _ r1
  rw [← hn] at hb
  refine ⟨hm, fun H locs lm a1 a2 a3 a4 a5 => ?_⟩
  cases x with
  | zero => exact lv_astoreN h.1.ex h.by hd (lh_has a3) hb rfl fun lm' hl => hw H locs lm' a1 a2 (lh_st (v := .ref 0) a3 hb hl) a4 a5
  | succ x => exact lv_astore h.1.ex h.by hd (lh_has a3) hb rfl fun lm' hl => hw H locs lm' a1 a2 (lh_st (v := .ref (x + 1)) a3 hb hl) a4 a5
theorem gk_iinc {i n : Nat} {z : Int} {v : Int32} (h : XM X cc own) (hd : decode cc pc = .ok (.iinc i z, 3)) (hv : Int32.ofInt z = v) (hn : xn X = n) (hb : i < n) (hk : GK X ps (pc + 3) k) : GK X ps pc (o_iinc i v k) := fun ls st S hr => by
  obtain ⟨x, hx, r1⟩ := vI_el hr
  obtain ⟨hm, hw⟩ := hk _ _ _ r1
  rw [← hn] at hb
  have hne : nth ls i ≠ .null := by rw [hx]; simp
  obtain ⟨q, hq⟩ := List.getElem?_of_mem (lvl_mem (base := xb X) (ad := xS X) hne)
  rw [hx] at hq
  exact ⟨hm, fun H locs lm a1 a2 a3 a4 a5 => lv_iinc h.1.ex h.by hd (lh_has a3) (k := q) hq (by rw [hv]) hb rfl fun lm' hl => hw H locs lm' a1 a2 (lh_st (v := .int (x + v)) a3 hb hl) a4 a5⟩
theorem gk_iadd (h : XM X cc own) (hd : decode cc pc = .ok (.iadd, 1)) (hk : GK X ps (pc + 1) k) : GK X ps pc (o_i2 (fun x y => x + y) k) := by
  intro ls st S hr
  obtain ⟨y, st, rfl, r1⟩ := tI_el hr
  obtain ⟨x, st, rfl, r2⟩ := tI_el r1
  obtain ⟨hm, hw⟩ := hk _ _ _ r2
  exact ⟨hm, fun H locs lm a1 a2 a3 a4 a5 => lv_iadd h.1.ex h.by hd (hw H locs lm a1 a2 a3 a4 a5)⟩
theorem gk_isub (h : XM X cc own) (hd : decode cc pc = .ok (.isub, 1)) (hk : GK X ps (pc + 1) k) : GK X ps pc (o_i2 (fun x y => x - y) k) := by
  intro ls st S hr
  obtain ⟨y, st, rfl, r1⟩ := tI_el hr
  obtain ⟨x, st, rfl, r2⟩ := tI_el r1
  obtain ⟨hm, hw⟩ := hk _ _ _ r2
  exact ⟨hm, fun H locs lm a1 a2 a3 a4 a5 => lv_isub h.1.ex h.by hd (hw H locs lm a1 a2 a3 a4 a5)⟩
theorem gk_imul (h : XM X cc own) (hd : decode cc pc = .ok (.imul, 1)) (hk : GK X ps (pc + 1) k) : GK X ps pc (o_i2 (fun x y => x * y) k) := by
  intro ls st S hr
  obtain ⟨y, st, rfl, r1⟩ := tI_el hr
  obtain ⟨x, st, rfl, r2⟩ := tI_el r1
  obtain ⟨hm, hw⟩ := hk _ _ _ r2
  exact ⟨hm, fun H locs lm a1 a2 a3 a4 a5 => lv_imul h.1.ex h.by hd (hw H locs lm a1 a2 a3 a4 a5)⟩
theorem gk_iand (h : XM X cc own) (hd : decode cc pc = .ok (.iand, 1)) (hk : GK X ps (pc + 1) k) : GK X ps pc (o_i2 (fun x y => x &&& y) k) := by
  intro ls st S hr
  obtain ⟨y, st, rfl, r1⟩ := tI_el hr
  obtain ⟨x, st, rfl, r2⟩ := tI_el r1
  obtain ⟨hm, hw⟩ := hk _ _ _ r2
  exact ⟨hm, fun H locs lm a1 a2 a3 a4 a5 => lv_iand h.1.ex h.by hd (hw H locs lm a1 a2 a3 a4 a5)⟩
theorem gk_ior (h : XM X cc own) (hd : decode cc pc = .ok (.ior, 1)) (hk : GK X ps (pc + 1) k) : GK X ps pc (o_i2 (fun x y => x ||| y) k) := by
  intro ls st S hr
  obtain ⟨y, st, rfl, r1⟩ := tI_el hr
  obtain ⟨x, st, rfl, r2⟩ := tI_el r1
  obtain ⟨hm, hw⟩ := hk _ _ _ r2
  exact ⟨hm, fun H locs lm a1 a2 a3 a4 a5 => lv_ior h.1.ex h.by hd (hw H locs lm a1 a2 a3 a4 a5)⟩
theorem gk_ishl (h : XM X cc own) (hd : decode cc pc = .ok (.ishl, 1)) (hk : GK X ps (pc + 1) k) : GK X ps pc (o_i2 (fun x y => x <<< (y &&& 31)) k) := by
  intro ls st S hr
  obtain ⟨y, st, rfl, r1⟩ := tI_el hr
  obtain ⟨x, st, rfl, r2⟩ := tI_el r1
  obtain ⟨hm, hw⟩ := hk _ _ _ r2
  exact ⟨hm, fun H locs lm a1 a2 a3 a4 a5 => lv_ishl h.1.ex h.by hd (hw H locs lm a1 a2 a3 a4 a5)⟩
theorem gk_ishr (h : XM X cc own) (hd : decode cc pc = .ok (.ishr, 1)) (hk : GK X ps (pc + 1) k) : GK X ps pc (o_i2 (fun x y => x >>> (y &&& 31)) k) := by
  intro ls st S hr
  obtain ⟨y, st, rfl, r1⟩ := tI_el hr
  obtain ⟨x, st, rfl, r2⟩ := tI_el r1
  obtain ⟨hm, hw⟩ := hk _ _ _ r2
  exact ⟨hm, fun H locs lm a1 a2 a3 a4 a5 => lv_ishr h.1.ex h.by hd (hw H locs lm a1 a2 a3 a4 a5)⟩
theorem gk_ladd (h : XM X cc own) (hd : decode cc pc = .ok (.ladd, 1)) (hk : GK X ps (pc + 1) k) : GK X ps pc (o_l2 (fun x y => x + y) k) := by
  intro ls st S hr
  obtain ⟨y, st, rfl, r1⟩ := tL_el hr
  obtain ⟨x, st, rfl, r2⟩ := tL_el r1
  obtain ⟨hm, hw⟩ := hk _ _ _ r2
  exact ⟨hm, fun H locs lm a1 a2 a3 a4 a5 => lv_ladd h.1.ex h.by hd (hw H locs lm a1 a2 a3 a4 a5)⟩
theorem gk_lsub (h : XM X cc own) (hd : decode cc pc = .ok (.lsub, 1)) (hk : GK X ps (pc + 1) k) : GK X ps pc (o_l2 (fun x y => x - y) k) := by
  intro ls st S hr
  obtain ⟨y, st, rfl, r1⟩ := tL_el hr
  obtain ⟨x, st, rfl, r2⟩ := tL_el r1
  obtain ⟨hm, hw⟩ := hk _ _ _ r2
  exact ⟨hm, fun H locs lm a1 a2 a3 a4 a5 => lv_lsub h.1.ex h.by hd (hw H locs lm a1 a2 a3 a4 a5)⟩
theorem gk_lmul (h : XM X cc own) (hd : decode cc pc = .ok (.lmul, 1)) (hk : GK X ps (pc + 1) k) : GK X ps pc (o_l2 (fun x y => x * y) k) := by
  intro ls st S hr
  obtain ⟨y, st, rfl, r1⟩ := tL_el hr
  obtain ⟨x, st, rfl, r2⟩ := tL_el r1
  obtain ⟨hm, hw⟩ := hk _ _ _ r2
  exact ⟨hm, fun H locs lm a1 a2 a3 a4 a5 => lv_lmul h.1.ex h.by hd (hw H locs lm a1 a2 a3 a4 a5)⟩
theorem gk_land (h : XM X cc own) (hd : decode cc pc = .ok (.land, 1)) (hk : GK X ps (pc + 1) k) : GK X ps pc (o_l2 (fun x y => x &&& y) k) := by
  intro ls st S hr
  obtain ⟨y, st, rfl, r1⟩ := tL_el hr
  obtain ⟨x, st, rfl, r2⟩ := tL_el r1
  obtain ⟨hm, hw⟩ := hk _ _ _ r2
  exact ⟨hm, fun H locs lm a1 a2 a3 a4 a5 => lv_land h.1.ex h.by hd (hw H locs lm a1 a2 a3 a4 a5)⟩
theorem gk_lor (h : XM X cc own) (hd : decode cc pc = .ok (.lor, 1)) (hk : GK X ps (pc + 1) k) : GK X ps pc (o_l2 (fun x y => x ||| y) k) := by
  intro ls st S hr
  obtain ⟨y, st, rfl, r1⟩ := tL_el hr
  obtain ⟨x, st, rfl, r2⟩ := tL_el r1
  obtain ⟨hm, hw⟩ := hk _ _ _ r2
  exact ⟨hm, fun H locs lm a1 a2 a3 a4 a5 => lv_lor h.1.ex h.by hd (hw H locs lm a1 a2 a3 a4 a5)⟩
theorem gk_lxor (h : XM X cc own) (hd : decode cc pc = .ok (.lxor, 1)) (hk : GK X ps (pc + 1) k) : GK X ps pc (o_l2 (fun x y => x ^^^ y) k) := by
  intro ls st S hr
  obtain ⟨y, st, rfl, r1⟩ := tL_el hr
  obtain ⟨x, st, rfl, r2⟩ := tL_el r1
  obtain ⟨hm, hw⟩ := hk _ _ _ r2
  exact ⟨hm, fun H locs lm a1 a2 a3 a4 a5 => lv_lxor h.1.ex h.by hd (hw H locs lm a1 a2 a3 a4 a5)⟩
theorem gk_idiv (h : XM X cc own) (hd : decode cc pc = .ok (.idiv, 1)) (hk : GK X ps (pc + 1) k) : GK X ps pc (o_i2z (fun x y => x / y) k) := by
  intro ls st S hr
  obtain ⟨y, st, rfl, r1⟩ := tI_el hr
  obtain ⟨x, st, rfl, r2⟩ := tI_el r1
  obtain ⟨hne, r3⟩ := fi_el r2
  obtain ⟨hm, hw⟩ := hk _ _ _ r3
  exact ⟨hm, fun H locs lm a1 a2 a3 a4 a5 => lv_idiv h.1.ex h.by hd hne (hw H locs lm a1 a2 a3 a4 a5)⟩
theorem gk_irem (h : XM X cc own) (hd : decode cc pc = .ok (.irem, 1)) (hk : GK X ps (pc + 1) k) : GK X ps pc (o_i2z (fun x y => x - x / y * y) k) := by
  intro ls st S hr
  obtain ⟨y, st, rfl, r1⟩ := tI_el hr
  obtain ⟨x, st, rfl, r2⟩ := tI_el r1
  obtain ⟨hne, r3⟩ := fi_el r2
  obtain ⟨hm, hw⟩ := hk _ _ _ r3
  exact ⟨hm, fun H locs lm a1 a2 a3 a4 a5 => lv_irem h.1.ex h.by hd hne (hw H locs lm a1 a2 a3 a4 a5)⟩
theorem gk_ldiv (h : XM X cc own) (hd : decode cc pc = .ok (.ldiv, 1)) (hk : GK X ps (pc + 1) k) : GK X ps pc (o_l2z (fun x y => x / y) k) := by
  intro ls st S hr
  obtain ⟨y, st, rfl, r1⟩ := tL_el hr
  obtain ⟨x, st, rfl, r2⟩ := tL_el r1
  obtain ⟨hne, r3⟩ := fi_el r2
  obtain ⟨hm, hw⟩ := hk _ _ _ r3
  exact ⟨hm, fun H locs lm a1 a2 a3 a4 a5 => lv_ldiv h.1.ex h.by hd hne (hw H locs lm a1 a2 a3 a4 a5)⟩
theorem gk_lrem (h : XM X cc own) (hd : decode cc pc = .ok (.lrem, 1)) (hk : GK X ps (pc + 1) k) : GK X ps pc (o_l2z (fun x y => x - x / y * y) k) := by
  intro ls st S hr
  obtain ⟨y, st, rfl, r1⟩ := tL_el hr
  obtain ⟨x, st, rfl, r2⟩ := tL_el r1
  obtain ⟨hne, r3⟩ := fi_el r2
  obtain ⟨hm, hw⟩ := hk _ _ _ r3
  exact ⟨hm, fun H locs lm a1 a2 a3 a4 a5 => lv_lrem h.1.ex h.by hd hne (hw H locs lm a1 a2 a3 a4 a5)⟩
theorem gk_lushr (h : XM X cc own) (hd : decode cc pc = .ok (.lushr, 1)) (hk : GK X ps (pc + 1) k) : GK X ps pc (o_lsh (fun x y => (x.toUInt64 >>> (y.toInt64.toUInt64 &&& Int64.toUInt64 63)).toInt64) k) := by
  intro ls st S hr
  obtain ⟨y, st, rfl, r1⟩ := tI_el hr
  obtain ⟨x, st, rfl, r2⟩ := tL_el r1
  obtain ⟨hm, hw⟩ := hk _ _ _ r2
  exact ⟨hm, fun H locs lm a1 a2 a3 a4 a5 => lv_lushr h.1.ex h.by hd rfl (hw H locs lm a1 a2 a3 a4 a5)⟩
theorem gk_lshl (h : XM X cc own) (hd : decode cc pc = .ok (.lshl, 1)) (hk : GK X ps (pc + 1) k) : GK X ps pc (o_lsh (fun x y => x <<< (y.toInt64 &&& 63)) k) := by
  intro ls st S hr
  obtain ⟨y, st, rfl, r1⟩ := tI_el hr
  obtain ⟨x, st, rfl, r2⟩ := tL_el r1
  obtain ⟨hm, hw⟩ := hk _ _ _ r2
  exact ⟨hm, fun H locs lm a1 a2 a3 a4 a5 => lv_lshl h.1.ex h.by hd rfl (hw H locs lm a1 a2 a3 a4 a5)⟩
theorem gk_ineg (h : XM X cc own) (hd : decode cc pc = .ok (.ineg, 1)) (hk : GK X ps (pc + 1) k) : GK X ps pc (o_i1 (fun x => -x) k) := by
  intro ls st S hr
  obtain ⟨x, st, rfl, r1⟩ := tI_el hr
  obtain ⟨hm, hw⟩ := hk _ _ _ r1
  exact ⟨hm, fun H locs lm a1 a2 a3 a4 a5 => lv_ineg h.1.ex h.by hd (hw H locs lm a1 a2 a3 a4 a5)⟩
theorem gk_i2b (h : XM X cc own) (hd : decode cc pc = .ok (.i2b, 1)) (hk : GK X ps (pc + 1) k) : GK X ps pc (o_i1 (fun x => x.toInt8.toInt32) k) := by
  intro ls st S hr
  obtain ⟨x, st, rfl, r1⟩ := tI_el hr
  obtain ⟨hm, hw⟩ := hk _ _ _ r1
  exact ⟨hm, fun H locs lm a1 a2 a3 a4 a5 => lv_i2b h.1.ex h.by hd rfl (hw H locs lm a1 a2 a3 a4 a5)⟩
theorem gk_i2c (h : XM X cc own) (hd : decode cc pc = .ok (.i2c, 1)) (hk : GK X ps (pc + 1) k) : GK X ps pc (o_i1 (fun x => (x.toUInt32 % 65536).toInt32) k) := by
  intro ls st S hr
  obtain ⟨x, st, rfl, r1⟩ := tI_el hr
  obtain ⟨hm, hw⟩ := hk _ _ _ r1
  exact ⟨hm, fun H locs lm a1 a2 a3 a4 a5 => lv_i2c h.1.ex h.by hd rfl (hw H locs lm a1 a2 a3 a4 a5)⟩
theorem gk_i2l (h : XM X cc own) (hd : decode cc pc = .ok (.i2l, 1)) (hk : GK X ps (pc + 1) k) : GK X ps pc (o_i2l k) := by
  intro ls st S hr
  obtain ⟨x, st, rfl, r1⟩ := tI_el hr
  obtain ⟨hm, hw⟩ := hk _ _ _ r1
  exact ⟨hm, fun H locs lm a1 a2 a3 a4 a5 => lv_i2l h.1.ex h.by hd rfl (hw H locs lm a1 a2 a3 a4 a5)⟩
theorem gk_l2i (h : XM X cc own) (hd : decode cc pc = .ok (.l2i, 1)) (hk : GK X ps (pc + 1) k) : GK X ps pc (o_l2i k) := by
  intro ls st S hr
  obtain ⟨x, st, rfl, r1⟩ := tL_el hr
  obtain ⟨hm, hw⟩ := hk _ _ _ r1
  exact ⟨hm, fun H locs lm a1 a2 a3 a4 a5 => lv_l2i h.1.ex h.by hd rfl (hw H locs lm a1 a2 a3 a4 a5)⟩
theorem gk_lcmp (h : XM X cc own) (hd : decode cc pc = .ok (.lcmp, 1)) (hk : GK X ps (pc + 1) k) : GK X ps pc (o_lcmp k) := by
  intro ls st S hr
  obtain ⟨y, st, rfl, r1⟩ := tL_el hr
  obtain ⟨x, st, rfl, r2⟩ := tL_el r1
  obtain ⟨hm, hw⟩ := hk _ _ _ r2
  exact ⟨hm, fun H locs lm a1 a2 a3 a4 a5 => W.lcmp h.1.ex h.by hd (hw H locs lm a1 a2 a3 a4 a5)⟩
theorem gk_dup (h : XM X cc own) (hd : decode cc pc = .ok (.dup, 1)) (hk : GK X ps (pc + 1) k) : GK X ps pc (o_dup k) := by
  intro ls st S hr
  obtain ⟨v, st, rfl, hc, r1⟩ := t1_el hr
  obtain ⟨hm, hw⟩ := hk _ _ _ r1
  exact ⟨hm, fun H locs lm a1 a2 a3 a4 a5 => lv_dup h.1.ex h.by hd hc (hw H locs lm a1 a2 a3 a4 a5)⟩
theorem gk_dup2 (h : XM X cc own) (hd : decode cc pc = .ok (.dup2, 1)) (hk : GK X ps (pc + 1) k) : GK X ps pc (o_dup2 k) := by
  intro ls st S hr
  obtain ⟨v, st, rfl, hc, r1⟩ := t1_el hr
  obtain ⟨w, st, rfl, hc2, r2⟩ := t1_el r1
  obtain ⟨hm, hw⟩ := hk _ _ _ r2
  exact ⟨hm, fun H locs lm a1 a2 a3 a4 a5 => lv_dup2_11 h.1.ex h.by hd hc hc2 (hw H locs lm a1 a2 a3 a4 a5)⟩
theorem gk_pop (h : XM X cc own) (hd : decode cc pc = .ok (.pop, 1)) (hk : GK X ps (pc + 1) k) : GK X ps pc (o_pop k) := by
  intro ls st S hr
  obtain ⟨v, st, rfl, hc, r1⟩ := t1_el hr
  obtain ⟨hm, hw⟩ := hk _ _ _ r1
  exact ⟨hm, fun H locs lm a1 a2 a3 a4 a5 => lv_pop h.1.ex h.by hd hc (hw H locs lm a1 a2 a3 a4 a5)⟩
theorem gk_goto {off : Int} {tgt : Nat} (h : XM X cc own) (hd : decode cc pc = .ok (.goto off, 3)) (ht : (pc : Int) + off = (tgt : Int)) (hk : GK X ps tgt k) : GK X ps pc k := fun ls st S hr => by
  obtain ⟨hm, hw⟩ := hk _ _ _ hr
  exact ⟨hm, fun H locs lm a1 a2 a3 a4 a5 => lv_goto h.1.ex h.by hd ht (hw H locs lm a1 a2 a3 a4 a5)⟩
theorem gk_ifeq {off : Int} {tgt : Nat} (h : XM X cc own) (hd : decode cc pc = .ok (.ifCond .eq off, 3)) (ht : (pc : Int) + off = (tgt : Int)) (hkt : GK X ps tgt kt) (hkf : GK X ps (pc + 3) kf) : GK X ps pc (o_if0 kt kf) := by
  intro ls st S hr
  obtain ⟨x, st, rfl, r1⟩ := tI_el hr
  by_cases hc : x = 0
  · have r9 := r1
    rw [if_pos hc] at r9
    obtain ⟨hm, hw⟩ := hkt _ _ _ r9
    exact ⟨hm, fun H locs lm a1 a2 a3 a4 a5 => lv_if_eq h.1.ex h.by hd ht (fun q => (hw H locs lm a1 a2 a3 a4 a5)) (fun q => absurd hc (q))⟩
  · have r9 := r1
    rw [if_neg hc] at r9
    obtain ⟨hm, hw⟩ := hkf _ _ _ r9
    exact ⟨hm, fun H locs lm a1 a2 a3 a4 a5 => lv_if_eq h.1.ex h.by hd ht (fun q => absurd (q) hc) (fun q => (hw H locs lm a1 a2 a3 a4 a5))⟩
theorem gk_ifne {off : Int} {tgt : Nat} (h : XM X cc own) (hd : decode cc pc = .ok (.ifCond .ne off, 3)) (ht : (pc : Int) + off = (tgt : Int)) (hkt : GK X ps tgt kt) (hkf : GK X ps (pc + 3) kf) : GK X ps pc (o_if0 kf kt) := by
  intro ls st S hr
  obtain ⟨x, st, rfl, r1⟩ := tI_el hr
  by_cases hc : x = 0
  · have r9 := r1
    rw [if_pos hc] at r9
    obtain ⟨hm, hw⟩ := hkf _ _ _ r9
    exact ⟨hm, fun H locs lm a1 a2 a3 a4 a5 => lv_if_ne h.1.ex h.by hd ht (fun q => absurd hc (q)) (fun q => (hw H locs lm a1 a2 a3 a4 a5))⟩
  · have r9 := r1
    rw [if_neg hc] at r9
    obtain ⟨hm, hw⟩ := hkt _ _ _ r9
    exact ⟨hm, fun H locs lm a1 a2 a3 a4 a5 => lv_if_ne h.1.ex h.by hd ht (fun q => (hw H locs lm a1 a2 a3 a4 a5)) (fun q => absurd (q) hc)⟩
theorem gk_iflt {off : Int} {tgt : Nat} (h : XM X cc own) (hd : decode cc pc = .ok (.ifCond .lt off, 3)) (ht : (pc : Int) + off = (tgt : Int)) (hkt : GK X ps tgt kt) (hkf : GK X ps (pc + 3) kf) : GK X ps pc (o_ifn kt kf) := by
  intro ls st S hr
  obtain ⟨x, st, rfl, r1⟩ := tI_el hr
  by_cases hc : x < 0
  · have r9 := r1
    rw [if_pos hc] at r9
    obtain ⟨hm, hw⟩ := hkt _ _ _ r9
    exact ⟨hm, fun H locs lm a1 a2 a3 a4 a5 => lv_if_lt h.1.ex h.by hd ht (fun q => (hw H locs lm a1 a2 a3 a4 a5)) (fun q => absurd hc (q))⟩
  · have r9 := r1
    rw [if_neg hc] at r9
    obtain ⟨hm, hw⟩ := hkf _ _ _ r9
    exact ⟨hm, fun H locs lm a1 a2 a3 a4 a5 => lv_if_lt h.1.ex h.by hd ht (fun q => absurd (q) hc) (fun q => (hw H locs lm a1 a2 a3 a4 a5))⟩
theorem gk_ifge {off : Int} {tgt : Nat} (h : XM X cc own) (hd : decode cc pc = .ok (.ifCond .ge off, 3)) (ht : (pc : Int) + off = (tgt : Int)) (hkt : GK X ps tgt kt) (hkf : GK X ps (pc + 3) kf) : GK X ps pc (o_ifn kf kt) := by
  intro ls st S hr
  obtain ⟨x, st, rfl, r1⟩ := tI_el hr
  by_cases hc : x < 0
  · have r9 := r1
    rw [if_pos hc] at r9
    obtain ⟨hm, hw⟩ := hkf _ _ _ r9
    exact ⟨hm, fun H locs lm a1 a2 a3 a4 a5 => lv_if_ge h.1.ex h.by hd ht (fun q => absurd hc (Int32.not_lt.mpr q)) (fun q => (hw H locs lm a1 a2 a3 a4 a5))⟩
  · have r9 := r1
    rw [if_neg hc] at r9
    obtain ⟨hm, hw⟩ := hkt _ _ _ r9
    exact ⟨hm, fun H locs lm a1 a2 a3 a4 a5 => lv_if_ge h.1.ex h.by hd ht (fun q => (hw H locs lm a1 a2 a3 a4 a5)) (fun q => absurd (Int32.not_le.mp q) hc)⟩
theorem gk_ifgt {off : Int} {tgt : Nat} (h : XM X cc own) (hd : decode cc pc = .ok (.ifCond .gt off, 3)) (ht : (pc : Int) + off = (tgt : Int)) (hkt : GK X ps tgt kt) (hkf : GK X ps (pc + 3) kf) : GK X ps pc (o_ifp kt kf) := by
  intro ls st S hr
  obtain ⟨x, st, rfl, r1⟩ := tI_el hr
  by_cases hc : 0 < x
  · have r9 := r1
    rw [if_pos hc] at r9
    obtain ⟨hm, hw⟩ := hkt _ _ _ r9
    exact ⟨hm, fun H locs lm a1 a2 a3 a4 a5 => lv_if_gt h.1.ex h.by hd ht (fun q => (hw H locs lm a1 a2 a3 a4 a5)) (fun q => absurd hc (q))⟩
  · have r9 := r1
    rw [if_neg hc] at r9
    obtain ⟨hm, hw⟩ := hkf _ _ _ r9
    exact ⟨hm, fun H locs lm a1 a2 a3 a4 a5 => lv_if_gt h.1.ex h.by hd ht (fun q => absurd (q) hc) (fun q => (hw H locs lm a1 a2 a3 a4 a5))⟩
theorem gk_ifle {off : Int} {tgt : Nat} (h : XM X cc own) (hd : decode cc pc = .ok (.ifCond .le off, 3)) (ht : (pc : Int) + off = (tgt : Int)) (hkt : GK X ps tgt kt) (hkf : GK X ps (pc + 3) kf) : GK X ps pc (o_ifp kf kt) := by
  intro ls st S hr
  obtain ⟨x, st, rfl, r1⟩ := tI_el hr
  by_cases hc : 0 < x
  · have r9 := r1
    rw [if_pos hc] at r9
    obtain ⟨hm, hw⟩ := hkf _ _ _ r9
    exact ⟨hm, fun H locs lm a1 a2 a3 a4 a5 => lv_if_le h.1.ex h.by hd ht (fun q => absurd hc (Int32.not_lt.mpr q)) (fun q => (hw H locs lm a1 a2 a3 a4 a5))⟩
  · have r9 := r1
    rw [if_neg hc] at r9
    obtain ⟨hm, hw⟩ := hkt _ _ _ r9
    exact ⟨hm, fun H locs lm a1 a2 a3 a4 a5 => lv_if_le h.1.ex h.by hd ht (fun q => (hw H locs lm a1 a2 a3 a4 a5)) (fun q => absurd (Int32.not_le.mp q) hc)⟩
theorem gk_icmpeq {off : Int} {tgt : Nat} (h : XM X cc own) (hd : decode cc pc = .ok (.if_icmp .eq off, 3)) (ht : (pc : Int) + off = (tgt : Int)) (hkt : GK X ps tgt kt) (hkf : GK X ps (pc + 3) kf) : GK X ps pc (o_ieq kt kf) := by
  intro ls st S hr
  obtain ⟨y, st, rfl, r1⟩ := tI_el hr
  obtain ⟨x, st, rfl, r2⟩ := tI_el r1
  by_cases hc : x = y
  · have r9 := r2
    rw [if_pos hc] at r9
    obtain ⟨hm, hw⟩ := hkt _ _ _ r9
    exact ⟨hm, fun H locs lm a1 a2 a3 a4 a5 => lv_icmp_eq h.1.ex h.by hd ht (fun q => (hw H locs lm a1 a2 a3 a4 a5)) (fun q => absurd hc (q))⟩
  · have r9 := r2
    rw [if_neg hc] at r9
    obtain ⟨hm, hw⟩ := hkf _ _ _ r9
    exact ⟨hm, fun H locs lm a1 a2 a3 a4 a5 => lv_icmp_eq h.1.ex h.by hd ht (fun q => absurd (q) hc) (fun q => (hw H locs lm a1 a2 a3 a4 a5))⟩
theorem gk_icmpne {off : Int} {tgt : Nat} (h : XM X cc own) (hd : decode cc pc = .ok (.if_icmp .ne off, 3)) (ht : (pc : Int) + off = (tgt : Int)) (hkt : GK X ps tgt kt) (hkf : GK X ps (pc + 3) kf) : GK X ps pc (o_ieq kf kt) := by
  intro ls st S hr
  obtain ⟨y, st, rfl, r1⟩ := tI_el hr
  obtain ⟨x, st, rfl, r2⟩ := tI_el r1
  by_cases hc : x = y
  · have r9 := r2
    rw [if_pos hc] at r9
    obtain ⟨hm, hw⟩ := hkf _ _ _ r9
    exact ⟨hm, fun H locs lm a1 a2 a3 a4 a5 => lv_icmp_ne h.1.ex h.by hd ht (fun q => absurd hc (q)) (fun q => (hw H locs lm a1 a2 a3 a4 a5))⟩
  · have r9 := r2
    rw [if_neg hc] at r9
    obtain ⟨hm, hw⟩ := hkt _ _ _ r9
    exact ⟨hm, fun H locs lm a1 a2 a3 a4 a5 => lv_icmp_ne h.1.ex h.by hd ht (fun q => (hw H locs lm a1 a2 a3 a4 a5)) (fun q => absurd (q) hc)⟩
theorem gk_icmplt {off : Int} {tgt : Nat} (h : XM X cc own) (hd : decode cc pc = .ok (.if_icmp .lt off, 3)) (ht : (pc : Int) + off = (tgt : Int)) (hkt : GK X ps tgt kt) (hkf : GK X ps (pc + 3) kf) : GK X ps pc (o_ilt kt kf) := by
  intro ls st S hr
  obtain ⟨y, st, rfl, r1⟩ := tI_el hr
  obtain ⟨x, st, rfl, r2⟩ := tI_el r1
  by_cases hc : x < y
  · have r9 := r2
    rw [if_pos hc] at r9
    obtain ⟨hm, hw⟩ := hkt _ _ _ r9
    exact ⟨hm, fun H locs lm a1 a2 a3 a4 a5 => lv_icmp_lt h.1.ex h.by hd ht (fun q => (hw H locs lm a1 a2 a3 a4 a5)) (fun q => absurd hc (q))⟩
  · have r9 := r2
    rw [if_neg hc] at r9
    obtain ⟨hm, hw⟩ := hkf _ _ _ r9
    exact ⟨hm, fun H locs lm a1 a2 a3 a4 a5 => lv_icmp_lt h.1.ex h.by hd ht (fun q => absurd (q) hc) (fun q => (hw H locs lm a1 a2 a3 a4 a5))⟩
theorem gk_icmpge {off : Int} {tgt : Nat} (h : XM X cc own) (hd : decode cc pc = .ok (.if_icmp .ge off, 3)) (ht : (pc : Int) + off = (tgt : Int)) (hkt : GK X ps tgt kt) (hkf : GK X ps (pc + 3) kf) : GK X ps pc (o_ilt kf kt) := by
  intro ls st S hr
  obtain ⟨y, st, rfl, r1⟩ := tI_el hr
  obtain ⟨x, st, rfl, r2⟩ := tI_el r1
  by_cases hc : x < y
  · have r9 := r2
    rw [if_pos hc] at r9
    obtain ⟨hm, hw⟩ := hkf _ _ _ r9
    exact ⟨hm, fun H locs lm a1 a2 a3 a4 a5 => lv_icmp_ge h.1.ex h.by hd ht (fun q => absurd hc (Int32.not_lt.mpr q)) (fun q => (hw H locs lm a1 a2 a3 a4 a5))⟩
  · have r9 := r2
    rw [if_neg hc] at r9
    obtain ⟨hm, hw⟩ := hkt _ _ _ r9
    exact ⟨hm, fun H locs lm a1 a2 a3 a4 a5 => lv_icmp_ge h.1.ex h.by hd ht (fun q => (hw H locs lm a1 a2 a3 a4 a5)) (fun q => absurd (Int32.not_le.mp q) hc)⟩
theorem gk_icmpgt {off : Int} {tgt : Nat} (h : XM X cc own) (hd : decode cc pc = .ok (.if_icmp .gt off, 3)) (ht : (pc : Int) + off = (tgt : Int)) (hkt : GK X ps tgt kt) (hkf : GK X ps (pc + 3) kf) : GK X ps pc (o_igt kt kf) := by
  intro ls st S hr
  obtain ⟨y, st, rfl, r1⟩ := tI_el hr
  obtain ⟨x, st, rfl, r2⟩ := tI_el r1
  by_cases hc : y < x
  · have r9 := r2
    rw [if_pos hc] at r9
    obtain ⟨hm, hw⟩ := hkt _ _ _ r9
    exact ⟨hm, fun H locs lm a1 a2 a3 a4 a5 => lv_icmp_gt h.1.ex h.by hd ht (fun q => (hw H locs lm a1 a2 a3 a4 a5)) (fun q => absurd hc (q))⟩
  · have r9 := r2
    rw [if_neg hc] at r9
    obtain ⟨hm, hw⟩ := hkf _ _ _ r9
    exact ⟨hm, fun H locs lm a1 a2 a3 a4 a5 => lv_icmp_gt h.1.ex h.by hd ht (fun q => absurd (q) hc) (fun q => (hw H locs lm a1 a2 a3 a4 a5))⟩
theorem gk_icmple {off : Int} {tgt : Nat} (h : XM X cc own) (hd : decode cc pc = .ok (.if_icmp .le off, 3)) (ht : (pc : Int) + off = (tgt : Int)) (hkt : GK X ps tgt kt) (hkf : GK X ps (pc + 3) kf) : GK X ps pc (o_igt kf kt) := by
  intro ls st S hr
  obtain ⟨y, st, rfl, r1⟩ := tI_el hr
  obtain ⟨x, st, rfl, r2⟩ := tI_el r1
  by_cases hc : y < x
  · have r9 := r2
    rw [if_pos hc] at r9
    obtain ⟨hm, hw⟩ := hkf _ _ _ r9
    exact ⟨hm, fun H locs lm a1 a2 a3 a4 a5 => lv_icmp_le h.1.ex h.by hd ht (fun q => absurd hc (Int32.not_lt.mpr q)) (fun q => (hw H locs lm a1 a2 a3 a4 a5))⟩
  · have r9 := r2
    rw [if_neg hc] at r9
    obtain ⟨hm, hw⟩ := hkt _ _ _ r9
    exact ⟨hm, fun H locs lm a1 a2 a3 a4 a5 => lv_icmp_le h.1.ex h.by hd ht (fun q => (hw H locs lm a1 a2 a3 a4 a5)) (fun q => absurd (Int32.not_le.mp q) hc)⟩
end GKO
end
section
/-! the rows of the heap -/
theorem W_sz {p : Program} {l : Launch} {e : Env} {R : Room} {s : State} {m : MethodId} {args : Array Value} {below : List Frame} {meth : Method} {c : Code} {H : Heap} {locs : List Loc} {cells slots : Nat} {Q : State → Prop} {g : JFrame} (k : H.size ≤ s.heap.size + cells → W p l e R s m args below meth c H locs cells slots Q g) : W p l e R s m args below meth c H locs cells slots Q g :=
  fun T hT X => k (hT ▸ X.heapSize) T hT X
/-- a class by its number: its fields as the tables have them -/
def CK (c : Nat) (C : String) (T : u_T) : Prop := vwCl[c]? = some (C, T, nC c) ∧ c < 100 ∧ (∀ w ∈ u_ws C T (nC c), w ∈ T0) ∧ (∀ k, k < nC c → parseFieldDescriptor (T k).2.2.1 = some (tyC c k)) ∧ (∀ a, a < nC c → ∀ b, b < nC c → a ≠ b → (T a).2.1 ≠ (T b).2.1)
theorem ce_obj {base : Nat} {ck : Nat → ClassId} {S : St} {a c : Nat} (hk : gK S a = c) (hc : c < 100) : ce base ck S a = .inr (c, fl base S a c) := by
  unfold ce; rw [hk, if_pos hc]
theorem ce_arr {base : Nat} {ck : Nat → ClassId} {S : St} {a t : Nat} (hk : gK S a = 100 + t) : ce base ck S a = .inl (ck t, (gN S a, af base S a t)) := by
  unfold ce; rw [hk, if_neg (by omega), Nat.add_sub_cancel_left]
theorem fl_get {base : Nat} {S : St} {a c f : Nat} (hf : f < nC c) : (fl base S a c)[f]? = some (fv base S a (tyC c f) f) := by
  unfold fl; rw [List.getElem?_map, List.getElem?_range hf]; rfl
theorem fl_len (base : Nat) (S : St) (a c : Nat) : (fl base S a c).length = nC c := by simp [fl]
theorem ce_cong {base : Nat} {ck : Nat → ClassId} {S S' : St} {b : Nat} (h1 : gK S' b = gK S b) (h2 : gN S' b = gN S b) (h3 : ∀ j, gI S' b j = gI S b j) (h4 : ∀ j, gL S' b j = gL S b j) (h5 : ∀ j, gR S' b j = gR S b j) : ce base ck S' b = ce base ck S b := by
  have e3 : gI S' b = gI S b := funext h3
  have e4 : gL S' b = gL S b := funext h4
  unfold ce
  rw [h1, h2]
  unfold fl af
  simp only [e3, e4, h5]
  have : ∀ ty k, fv base S' b ty k = fv base S b ty k := by
    intro ty k
    unfold fv
    simp only [h3, h4, h5]
  simp only [this]
theorem fl_set {base : Nat} {S S' : St} {a c f : Nat} {v : Value} (hv : fv base S' a (tyC c f) f = v) (h3 : ∀ j, j ≠ f → gI S' a j = gI S a j) (h4 : ∀ j, j ≠ f → gL S' a j = gL S a j) (h5 : ∀ j, j ≠ f → gR S' a j = gR S a j) : (fl base S a c).set f v = fl base S' a c := by
  apply List.ext_getElem?
  intro j
  rw [List.getElem?_set]
  by_cases hj : f = j
  · subst hj
    rw [if_pos rfl]
    by_cases hl : f < nC c
    · rw [if_pos (by rw [fl_len]; exact hl), fl_get hl, hv]
    · rw [if_neg (by rw [fl_len]; exact hl), List.getElem?_eq_none (by rw [fl_len]; omega)]
  · rw [if_neg hj]
    by_cases hl : j < nC c
    · rw [fl_get hl, fl_get hl]
      have e : j ≠ f := fun z => hj z.symm
      unfold fv
      simp only [h3 j e, h4 j e, h5 j e]
    · rw [List.getElem?_eq_none (by rw [fl_len]; omega), List.getElem?_eq_none (by rw [fl_len]; omega)]
section GKH
variable {X : Cx} {ps : Nat → Nat} {pc : Nat} {k kt kf : K} {cc : ByteArray} {own : String}
theorem xv_ref {a : Nat} (h : 0 < a) : xv X (.ref a) = .ref (xb X + a) := rv_pos h
theorem vp_inB {j : Int32} {n : Nat} (h : inB j n) : vp_in j n := vp_in_iff.mpr h
theorem gk_getI {c f i : Nat} {C : String} {T : u_T} (h : XM X cc own) (hc : CK c C T) (hf : f < nC c) (hv : ∀ base S a, fv base S a (tyC c f) f = .int (gI S a f)) (hd : decode cc pc = .ok (.getfield i, 3)) (hl : Cond.fieldLink own i (T f).1 (T f).2.1 (T f).2.2.1 ∈ T0) (hk : GK X ps (pc + 3) k) : GK X ps pc (o_getI c f k) := by
  intro ls st S hr
  obtain ⟨a, st, rfl, r1⟩ := tR_el hr
  obtain ⟨hka, r2⟩ := if_el r1
  obtain ⟨hm, hw⟩ := hk _ _ _ r2
  refine ⟨hm, fun H locs lm a1 a2 a3 a4 a5 => ?_⟩
  obtain ⟨p0, p1⟩ := a1.live hka (by have := hc.2.1; omega)
  have hw := hw H locs lm a1 a2 a3 a4 a5
  rw [List.map_cons, xv_ref p0]
  have he := wl_get (base := xb X) (ck := xk X) p0 p1
  rw [ce_obj hka hc.2.1] at he
  exact va_get h.1.ex h.by h.1.ts hc.2.2.1 h.ow h.1.tb.1 a1.1 (a - 1) he hc.1 f hf (h.1.ts _ hl) (fun _ z => z) (by rw [fl_get hf, hv]; rfl) hd hw
theorem gk_getL {c f i : Nat} {C : String} {T : u_T} (h : XM X cc own) (hc : CK c C T) (hf : f < nC c) (hv : ∀ base S a, fv base S a (tyC c f) f = .long (gL S a f)) (hd : decode cc pc = .ok (.getfield i, 3)) (hl : Cond.fieldLink own i (T f).1 (T f).2.1 (T f).2.2.1 ∈ T0) (hk : GK X ps (pc + 3) k) : GK X ps pc (o_getL c f k) := by
  intro ls st S hr
  obtain ⟨a, st, rfl, r1⟩ := tR_el hr
  obtain ⟨hka, r2⟩ := if_el r1
  obtain ⟨hm, hw⟩ := hk _ _ _ r2
  refine ⟨hm, fun H locs lm a1 a2 a3 a4 a5 => ?_⟩
  obtain ⟨p0, p1⟩ := a1.live hka (by have := hc.2.1; omega)
  have hw := hw H locs lm a1 a2 a3 a4 a5
  rw [List.map_cons, xv_ref p0]
  have he := wl_get (base := xb X) (ck := xk X) p0 p1
  rw [ce_obj hka hc.2.1] at he
  exact va_get h.1.ex h.by h.1.ts hc.2.2.1 h.ow h.1.tb.1 a1.1 (a - 1) he hc.1 f hf (h.1.ts _ hl) (fun _ z => z) (by rw [fl_get hf, hv]; rfl) hd hw
theorem gk_getR {c f i : Nat} {C : String} {T : u_T} (h : XM X cc own) (hc : CK c C T) (hf : f < nC c) (hv : ∀ base S a, fv base S a (tyC c f) f = rv base (gR S a f)) (hd : decode cc pc = .ok (.getfield i, 3)) (hl : Cond.fieldLink own i (T f).1 (T f).2.1 (T f).2.2.1 ∈ T0) (hk : GK X ps (pc + 3) k) : GK X ps pc (o_getR c f k) := by
  intro ls st S hr
  obtain ⟨a, st, rfl, r1⟩ := tR_el hr
  obtain ⟨hka, r2⟩ := if_el r1
  obtain ⟨hm, hw⟩ := hk _ _ _ r2
  refine ⟨hm, fun H locs lm a1 a2 a3 a4 a5 => ?_⟩
  obtain ⟨p0, p1⟩ := a1.live hka (by have := hc.2.1; omega)
  have hw := hw H locs lm a1 a2 a3 a4 a5
  rw [List.map_cons, xv_ref p0]
  have he := wl_get (base := xb X) (ck := xk X) p0 p1
  rw [ce_obj hka hc.2.1] at he
  exact va_get h.1.ex h.by h.1.ts hc.2.2.1 h.ow h.1.tb.1 a1.1 (a - 1) he hc.1 f hf (h.1.ts _ hl) (fun _ z => z) (by rw [fl_get hf, hv]; rfl) hd hw
/-- one slot of the cell a is new: the picture -/
theorem HR_set {base : Nat} {D : va_G} {ck : Nat → ClassId} {S S' : St} {H H1 : Heap} {a : Nat} {x : va_E} (h : HR base D ck S H) (h0 : 0 < a) (ha : a ≤ gZ S) (hz : gZ S' = gZ S) (hK : ∀ b, gK S' b = gK S b) (hN : ∀ b, gN S' b = gN S b) (h3 : ∀ b j, b ≠ a → gI S' b j = gI S b j) (h4 : ∀ b j, b ≠ a → gL S' b j = gL S b j) (h5 : ∀ b j, b ≠ a → gR S' b j = gR S b j) (hx : x = ce base ck S' a) (hP : va_P D vwCl ((wl base ck S).set (a - 1) (base + a, x)) H1) : HR base D ck S' H1 := by
  rw [wl_set (S' := S') hz h0 ha (fun b hb => ce_cong (hK b) (hN b) (fun j => h3 b j hb) (fun j => h4 b j hb) (fun j => h5 b j hb)) hx] at hP
  exact ⟨hP, fun b hb => by rw [hK]; exact h.2 b (by rwa [hz] at hb)⟩
theorem put_W {c f i : Nat} {C : String} {T : u_T} (h : XM X cc own) (hc : CK c C T) (hf : f < nC c) (hfin : (T f).2.2.2 = false ∨ ((T f).2.2.2 = true ∧ (xh X).name = "<init>" ∧ (T f).1 = own)) (hd : decode cc pc = .ok (.putfield i, 3)) (hl : Cond.fieldLink own i (T f).1 (T f).2.1 (T f).2.2.1 ∈ T0)
    {S S' : St} {a : Nat} {v : Value} (hka : gK S a = c) (hn : narrow (tyC c f) v = v) (hfit : fits (tyC c f) v = true) (hfv : fv (xb X) S' a (tyC c f) f = v) (hz : gZ S' = gZ S) (hK : ∀ b, gK S' b = gK S b) (hN : ∀ b, gN S' b = gN S b) (h3 : ∀ b j, (b ≠ a ∨ j ≠ f) → gI S' b j = gI S b j) (h4 : ∀ b j, (b ≠ a ∨ j ≠ f) → gL S' b j = gL S b j) (h5 : ∀ b j, (b ≠ a ∨ j ≠ f) → gR S' b j = gR S b j)
    {H : Heap} {locs : List Loc} {lm : Array Slot} {cells slots : Nat} {rest : List Value} (a1 : HR (xb X) (xD X) (xk X) S H) (a2 : va_S (xA X) (xs X).heap H locs)
    (hw : ∀ (H1 : Heap) (locs1 : List Loc), HR (xb X) (xD X) (xk X) S' H1 → va_S (xA X) (xs X).heap H1 locs1 → W (xp X) (xl X) (xe X) (xR X) (xs X) (xm X) (xa X) (xw X) (xh X) (xc X) H1 locs1 cells slots (xQ X) (F0 (xm X) (pc + 3) lm rest)) :
    W (xp X) (xl X) (xe X) (xR X) (xs X) (xm X) (xa X) (xw X) (xh X) (xc X) H locs cells slots (xQ X) (F0 (xm X) pc lm (v :: .ref (xb X + a) :: rest)) := by
  obtain ⟨p0, p1⟩ := a1.live hka (by have := hc.2.1; omega)
  have he := wl_get (base := xb X) (ck := xk X) p0 p1
  rw [ce_obj hka hc.2.1] at he
  have hx : (Sum.inr (c, (fl (xb X) S a c).set f v) : va_E) = ce (xb X) (xk X) S' a := by
    rw [ce_obj (c := c) (by rw [hK]; exact hka) hc.2.1, fl_set hfv (fun j hj => h3 a j (Or.inr hj)) (fun j hj => h4 a j (Or.inr hj)) (fun j hj => h5 a j (Or.inr hj))]
  have hHR : ∀ H1, va_P (xD X) vwCl ((wl (xb X) (xk X) S).set (a - 1) (xb X + a, .inr (c, (fl (xb X) S a c).set f v))) H1 → HR (xb X) (xD X) (xk X) S' H1 := fun H1 hP => HR_set a1 p0 p1 hz hK hN (fun b j hb => h3 b j (Or.inl hb)) (fun b j hb => h4 b j (Or.inl hb)) (fun b j hb => h5 b j (Or.inl hb)) hx hP
  rcases hfin with hfin | ⟨hfin, hin2, hdecl⟩
  · exact va_put h.1.ex h.by h.1.ts hc.2.2.1 (tyC c) hc.2.2.2.1 hc.2.2.2.2 h.ow h.1.tb.1 a1.1 (wl_D _ _ _) a2 (a - 1) he hc.1 f hf (h.1.ts _ hl) (fun _ z => z) hfin (hc.2.2.2.1 f hf) hn hfit (by rw [fl_len]; exact hf) hd (fun H1 locs1 hP _ hS => hw H1 locs1 (hHR H1 hP) hS)
  · exact va_putF h.1.ex h.by h.1.ts hc.2.2.1 (tyC c) hc.2.2.2.1 hc.2.2.2.2 h.ow h.1.tb.1 a1.1 (wl_D _ _ _) a2 (a - 1) he hc.1 f hf (h.1.ts _ hl) (fun _ z => z) hfin hin2 hdecl (hc.2.2.2.1 f hf) hn hfit (by rw [fl_len]; exact hf) hd (fun H1 locs1 hP _ hS => hw H1 locs1 (hHR H1 hP) hS)
abbrev Fin_ok (X : Cx) (own : String) (T : u_T) (f : Nat) : Prop := (T f).2.2.2 = false ∨ ((T f).2.2.2 = true ∧ (xh X).name = "<init>" ∧ (T f).1 = own)
theorem u2_ne {α : Type} {f : Nat → Nat → α} {a k : Nat} {v : α} {b j : Nat} (h : b ≠ a ∨ j ≠ k) : u2 f a k v b j = f b j := by
  unfold u2
  rw [if_neg]
  rintro ⟨h1, h2⟩
  rcases h with h | h
  · exact h h1
  · exact h h2
theorem u2_eq {α : Type} {f : Nat → Nat → α} {a k : Nat} {v : α} : u2 f a k v a k = v := by
  unfold u2; rw [if_pos ⟨rfl, rfl⟩]
theorem gk_putI {c f i : Nat} {C : String} {T : u_T} (h : XM X cc own) (hc : CK c C T) (hf : f < nC c) (hty : tyC c f = .int) (hfin : Fin_ok X own T f) (hd : decode cc pc = .ok (.putfield i, 3)) (hl : Cond.fieldLink own i (T f).1 (T f).2.1 (T f).2.2.1 ∈ T0) (hk : GK X ps (pc + 3) k) : GK X ps pc (o_putI c f k) := by
  intro ls st S hr
  obtain ⟨v, st, rfl, r1⟩ := tI_el hr
  obtain ⟨a, st, rfl, r2⟩ := tR_el r1
  obtain ⟨hka, r3⟩ := if_el r2
  obtain ⟨hm, hw⟩ := hk _ _ _ r3
  refine ⟨hm, fun H locs lm a1 a2 a3 a4 a5 => ?_⟩
  rw [List.map_cons, List.map_cons, xv_ref (a1.live hka (by have := hc.2.1; omega)).1]
  exact put_W h hc hf hfin hd hl (S' := pI S a f v) hka (by rw [hty]; rfl) (by rw [hty]; rfl) (by rw [hty]; show Value.int (u2 S.1 a f v a f) = _; rw [u2_eq]; rfl) rfl (fun _ => rfl) (fun _ => rfl) (fun b j hb => u2_ne hb) (fun _ _ _ => rfl) (fun _ _ _ => rfl) a1 a2 (fun H1 locs1 b1 b2 => hw H1 locs1 lm b1 b2 a3 a4 a5)
theorem gk_putZ {c f i : Nat} {C : String} {T : u_T} (h : XM X cc own) (hc : CK c C T) (hf : f < nC c) (hty : tyC c f = .boolean) (hfin : Fin_ok X own T f) (hd : decode cc pc = .ok (.putfield i, 3)) (hl : Cond.fieldLink own i (T f).1 (T f).2.1 (T f).2.2.1 ∈ T0) (hk : GK X ps (pc + 3) k) : GK X ps pc (o_putZ c f k) := by
  intro ls st S hr
  obtain ⟨v, st, rfl, r1⟩ := tI_el hr
  obtain ⟨a, st, rfl, r2⟩ := tR_el r1
  obtain ⟨⟨hka, hv⟩, r3⟩ := if_el r2
  obtain ⟨hm, hw⟩ := hk _ _ _ r3
  refine ⟨hm, fun H locs lm a1 a2 a3 a4 a5 => ?_⟩
  rw [List.map_cons, List.map_cons, xv_ref (a1.live hka (by have := hc.2.1; omega)).1]
  exact put_W h hc hf hfin hd hl (S' := pI S a f v) (v := .int v) hka (by rw [hty]; rcases hv with rfl | rfl <;> decide) (by rw [hty]; rcases hv with rfl | rfl <;> decide) (by rw [hty]; show Value.int (u2 S.1 a f v a f) = _; rw [u2_eq]) rfl (fun _ => rfl) (fun _ => rfl) (fun b j hb => u2_ne hb) (fun _ _ _ => rfl) (fun _ _ _ => rfl) a1 a2 (fun H1 locs1 b1 b2 => hw H1 locs1 lm b1 b2 a3 a4 a5)
theorem gk_putL {c f i : Nat} {C : String} {T : u_T} (h : XM X cc own) (hc : CK c C T) (hf : f < nC c) (hty : tyC c f = .long) (hfin : Fin_ok X own T f) (hd : decode cc pc = .ok (.putfield i, 3)) (hl : Cond.fieldLink own i (T f).1 (T f).2.1 (T f).2.2.1 ∈ T0) (hk : GK X ps (pc + 3) k) : GK X ps pc (o_putL c f k) := by
  intro ls st S hr
  obtain ⟨v, st, rfl, r1⟩ := tL_el hr
  obtain ⟨a, st, rfl, r2⟩ := tR_el r1
  obtain ⟨hka, r3⟩ := if_el r2
  obtain ⟨hm, hw⟩ := hk _ _ _ r3
  refine ⟨hm, fun H locs lm a1 a2 a3 a4 a5 => ?_⟩
  rw [List.map_cons, List.map_cons, xv_ref (a1.live hka (by have := hc.2.1; omega)).1]
  exact put_W h hc hf hfin hd hl (S' := pL S a f v) hka (by rw [hty]; rfl) (by rw [hty]; rfl) (by rw [hty]; show Value.long (u2 S.2.1 a f v a f) = _; rw [u2_eq]; rfl) rfl (fun _ => rfl) (fun _ => rfl) (fun _ _ _ => rfl) (fun b j hb => u2_ne hb) (fun _ _ _ => rfl) a1 a2 (fun H1 locs1 b1 b2 => hw H1 locs1 lm b1 b2 a3 a4 a5)
theorem gk_putR {c f i : Nat} {C : String} {T : u_T} (h : XM X cc own) (hc : CK c C T) (hf : f < nC c) (hty : (∃ n, tyC c f = .object n) ∨ ∃ t, tyC c f = .array t) (hfin : Fin_ok X own T f) (hd : decode cc pc = .ok (.putfield i, 3)) (hl : Cond.fieldLink own i (T f).1 (T f).2.1 (T f).2.2.1 ∈ T0) (hk : GK X ps (pc + 3) k) : GK X ps pc (o_putR c f k) := by
  intro ls st S hr
  obtain ⟨v, st, rfl, r1⟩ := tR_el hr
  obtain ⟨a, st, rfl, r2⟩ := tR_el r1
  obtain ⟨hka, r3⟩ := if_el r2
  obtain ⟨hm, hw⟩ := hk _ _ _ r3
  refine ⟨hm, fun H locs lm a1 a2 a3 a4 a5 => ?_⟩
  rw [List.map_cons, List.map_cons, xv_ref (a1.live hka (by have := hc.2.1; omega)).1]
  refine put_W h hc hf hfin hd hl (S' := pR S a f v) hka ?_ ?_ ?_ rfl (fun _ => rfl) (fun _ => rfl) (fun _ _ _ => rfl) (fun _ _ _ => rfl) (fun b j hb => u2_ne hb) a1 a2 (fun H1 locs1 b1 b2 => hw H1 locs1 lm b1 b2 a3 a4 a5)
  · rcases hty with ⟨n, e⟩ | ⟨t, e⟩ <;> rw [e] <;> cases v <;> rfl
  · rcases hty with ⟨n, e⟩ | ⟨t, e⟩ <;> rw [e] <;> cases v <;> rfl
  · rcases hty with ⟨n, e⟩ | ⟨t, e⟩ <;> rw [e] <;> show rv (xb X) (u2 S.2.2.1 a f v a f) = _ <;> rw [u2_eq] <;> rfl
end GKH
end
section
/-! the rows of arrays, of what is made, and of the end -/
section GKA
variable {X : Cx} {ps : Nat → Nat} {pc : Nat} {k kt kf : K} {cc : ByteArray} {own : String}
theorem tys_at (ck : Nat → ClassId) (t : Nat) (ht : t < 6) : (tysC ck)[t]? = some (ck t, tyK t) := by
  rcases (show t = 0 ∨ t = 1 ∨ t = 2 ∨ t = 3 ∨ t = 4 ∨ t = 5 by omega) with rfl | rfl | rfl | rfl | rfl | rfl <;> rfl
theorem arr_at {S : St} {H : Heap} {a t : Nat} (a1 : HR (xb X) (xD X) (xk X) S H) (hka : gK S a = 100 + t) (ht : t < 6) : 0 < a ∧ a ≤ gZ S ∧ (wl (xb X) (xk X) S)[a - 1]? = some (xb X + a, .inl (xk X t, (gN S a, af (xb X) S a t))) := by
  obtain ⟨p0, p1⟩ := a1.live hka (by omega)
  have he := wl_get (base := xb X) (ck := xk X) p0 p1
  rw [ce_arr hka] at he
  exact ⟨p0, p1, he⟩
theorem af_i {base : Nat} {S : St} {a t : Nat} (h1 : t ≠ 1) (h5 : t ≠ 5) : af base S a t = .inl (gI S a) := by
  unfold af; rw [if_neg h1, if_neg h5]
theorem gk_ald0 (h : XM X cc own) (hd : decode cc pc = .ok (.iaload, 1)) (hk : GK X ps (pc + 1) k) : GK X ps pc (o_iald 0 k) := by
  intro ls st S hr
  obtain ⟨j, st, rfl, r1⟩ := tI_el hr
  obtain ⟨a, st, rfl, r2⟩ := tR_el r1
  obtain ⟨⟨hka, hj⟩, r3⟩ := if_el r2
  obtain ⟨hm, hw⟩ := hk _ _ _ r3
  refine ⟨hm, fun H locs lm a1 a2 a3 a4 a5 => ?_⟩
  obtain ⟨p0, p1, he⟩ := arr_at a1 hka (by omega)
  rw [af_i (by omega) (by omega)] at he
  rw [List.map_cons, List.map_cons, xv_ref p0]
  exact va_iald h.1.ex h.by h.1.tb.1 a1.1 (a - 1) 0 he (tys_at _ 0 (by omega)) (vp_inB hj) hd (hw H locs lm a1 a2 a3 a4 a5)
theorem gk_ast0 (h : XM X cc own) (hd : decode cc pc = .ok (.iastore, 1)) (hk : GK X ps (pc + 1) k) : GK X ps pc (o_iast 0 (fun x => x) k) := by
  intro ls st S hr
  obtain ⟨v, st, rfl, r1⟩ := tI_el hr
  obtain ⟨j, st, rfl, r2⟩ := tI_el r1
  obtain ⟨a, st, rfl, r3⟩ := tR_el r2
  obtain ⟨⟨hka, hj⟩, r4⟩ := if_el r3
  obtain ⟨hm, hw⟩ := hk _ _ _ r4
  refine ⟨hm, fun H locs lm a1 a2 a3 a4 a5 => ?_⟩
  obtain ⟨p0, p1, he⟩ := arr_at a1 hka (by omega)
  rw [af_i (by omega) (by omega)] at he
  rw [List.map_cons, List.map_cons, List.map_cons, xv_ref p0]
  refine va_iast h.1.ex h.by h.1.tb.1 a1.1 (wl_D _ _ _) a2 (a - 1) 0 he (tys_at _ 0 (by omega)) (vp_inB hj) hd (fun H1 locs1 hP _ hS => hw H1 locs1 lm ?_ hS a3 a4 a5)
  refine HR_set a1 p0 p1 rfl (fun _ => rfl) (fun _ => rfl) (fun b i hb => u2_ne (Or.inl hb)) (fun _ _ _ => rfl) (fun _ _ _ => rfl) ?_ hP
  refine Eq.trans ?_ (ce_arr (S := pI S a j.toNatClampNeg _) (t := 0) (by exact hka)).symm
  rw [af_i (by omega) (by omega)]
  show (Sum.inl (xk X 0, gN S a, Sum.inl _) : va_E) = Sum.inl (xk X 0, gN S a, Sum.inl _)
  congr 4
  funext q
  show upd (gI S a) j.toNatClampNeg _ q = u2 S.1 a j.toNatClampNeg _ a q
  unfold upd u2 gI
  by_cases e : q = j.toNatClampNeg
  · rw [if_pos e, if_pos ⟨rfl, e⟩]
  · rw [if_neg e, if_neg (fun z => e z.2)]
theorem gk_ald2 (h : XM X cc own) (hd : decode cc pc = .ok (.caload, 1)) (hk : GK X ps (pc + 1) k) : GK X ps pc (o_iald 2 k) := by
  intro ls st S hr
  obtain ⟨j, st, rfl, r1⟩ := tI_el hr
  obtain ⟨a, st, rfl, r2⟩ := tR_el r1
  obtain ⟨⟨hka, hj⟩, r3⟩ := if_el r2
  obtain ⟨hm, hw⟩ := hk _ _ _ r3
  refine ⟨hm, fun H locs lm a1 a2 a3 a4 a5 => ?_⟩
  obtain ⟨p0, p1, he⟩ := arr_at a1 hka (by omega)
  rw [af_i (by omega) (by omega)] at he
  rw [List.map_cons, List.map_cons, xv_ref p0]
  exact va_cald h.1.ex h.by h.1.tb.1 a1.1 (a - 1) 2 he (tys_at _ 2 (by omega)) (vp_inB hj) hd (hw H locs lm a1 a2 a3 a4 a5)
theorem gk_ast2 (h : XM X cc own) (hd : decode cc pc = .ok (.castore, 1)) (hk : GK X ps (pc + 1) k) : GK X ps pc (o_iast 2 (fun x => vp_nar .char x) k) := by
  intro ls st S hr
  obtain ⟨v, st, rfl, r1⟩ := tI_el hr
  obtain ⟨j, st, rfl, r2⟩ := tI_el r1
  obtain ⟨a, st, rfl, r3⟩ := tR_el r2
  obtain ⟨⟨hka, hj⟩, r4⟩ := if_el r3
  obtain ⟨hm, hw⟩ := hk _ _ _ r4
  refine ⟨hm, fun H locs lm a1 a2 a3 a4 a5 => ?_⟩
  obtain ⟨p0, p1, he⟩ := arr_at a1 hka (by omega)
  rw [af_i (by omega) (by omega)] at he
  rw [List.map_cons, List.map_cons, List.map_cons, xv_ref p0]
  refine va_cast h.1.ex h.by h.1.tb.1 a1.1 (wl_D _ _ _) a2 (a - 1) 2 he (tys_at _ 2 (by omega)) (vp_inB hj) hd (fun H1 locs1 hP _ hS => hw H1 locs1 lm ?_ hS a3 a4 a5)
  refine HR_set a1 p0 p1 rfl (fun _ => rfl) (fun _ => rfl) (fun b i hb => u2_ne (Or.inl hb)) (fun _ _ _ => rfl) (fun _ _ _ => rfl) ?_ hP
  refine Eq.trans ?_ (ce_arr (S := pI S a j.toNatClampNeg _) (t := 2) (by exact hka)).symm
  rw [af_i (by omega) (by omega)]
  show (Sum.inl (xk X 2, gN S a, Sum.inl _) : va_E) = Sum.inl (xk X 2, gN S a, Sum.inl _)
  congr 4
  funext q
  show upd (gI S a) j.toNatClampNeg _ q = u2 S.1 a j.toNatClampNeg _ a q
  unfold upd u2 gI
  by_cases e : q = j.toNatClampNeg
  · rw [if_pos e, if_pos ⟨rfl, e⟩]
  · rw [if_neg e, if_neg (fun z => e z.2)]
theorem gk_ald3 (h : XM X cc own) (hd : decode cc pc = .ok (.baload, 1)) (hk : GK X ps (pc + 1) k) : GK X ps pc (o_iald 3 k) := by
  intro ls st S hr
  obtain ⟨j, st, rfl, r1⟩ := tI_el hr
  obtain ⟨a, st, rfl, r2⟩ := tR_el r1
  obtain ⟨⟨hka, hj⟩, r3⟩ := if_el r2
  obtain ⟨hm, hw⟩ := hk _ _ _ r3
  refine ⟨hm, fun H locs lm a1 a2 a3 a4 a5 => ?_⟩
  obtain ⟨p0, p1, he⟩ := arr_at a1 hka (by omega)
  rw [af_i (by omega) (by omega)] at he
  rw [List.map_cons, List.map_cons, xv_ref p0]
  exact va_bald h.1.ex h.by h.1.tb.1 a1.1 (a - 1) 3 he (tys_at _ 3 (by omega)) (vp_inB hj) hd (hw H locs lm a1 a2 a3 a4 a5)
theorem gk_ast3 (h : XM X cc own) (hd : decode cc pc = .ok (.bastore, 1)) (hk : GK X ps (pc + 1) k) : GK X ps pc (o_iast 3 (fun x => vp_nar .byte x) k) := by
  intro ls st S hr
  obtain ⟨v, st, rfl, r1⟩ := tI_el hr
  obtain ⟨j, st, rfl, r2⟩ := tI_el r1
  obtain ⟨a, st, rfl, r3⟩ := tR_el r2
  obtain ⟨⟨hka, hj⟩, r4⟩ := if_el r3
  obtain ⟨hm, hw⟩ := hk _ _ _ r4
  refine ⟨hm, fun H locs lm a1 a2 a3 a4 a5 => ?_⟩
  obtain ⟨p0, p1, he⟩ := arr_at a1 hka (by omega)
  rw [af_i (by omega) (by omega)] at he
  rw [List.map_cons, List.map_cons, List.map_cons, xv_ref p0]
  refine va_bast h.1.ex h.by h.1.tb.1 a1.1 (wl_D _ _ _) a2 (a - 1) 3 he (tys_at _ 3 (by omega)) (vp_inB hj) hd (fun H1 locs1 hP _ hS => hw H1 locs1 lm ?_ hS a3 a4 a5)
  refine HR_set a1 p0 p1 rfl (fun _ => rfl) (fun _ => rfl) (fun b i hb => u2_ne (Or.inl hb)) (fun _ _ _ => rfl) (fun _ _ _ => rfl) ?_ hP
  refine Eq.trans ?_ (ce_arr (S := pI S a j.toNatClampNeg _) (t := 3) (by exact hka)).symm
  rw [af_i (by omega) (by omega)]
  show (Sum.inl (xk X 3, gN S a, Sum.inl _) : va_E) = Sum.inl (xk X 3, gN S a, Sum.inl _)
  congr 4
  funext q
  show upd (gI S a) j.toNatClampNeg _ q = u2 S.1 a j.toNatClampNeg _ a q
  unfold upd u2 gI
  by_cases e : q = j.toNatClampNeg
  · rw [if_pos e, if_pos ⟨rfl, e⟩]
  · rw [if_neg e, if_neg (fun z => e z.2)]
theorem gk_ald4 (h : XM X cc own) (hd : decode cc pc = .ok (.baload, 1)) (hk : GK X ps (pc + 1) k) : GK X ps pc (o_iald 4 k) := by
  intro ls st S hr
  obtain ⟨j, st, rfl, r1⟩ := tI_el hr
  obtain ⟨a, st, rfl, r2⟩ := tR_el r1
  obtain ⟨⟨hka, hj⟩, r3⟩ := if_el r2
  obtain ⟨hm, hw⟩ := hk _ _ _ r3
  refine ⟨hm, fun H locs lm a1 a2 a3 a4 a5 => ?_⟩
  obtain ⟨p0, p1, he⟩ := arr_at a1 hka (by omega)
  rw [af_i (by omega) (by omega)] at he
  rw [List.map_cons, List.map_cons, xv_ref p0]
  exact va_zald h.1.ex h.by h.1.tb.1 a1.1 (a - 1) 4 he (tys_at _ 4 (by omega)) (vp_inB hj) hd (hw H locs lm a1 a2 a3 a4 a5)
theorem gk_ast4 (h : XM X cc own) (hd : decode cc pc = .ok (.bastore, 1)) (hk : GK X ps (pc + 1) k) : GK X ps pc (o_iast 4 (fun x => vp_nar .boolean x) k) := by
  intro ls st S hr
  obtain ⟨v, st, rfl, r1⟩ := tI_el hr
  obtain ⟨j, st, rfl, r2⟩ := tI_el r1
  obtain ⟨a, st, rfl, r3⟩ := tR_el r2
  obtain ⟨⟨hka, hj⟩, r4⟩ := if_el r3
  obtain ⟨hm, hw⟩ := hk _ _ _ r4
  refine ⟨hm, fun H locs lm a1 a2 a3 a4 a5 => ?_⟩
  obtain ⟨p0, p1, he⟩ := arr_at a1 hka (by omega)
  rw [af_i (by omega) (by omega)] at he
  rw [List.map_cons, List.map_cons, List.map_cons, xv_ref p0]
  refine va_zast h.1.ex h.by h.1.tb.1 a1.1 (wl_D _ _ _) a2 (a - 1) 4 he (tys_at _ 4 (by omega)) (vp_inB hj) hd (fun H1 locs1 hP _ hS => hw H1 locs1 lm ?_ hS a3 a4 a5)
  refine HR_set a1 p0 p1 rfl (fun _ => rfl) (fun _ => rfl) (fun b i hb => u2_ne (Or.inl hb)) (fun _ _ _ => rfl) (fun _ _ _ => rfl) ?_ hP
  refine Eq.trans ?_ (ce_arr (S := pI S a j.toNatClampNeg _) (t := 4) (by exact hka)).symm
  rw [af_i (by omega) (by omega)]
  show (Sum.inl (xk X 4, gN S a, Sum.inl _) : va_E) = Sum.inl (xk X 4, gN S a, Sum.inl _)
  congr 4
  funext q
  show upd (gI S a) j.toNatClampNeg _ q = u2 S.1 a j.toNatClampNeg _ a q
  unfold upd u2 gI
  by_cases e : q = j.toNatClampNeg
  · rw [if_pos e, if_pos ⟨rfl, e⟩]
  · rw [if_neg e, if_neg (fun z => e z.2)]
theorem gk_lald (h : XM X cc own) (hd : decode cc pc = .ok (.laload, 1)) (hk : GK X ps (pc + 1) k) : GK X ps pc (o_lald k) := by
  intro ls st S hr
  obtain ⟨j, st, rfl, r1⟩ := tI_el hr
  obtain ⟨a, st, rfl, r2⟩ := tR_el r1
  obtain ⟨⟨hka, hj⟩, r3⟩ := if_el r2
  obtain ⟨hm, hw⟩ := hk _ _ _ r3
  refine ⟨hm, fun H locs lm a1 a2 a3 a4 a5 => ?_⟩
  obtain ⟨p0, p1, he⟩ := arr_at (t := 1) a1 hka (by omega)
  rw [List.map_cons, List.map_cons, xv_ref p0]
  exact va_lald (f := gL S a) h.1.ex h.by h.1.tb.1 a1.1 (a - 1) 1 he (tys_at _ 1 (by omega)) (vp_inB hj) hd (hw H locs lm a1 a2 a3 a4 a5)
theorem gk_last (h : XM X cc own) (hd : decode cc pc = .ok (.lastore, 1)) (hk : GK X ps (pc + 1) k) : GK X ps pc (o_last k) := by
  intro ls st S hr
  obtain ⟨v, st, rfl, r1⟩ := tL_el hr
  obtain ⟨j, st, rfl, r2⟩ := tI_el r1
  obtain ⟨a, st, rfl, r3⟩ := tR_el r2
  obtain ⟨⟨hka, hj⟩, r4⟩ := if_el r3
  obtain ⟨hm, hw⟩ := hk _ _ _ r4
  refine ⟨hm, fun H locs lm a1 a2 a3 a4 a5 => ?_⟩
  obtain ⟨p0, p1, he⟩ := arr_at (t := 1) a1 hka (by omega)
  rw [List.map_cons, List.map_cons, List.map_cons, xv_ref p0]
  refine va_last (f := gL S a) h.1.ex h.by h.1.tb.1 a1.1 (wl_D _ _ _) a2 (a - 1) 1 he (tys_at _ 1 (by omega)) (vp_inB hj) hd (fun H1 locs1 hP _ hS => hw H1 locs1 lm ?_ hS a3 a4 a5)
  refine HR_set a1 p0 p1 rfl (fun _ => rfl) (fun _ => rfl) (fun _ _ _ => rfl) (fun b i hb => u2_ne (Or.inl hb)) (fun _ _ _ => rfl) ?_ hP
  refine Eq.trans ?_ (ce_arr (S := pL S a j.toNatClampNeg _) (t := 1) (by exact hka)).symm
  show (Sum.inl (xk X 1, gN S a, Sum.inr (Sum.inl _)) : va_E) = Sum.inl (xk X 1, gN S a, Sum.inr (Sum.inl _))
  congr 5
  funext q
  show vp_updL (gL S a) j.toNatClampNeg _ q = u2 S.2.1 a j.toNatClampNeg _ a q
  unfold vp_updL u2 gL
  by_cases e : q = j.toNatClampNeg
  · rw [if_pos e, if_pos ⟨rfl, e⟩]
  · rw [if_neg e, if_neg (fun z => e z.2)]
theorem gk_aald (h : XM X cc own) (hd : decode cc pc = .ok (.aaload, 1)) (hk : GK X ps (pc + 1) k) : GK X ps pc (o_aald k) := by
  intro ls st S hr
  obtain ⟨j, st, rfl, r1⟩ := tI_el hr
  obtain ⟨a, st, rfl, r2⟩ := tR_el r1
  obtain ⟨⟨hka, hj⟩, r3⟩ := if_el r2
  obtain ⟨hm, hw⟩ := hk _ _ _ r3
  refine ⟨hm, fun H locs lm a1 a2 a3 a4 a5 => ?_⟩
  obtain ⟨p0, p1, he⟩ := arr_at (t := 5) a1 hka (by omega)
  rw [List.map_cons, List.map_cons, xv_ref p0]
  have hw := hw H locs lm a1 a2 a3 a4 a5
  rw [List.map_cons, show xv X (.ref (gR S a j.toNatClampNeg)) = va_rf (ro (xb X) (gR S a j.toNatClampNeg)) from (rv_ro _ _).symm] at hw
  exact va_aldq (f := fun q => ro (xb X) (gR S a q)) h.1.ex h.by h.1.tb.1 a1.1 (a - 1) 5 he (tys_at _ 5 (by omega)) (vp_inB hj) hd hw
theorem gk_aast (h : XM X cc own) (hd : decode cc pc = .ok (.aastore, 1)) (hk : GK X ps (pc + 1) k) : GK X ps pc (o_aast k) := by
  intro ls st S hr
  obtain ⟨v, st, rfl, r1⟩ := tR_el hr
  obtain ⟨j, st, rfl, r2⟩ := tI_el r1
  obtain ⟨a, st, rfl, r3⟩ := tR_el r2
  obtain ⟨⟨hka, hj, hkv⟩, r4⟩ := if_el r3
  obtain ⟨hm, hw⟩ := hk _ _ _ r4
  refine ⟨hm, fun H locs lm a1 a2 a3 a4 a5 => ?_⟩
  obtain ⟨p0, p1, he⟩ := arr_at (t := 5) a1 hka (by omega)
  obtain ⟨v0, v1⟩ := a1.live hkv (by omega)
  have hv := wl_get (base := xb X) (ck := xk X) v0 v1
  rw [ce_obj hkv (by omega)] at hv
  rw [List.map_cons, List.map_cons, List.map_cons, xv_ref p0, xv_ref v0]
  refine va_astq (f := fun q => ro (xb X) (gR S a q)) (r := (RX1, TX1, 3)) h.1.ex h.by h.1.tb.1 a1.1 (wl_D _ _ _) a2 (a - 1) 5 (v - 1) 0 he (tys_at _ 5 (by omega)) hv rfl (vp_inB hj) hd (fun H1 locs1 hP _ hS => hw H1 locs1 lm ?_ hS a3 a4 a5)
  refine HR_set a1 p0 p1 rfl (fun _ => rfl) (fun _ => rfl) (fun _ _ _ => rfl) (fun _ _ _ => rfl) (fun b i hb => u2_ne (Or.inl hb)) ?_ hP
  refine Eq.trans ?_ (ce_arr (S := pR S a j.toNatClampNeg _) (t := 5) (by exact hka)).symm
  show (Sum.inl (xk X 5, gN S a, Sum.inr (Sum.inr (Sum.inr (Sum.inr _)))) : va_E) = Sum.inl (xk X 5, gN S a, Sum.inr (Sum.inr (Sum.inr (Sum.inr _))))
  congr 7
  funext q
  show va_up (fun q => ro (xb X) (gR S a q)) j.toNatClampNeg (some (xb X + v)) q = ro (xb X) (u2 S.2.2.1 a j.toNatClampNeg v a q)
  unfold va_up u2 gR
  by_cases e : q = j.toNatClampNeg
  · rw [if_pos e, if_pos ⟨rfl, e⟩]
    cases v with
    | zero => exact absurd v0 (Nat.lt_irrefl 0)
    | succ v => rfl
  · rw [if_neg e, if_neg (fun z => e z.2)]
theorem gk_alen (h : XM X cc own) (hd : decode cc pc = .ok (.arraylength, 1)) (hk : GK X ps (pc + 1) k) : GK X ps pc (o_alen k) := by
  intro ls st S hr
  obtain ⟨a, st, rfl, r1⟩ := tR_el hr
  obtain ⟨⟨hka, hkb⟩, r2⟩ := if_el r1
  obtain ⟨hm, hw⟩ := hk _ _ _ r2
  refine ⟨hm, fun H locs lm a1 a2 a3 a4 a5 => ?_⟩
  obtain ⟨t, ht⟩ : ∃ t, gK S a = 100 + t := ⟨gK S a - 100, by omega⟩
  obtain ⟨p0, p1, he⟩ := arr_at a1 ht (by omega)
  rw [List.map_cons, xv_ref p0]
  exact va_alen h.1.ex h.by h.1.tb.1 a1.1 (a - 1) t he (tys_at _ t (by omega)) rfl hd (hw H locs lm a1 a2 a3 a4 a5)
/-- what is new: the picture -/
theorem HR_new {base : Nat} {D : va_G} {ck : Nat → ClassId} {S S' : St} {H1 : Heap} {c : Nat} {x : va_E} {H : Heap} (h : HR base D ck S H) (hz : gZ S' = gZ S + 1) (hK : ∀ b, gK S' b = if b = gZ S + 1 then c else gK S b) (hN : ∀ b, b ≠ gZ S + 1 → gN S' b = gN S b) (h3 : ∀ b j, b ≠ gZ S + 1 → gI S' b j = gI S b j) (h4 : ∀ b j, b ≠ gZ S + 1 → gL S' b j = gL S b j) (h5 : ∀ b j, b ≠ gZ S + 1 → gR S' b j = gR S b j) (hx : x = ce base ck S' (gZ S + 1)) (hP : va_P D vwCl (wl base ck S ++ [(base + (gZ S + 1), x)]) H1) : HR base D ck S' H1 := by
  rw [wl_push (S' := S') hz (fun b hb => by
    have e : b ≠ gZ S + 1 := by omega
    exact ce_cong (by rw [hK, if_neg e]) (hN b e) (fun j => h3 b j e) (fun j => h4 b j e) (fun j => h5 b j e)) hx] at hP
  refine ⟨hP, fun b hb => ?_⟩
  rw [hz] at hb
  rw [hK, if_neg (by omega)]
  exact h.2 b (by omega)
/-- the place of a new cell: the next one -/
theorem new_at {S : St} {H H1 : Heap} {q : Nat} {x : va_E} (h : XO X) (a1 : HR (xb X) (xD X) (xk X) S H) (a4 : gZ (x0 X) ≤ gZ S) (hP : va_P (xD X) vwCl (wl (xb X) (xk X) S ++ [(q, x)]) H1) (hD : va_D (xA X) (wl (xb X) (xk X) S ++ [(q, x)])) (hs : H1.size ≤ (xs X).heap.size + (gZ S - gZ (x0 X) + 1)) : q = xb X + (gZ S + 1) := by
  have hsz := h.sz
  have hlast : (wl (xb X) (xk X) S ++ [(q, x)])[gZ S]? = some (q, x) := by
    rw [List.getElem?_append_right (by rw [wl_len]; exact Nat.le_refl _), wl_len, Nat.sub_self]; rfl
  have hlt : q < H1.size := (hP _ _ hlast).lt
  have hA : xb X + 1 ≤ q := hD.2 _ _ hlast
  have hq : q ≤ xb X + 1 + gZ S := by omega
  by_cases e : q = xb X + (gZ S + 1)
  · exact e
  · exfalso
    have h1 : 0 < q - xb X := by omega
    have h2 : q - xb X ≤ gZ S := by omega
    have hg := wl_get (base := xb X) (ck := xk X) h1 h2
    have hg2 : (wl (xb X) (xk X) S ++ [(q, x)])[q - xb X - 1]? = some (xb X + (q - xb X), ce (xb X) (xk X) S (q - xb X)) := by
      rw [List.getElem?_append_left (by rw [wl_len]; omega)]; exact hg
    have := hD.1 _ _ _ _ hg2 hlast (by show xb X + (q - xb X) = q; omega)
    omega
theorem A_new (h : XO X) : ∀ q, (xs X).heap.size ≤ q → xA X q := fun q hq => by
  have := h.sz
  show xb X + 1 ≤ q
  omega
theorem gk_new {c i : Nat} {C : String} {T : u_T} (h : XM X cc own) (hc : CK c C T) (hd : decode cc pc = .ok (.new i, 3)) (h1 : Cond.classLink own i C ∈ T0) (h2 : Cond.instantiable C (nC c) ∈ T0) (h3 : Cond.initialized C ∈ T0) (hdf : ∀ base j, j < nC c → defaultValue (tyC c j) = fv base (nw (fun _ _ => 0, fun _ _ => 0, fun _ _ => 0, fun _ => (0, 0), 0, 0) c (nC c)) 1 (tyC c j) j) (hk : GK X ps (pc + 3) k) : GK X ps pc (o_new c k) := by
  intro ls st S hr
  obtain ⟨hm, hw⟩ := hk _ _ _ hr
  have hm' : gZ S + 1 ≤ gZ (xf X) ∧ gU S + nC c ≤ gU (xf X) := hm
  refine ⟨⟨by omega, by omega⟩, fun H locs lm a1 a2 a3 a4 a5 => ?_⟩
  have hrm := h.1.rm
  have hz0 : ∀ j, j < nC c → defaultValue (tyC c j) = fv (xb X) (nw S c (nC c)) (gZ S + 1) (tyC c j) j := fun j hj => by
    rw [hdf (xb X) j hj]
    unfold fv
    simp only [gI_nw, gL_nw, gR_nw, if_pos rfl]
    rfl
  refine va_new h.1.ex h.by h.1.ts hc.2.2.1 (tyC c) hc.2.2.2.1 h.ow (h.1.ts _ h1) (h.1.ts _ h2) (h.1.ts _ h3) h.1.tb.1 a1.1 (wl_D _ _ _) a2 (A_new h.1) hc.1 (fs := fl (xb X) (nw S c (nC c)) (gZ S + 1) c) (fun j hj => ?_) (by omega) (by omega) hd (fun q H1 hP hD hS => W_sz fun hs => ?_)
  · rw [hz0 j hj]
    show _ = (fl (xb X) (nw S c (nC c)) (gZ S + 1) c).getD j .null
    rw [List.getD_eq_getElem?_getD, fl_get hj]
    rfl
  · have hq := new_at h.1 a1 a4 hP hD (by omega)
    subst hq
    have hk1 : gK (nw S c (nC c)) (gZ S + 1) = c := by rw [gK_nw, if_pos rfl]
    have hh := HR_new (S' := nw S c (nC c)) a1 rfl (fun b => gK_nw S c (nC c) b) (fun b hb => by rw [gN_nw, if_neg hb]) (fun b j hb => by rw [gI_nw, if_neg hb]) (fun b j hb => by rw [gL_nw, if_neg hb]) (fun b j hb => by rw [gR_nw, if_neg hb]) (by rw [ce_obj hk1 hc.2.1]) hP
    have hw := hw H1 locs lm hh hS a3 (by rw [gZ_nw]; omega) (by rw [gU_nw]; omega)
    rw [gZ_nw, gU_nw, List.map_cons, xv_ref (by omega)] at hw
    have e1 : gZ S + 1 - gZ (x0 X) = gZ S - gZ (x0 X) + 1 := by omega
    have e2 : gU S + nC c - gU (x0 X) = gU S - gU (x0 X) + nC c := by omega
    rw [e1, e2] at hw
    exact hw
theorem gk_newa {t : Nat} {aty : ArrayType} (h : XM X cc own) (ht : t < 5) (hd : decode cc pc = .ok (.newarray aty, 2)) (hty : newarray.typeOf aty = tyK t) (h1 : Cond.arrayClass (newarray.typeOf aty) ∈ T0) (hk : GK X ps (pc + 2) k) : GK X ps pc (o_newa t k) := by
  intro ls st S hr
  obtain ⟨n, st, rfl, r1⟩ := tI_el hr
  obtain ⟨⟨hn0, hn1⟩, r2⟩ := if_el r1
  obtain ⟨hm, hw⟩ := hk _ _ _ r2
  have hm' : gZ S + 1 ≤ gZ (xf X) ∧ gU S + n.toNatClampNeg ≤ gU (xf X) := hm
  refine ⟨⟨by omega, by omega⟩, fun H locs lm a1 a2 a3 a4 a5 => ?_⟩
  have hrm := h.1.rm
  have hcl : n.toNatClampNeg = n.toInt.toNat := rfl
  have hnn : ¬ n < 0 := by rw [Int32.lt_iff_toInt_lt, Int32.toInt_zero]; omega
  have hb : n.toNatClampNeg * componentBytes (tyK t) ≤ 536870912 := by
    have : componentBytes (tyK t) ≤ 8 := by
      rcases (show t = 0 ∨ t = 1 ∨ t = 2 ∨ t = 3 ∨ t = 4 by omega) with rfl | rfl | rfl | rfl | rfl <;> decide
    calc n.toNatClampNeg * componentBytes (tyK t) ≤ 70000 * 8 := Nat.mul_le_mul (by omega) this
      _ ≤ 536870912 := by decide
  refine va_newa h.1.ex h.by (h.1.ts _ h1) hty h.1.tb.1 a1.1 (wl_D _ _ _) a2 (A_new h.1) (a0 := (n.toNatClampNeg, af (xb X) (nw S (100 + t) n.toNatClampNeg) (gZ S + 1) t)) (fun cA => ?_) hnn rfl hb (by omega) (by omega) hd (fun q cA H1 hKK hP hD hS => W_sz fun hs => ?_)
  · by_cases e1 : t = 1
    · subst e1
      show arrV cA _ (fun j => Value.long (gL (nw S 101 n.toNatClampNeg) (gZ S + 1) j)) = _
      congr 1
      funext j
      rw [gL_nw, if_pos rfl]
      rfl
    · rw [af_i e1 (by omega)]
      show arrV cA _ (fun j => Value.int (gI (nw S (100 + t) n.toNatClampNeg) (gZ S + 1) j)) = _
      congr 1
      funext j
      rw [gI_nw, if_pos rfl]
      rcases (show t = 0 ∨ t = 2 ∨ t = 3 ∨ t = 4 by omega) with rfl | rfl | rfl | rfl <;> rfl
  · have hq := new_at h.1 a1 a4 hP hD (by omega)
    subst hq
    have hcA : cA = xk X t := by
      have g1 := (hKK.2 6 (cA, tyK t) rfl).2
      have g2 := (h.1.tb.1.2 t _ (tys_at _ t (by omega))).2
      rcases (show t = 0 ∨ t = 1 ∨ t = 2 ∨ t = 3 ∨ t = 4 by omega) with rfl | rfl | rfl | rfl | rfl <;> exact Option.some.inj ((g1 : (xs X).vm.findClass _ = some cA).symm.trans g2)
    subst hcA
    have hk1 : gK (nw S (100 + t) n.toNatClampNeg) (gZ S + 1) = 100 + t := by rw [gK_nw, if_pos rfl]
    have hn1 : gN (nw S (100 + t) n.toNatClampNeg) (gZ S + 1) = n.toNatClampNeg := by rw [gN_nw, if_pos rfl]
    have hh := HR_new (S' := nw S (100 + t) n.toNatClampNeg) a1 rfl (fun b => gK_nw S _ _ b) (fun b hb => by rw [gN_nw, if_neg hb]) (fun b j hb => by rw [gI_nw, if_neg hb]) (fun b j hb => by rw [gL_nw, if_neg hb]) (fun b j hb => by rw [gR_nw, if_neg hb]) (by rw [ce_arr hk1, hn1]) hP
    have hw := hw H1 locs lm hh hS a3 (by rw [gZ_nw]; omega) (by rw [gU_nw]; omega)
    rw [gZ_nw, gU_nw, List.map_cons, xv_ref (by omega)] at hw
    have e1 : gZ S + 1 - gZ (x0 X) = gZ S - gZ (x0 X) + 1 := by omega
    have e2 : gU S + n.toNatClampNeg - gU (x0 X) = gU S - gU (x0 X) + n.toNatClampNeg := by omega
    rw [e1, e2] at hw
    exact hw
end GKA
end
section
/-! copies, natives, switches, ends of methods, calls -/
theorem catS_map (base : Nat) (ad : Nat → Option Nat) (st : List Value) : ((st.map (cv base ad)).map fun v => v.category).sum = catS st := by
  induction st with
  | nil => rfl
  | cons v vs ih =>
    simp only [List.map_cons, List.sum_cons, catS, ih]
    congr 1
    cases v with
    | ref a => cases a <;> rfl
    | retAddr k =>
      show (va_rf (ad k)).category = 1
      cases ad k <;> rfl
    | _ => rfl
theorem SX.moved {ad : Nat → Option Nat} {A : Nat → Prop} {u U : State} {H H1 : Heap} (hvm : u.vm.Alike U.vm) (hR : ∀ q, vk_R "TruceWall$Reader" 157 vk_words q u → vk_R "TruceWall$Reader" 157 vk_words q U) (hq : ∀ a : Nat, a < H.size → ¬ A a → H1[a]? = H[a]?) (h : SX ad A u H) : SX ad A U H1 := by
  obtain ⟨⟨q, qv, e1, e2, h1, h2, h3, h4, h5⟩, h6, h7⟩ := h
  exact ⟨⟨q, qv, e1, e2, hR q h1, (h2.moved hvm).kept hq, (h3.moved hvm).kept hq, (h4.moved hvm).kept hq, (h5.moved hvm).kept hq⟩, (h6.moved hvm).kept hq, (h7.moved hvm).kept hq⟩
theorem TB.same {base : Nat} {Hb : Heap} {D : va_G} {ck : Nat → ClassId} {ad : Nat → Option Nat} {u U : State} (hvm : u.vm = U.vm) (hh : U.heap = u.heap) (h : TB base Hb D ck ad u) : TB base Hb D ck ad U := by
  refine ⟨va_K.moved (by rw [hvm]; exact Vm.Alike.refl _) h.1, fun w hw => ?_, va_AO.moved (by rw [hvm]; exact Vm.Alike.refl _) h.2.2.1, SX.moved (by rw [hvm]; exact Vm.Alike.refl _) (fun q hq => vk_R.same hvm.symm hq) (fun a _ _ => by rw [hh]) h.2.2.2⟩
  have hz := h.2.1 w hw
  have : w.onTables = true := by
    revert hz hw
    simp only [nwl, List.mem_cons, List.mem_nil_iff, or_false]
    rintro (rfl | rfl | rfl | rfl | rfl | rfl | rfl | rfl) <;> intro _ <;> rfl
  exact va_Nw.same this hvm hz
theorem TB.warm {base : Nat} {Hb : Heap} {D : va_G} {ck : Nat → ClassId} {ad : Nat → Option Nat} {s U : State} (hW : s.WarmedH U.vm) (hq : ∀ a : Nat, a < s.heap.size → ¬ base + 1 ≤ a → U.heap[a]? = s.heap[a]?) (h : TB base Hb D ck ad s) : TB base Hb D ck ad U := by
  refine ⟨va_K.moved hW.alike h.1, fun w hw => ?_, va_AO.moved hW.alike h.2.2.1, SX.moved hW.alike (fun q hq => vk_R.warm hW hq) hq h.2.2.2⟩
  have hz := h.2.1 w hw
  revert hz hw
  simp only [nwl, List.mem_cons, List.mem_nil_iff, or_false]
  rintro (rfl | rfl | rfl | rfl | rfl | rfl | rfl | rfl) <;> intro hz
  · exact va_Nw.warmM hW hz
  · exact va_Nw.warmM hW hz
  · exact va_Nw.warmM hW hz
  · exact va_Nw.warmM hW hz
  · exact va_Nw.warmM hW hz
  · exact va_Nw.warmM hW hz
  · exact va_Nw.warmM hW hz
  · exact va_Nw.warmC hW hz
def PRE (base : Nat) (Hb : Heap) (D : va_G) (ck : Nat → ClassId) (ad : Nat → Option Nat) (S : St) (U : State) : Prop := U.heap.size = base + 1 + gZ S ∧ (∀ q : Nat, q ≤ base → U.heap[q]? = Hb[q]?) ∧ HR base D ck S U.heap ∧ TB base Hb D ck ad U
def QC (base : Nat) (D : va_G) (ck : Nat → ClassId) (ad : Nat → Option Nat) (r : Option Value) (S : St) : Array Value → State → Outcome → State → Prop := fun _ st oc t => oc = .returned (r.map (cv base ad)) ∧ HR base D ck S t.heap ∧ va_F (fun q => base + 1 ≤ q) st t
abbrev rmD (d a b : Nat) : Room := { frames := d + 1, cells := a, slots := b, locals := 64 * (d + 1) }
def MT (l : Launch) (base : Nat) (Hb : Heap) (D : va_G) (ck : Nat → ClassId) (ad : Nat → Option Nat) (d : Nat) (y : MethodName) (bytes : ByteArray) (maxL : Nat) (ret : Option FieldType) (as : List Value) (S : St) (r : Option Value) (S' : St) : Prop :=
  Met l y (.code y bytes maxL ret :: T0) (rmD d (gZ S' - gZ S) (gU S' - gU S)) (va_Pc (as.map (cv base ad)) (PRE base Hb D ck ad S)) (QC base D ck ad r S') (gZ S' - gZ S) (gU S' - gU S) (fun q => base + 1 ≤ q)
abbrev Mtab : Type := List (MethodName × ByteArray × Nat × Option FieldType)
/-- the calls that an oracle answers are what the machine does, with d frames at most below them -/
def OS (tab : Mtab) (l : Launch) (base : Nat) (Hb : Heap) (D : va_G) (ck : Nat → ClassId) (ad : Nat → Option Nat) (orc : Orc) (d : Nat) : Prop :=
  ∀ (i : Nat) (y : MethodName) (bytes : ByteArray) (maxL : Nat) (ret : Option FieldType), tab[i]? = some (y, bytes, maxL, ret) → ∀ (as : List Value) (S : St) (r : Option Value) (S' : St), orc i as S = some (r, S') → (gZ S ≤ gZ S' ∧ gU S ≤ gU S') ∧ MT l base Hb D ck ad d y bytes maxL ret as S r S'
abbrev xOS (tab : Mtab) (X : Cx) (orc : Orc) (d : Nat) : Prop := OS tab (xl X) (xb X) (xH X) (xD X) (xk X) (xS X) orc d
/-- how a method of the table ends -/
def XR (X : Cx) (ret : Option FieldType) : Prop := xQ X = MQ (xw X) (QC (xb X) (xD X) (xk X) (xS X) (xr X) (xf X)) (xa X) (xs X) (gZ (xf X) - gZ (x0 X)) (gU (xf X) - gU (x0 X)) (xA X) ∧ (xh X).sig.returnType = ret
section GKE
variable {X : Cx} {ps : Nat → Nat} {pc : Nat} {k kt kf : K} {cc : ByteArray} {own : String}
theorem rI_el {st : List Value} {f : Int32 → Option Rs} (h : RW X ps (rI st f)) : ∃ v, st = [.int v] ∧ RW X ps (f v) := by
  unfold rI at h
  split at h
  · exact ⟨_, rfl, h⟩
  · exact h.elim
theorem rL_el {st : List Value} {f : Int64 → Option Rs} (h : RW X ps (rL st f)) : ∃ v, st = [.long v] ∧ RW X ps (f v) := by
  unfold rL at h
  split at h
  · exact ⟨_, rfl, h⟩
  · exact h.elim
theorem rR_el {st : List Value} {f : Nat → Option Rs} (h : RW X ps (rR st f)) : ∃ v, st = [.ref v] ∧ RW X ps (f v) := by
  unfold rR at h
  split at h
  · exact ⟨_, rfl, h⟩
  · exact h.elim
theorem rV_el {st : List Value} {x : Option Rs} (h : RW X ps (rV st x)) : st = [] ∧ RW X ps x := by
  unfold rV at h
  split at h
  · exact ⟨rfl, h⟩
  · exact h.elim
theorem gk_iret (h : XM X cc own) (hR : XR X (some .int)) (hd : decode cc pc = .ok (.ireturn, 1)) : GK X ps pc o_iret := by
  intro ls st S hr
  obtain ⟨v, rfl, r1⟩ := rI_el hr
  obtain ⟨e1, e2⟩ := Prod.mk.inj (show (some (Value.int v), S) = (xr X, xf X) from r1)
  subst e2
  refine ⟨⟨Nat.le_refl _, Nat.le_refl _⟩, fun H locs lm a1 a2 a3 a4 a5 => ?_⟩
  rw [hR.1]
  exact W.iret (v := v) h.1.ex h.by hR.2 (fun t ht hW => ⟨by rw [← e1]; rfl, by rw [ht]; exact a1, a2.F ht⟩) a2.2.2 hd h.1.lk
theorem gk_zret (h : XM X cc own) (hR : XR X (some .boolean)) (hd : decode cc pc = .ok (.ireturn, 1)) : GK X ps pc o_zret := by
  intro ls st S hr
  obtain ⟨v, rfl, r0⟩ := rI_el hr
  obtain ⟨hv, r1⟩ := if_el r0
  obtain ⟨e1, e2⟩ := Prod.mk.inj (show (some (Value.int v), S) = (xr X, xf X) from r1)
  subst e2
  refine ⟨⟨Nat.le_refl _, Nat.le_refl _⟩, fun H locs lm a1 a2 a3 a4 a5 => ?_⟩
  rw [hR.1]
  exact W.zret (v := v) h.1.ex h.by hR.2 (by rcases hv with rfl | rfl <;> decide) (fun t ht hW => ⟨by rw [← e1]; rfl, by rw [ht]; exact a1, a2.F ht⟩) a2.2.2 hd h.1.lk
theorem gk_lret (h : XM X cc own) (hR : XR X (some .long)) (hd : decode cc pc = .ok (.lreturn, 1)) : GK X ps pc o_lret := by
  intro ls st S hr
  obtain ⟨v, rfl, r1⟩ := rL_el hr
  obtain ⟨e1, e2⟩ := Prod.mk.inj (show (some (Value.long v), S) = (xr X, xf X) from r1)
  subst e2
  refine ⟨⟨Nat.le_refl _, Nat.le_refl _⟩, fun H locs lm a1 a2 a3 a4 a5 => ?_⟩
  rw [hR.1]
  exact W.lret (v := v) h.1.ex h.by hR.2 (fun t ht hW => ⟨by rw [← e1]; rfl, by rw [ht]; exact a1, a2.F ht⟩) a2.2.2 hd h.1.lk
theorem gk_aret {rt : FieldType} (h : XM X cc own) (hR : XR X (some rt)) (hrt : (∃ n, rt = .object n) ∨ ∃ t, rt = .array t) (hd : decode cc pc = .ok (.areturn, 1)) : GK X ps pc o_aret := by
  intro ls st S hr
  obtain ⟨v, rfl, r1⟩ := rR_el hr
  obtain ⟨e1, e2⟩ := Prod.mk.inj (show (some (Value.ref v), S) = (xr X, xf X) from r1)
  subst e2
  refine ⟨⟨Nat.le_refl _, Nat.le_refl _⟩, fun H locs lm a1 a2 a3 a4 a5 => ?_⟩
  rw [hR.1]
  exact W.aret (v := xv X (.ref v)) h.1.ex h.by hR.2 hrt (by cases v with
    | zero => exact Or.inl rfl
    | succ v => exact Or.inr ⟨_, rfl⟩) (fun t ht hW => ⟨by rw [← e1]; rfl, by rw [ht]; exact a1, a2.F ht⟩) a2.2.2 hd h.1.lk
theorem gk_vret (h : XM X cc own) (hR : XR X none) (hd : decode cc pc = .ok (.return_, 1)) : GK X ps pc o_vret := by
  intro ls st S hr
  obtain ⟨rfl, r1⟩ := rV_el hr
  obtain ⟨e1, e2⟩ := Prod.mk.inj (show ((none : Option Value), S) = (xr X, xf X) from r1)
  subst e2
  refine ⟨⟨Nat.le_refl _, Nat.le_refl _⟩, fun H locs lm a1 a2 a3 a4 a5 => ?_⟩
  rw [hR.1]
  exact W.vret h.1.ex h.by hR.2 (fun t ht hW => ⟨by rw [← e1]; rfl, by rw [ht]; exact a1, a2.F ht⟩) a2.2.2 hd h.1.lk
theorem gk_ifnull {off : Int} {tgt : Nat} (h : XM X cc own) (hd : decode cc pc = .ok (.ifnull off, 3)) (ht : (pc : Int) + off = (tgt : Int)) (hkt : GK X ps tgt kt) (hkf : GK X ps (pc + 3) kf) : GK X ps pc (o_ifnull kt kf) := by
  intro ls st S hr
  obtain ⟨x, st, rfl, r1⟩ := tR_el hr
  cases x with
  | zero =>
    have r9 := r1
    rw [if_pos rfl] at r9
    obtain ⟨hm, hw⟩ := hkt _ _ _ r9
    exact ⟨hm, fun H locs lm a1 a2 a3 a4 a5 => lv_ifnullN h.1.ex h.by hd ht (hw H locs lm a1 a2 a3 a4 a5)⟩
  | succ x =>
    have r9 := r1
    rw [if_neg (by omega)] at r9
    obtain ⟨hm, hw⟩ := hkf _ _ _ r9
    exact ⟨hm, fun H locs lm a1 a2 a3 a4 a5 => lv_ifnull h.1.ex h.by hd (hw H locs lm a1 a2 a3 a4 a5)⟩
theorem gk_ifnonnull {off : Int} {tgt : Nat} (h : XM X cc own) (hd : decode cc pc = .ok (.ifnonnull off, 3)) (ht : (pc : Int) + off = (tgt : Int)) (hkt : GK X ps tgt kt) (hkf : GK X ps (pc + 3) kf) : GK X ps pc (o_ifnull kf kt) := by
  intro ls st S hr
  obtain ⟨x, st, rfl, r1⟩ := tR_el hr
  cases x with
  | zero =>
    have r9 := r1
    rw [if_pos rfl] at r9
    obtain ⟨hm, hw⟩ := hkf _ _ _ r9
    exact ⟨hm, fun H locs lm a1 a2 a3 a4 a5 => lv_ifnonnullN h.1.ex h.by hd (hw H locs lm a1 a2 a3 a4 a5)⟩
  | succ x =>
    have r9 := r1
    rw [if_neg (by omega)] at r9
    obtain ⟨hm, hw⟩ := hkt _ _ _ r9
    exact ⟨hm, fun H locs lm a1 a2 a3 a4 a5 => lv_ifnonnull h.1.ex h.by hd ht (hw H locs lm a1 a2 a3 a4 a5)⟩
theorem ro_inj {base x y : Nat} : ro base x = ro base y ↔ x = y := by
  cases x <;> cases y <;> simp [ro]
theorem gk_acmpne {off : Int} {tgt : Nat} (h : XM X cc own) (hd : decode cc pc = .ok (.if_acmp .ne off, 3)) (ht : (pc : Int) + off = (tgt : Int)) (hkt : GK X ps tgt kt) (hkf : GK X ps (pc + 3) kf) : GK X ps pc (o_aeq kf kt) := by
  intro ls st S hr
  obtain ⟨y, st, rfl, r1⟩ := tR_el hr
  obtain ⟨x, st, rfl, r2⟩ := tR_el r1
  have e : ∀ z : Nat, xv X (.ref z) = va_rf (ro (xb X) z) := fun z => (rv_ro _ _).symm
  by_cases hc : x = y
  · have r9 := r2
    rw [if_pos hc] at r9
    obtain ⟨hm, hw⟩ := hkf _ _ _ r9
    refine ⟨hm, fun H locs lm a1 a2 a3 a4 a5 => ?_⟩
    rw [List.map_cons, List.map_cons, e, e]
    exact lv_acmp_ne h.1.ex h.by hd ht (fun q => absurd (ro_inj.mpr hc) q) (fun q => hw H locs lm a1 a2 a3 a4 a5)
  · have r9 := r2
    rw [if_neg hc] at r9
    obtain ⟨hm, hw⟩ := hkt _ _ _ r9
    refine ⟨hm, fun H locs lm a1 a2 a3 a4 a5 => ?_⟩
    rw [List.map_cons, List.map_cons, e, e]
    exact lv_acmp_ne h.1.ex h.by hd ht (fun q => hw H locs lm a1 a2 a3 a4 a5) (fun q => absurd (ro_inj.mp q) hc)
/-- a table of cases from lo on, by its offsets; the rest goes on at the default -/
theorem gk_tsw {dflt lo hi : Int} {offs : Array Int} {len td : Nat} {kd : K} {cs : List (Int32 × K)} (h : XM X cc own) (hd : decode cc pc = .ok (.tableswitch dflt lo hi offs, len)) (htd : (pc : Int) + dflt = (td : Int)) (hkd : GK X ps td kd)
    (hcs : ∀ q ∈ cs, ∃ (tgt : Nat) (off : Int), ¬ q.1.toInt < lo ∧ ¬ hi < q.1.toInt ∧ offs[(q.1.toInt - lo).toNat]? = some off ∧ (pc : Int) + off = (tgt : Int) ∧ GK X ps tgt q.2) (hout : ∀ x : Int32, (∀ q ∈ cs, x ≠ q.1) → x.toInt < lo ∨ hi < x.toInt) : GK X ps pc (o_sw cs kd) := by
  intro ls st S hr
  obtain ⟨x, st, rfl, r1⟩ := tI_el hr
  by_cases hx : ∃ q ∈ cs, x = q.1
  · have key : ∀ cs : List (Int32 × K), (∃ q ∈ cs, x = q.1) → ∃ q ∈ cs, x = q.1 ∧ swc x ls st S cs kd = q.2 ls st S := by
      intro cs
      induction cs with
      | nil => rintro ⟨q, hq, -⟩; cases hq
      | cons c cs ih =>
        rintro ⟨q, hq, e⟩
        by_cases e2 : x = c.1
        · refine ⟨c, List.mem_cons_self, e2, ?_⟩
          obtain ⟨v, kk⟩ := c
          simp only [swc]
          rw [if_pos e2]
        · rcases List.mem_cons.mp hq with rfl | hq
          · exact absurd e e2
          · obtain ⟨q', h1, h2, h3⟩ := ih ⟨q, hq, e⟩
            refine ⟨q', List.mem_cons_of_mem _ h1, h2, ?_⟩
            obtain ⟨v, kk⟩ := c
            simp only [swc]
            rw [if_neg e2, h3]
    obtain ⟨q, hq, e, hs⟩ := key cs hx
    obtain ⟨tgt, off, g1, g2, g3, g4, g5⟩ := hcs q hq
    rw [hs] at r1
    obtain ⟨hm, hw⟩ := g5 _ _ _ r1
    rw [← e] at g1 g2 g3
    exact ⟨hm, fun H locs lm a1 a2 a3 a4 a5 => lv_tableIn h.1.ex h.by hd g1 g2 g3 g4 (hw H locs lm a1 a2 a3 a4 a5)⟩
  · have hn : ∀ q ∈ cs, x ≠ q.1 := fun q hq e => hx ⟨q, hq, e⟩
    have key : ∀ cs : List (Int32 × K), (∀ q ∈ cs, x ≠ q.1) → swc x ls st S cs kd = kd ls st S := by
      intro cs
      induction cs with
      | nil => intro _; rfl
      | cons c cs ih =>
        intro hh
        obtain ⟨v, kk⟩ := c
        simp only [swc]
        rw [if_neg (hh (v, kk) List.mem_cons_self), ih (fun q hq => hh q (List.mem_cons_of_mem _ hq))]
    rw [key cs hn] at r1
    obtain ⟨hm, hw⟩ := hkd _ _ _ r1
    exact ⟨hm, fun H locs lm a1 a2 a3 a4 a5 => lv_tableOut h.1.ex h.by hd (hout x hn) htd (hw H locs lm a1 a2 a3 a4 a5)⟩
theorem gk_obj {i : Nat} (h : XM X cc own) (hd : decode cc pc = .ok (.invokespecial i, 3)) (h1 : Cond.methodLink own i objectInit ∈ T0) (h2 : Cond.instanceMethod objectInit ∈ T0) (h3 : Cond.code objectInit ⟨#[0xb1]⟩ 1 none ∈ T0) (hk : GK X ps (pc + 3) k) : GK X ps pc (o_obj k) := by
  intro ls st S hr
  obtain ⟨a, st, rfl, r1⟩ := tR_el hr
  obtain ⟨ha, r2⟩ := fi_el r1
  obtain ⟨h8, r3⟩ := c8_el r2
  obtain ⟨hm, hw⟩ := hk _ _ _ r3
  refine ⟨hm, fun H locs lm a1 a2 a3 a4 a5 => ?_⟩
  have hrf := h.1.rf
  rw [List.map_cons, xv_ref (Nat.pos_of_ne_zero ha)]
  refine W.objInit h.1.ex h.by h.ow (h.1.ts _ h1) (h.1.ts _ h2) (h.1.ts _ h3) rfl (by rw [h.1.ml]; exact a3.1) rfl hd hrf.1 ?_ (hw H locs lm a1 a2 a3 a4 a5)
  have := catS_map (xb X) (xS X) st
  show 2 * 0 + _ + 12 ≤ _
  rw [this]
  omega
theorem gk_min {i : Nat} (h : XM X cc own) (hd : decode cc pc = .ok (.invokestatic i, 3)) (h1 : Cond.methodLink own i Lib.Math.min.name ∈ T0) (h2 : Cond.static Lib.Math.min.name ∈ T0) (h3 : Cond.initialized "java/lang/Math" ∈ T0) (h4 : Cond.code Lib.Math.min.name Lib.Math.min.code 2 (some .int) ∈ T0) (hk : GK X ps (pc + 3) k) : GK X ps pc (o_min k) := by
  intro ls st S hr
  obtain ⟨y, st, rfl, r1⟩ := tI_el hr
  obtain ⟨x, st, rfl, r2⟩ := tI_el r1
  obtain ⟨h8, r3⟩ := c8_el r2
  obtain ⟨hm, hw⟩ := hk _ _ _ r3
  refine ⟨hm, fun H locs lm a1 a2 a3 a4 a5 => ?_⟩
  have hrf := h.1.rf
  have hrm := h.1.rm
  have := catS_map (xb X) (xS X) st
  exact va_mmin h.1.ex h.by (by rw [h.1.ml]; exact a3.1.symm) h.ow (h.1.ts _ h1) (h.1.ts _ h2) (h.1.ts _ h3) (h.1.ts _ h4) hrf.1 (by rw [this]; omega) (by omega) (by omega) hd (hw H locs lm a1 a2 a3 a4 a5)
end GKE
end
